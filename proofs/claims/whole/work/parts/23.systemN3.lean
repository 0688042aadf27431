set_option maxRecDepth 100000 in
set_option maxHeartbeats 4000000 in
theorem k_X3_widestBorne__59 {l : Launch} {D : va_G} {a : Nat → Nat} {cI cS : ClassId} (hI : ∀ σ : St, va_D (AN a) (cN a cI cS σ)) {σ : St} {x1 x2 : Int32} {r : Int32 × St} (h : f_X3_widestBorne__59 σ x1 x2 = some r) : Kc (SN l D a cI cS) yX3_widestBorne cX3_widestBorne 4 (some .int) 5 [Value.ref (a 59), Value.int x1, Value.int x2] σ r := by
  refine enter (own := RX3) (o := f_X3_widestBorne__59 σ x1 x2) (plainFor_of_name (by decide +kernel)) rfl (Nat.le_of_ble_eq_true rfl) hI wk_X3_widestBorne.1 h (fun Γ hRT => ?_)
  show G _ Γ _ _ _ _ _ _ σ [((0 : Nat), Value.ref (a 59)), ((1 : Nat), Value.int x1), ((2 : Nat), Value.int x2)] 0 []
  unfold f_X3_widestBorne__59
  refine g_bipush (pc := 0) (v := 6) dX3_widestBorne_0 (by decide) ?_
  refine g_istore_n (pc := 2) [1, 2, 3, 0] (lv1 := [(0, Value.ref (a 59)), (1, Value.int x1), (2, Value.int x2), (3, Value.int (6 : Int32))]) dX3_widestBorne_2 rfl (by decide) rfl ?_
  refine g_lq1 (pc := 3) (lf := fun x4 => [((0 : Nat), Value.ref (a 59)), ((1 : Nat), Value.int x1), ((2 : Nat), Value.int x2), ((3 : Nat), Value.int x4)]) (sf := fun x4 => ([] : List Value)) (fun k3 hk3 s5 x4 => ?_) 100000 σ _
  show G _ Γ _ _ _ _ _ _ s5 [((0 : Nat), Value.ref (a 59)), ((1 : Nat), Value.int x1), ((2 : Nat), Value.int x2), ((3 : Nat), Value.int x4)] 3 ([] : List Value)
  refine g_iload_n (pc := 3) 3 dX3_widestBorne_3 rfl rfl ?_
  refine g_if_lt (pc := 4) (tgt := 25) dX3_widestBorne_4 (by decide) ?_ ?_
  · refine g_bipush (pc := 25) (v := -4) dX3_widestBorne_25 (by decide) ?_
    exact g_iret (pc := 27) hRT dX3_widestBorne_27
  · refine g_aload_n (pc := 7) 0 dX3_widestBorne_7 rfl rfl ?_
    refine g_iload_n (pc := 8) 1 dX3_widestBorne_8 rfl rfl ?_
    refine g_iload_n (pc := 9) 3 dX3_widestBorne_9 rfl rfl ?_
    refine g_cVi (pc := 10) 59 (As := [Value.int x1, Value.int x4]) (fun r2 h2 => k_X3_burden__59 hI h2) wk_X3_burden wv_X3_burden bw_36_12 cN_59 rfl (by decide) (by decide) rfl rfl (Nat.le_of_ble_eq_true rfl) dX3_widestBorne_10 (fun r6 s7 => ?_)
    refine g_iload_n (pc := 13) 2 dX3_widestBorne_13 rfl rfl ?_
    refine g_icmp_gt (pc := 14) (tgt := 19) dX3_widestBorne_14 (by decide) ?_ ?_
    · refine g_iinc (pc := 19) [1, 2, 3, 0] 3 (n1 := -1) (lv1 := fun x8 => [(0, Value.ref (a 59)), (1, Value.int x1), (2, Value.int x2), (3, Value.int x8)]) dX3_widestBorne_19 rfl (by decide) (by decide) (fun _ => rfl) (fun x8 => ?_)
      show G _ Γ _ _ _ _ _ _ _ [(0, Value.ref (a 59)), (1, Value.int x1), (2, Value.int x2), (3, Value.int x8)] (19 + 3) _
      refine g_goto (pc := 22) (tgt := 3) dX3_widestBorne_22 (by decide) ?_
      exact hk3 s7 _
    · refine g_iload_n (pc := 17) 3 dX3_widestBorne_17 rfl rfl ?_
      exact g_iret (pc := 18) hRT dX3_widestBorne_18
set_option maxRecDepth 100000 in
set_option maxHeartbeats 4000000 in
theorem k_X10_bears__0 {l : Launch} {D : va_G} {a : Nat → Nat} {cI cS : ClassId} (hI : ∀ σ : St, va_D (AN a) (cN a cI cS σ)) {σ : St} {x1 x2 : Int32} {r : Int32 × St} (h : f_X10_bears__0 σ x1 x2 = some r) : Kc (SN l D a cI cS) yX10_bears cX10_bears 3 (some .int) 6 [Value.ref (a 0), Value.int x1, Value.int x2] σ r := by
  refine enter (own := RX10) (o := f_X10_bears__0 σ x1 x2) (plainFor_of_name (by decide +kernel)) rfl (Nat.le_of_ble_eq_true rfl) hI wk_X10_bears.1 h (fun Γ hRT => ?_)
  show G _ Γ _ _ _ _ _ _ σ [((0 : Nat), Value.ref (a 0)), ((1 : Nat), Value.int x1), ((2 : Nat), Value.int x2)] 0 []
  unfold f_X10_bears__0
  refine g_aload_n (pc := 0) 0 dX10_bears_0 rfl rfl ?_
  refine g_get (pc := 1) 0 cN_0 rfl inlX10 3 (by decide) bw_2_0 rfl dX10_bears_1 ?_
  refine g_iload_n (pc := 4) 1 dX10_bears_4 rfl rfl ?_
  refine g_cVz (pc := 5) 12 (As := [Value.int x1]) (fun r2 h2 => k_X4_hasHouse__12 hI h2) wk_X4_hasHouse wv_X4_hasHouse bw_19_10 cN_12 rfl (by decide) (by decide) rfl rfl (Nat.le_of_ble_eq_true rfl) dX10_bears_5 (fun r3 s4 => ?_)
  refine g_if_eq (pc := 8) (tgt := 21) dX10_bears_8 (by decide) ?_ ?_
  · refine g_iconst (pc := 21) (v := -1) dX10_bears_21 (by decide) ?_
    exact g_iret (pc := 22) hRT dX10_bears_22
  · refine g_iload_n (pc := 11) 2 dX10_bears_11 rfl rfl ?_
    refine g_iconst (pc := 12) (v := 0) dX10_bears_12 (by decide) ?_
    refine g_bipush (pc := 13) (v := 20) dX10_bears_13 (by decide) ?_
    refine g_cSz (pc := 15) (As := [Value.int x2, Value.int (0 : Int32), Value.int (20 : Int32)]) (fun r2 h2 => k_X10_within hI h2) wk_X10_within ws_X10_within bw_12_4 (by decide) (by decide) rfl rfl (Nat.le_of_ble_eq_true rfl) dX10_bears_15 (fun r5 s6 => ?_)
    refine g_if_ne (pc := 18) (tgt := 23) dX10_bears_18 (by decide) ?_ ?_
    · refine g_aload_n (pc := 23) 0 dX10_bears_23 rfl rfl ?_
      refine g_get (pc := 24) 0 cN_0 rfl inlX10 8 (by decide) bw_2_17 rfl dX10_bears_24 ?_
      refine g_iload_n (pc := 27) 1 dX10_bears_27 rfl rfl ?_
      refine g_iload_n (pc := 28) 2 dX10_bears_28 rfl rfl ?_
      refine g_cVi (pc := 29) 59 (As := [Value.int x1, Value.int x2]) (fun r2 h2 => k_X3_widestBorne__59 hI h2) wk_X3_widestBorne wv_X3_widestBorne bw_36_8 cN_59 rfl (by decide) (by decide) rfl rfl (Nat.le_of_ble_eq_true rfl) dX10_bears_29 (fun r7 s8 => ?_)
      exact g_iret (pc := 32) hRT dX10_bears_32
    · refine g_iconst (pc := 21) (v := -1) dX10_bears_21 (by decide) ?_
      exact g_iret (pc := 22) hRT dX10_bears_22
set_option maxRecDepth 100000 in
set_option maxHeartbeats 4000000 in
theorem k_X10_at__57 {l : Launch} {D : va_G} {a : Nat → Nat} {cI cS : ClassId} (hI : ∀ σ : St, va_D (AN a) (cN a cI cS σ)) {σ : St} {x1 : Int32} {r : Int32 × St} (h : f_X10_at__57 σ x1 = some r) : Kc (SN l D a cI cS) yX10_at cX10_at 2 (some .int) 0 [Value.ref (a 57), Value.int x1] σ r := by
  refine enter (own := RX10) (o := f_X10_at__57 σ x1) (plainFor_of_name (by decide +kernel)) rfl (Nat.le_of_ble_eq_true rfl) hI wk_X10_at.1 h (fun Γ hRT => ?_)
  show G _ Γ _ _ _ _ _ _ σ [((0 : Nat), Value.ref (a 57)), ((1 : Nat), Value.int x1)] 0 []
  unfold f_X10_at__57
  refine g_aload_n (pc := 0) 0 dX10_at_0 rfl rfl ?_
  refine g_ifnull (pc := 1) dX10_at_1 ?_
  refine g_jq0 (pc2 := 20) (lf := ([] : List (Nat × Value))) (sf := ([] : List Value)) (fun s3 => ?_) (fun k2 hk2 => ?_)
  · show G _ Γ _ _ _ _ _ _ s3 ([] : List (Nat × Value)) 20 ([] : List Value)
    refine g_iconst (pc := 20) (v := 0) dX10_at_20 (by decide) ?_
    exact g_iret (pc := 21) hRT dX10_at_21
  · refine g_iload_n (pc := 4) 1 dX10_at_4 rfl rfl ?_
    refine g_if_lt (pc := 5) (tgt := 20) dX10_at_5 (by decide) ?_ ?_
    · exact g_lv [] rfl (hk2 σ)
    · refine g_iload_n (pc := 8) 1 dX10_at_8 rfl rfl ?_
      refine g_aload_n (pc := 9) 0 dX10_at_9 rfl rfl ?_
      refine g_alen (pc := 10) 57 0 (v := 16) cN_57 rfl (show Int32.ofNat 16 = 16 by decide) dX10_at_10 ?_
      refine g_icmp_ge (pc := 11) (tgt := 20) dX10_at_11 (by decide) ?_ ?_
      · exact g_lv [] rfl (hk2 σ)
      · refine g_aload_n (pc := 14) 0 dX10_at_14 rfl rfl ?_
        refine g_iload_n (pc := 15) 1 dX10_at_15 rfl rfl ?_
        refine g_iald (pc := 16) 57 cN_57 rfl dX10_at_16 ?_
        refine g_goto (pc := 17) (tgt := 21) dX10_at_17 (by decide) ?_
        exact g_iret (pc := 21) hRT dX10_at_21
set_option maxRecDepth 100000 in
set_option maxHeartbeats 4000000 in
theorem k_X1_sashOf__56 {l : Launch} {D : va_G} {a : Nat → Nat} {cI cS : ClassId} (hI : ∀ σ : St, va_D (AN a) (cN a cI cS σ)) {σ : St} {x1 : Int32} {r : Int32 × St} (h : f_X1_sashOf__56 σ x1 = some r) : Kc (SN l D a cI cS) yX1_sashOf cX1_sashOf 2 (some .int) 1 [Value.ref (a 56), Value.int x1] σ r := by
  refine enter (own := RX1) (o := f_X1_sashOf__56 σ x1) (plainFor_of_name (by decide +kernel)) rfl (Nat.le_of_ble_eq_true rfl) hI wk_X1_sashOf.1 h (fun Γ hRT => ?_)
  show G _ Γ _ _ _ _ _ _ σ [((0 : Nat), Value.ref (a 56)), ((1 : Nat), Value.int x1)] 0 []
  unfold f_X1_sashOf__56
  refine g_aload_n (pc := 0) 0 dX1_sashOf_0 rfl rfl ?_
  refine g_get (pc := 1) 56 cN_56 rfl inlX1 2 (by decide) bw_5_5 rfl dX1_sashOf_1 ?_
  refine g_iload_n (pc := 4) 1 dX1_sashOf_4 rfl rfl ?_
  refine g_cNi (pc := 5) (As := [Value.ref (a 57), Value.int x1]) (fun r2 h2 => k_X10_at__57 hI h2) wk_X10_at ws_X10_at nst_RX1_98 (by decide) (by decide) rfl rfl (Nat.le_of_ble_eq_true rfl) dX1_sashOf_5 (fun r2 s3 => ?_)
  exact g_iret (pc := 8) hRT dX1_sashOf_8
set_option maxRecDepth 100000 in
set_option maxHeartbeats 4000000 in
theorem k_X3_hearsInSpite__59 {l : Launch} {D : va_G} {a : Nat → Nat} {cI cS : ClassId} (hI : ∀ σ : St, va_D (AN a) (cN a cI cS σ)) {σ : St} {x1 x2 x3 x4 : Int32} {r : Int32 × St} (h : f_X3_hearsInSpite__59 σ x1 x2 x3 x4 = some r) : Kc (SN l D a cI cS) yX3_hearsInSpite cX3_hearsInSpite 8 (some .boolean) 4 [Value.ref (a 59), Value.int x1, Value.int x2, Value.int x3, Value.int x4] σ r := by
  refine enter (own := RX3) (o := f_X3_hearsInSpite__59 σ x1 x2 x3 x4) (plainFor_of_name (by decide +kernel)) rfl (Nat.le_of_ble_eq_true rfl) hI wk_X3_hearsInSpite.1 h (fun Γ hRT => ?_)
  show G _ Γ _ _ _ _ _ _ σ [((0 : Nat), Value.ref (a 59)), ((1 : Nat), Value.int x1), ((2 : Nat), Value.int x2), ((3 : Nat), Value.int x3), ((4 : Nat), Value.int x4)] 0 []
  unfold f_X3_hearsInSpite__59
  refine g_jq0 (pc2 := 45) (lf := [((0 : Nat), Value.ref (a 59)), ((1 : Nat), Value.int x1), ((3 : Nat), Value.int x3)]) (sf := ([] : List Value)) (fun s6 => ?_) (fun k5 hk5 => ?_)
  · show G _ Γ _ _ _ _ _ _ s6 [((0 : Nat), Value.ref (a 59)), ((1 : Nat), Value.int x1), ((3 : Nat), Value.int x3)] 45 ([] : List Value)
    refine g_aload_n (pc := 45) 0 dX3_hearsInSpite_45 rfl rfl ?_
    refine g_get (pc := 46) 59 cN_59 rfl inlX3 2 (by decide) bw_5_23 rfl dX3_hearsInSpite_46 ?_
    refine g_iload_n (pc := 49) 1 dX3_hearsInSpite_49 rfl rfl ?_
    refine g_iload_n (pc := 50) 2 dX3_hearsInSpite_50 rfl rfl ?_
    refine g_cVz (pc := 51) 56 (As := [Value.int x1, Value.int x3]) (fun r2 h2 => k_X1_hears__56 hI h2) wk_X1_hears wv_X1_hears bw_30_8 cN_56 rfl (by decide) (by decide) rfl rfl (Nat.le_of_ble_eq_true rfl) dX3_hearsInSpite_51 (fun r7 s8 => ?_)
    refine g_if_ne (pc := 54) (tgt := 59) dX3_hearsInSpite_54 (by decide) ?_ ?_
    · refine g_iconst (pc := 59) (v := 0) dX3_hearsInSpite_59 (by decide) ?_
      refine g_istore (pc := 60) [1, 2, 3, 0] (lv1 := [(0, Value.ref (a 59)), (1, Value.int x1), (3, Value.int x3), (5, Value.int (0 : Int32))]) dX3_hearsInSpite_60 (by decide) rfl ?_
      refine g_lq1 (pc := 62) (lf := fun x10 => [((0 : Nat), Value.ref (a 59)), ((1 : Nat), Value.int x1), ((3 : Nat), Value.int x3), ((5 : Nat), Value.int x10)]) (sf := fun x10 => ([] : List Value)) (fun k9 hk9 s11 x10 => ?_) 100000 s8 _
      show G _ Γ _ _ _ _ _ _ s11 [((0 : Nat), Value.ref (a 59)), ((1 : Nat), Value.int x1), ((3 : Nat), Value.int x3), ((5 : Nat), Value.int x10)] 62 ([] : List Value)
      refine g_iload (pc := 62) 3 dX3_hearsInSpite_62 rfl ?_
      refine g_aload_n (pc := 64) 0 dX3_hearsInSpite_64 rfl rfl ?_
      refine g_get (pc := 65) 59 cN_59 rfl inlX3 0 (by decide) bw_5_21 rfl dX3_hearsInSpite_65 ?_
      refine g_cVi (pc := 68) 12 (As := []) (fun r2 h2 => k_X4_houses__12 hI h2) wk_X4_houses wv_X4_houses bw_31_23 cN_12 rfl (by decide) (by decide) rfl rfl (Nat.le_of_ble_eq_true rfl) dX3_hearsInSpite_68 (fun r12 s13 => ?_)
      refine g_icmp_ge (pc := 71) (tgt := 137) dX3_hearsInSpite_71 (by decide) ?_ ?_
      · refine g_iconst (pc := 137) (v := 1) dX3_hearsInSpite_137 (by decide) ?_
        exact g_zret1 (pc := 138) hRT (by decide) dX3_hearsInSpite_138
      · refine g_aload_n (pc := 74) 0 dX3_hearsInSpite_74 rfl rfl ?_
        refine g_get (pc := 75) 59 cN_59 rfl inlX3 2 (by decide) bw_5_23 rfl dX3_hearsInSpite_75 ?_
        refine g_iload (pc := 78) 3 dX3_hearsInSpite_78 rfl ?_
        refine g_cVi (pc := 80) 56 (As := [Value.int x10]) (fun r2 h2 => k_X1_sashOf__56 hI h2) wk_X1_sashOf wv_X1_sashOf bw_37_23 cN_56 rfl (by decide) (by decide) rfl rfl (Nat.le_of_ble_eq_true rfl) dX3_hearsInSpite_80 (fun r14 s15 => ?_)
        refine g_istore (pc := 83) [1, 2, 3, 4, 0] (lv1 := [(0, Value.ref (a 59)), (1, Value.int x1), (3, Value.int x3), (5, Value.int x10), (6, Value.int r14)]) dX3_hearsInSpite_83 (by decide) rfl ?_
        refine g_aload_n (pc := 85) 0 dX3_hearsInSpite_85 rfl rfl ?_
        refine g_get (pc := 86) 59 cN_59 rfl inlX3 2 (by decide) bw_5_23 rfl dX3_hearsInSpite_86 ?_
        refine g_iload (pc := 89) 3 dX3_hearsInSpite_89 rfl ?_
        refine g_iconst (pc := 91) (v := 0) dX3_hearsInSpite_91 (by decide) ?_
        refine g_iload (pc := 92) 4 dX3_hearsInSpite_92 rfl ?_
        refine g_iconst (pc := 94) (v := 1) dX3_hearsInSpite_94 (by decide) ?_
        refine g_isub (pc := 95) dX3_hearsInSpite_95 ?_
        refine g_mmax (pc := 96) bw_37_18 bw_37_19 bw_37_16 bw_37_20 (by decide) (Nat.le_of_ble_eq_true rfl) dX3_hearsInSpite_96 ?_
        refine g_cVv (pc := 99) 56 (As := [Value.int x10, Value.int (if (0 : Int32) < (r14 - (1 : Int32)) then (r14 - (1 : Int32)) else (0 : Int32))]) (fun r2 h2 => k_X1_reopen__56 hI h2) wk_X1_reopen wv_X1_reopen bw_36_16 cN_56 rfl (by decide) (by decide) rfl rfl (Nat.le_of_ble_eq_true rfl) dX3_hearsInSpite_99 (fun r16 s17 => ?_)
        refine g_aload_n (pc := 102) 0 dX3_hearsInSpite_102 rfl rfl ?_
        refine g_get (pc := 103) 59 cN_59 rfl inlX3 2 (by decide) bw_5_23 rfl dX3_hearsInSpite_103 ?_
        refine g_iload_n (pc := 106) 1 dX3_hearsInSpite_106 rfl rfl ?_
        refine g_iload_n (pc := 107) 2 dX3_hearsInSpite_107 rfl rfl ?_
        refine g_cVz (pc := 108) 56 (As := [Value.int x1, Value.int x3]) (fun r2 h2 => k_X1_hears__56 hI h2) wk_X1_hears wv_X1_hears bw_30_8 cN_56 rfl (by decide) (by decide) rfl rfl (Nat.le_of_ble_eq_true rfl) dX3_hearsInSpite_108 (fun r18 s19 => ?_)
        refine g_istore (pc := 111) [1, 2, 3, 4, 5, 0] (lv1 := [(0, Value.ref (a 59)), (1, Value.int x1), (3, Value.int x3), (5, Value.int x10), (6, Value.int r14), (7, Value.int r18)]) dX3_hearsInSpite_111 (by decide) rfl ?_
        refine g_aload_n (pc := 113) 0 dX3_hearsInSpite_113 rfl rfl ?_
        refine g_get (pc := 114) 59 cN_59 rfl inlX3 2 (by decide) bw_5_23 rfl dX3_hearsInSpite_114 ?_
        refine g_iload (pc := 117) 3 dX3_hearsInSpite_117 rfl ?_
        refine g_iload (pc := 119) 4 dX3_hearsInSpite_119 rfl ?_
        refine g_cVv (pc := 121) 56 (As := [Value.int x10, Value.int r14]) (fun r2 h2 => k_X1_reopen__56 hI h2) wk_X1_reopen wv_X1_reopen bw_36_16 cN_56 rfl (by decide) (by decide) rfl rfl (Nat.le_of_ble_eq_true rfl) dX3_hearsInSpite_121 (fun r20 s21 => ?_)
        refine g_iload (pc := 124) 5 dX3_hearsInSpite_124 rfl ?_
        refine g_if_ne (pc := 126) (tgt := 131) dX3_hearsInSpite_126 (by decide) ?_ ?_
        · refine g_iinc (pc := 131) [1, 2, 3, 0, 4, 5] 3 (n1 := 1) (lv1 := fun x22 => [(0, Value.ref (a 59)), (1, Value.int x1), (3, Value.int x3), (5, Value.int x22), (6, Value.int r14), (7, Value.int r18)]) dX3_hearsInSpite_131 rfl (by decide) (by decide) (fun _ => rfl) (fun x22 => ?_)
          show G _ Γ _ _ _ _ _ _ _ [(0, Value.ref (a 59)), (1, Value.int x1), (3, Value.int x3), (5, Value.int x22), (6, Value.int r14), (7, Value.int r18)] (131 + 3) _
          refine g_goto (pc := 134) (tgt := 62) dX3_hearsInSpite_134 (by decide) ?_
          exact g_lv [0, 1, 2, 3] rfl (hk9 s21 _)
        · refine g_iconst (pc := 129) (v := 0) dX3_hearsInSpite_129 (by decide) ?_
          exact g_zret1 (pc := 130) hRT (by decide) dX3_hearsInSpite_130
    · refine g_iconst (pc := 57) (v := 0) dX3_hearsInSpite_57 (by decide) ?_
      exact g_zret1 (pc := 58) hRT (by decide) dX3_hearsInSpite_58
  · refine g_aload_n (pc := 0) 0 dX3_hearsInSpite_0 rfl rfl ?_
    refine g_get (pc := 1) 59 cN_59 rfl inlX3 2 (by decide) bw_5_23 rfl dX3_hearsInSpite_1 ?_
    refine g_iload_n (pc := 4) 2 dX3_hearsInSpite_4 rfl rfl ?_
    refine g_cVv (pc := 5) 56 (As := [Value.int x2]) (fun r2 h2 => k_X1_pick__56 hI h2) wk_X1_pick wv_X1_pick bw_30_7 cN_56 rfl (by decide) (by decide) rfl rfl (Nat.le_of_ble_eq_true rfl) dX3_hearsInSpite_5 (fun r23 s24 => ?_)
    refine g_aload_n (pc := 8) 0 dX3_hearsInSpite_8 rfl rfl ?_
    refine g_get (pc := 9) 59 cN_59 rfl inlX3 0 (by decide) bw_5_21 rfl dX3_hearsInSpite_9 ?_
    refine g_iload (pc := 12) 4 dX3_hearsInSpite_12 rfl ?_
    refine g_cVz (pc := 14) 12 (As := [Value.int x4]) (fun r2 h2 => k_X4_hasHouse__12 hI h2) wk_X4_hasHouse wv_X4_hasHouse bw_37_21 cN_12 rfl (by decide) (by decide) rfl rfl (Nat.le_of_ble_eq_true rfl) dX3_hearsInSpite_14 (fun r25 s26 => ?_)
    refine g_if_eq (pc := 17) (tgt := 45) dX3_hearsInSpite_17 (by decide) ?_ ?_
    · exact g_lv [0, 1, 3] rfl (hk5 s26)
    · refine g_aload_n (pc := 20) 0 dX3_hearsInSpite_20 rfl rfl ?_
      refine g_get (pc := 21) 59 cN_59 rfl inlX3 2 (by decide) bw_5_23 rfl dX3_hearsInSpite_21 ?_
      refine g_iload (pc := 24) 4 dX3_hearsInSpite_24 rfl ?_
      refine g_bipush (pc := 26) (v := 6) dX3_hearsInSpite_26 (by decide) ?_
      refine g_aload_n (pc := 28) 0 dX3_hearsInSpite_28 rfl rfl ?_
      refine g_get (pc := 29) 59 cN_59 rfl inlX3 1 (by decide) bw_5_22 rfl dX3_hearsInSpite_29 ?_
      refine g_iload (pc := 32) 4 dX3_hearsInSpite_32 rfl ?_
      refine g_cVi (pc := 34) 19 (As := [Value.int x4]) (fun r2 h2 => k_X9_sashOf__19 hI h2) wk_X9_sashOf wv_X9_sashOf bw_37_22 cN_19 rfl (by decide) (by decide) rfl rfl (Nat.le_of_ble_eq_true rfl) dX3_hearsInSpite_34 (fun r27 s28 => ?_)
      refine g_iconst (pc := 37) (v := 1) dX3_hearsInSpite_37 (by decide) ?_
      refine g_iadd (pc := 38) dX3_hearsInSpite_38 ?_
      refine g_mmin (pc := 39) bw_37_14 bw_37_15 bw_37_16 bw_37_17 (by decide) (Nat.le_of_ble_eq_true rfl) dX3_hearsInSpite_39 ?_
      refine g_cVv (pc := 42) 56 (As := [Value.int x4, Value.int (if (r27 + (1 : Int32)) < (6 : Int32) then (r27 + (1 : Int32)) else (6 : Int32))]) (fun r2 h2 => k_X1_reopen__56 hI h2) wk_X1_reopen wv_X1_reopen bw_36_16 cN_56 rfl (by decide) (by decide) rfl rfl (Nat.le_of_ble_eq_true rfl) dX3_hearsInSpite_42 (fun r29 s30 => ?_)
      exact g_lv [0, 1, 3] rfl (hk5 s30)
set_option maxRecDepth 100000 in
set_option maxHeartbeats 4000000 in
theorem k_X3_bestToOpen__59 {l : Launch} {D : va_G} {a : Nat → Nat} {cI cS : ClassId} (hI : ∀ σ : St, va_D (AN a) (cN a cI cS σ)) {σ : St} {x1 x2 x3 : Int32} {r : Int32 × St} (h : f_X3_bestToOpen__59 σ x1 x2 x3 = some r) : Kc (SN l D a cI cS) yX3_bestToOpen cX3_bestToOpen 5 (some .int) 5 [Value.ref (a 59), Value.int x1, Value.int x2, Value.int x3] σ r := by
  refine enter (own := RX3) (o := f_X3_bestToOpen__59 σ x1 x2 x3) (plainFor_of_name (by decide +kernel)) rfl (Nat.le_of_ble_eq_true rfl) hI wk_X3_bestToOpen.1 h (fun Γ hRT => ?_)
  show G _ Γ _ _ _ _ _ _ σ [((0 : Nat), Value.ref (a 59)), ((1 : Nat), Value.int x1), ((2 : Nat), Value.int x2), ((3 : Nat), Value.int x3)] 0 []
  unfold f_X3_bestToOpen__59
  refine g_aload_n (pc := 0) 0 dX3_bestToOpen_0 rfl rfl ?_
  refine g_iload_n (pc := 1) 1 dX3_bestToOpen_1 rfl rfl ?_
  refine g_iload_n (pc := 2) 2 dX3_bestToOpen_2 rfl rfl ?_
  refine g_iload_n (pc := 3) 3 dX3_bestToOpen_3 rfl rfl ?_
  refine g_bipush (pc := 4) (v := 16) dX3_bestToOpen_4 (by decide) ?_
  refine g_cVz (pc := 6) 59 (As := [Value.int x1, Value.int x2, Value.int x3, Value.int (16 : Int32)]) (fun r2 h2 => k_X3_hearsInSpite__59 hI h2) wk_X3_hearsInSpite wv_X3_hearsInSpite bw_37_10 cN_59 rfl (by decide) (by decide) rfl rfl (Nat.le_of_ble_eq_true rfl) dX3_bestToOpen_6 (fun r4 s5 => ?_)
  refine g_if_eq (pc := 9) (tgt := 15) dX3_bestToOpen_9 (by decide) ?_ ?_
  · refine g_iconst (pc := 15) (v := 0) dX3_bestToOpen_15 (by decide) ?_
    refine g_istore (pc := 16) [1, 2, 3, 4, 0] (lv1 := [(0, Value.ref (a 59)), (1, Value.int x1), (2, Value.int x2), (3, Value.int x3), (4, Value.int (0 : Int32))]) dX3_bestToOpen_16 (by decide) rfl ?_
    refine g_lq1 (pc := 18) (lf := fun x7 => [((0 : Nat), Value.ref (a 59)), ((1 : Nat), Value.int x1), ((2 : Nat), Value.int x2), ((3 : Nat), Value.int x3), ((4 : Nat), Value.int x7)]) (sf := fun x7 => ([] : List Value)) (fun k6 hk6 s8 x7 => ?_) 100000 s5 _
    show G _ Γ _ _ _ _ _ _ s8 [((0 : Nat), Value.ref (a 59)), ((1 : Nat), Value.int x1), ((2 : Nat), Value.int x2), ((3 : Nat), Value.int x3), ((4 : Nat), Value.int x7)] 18 ([] : List Value)
    refine g_iload (pc := 18) 4 dX3_bestToOpen_18 rfl ?_
    refine g_aload_n (pc := 20) 0 dX3_bestToOpen_20 rfl rfl ?_
    refine g_get (pc := 21) 59 cN_59 rfl inlX3 0 (by decide) bw_5_21 rfl dX3_bestToOpen_21 ?_
    refine g_cVi (pc := 24) 12 (As := []) (fun r2 h2 => k_X4_houses__12 hI h2) wk_X4_houses wv_X4_houses bw_31_23 cN_12 rfl (by decide) (by decide) rfl rfl (Nat.le_of_ble_eq_true rfl) dX3_bestToOpen_24 (fun r9 s10 => ?_)
    refine g_icmp_ge (pc := 27) (tgt := 51) dX3_bestToOpen_27 (by decide) ?_ ?_
    · refine g_bipush (pc := 51) (v := 16) dX3_bestToOpen_51 (by decide) ?_
      exact g_iret (pc := 53) hRT dX3_bestToOpen_53
    · refine g_aload_n (pc := 30) 0 dX3_bestToOpen_30 rfl rfl ?_
      refine g_iload_n (pc := 31) 1 dX3_bestToOpen_31 rfl rfl ?_
      refine g_iload_n (pc := 32) 2 dX3_bestToOpen_32 rfl rfl ?_
      refine g_iload_n (pc := 33) 3 dX3_bestToOpen_33 rfl rfl ?_
      refine g_iload (pc := 34) 4 dX3_bestToOpen_34 rfl ?_
      refine g_cVz (pc := 36) 59 (As := [Value.int x1, Value.int x2, Value.int x3, Value.int x7]) (fun r2 h2 => k_X3_hearsInSpite__59 hI h2) wk_X3_hearsInSpite wv_X3_hearsInSpite bw_37_10 cN_59 rfl (by decide) (by decide) rfl rfl (Nat.le_of_ble_eq_true rfl) dX3_bestToOpen_36 (fun r11 s12 => ?_)
      refine g_if_eq (pc := 39) (tgt := 45) dX3_bestToOpen_39 (by decide) ?_ ?_
      · refine g_iinc (pc := 45) [1, 2, 3, 4, 0] 4 (n1 := 1) (lv1 := fun x13 => [(0, Value.ref (a 59)), (1, Value.int x1), (2, Value.int x2), (3, Value.int x3), (4, Value.int x13)]) dX3_bestToOpen_45 rfl (by decide) (by decide) (fun _ => rfl) (fun x13 => ?_)
        show G _ Γ _ _ _ _ _ _ _ [(0, Value.ref (a 59)), (1, Value.int x1), (2, Value.int x2), (3, Value.int x3), (4, Value.int x13)] (45 + 3) _
        refine g_goto (pc := 48) (tgt := 18) dX3_bestToOpen_48 (by decide) ?_
        exact hk6 s12 _
      · refine g_iload (pc := 42) 4 dX3_bestToOpen_42 rfl ?_
        exact g_iret (pc := 44) hRT dX3_bestToOpen_44
  · refine g_bipush (pc := 12) (v := 16) dX3_bestToOpen_12 (by decide) ?_
    exact g_iret (pc := 14) hRT dX3_bestToOpen_14
set_option maxRecDepth 100000 in
set_option maxHeartbeats 4000000 in
theorem k_X10_quarrel__0 {l : Launch} {D : va_G} {a : Nat → Nat} {cI cS : ClassId} (hI : ∀ σ : St, va_D (AN a) (cN a cI cS σ)) {σ : St} {x1 x2 x3 x4 : Int32} {r : Int32 × St} (h : f_X10_quarrel__0 σ x1 x2 x3 x4 = some r) : Kc (SN l D a cI cS) yX10_quarrel cX10_quarrel 6 (some .int) 6 [Value.ref (a 0), Value.int x1, Value.int x2, Value.int x3, Value.int x4] σ r := by
  refine enter (own := RX10) (o := f_X10_quarrel__0 σ x1 x2 x3 x4) (plainFor_of_name (by decide +kernel)) rfl (Nat.le_of_ble_eq_true rfl) hI wk_X10_quarrel.1 h (fun Γ hRT => ?_)
  show G _ Γ _ _ _ _ _ _ σ [((0 : Nat), Value.ref (a 0)), ((1 : Nat), Value.int x1), ((2 : Nat), Value.int x2), ((3 : Nat), Value.int x3), ((4 : Nat), Value.int x4)] 0 []
  unfold f_X10_quarrel__0
  refine g_aload_n (pc := 0) 0 dX10_quarrel_0 rfl rfl ?_
  refine g_get (pc := 1) 0 cN_0 rfl inlX10 3 (by decide) bw_2_0 rfl dX10_quarrel_1 ?_
  refine g_iload_n (pc := 4) 1 dX10_quarrel_4 rfl rfl ?_
  refine g_cVz (pc := 5) 12 (As := [Value.int x1]) (fun r2 h2 => k_X4_hasHouse__12 hI h2) wk_X4_hasHouse wv_X4_hasHouse bw_19_10 cN_12 rfl (by decide) (by decide) rfl rfl (Nat.le_of_ble_eq_true rfl) dX10_quarrel_5 (fun r5 s6 => ?_)
  refine g_if_eq (pc := 8) (tgt := 22) dX10_quarrel_8 (by decide) ?_ ?_
  · refine g_iconst (pc := 22) (v := -1) dX10_quarrel_22 (by decide) ?_
    exact g_iret (pc := 23) hRT dX10_quarrel_23
  · refine g_aload_n (pc := 11) 0 dX10_quarrel_11 rfl rfl ?_
    refine g_get (pc := 12) 0 cN_0 rfl inlX10 3 (by decide) bw_2_0 rfl dX10_quarrel_12 ?_
    refine g_iload_n (pc := 15) 2 dX10_quarrel_15 rfl rfl ?_
    refine g_cVz (pc := 16) 12 (As := [Value.int x2]) (fun r2 h2 => k_X4_hasNews__12 hI h2) wk_X4_hasNews wv_X4_hasNews bw_21_6 cN_12 rfl (by decide) (by decide) rfl rfl (Nat.le_of_ble_eq_true rfl) dX10_quarrel_16 (fun r7 s8 => ?_)
    refine g_if_ne (pc := 19) (tgt := 24) dX10_quarrel_19 (by decide) ?_ ?_
    · refine g_iload_n (pc := 24) 3 dX10_quarrel_24 rfl rfl ?_
      refine g_iconst (pc := 25) (v := 1) dX10_quarrel_25 (by decide) ?_
      refine g_bipush (pc := 26) (v := 12) dX10_quarrel_26 (by decide) ?_
      refine g_cSz (pc := 28) (As := [Value.int x3, Value.int (1 : Int32), Value.int (12 : Int32)]) (fun r2 h2 => k_X10_within hI h2) wk_X10_within ws_X10_within bw_12_4 (by decide) (by decide) rfl rfl (Nat.le_of_ble_eq_true rfl) dX10_quarrel_28 (fun r9 s10 => ?_)
      refine g_if_eq (pc := 31) (tgt := 44) dX10_quarrel_31 (by decide) ?_ ?_
      · refine g_iconst (pc := 44) (v := -1) dX10_quarrel_44 (by decide) ?_
        exact g_iret (pc := 45) hRT dX10_quarrel_45
      · refine g_iload (pc := 34) 4 dX10_quarrel_34 rfl ?_
        refine g_iconst (pc := 36) (v := 0) dX10_quarrel_36 (by decide) ?_
        refine g_iconst (pc := 37) (v := 1) dX10_quarrel_37 (by decide) ?_
        refine g_cSz (pc := 38) (As := [Value.int x4, Value.int (0 : Int32), Value.int (1 : Int32)]) (fun r2 h2 => k_X10_within hI h2) wk_X10_within ws_X10_within bw_12_4 (by decide) (by decide) rfl rfl (Nat.le_of_ble_eq_true rfl) dX10_quarrel_38 (fun r11 s12 => ?_)
        refine g_if_ne (pc := 41) (tgt := 46) dX10_quarrel_41 (by decide) ?_ ?_
        · refine g_aload_n (pc := 46) 0 dX10_quarrel_46 rfl rfl ?_
          refine g_get (pc := 47) 0 cN_0 rfl inlX10 8 (by decide) bw_2_17 rfl dX10_quarrel_47 ?_
          refine g_iload_n (pc := 50) 1 dX10_quarrel_50 rfl rfl ?_
          refine g_iload_n (pc := 51) 2 dX10_quarrel_51 rfl rfl ?_
          refine g_iload_n (pc := 52) 3 dX10_quarrel_52 rfl rfl ?_
          refine g_cVi (pc := 53) 59 (As := [Value.int x1, Value.int x2, Value.int x3]) (fun r2 h2 => k_X3_bestToOpen__59 hI h2) wk_X3_bestToOpen wv_X3_bestToOpen bw_37_6 cN_59 rfl (by decide) (by decide) rfl rfl (Nat.le_of_ble_eq_true rfl) dX10_quarrel_53 (fun r13 s14 => ?_)
          refine g_istore (pc := 56) [1, 2, 3, 4, 5, 0] (lv1 := [(0, Value.ref (a 0)), (1, Value.int x1), (2, Value.int x2), (3, Value.int x3), (4, Value.int x4), (5, Value.int r13)]) dX10_quarrel_56 (by decide) rfl ?_
          refine g_iload (pc := 58) 4 dX10_quarrel_58 rfl ?_
          refine g_iconst (pc := 60) (v := 1) dX10_quarrel_60 (by decide) ?_
          refine g_icmp_ne (pc := 61) (tgt := 67) dX10_quarrel_61 (by decide) ?_ ?_
          · refine g_aload_n (pc := 67) 0 dX10_quarrel_67 rfl rfl ?_
            refine g_get (pc := 68) 0 cN_0 rfl inlX10 8 (by decide) bw_2_17 rfl dX10_quarrel_68 ?_
            refine g_iload_n (pc := 71) 1 dX10_quarrel_71 rfl rfl ?_
            refine g_iload_n (pc := 72) 2 dX10_quarrel_72 rfl rfl ?_
            refine g_iload_n (pc := 73) 3 dX10_quarrel_73 rfl rfl ?_
            refine g_iload (pc := 74) 5 dX10_quarrel_74 rfl ?_
            refine g_cVz (pc := 76) 59 (As := [Value.int x1, Value.int x2, Value.int x3, Value.int r13]) (fun r2 h2 => k_X3_hearsInSpite__59 hI h2) wk_X3_hearsInSpite wv_X3_hearsInSpite bw_38_3 cN_59 rfl (by decide) (by decide) rfl rfl (Nat.le_of_ble_eq_true rfl) dX10_quarrel_76 (fun r15 s16 => ?_)
            refine g_if_eq (pc := 79) (tgt := 86) dX10_quarrel_79 (by decide) ?_ ?_
            · refine g_iconst (pc := 86) (v := 0) dX10_quarrel_86 (by decide) ?_
              exact g_iret (pc := 87) hRT dX10_quarrel_87
            · refine g_iconst (pc := 82) (v := 1) dX10_quarrel_82 (by decide) ?_
              refine g_goto (pc := 83) (tgt := 87) dX10_quarrel_83 (by decide) ?_
              exact g_iret (pc := 87) hRT dX10_quarrel_87
          · refine g_iload (pc := 64) 5 dX10_quarrel_64 rfl ?_
            exact g_iret (pc := 66) hRT dX10_quarrel_66
        · refine g_iconst (pc := 44) (v := -1) dX10_quarrel_44 (by decide) ?_
          exact g_iret (pc := 45) hRT dX10_quarrel_45
    · refine g_iconst (pc := 22) (v := -1) dX10_quarrel_22 (by decide) ?_
      exact g_iret (pc := 23) hRT dX10_quarrel_23
set_option maxRecDepth 100000 in
set_option maxHeartbeats 4000000 in
theorem k_X10_put__66 {l : Launch} {D : va_G} {a : Nat → Nat} {cI cS : ClassId} (hI : ∀ σ : St, va_D (AN a) (cN a cI cS σ)) {σ : St} {x1 x2 : Int32} {r : Int32 × St} (h : f_X10_put__66 σ x1 x2 = some r) : Kc (SN l D a cI cS) yX10_put cX10_put 3 none 0 [Value.ref (a 66), Value.int x1, Value.int x2] σ r := by
  refine enter (own := RX10) (o := f_X10_put__66 σ x1 x2) (plainFor_of_name (by decide +kernel)) rfl (Nat.le_of_ble_eq_true rfl) hI wk_X10_put.1 h (fun Γ hRT => ?_)
  show G _ Γ _ _ _ _ _ _ σ [((0 : Nat), Value.ref (a 66)), ((1 : Nat), Value.int x1), ((2 : Nat), Value.int x2)] 0 []
  unfold f_X10_put__66
  refine g_aload_n (pc := 0) 0 dX10_put_0 rfl rfl ?_
  refine g_ifnull (pc := 1) dX10_put_1 ?_
  refine g_iload_n (pc := 4) 1 dX10_put_4 rfl rfl ?_
  refine g_if_lt (pc := 5) (tgt := 18) dX10_put_5 (by decide) ?_ ?_
  · exact g_vret (pc := 18) hRT dX10_put_18
  · refine g_iload_n (pc := 8) 1 dX10_put_8 rfl rfl ?_
    refine g_aload_n (pc := 9) 0 dX10_put_9 rfl rfl ?_
    refine g_alen (pc := 10) 66 0 (v := 6) cN_66 rfl (show Int32.ofNat 6 = 6 by decide) dX10_put_10 ?_
    refine g_icmp_ge (pc := 11) (tgt := 18) dX10_put_11 (by decide) ?_ ?_
    · exact g_vret (pc := 18) hRT dX10_put_18
    · refine g_aload_n (pc := 14) 0 dX10_put_14 rfl rfl ?_
      refine g_iload_n (pc := 15) 1 dX10_put_15 rfl rfl ?_
      refine g_iload_n (pc := 16) 2 dX10_put_16 rfl rfl ?_
      refine g_iast (pc := 17) 66 cN_66 rfl cN_s66 dX10_put_17 (fun s3 => ?_)
      exact g_vret (pc := 18) hRT dX10_put_18
set_option maxRecDepth 100000 in
set_option maxHeartbeats 4000000 in
theorem k_X10_put__63 {l : Launch} {D : va_G} {a : Nat → Nat} {cI cS : ClassId} (hI : ∀ σ : St, va_D (AN a) (cN a cI cS σ)) {σ : St} {x1 x2 : Int32} {r : Int32 × St} (h : f_X10_put__63 σ x1 x2 = some r) : Kc (SN l D a cI cS) yX10_put cX10_put 3 none 0 [Value.ref (a 63), Value.int x1, Value.int x2] σ r := by
  refine enter (own := RX10) (o := f_X10_put__63 σ x1 x2) (plainFor_of_name (by decide +kernel)) rfl (Nat.le_of_ble_eq_true rfl) hI wk_X10_put.1 h (fun Γ hRT => ?_)
  show G _ Γ _ _ _ _ _ _ σ [((0 : Nat), Value.ref (a 63)), ((1 : Nat), Value.int x1), ((2 : Nat), Value.int x2)] 0 []
  unfold f_X10_put__63
  refine g_aload_n (pc := 0) 0 dX10_put_0 rfl rfl ?_
  refine g_ifnull (pc := 1) dX10_put_1 ?_
  refine g_iload_n (pc := 4) 1 dX10_put_4 rfl rfl ?_
  refine g_if_lt (pc := 5) (tgt := 18) dX10_put_5 (by decide) ?_ ?_
  · exact g_vret (pc := 18) hRT dX10_put_18
  · refine g_iload_n (pc := 8) 1 dX10_put_8 rfl rfl ?_
    refine g_aload_n (pc := 9) 0 dX10_put_9 rfl rfl ?_
    refine g_alen (pc := 10) 63 0 (v := 6) cN_63 rfl (show Int32.ofNat 6 = 6 by decide) dX10_put_10 ?_
    refine g_icmp_ge (pc := 11) (tgt := 18) dX10_put_11 (by decide) ?_ ?_
    · exact g_vret (pc := 18) hRT dX10_put_18
    · refine g_aload_n (pc := 14) 0 dX10_put_14 rfl rfl ?_
      refine g_iload_n (pc := 15) 1 dX10_put_15 rfl rfl ?_
      refine g_iload_n (pc := 16) 2 dX10_put_16 rfl rfl ?_
      refine g_iast (pc := 17) 63 cN_63 rfl cN_s63 dX10_put_17 (fun s3 => ?_)
      exact g_vret (pc := 18) hRT dX10_put_18
set_option maxRecDepth 100000 in
set_option maxHeartbeats 4000000 in
theorem k_X10_put__64 {l : Launch} {D : va_G} {a : Nat → Nat} {cI cS : ClassId} (hI : ∀ σ : St, va_D (AN a) (cN a cI cS σ)) {σ : St} {x1 x2 : Int32} {r : Int32 × St} (h : f_X10_put__64 σ x1 x2 = some r) : Kc (SN l D a cI cS) yX10_put cX10_put 3 none 0 [Value.ref (a 64), Value.int x1, Value.int x2] σ r := by
  refine enter (own := RX10) (o := f_X10_put__64 σ x1 x2) (plainFor_of_name (by decide +kernel)) rfl (Nat.le_of_ble_eq_true rfl) hI wk_X10_put.1 h (fun Γ hRT => ?_)
  show G _ Γ _ _ _ _ _ _ σ [((0 : Nat), Value.ref (a 64)), ((1 : Nat), Value.int x1), ((2 : Nat), Value.int x2)] 0 []
  unfold f_X10_put__64
  refine g_aload_n (pc := 0) 0 dX10_put_0 rfl rfl ?_
  refine g_ifnull (pc := 1) dX10_put_1 ?_
  refine g_iload_n (pc := 4) 1 dX10_put_4 rfl rfl ?_
  refine g_if_lt (pc := 5) (tgt := 18) dX10_put_5 (by decide) ?_ ?_
  · exact g_vret (pc := 18) hRT dX10_put_18
  · refine g_iload_n (pc := 8) 1 dX10_put_8 rfl rfl ?_
    refine g_aload_n (pc := 9) 0 dX10_put_9 rfl rfl ?_
    refine g_alen (pc := 10) 64 0 (v := 6) cN_64 rfl (show Int32.ofNat 6 = 6 by decide) dX10_put_10 ?_
    refine g_icmp_ge (pc := 11) (tgt := 18) dX10_put_11 (by decide) ?_ ?_
    · exact g_vret (pc := 18) hRT dX10_put_18
    · refine g_aload_n (pc := 14) 0 dX10_put_14 rfl rfl ?_
      refine g_iload_n (pc := 15) 1 dX10_put_15 rfl rfl ?_
      refine g_iload_n (pc := 16) 2 dX10_put_16 rfl rfl ?_
      refine g_iast (pc := 17) 64 cN_64 rfl cN_s64 dX10_put_17 (fun s3 => ?_)
      exact g_vret (pc := 18) hRT dX10_put_18
set_option maxRecDepth 100000 in
set_option maxHeartbeats 4000000 in
theorem k_X10_put__65 {l : Launch} {D : va_G} {a : Nat → Nat} {cI cS : ClassId} (hI : ∀ σ : St, va_D (AN a) (cN a cI cS σ)) {σ : St} {x1 x2 : Int32} {r : Int32 × St} (h : f_X10_put__65 σ x1 x2 = some r) : Kc (SN l D a cI cS) yX10_put cX10_put 3 none 0 [Value.ref (a 65), Value.int x1, Value.int x2] σ r := by
  refine enter (own := RX10) (o := f_X10_put__65 σ x1 x2) (plainFor_of_name (by decide +kernel)) rfl (Nat.le_of_ble_eq_true rfl) hI wk_X10_put.1 h (fun Γ hRT => ?_)
  show G _ Γ _ _ _ _ _ _ σ [((0 : Nat), Value.ref (a 65)), ((1 : Nat), Value.int x1), ((2 : Nat), Value.int x2)] 0 []
  unfold f_X10_put__65
  refine g_aload_n (pc := 0) 0 dX10_put_0 rfl rfl ?_
  refine g_ifnull (pc := 1) dX10_put_1 ?_
  refine g_iload_n (pc := 4) 1 dX10_put_4 rfl rfl ?_
  refine g_if_lt (pc := 5) (tgt := 18) dX10_put_5 (by decide) ?_ ?_
  · exact g_vret (pc := 18) hRT dX10_put_18
  · refine g_iload_n (pc := 8) 1 dX10_put_8 rfl rfl ?_
    refine g_aload_n (pc := 9) 0 dX10_put_9 rfl rfl ?_
    refine g_alen (pc := 10) 65 0 (v := 6) cN_65 rfl (show Int32.ofNat 6 = 6 by decide) dX10_put_10 ?_
    refine g_icmp_ge (pc := 11) (tgt := 18) dX10_put_11 (by decide) ?_ ?_
    · exact g_vret (pc := 18) hRT dX10_put_18
    · refine g_aload_n (pc := 14) 0 dX10_put_14 rfl rfl ?_
      refine g_iload_n (pc := 15) 1 dX10_put_15 rfl rfl ?_
      refine g_iload_n (pc := 16) 2 dX10_put_16 rfl rfl ?_
      refine g_iast (pc := 17) 65 cN_65 rfl cN_s65 dX10_put_17 (fun s3 => ?_)
      exact g_vret (pc := 18) hRT dX10_put_18
set_option maxRecDepth 100000 in
set_option maxHeartbeats 4000000 in
theorem k_X8_add__62 {l : Launch} {D : va_G} {a : Nat → Nat} {cI cS : ClassId} (hI : ∀ σ : St, va_D (AN a) (cN a cI cS σ)) {σ : St} {x1 x2 x3 x4 : Int32} {r : Int32 × St} (h : f_X8_add__62 σ x1 x2 x3 x4 = some r) : Kc (SN l D a cI cS) yX8_add cX8_add 5 (some .boolean) 1 [Value.ref (a 62), Value.int x1, Value.int x2, Value.int x3, Value.int x4] σ r := by
  refine enter (own := RX8) (o := f_X8_add__62 σ x1 x2 x3 x4) (plainFor_of_name (by decide +kernel)) rfl (Nat.le_of_ble_eq_true rfl) hI wk_X8_add.1 h (fun Γ hRT => ?_)
  show G _ Γ _ _ _ _ _ _ σ [((0 : Nat), Value.ref (a 62)), ((1 : Nat), Value.int x1), ((2 : Nat), Value.int x2), ((3 : Nat), Value.int x3), ((4 : Nat), Value.int x4)] 0 []
  unfold f_X8_add__62
  refine g_aload_n (pc := 0) 0 dX8_add_0 rfl rfl ?_
  refine g_get (pc := 1) 62 cN_62 rfl inlX8 6 (by decide) bw_7_5 rfl dX8_add_1 ?_
  refine g_bipush (pc := 4) (v := 6) dX8_add_4 (by decide) ?_
  refine g_icmp_lt (pc := 6) (tgt := 11) dX8_add_6 (by decide) ?_ ?_
  · refine g_jq2 (pc2 := 65) (lf := fun x6 x7 => [((0 : Nat), Value.ref (a 62))]) (sf := fun x6 x7 => [Value.int x6, Value.int x7, Value.ref (a 66)]) (fun s8 x6 x7 => ?_) (fun k5 hk5 => ?_)
    · show G _ Γ _ _ _ _ _ _ s8 [((0 : Nat), Value.ref (a 62))] 65 [Value.int x6, Value.int x7, Value.ref (a 66)]
      refine g_cNv (pc := 65) (As := [Value.ref (a 66), Value.int x7, Value.int x6]) (fun r2 h2 => k_X10_put__66 hI h2) wk_X10_put ws_X10_put nst_RX8_36 (by decide) (by decide) rfl rfl (Nat.le_of_ble_eq_true rfl) dX8_add_65 (fun r9 s10 => ?_)
      refine g_aload_n (pc := 68) 0 dX8_add_68 rfl rfl ?_
      refine g_dup (pc := 69) dX8_add_69 rfl ?_
      refine g_get (pc := 70) 62 cN_62 rfl inlX8 6 (by decide) bw_7_5 rfl dX8_add_70 ?_
      refine g_iconst (pc := 73) (v := 1) dX8_add_73 (by decide) ?_
      refine g_iadd (pc := 74) dX8_add_74 ?_
      refine g_put (pc := 75) 62 (ty := .int) cN_62 rfl inlX8 tyX8_ok nmX8 6 (by decide) bw_7_5 rfl (by decide +kernel) rfl rfl (Nat.le_of_ble_eq_true rfl) cN_f62_6 dX8_add_75 (fun s11 => ?_)
      refine g_iconst (pc := 78) (v := 1) dX8_add_78 (by decide) ?_
      exact g_zret1 (pc := 79) hRT (by decide) dX8_add_79
    · refine g_aload_n (pc := 11) 0 dX8_add_11 rfl rfl ?_
      refine g_get (pc := 12) 62 cN_62 rfl inlX8 2 (by decide) bw_7_1 rfl dX8_add_12 ?_
      refine g_aload_n (pc := 15) 0 dX8_add_15 rfl rfl ?_
      refine g_get (pc := 16) 62 cN_62 rfl inlX8 6 (by decide) bw_7_5 rfl dX8_add_16 ?_
      refine g_iload_n (pc := 19) 1 dX8_add_19 rfl rfl ?_
      refine g_cNv (pc := 20) (As := [Value.ref (a 63), Value.int (σ 62 6), Value.int x1]) (fun r2 h2 => k_X10_put__63 hI h2) wk_X10_put ws_X10_put nst_RX8_36 (by decide) (by decide) rfl rfl (Nat.le_of_ble_eq_true rfl) dX8_add_20 (fun r12 s13 => ?_)
      refine g_aload_n (pc := 23) 0 dX8_add_23 rfl rfl ?_
      refine g_get (pc := 24) 62 cN_62 rfl inlX8 3 (by decide) bw_7_2 rfl dX8_add_24 ?_
      refine g_aload_n (pc := 27) 0 dX8_add_27 rfl rfl ?_
      refine g_get (pc := 28) 62 cN_62 rfl inlX8 6 (by decide) bw_7_5 rfl dX8_add_28 ?_
      refine g_iload_n (pc := 31) 2 dX8_add_31 rfl rfl ?_
      refine g_cNv (pc := 32) (As := [Value.ref (a 64), Value.int (s13 62 6), Value.int x2]) (fun r2 h2 => k_X10_put__64 hI h2) wk_X10_put ws_X10_put nst_RX8_36 (by decide) (by decide) rfl rfl (Nat.le_of_ble_eq_true rfl) dX8_add_32 (fun r14 s15 => ?_)
      refine g_aload_n (pc := 35) 0 dX8_add_35 rfl rfl ?_
      refine g_get (pc := 36) 62 cN_62 rfl inlX8 4 (by decide) bw_7_3 rfl dX8_add_36 ?_
      refine g_aload_n (pc := 39) 0 dX8_add_39 rfl rfl ?_
      refine g_get (pc := 40) 62 cN_62 rfl inlX8 6 (by decide) bw_7_5 rfl dX8_add_40 ?_
      refine g_iload_n (pc := 43) 3 dX8_add_43 rfl rfl ?_
      refine g_cNv (pc := 44) (As := [Value.ref (a 65), Value.int (s15 62 6), Value.int x3]) (fun r2 h2 => k_X10_put__65 hI h2) wk_X10_put ws_X10_put nst_RX8_36 (by decide) (by decide) rfl rfl (Nat.le_of_ble_eq_true rfl) dX8_add_44 (fun r16 s17 => ?_)
      refine g_aload_n (pc := 47) 0 dX8_add_47 rfl rfl ?_
      refine g_get (pc := 48) 62 cN_62 rfl inlX8 5 (by decide) bw_7_4 rfl dX8_add_48 ?_
      refine g_aload_n (pc := 51) 0 dX8_add_51 rfl rfl ?_
      refine g_get (pc := 52) 62 cN_62 rfl inlX8 6 (by decide) bw_7_5 rfl dX8_add_52 ?_
      refine g_iload (pc := 55) 4 dX8_add_55 rfl ?_
      refine g_if_eq (pc := 57) (tgt := 64) dX8_add_57 (by decide) ?_ ?_
      · refine g_iconst (pc := 64) (v := 0) dX8_add_64 (by decide) ?_
        exact g_lv [0] rfl (hk5 s17 _ _)
      · refine g_iconst (pc := 60) (v := 1) dX8_add_60 (by decide) ?_
        refine g_goto (pc := 61) (tgt := 65) dX8_add_61 (by decide) ?_
        exact g_lv [0] rfl (hk5 s17 _ _)
  · refine g_iconst (pc := 9) (v := 0) dX8_add_9 (by decide) ?_
    exact g_zret1 (pc := 10) hRT (by decide) dX8_add_10
set_option maxRecDepth 100000 in
set_option maxHeartbeats 4000000 in
theorem k_X8_size__62 {l : Launch} {D : va_G} {a : Nat → Nat} {cI cS : ClassId} (hI : ∀ σ : St, va_D (AN a) (cN a cI cS σ)) {σ : St} {r : Int32 × St} (h : f_X8_size__62 σ = some r) : Kc (SN l D a cI cS) yX8_size cX8_size 1 (some .int) 0 [Value.ref (a 62)] σ r := by
  refine enter (own := RX8) (o := f_X8_size__62 σ) (plainFor_of_name (by decide +kernel)) rfl (Nat.le_of_ble_eq_true rfl) hI wk_X8_size.1 h (fun Γ hRT => ?_)
  show G _ Γ _ _ _ _ _ _ σ [((0 : Nat), Value.ref (a 62))] 0 []
  unfold f_X8_size__62
  refine g_aload_n (pc := 0) 0 dX8_size_0 rfl rfl ?_
  refine g_get (pc := 1) 62 cN_62 rfl inlX8 6 (by decide) bw_7_5 rfl dX8_size_1 ?_
  exact g_iret (pc := 4) hRT dX8_size_4
set_option maxRecDepth 100000 in
set_option maxHeartbeats 4000000 in
theorem k_X10_see__0 {l : Launch} {D : va_G} {a : Nat → Nat} {cI cS : ClassId} (hI : ∀ σ : St, va_D (AN a) (cN a cI cS σ)) {σ : St} {x1 x2 x3 x4 : Int32} {r : Int32 × St} (h : f_X10_see__0 σ x1 x2 x3 x4 = some r) : Kc (SN l D a cI cS) yX10_see cX10_see 5 (some .int) 2 [Value.ref (a 0), Value.int x1, Value.int x2, Value.int x3, Value.int x4] σ r := by
  refine enter (own := RX10) (o := f_X10_see__0 σ x1 x2 x3 x4) (plainFor_of_name (by decide +kernel)) rfl (Nat.le_of_ble_eq_true rfl) hI wk_X10_see.1 h (fun Γ hRT => ?_)
  show G _ Γ _ _ _ _ _ _ σ [((0 : Nat), Value.ref (a 0)), ((1 : Nat), Value.int x1), ((2 : Nat), Value.int x2), ((3 : Nat), Value.int x3), ((4 : Nat), Value.int x4)] 0 []
  unfold f_X10_see__0
  refine g_aload_n (pc := 0) 0 dX10_see_0 rfl rfl ?_
  refine g_get (pc := 1) 0 cN_0 rfl inlX10 3 (by decide) bw_2_0 rfl dX10_see_1 ?_
  refine g_iload_n (pc := 4) 1 dX10_see_4 rfl rfl ?_
  refine g_cVz (pc := 5) 12 (As := [Value.int x1]) (fun r2 h2 => k_X4_hasHouse__12 hI h2) wk_X4_hasHouse wv_X4_hasHouse bw_19_10 cN_12 rfl (by decide) (by decide) rfl rfl (Nat.le_of_ble_eq_true rfl) dX10_see_5 (fun r5 s6 => ?_)
  refine g_if_eq (pc := 8) (tgt := 32) dX10_see_8 (by decide) ?_ ?_
  · refine g_iconst (pc := 32) (v := -1) dX10_see_32 (by decide) ?_
    exact g_iret (pc := 33) hRT dX10_see_33
  · refine g_aload_n (pc := 11) 0 dX10_see_11 rfl rfl ?_
    refine g_get (pc := 12) 0 cN_0 rfl inlX10 3 (by decide) bw_2_0 rfl dX10_see_12 ?_
    refine g_iload_n (pc := 15) 2 dX10_see_15 rfl rfl ?_
    refine g_cVz (pc := 16) 12 (As := [Value.int x2]) (fun r2 h2 => k_X4_hasNews__12 hI h2) wk_X4_hasNews wv_X4_hasNews bw_21_6 cN_12 rfl (by decide) (by decide) rfl rfl (Nat.le_of_ble_eq_true rfl) dX10_see_16 (fun r7 s8 => ?_)
    refine g_if_eq (pc := 19) (tgt := 32) dX10_see_19 (by decide) ?_ ?_
    · refine g_iconst (pc := 32) (v := -1) dX10_see_32 (by decide) ?_
      exact g_iret (pc := 33) hRT dX10_see_33
    · refine g_iload_n (pc := 22) 3 dX10_see_22 rfl rfl ?_
      refine g_iconst (pc := 23) (v := 0) dX10_see_23 (by decide) ?_
      refine g_bipush (pc := 24) (v := 30) dX10_see_24 (by decide) ?_
      refine g_cSz (pc := 26) (As := [Value.int x3, Value.int (0 : Int32), Value.int (30 : Int32)]) (fun r2 h2 => k_X10_within hI h2) wk_X10_within ws_X10_within bw_12_4 (by decide) (by decide) rfl rfl (Nat.le_of_ble_eq_true rfl) dX10_see_26 (fun r9 s10 => ?_)
      refine g_if_ne (pc := 29) (tgt := 34) dX10_see_29 (by decide) ?_ ?_
      · refine g_aload_n (pc := 34) 0 dX10_see_34 rfl rfl ?_
        refine g_get (pc := 35) 0 cN_0 rfl inlX10 11 (by decide) bw_3_5 rfl dX10_see_35 ?_
        refine g_iload_n (pc := 38) 1 dX10_see_38 rfl rfl ?_
        refine g_iload_n (pc := 39) 2 dX10_see_39 rfl rfl ?_
        refine g_iload_n (pc := 40) 3 dX10_see_40 rfl rfl ?_
        refine g_iload (pc := 41) 4 dX10_see_41 rfl ?_
        refine g_cVz (pc := 43) 62 (As := [Value.int x1, Value.int x2, Value.int x3, Value.int x4]) (fun r2 h2 => k_X8_add__62 hI h2) wk_X8_add wv_X8_add bw_38_20 cN_62 rfl (by decide) (by decide) rfl rfl (Nat.le_of_ble_eq_true rfl) dX10_see_43 (fun r11 s12 => ?_)
        refine g_if_eq (pc := 46) (tgt := 59) dX10_see_46 (by decide) ?_ ?_
        · refine g_bipush (pc := 59) (v := -3) dX10_see_59 (by decide) ?_
          exact g_iret (pc := 61) hRT dX10_see_61
        · refine g_aload_n (pc := 49) 0 dX10_see_49 rfl rfl ?_
          refine g_get (pc := 50) 0 cN_0 rfl inlX10 11 (by decide) bw_3_5 rfl dX10_see_50 ?_
          refine g_cVi (pc := 53) 62 (As := []) (fun r2 h2 => k_X8_size__62 hI h2) wk_X8_size wv_X8_size bw_39_0 cN_62 rfl (by decide) (by decide) rfl rfl (Nat.le_of_ble_eq_true rfl) dX10_see_53 (fun r13 s14 => ?_)
          refine g_goto (pc := 56) (tgt := 61) dX10_see_56 (by decide) ?_
          exact g_iret (pc := 61) hRT dX10_see_61
      · refine g_iconst (pc := 32) (v := -1) dX10_see_32 (by decide) ?_
        exact g_iret (pc := 33) hRT dX10_see_33
set_option maxRecDepth 100000 in
set_option maxHeartbeats 4000000 in
theorem k_X10_forget__0 {l : Launch} {D : va_G} {a : Nat → Nat} {cI cS : ClassId} (hI : ∀ σ : St, va_D (AN a) (cN a cI cS σ)) {σ : St} {r : Int32 × St} (h : f_X10_forget__0 σ = some r) : Kc (SN l D a cI cS) yX10_forget cX10_forget 2 (some .int) 1 [Value.ref (a 0)] σ r := by
  refine enter (own := RX10) (o := f_X10_forget__0 σ) (plainFor_of_name (by decide +kernel)) rfl (Nat.le_of_ble_eq_true rfl) hI wk_X10_forget.1 h (fun Γ hRT => ?_)
  show G _ Γ _ _ _ _ _ _ σ [((0 : Nat), Value.ref (a 0))] 0 []
  unfold f_X10_forget__0
  refine g_aload_n (pc := 0) 0 dX10_forget_0 rfl rfl ?_
  refine g_get (pc := 1) 0 cN_0 rfl inlX10 11 (by decide) bw_3_5 rfl dX10_forget_1 ?_
  refine g_cVi (pc := 4) 62 (As := []) (fun r2 h2 => k_X8_size__62 hI h2) wk_X8_size wv_X8_size bw_39_0 cN_62 rfl (by decide) (by decide) rfl rfl (Nat.le_of_ble_eq_true rfl) dX10_forget_4 (fun r1 s2 => ?_)
  refine g_istore_n (pc := 7) [1, 0] (lv1 := [(0, Value.ref (a 0)), (1, Value.int r1)]) dX10_forget_7 rfl (by decide) rfl ?_
  refine g_aload_n (pc := 8) 0 dX10_forget_8 rfl rfl ?_
  refine g_get (pc := 9) 0 cN_0 rfl inlX10 11 (by decide) bw_3_5 rfl dX10_forget_9 ?_
  refine g_cVv (pc := 12) 62 (As := []) (fun r2 h2 => k_X8_clear__62 hI h2) wk_X8_clear wv_X8_clear bw_13_13 cN_62 rfl (by decide) (by decide) rfl rfl (Nat.le_of_ble_eq_true rfl) dX10_forget_12 (fun r3 s4 => ?_)
  refine g_iload_n (pc := 15) 1 dX10_forget_15 rfl rfl ?_
  exact g_iret (pc := 16) hRT dX10_forget_16
set_option maxRecDepth 100000 in
set_option maxHeartbeats 4000000 in
theorem k_X10_at__64 {l : Launch} {D : va_G} {a : Nat → Nat} {cI cS : ClassId} (hI : ∀ σ : St, va_D (AN a) (cN a cI cS σ)) {σ : St} {x1 : Int32} {r : Int32 × St} (h : f_X10_at__64 σ x1 = some r) : Kc (SN l D a cI cS) yX10_at cX10_at 2 (some .int) 0 [Value.ref (a 64), Value.int x1] σ r := by
  refine enter (own := RX10) (o := f_X10_at__64 σ x1) (plainFor_of_name (by decide +kernel)) rfl (Nat.le_of_ble_eq_true rfl) hI wk_X10_at.1 h (fun Γ hRT => ?_)
  show G _ Γ _ _ _ _ _ _ σ [((0 : Nat), Value.ref (a 64)), ((1 : Nat), Value.int x1)] 0 []
  unfold f_X10_at__64
  refine g_aload_n (pc := 0) 0 dX10_at_0 rfl rfl ?_
  refine g_ifnull (pc := 1) dX10_at_1 ?_
  refine g_jq0 (pc2 := 20) (lf := ([] : List (Nat × Value))) (sf := ([] : List Value)) (fun s3 => ?_) (fun k2 hk2 => ?_)
  · show G _ Γ _ _ _ _ _ _ s3 ([] : List (Nat × Value)) 20 ([] : List Value)
    refine g_iconst (pc := 20) (v := 0) dX10_at_20 (by decide) ?_
    exact g_iret (pc := 21) hRT dX10_at_21
  · refine g_iload_n (pc := 4) 1 dX10_at_4 rfl rfl ?_
    refine g_if_lt (pc := 5) (tgt := 20) dX10_at_5 (by decide) ?_ ?_
    · exact g_lv [] rfl (hk2 σ)
    · refine g_iload_n (pc := 8) 1 dX10_at_8 rfl rfl ?_
      refine g_aload_n (pc := 9) 0 dX10_at_9 rfl rfl ?_
      refine g_alen (pc := 10) 64 0 (v := 6) cN_64 rfl (show Int32.ofNat 6 = 6 by decide) dX10_at_10 ?_
      refine g_icmp_ge (pc := 11) (tgt := 20) dX10_at_11 (by decide) ?_ ?_
      · exact g_lv [] rfl (hk2 σ)
      · refine g_aload_n (pc := 14) 0 dX10_at_14 rfl rfl ?_
        refine g_iload_n (pc := 15) 1 dX10_at_15 rfl rfl ?_
        refine g_iald (pc := 16) 64 cN_64 rfl dX10_at_16 ?_
        refine g_goto (pc := 17) (tgt := 21) dX10_at_17 (by decide) ?_
        exact g_iret (pc := 21) hRT dX10_at_21
set_option maxRecDepth 100000 in
set_option maxHeartbeats 4000000 in
theorem k_X10_at__65 {l : Launch} {D : va_G} {a : Nat → Nat} {cI cS : ClassId} (hI : ∀ σ : St, va_D (AN a) (cN a cI cS σ)) {σ : St} {x1 : Int32} {r : Int32 × St} (h : f_X10_at__65 σ x1 = some r) : Kc (SN l D a cI cS) yX10_at cX10_at 2 (some .int) 0 [Value.ref (a 65), Value.int x1] σ r := by
  refine enter (own := RX10) (o := f_X10_at__65 σ x1) (plainFor_of_name (by decide +kernel)) rfl (Nat.le_of_ble_eq_true rfl) hI wk_X10_at.1 h (fun Γ hRT => ?_)
  show G _ Γ _ _ _ _ _ _ σ [((0 : Nat), Value.ref (a 65)), ((1 : Nat), Value.int x1)] 0 []
  unfold f_X10_at__65
  refine g_aload_n (pc := 0) 0 dX10_at_0 rfl rfl ?_
  refine g_ifnull (pc := 1) dX10_at_1 ?_
  refine g_jq0 (pc2 := 20) (lf := ([] : List (Nat × Value))) (sf := ([] : List Value)) (fun s3 => ?_) (fun k2 hk2 => ?_)
  · show G _ Γ _ _ _ _ _ _ s3 ([] : List (Nat × Value)) 20 ([] : List Value)
    refine g_iconst (pc := 20) (v := 0) dX10_at_20 (by decide) ?_
    exact g_iret (pc := 21) hRT dX10_at_21
  · refine g_iload_n (pc := 4) 1 dX10_at_4 rfl rfl ?_
    refine g_if_lt (pc := 5) (tgt := 20) dX10_at_5 (by decide) ?_ ?_
    · exact g_lv [] rfl (hk2 σ)
    · refine g_iload_n (pc := 8) 1 dX10_at_8 rfl rfl ?_
      refine g_aload_n (pc := 9) 0 dX10_at_9 rfl rfl ?_
      refine g_alen (pc := 10) 65 0 (v := 6) cN_65 rfl (show Int32.ofNat 6 = 6 by decide) dX10_at_10 ?_
      refine g_icmp_ge (pc := 11) (tgt := 20) dX10_at_11 (by decide) ?_ ?_
      · exact g_lv [] rfl (hk2 σ)
      · refine g_aload_n (pc := 14) 0 dX10_at_14 rfl rfl ?_
        refine g_iload_n (pc := 15) 1 dX10_at_15 rfl rfl ?_
        refine g_iald (pc := 16) 65 cN_65 rfl dX10_at_16 ?_
        refine g_goto (pc := 17) (tgt := 21) dX10_at_17 (by decide) ?_
        exact g_iret (pc := 21) hRT dX10_at_21
set_option maxRecDepth 100000 in
set_option maxHeartbeats 4000000 in
theorem k_X10_at__63 {l : Launch} {D : va_G} {a : Nat → Nat} {cI cS : ClassId} (hI : ∀ σ : St, va_D (AN a) (cN a cI cS σ)) {σ : St} {x1 : Int32} {r : Int32 × St} (h : f_X10_at__63 σ x1 = some r) : Kc (SN l D a cI cS) yX10_at cX10_at 2 (some .int) 0 [Value.ref (a 63), Value.int x1] σ r := by
  refine enter (own := RX10) (o := f_X10_at__63 σ x1) (plainFor_of_name (by decide +kernel)) rfl (Nat.le_of_ble_eq_true rfl) hI wk_X10_at.1 h (fun Γ hRT => ?_)
  show G _ Γ _ _ _ _ _ _ σ [((0 : Nat), Value.ref (a 63)), ((1 : Nat), Value.int x1)] 0 []
  unfold f_X10_at__63
  refine g_aload_n (pc := 0) 0 dX10_at_0 rfl rfl ?_
  refine g_ifnull (pc := 1) dX10_at_1 ?_
  refine g_jq0 (pc2 := 20) (lf := ([] : List (Nat × Value))) (sf := ([] : List Value)) (fun s3 => ?_) (fun k2 hk2 => ?_)
  · show G _ Γ _ _ _ _ _ _ s3 ([] : List (Nat × Value)) 20 ([] : List Value)
    refine g_iconst (pc := 20) (v := 0) dX10_at_20 (by decide) ?_
    exact g_iret (pc := 21) hRT dX10_at_21
  · refine g_iload_n (pc := 4) 1 dX10_at_4 rfl rfl ?_
    refine g_if_lt (pc := 5) (tgt := 20) dX10_at_5 (by decide) ?_ ?_
    · exact g_lv [] rfl (hk2 σ)
    · refine g_iload_n (pc := 8) 1 dX10_at_8 rfl rfl ?_
      refine g_aload_n (pc := 9) 0 dX10_at_9 rfl rfl ?_
      refine g_alen (pc := 10) 63 0 (v := 6) cN_63 rfl (show Int32.ofNat 6 = 6 by decide) dX10_at_10 ?_
      refine g_icmp_ge (pc := 11) (tgt := 20) dX10_at_11 (by decide) ?_ ?_
      · exact g_lv [] rfl (hk2 σ)
      · refine g_aload_n (pc := 14) 0 dX10_at_14 rfl rfl ?_
        refine g_iload_n (pc := 15) 1 dX10_at_15 rfl rfl ?_
        refine g_iald (pc := 16) 63 cN_63 rfl dX10_at_16 ?_
        refine g_goto (pc := 17) (tgt := 21) dX10_at_17 (by decide) ?_
        exact g_iret (pc := 21) hRT dX10_at_21
set_option maxRecDepth 100000 in
set_option maxHeartbeats 4000000 in
theorem k_X10_at__66 {l : Launch} {D : va_G} {a : Nat → Nat} {cI cS : ClassId} (hI : ∀ σ : St, va_D (AN a) (cN a cI cS σ)) {σ : St} {x1 : Int32} {r : Int32 × St} (h : f_X10_at__66 σ x1 = some r) : Kc (SN l D a cI cS) yX10_at cX10_at 2 (some .int) 0 [Value.ref (a 66), Value.int x1] σ r := by
  refine enter (own := RX10) (o := f_X10_at__66 σ x1) (plainFor_of_name (by decide +kernel)) rfl (Nat.le_of_ble_eq_true rfl) hI wk_X10_at.1 h (fun Γ hRT => ?_)
  show G _ Γ _ _ _ _ _ _ σ [((0 : Nat), Value.ref (a 66)), ((1 : Nat), Value.int x1)] 0 []
  unfold f_X10_at__66
  refine g_aload_n (pc := 0) 0 dX10_at_0 rfl rfl ?_
  refine g_ifnull (pc := 1) dX10_at_1 ?_
  refine g_jq0 (pc2 := 20) (lf := ([] : List (Nat × Value))) (sf := ([] : List Value)) (fun s3 => ?_) (fun k2 hk2 => ?_)
  · show G _ Γ _ _ _ _ _ _ s3 ([] : List (Nat × Value)) 20 ([] : List Value)
    refine g_iconst (pc := 20) (v := 0) dX10_at_20 (by decide) ?_
    exact g_iret (pc := 21) hRT dX10_at_21
  · refine g_iload_n (pc := 4) 1 dX10_at_4 rfl rfl ?_
    refine g_if_lt (pc := 5) (tgt := 20) dX10_at_5 (by decide) ?_ ?_
    · exact g_lv [] rfl (hk2 σ)
    · refine g_iload_n (pc := 8) 1 dX10_at_8 rfl rfl ?_
      refine g_aload_n (pc := 9) 0 dX10_at_9 rfl rfl ?_
      refine g_alen (pc := 10) 66 0 (v := 6) cN_66 rfl (show Int32.ofNat 6 = 6 by decide) dX10_at_10 ?_
      refine g_icmp_ge (pc := 11) (tgt := 20) dX10_at_11 (by decide) ?_ ?_
      · exact g_lv [] rfl (hk2 σ)
      · refine g_aload_n (pc := 14) 0 dX10_at_14 rfl rfl ?_
        refine g_iload_n (pc := 15) 1 dX10_at_15 rfl rfl ?_
        refine g_iald (pc := 16) 66 cN_66 rfl dX10_at_16 ?_
        refine g_goto (pc := 17) (tgt := 21) dX10_at_17 (by decide) ?_
        exact g_iret (pc := 21) hRT dX10_at_21
set_option maxRecDepth 100000 in
set_option maxHeartbeats 4000000 in
theorem k_X8_isSo__62 {l : Launch} {D : va_G} {a : Nat → Nat} {cI cS : ClassId} (hI : ∀ σ : St, va_D (AN a) (cN a cI cS σ)) {σ : St} {x1 x2 : Int32} {r : Int32 × St} (h : f_X8_isSo__62 σ x1 x2 = some r) : Kc (SN l D a cI cS) yX8_isSo cX8_isSo 3 (some .boolean) 2 [Value.ref (a 62), Value.int x1, Value.int x2] σ r := by
  refine enter (own := RX8) (o := f_X8_isSo__62 σ x1 x2) (plainFor_of_name (by decide +kernel)) rfl (Nat.le_of_ble_eq_true rfl) hI wk_X8_isSo.1 h (fun Γ hRT => ?_)
  show G _ Γ _ _ _ _ _ _ σ [((0 : Nat), Value.ref (a 62)), ((1 : Nat), Value.int x1), ((2 : Nat), Value.int x2)] 0 []
  unfold f_X8_isSo__62
  refine g_jq2 (pc2 := 29) (lf := fun x4 x5 => ([] : List (Nat × Value))) (sf := fun x4 x5 => [Value.int x4, Value.int x5]) (fun s6 x4 x5 => ?_) (fun k3 hk3 => ?_)
  · show G _ Γ _ _ _ _ _ _ s6 ([] : List (Nat × Value)) 29 [Value.int x4, Value.int x5]
    refine g_icmp_ne (pc := 29) (tgt := 36) dX8_isSo_29 (by decide) ?_ ?_
    · refine g_iconst (pc := 36) (v := 0) dX8_isSo_36 (by decide) ?_
      exact g_zret1 (pc := 37) hRT (by decide) dX8_isSo_37
    · refine g_iconst (pc := 32) (v := 1) dX8_isSo_32 (by decide) ?_
      refine g_goto (pc := 33) (tgt := 37) dX8_isSo_33 (by decide) ?_
      exact g_zret1 (pc := 37) hRT (by decide) dX8_isSo_37
  · refine g_iload_n (pc := 0) 2 dX8_isSo_0 rfl rfl ?_
    refine g_aload_n (pc := 1) 0 dX8_isSo_1 rfl rfl ?_
    refine g_get (pc := 2) 62 cN_62 rfl inlX8 2 (by decide) bw_7_1 rfl dX8_isSo_2 ?_
    refine g_iload_n (pc := 5) 1 dX8_isSo_5 rfl rfl ?_
    refine g_cNi (pc := 6) (As := [Value.ref (a 63), Value.int x1]) (fun r2 h2 => k_X10_at__63 hI h2) wk_X10_at ws_X10_at nst_RX8_59 (by decide) (by decide) rfl rfl (Nat.le_of_ble_eq_true rfl) dX8_isSo_6 (fun r7 s8 => ?_)
    refine g_cNz (pc := 9) (As := [Value.int x2, Value.int r7]) (fun r2 h2 => k_X10_holds hI h2) wk_X10_holds ws_X10_holds nst_RX8_81 (by decide) (by decide) rfl rfl (Nat.le_of_ble_eq_true rfl) dX8_isSo_9 (fun r9 s10 => ?_)
    refine g_aload_n (pc := 12) 0 dX8_isSo_12 rfl rfl ?_
    refine g_get (pc := 13) 62 cN_62 rfl inlX8 5 (by decide) bw_7_4 rfl dX8_isSo_13 ?_
    refine g_iload_n (pc := 16) 1 dX8_isSo_16 rfl rfl ?_
    refine g_cNi (pc := 17) (As := [Value.ref (a 66), Value.int x1]) (fun r2 h2 => k_X10_at__66 hI h2) wk_X10_at ws_X10_at nst_RX8_59 (by decide) (by decide) rfl rfl (Nat.le_of_ble_eq_true rfl) dX8_isSo_17 (fun r11 s12 => ?_)
    refine g_iconst (pc := 20) (v := 1) dX8_isSo_20 (by decide) ?_
    refine g_icmp_ne (pc := 21) (tgt := 28) dX8_isSo_21 (by decide) ?_ ?_
    · refine g_iconst (pc := 28) (v := 0) dX8_isSo_28 (by decide) ?_
      exact g_lv [] rfl (hk3 s12 _ _)
    · refine g_iconst (pc := 24) (v := 1) dX8_isSo_24 (by decide) ?_
      refine g_goto (pc := 25) (tgt := 29) dX8_isSo_25 (by decide) ?_
      exact g_lv [] rfl (hk3 s12 _ _)
set_option maxRecDepth 100000 in
set_option maxHeartbeats 4000000 in
theorem k_X8_allSoFrom__62 {l : Launch} {D : va_G} {a : Nat → Nat} {cI cS : ClassId} (hI : ∀ σ : St, va_D (AN a) (cN a cI cS σ)) {σ : St} {x1 x2 : Int32} {r : Int32 × St} (h : f_X8_allSoFrom__62 σ x1 x2 = some r) : Kc (SN l D a cI cS) yX8_allSoFrom cX8_allSoFrom 4 (some .boolean) 4 [Value.ref (a 62), Value.int x1, Value.int x2] σ r := by
  refine enter (own := RX8) (o := f_X8_allSoFrom__62 σ x1 x2) (plainFor_of_name (by decide +kernel)) rfl (Nat.le_of_ble_eq_true rfl) hI wk_X8_allSoFrom.1 h (fun Γ hRT => ?_)
  show G _ Γ _ _ _ _ _ _ σ [((0 : Nat), Value.ref (a 62)), ((1 : Nat), Value.int x1), ((2 : Nat), Value.int x2)] 0 []
  unfold f_X8_allSoFrom__62
  refine g_aload_n (pc := 0) 0 dX8_allSoFrom_0 rfl rfl ?_
  refine g_get (pc := 1) 62 cN_62 rfl inlX8 1 (by decide) bw_7_7 rfl dX8_allSoFrom_1 ?_
  refine g_iload_n (pc := 4) 2 dX8_allSoFrom_4 rfl rfl ?_
  refine g_cVv (pc := 5) 56 (As := [Value.int x2]) (fun r2 h2 => k_X1_pick__56 hI h2) wk_X1_pick wv_X1_pick bw_40_5 cN_56 rfl (by decide) (by decide) rfl rfl (Nat.le_of_ble_eq_true rfl) dX8_allSoFrom_5 (fun r3 s4 => ?_)
  refine g_iconst (pc := 8) (v := 0) dX8_allSoFrom_8 (by decide) ?_
  refine g_istore_n (pc := 9) [1, 2, 3, 0] (lv1 := [(0, Value.ref (a 62)), (1, Value.int x1), (2, Value.int x2), (3, Value.int (0 : Int32))]) dX8_allSoFrom_9 rfl (by decide) rfl ?_
  refine g_lq1 (pc := 10) (lf := fun x6 => [((0 : Nat), Value.ref (a 62)), ((1 : Nat), Value.int x1), ((2 : Nat), Value.int x2), ((3 : Nat), Value.int x6)]) (sf := fun x6 => ([] : List Value)) (fun k5 hk5 s7 x6 => ?_) 100000 s4 _
  show G _ Γ _ _ _ _ _ _ s7 [((0 : Nat), Value.ref (a 62)), ((1 : Nat), Value.int x1), ((2 : Nat), Value.int x2), ((3 : Nat), Value.int x6)] 10 ([] : List Value)
  refine g_iload_n (pc := 10) 3 dX8_allSoFrom_10 rfl rfl ?_
  refine g_aload_n (pc := 11) 0 dX8_allSoFrom_11 rfl rfl ?_
  refine g_get (pc := 12) 62 cN_62 rfl inlX8 6 (by decide) bw_7_5 rfl dX8_allSoFrom_12 ?_
  refine g_icmp_ge (pc := 15) (tgt := 66) dX8_allSoFrom_15 (by decide) ?_ ?_
  · refine g_iconst (pc := 66) (v := 1) dX8_allSoFrom_66 (by decide) ?_
    exact g_zret1 (pc := 67) hRT (by decide) dX8_allSoFrom_67
  · refine g_jq0 (pc2 := 60) (lf := [((0 : Nat), Value.ref (a 62)), ((1 : Nat), Value.int x1), ((2 : Nat), Value.int x2), ((3 : Nat), Value.int x6)]) (sf := ([] : List Value)) (fun s9 => ?_) (fun k8 hk8 => ?_)
    · show G _ Γ _ _ _ _ _ _ s9 [((0 : Nat), Value.ref (a 62)), ((1 : Nat), Value.int x1), ((2 : Nat), Value.int x2), ((3 : Nat), Value.int x6)] 60 ([] : List Value)
      refine g_iinc (pc := 60) [1, 2, 3, 0] 3 (n1 := 1) (lv1 := fun x10 => [(0, Value.ref (a 62)), (1, Value.int x1), (2, Value.int x2), (3, Value.int x10)]) dX8_allSoFrom_60 rfl (by decide) (by decide) (fun _ => rfl) (fun x10 => ?_)
      show G _ Γ _ _ _ _ _ _ _ [(0, Value.ref (a 62)), (1, Value.int x1), (2, Value.int x2), (3, Value.int x10)] (60 + 3) _
      refine g_goto (pc := 63) (tgt := 10) dX8_allSoFrom_63 (by decide) ?_
      exact hk5 s9 _
    · refine g_aload_n (pc := 18) 0 dX8_allSoFrom_18 rfl rfl ?_
      refine g_get (pc := 19) 62 cN_62 rfl inlX8 3 (by decide) bw_7_2 rfl dX8_allSoFrom_19 ?_
      refine g_iload_n (pc := 22) 3 dX8_allSoFrom_22 rfl rfl ?_
      refine g_cNi (pc := 23) (As := [Value.ref (a 64), Value.int x6]) (fun r2 h2 => k_X10_at__64 hI h2) wk_X10_at ws_X10_at nst_RX8_59 (by decide) (by decide) rfl rfl (Nat.le_of_ble_eq_true rfl) dX8_allSoFrom_23 (fun r11 s12 => ?_)
      refine g_iload_n (pc := 26) 2 dX8_allSoFrom_26 rfl rfl ?_
      refine g_icmp_ne (pc := 27) (tgt := 60) dX8_allSoFrom_27 (by decide) ?_ ?_
      · exact hk8 s12
      · refine g_aload_n (pc := 30) 0 dX8_allSoFrom_30 rfl rfl ?_
        refine g_iload_n (pc := 31) 3 dX8_allSoFrom_31 rfl rfl ?_
        refine g_aload_n (pc := 32) 0 dX8_allSoFrom_32 rfl rfl ?_
        refine g_get (pc := 33) 62 cN_62 rfl inlX8 1 (by decide) bw_7_7 rfl dX8_allSoFrom_33 ?_
        refine g_iload_n (pc := 36) 1 dX8_allSoFrom_36 rfl rfl ?_
        refine g_cNi (pc := 37) (As := [Value.int x1]) (fun r2 h2 => k_X10_bit hI h2) wk_X10_bit ws_X10_bit nst_RX8_49 (by decide) (by decide) rfl rfl (Nat.le_of_ble_eq_true rfl) dX8_allSoFrom_37 (fun r13 s14 => ?_)
        refine g_iconst (pc := 40) (v := 0) dX8_allSoFrom_40 (by decide) ?_
        refine g_aload_n (pc := 41) 0 dX8_allSoFrom_41 rfl rfl ?_
        refine g_get (pc := 42) 62 cN_62 rfl inlX8 4 (by decide) bw_7_3 rfl dX8_allSoFrom_42 ?_
        refine g_iload_n (pc := 45) 3 dX8_allSoFrom_45 rfl rfl ?_
        refine g_cNi (pc := 46) (As := [Value.ref (a 65), Value.int x6]) (fun r2 h2 => k_X10_at__65 hI h2) wk_X10_at ws_X10_at nst_RX8_59 (by decide) (by decide) rfl rfl (Nat.le_of_ble_eq_true rfl) dX8_allSoFrom_46 (fun r15 s16 => ?_)
        refine g_cVi (pc := 49) 56 (As := [Value.int r13, Value.int (0 : Int32), Value.int r15]) (fun r2 h2 => k_X1_along__56 hI h2) wk_X1_along wv_X1_along bw_40_6 cN_56 rfl (by decide) (by decide) rfl rfl (Nat.le_of_ble_eq_true rfl) dX8_allSoFrom_49 (fun r17 s18 => ?_)
        refine g_cVz (pc := 52) 62 (As := [Value.int x6, Value.int r17]) (fun r2 h2 => k_X8_isSo__62 hI h2) wk_X8_isSo wv_X8_isSo bw_40_7 cN_62 rfl (by decide) (by decide) rfl rfl (Nat.le_of_ble_eq_true rfl) dX8_allSoFrom_52 (fun r19 s20 => ?_)
        refine g_if_ne (pc := 55) (tgt := 60) dX8_allSoFrom_55 (by decide) ?_ ?_
        · exact hk8 s20
        · refine g_iconst (pc := 58) (v := 0) dX8_allSoFrom_58 (by decide) ?_
          exact g_zret1 (pc := 59) hRT (by decide) dX8_allSoFrom_59
set_option maxRecDepth 100000 in
set_option maxHeartbeats 4000000 in
theorem k_X8_beginnings__62 {l : Launch} {D : va_G} {a : Nat → Nat} {cI cS : ClassId} (hI : ∀ σ : St, va_D (AN a) (cN a cI cS σ)) {σ : St} {x1 : Int32} {r : Int32 × St} (h : f_X8_beginnings__62 σ x1 = some r) : Kc (SN l D a cI cS) yX8_beginnings cX8_beginnings 4 (some .int) 5 [Value.ref (a 62), Value.int x1] σ r := by
  refine enter (own := RX8) (o := f_X8_beginnings__62 σ x1) (plainFor_of_name (by decide +kernel)) rfl (Nat.le_of_ble_eq_true rfl) hI wk_X8_beginnings.1 h (fun Γ hRT => ?_)
  show G _ Γ _ _ _ _ _ _ σ [((0 : Nat), Value.ref (a 62)), ((1 : Nat), Value.int x1)] 0 []
  unfold f_X8_beginnings__62
  refine g_iconst (pc := 0) (v := 0) dX8_beginnings_0 (by decide) ?_
  refine g_istore_n (pc := 1) [1, 2, 0] (lv1 := [(0, Value.ref (a 62)), (1, Value.int x1), (2, Value.int (0 : Int32))]) dX8_beginnings_1 rfl (by decide) rfl ?_
  refine g_iconst (pc := 2) (v := 0) dX8_beginnings_2 (by decide) ?_
  refine g_istore_n (pc := 3) [1, 2, 3, 0] (lv1 := [(0, Value.ref (a 62)), (1, Value.int x1), (2, Value.int (0 : Int32)), (3, Value.int (0 : Int32))]) dX8_beginnings_3 rfl (by decide) rfl ?_
  refine g_lq2 (pc := 4) (lf := fun x3 x4 => [((0 : Nat), Value.ref (a 62)), ((1 : Nat), Value.int x1), ((2 : Nat), Value.int x3), ((3 : Nat), Value.int x4)]) (sf := fun x3 x4 => ([] : List Value)) (fun k2 hk2 s5 x3 x4 => ?_) 100000 σ _ _
  show G _ Γ _ _ _ _ _ _ s5 [((0 : Nat), Value.ref (a 62)), ((1 : Nat), Value.int x1), ((2 : Nat), Value.int x3), ((3 : Nat), Value.int x4)] 4 ([] : List Value)
  refine g_iload_n (pc := 4) 3 dX8_beginnings_4 rfl rfl ?_
  refine g_aload_n (pc := 5) 0 dX8_beginnings_5 rfl rfl ?_
  refine g_get (pc := 6) 62 cN_62 rfl inlX8 0 (by decide) bw_7_6 rfl dX8_beginnings_6 ?_
  refine g_cVi (pc := 9) 12 (As := []) (fun r2 h2 => k_X4_houses__12 hI h2) wk_X4_houses wv_X4_houses bw_40_0 cN_12 rfl (by decide) (by decide) rfl rfl (Nat.le_of_ble_eq_true rfl) dX8_beginnings_9 (fun r6 s7 => ?_)
  refine g_icmp_ge (pc := 12) (tgt := 37) dX8_beginnings_12 (by decide) ?_ ?_
  · refine g_iload_n (pc := 37) 2 dX8_beginnings_37 rfl rfl ?_
    exact g_iret (pc := 38) hRT dX8_beginnings_38
  · refine g_jq1 (pc2 := 31) (lf := fun x9 => [((0 : Nat), Value.ref (a 62)), ((1 : Nat), Value.int x1), ((2 : Nat), Value.int x9), ((3 : Nat), Value.int x4)]) (sf := fun x9 => ([] : List Value)) (fun s10 x9 => ?_) (fun k8 hk8 => ?_)
    · show G _ Γ _ _ _ _ _ _ s10 [((0 : Nat), Value.ref (a 62)), ((1 : Nat), Value.int x1), ((2 : Nat), Value.int x9), ((3 : Nat), Value.int x4)] 31 ([] : List Value)
      refine g_iinc (pc := 31) [1, 2, 3, 0] 3 (n1 := 1) (lv1 := fun x11 => [(0, Value.ref (a 62)), (1, Value.int x1), (2, Value.int x9), (3, Value.int x11)]) dX8_beginnings_31 rfl (by decide) (by decide) (fun _ => rfl) (fun x11 => ?_)
      show G _ Γ _ _ _ _ _ _ _ [(0, Value.ref (a 62)), (1, Value.int x1), (2, Value.int x9), (3, Value.int x11)] (31 + 3) _
      refine g_goto (pc := 34) (tgt := 4) dX8_beginnings_34 (by decide) ?_
      exact hk2 s10 _ _
    · refine g_aload_n (pc := 15) 0 dX8_beginnings_15 rfl rfl ?_
      refine g_iload_n (pc := 16) 3 dX8_beginnings_16 rfl rfl ?_
      refine g_iload_n (pc := 17) 1 dX8_beginnings_17 rfl rfl ?_
      refine g_cVz (pc := 18) 62 (As := [Value.int x4, Value.int x1]) (fun r2 h2 => k_X8_allSoFrom__62 hI h2) wk_X8_allSoFrom wv_X8_allSoFrom bw_40_1 cN_62 rfl (by decide) (by decide) rfl rfl (Nat.le_of_ble_eq_true rfl) dX8_beginnings_18 (fun r12 s13 => ?_)
      refine g_if_eq (pc := 21) (tgt := 31) dX8_beginnings_21 (by decide) ?_ ?_
      · exact hk8 s13 _
      · refine g_iload_n (pc := 24) 2 dX8_beginnings_24 rfl rfl ?_
        refine g_iload_n (pc := 25) 3 dX8_beginnings_25 rfl rfl ?_
        refine g_cNi (pc := 26) (As := [Value.int x4]) (fun r2 h2 => k_X10_bit hI h2) wk_X10_bit ws_X10_bit nst_RX8_49 (by decide) (by decide) rfl rfl (Nat.le_of_ble_eq_true rfl) dX8_beginnings_26 (fun r14 s15 => ?_)
        refine g_ior (pc := 29) dX8_beginnings_29 ?_
        refine g_nm (fun x16 => ?_)
        refine g_istore_n (pc := 30) [1, 2, 0, 3] (lv1 := [(0, Value.ref (a 62)), (1, Value.int x1), (2, Value.int x16), (3, Value.int x4)]) dX8_beginnings_30 rfl (by decide) rfl ?_
        exact hk8 s15 _
set_option maxRecDepth 100000 in
set_option maxHeartbeats 4000000 in
theorem k_X10_began__0 {l : Launch} {D : va_G} {a : Nat → Nat} {cI cS : ClassId} (hI : ∀ σ : St, va_D (AN a) (cN a cI cS σ)) {σ : St} {x1 : Int32} {r : Int32 × St} (h : f_X10_began__0 σ x1 = some r) : Kc (SN l D a cI cS) yX10_began cX10_began 2 (some .int) 6 [Value.ref (a 0), Value.int x1] σ r := by
  refine enter (own := RX10) (o := f_X10_began__0 σ x1) (plainFor_of_name (by decide +kernel)) rfl (Nat.le_of_ble_eq_true rfl) hI wk_X10_began.1 h (fun Γ hRT => ?_)
  show G _ Γ _ _ _ _ _ _ σ [((0 : Nat), Value.ref (a 0)), ((1 : Nat), Value.int x1)] 0 []
  unfold f_X10_began__0
  refine g_aload_n (pc := 0) 0 dX10_began_0 rfl rfl ?_
  refine g_get (pc := 1) 0 cN_0 rfl inlX10 3 (by decide) bw_2_0 rfl dX10_began_1 ?_
  refine g_iload_n (pc := 4) 1 dX10_began_4 rfl rfl ?_
  refine g_cVz (pc := 5) 12 (As := [Value.int x1]) (fun r2 h2 => k_X4_hasNews__12 hI h2) wk_X4_hasNews wv_X4_hasNews bw_21_6 cN_12 rfl (by decide) (by decide) rfl rfl (Nat.le_of_ble_eq_true rfl) dX10_began_5 (fun r2 s3 => ?_)
  refine g_if_eq (pc := 8) (tgt := 22) dX10_began_8 (by decide) ?_ ?_
  · refine g_iconst (pc := 22) (v := -1) dX10_began_22 (by decide) ?_
    exact g_iret (pc := 23) hRT dX10_began_23
  · refine g_aload_n (pc := 11) 0 dX10_began_11 rfl rfl ?_
    refine g_get (pc := 12) 0 cN_0 rfl inlX10 11 (by decide) bw_3_5 rfl dX10_began_12 ?_
    refine g_iload_n (pc := 15) 1 dX10_began_15 rfl rfl ?_
    refine g_cVi (pc := 16) 62 (As := [Value.int x1]) (fun r2 h2 => k_X8_beginnings__62 hI h2) wk_X8_beginnings wv_X8_beginnings bw_39_20 cN_62 rfl (by decide) (by decide) rfl rfl (Nat.le_of_ble_eq_true rfl) dX10_began_16 (fun r4 s5 => ?_)
    refine g_goto (pc := 19) (tgt := 23) dX10_began_19 (by decide) ?_
    exact g_iret (pc := 23) hRT dX10_began_23
set_option maxRecDepth 100000 in
set_option maxHeartbeats 4000000 in
theorem k_X8_allSoBy__62 {l : Launch} {D : va_G} {a : Nat → Nat} {cI cS : ClassId} (hI : ∀ σ : St, va_D (AN a) (cN a cI cS σ)) {σ : St} {x1 : Int32} {r : Int32 × St} (h : f_X8_allSoBy__62 σ x1 = some r) : Kc (SN l D a cI cS) yX8_allSoBy cX8_allSoBy 4 (some .boolean) 4 [Value.ref (a 62), Value.int x1] σ r := by
  refine enter (own := RX8) (o := f_X8_allSoBy__62 σ x1) (plainFor_of_name (by decide +kernel)) rfl (Nat.le_of_ble_eq_true rfl) hI wk_X8_allSoBy.1 h (fun Γ hRT => ?_)
  show G _ Γ _ _ _ _ _ _ σ [((0 : Nat), Value.ref (a 62)), ((1 : Nat), Value.int x1)] 0 []
  unfold f_X8_allSoBy__62
  refine g_iconst (pc := 0) (v := 0) dX8_allSoBy_0 (by decide) ?_
  refine g_istore_n (pc := 1) [1, 2, 0] (lv1 := [(0, Value.ref (a 62)), (1, Value.int x1), (2, Value.int (0 : Int32))]) dX8_allSoBy_1 rfl (by decide) rfl ?_
  refine g_lq1 (pc := 2) (lf := fun x3 => [((0 : Nat), Value.ref (a 62)), ((1 : Nat), Value.int x1), ((2 : Nat), Value.int x3)]) (sf := fun x3 => ([] : List Value)) (fun k2 hk2 s4 x3 => ?_) 100000 σ _
  show G _ Γ _ _ _ _ _ _ s4 [((0 : Nat), Value.ref (a 62)), ((1 : Nat), Value.int x1), ((2 : Nat), Value.int x3)] 2 ([] : List Value)
  refine g_iload_n (pc := 2) 2 dX8_allSoBy_2 rfl rfl ?_
  refine g_aload_n (pc := 3) 0 dX8_allSoBy_3 rfl rfl ?_
  refine g_get (pc := 4) 62 cN_62 rfl inlX8 6 (by decide) bw_7_5 rfl dX8_allSoBy_4 ?_
  refine g_icmp_ge (pc := 7) (tgt := 87) dX8_allSoBy_7 (by decide) ?_ ?_
  · refine g_iconst (pc := 87) (v := 1) dX8_allSoBy_87 (by decide) ?_
    exact g_zret1 (pc := 88) hRT (by decide) dX8_allSoBy_88
  · refine g_jq1 (pc2 := 70) (lf := fun x6 => [((0 : Nat), Value.ref (a 62)), ((1 : Nat), Value.int x1), ((2 : Nat), Value.int x3), ((3 : Nat), Value.int x6)]) (sf := fun x6 => ([] : List Value)) (fun s7 x6 => ?_) (fun k5 hk5 => ?_)
    · show G _ Γ _ _ _ _ _ _ s7 [((0 : Nat), Value.ref (a 62)), ((1 : Nat), Value.int x1), ((2 : Nat), Value.int x3), ((3 : Nat), Value.int x6)] 70 ([] : List Value)
      refine g_aload_n (pc := 70) 0 dX8_allSoBy_70 rfl rfl ?_
      refine g_iload_n (pc := 71) 2 dX8_allSoBy_71 rfl rfl ?_
      refine g_iload_n (pc := 72) 3 dX8_allSoBy_72 rfl rfl ?_
      refine g_cVz (pc := 73) 62 (As := [Value.int x3, Value.int x6]) (fun r2 h2 => k_X8_isSo__62 hI h2) wk_X8_isSo wv_X8_isSo bw_40_7 cN_62 rfl (by decide) (by decide) rfl rfl (Nat.le_of_ble_eq_true rfl) dX8_allSoBy_73 (fun r8 s9 => ?_)
      refine g_if_ne (pc := 76) (tgt := 81) dX8_allSoBy_76 (by decide) ?_ ?_
      · refine g_iinc (pc := 81) [1, 2, 0, 3] 2 (n1 := 1) (lv1 := fun x10 => [(0, Value.ref (a 62)), (1, Value.int x1), (2, Value.int x10), (3, Value.int x6)]) dX8_allSoBy_81 rfl (by decide) (by decide) (fun _ => rfl) (fun x10 => ?_)
        show G _ Γ _ _ _ _ _ _ _ [(0, Value.ref (a 62)), (1, Value.int x1), (2, Value.int x10), (3, Value.int x6)] (81 + 3) _
        refine g_goto (pc := 84) (tgt := 2) dX8_allSoBy_84 (by decide) ?_
        exact g_lv [0, 1, 2] rfl (hk2 s9 _)
      · refine g_iconst (pc := 79) (v := 0) dX8_allSoBy_79 (by decide) ?_
        exact g_zret1 (pc := 80) hRT (by decide) dX8_allSoBy_80
    · refine g_aload_n (pc := 10) 0 dX8_allSoBy_10 rfl rfl ?_
      refine g_get (pc := 11) 62 cN_62 rfl inlX8 1 (by decide) bw_7_7 rfl dX8_allSoBy_11 ?_
      refine g_aload_n (pc := 14) 0 dX8_allSoBy_14 rfl rfl ?_
      refine g_get (pc := 15) 62 cN_62 rfl inlX8 3 (by decide) bw_7_2 rfl dX8_allSoBy_15 ?_
      refine g_iload_n (pc := 18) 2 dX8_allSoBy_18 rfl rfl ?_
      refine g_cNi (pc := 19) (As := [Value.ref (a 64), Value.int x3]) (fun r2 h2 => k_X10_at__64 hI h2) wk_X10_at ws_X10_at nst_RX8_59 (by decide) (by decide) rfl rfl (Nat.le_of_ble_eq_true rfl) dX8_allSoBy_19 (fun r11 s12 => ?_)
      refine g_cVv (pc := 22) 56 (As := [Value.int r11]) (fun r2 h2 => k_X1_pick__56 hI h2) wk_X1_pick wv_X1_pick bw_40_5 cN_56 rfl (by decide) (by decide) rfl rfl (Nat.le_of_ble_eq_true rfl) dX8_allSoBy_22 (fun r13 s14 => ?_)
      refine g_aload_n (pc := 25) 0 dX8_allSoBy_25 rfl rfl ?_
      refine g_get (pc := 26) 62 cN_62 rfl inlX8 1 (by decide) bw_7_7 rfl dX8_allSoBy_26 ?_
      refine g_cVi (pc := 29) 56 (As := []) (fun r2 h2 => k_X1_whoKnows__56 hI h2) wk_X1_whoKnows wv_X1_whoKnows bw_41_11 cN_56 rfl (by decide) (by decide) rfl rfl (Nat.le_of_ble_eq_true rfl) dX8_allSoBy_29 (fun r15 s16 => ?_)
      refine g_istore_n (pc := 32) [1, 2, 3, 0] (lv1 := [(0, Value.ref (a 62)), (1, Value.int x1), (2, Value.int x3), (3, Value.int r15)]) dX8_allSoBy_32 rfl (by decide) rfl ?_
      refine g_aload_n (pc := 33) 0 dX8_allSoBy_33 rfl rfl ?_
      refine g_get (pc := 34) 62 cN_62 rfl inlX8 4 (by decide) bw_7_3 rfl dX8_allSoBy_34 ?_
      refine g_iload_n (pc := 37) 2 dX8_allSoBy_37 rfl rfl ?_
      refine g_cNi (pc := 38) (As := [Value.ref (a 65), Value.int x3]) (fun r2 h2 => k_X10_at__65 hI h2) wk_X10_at ws_X10_at nst_RX8_59 (by decide) (by decide) rfl rfl (Nat.le_of_ble_eq_true rfl) dX8_allSoBy_38 (fun r17 s18 => ?_)
      refine g_if_le (pc := 41) (tgt := 70) dX8_allSoBy_41 (by decide) ?_ ?_
      · exact hk5 s18 _
      · refine g_aload_n (pc := 44) 0 dX8_allSoBy_44 rfl rfl ?_
        refine g_get (pc := 45) 62 cN_62 rfl inlX8 1 (by decide) bw_7_7 rfl dX8_allSoBy_45 ?_
        refine g_aload_n (pc := 48) 0 dX8_allSoBy_48 rfl rfl ?_
        refine g_get (pc := 49) 62 cN_62 rfl inlX8 1 (by decide) bw_7_7 rfl dX8_allSoBy_49 ?_
        refine g_iload_n (pc := 52) 3 dX8_allSoBy_52 rfl rfl ?_
        refine g_iload_n (pc := 53) 1 dX8_allSoBy_53 rfl rfl ?_
        refine g_cVi (pc := 54) 56 (As := [Value.int r15, Value.int x1]) (fun r2 h2 => k_X1_onward__56 hI h2) wk_X1_onward wv_X1_onward bw_41_12 cN_56 rfl (by decide) (by decide) rfl rfl (Nat.le_of_ble_eq_true rfl) dX8_allSoBy_54 (fun r19 s20 => ?_)
        refine g_iconst (pc := 57) (v := 1) dX8_allSoBy_57 (by decide) ?_
        refine g_aload_n (pc := 58) 0 dX8_allSoBy_58 rfl rfl ?_
        refine g_get (pc := 59) 62 cN_62 rfl inlX8 4 (by decide) bw_7_3 rfl dX8_allSoBy_59 ?_
        refine g_iload_n (pc := 62) 2 dX8_allSoBy_62 rfl rfl ?_
        refine g_cNi (pc := 63) (As := [Value.ref (a 65), Value.int x3]) (fun r2 h2 => k_X10_at__65 hI h2) wk_X10_at ws_X10_at nst_RX8_59 (by decide) (by decide) rfl rfl (Nat.le_of_ble_eq_true rfl) dX8_allSoBy_63 (fun r21 s22 => ?_)
        refine g_cVi (pc := 66) 56 (As := [Value.int r19, Value.int (1 : Int32), Value.int r21]) (fun r2 h2 => k_X1_along__56 hI h2) wk_X1_along wv_X1_along bw_40_6 cN_56 rfl (by decide) (by decide) rfl rfl (Nat.le_of_ble_eq_true rfl) dX8_allSoBy_66 (fun r23 s24 => ?_)
        refine g_istore_n (pc := 69) [1, 2, 3, 0] (lv1 := [(0, Value.ref (a 62)), (1, Value.int x1), (2, Value.int x3), (3, Value.int r23)]) dX8_allSoBy_69 rfl (by decide) rfl ?_
        exact hk5 s24 _
set_option maxRecDepth 100000 in
set_option maxHeartbeats 4000000 in
theorem k_X8_nextWinds__62 {l : Launch} {D : va_G} {a : Nat → Nat} {cI cS : ClassId} (hI : ∀ σ : St, va_D (AN a) (cN a cI cS σ)) {σ : St} {r : Int32 × St} (h : f_X8_nextWinds__62 σ = some r) : Kc (SN l D a cI cS) yX8_nextWinds cX8_nextWinds 3 (some .int) 5 [Value.ref (a 62)] σ r := by
  refine enter (own := RX8) (o := f_X8_nextWinds__62 σ) (plainFor_of_name (by decide +kernel)) rfl (Nat.le_of_ble_eq_true rfl) hI wk_X8_nextWinds.1 h (fun Γ hRT => ?_)
  show G _ Γ _ _ _ _ _ _ σ [((0 : Nat), Value.ref (a 62))] 0 []
  unfold f_X8_nextWinds__62
  refine g_iconst (pc := 0) (v := 0) dX8_nextWinds_0 (by decide) ?_
  refine g_istore_n (pc := 1) [1, 0] (lv1 := [(0, Value.ref (a 62)), (1, Value.int (0 : Int32))]) dX8_nextWinds_1 rfl (by decide) rfl ?_
  refine g_iconst (pc := 2) (v := 0) dX8_nextWinds_2 (by decide) ?_
  refine g_istore_n (pc := 3) [1, 2, 0] (lv1 := [(0, Value.ref (a 62)), (1, Value.int (0 : Int32)), (2, Value.int (0 : Int32))]) dX8_nextWinds_3 rfl (by decide) rfl ?_
  refine g_lq2 (pc := 4) (lf := fun x2 x3 => [((0 : Nat), Value.ref (a 62)), ((1 : Nat), Value.int x2), ((2 : Nat), Value.int x3)]) (sf := fun x2 x3 => ([] : List Value)) (fun k1 hk1 s4 x2 x3 => ?_) 100000 σ _ _
  show G _ Γ _ _ _ _ _ _ s4 [((0 : Nat), Value.ref (a 62)), ((1 : Nat), Value.int x2), ((2 : Nat), Value.int x3)] 4 ([] : List Value)
  refine g_iload_n (pc := 4) 2 dX8_nextWinds_4 rfl rfl ?_
  refine g_iconst (pc := 5) (v := 4) dX8_nextWinds_5 (by decide) ?_
  refine g_icmp_gt (pc := 6) (tgt := 30) dX8_nextWinds_6 (by decide) ?_ ?_
  · refine g_iload_n (pc := 30) 1 dX8_nextWinds_30 rfl rfl ?_
    exact g_iret (pc := 31) hRT dX8_nextWinds_31
  · refine g_jq1 (pc2 := 24) (lf := fun x6 => [((0 : Nat), Value.ref (a 62)), ((1 : Nat), Value.int x6), ((2 : Nat), Value.int x3)]) (sf := fun x6 => ([] : List Value)) (fun s7 x6 => ?_) (fun k5 hk5 => ?_)
    · show G _ Γ _ _ _ _ _ _ s7 [((0 : Nat), Value.ref (a 62)), ((1 : Nat), Value.int x6), ((2 : Nat), Value.int x3)] 24 ([] : List Value)
      refine g_iinc (pc := 24) [1, 2, 0] 2 (n1 := 1) (lv1 := fun x8 => [(0, Value.ref (a 62)), (1, Value.int x6), (2, Value.int x8)]) dX8_nextWinds_24 rfl (by decide) (by decide) (fun _ => rfl) (fun x8 => ?_)
      show G _ Γ _ _ _ _ _ _ _ [(0, Value.ref (a 62)), (1, Value.int x6), (2, Value.int x8)] (24 + 3) _
      refine g_goto (pc := 27) (tgt := 4) dX8_nextWinds_27 (by decide) ?_
      exact hk1 s7 _ _
    · refine g_aload_n (pc := 9) 0 dX8_nextWinds_9 rfl rfl ?_
      refine g_iload_n (pc := 10) 2 dX8_nextWinds_10 rfl rfl ?_
      refine g_cVz (pc := 11) 62 (As := [Value.int x3]) (fun r2 h2 => k_X8_allSoBy__62 hI h2) wk_X8_allSoBy wv_X8_allSoBy bw_41_7 cN_62 rfl (by decide) (by decide) rfl rfl (Nat.le_of_ble_eq_true rfl) dX8_nextWinds_11 (fun r9 s10 => ?_)
      refine g_if_eq (pc := 14) (tgt := 24) dX8_nextWinds_14 (by decide) ?_ ?_
      · exact hk5 s10 _
      · refine g_iload_n (pc := 17) 1 dX8_nextWinds_17 rfl rfl ?_
        refine g_iload_n (pc := 18) 2 dX8_nextWinds_18 rfl rfl ?_
        refine g_cNi (pc := 19) (As := [Value.int x3]) (fun r2 h2 => k_X10_bit hI h2) wk_X10_bit ws_X10_bit nst_RX8_49 (by decide) (by decide) rfl rfl (Nat.le_of_ble_eq_true rfl) dX8_nextWinds_19 (fun r11 s12 => ?_)
        refine g_ior (pc := 22) dX8_nextWinds_22 ?_
        refine g_nm (fun x13 => ?_)
        refine g_istore_n (pc := 23) [1, 0, 2] (lv1 := [(0, Value.ref (a 62)), (1, Value.int x13), (2, Value.int x3)]) dX8_nextWinds_23 rfl (by decide) rfl ?_
        exact hk5 s12 _
set_option maxRecDepth 100000 in
set_option maxHeartbeats 4000000 in
theorem k_X10_blew__0 {l : Launch} {D : va_G} {a : Nat → Nat} {cI cS : ClassId} (hI : ∀ σ : St, va_D (AN a) (cN a cI cS σ)) {σ : St} {r : Int32 × St} (h : f_X10_blew__0 σ = some r) : Kc (SN l D a cI cS) yX10_blew cX10_blew 1 (some .int) 6 [Value.ref (a 0)] σ r := by
  refine enter (own := RX10) (o := f_X10_blew__0 σ) (plainFor_of_name (by decide +kernel)) rfl (Nat.le_of_ble_eq_true rfl) hI wk_X10_blew.1 h (fun Γ hRT => ?_)
  show G _ Γ _ _ _ _ _ _ σ [((0 : Nat), Value.ref (a 0))] 0 []
  unfold f_X10_blew__0
  refine g_aload_n (pc := 0) 0 dX10_blew_0 rfl rfl ?_
  refine g_get (pc := 1) 0 cN_0 rfl inlX10 11 (by decide) bw_3_5 rfl dX10_blew_1 ?_
  refine g_cVi (pc := 4) 62 (As := []) (fun r2 h2 => k_X8_nextWinds__62 hI h2) wk_X8_nextWinds wv_X8_nextWinds bw_41_3 cN_62 rfl (by decide) (by decide) rfl rfl (Nat.le_of_ble_eq_true rfl) dX10_blew_4 (fun r1 s2 => ?_)
  exact g_iret (pc := 7) hRT dX10_blew_7
set_option maxRecDepth 100000 in
set_option maxHeartbeats 4000000 in
theorem k_X0_waysOf {l : Launch} {D : va_G} {a : Nat → Nat} {cI cS : ClassId} (hI : ∀ σ : St, va_D (AN a) (cN a cI cS σ)) {σ : St} {x1 : Int32} {r : Int32 × St} (h : f_X0_waysOf σ x1 = some r) : Kc (SN l D a cI cS) yX0_waysOf cX0_waysOf 1 (some .int) 0 [Value.int x1] σ r := by
  refine enter (own := RX0) (o := f_X0_waysOf σ x1) (plainFor_of_name (by decide +kernel)) rfl (Nat.le_of_ble_eq_true rfl) hI wk_X0_waysOf.1 h (fun Γ hRT => ?_)
  show G _ Γ _ _ _ _ _ _ σ [((0 : Nat), Value.int x1)] 0 []
  unfold f_X0_waysOf
  refine g_iconst (pc := 0) (v := 1) dX0_waysOf_0 (by decide) ?_
  refine g_iconst (pc := 1) (v := 2) dX0_waysOf_1 (by decide) ?_
  refine g_iload_n (pc := 2) 0 dX0_waysOf_2 rfl rfl ?_
  refine g_imul (pc := 3) dX0_waysOf_3 ?_
  refine g_ishl (pc := 4) dX0_waysOf_4 ?_
  exact g_iret (pc := 5) hRT dX0_waysOf_5
set_option maxRecDepth 100000 in
set_option maxHeartbeats 4000000 in
theorem k_X0_gustsThatReach__61 {l : Launch} {D : va_G} {a : Nat → Nat} {cI cS : ClassId} (hI : ∀ σ : St, va_D (AN a) (cN a cI cS σ)) {σ : St} {x1 x2 x3 : Int32} {r : Int32 × St} (h : f_X0_gustsThatReach__61 σ x1 x2 x3 = some r) : Kc (SN l D a cI cS) yX0_gustsThatReach cX0_gustsThatReach 8 (some .int) 4 [Value.ref (a 61), Value.int x1, Value.int x2, Value.int x3] σ r := by
  refine enter (own := RX0) (o := f_X0_gustsThatReach__61 σ x1 x2 x3) (plainFor_of_name (by decide +kernel)) rfl (Nat.le_of_ble_eq_true rfl) hI wk_X0_gustsThatReach.1 h (fun Γ hRT => ?_)
  show G _ Γ _ _ _ _ _ _ σ [((0 : Nat), Value.ref (a 61)), ((1 : Nat), Value.int x1), ((2 : Nat), Value.int x2), ((3 : Nat), Value.int x3)] 0 []
  unfold f_X0_gustsThatReach__61
  refine g_iconst (pc := 0) (v := 0) dX0_gustsThatReach_0 (by decide) ?_
  refine g_istore (pc := 1) [1, 2, 3, 4, 0] (lv1 := [(0, Value.ref (a 61)), (1, Value.int x1), (2, Value.int x2), (3, Value.int x3), (4, Value.int (0 : Int32))]) dX0_gustsThatReach_1 (by decide) rfl ?_
  refine g_aload_n (pc := 3) 0 dX0_gustsThatReach_3 rfl rfl ?_
  refine g_get (pc := 4) 61 cN_61 rfl inlX0 1 (by decide) bw_6_20 rfl dX0_gustsThatReach_4 ?_
  refine g_iload_n (pc := 7) 2 dX0_gustsThatReach_7 rfl rfl ?_
  refine g_cVv (pc := 8) 56 (As := [Value.int x2]) (fun r2 h2 => k_X1_pick__56 hI h2) wk_X1_pick wv_X1_pick bw_42_1 cN_56 rfl (by decide) (by decide) rfl rfl (Nat.le_of_ble_eq_true rfl) dX0_gustsThatReach_8 (fun r4 s5 => ?_)
  refine g_iconst (pc := 11) (v := 0) dX0_gustsThatReach_11 (by decide) ?_
  refine g_istore (pc := 12) [1, 2, 3, 4, 5, 0] (lv1 := [(0, Value.ref (a 61)), (1, Value.int x1), (2, Value.int x2), (3, Value.int x3), (4, Value.int (0 : Int32)), (5, Value.int (0 : Int32))]) dX0_gustsThatReach_12 (by decide) rfl ?_
  refine g_lv [0, 1, 3, 4, 5] (lv' := [(0, Value.ref (a 61)), (1, Value.int x1), (3, Value.int x3), (4, Value.int (0 : Int32)), (5, Value.int (0 : Int32))]) rfl ?_
  refine g_lq2 (pc := 14) (lf := fun x7 x8 => [((0 : Nat), Value.ref (a 61)), ((1 : Nat), Value.int x1), ((3 : Nat), Value.int x3), ((4 : Nat), Value.int x7), ((5 : Nat), Value.int x8)]) (sf := fun x7 x8 => ([] : List Value)) (fun k6 hk6 s9 x7 x8 => ?_) 100000 s5 _ _
  show G _ Γ _ _ _ _ _ _ s9 [((0 : Nat), Value.ref (a 61)), ((1 : Nat), Value.int x1), ((3 : Nat), Value.int x3), ((4 : Nat), Value.int x7), ((5 : Nat), Value.int x8)] 14 ([] : List Value)
  refine g_iload (pc := 14) 4 dX0_gustsThatReach_14 rfl ?_
  refine g_iload_n (pc := 16) 2 dX0_gustsThatReach_16 rfl rfl ?_
  refine g_cSi (pc := 17) (As := [Value.int x3]) (fun r2 h2 => k_X0_waysOf hI h2) wk_X0_waysOf ws_X0_waysOf bw_42_2 (by decide) (by decide) rfl rfl (Nat.le_of_ble_eq_true rfl) dX0_gustsThatReach_17 (fun r10 s11 => ?_)
  refine g_icmp_ge (pc := 20) (tgt := 87) dX0_gustsThatReach_20 (by decide) ?_ ?_
  · refine g_iload (pc := 87) 3 dX0_gustsThatReach_87 rfl ?_
    exact g_iret (pc := 89) hRT dX0_gustsThatReach_89
  · refine g_aload_n (pc := 23) 0 dX0_gustsThatReach_23 rfl rfl ?_
    refine g_get (pc := 24) 61 cN_61 rfl inlX0 1 (by decide) bw_6_20 rfl dX0_gustsThatReach_24 ?_
    refine g_cVi (pc := 27) 56 (As := []) (fun r2 h2 => k_X1_whoKnows__56 hI h2) wk_X1_whoKnows wv_X1_whoKnows bw_42_5 cN_56 rfl (by decide) (by decide) rfl rfl (Nat.le_of_ble_eq_true rfl) dX0_gustsThatReach_27 (fun r12 s13 => ?_)
    refine g_istore (pc := 30) [1, 2, 3, 4, 5, 0] (lv1 := [(0, Value.ref (a 61)), (1, Value.int x1), (3, Value.int x3), (4, Value.int x7), (5, Value.int x8), (6, Value.int r12)]) dX0_gustsThatReach_30 (by decide) rfl ?_
    refine g_iconst (pc := 32) (v := 0) dX0_gustsThatReach_32 (by decide) ?_
    refine g_istore (pc := 33) [1, 2, 3, 4, 5, 6, 0] (lv1 := [(0, Value.ref (a 61)), (1, Value.int x1), (3, Value.int x3), (4, Value.int x7), (5, Value.int x8), (6, Value.int r12), (7, Value.int (0 : Int32))]) dX0_gustsThatReach_33 (by decide) rfl ?_
    refine g_lq2 (pc := 35) (lf := fun x15 x16 => [((0 : Nat), Value.ref (a 61)), ((1 : Nat), Value.int x1), ((3 : Nat), Value.int x3), ((4 : Nat), Value.int x7), ((5 : Nat), Value.int x8), ((6 : Nat), Value.int x15), ((7 : Nat), Value.int x16)]) (sf := fun x15 x16 => ([] : List Value)) (fun k14 hk14 s17 x15 x16 => ?_) 100000 s13 _ _
    show G _ Γ _ _ _ _ _ _ s17 [((0 : Nat), Value.ref (a 61)), ((1 : Nat), Value.int x1), ((3 : Nat), Value.int x3), ((4 : Nat), Value.int x7), ((5 : Nat), Value.int x8), ((6 : Nat), Value.int x15), ((7 : Nat), Value.int x16)] 35 ([] : List Value)
    refine g_iload (pc := 35) 6 dX0_gustsThatReach_35 rfl ?_
    refine g_iload_n (pc := 37) 2 dX0_gustsThatReach_37 rfl rfl ?_
    refine g_icmp_ge (pc := 38) (tgt := 69) dX0_gustsThatReach_38 (by decide) ?_ ?_
    · refine g_jq1 (pc2 := 81) (lf := fun x19 => [((0 : Nat), Value.ref (a 61)), ((1 : Nat), Value.int x1), ((3 : Nat), Value.int x3), ((4 : Nat), Value.int x19), ((5 : Nat), Value.int x8)]) (sf := fun x19 => ([] : List Value)) (fun s20 x19 => ?_) (fun k18 hk18 => ?_)
      · show G _ Γ _ _ _ _ _ _ s20 [((0 : Nat), Value.ref (a 61)), ((1 : Nat), Value.int x1), ((3 : Nat), Value.int x3), ((4 : Nat), Value.int x19), ((5 : Nat), Value.int x8)] 81 ([] : List Value)
        refine g_iinc (pc := 81) [1, 2, 3, 4, 0] 4 (n1 := 1) (lv1 := fun x21 => [(0, Value.ref (a 61)), (1, Value.int x1), (3, Value.int x3), (4, Value.int x19), (5, Value.int x21)]) dX0_gustsThatReach_81 rfl (by decide) (by decide) (fun _ => rfl) (fun x21 => ?_)
        show G _ Γ _ _ _ _ _ _ _ [(0, Value.ref (a 61)), (1, Value.int x1), (3, Value.int x3), (4, Value.int x19), (5, Value.int x21)] (81 + 3) _
        refine g_goto (pc := 84) (tgt := 14) dX0_gustsThatReach_84 (by decide) ?_
        exact hk6 s20 _ _
      · refine g_iload (pc := 69) 5 dX0_gustsThatReach_69 rfl ?_
        refine g_iload_n (pc := 71) 1 dX0_gustsThatReach_71 rfl rfl ?_
        refine g_cNz (pc := 72) (As := [Value.int x15, Value.int x1]) (fun r2 h2 => k_X10_holds hI h2) wk_X10_holds ws_X10_holds nst_RX0_44 (by decide) (by decide) rfl rfl (Nat.le_of_ble_eq_true rfl) dX0_gustsThatReach_72 (fun r22 s23 => ?_)
        refine g_if_eq (pc := 75) (tgt := 81) dX0_gustsThatReach_75 (by decide) ?_ ?_
        · exact g_lv [0, 1, 2, 3, 4] rfl (hk18 s23 _)
        · refine g_iinc (pc := 78) [1, 2, 3, 0, 4, 5, 6] 3 (n1 := 1) (lv1 := fun x24 => [(0, Value.ref (a 61)), (1, Value.int x1), (3, Value.int x3), (4, Value.int x24), (5, Value.int x8), (6, Value.int x15), (7, Value.int x16)]) dX0_gustsThatReach_78 rfl (by decide) (by decide) (fun _ => rfl) (fun x24 => ?_)
          show G _ Γ _ _ _ _ _ _ _ [(0, Value.ref (a 61)), (1, Value.int x1), (3, Value.int x3), (4, Value.int x24), (5, Value.int x8), (6, Value.int x15), (7, Value.int x16)] (78 + 3) _
          exact g_lv [0, 1, 2, 3, 4] rfl (hk18 s23 _)
    · refine g_aload_n (pc := 41) 0 dX0_gustsThatReach_41 rfl rfl ?_
      refine g_get (pc := 42) 61 cN_61 rfl inlX0 1 (by decide) bw_6_20 rfl dX0_gustsThatReach_42 ?_
      refine g_iload (pc := 45) 5 dX0_gustsThatReach_45 rfl ?_
      refine g_iconst (pc := 47) (v := 1) dX0_gustsThatReach_47 (by decide) ?_
      refine g_iload (pc := 48) 4 dX0_gustsThatReach_48 rfl ?_
      refine g_iconst (pc := 50) (v := 2) dX0_gustsThatReach_50 (by decide) ?_
      refine g_iload (pc := 51) 6 dX0_gustsThatReach_51 rfl ?_
      refine g_imul (pc := 53) dX0_gustsThatReach_53 ?_
      refine g_ishr (pc := 54) dX0_gustsThatReach_54 ?_
      refine g_iconst (pc := 55) (v := 3) dX0_gustsThatReach_55 (by decide) ?_
      refine g_iand (pc := 56) dX0_gustsThatReach_56 ?_
      refine g_iadd (pc := 57) dX0_gustsThatReach_57 ?_
      refine g_cVi (pc := 58) 56 (As := [Value.int x15, Value.int ((1 : Int32) + ((x8 >>> (((2 : Int32) * x16) &&& 31)) &&& (3 : Int32)))]) (fun r2 h2 => k_X1_onward__56 hI h2) wk_X1_onward wv_X1_onward bw_42_6 cN_56 rfl (by decide) (by decide) rfl rfl (Nat.le_of_ble_eq_true rfl) dX0_gustsThatReach_58 (fun r25 s26 => ?_)
      refine g_istore (pc := 61) [1, 2, 3, 4, 5, 0, 6] (lv1 := [(0, Value.ref (a 61)), (1, Value.int x1), (3, Value.int x3), (4, Value.int x7), (5, Value.int x8), (6, Value.int r25), (7, Value.int x16)]) dX0_gustsThatReach_61 (by decide) rfl ?_
      refine g_iinc (pc := 63) [1, 2, 3, 4, 5, 6, 0] 6 (n1 := 1) (lv1 := fun x27 => [(0, Value.ref (a 61)), (1, Value.int x1), (3, Value.int x3), (4, Value.int x7), (5, Value.int x8), (6, Value.int r25), (7, Value.int x27)]) dX0_gustsThatReach_63 rfl (by decide) (by decide) (fun _ => rfl) (fun x27 => ?_)
      show G _ Γ _ _ _ _ _ _ _ [(0, Value.ref (a 61)), (1, Value.int x1), (3, Value.int x3), (4, Value.int x7), (5, Value.int x8), (6, Value.int r25), (7, Value.int x27)] (63 + 3) _
      refine g_goto (pc := 66) (tgt := 35) dX0_gustsThatReach_66 (by decide) ?_
      exact hk14 s26 _ _
set_option maxRecDepth 100000 in
set_option maxHeartbeats 4000000 in
theorem k_X0_inLowestTerms__61 {l : Launch} {D : va_G} {a : Nat → Nat} {cI cS : ClassId} (hI : ∀ σ : St, va_D (AN a) (cN a cI cS σ)) {σ : St} {x1 x2 x3 : Int32} {r : Int32 × St} (h : f_X0_inLowestTerms__61 σ x1 x2 x3 = some r) : Kc (SN l D a cI cS) yX0_inLowestTerms cX0_inLowestTerms 7 (some .int) 1 [Value.ref (a 61), Value.int x1, Value.int x2, Value.int x3] σ r := by
  refine enter (own := RX0) (o := f_X0_inLowestTerms__61 σ x1 x2 x3) (plainFor_of_name (by decide +kernel)) rfl (Nat.le_of_ble_eq_true rfl) hI wk_X0_inLowestTerms.1 h (fun Γ hRT => ?_)
  show G _ Γ _ _ _ _ _ _ σ [((0 : Nat), Value.ref (a 61)), ((1 : Nat), Value.int x1), ((2 : Nat), Value.int x2), ((3 : Nat), Value.int x3)] 0 []
  unfold f_X0_inLowestTerms__61
  refine g_iload_n (pc := 0) 1 dX0_inLowestTerms_0 rfl rfl ?_
  refine g_istore (pc := 1) [1, 2, 3, 4, 0] (lv1 := [(0, Value.ref (a 61)), (1, Value.int x1), (2, Value.int x2), (3, Value.int x3), (4, Value.int x1)]) dX0_inLowestTerms_1 (by decide) rfl ?_
  refine g_iload_n (pc := 3) 2 dX0_inLowestTerms_3 rfl rfl ?_
  refine g_cSi (pc := 4) (As := [Value.int x2]) (fun r2 h2 => k_X0_waysOf hI h2) wk_X0_waysOf ws_X0_waysOf bw_42_2 (by decide) (by decide) rfl rfl (Nat.le_of_ble_eq_true rfl) dX0_inLowestTerms_4 (fun r4 s5 => ?_)
  refine g_istore (pc := 7) [1, 2, 3, 4, 5, 0] (lv1 := [(0, Value.ref (a 61)), (1, Value.int x1), (2, Value.int x2), (3, Value.int x3), (4, Value.int x1), (5, Value.int r4)]) dX0_inLowestTerms_7 (by decide) rfl ?_
  refine g_iconst (pc := 9) (v := 0) dX0_inLowestTerms_9 (by decide) ?_
  refine g_istore (pc := 10) [1, 2, 3, 4, 5, 6, 0] (lv1 := [(0, Value.ref (a 61)), (1, Value.int x1), (2, Value.int x2), (3, Value.int x3), (4, Value.int x1), (5, Value.int r4), (6, Value.int (0 : Int32))]) dX0_inLowestTerms_10 (by decide) rfl ?_
  refine g_lv [2, 3, 4, 5, 6] (lv' := [(2, Value.int x2), (3, Value.int x3), (4, Value.int x1), (5, Value.int r4), (6, Value.int (0 : Int32))]) rfl ?_
  refine g_lq3 (pc := 12) (lf := fun x7 x8 x9 => [((2 : Nat), Value.int x2), ((3 : Nat), Value.int x3), ((4 : Nat), Value.int x7), ((5 : Nat), Value.int x8), ((6 : Nat), Value.int x9)]) (sf := fun x7 x8 x9 => ([] : List Value)) (fun k6 hk6 s10 x7 x8 x9 => ?_) 100000 s5 _ _ _
  show G _ Γ _ _ _ _ _ _ s10 [((2 : Nat), Value.int x2), ((3 : Nat), Value.int x3), ((4 : Nat), Value.int x7), ((5 : Nat), Value.int x8), ((6 : Nat), Value.int x9)] 12 ([] : List Value)
  refine g_jq0 (pc2 := 45) (lf := [((3 : Nat), Value.int x3), ((4 : Nat), Value.int x7), ((5 : Nat), Value.int x8)]) (sf := ([] : List Value)) (fun s12 => ?_) (fun k11 hk11 => ?_)
  · show G _ Γ _ _ _ _ _ _ s12 [((3 : Nat), Value.int x3), ((4 : Nat), Value.int x7), ((5 : Nat), Value.int x8)] 45 ([] : List Value)
    refine g_iload_n (pc := 45) 0 dX0_inLowestTerms_45 rfl rfl ?_
    refine g_if_ne (pc := 46) (tgt := 54) dX0_inLowestTerms_46 (by decide) ?_ ?_
    · refine g_iload (pc := 54) 2 dX0_inLowestTerms_54 rfl ?_
      exact g_iret (pc := 56) hRT dX0_inLowestTerms_56
    · refine g_iload (pc := 49) 1 dX0_inLowestTerms_49 rfl ?_
      refine g_goto (pc := 51) (tgt := 56) dX0_inLowestTerms_51 (by decide) ?_
      exact g_iret (pc := 56) hRT dX0_inLowestTerms_56
  · refine g_iload (pc := 12) 4 dX0_inLowestTerms_12 rfl ?_
    refine g_iconst (pc := 14) (v := 2) dX0_inLowestTerms_14 (by decide) ?_
    refine g_iload_n (pc := 15) 0 dX0_inLowestTerms_15 rfl rfl ?_
    refine g_imul (pc := 16) dX0_inLowestTerms_16 ?_
    refine g_icmp_ge (pc := 17) (tgt := 45) dX0_inLowestTerms_17 (by decide) ?_ ?_
    · exact g_lv [1, 2, 3] rfl (hk11 s10)
    · refine g_iload (pc := 20) 2 dX0_inLowestTerms_20 rfl ?_
      refine g_iconst (pc := 22) (v := 2) dX0_inLowestTerms_22 (by decide) ?_
      refine g_irem (pc := 23) dX0_inLowestTerms_23 ?_
      refine g_if_ne (pc := 24) (tgt := 45) dX0_inLowestTerms_24 (by decide) ?_ ?_
      · exact g_lv [1, 2, 3] rfl (hk11 s10)
      · refine g_iload (pc := 27) 2 dX0_inLowestTerms_27 rfl ?_
        refine g_iconst (pc := 29) (v := 2) dX0_inLowestTerms_29 (by decide) ?_
        refine g_idiv (pc := 30) dX0_inLowestTerms_30 ?_
        refine g_nm (fun x13 => ?_)
        refine g_istore (pc := 31) [1, 2, 0, 3, 4] (lv1 := [(2, Value.int x2), (3, Value.int x3), (4, Value.int x13), (5, Value.int x8), (6, Value.int x9)]) dX0_inLowestTerms_31 (by decide) rfl ?_
        refine g_iload (pc := 33) 3 dX0_inLowestTerms_33 rfl ?_
        refine g_iconst (pc := 35) (v := 2) dX0_inLowestTerms_35 (by decide) ?_
        refine g_idiv (pc := 36) dX0_inLowestTerms_36 ?_
        refine g_nm (fun x14 => ?_)
        refine g_istore (pc := 37) [1, 2, 3, 0, 4] (lv1 := [(2, Value.int x2), (3, Value.int x3), (4, Value.int x13), (5, Value.int x14), (6, Value.int x9)]) dX0_inLowestTerms_37 (by decide) rfl ?_
        refine g_iinc (pc := 39) [1, 2, 3, 4, 0] 4 (n1 := 1) (lv1 := fun x15 => [(2, Value.int x2), (3, Value.int x3), (4, Value.int x13), (5, Value.int x14), (6, Value.int x15)]) dX0_inLowestTerms_39 rfl (by decide) (by decide) (fun _ => rfl) (fun x15 => ?_)
        show G _ Γ _ _ _ _ _ _ _ [(2, Value.int x2), (3, Value.int x3), (4, Value.int x13), (5, Value.int x14), (6, Value.int x15)] (39 + 3) _
        refine g_goto (pc := 42) (tgt := 12) dX0_inLowestTerms_42 (by decide) ?_
        exact hk6 s10 _ _ _
set_option maxRecDepth 100000 in
set_option maxHeartbeats 4000000 in
theorem k_X10_gusts__0 {l : Launch} {D : va_G} {a : Nat → Nat} {cI cS : ClassId} (hI : ∀ σ : St, va_D (AN a) (cN a cI cS σ)) {σ : St} {x1 x2 x3 x4 : Int32} {r : Int32 × St} (h : f_X10_gusts__0 σ x1 x2 x3 x4 = some r) : Kc (SN l D a cI cS) yX10_gusts cX10_gusts 5 (some .int) 5 [Value.ref (a 0), Value.int x1, Value.int x2, Value.int x3, Value.int x4] σ r := by
  refine enter (own := RX10) (o := f_X10_gusts__0 σ x1 x2 x3 x4) (plainFor_of_name (by decide +kernel)) rfl (Nat.le_of_ble_eq_true rfl) hI wk_X10_gusts.1 h (fun Γ hRT => ?_)
  show G _ Γ _ _ _ _ _ _ σ [((0 : Nat), Value.ref (a 0)), ((1 : Nat), Value.int x1), ((2 : Nat), Value.int x2), ((3 : Nat), Value.int x3), ((4 : Nat), Value.int x4)] 0 []
  unfold f_X10_gusts__0
  refine g_aload_n (pc := 0) 0 dX10_gusts_0 rfl rfl ?_
  refine g_get (pc := 1) 0 cN_0 rfl inlX10 3 (by decide) bw_2_0 rfl dX10_gusts_1 ?_
  refine g_iload_n (pc := 4) 1 dX10_gusts_4 rfl rfl ?_
  refine g_cVz (pc := 5) 12 (As := [Value.int x1]) (fun r2 h2 => k_X4_hasHouse__12 hI h2) wk_X4_hasHouse wv_X4_hasHouse bw_19_10 cN_12 rfl (by decide) (by decide) rfl rfl (Nat.le_of_ble_eq_true rfl) dX10_gusts_5 (fun r5 s6 => ?_)
  refine g_if_eq (pc := 8) (tgt := 22) dX10_gusts_8 (by decide) ?_ ?_
  · refine g_iconst (pc := 22) (v := -1) dX10_gusts_22 (by decide) ?_
    exact g_iret (pc := 23) hRT dX10_gusts_23
  · refine g_aload_n (pc := 11) 0 dX10_gusts_11 rfl rfl ?_
    refine g_get (pc := 12) 0 cN_0 rfl inlX10 3 (by decide) bw_2_0 rfl dX10_gusts_12 ?_
    refine g_iload_n (pc := 15) 2 dX10_gusts_15 rfl rfl ?_
    refine g_cVz (pc := 16) 12 (As := [Value.int x2]) (fun r2 h2 => k_X4_hasNews__12 hI h2) wk_X4_hasNews wv_X4_hasNews bw_21_6 cN_12 rfl (by decide) (by decide) rfl rfl (Nat.le_of_ble_eq_true rfl) dX10_gusts_16 (fun r7 s8 => ?_)
    refine g_if_ne (pc := 19) (tgt := 24) dX10_gusts_19 (by decide) ?_ ?_
    · refine g_iload_n (pc := 24) 3 dX10_gusts_24 rfl rfl ?_
      refine g_iconst (pc := 25) (v := 0) dX10_gusts_25 (by decide) ?_
      refine g_iconst (pc := 26) (v := 4) dX10_gusts_26 (by decide) ?_
      refine g_cSz (pc := 27) (As := [Value.int x3, Value.int (0 : Int32), Value.int (4 : Int32)]) (fun r2 h2 => k_X10_within hI h2) wk_X10_within ws_X10_within bw_12_4 (by decide) (by decide) rfl rfl (Nat.le_of_ble_eq_true rfl) dX10_gusts_27 (fun r9 s10 => ?_)
      refine g_if_eq (pc := 30) (tgt := 43) dX10_gusts_30 (by decide) ?_ ?_
      · refine g_iconst (pc := 43) (v := -1) dX10_gusts_43 (by decide) ?_
        exact g_iret (pc := 44) hRT dX10_gusts_44
      · refine g_iload (pc := 33) 4 dX10_gusts_33 rfl ?_
        refine g_iconst (pc := 35) (v := 0) dX10_gusts_35 (by decide) ?_
        refine g_iconst (pc := 36) (v := 1) dX10_gusts_36 (by decide) ?_
        refine g_cSz (pc := 37) (As := [Value.int x4, Value.int (0 : Int32), Value.int (1 : Int32)]) (fun r2 h2 => k_X10_within hI h2) wk_X10_within ws_X10_within bw_12_4 (by decide) (by decide) rfl rfl (Nat.le_of_ble_eq_true rfl) dX10_gusts_37 (fun r11 s12 => ?_)
        refine g_if_ne (pc := 40) (tgt := 45) dX10_gusts_40 (by decide) ?_ ?_
        · refine g_aload_n (pc := 45) 0 dX10_gusts_45 rfl rfl ?_
          refine g_get (pc := 46) 0 cN_0 rfl inlX10 10 (by decide) bw_3_1 rfl dX10_gusts_46 ?_
          refine g_aload_n (pc := 49) 0 dX10_gusts_49 rfl rfl ?_
          refine g_get (pc := 50) 0 cN_0 rfl inlX10 10 (by decide) bw_3_1 rfl dX10_gusts_50 ?_
          refine g_iload_n (pc := 53) 1 dX10_gusts_53 rfl rfl ?_
          refine g_iload_n (pc := 54) 2 dX10_gusts_54 rfl rfl ?_
          refine g_iload_n (pc := 55) 3 dX10_gusts_55 rfl rfl ?_
          refine g_cVi (pc := 56) 61 (As := [Value.int x1, Value.int x2, Value.int x3]) (fun r2 h2 => k_X0_gustsThatReach__61 hI h2) wk_X0_gustsThatReach wv_X0_gustsThatReach bw_41_21 cN_61 rfl (by decide) (by decide) rfl rfl (Nat.le_of_ble_eq_true rfl) dX10_gusts_56 (fun r13 s14 => ?_)
          refine g_iload_n (pc := 59) 3 dX10_gusts_59 rfl rfl ?_
          refine g_iload (pc := 60) 4 dX10_gusts_60 rfl ?_
          refine g_cVi (pc := 62) 61 (As := [Value.int r13, Value.int x3, Value.int x4]) (fun r2 h2 => k_X0_inLowestTerms__61 hI h2) wk_X0_inLowestTerms wv_X0_inLowestTerms bw_42_7 cN_61 rfl (by decide) (by decide) rfl rfl (Nat.le_of_ble_eq_true rfl) dX10_gusts_62 (fun r15 s16 => ?_)
          exact g_iret (pc := 65) hRT dX10_gusts_65
        · refine g_iconst (pc := 43) (v := -1) dX10_gusts_43 (by decide) ?_
          exact g_iret (pc := 44) hRT dX10_gusts_44
    · refine g_iconst (pc := 22) (v := -1) dX10_gusts_22 (by decide) ?_
      exact g_iret (pc := 23) hRT dX10_gusts_23
set_option maxRecDepth 100000 in
set_option maxHeartbeats 4000000 in
theorem k_X0_draw {l : Launch} {D : va_G} {a : Nat → Nat} {cI cS : ClassId} (hI : ∀ σ : St, va_D (AN a) (cN a cI cS σ)) {σ : St} {x1 x2 : Int32} {r : Int32 × St} (h : f_X0_draw σ x1 x2 = some r) : Kc (SN l D a cI cS) yX0_draw cX0_draw 4 (some .int) 0 [Value.int x1, Value.int x2] σ r := by
  refine enter (own := RX0) (o := f_X0_draw σ x1 x2) (plainFor_of_name (by decide +kernel)) rfl (Nat.le_of_ble_eq_true rfl) hI wk_X0_draw.1 h (fun Γ hRT => ?_)
  show G _ Γ _ _ _ _ _ _ σ [((0 : Nat), Value.int x1), ((1 : Nat), Value.int x2)] 0 []
  unfold f_X0_draw
  refine g_ldc2 (pc := 0) bw_43_3 dX0_draw_0 ?_
  refine g_iload_n (pc := 3) 0 dX0_draw_3 rfl rfl ?_
  refine g_i2l (pc := 4) dX0_draw_4 ?_
  refine g_lmul (pc := 5) dX0_draw_5 ?_
  refine g_ldc2 (pc := 6) bw_43_4 dX0_draw_6 ?_
  refine g_iload_n (pc := 9) 1 dX0_draw_9 rfl rfl ?_
  refine g_i2l (pc := 10) dX0_draw_10 ?_
  refine g_lmul (pc := 11) dX0_draw_11 ?_
  refine g_ladd (pc := 12) dX0_draw_12 ?_
  refine g_lconst (pc := 13) (v := 1) dX0_draw_13 (by decide) ?_
  refine g_ladd (pc := 14) dX0_draw_14 ?_
  refine g_nml (fun y3 => ?_)
  refine g_lstore_n (pc := 15) [1, 2, 0] (lv1 := [(0, Value.int x1), (1, Value.int x2), (2, Value.long y3)]) dX0_draw_15 rfl (by decide) rfl ?_
  refine g_lload_n (pc := 16) 2 dX0_draw_16 rfl rfl ?_
  refine g_lload_n (pc := 17) 2 dX0_draw_17 rfl rfl ?_
  refine g_lmul (pc := 18) dX0_draw_18 ?_
  refine g_ldc2 (pc := 19) bw_43_5 dX0_draw_19 ?_
  refine g_lrem (pc := 22) dX0_draw_22 ?_
  refine g_ldc2 (pc := 23) bw_43_6 dX0_draw_23 ?_
  refine g_ldiv (pc := 26) dX0_draw_26 ?_
  refine g_l2i (pc := 27) dX0_draw_27 ?_
  exact g_iret (pc := 28) hRT dX0_draw_28
set_option maxRecDepth 100000 in
set_option maxHeartbeats 4000000 in
theorem k_X0_openByDraw__61 {l : Launch} {D : va_G} {a : Nat → Nat} {cI cS : ClassId} (hI : ∀ σ : St, va_D (AN a) (cN a cI cS σ)) {σ : St} {x1 : Int32} {r : Int32 × St} (h : f_X0_openByDraw__61 σ x1 = some r) : Kc (SN l D a cI cS) yX0_openByDraw cX0_openByDraw 3 none 3 [Value.ref (a 61), Value.int x1] σ r := by
  refine enter (own := RX0) (o := f_X0_openByDraw__61 σ x1) (plainFor_of_name (by decide +kernel)) rfl (Nat.le_of_ble_eq_true rfl) hI wk_X0_openByDraw.1 h (fun Γ hRT => ?_)
  show G _ Γ _ _ _ _ _ _ σ [((0 : Nat), Value.ref (a 61)), ((1 : Nat), Value.int x1)] 0 []
  unfold f_X0_openByDraw__61
  refine g_aload_n (pc := 0) 0 dX0_openByDraw_0 rfl rfl ?_
  refine g_get (pc := 1) 61 cN_61 rfl inlX0 0 (by decide) bw_6_19 rfl dX0_openByDraw_1 ?_
  refine g_cVi (pc := 4) 12 (As := []) (fun r2 h2 => k_X4_houses__12 hI h2) wk_X4_houses wv_X4_houses bw_43_11 cN_12 rfl (by decide) (by decide) rfl rfl (Nat.le_of_ble_eq_true rfl) dX0_openByDraw_4 (fun r2 s3 => ?_)
  refine g_istore_n (pc := 7) [1, 2, 0] (lv1 := [(0, Value.ref (a 61)), (1, Value.int x1), (2, Value.int r2)]) dX0_openByDraw_7 rfl (by decide) rfl ?_
  refine g_iload_n (pc := 8) 2 dX0_openByDraw_8 rfl rfl ?_
  refine g_if_le (pc := 9) (tgt := 29) dX0_openByDraw_9 (by decide) ?_ ?_
  · exact g_vret (pc := 29) hRT dX0_openByDraw_29
  · refine g_aload_n (pc := 12) 0 dX0_openByDraw_12 rfl rfl ?_
    refine g_get (pc := 13) 61 cN_61 rfl inlX0 1 (by decide) bw_6_20 rfl dX0_openByDraw_13 ?_
    refine g_iload_n (pc := 16) 1 dX0_openByDraw_16 rfl rfl ?_
    refine g_iload_n (pc := 17) 2 dX0_openByDraw_17 rfl rfl ?_
    refine g_irem (pc := 18) dX0_openByDraw_18 ?_
    refine g_iload_n (pc := 19) 1 dX0_openByDraw_19 rfl rfl ?_
    refine g_bipush (pc := 20) (v := 16) dX0_openByDraw_20 (by decide) ?_
    refine g_idiv (pc := 22) dX0_openByDraw_22 ?_
    refine g_bipush (pc := 23) (v := 7) dX0_openByDraw_23 (by decide) ?_
    refine g_irem (pc := 25) dX0_openByDraw_25 ?_
    refine g_cVv (pc := 26) 56 (As := [Value.int (x1 - x1 / r2 * r2), Value.int ((x1 / (16 : Int32)) - (x1 / (16 : Int32)) / (7 : Int32) * (7 : Int32))]) (fun r2 h2 => k_X1_reopen__56 hI h2) wk_X1_reopen wv_X1_reopen bw_43_12 cN_56 rfl (by decide) (by decide) rfl rfl (Nat.le_of_ble_eq_true rfl) dX0_openByDraw_26 (fun r4 s5 => ?_)
    exact g_vret (pc := 29) hRT dX0_openByDraw_29
set_option maxRecDepth 100000 in
set_option maxHeartbeats 4000000 in
theorem k_X0_runYear__61 {l : Launch} {D : va_G} {a : Nat → Nat} {cI cS : ClassId} (hI : ∀ σ : St, va_D (AN a) (cN a cI cS σ)) {σ : St} {x1 x2 : Int32} {r : Int32 × St} (h : f_X0_runYear__61 σ x1 x2 = some r) : Kc (SN l D a cI cS) yX0_runYear cX0_runYear 7 none 4 [Value.ref (a 61), Value.int x1, Value.int x2] σ r := by
  refine enter (own := RX0) (o := f_X0_runYear__61 σ x1 x2) (plainFor_of_name (by decide +kernel)) rfl (Nat.le_of_ble_eq_true rfl) hI wk_X0_runYear.1 h (fun Γ hRT => ?_)
  show G _ Γ _ _ _ _ _ _ σ [((0 : Nat), Value.ref (a 61)), ((1 : Nat), Value.int x1), ((2 : Nat), Value.int x2)] 0 []
  unfold f_X0_runYear__61
  refine g_iconst (pc := 0) (v := 0) dX0_runYear_0 (by decide) ?_
  refine g_istore_n (pc := 1) [1, 2, 3, 0] (lv1 := [(0, Value.ref (a 61)), (1, Value.int x1), (2, Value.int x2), (3, Value.int (0 : Int32))]) dX0_runYear_1 rfl (by decide) rfl ?_
  refine g_aload_n (pc := 2) 0 dX0_runYear_2 rfl rfl ?_
  refine g_iconst (pc := 3) (v := 0) dX0_runYear_3 (by decide) ?_
  refine g_put (pc := 4) 61 (ty := .int) cN_61 rfl inlX0 tyX0_ok nmX0 3 (by decide) bw_6_18 rfl (by decide +kernel) rfl rfl (Nat.le_of_ble_eq_true rfl) cN_f61_3 dX0_runYear_4 (fun s3 => ?_)
  refine g_iconst (pc := 7) (v := 0) dX0_runYear_7 (by decide) ?_
  refine g_istore (pc := 8) [1, 2, 3, 4, 0] (lv1 := [(0, Value.ref (a 61)), (1, Value.int x1), (2, Value.int x2), (3, Value.int (0 : Int32)), (4, Value.int (0 : Int32))]) dX0_runYear_8 (by decide) rfl ?_
  refine g_lq2 (pc := 10) (lf := fun x5 x6 => [((0 : Nat), Value.ref (a 61)), ((1 : Nat), Value.int x1), ((2 : Nat), Value.int x2), ((3 : Nat), Value.int x5), ((4 : Nat), Value.int x6)]) (sf := fun x5 x6 => ([] : List Value)) (fun k4 hk4 s7 x5 x6 => ?_) 100000 s3 _ _
  show G _ Γ _ _ _ _ _ _ s7 [((0 : Nat), Value.ref (a 61)), ((1 : Nat), Value.int x1), ((2 : Nat), Value.int x2), ((3 : Nat), Value.int x5), ((4 : Nat), Value.int x6)] 10 ([] : List Value)
  refine g_iload (pc := 10) 4 dX0_runYear_10 rfl ?_
  refine g_aload_n (pc := 12) 0 dX0_runYear_12 rfl rfl ?_
  refine g_get (pc := 13) 61 cN_61 rfl inlX0 0 (by decide) bw_6_19 rfl dX0_runYear_13 ?_
  refine g_cVi (pc := 16) 12 (As := []) (fun r2 h2 => k_X4_newsTold__12 hI h2) wk_X4_newsTold wv_X4_newsTold bw_42_23 cN_12 rfl (by decide) (by decide) rfl rfl (Nat.le_of_ble_eq_true rfl) dX0_runYear_16 (fun r8 s9 => ?_)
  refine g_icmp_ge (pc := 19) (tgt := 118) dX0_runYear_19 (by decide) ?_ ?_
  · refine g_aload_n (pc := 118) 0 dX0_runYear_118 rfl rfl ?_
    refine g_iload_n (pc := 119) 3 dX0_runYear_119 rfl rfl ?_
    refine g_cSi (pc := 120) (As := [Value.int x5]) (fun r2 h2 => k_J6_bitCount_0f7a4 hI h2) wk_J6_bitCount_0f7a4 ws_J6_bitCount_0f7a4 bw_43_14 (by decide) (by decide) rfl rfl (Nat.le_of_ble_eq_true rfl) dX0_runYear_120 (fun r10 s11 => ?_)
    refine g_put (pc := 123) 61 (ty := .int) cN_61 rfl inlX0 tyX0_ok nmX0 2 (by decide) bw_6_17 rfl (by decide +kernel) rfl rfl (Nat.le_of_ble_eq_true rfl) cN_f61_2 dX0_runYear_123 (fun s12 => ?_)
    exact g_vret (pc := 126) hRT dX0_runYear_126
  · refine g_aload_n (pc := 22) 0 dX0_runYear_22 rfl rfl ?_
    refine g_get (pc := 23) 61 cN_61 rfl inlX0 1 (by decide) bw_6_20 rfl dX0_runYear_23 ?_
    refine g_iload (pc := 26) 4 dX0_runYear_26 rfl ?_
    refine g_cVv (pc := 28) 56 (As := [Value.int x6]) (fun r2 h2 => k_X1_pick__56 hI h2) wk_X1_pick wv_X1_pick bw_42_1 cN_56 rfl (by decide) (by decide) rfl rfl (Nat.le_of_ble_eq_true rfl) dX0_runYear_28 (fun r13 s14 => ?_)
    refine g_aload_n (pc := 31) 0 dX0_runYear_31 rfl rfl ?_
    refine g_get (pc := 32) 61 cN_61 rfl inlX0 1 (by decide) bw_6_20 rfl dX0_runYear_32 ?_
    refine g_cVi (pc := 35) 56 (As := []) (fun r2 h2 => k_X1_whoKnows__56 hI h2) wk_X1_whoKnows wv_X1_whoKnows bw_42_5 cN_56 rfl (by decide) (by decide) rfl rfl (Nat.le_of_ble_eq_true rfl) dX0_runYear_35 (fun r15 s16 => ?_)
    refine g_istore (pc := 38) [1, 2, 3, 4, 5, 0] (lv1 := [(0, Value.ref (a 61)), (1, Value.int x1), (2, Value.int x2), (3, Value.int x5), (4, Value.int x6), (5, Value.int r15)]) dX0_runYear_38 (by decide) rfl ?_
    refine g_iconst (pc := 40) (v := 0) dX0_runYear_40 (by decide) ?_
    refine g_istore (pc := 41) [1, 2, 3, 4, 5, 6, 0] (lv1 := [(0, Value.ref (a 61)), (1, Value.int x1), (2, Value.int x2), (3, Value.int x5), (4, Value.int x6), (5, Value.int r15), (6, Value.int (0 : Int32))]) dX0_runYear_41 (by decide) rfl ?_
    refine g_lq2 (pc := 43) (lf := fun x18 x19 => [((0 : Nat), Value.ref (a 61)), ((1 : Nat), Value.int x1), ((2 : Nat), Value.int x2), ((3 : Nat), Value.int x5), ((4 : Nat), Value.int x6), ((5 : Nat), Value.int x18), ((6 : Nat), Value.int x19)]) (sf := fun x18 x19 => ([] : List Value)) (fun k17 hk17 s20 x18 x19 => ?_) 100000 s16 _ _
    show G _ Γ _ _ _ _ _ _ s20 [((0 : Nat), Value.ref (a 61)), ((1 : Nat), Value.int x1), ((2 : Nat), Value.int x2), ((3 : Nat), Value.int x5), ((4 : Nat), Value.int x6), ((5 : Nat), Value.int x18), ((6 : Nat), Value.int x19)] 43 ([] : List Value)
    refine g_iload (pc := 43) 6 dX0_runYear_43 rfl ?_
    refine g_iload_n (pc := 45) 2 dX0_runYear_45 rfl rfl ?_
    refine g_icmp_ge (pc := 46) (tgt := 82) dX0_runYear_46 (by decide) ?_ ?_
    · refine g_iload_n (pc := 82) 3 dX0_runYear_82 rfl rfl ?_
      refine g_iload (pc := 83) 5 dX0_runYear_83 rfl ?_
      refine g_ior (pc := 85) dX0_runYear_85 ?_
      refine g_nm (fun x21 => ?_)
      refine g_istore_n (pc := 86) [1, 2, 3, 0, 4, 5, 6] (lv1 := [(0, Value.ref (a 61)), (1, Value.int x1), (2, Value.int x2), (3, Value.int x21), (4, Value.int x6), (5, Value.int x18), (6, Value.int x19)]) dX0_runYear_86 rfl (by decide) rfl ?_
      refine g_aload_n (pc := 87) 0 dX0_runYear_87 rfl rfl ?_
      refine g_dup (pc := 88) dX0_runYear_88 rfl ?_
      refine g_get (pc := 89) 61 cN_61 rfl inlX0 3 (by decide) bw_6_18 rfl dX0_runYear_89 ?_
      refine g_iload (pc := 92) 5 dX0_runYear_92 rfl ?_
      refine g_cSi (pc := 94) (As := [Value.int x18]) (fun r2 h2 => k_J6_bitCount_0f7a4 hI h2) wk_J6_bitCount_0f7a4 ws_J6_bitCount_0f7a4 bw_43_14 (by decide) (by decide) rfl rfl (Nat.le_of_ble_eq_true rfl) dX0_runYear_94 (fun r22 s23 => ?_)
      refine g_aload_n (pc := 97) 0 dX0_runYear_97 rfl rfl ?_
      refine g_get (pc := 98) 61 cN_61 rfl inlX0 1 (by decide) bw_6_20 rfl dX0_runYear_98 ?_
      refine g_cVi (pc := 101) 56 (As := []) (fun r2 h2 => k_X1_whoKnows__56 hI h2) wk_X1_whoKnows wv_X1_whoKnows bw_42_5 cN_56 rfl (by decide) (by decide) rfl rfl (Nat.le_of_ble_eq_true rfl) dX0_runYear_101 (fun r24 s25 => ?_)
      refine g_cSi (pc := 104) (As := [Value.int r24]) (fun r2 h2 => k_J6_bitCount_0f7a4 hI h2) wk_J6_bitCount_0f7a4 ws_J6_bitCount_0f7a4 bw_43_14 (by decide) (by decide) rfl rfl (Nat.le_of_ble_eq_true rfl) dX0_runYear_104 (fun r26 s27 => ?_)
      refine g_isub (pc := 107) dX0_runYear_107 ?_
      refine g_iadd (pc := 108) dX0_runYear_108 ?_
      refine g_put (pc := 109) 61 (ty := .int) cN_61 rfl inlX0 tyX0_ok nmX0 3 (by decide) bw_6_18 rfl (by decide +kernel) rfl rfl (Nat.le_of_ble_eq_true rfl) cN_f61_3 dX0_runYear_109 (fun s28 => ?_)
      refine g_iinc (pc := 112) [1, 2, 3, 4, 0, 5, 6] 4 (n1 := 1) (lv1 := fun x29 => [(0, Value.ref (a 61)), (1, Value.int x1), (2, Value.int x2), (3, Value.int x21), (4, Value.int x29), (5, Value.int x18), (6, Value.int x19)]) dX0_runYear_112 rfl (by decide) (by decide) (fun _ => rfl) (fun x29 => ?_)
      show G _ Γ _ _ _ _ _ _ _ [(0, Value.ref (a 61)), (1, Value.int x1), (2, Value.int x2), (3, Value.int x21), (4, Value.int x29), (5, Value.int x18), (6, Value.int x19)] (112 + 3) _
      refine g_goto (pc := 115) (tgt := 10) dX0_runYear_115 (by decide) ?_
      exact g_lv [0, 1, 2, 3, 4] rfl (hk4 s28 _ _)
    · refine g_aload_n (pc := 49) 0 dX0_runYear_49 rfl rfl ?_
      refine g_iload_n (pc := 50) 1 dX0_runYear_50 rfl rfl ?_
      refine g_iload (pc := 51) 6 dX0_runYear_51 rfl ?_
      refine g_cSi (pc := 53) (As := [Value.int x1, Value.int x19]) (fun r2 h2 => k_X0_draw hI h2) wk_X0_draw ws_X0_draw bw_43_0 (by decide) (by decide) rfl rfl (Nat.le_of_ble_eq_true rfl) dX0_runYear_53 (fun r30 s31 => ?_)
      refine g_cVv (pc := 56) 61 (As := [Value.int r30]) (fun r2 h2 => k_X0_openByDraw__61 hI h2) wk_X0_openByDraw wv_X0_openByDraw bw_43_7 cN_61 rfl (by decide) (by decide) rfl rfl (Nat.le_of_ble_eq_true rfl) dX0_runYear_56 (fun r32 s33 => ?_)
      refine g_aload_n (pc := 59) 0 dX0_runYear_59 rfl rfl ?_
      refine g_get (pc := 60) 61 cN_61 rfl inlX0 1 (by decide) bw_6_20 rfl dX0_runYear_60 ?_
      refine g_iload (pc := 63) 5 dX0_runYear_63 rfl ?_
      refine g_iload (pc := 65) 6 dX0_runYear_65 rfl ?_
      refine g_iload (pc := 67) 6 dX0_runYear_67 rfl ?_
      refine g_iconst (pc := 69) (v := 1) dX0_runYear_69 (by decide) ?_
      refine g_iadd (pc := 70) dX0_runYear_70 ?_
      refine g_cVi (pc := 71) 56 (As := [Value.int x18, Value.int x19, Value.int (x19 + (1 : Int32))]) (fun r2 h2 => k_X1_along__56 hI h2) wk_X1_along wv_X1_along bw_43_13 cN_56 rfl (by decide) (by decide) rfl rfl (Nat.le_of_ble_eq_true rfl) dX0_runYear_71 (fun r34 s35 => ?_)
      refine g_istore (pc := 74) [1, 2, 3, 4, 5, 0, 6] (lv1 := [(0, Value.ref (a 61)), (1, Value.int x1), (2, Value.int x2), (3, Value.int x5), (4, Value.int x6), (5, Value.int r34), (6, Value.int x19)]) dX0_runYear_74 (by decide) rfl ?_
      refine g_iinc (pc := 76) [1, 2, 3, 4, 5, 6, 0] 6 (n1 := 1) (lv1 := fun x36 => [(0, Value.ref (a 61)), (1, Value.int x1), (2, Value.int x2), (3, Value.int x5), (4, Value.int x6), (5, Value.int r34), (6, Value.int x36)]) dX0_runYear_76 rfl (by decide) (by decide) (fun _ => rfl) (fun x36 => ?_)
      show G _ Γ _ _ _ _ _ _ _ [(0, Value.ref (a 61)), (1, Value.int x1), (2, Value.int x2), (3, Value.int x5), (4, Value.int x6), (5, Value.int r34), (6, Value.int x36)] (76 + 3) _
      refine g_goto (pc := 79) (tgt := 43) dX0_runYear_79 (by decide) ?_
      exact hk17 s35 _ _
set_option maxRecDepth 100000 in
set_option maxHeartbeats 4000000 in
theorem k_X0_timesHeard__61 {l : Launch} {D : va_G} {a : Nat → Nat} {cI cS : ClassId} (hI : ∀ σ : St, va_D (AN a) (cN a cI cS σ)) {σ : St} {r : Int32 × St} (h : f_X0_timesHeard__61 σ = some r) : Kc (SN l D a cI cS) yX0_timesHeard cX0_timesHeard 1 (some .int) 0 [Value.ref (a 61)] σ r := by
  refine enter (own := RX0) (o := f_X0_timesHeard__61 σ) (plainFor_of_name (by decide +kernel)) rfl (Nat.le_of_ble_eq_true rfl) hI wk_X0_timesHeard.1 h (fun Γ hRT => ?_)
  show G _ Γ _ _ _ _ _ _ σ [((0 : Nat), Value.ref (a 61))] 0 []
  unfold f_X0_timesHeard__61
  refine g_aload_n (pc := 0) 0 dX0_timesHeard_0 rfl rfl ?_
  refine g_get (pc := 1) 61 cN_61 rfl inlX0 3 (by decide) bw_6_18 rfl dX0_timesHeard_1 ?_
  exact g_iret (pc := 4) hRT dX0_timesHeard_4
set_option maxRecDepth 100000 in
set_option maxHeartbeats 4000000 in
theorem k_X0_housesThatKnow__61 {l : Launch} {D : va_G} {a : Nat → Nat} {cI cS : ClassId} (hI : ∀ σ : St, va_D (AN a) (cN a cI cS σ)) {σ : St} {r : Int32 × St} (h : f_X0_housesThatKnow__61 σ = some r) : Kc (SN l D a cI cS) yX0_housesThatKnow cX0_housesThatKnow 1 (some .int) 0 [Value.ref (a 61)] σ r := by
  refine enter (own := RX0) (o := f_X0_housesThatKnow__61 σ) (plainFor_of_name (by decide +kernel)) rfl (Nat.le_of_ble_eq_true rfl) hI wk_X0_housesThatKnow.1 h (fun Γ hRT => ?_)
  show G _ Γ _ _ _ _ _ _ σ [((0 : Nat), Value.ref (a 61))] 0 []
  unfold f_X0_housesThatKnow__61
  refine g_aload_n (pc := 0) 0 dX0_housesThatKnow_0 rfl rfl ?_
  refine g_get (pc := 1) 61 cN_61 rfl inlX0 2 (by decide) bw_6_17 rfl dX0_housesThatKnow_1 ?_
  exact g_iret (pc := 4) hRT dX0_housesThatKnow_4
set_option maxRecDepth 100000 in
set_option maxHeartbeats 4000000 in
theorem k_X10_year__0 {l : Launch} {D : va_G} {a : Nat → Nat} {cI cS : ClassId} (hI : ∀ σ : St, va_D (AN a) (cN a cI cS σ)) {σ : St} {x1 x2 x3 : Int32} {r : Int32 × St} (h : f_X10_year__0 σ x1 x2 x3 = some r) : Kc (SN l D a cI cS) yX10_year cX10_year 4 (some .int) 5 [Value.ref (a 0), Value.int x1, Value.int x2, Value.int x3] σ r := by
  refine enter (own := RX10) (o := f_X10_year__0 σ x1 x2 x3) (plainFor_of_name (by decide +kernel)) rfl (Nat.le_of_ble_eq_true rfl) hI wk_X10_year.1 h (fun Γ hRT => ?_)
  show G _ Γ _ _ _ _ _ _ σ [((0 : Nat), Value.ref (a 0)), ((1 : Nat), Value.int x1), ((2 : Nat), Value.int x2), ((3 : Nat), Value.int x3)] 0 []
  unfold f_X10_year__0
  refine g_iload_n (pc := 0) 1 dX10_year_0 rfl rfl ?_
  refine g_iconst (pc := 1) (v := 0) dX10_year_1 (by decide) ?_
  refine g_sipush (pc := 2) (v := 9999) dX10_year_2 (by decide) ?_
  refine g_cSz (pc := 5) (As := [Value.int x1, Value.int (0 : Int32), Value.int (9999 : Int32)]) (fun r2 h2 => k_X10_within hI h2) wk_X10_within ws_X10_within bw_12_4 (by decide) (by decide) rfl rfl (Nat.le_of_ble_eq_true rfl) dX10_year_5 (fun r4 s5 => ?_)
  refine g_if_eq (pc := 8) (tgt := 30) dX10_year_8 (by decide) ?_ ?_
  · refine g_iconst (pc := 30) (v := -1) dX10_year_30 (by decide) ?_
    exact g_iret (pc := 31) hRT dX10_year_31
  · refine g_iload_n (pc := 11) 2 dX10_year_11 rfl rfl ?_
    refine g_iconst (pc := 12) (v := 1) dX10_year_12 (by decide) ?_
    refine g_bipush (pc := 13) (v := 60) dX10_year_13 (by decide) ?_
    refine g_cSz (pc := 15) (As := [Value.int x2, Value.int (1 : Int32), Value.int (60 : Int32)]) (fun r2 h2 => k_X10_within hI h2) wk_X10_within ws_X10_within bw_12_4 (by decide) (by decide) rfl rfl (Nat.le_of_ble_eq_true rfl) dX10_year_15 (fun r6 s7 => ?_)
    refine g_if_eq (pc := 18) (tgt := 30) dX10_year_18 (by decide) ?_ ?_
    · refine g_iconst (pc := 30) (v := -1) dX10_year_30 (by decide) ?_
      exact g_iret (pc := 31) hRT dX10_year_31
    · refine g_iload_n (pc := 21) 3 dX10_year_21 rfl rfl ?_
      refine g_iconst (pc := 22) (v := 0) dX10_year_22 (by decide) ?_
      refine g_iconst (pc := 23) (v := 1) dX10_year_23 (by decide) ?_
      refine g_cSz (pc := 24) (As := [Value.int x3, Value.int (0 : Int32), Value.int (1 : Int32)]) (fun r2 h2 => k_X10_within hI h2) wk_X10_within ws_X10_within bw_12_4 (by decide) (by decide) rfl rfl (Nat.le_of_ble_eq_true rfl) dX10_year_24 (fun r8 s9 => ?_)
      refine g_if_ne (pc := 27) (tgt := 32) dX10_year_27 (by decide) ?_ ?_
      · refine g_aload_n (pc := 32) 0 dX10_year_32 rfl rfl ?_
        refine g_get (pc := 33) 0 cN_0 rfl inlX10 10 (by decide) bw_3_1 rfl dX10_year_33 ?_
        refine g_iload_n (pc := 36) 1 dX10_year_36 rfl rfl ?_
        refine g_iload_n (pc := 37) 2 dX10_year_37 rfl rfl ?_
        refine g_cVv (pc := 38) 61 (As := [Value.int x1, Value.int x2]) (fun r2 h2 => k_X0_runYear__61 hI h2) wk_X0_runYear wv_X0_runYear bw_42_19 cN_61 rfl (by decide) (by decide) rfl rfl (Nat.le_of_ble_eq_true rfl) dX10_year_38 (fun r10 s11 => ?_)
        refine g_iload_n (pc := 41) 3 dX10_year_41 rfl rfl ?_
        refine g_if_ne (pc := 42) (tgt := 55) dX10_year_42 (by decide) ?_ ?_
        · refine g_aload_n (pc := 55) 0 dX10_year_55 rfl rfl ?_
          refine g_get (pc := 56) 0 cN_0 rfl inlX10 10 (by decide) bw_3_1 rfl dX10_year_56 ?_
          refine g_cVi (pc := 59) 61 (As := []) (fun r2 h2 => k_X0_timesHeard__61 hI h2) wk_X0_timesHeard wv_X0_timesHeard bw_43_19 cN_61 rfl (by decide) (by decide) rfl rfl (Nat.le_of_ble_eq_true rfl) dX10_year_59 (fun r12 s13 => ?_)
          exact g_iret (pc := 62) hRT dX10_year_62
        · refine g_aload_n (pc := 45) 0 dX10_year_45 rfl rfl ?_
          refine g_get (pc := 46) 0 cN_0 rfl inlX10 10 (by decide) bw_3_1 rfl dX10_year_46 ?_
          refine g_cVi (pc := 49) 61 (As := []) (fun r2 h2 => k_X0_housesThatKnow__61 hI h2) wk_X0_housesThatKnow wv_X0_housesThatKnow bw_43_15 cN_61 rfl (by decide) (by decide) rfl rfl (Nat.le_of_ble_eq_true rfl) dX10_year_49 (fun r14 s15 => ?_)
          refine g_goto (pc := 52) (tgt := 62) dX10_year_52 (by decide) ?_
          exact g_iret (pc := 62) hRT dX10_year_62
      · refine g_iconst (pc := 30) (v := -1) dX10_year_30 (by decide) ?_
        exact g_iret (pc := 31) hRT dX10_year_31
set_option maxRecDepth 100000 in
set_option maxHeartbeats 4000000 in
theorem k_X5_isFull__48 {l : Launch} {D : va_G} {a : Nat → Nat} {cI cS : ClassId} (hI : ∀ σ : St, va_D (AN a) (cN a cI cS σ)) {σ : St} {r : Int32 × St} (h : f_X5_isFull__48 σ = some r) : Kc (SN l D a cI cS) yX5_isFull cX5_isFull 1 (some .boolean) 0 [Value.ref (a 48)] σ r := by
  refine enter (own := RX5) (o := f_X5_isFull__48 σ) (plainFor_of_name (by decide +kernel)) rfl (Nat.le_of_ble_eq_true rfl) hI wk_X5_isFull.1 h (fun Γ hRT => ?_)
  show G _ Γ _ _ _ _ _ _ σ [((0 : Nat), Value.ref (a 48))] 0 []
  unfold f_X5_isFull__48
  refine g_aload_n (pc := 0) 0 dX5_isFull_0 rfl rfl ?_
  refine g_get (pc := 1) 48 cN_48 rfl inlX5 2 (by decide) bw_4_22 rfl dX5_isFull_1 ?_
  refine g_aload_n (pc := 4) 0 dX5_isFull_4 rfl rfl ?_
  refine g_get (pc := 5) 48 cN_48 rfl inlX5 0 (by decide) bw_5_0 rfl dX5_isFull_5 ?_
  refine g_alen (pc := 8) 49 1 (v := 2) cN_49 rfl (show Int32.ofNat 2 = 2 by decide) dX5_isFull_8 ?_
  refine g_icmp_ne (pc := 9) (tgt := 16) dX5_isFull_9 (by decide) ?_ ?_
  · refine g_iconst (pc := 16) (v := 0) dX5_isFull_16 (by decide) ?_
    exact g_zret1 (pc := 17) hRT (by decide) dX5_isFull_17
  · refine g_iconst (pc := 12) (v := 1) dX5_isFull_12 (by decide) ?_
    refine g_goto (pc := 13) (tgt := 17) dX5_isFull_13 (by decide) ?_
    exact g_zret1 (pc := 17) hRT (by decide) dX5_isFull_17
set_option maxRecDepth 100000 in
set_option maxHeartbeats 4000000 in
theorem k_X5_placeOf__48 {l : Launch} {D : va_G} {a : Nat → Nat} {cI cS : ClassId} (hI : ∀ σ : St, va_D (AN a) (cN a cI cS σ)) {σ : St} {x1 : Int32} {r : Int32 × St} (h : f_X5_placeOf__48 σ x1 = some r) : Kc (SN l D a cI cS) yX5_placeOf cX5_placeOf 3 (some (.object "NewsDraughts$Standing")) 1 [Value.ref (a 48), Value.int x1] σ r := by
  refine enter (own := RX5) (o := f_X5_placeOf__48 σ x1) (plainFor_of_name (by decide +kernel)) rfl (Nat.le_of_ble_eq_true rfl) hI wk_X5_placeOf.1 h (fun Γ hRT => ?_)
  show G _ Γ _ _ _ _ _ _ σ [((0 : Nat), Value.ref (a 48)), ((1 : Nat), Value.int x1)] 0 []
  unfold f_X5_placeOf__48
  refine g_aload_n (pc := 0) 0 dX5_placeOf_0 rfl rfl ?_
  refine g_get (pc := 1) 48 cN_48 rfl inlX5 0 (by decide) bw_5_0 rfl dX5_placeOf_1 ?_
  refine g_alen (pc := 4) 49 1 (v := 2) cN_49 rfl (show Int32.ofNat 2 = 2 by decide) dX5_placeOf_4 ?_
  refine g_if_ne (pc := 5) (tgt := 10) dX5_placeOf_5 (by decide) ?_ ?_
  · refine g_jq0 (pc2 := 47) (lf := ([] : List (Nat × Value))) (sf := ([] : List Value)) (fun s3 => ?_) (fun k2 hk2 => ?_)
    · show G _ Γ _ _ _ _ _ _ s3 ([] : List (Nat × Value)) 47 ([] : List Value)
      exact g_none
    · refine g_aload_n (pc := 10) 0 dX5_placeOf_10 rfl rfl ?_
      refine g_get (pc := 11) 48 cN_48 rfl inlX5 1 (by decide) bw_4_21 rfl dX5_placeOf_11 ?_
      refine g_iload_n (pc := 14) 1 dX5_placeOf_14 rfl rfl ?_
      refine g_iadd (pc := 15) dX5_placeOf_15 ?_
      refine g_aload_n (pc := 16) 0 dX5_placeOf_16 rfl rfl ?_
      refine g_get (pc := 17) 48 cN_48 rfl inlX5 0 (by decide) bw_5_0 rfl dX5_placeOf_17 ?_
      refine g_alen (pc := 20) 49 1 (v := 2) cN_49 rfl (show Int32.ofNat 2 = 2 by decide) dX5_placeOf_20 ?_
      refine g_cSi (pc := 21) (As := [Value.int ((σ 48 1) + x1), Value.int (2 : Int32)]) (fun r2 h2 => k_J9_floorMod_7cf53 hI h2) wk_J9_floorMod_7cf53 ws_J9_floorMod_7cf53 bw_24_3 (by decide) (by decide) rfl rfl (Nat.le_of_ble_eq_true rfl) dX5_placeOf_21 (fun r4 s5 => ?_)
      refine g_istore_n (pc := 24) [1, 2, 0] (lv1 := [(0, Value.ref (a 48)), (1, Value.int x1), (2, Value.int r4)]) dX5_placeOf_24 rfl (by decide) rfl ?_
      refine g_iload_n (pc := 25) 2 dX5_placeOf_25 rfl rfl ?_
      refine g_if_lt (pc := 26) (tgt := 47) dX5_placeOf_26 (by decide) ?_ ?_
      · exact g_lv [] rfl (hk2 s5)
      · refine g_iload_n (pc := 29) 2 dX5_placeOf_29 rfl rfl ?_
        refine g_aload_n (pc := 30) 0 dX5_placeOf_30 rfl rfl ?_
        refine g_get (pc := 31) 48 cN_48 rfl inlX5 0 (by decide) bw_5_0 rfl dX5_placeOf_31 ?_
        refine g_alen (pc := 34) 49 1 (v := 2) cN_49 rfl (show Int32.ofNat 2 = 2 by decide) dX5_placeOf_34 ?_
        refine g_icmp_ge (pc := 35) (tgt := 47) dX5_placeOf_35 (by decide) ?_ ?_
        · exact g_lv [] rfl (hk2 s5)
        · refine g_aload_n (pc := 38) 0 dX5_placeOf_38 rfl rfl ?_
          refine g_get (pc := 39) 48 cN_48 rfl inlX5 0 (by decide) bw_5_0 rfl dX5_placeOf_39 ?_
          refine g_iload_n (pc := 42) 2 dX5_placeOf_42 rfl rfl ?_
          refine g_ite (fun e0_ => ?_) (fun e0_ => ?_)
          · refine g_aald (pc := 43) 49 1 (v := Value.ref (a 50)) cN_49 rfl (by rw [e0_]; unfold vp_in; decide) (by rw [e0_]; rfl) dX5_placeOf_43 ?_
            refine g_goto (pc := 44) (tgt := 48) dX5_placeOf_44 (by decide) ?_
            exact g_aret (pc := 48) hRT dX5_placeOf_48 _ (pqv_50 (a := a)).symm
          · skip
            refine g_ite (fun e1_ => ?_) (fun e1_ => ?_)
            · refine g_aald (pc := 43) 49 1 (v := Value.ref (a 53)) cN_49 rfl (by rw [e1_]; unfold vp_in; decide) (by rw [e1_]; rfl) dX5_placeOf_43 ?_
              refine g_goto (pc := 44) (tgt := 48) dX5_placeOf_44 (by decide) ?_
              exact g_aret (pc := 48) hRT dX5_placeOf_48 _ (pqv_53 (a := a)).symm
            · skip
              exact g_none
  · exact g_none
set_option maxRecDepth 100000 in
set_option maxHeartbeats 4000000 in
theorem k_X10_copy__20_51 {l : Launch} {D : va_G} {a : Nat → Nat} {cI cS : ClassId} (hI : ∀ σ : St, va_D (AN a) (cN a cI cS σ)) {σ : St} {r : Int32 × St} (h : f_X10_copy__20_51 σ = some r) : Kc (SN l D a cI cS) yX10_copy cX10_copy 3 none 1 [Value.ref (a 20), Value.ref (a 51)] σ r := by
  refine enter (own := RX10) (o := f_X10_copy__20_51 σ) (plainFor_of_name (by decide +kernel)) rfl (Nat.le_of_ble_eq_true rfl) hI wk_X10_copy.1 h (fun Γ hRT => ?_)
  show G _ Γ _ _ _ _ _ _ σ [((0 : Nat), Value.ref (a 20)), ((1 : Nat), Value.ref (a 51))] 0 []
  unfold f_X10_copy__20_51
  refine g_iconst (pc := 0) (v := 0) dX10_copy_0 (by decide) ?_
  refine g_istore_n (pc := 1) [1, 2, 0] (lv1 := [(0, Value.ref (a 20)), (1, Value.ref (a 51)), (2, Value.int (0 : Int32))]) dX10_copy_1 rfl (by decide) rfl ?_
  refine g_lq1 (pc := 2) (lf := fun x2 => [((0 : Nat), Value.ref (a 20)), ((1 : Nat), Value.ref (a 51)), ((2 : Nat), Value.int x2)]) (sf := fun x2 => ([] : List Value)) (fun k1 hk1 s3 x2 => ?_) 100000 σ _
  show G _ Γ _ _ _ _ _ _ s3 [((0 : Nat), Value.ref (a 20)), ((1 : Nat), Value.ref (a 51)), ((2 : Nat), Value.int x2)] 2 ([] : List Value)
  refine g_aload_n (pc := 2) 1 dX10_copy_2 rfl rfl ?_
  refine g_ifnull (pc := 3) dX10_copy_3 ?_
  refine g_iload_n (pc := 6) 2 dX10_copy_6 rfl rfl ?_
  refine g_aload_n (pc := 7) 1 dX10_copy_7 rfl rfl ?_
  refine g_alen (pc := 8) 51 0 (v := 16) cN_51 rfl (show Int32.ofNat 16 = 16 by decide) dX10_copy_8 ?_
  refine g_icmp_ge (pc := 9) (tgt := 26) dX10_copy_9 (by decide) ?_ ?_
  · exact g_vret (pc := 26) hRT dX10_copy_26
  · refine g_aload_n (pc := 12) 1 dX10_copy_12 rfl rfl ?_
    refine g_iload_n (pc := 13) 2 dX10_copy_13 rfl rfl ?_
    refine g_aload_n (pc := 14) 0 dX10_copy_14 rfl rfl ?_
    refine g_iload_n (pc := 15) 2 dX10_copy_15 rfl rfl ?_
    refine g_cSi (pc := 16) (As := [Value.ref (a 20), Value.int x2]) (fun r2 h2 => k_X10_at__20 hI h2) wk_X10_at ws_X10_at bw_24_10 (by decide) (by decide) rfl rfl (Nat.le_of_ble_eq_true rfl) dX10_copy_16 (fun r4 s5 => ?_)
    refine g_iast (pc := 19) 51 cN_51 rfl cN_s51 dX10_copy_19 (fun s6 => ?_)
    refine g_iinc (pc := 20) [1, 2, 0] 2 (n1 := 1) (lv1 := fun x7 => [(0, Value.ref (a 20)), (1, Value.ref (a 51)), (2, Value.int x7)]) dX10_copy_20 rfl (by decide) (by decide) (fun _ => rfl) (fun x7 => ?_)
    show G _ Γ _ _ _ _ _ _ _ [(0, Value.ref (a 20)), (1, Value.ref (a 51)), (2, Value.int x7)] (20 + 3) _
    refine g_goto (pc := 23) (tgt := 2) dX10_copy_23 (by decide) ?_
    exact hk1 s6 _
set_option maxRecDepth 100000 in
set_option maxHeartbeats 4000000 in
theorem k_X10_copy__21_52 {l : Launch} {D : va_G} {a : Nat → Nat} {cI cS : ClassId} (hI : ∀ σ : St, va_D (AN a) (cN a cI cS σ)) {σ : St} {r : Int32 × St} (h : f_X10_copy__21_52 σ = some r) : Kc (SN l D a cI cS) yX10_copy cX10_copy 3 none 1 [Value.ref (a 21), Value.ref (a 52)] σ r := by
  refine enter (own := RX10) (o := f_X10_copy__21_52 σ) (plainFor_of_name (by decide +kernel)) rfl (Nat.le_of_ble_eq_true rfl) hI wk_X10_copy.1 h (fun Γ hRT => ?_)
  show G _ Γ _ _ _ _ _ _ σ [((0 : Nat), Value.ref (a 21)), ((1 : Nat), Value.ref (a 52))] 0 []
  unfold f_X10_copy__21_52
  refine g_iconst (pc := 0) (v := 0) dX10_copy_0 (by decide) ?_
  refine g_istore_n (pc := 1) [1, 2, 0] (lv1 := [(0, Value.ref (a 21)), (1, Value.ref (a 52)), (2, Value.int (0 : Int32))]) dX10_copy_1 rfl (by decide) rfl ?_
  refine g_lq1 (pc := 2) (lf := fun x2 => [((0 : Nat), Value.ref (a 21)), ((1 : Nat), Value.ref (a 52)), ((2 : Nat), Value.int x2)]) (sf := fun x2 => ([] : List Value)) (fun k1 hk1 s3 x2 => ?_) 100000 σ _
  show G _ Γ _ _ _ _ _ _ s3 [((0 : Nat), Value.ref (a 21)), ((1 : Nat), Value.ref (a 52)), ((2 : Nat), Value.int x2)] 2 ([] : List Value)
  refine g_aload_n (pc := 2) 1 dX10_copy_2 rfl rfl ?_
  refine g_ifnull (pc := 3) dX10_copy_3 ?_
  refine g_iload_n (pc := 6) 2 dX10_copy_6 rfl rfl ?_
  refine g_aload_n (pc := 7) 1 dX10_copy_7 rfl rfl ?_
  refine g_alen (pc := 8) 52 0 (v := 5) cN_52 rfl (show Int32.ofNat 5 = 5 by decide) dX10_copy_8 ?_
  refine g_icmp_ge (pc := 9) (tgt := 26) dX10_copy_9 (by decide) ?_ ?_
  · exact g_vret (pc := 26) hRT dX10_copy_26
  · refine g_aload_n (pc := 12) 1 dX10_copy_12 rfl rfl ?_
    refine g_iload_n (pc := 13) 2 dX10_copy_13 rfl rfl ?_
    refine g_aload_n (pc := 14) 0 dX10_copy_14 rfl rfl ?_
    refine g_iload_n (pc := 15) 2 dX10_copy_15 rfl rfl ?_
    refine g_cSi (pc := 16) (As := [Value.ref (a 21), Value.int x2]) (fun r2 h2 => k_X10_at__21 hI h2) wk_X10_at ws_X10_at bw_24_10 (by decide) (by decide) rfl rfl (Nat.le_of_ble_eq_true rfl) dX10_copy_16 (fun r4 s5 => ?_)
    refine g_iast (pc := 19) 52 cN_52 rfl cN_s52 dX10_copy_19 (fun s6 => ?_)
    refine g_iinc (pc := 20) [1, 2, 0] 2 (n1 := 1) (lv1 := fun x7 => [(0, Value.ref (a 21)), (1, Value.ref (a 52)), (2, Value.int x7)]) dX10_copy_20 rfl (by decide) (by decide) (fun _ => rfl) (fun x7 => ?_)
    show G _ Γ _ _ _ _ _ _ _ [(0, Value.ref (a 21)), (1, Value.ref (a 52)), (2, Value.int x7)] (20 + 3) _
    refine g_goto (pc := 23) (tgt := 2) dX10_copy_23 (by decide) ?_
    exact hk1 s6 _
set_option maxRecDepth 100000 in
set_option maxHeartbeats 4000000 in
theorem k_X9_copyOf__50_19 {l : Launch} {D : va_G} {a : Nat → Nat} {cI cS : ClassId} (hI : ∀ σ : St, va_D (AN a) (cN a cI cS σ)) {σ : St} {r : Int32 × St} (h : f_X9_copyOf__50_19 σ = some r) : Kc (SN l D a cI cS) yX9_copyOf cX9_copyOf 2 none 2 [Value.ref (a 50), Value.ref (a 19)] σ r := by
  refine enter (own := RX9) (o := f_X9_copyOf__50_19 σ) (plainFor_of_name (by decide +kernel)) rfl (Nat.le_of_ble_eq_true rfl) hI wk_X9_copyOf.1 h (fun Γ hRT => ?_)
  show G _ Γ _ _ _ _ _ _ σ [((0 : Nat), Value.ref (a 50)), ((1 : Nat), Value.ref (a 19))] 0 []
  unfold f_X9_copyOf__50_19
  refine g_aload_n (pc := 0) 1 dX9_copyOf_0 rfl rfl ?_
  refine g_get (pc := 1) 19 cN_19 rfl inlX9 0 (by decide) bw_4_14 rfl dX9_copyOf_1 ?_
  refine g_aload_n (pc := 4) 0 dX9_copyOf_4 rfl rfl ?_
  refine g_get (pc := 5) 50 cN_50 rfl inlX9 0 (by decide) bw_4_14 rfl dX9_copyOf_5 ?_
  refine g_cNv (pc := 8) (As := [Value.ref (a 20), Value.ref (a 51)]) (fun r2 h2 => k_X10_copy__20_51 hI h2) wk_X10_copy ws_X10_copy nst_RX9_42 (by decide) (by decide) rfl rfl (Nat.le_of_ble_eq_true rfl) dX9_copyOf_8 (fun r1 s2 => ?_)
  refine g_aload_n (pc := 11) 1 dX9_copyOf_11 rfl rfl ?_
  refine g_get (pc := 12) 19 cN_19 rfl inlX9 1 (by decide) bw_4_15 rfl dX9_copyOf_12 ?_
  refine g_aload_n (pc := 15) 0 dX9_copyOf_15 rfl rfl ?_
  refine g_get (pc := 16) 50 cN_50 rfl inlX9 1 (by decide) bw_4_15 rfl dX9_copyOf_16 ?_
  refine g_cNv (pc := 19) (As := [Value.ref (a 21), Value.ref (a 52)]) (fun r2 h2 => k_X10_copy__21_52 hI h2) wk_X10_copy ws_X10_copy nst_RX9_42 (by decide) (by decide) rfl rfl (Nat.le_of_ble_eq_true rfl) dX9_copyOf_19 (fun r3 s4 => ?_)
  refine g_aload_n (pc := 22) 0 dX9_copyOf_22 rfl rfl ?_
  refine g_aload_n (pc := 23) 1 dX9_copyOf_23 rfl rfl ?_
  refine g_get (pc := 24) 19 cN_19 rfl inlX9 2 (by decide) bw_4_16 rfl dX9_copyOf_24 ?_
  refine g_put (pc := 27) 50 (ty := .int) cN_50 rfl inlX9 tyX9_ok nmX9 2 (by decide) bw_4_16 rfl (by decide +kernel) rfl rfl (Nat.le_of_ble_eq_true rfl) cN_f50_2 dX9_copyOf_27 (fun s5 => ?_)
  exact g_vret (pc := 30) hRT dX9_copyOf_30
set_option maxRecDepth 100000 in
set_option maxHeartbeats 4000000 in
theorem k_X10_copy__20_54 {l : Launch} {D : va_G} {a : Nat → Nat} {cI cS : ClassId} (hI : ∀ σ : St, va_D (AN a) (cN a cI cS σ)) {σ : St} {r : Int32 × St} (h : f_X10_copy__20_54 σ = some r) : Kc (SN l D a cI cS) yX10_copy cX10_copy 3 none 1 [Value.ref (a 20), Value.ref (a 54)] σ r := by
  refine enter (own := RX10) (o := f_X10_copy__20_54 σ) (plainFor_of_name (by decide +kernel)) rfl (Nat.le_of_ble_eq_true rfl) hI wk_X10_copy.1 h (fun Γ hRT => ?_)
  show G _ Γ _ _ _ _ _ _ σ [((0 : Nat), Value.ref (a 20)), ((1 : Nat), Value.ref (a 54))] 0 []
  unfold f_X10_copy__20_54
  refine g_iconst (pc := 0) (v := 0) dX10_copy_0 (by decide) ?_
  refine g_istore_n (pc := 1) [1, 2, 0] (lv1 := [(0, Value.ref (a 20)), (1, Value.ref (a 54)), (2, Value.int (0 : Int32))]) dX10_copy_1 rfl (by decide) rfl ?_
  refine g_lq1 (pc := 2) (lf := fun x2 => [((0 : Nat), Value.ref (a 20)), ((1 : Nat), Value.ref (a 54)), ((2 : Nat), Value.int x2)]) (sf := fun x2 => ([] : List Value)) (fun k1 hk1 s3 x2 => ?_) 100000 σ _
  show G _ Γ _ _ _ _ _ _ s3 [((0 : Nat), Value.ref (a 20)), ((1 : Nat), Value.ref (a 54)), ((2 : Nat), Value.int x2)] 2 ([] : List Value)
  refine g_aload_n (pc := 2) 1 dX10_copy_2 rfl rfl ?_
  refine g_ifnull (pc := 3) dX10_copy_3 ?_
  refine g_iload_n (pc := 6) 2 dX10_copy_6 rfl rfl ?_
  refine g_aload_n (pc := 7) 1 dX10_copy_7 rfl rfl ?_
  refine g_alen (pc := 8) 54 0 (v := 16) cN_54 rfl (show Int32.ofNat 16 = 16 by decide) dX10_copy_8 ?_
  refine g_icmp_ge (pc := 9) (tgt := 26) dX10_copy_9 (by decide) ?_ ?_
  · exact g_vret (pc := 26) hRT dX10_copy_26
  · refine g_aload_n (pc := 12) 1 dX10_copy_12 rfl rfl ?_
    refine g_iload_n (pc := 13) 2 dX10_copy_13 rfl rfl ?_
    refine g_aload_n (pc := 14) 0 dX10_copy_14 rfl rfl ?_
    refine g_iload_n (pc := 15) 2 dX10_copy_15 rfl rfl ?_
    refine g_cSi (pc := 16) (As := [Value.ref (a 20), Value.int x2]) (fun r2 h2 => k_X10_at__20 hI h2) wk_X10_at ws_X10_at bw_24_10 (by decide) (by decide) rfl rfl (Nat.le_of_ble_eq_true rfl) dX10_copy_16 (fun r4 s5 => ?_)
    refine g_iast (pc := 19) 54 cN_54 rfl cN_s54 dX10_copy_19 (fun s6 => ?_)
    refine g_iinc (pc := 20) [1, 2, 0] 2 (n1 := 1) (lv1 := fun x7 => [(0, Value.ref (a 20)), (1, Value.ref (a 54)), (2, Value.int x7)]) dX10_copy_20 rfl (by decide) (by decide) (fun _ => rfl) (fun x7 => ?_)
    show G _ Γ _ _ _ _ _ _ _ [(0, Value.ref (a 20)), (1, Value.ref (a 54)), (2, Value.int x7)] (20 + 3) _
    refine g_goto (pc := 23) (tgt := 2) dX10_copy_23 (by decide) ?_
    exact hk1 s6 _
set_option maxRecDepth 100000 in
set_option maxHeartbeats 4000000 in
theorem k_X10_copy__21_55 {l : Launch} {D : va_G} {a : Nat → Nat} {cI cS : ClassId} (hI : ∀ σ : St, va_D (AN a) (cN a cI cS σ)) {σ : St} {r : Int32 × St} (h : f_X10_copy__21_55 σ = some r) : Kc (SN l D a cI cS) yX10_copy cX10_copy 3 none 1 [Value.ref (a 21), Value.ref (a 55)] σ r := by
  refine enter (own := RX10) (o := f_X10_copy__21_55 σ) (plainFor_of_name (by decide +kernel)) rfl (Nat.le_of_ble_eq_true rfl) hI wk_X10_copy.1 h (fun Γ hRT => ?_)
  show G _ Γ _ _ _ _ _ _ σ [((0 : Nat), Value.ref (a 21)), ((1 : Nat), Value.ref (a 55))] 0 []
  unfold f_X10_copy__21_55
  refine g_iconst (pc := 0) (v := 0) dX10_copy_0 (by decide) ?_
  refine g_istore_n (pc := 1) [1, 2, 0] (lv1 := [(0, Value.ref (a 21)), (1, Value.ref (a 55)), (2, Value.int (0 : Int32))]) dX10_copy_1 rfl (by decide) rfl ?_
  refine g_lq1 (pc := 2) (lf := fun x2 => [((0 : Nat), Value.ref (a 21)), ((1 : Nat), Value.ref (a 55)), ((2 : Nat), Value.int x2)]) (sf := fun x2 => ([] : List Value)) (fun k1 hk1 s3 x2 => ?_) 100000 σ _
  show G _ Γ _ _ _ _ _ _ s3 [((0 : Nat), Value.ref (a 21)), ((1 : Nat), Value.ref (a 55)), ((2 : Nat), Value.int x2)] 2 ([] : List Value)
  refine g_aload_n (pc := 2) 1 dX10_copy_2 rfl rfl ?_
  refine g_ifnull (pc := 3) dX10_copy_3 ?_
  refine g_iload_n (pc := 6) 2 dX10_copy_6 rfl rfl ?_
  refine g_aload_n (pc := 7) 1 dX10_copy_7 rfl rfl ?_
  refine g_alen (pc := 8) 55 0 (v := 5) cN_55 rfl (show Int32.ofNat 5 = 5 by decide) dX10_copy_8 ?_
  refine g_icmp_ge (pc := 9) (tgt := 26) dX10_copy_9 (by decide) ?_ ?_
  · exact g_vret (pc := 26) hRT dX10_copy_26
  · refine g_aload_n (pc := 12) 1 dX10_copy_12 rfl rfl ?_
    refine g_iload_n (pc := 13) 2 dX10_copy_13 rfl rfl ?_
    refine g_aload_n (pc := 14) 0 dX10_copy_14 rfl rfl ?_
    refine g_iload_n (pc := 15) 2 dX10_copy_15 rfl rfl ?_
    refine g_cSi (pc := 16) (As := [Value.ref (a 21), Value.int x2]) (fun r2 h2 => k_X10_at__21 hI h2) wk_X10_at ws_X10_at bw_24_10 (by decide) (by decide) rfl rfl (Nat.le_of_ble_eq_true rfl) dX10_copy_16 (fun r4 s5 => ?_)
    refine g_iast (pc := 19) 55 cN_55 rfl cN_s55 dX10_copy_19 (fun s6 => ?_)
    refine g_iinc (pc := 20) [1, 2, 0] 2 (n1 := 1) (lv1 := fun x7 => [(0, Value.ref (a 21)), (1, Value.ref (a 55)), (2, Value.int x7)]) dX10_copy_20 rfl (by decide) (by decide) (fun _ => rfl) (fun x7 => ?_)
    show G _ Γ _ _ _ _ _ _ _ [(0, Value.ref (a 21)), (1, Value.ref (a 55)), (2, Value.int x7)] (20 + 3) _
    refine g_goto (pc := 23) (tgt := 2) dX10_copy_23 (by decide) ?_
    exact hk1 s6 _
set_option maxRecDepth 100000 in
set_option maxHeartbeats 4000000 in
theorem k_X9_copyOf__53_19 {l : Launch} {D : va_G} {a : Nat → Nat} {cI cS : ClassId} (hI : ∀ σ : St, va_D (AN a) (cN a cI cS σ)) {σ : St} {r : Int32 × St} (h : f_X9_copyOf__53_19 σ = some r) : Kc (SN l D a cI cS) yX9_copyOf cX9_copyOf 2 none 2 [Value.ref (a 53), Value.ref (a 19)] σ r := by
  refine enter (own := RX9) (o := f_X9_copyOf__53_19 σ) (plainFor_of_name (by decide +kernel)) rfl (Nat.le_of_ble_eq_true rfl) hI wk_X9_copyOf.1 h (fun Γ hRT => ?_)
  show G _ Γ _ _ _ _ _ _ σ [((0 : Nat), Value.ref (a 53)), ((1 : Nat), Value.ref (a 19))] 0 []
  unfold f_X9_copyOf__53_19
  refine g_aload_n (pc := 0) 1 dX9_copyOf_0 rfl rfl ?_
  refine g_get (pc := 1) 19 cN_19 rfl inlX9 0 (by decide) bw_4_14 rfl dX9_copyOf_1 ?_
  refine g_aload_n (pc := 4) 0 dX9_copyOf_4 rfl rfl ?_
  refine g_get (pc := 5) 53 cN_53 rfl inlX9 0 (by decide) bw_4_14 rfl dX9_copyOf_5 ?_
  refine g_cNv (pc := 8) (As := [Value.ref (a 20), Value.ref (a 54)]) (fun r2 h2 => k_X10_copy__20_54 hI h2) wk_X10_copy ws_X10_copy nst_RX9_42 (by decide) (by decide) rfl rfl (Nat.le_of_ble_eq_true rfl) dX9_copyOf_8 (fun r1 s2 => ?_)
  refine g_aload_n (pc := 11) 1 dX9_copyOf_11 rfl rfl ?_
  refine g_get (pc := 12) 19 cN_19 rfl inlX9 1 (by decide) bw_4_15 rfl dX9_copyOf_12 ?_
  refine g_aload_n (pc := 15) 0 dX9_copyOf_15 rfl rfl ?_
  refine g_get (pc := 16) 53 cN_53 rfl inlX9 1 (by decide) bw_4_15 rfl dX9_copyOf_16 ?_
  refine g_cNv (pc := 19) (As := [Value.ref (a 21), Value.ref (a 55)]) (fun r2 h2 => k_X10_copy__21_55 hI h2) wk_X10_copy ws_X10_copy nst_RX9_42 (by decide) (by decide) rfl rfl (Nat.le_of_ble_eq_true rfl) dX9_copyOf_19 (fun r3 s4 => ?_)
  refine g_aload_n (pc := 22) 0 dX9_copyOf_22 rfl rfl ?_
  refine g_aload_n (pc := 23) 1 dX9_copyOf_23 rfl rfl ?_
  refine g_get (pc := 24) 19 cN_19 rfl inlX9 2 (by decide) bw_4_16 rfl dX9_copyOf_24 ?_
  refine g_put (pc := 27) 53 (ty := .int) cN_53 rfl inlX9 tyX9_ok nmX9 2 (by decide) bw_4_16 rfl (by decide +kernel) rfl rfl (Nat.le_of_ble_eq_true rfl) cN_f53_2 dX9_copyOf_27 (fun s5 => ?_)
  exact g_vret (pc := 30) hRT dX9_copyOf_30
set_option maxRecDepth 100000 in
set_option maxHeartbeats 4000000 in
theorem k_X5_push__48_19 {l : Launch} {D : va_G} {a : Nat → Nat} {cI cS : ClassId} (hI : ∀ σ : St, va_D (AN a) (cN a cI cS σ)) {σ : St} {r : Int32 × St} (h : f_X5_push__48_19 σ = some r) : Kc (SN l D a cI cS) yX5_push cX5_push 3 none 3 [Value.ref (a 48), Value.ref (a 19)] σ r := by
  refine enter (own := RX5) (o := f_X5_push__48_19 σ) (plainFor_of_name (by decide +kernel)) rfl (Nat.le_of_ble_eq_true rfl) hI wk_X5_push.1 h (fun Γ hRT => ?_)
  show G _ Γ _ _ _ _ _ _ σ [((0 : Nat), Value.ref (a 48)), ((1 : Nat), Value.ref (a 19))] 0 []
  unfold f_X5_push__48_19
  refine g_aload_n (pc := 0) 0 dX5_push_0 rfl rfl ?_
  refine g_aload_n (pc := 1) 0 dX5_push_1 rfl rfl ?_
  refine g_get (pc := 2) 48 cN_48 rfl inlX5 2 (by decide) bw_4_22 rfl dX5_push_2 ?_
  refine g_cVr (pc := 5) 48 (As := [Value.int (σ 48 2)]) (fun r2 h2 => k_X5_placeOf__48 hI h2) wk_X5_placeOf wv_X5_placeOf bw_23_23 cN_48 rfl (by decide) (by decide) rfl rfl (Nat.le_of_ble_eq_true rfl) dX5_push_5 (fun r1 s2 => ?_)
  refine g_ite (fun e50_ => ?_) (fun e50_ => ?_)
  · refine g_eq (lv1 := [((0 : Nat), Value.ref (a 48)), ((1 : Nat), Value.ref (a 19))]) (st1 := [Value.ref (a 50)]) rfl (by subst e50_; first | rfl | (rw [pqv_50]; done) | (rw [pqv_50]; rfl)) ?_
    refine g_astore_n (pc := 8) [1, 2, 0] (lv1 := [(0, Value.ref (a 48)), (1, Value.ref (a 19)), (2, Value.ref (a 50))]) dX5_push_8 rfl (by decide) rfl ?_
    refine g_aload_n (pc := 9) 2 dX5_push_9 rfl rfl ?_
    refine g_ifnonnull (pc := 10) (tgt := 14) dX5_push_10 (by decide) ?_
    refine g_aload_n (pc := 14) 2 dX5_push_14 rfl rfl ?_
    refine g_aload_n (pc := 15) 1 dX5_push_15 rfl rfl ?_
    refine g_cVv (pc := 16) 50 (As := [Value.ref (a 19)]) (fun r2 h2 => k_X9_copyOf__50_19 hI h2) wk_X9_copyOf wv_X9_copyOf bw_24_4 cN_50 rfl (by decide) (by decide) rfl rfl (Nat.le_of_ble_eq_true rfl) dX5_push_16 (fun r3 s4 => ?_)
    refine g_aload_n (pc := 19) 0 dX5_push_19 rfl rfl ?_
    refine g_cVz (pc := 20) 48 (As := []) (fun r2 h2 => k_X5_isFull__48 hI h2) wk_X5_isFull wv_X5_isFull bw_24_11 cN_48 rfl (by decide) (by decide) rfl rfl (Nat.le_of_ble_eq_true rfl) dX5_push_20 (fun r5 s6 => ?_)
    refine g_if_eq (pc := 23) (tgt := 39) dX5_push_23 (by decide) ?_ ?_
    · refine g_aload_n (pc := 39) 0 dX5_push_39 rfl rfl ?_
      refine g_dup (pc := 40) dX5_push_40 rfl ?_
      refine g_get (pc := 41) 48 cN_48 rfl inlX5 2 (by decide) bw_4_22 rfl dX5_push_41 ?_
      refine g_iconst (pc := 44) (v := 1) dX5_push_44 (by decide) ?_
      refine g_iadd (pc := 45) dX5_push_45 ?_
      refine g_put (pc := 46) 48 (ty := .int) cN_48 rfl inlX5 tyX5_ok nmX5 2 (by decide) bw_4_22 rfl (by decide +kernel) rfl rfl (Nat.le_of_ble_eq_true rfl) cN_f48_2 dX5_push_46 (fun s7 => ?_)
      exact g_vret (pc := 49) hRT dX5_push_49
    · refine g_aload_n (pc := 26) 0 dX5_push_26 rfl rfl ?_
      refine g_dup (pc := 27) dX5_push_27 rfl ?_
      refine g_get (pc := 28) 48 cN_48 rfl inlX5 1 (by decide) bw_4_21 rfl dX5_push_28 ?_
      refine g_iconst (pc := 31) (v := 1) dX5_push_31 (by decide) ?_
      refine g_iadd (pc := 32) dX5_push_32 ?_
      refine g_put (pc := 33) 48 (ty := .int) cN_48 rfl inlX5 tyX5_ok nmX5 1 (by decide) bw_4_21 rfl (by decide +kernel) rfl rfl (Nat.le_of_ble_eq_true rfl) cN_f48_1 dX5_push_33 (fun s8 => ?_)
      refine g_goto (pc := 36) (tgt := 49) dX5_push_36 (by decide) ?_
      exact g_vret (pc := 49) hRT dX5_push_49
  · skip
    refine g_ite (fun e53_ => ?_) (fun e53_ => ?_)
    · refine g_eq (lv1 := [((0 : Nat), Value.ref (a 48)), ((1 : Nat), Value.ref (a 19))]) (st1 := [Value.ref (a 53)]) rfl (by subst e53_; first | rfl | (rw [pqv_53]; done) | (rw [pqv_53]; rfl)) ?_
      refine g_astore_n (pc := 8) [1, 2, 0] (lv1 := [(0, Value.ref (a 48)), (1, Value.ref (a 19)), (2, Value.ref (a 53))]) dX5_push_8 rfl (by decide) rfl ?_
      refine g_aload_n (pc := 9) 2 dX5_push_9 rfl rfl ?_
      refine g_ifnonnull (pc := 10) (tgt := 14) dX5_push_10 (by decide) ?_
      refine g_aload_n (pc := 14) 2 dX5_push_14 rfl rfl ?_
      refine g_aload_n (pc := 15) 1 dX5_push_15 rfl rfl ?_
      refine g_cVv (pc := 16) 53 (As := [Value.ref (a 19)]) (fun r2 h2 => k_X9_copyOf__53_19 hI h2) wk_X9_copyOf wv_X9_copyOf bw_24_4 cN_53 rfl (by decide) (by decide) rfl rfl (Nat.le_of_ble_eq_true rfl) dX5_push_16 (fun r9 s10 => ?_)
      refine g_aload_n (pc := 19) 0 dX5_push_19 rfl rfl ?_
      refine g_cVz (pc := 20) 48 (As := []) (fun r2 h2 => k_X5_isFull__48 hI h2) wk_X5_isFull wv_X5_isFull bw_24_11 cN_48 rfl (by decide) (by decide) rfl rfl (Nat.le_of_ble_eq_true rfl) dX5_push_20 (fun r11 s12 => ?_)
      refine g_if_eq (pc := 23) (tgt := 39) dX5_push_23 (by decide) ?_ ?_
      · refine g_aload_n (pc := 39) 0 dX5_push_39 rfl rfl ?_
        refine g_dup (pc := 40) dX5_push_40 rfl ?_
        refine g_get (pc := 41) 48 cN_48 rfl inlX5 2 (by decide) bw_4_22 rfl dX5_push_41 ?_
        refine g_iconst (pc := 44) (v := 1) dX5_push_44 (by decide) ?_
        refine g_iadd (pc := 45) dX5_push_45 ?_
        refine g_put (pc := 46) 48 (ty := .int) cN_48 rfl inlX5 tyX5_ok nmX5 2 (by decide) bw_4_22 rfl (by decide +kernel) rfl rfl (Nat.le_of_ble_eq_true rfl) cN_f48_2 dX5_push_46 (fun s13 => ?_)
        exact g_vret (pc := 49) hRT dX5_push_49
      · refine g_aload_n (pc := 26) 0 dX5_push_26 rfl rfl ?_
        refine g_dup (pc := 27) dX5_push_27 rfl ?_
        refine g_get (pc := 28) 48 cN_48 rfl inlX5 1 (by decide) bw_4_21 rfl dX5_push_28 ?_
        refine g_iconst (pc := 31) (v := 1) dX5_push_31 (by decide) ?_
        refine g_iadd (pc := 32) dX5_push_32 ?_
        refine g_put (pc := 33) 48 (ty := .int) cN_48 rfl inlX5 tyX5_ok nmX5 1 (by decide) bw_4_21 rfl (by decide +kernel) rfl rfl (Nat.le_of_ble_eq_true rfl) cN_f48_1 dX5_push_33 (fun s14 => ?_)
        refine g_goto (pc := 36) (tgt := 49) dX5_push_36 (by decide) ?_
        exact g_vret (pc := 49) hRT dX5_push_49
    · skip
      exact g_none
set_option maxRecDepth 100000 in
set_option maxHeartbeats 4000000 in
theorem k_X5_size__48 {l : Launch} {D : va_G} {a : Nat → Nat} {cI cS : ClassId} (hI : ∀ σ : St, va_D (AN a) (cN a cI cS σ)) {σ : St} {r : Int32 × St} (h : f_X5_size__48 σ = some r) : Kc (SN l D a cI cS) yX5_size cX5_size 1 (some .int) 0 [Value.ref (a 48)] σ r := by
  refine enter (own := RX5) (o := f_X5_size__48 σ) (plainFor_of_name (by decide +kernel)) rfl (Nat.le_of_ble_eq_true rfl) hI wk_X5_size.1 h (fun Γ hRT => ?_)
  show G _ Γ _ _ _ _ _ _ σ [((0 : Nat), Value.ref (a 48))] 0 []
  unfold f_X5_size__48
  refine g_aload_n (pc := 0) 0 dX5_size_0 rfl rfl ?_
  refine g_get (pc := 1) 48 cN_48 rfl inlX5 2 (by decide) bw_4_22 rfl dX5_size_1 ?_
  exact g_iret (pc := 4) hRT dX5_size_4
set_option maxRecDepth 100000 in
set_option maxHeartbeats 4000000 in
theorem k_X10_keep__0 {l : Launch} {D : va_G} {a : Nat → Nat} {cI cS : ClassId} (hI : ∀ σ : St, va_D (AN a) (cN a cI cS σ)) {σ : St} {r : Int32 × St} (h : f_X10_keep__0 σ = some r) : Kc (SN l D a cI cS) yX10_keep cX10_keep 1 (some .int) 4 [Value.ref (a 0)] σ r := by
  refine enter (own := RX10) (o := f_X10_keep__0 σ) (plainFor_of_name (by decide +kernel)) rfl (Nat.le_of_ble_eq_true rfl) hI wk_X10_keep.1 h (fun Γ hRT => ?_)
  show G _ Γ _ _ _ _ _ _ σ [((0 : Nat), Value.ref (a 0))] 0 []
  unfold f_X10_keep__0
  refine g_aload_n (pc := 0) 0 dX10_keep_0 rfl rfl ?_
  refine g_get (pc := 1) 0 cN_0 rfl inlX10 6 (by decide) bw_2_9 rfl dX10_keep_1 ?_
  refine g_cVz (pc := 4) 48 (As := []) (fun r2 h2 => k_X5_isFull__48 hI h2) wk_X5_isFull wv_X5_isFull bw_44_19 cN_48 rfl (by decide) (by decide) rfl rfl (Nat.le_of_ble_eq_true rfl) dX10_keep_4 (fun r1 s2 => ?_)
  refine g_if_eq (pc := 7) (tgt := 13) dX10_keep_7 (by decide) ?_ ?_
  · refine g_aload_n (pc := 13) 0 dX10_keep_13 rfl rfl ?_
    refine g_get (pc := 14) 0 cN_0 rfl inlX10 6 (by decide) bw_2_9 rfl dX10_keep_14 ?_
    refine g_aload_n (pc := 17) 0 dX10_keep_17 rfl rfl ?_
    refine g_get (pc := 18) 0 cN_0 rfl inlX10 4 (by decide) bw_2_4 rfl dX10_keep_18 ?_
    refine g_cVv (pc := 21) 48 (As := [Value.ref (a 19)]) (fun r2 h2 => k_X5_push__48_19 hI h2) wk_X5_push wv_X5_push bw_23_19 cN_48 rfl (by decide) (by decide) rfl rfl (Nat.le_of_ble_eq_true rfl) dX10_keep_21 (fun r3 s4 => ?_)
    refine g_aload_n (pc := 24) 0 dX10_keep_24 rfl rfl ?_
    refine g_get (pc := 25) 0 cN_0 rfl inlX10 6 (by decide) bw_2_9 rfl dX10_keep_25 ?_
    refine g_cVi (pc := 28) 48 (As := []) (fun r2 h2 => k_X5_size__48 hI h2) wk_X5_size wv_X5_size bw_29_14 cN_48 rfl (by decide) (by decide) rfl rfl (Nat.le_of_ble_eq_true rfl) dX10_keep_28 (fun r5 s6 => ?_)
    exact g_iret (pc := 31) hRT dX10_keep_31
  · refine g_bipush (pc := 10) (v := -3) dX10_keep_10 (by decide) ?_
    exact g_iret (pc := 12) hRT dX10_keep_12
set_option maxRecDepth 100000 in
set_option maxHeartbeats 4000000 in
theorem k_X10_at__51 {l : Launch} {D : va_G} {a : Nat → Nat} {cI cS : ClassId} (hI : ∀ σ : St, va_D (AN a) (cN a cI cS σ)) {σ : St} {x1 : Int32} {r : Int32 × St} (h : f_X10_at__51 σ x1 = some r) : Kc (SN l D a cI cS) yX10_at cX10_at 2 (some .int) 0 [Value.ref (a 51), Value.int x1] σ r := by
  refine enter (own := RX10) (o := f_X10_at__51 σ x1) (plainFor_of_name (by decide +kernel)) rfl (Nat.le_of_ble_eq_true rfl) hI wk_X10_at.1 h (fun Γ hRT => ?_)
  show G _ Γ _ _ _ _ _ _ σ [((0 : Nat), Value.ref (a 51)), ((1 : Nat), Value.int x1)] 0 []
  unfold f_X10_at__51
  refine g_aload_n (pc := 0) 0 dX10_at_0 rfl rfl ?_
  refine g_ifnull (pc := 1) dX10_at_1 ?_
  refine g_jq0 (pc2 := 20) (lf := ([] : List (Nat × Value))) (sf := ([] : List Value)) (fun s3 => ?_) (fun k2 hk2 => ?_)
  · show G _ Γ _ _ _ _ _ _ s3 ([] : List (Nat × Value)) 20 ([] : List Value)
    refine g_iconst (pc := 20) (v := 0) dX10_at_20 (by decide) ?_
    exact g_iret (pc := 21) hRT dX10_at_21
  · refine g_iload_n (pc := 4) 1 dX10_at_4 rfl rfl ?_
    refine g_if_lt (pc := 5) (tgt := 20) dX10_at_5 (by decide) ?_ ?_
    · exact g_lv [] rfl (hk2 σ)
    · refine g_iload_n (pc := 8) 1 dX10_at_8 rfl rfl ?_
      refine g_aload_n (pc := 9) 0 dX10_at_9 rfl rfl ?_
      refine g_alen (pc := 10) 51 0 (v := 16) cN_51 rfl (show Int32.ofNat 16 = 16 by decide) dX10_at_10 ?_
      refine g_icmp_ge (pc := 11) (tgt := 20) dX10_at_11 (by decide) ?_ ?_
      · exact g_lv [] rfl (hk2 σ)
      · refine g_aload_n (pc := 14) 0 dX10_at_14 rfl rfl ?_
        refine g_iload_n (pc := 15) 1 dX10_at_15 rfl rfl ?_
        refine g_iald (pc := 16) 51 cN_51 rfl dX10_at_16 ?_
        refine g_goto (pc := 17) (tgt := 21) dX10_at_17 (by decide) ?_
        exact g_iret (pc := 21) hRT dX10_at_21
set_option maxRecDepth 100000 in
set_option maxHeartbeats 4000000 in
theorem k_X10_copy__51_20 {l : Launch} {D : va_G} {a : Nat → Nat} {cI cS : ClassId} (hI : ∀ σ : St, va_D (AN a) (cN a cI cS σ)) {σ : St} {r : Int32 × St} (h : f_X10_copy__51_20 σ = some r) : Kc (SN l D a cI cS) yX10_copy cX10_copy 3 none 1 [Value.ref (a 51), Value.ref (a 20)] σ r := by
  refine enter (own := RX10) (o := f_X10_copy__51_20 σ) (plainFor_of_name (by decide +kernel)) rfl (Nat.le_of_ble_eq_true rfl) hI wk_X10_copy.1 h (fun Γ hRT => ?_)
  show G _ Γ _ _ _ _ _ _ σ [((0 : Nat), Value.ref (a 51)), ((1 : Nat), Value.ref (a 20))] 0 []
  unfold f_X10_copy__51_20
  refine g_iconst (pc := 0) (v := 0) dX10_copy_0 (by decide) ?_
  refine g_istore_n (pc := 1) [1, 2, 0] (lv1 := [(0, Value.ref (a 51)), (1, Value.ref (a 20)), (2, Value.int (0 : Int32))]) dX10_copy_1 rfl (by decide) rfl ?_
  refine g_lq1 (pc := 2) (lf := fun x2 => [((0 : Nat), Value.ref (a 51)), ((1 : Nat), Value.ref (a 20)), ((2 : Nat), Value.int x2)]) (sf := fun x2 => ([] : List Value)) (fun k1 hk1 s3 x2 => ?_) 100000 σ _
  show G _ Γ _ _ _ _ _ _ s3 [((0 : Nat), Value.ref (a 51)), ((1 : Nat), Value.ref (a 20)), ((2 : Nat), Value.int x2)] 2 ([] : List Value)
  refine g_aload_n (pc := 2) 1 dX10_copy_2 rfl rfl ?_
  refine g_ifnull (pc := 3) dX10_copy_3 ?_
  refine g_iload_n (pc := 6) 2 dX10_copy_6 rfl rfl ?_
  refine g_aload_n (pc := 7) 1 dX10_copy_7 rfl rfl ?_
  refine g_alen (pc := 8) 20 0 (v := 16) cN_20 rfl (show Int32.ofNat 16 = 16 by decide) dX10_copy_8 ?_
  refine g_icmp_ge (pc := 9) (tgt := 26) dX10_copy_9 (by decide) ?_ ?_
  · exact g_vret (pc := 26) hRT dX10_copy_26
  · refine g_aload_n (pc := 12) 1 dX10_copy_12 rfl rfl ?_
    refine g_iload_n (pc := 13) 2 dX10_copy_13 rfl rfl ?_
    refine g_aload_n (pc := 14) 0 dX10_copy_14 rfl rfl ?_
    refine g_iload_n (pc := 15) 2 dX10_copy_15 rfl rfl ?_
    refine g_cSi (pc := 16) (As := [Value.ref (a 51), Value.int x2]) (fun r2 h2 => k_X10_at__51 hI h2) wk_X10_at ws_X10_at bw_24_10 (by decide) (by decide) rfl rfl (Nat.le_of_ble_eq_true rfl) dX10_copy_16 (fun r4 s5 => ?_)
    refine g_iast (pc := 19) 20 cN_20 rfl cN_s20 dX10_copy_19 (fun s6 => ?_)
    refine g_iinc (pc := 20) [1, 2, 0] 2 (n1 := 1) (lv1 := fun x7 => [(0, Value.ref (a 51)), (1, Value.ref (a 20)), (2, Value.int x7)]) dX10_copy_20 rfl (by decide) (by decide) (fun _ => rfl) (fun x7 => ?_)
    show G _ Γ _ _ _ _ _ _ _ [(0, Value.ref (a 51)), (1, Value.ref (a 20)), (2, Value.int x7)] (20 + 3) _
    refine g_goto (pc := 23) (tgt := 2) dX10_copy_23 (by decide) ?_
    exact hk1 s6 _
set_option maxRecDepth 100000 in
set_option maxHeartbeats 4000000 in
theorem k_X10_at__52 {l : Launch} {D : va_G} {a : Nat → Nat} {cI cS : ClassId} (hI : ∀ σ : St, va_D (AN a) (cN a cI cS σ)) {σ : St} {x1 : Int32} {r : Int32 × St} (h : f_X10_at__52 σ x1 = some r) : Kc (SN l D a cI cS) yX10_at cX10_at 2 (some .int) 0 [Value.ref (a 52), Value.int x1] σ r := by
  refine enter (own := RX10) (o := f_X10_at__52 σ x1) (plainFor_of_name (by decide +kernel)) rfl (Nat.le_of_ble_eq_true rfl) hI wk_X10_at.1 h (fun Γ hRT => ?_)
  show G _ Γ _ _ _ _ _ _ σ [((0 : Nat), Value.ref (a 52)), ((1 : Nat), Value.int x1)] 0 []
  unfold f_X10_at__52
  refine g_aload_n (pc := 0) 0 dX10_at_0 rfl rfl ?_
  refine g_ifnull (pc := 1) dX10_at_1 ?_
  refine g_jq0 (pc2 := 20) (lf := ([] : List (Nat × Value))) (sf := ([] : List Value)) (fun s3 => ?_) (fun k2 hk2 => ?_)
  · show G _ Γ _ _ _ _ _ _ s3 ([] : List (Nat × Value)) 20 ([] : List Value)
    refine g_iconst (pc := 20) (v := 0) dX10_at_20 (by decide) ?_
    exact g_iret (pc := 21) hRT dX10_at_21
  · refine g_iload_n (pc := 4) 1 dX10_at_4 rfl rfl ?_
    refine g_if_lt (pc := 5) (tgt := 20) dX10_at_5 (by decide) ?_ ?_
    · exact g_lv [] rfl (hk2 σ)
    · refine g_iload_n (pc := 8) 1 dX10_at_8 rfl rfl ?_
      refine g_aload_n (pc := 9) 0 dX10_at_9 rfl rfl ?_
      refine g_alen (pc := 10) 52 0 (v := 5) cN_52 rfl (show Int32.ofNat 5 = 5 by decide) dX10_at_10 ?_
      refine g_icmp_ge (pc := 11) (tgt := 20) dX10_at_11 (by decide) ?_ ?_
      · exact g_lv [] rfl (hk2 σ)
      · refine g_aload_n (pc := 14) 0 dX10_at_14 rfl rfl ?_
        refine g_iload_n (pc := 15) 1 dX10_at_15 rfl rfl ?_
        refine g_iald (pc := 16) 52 cN_52 rfl dX10_at_16 ?_
        refine g_goto (pc := 17) (tgt := 21) dX10_at_17 (by decide) ?_
        exact g_iret (pc := 21) hRT dX10_at_21
set_option maxRecDepth 100000 in
set_option maxHeartbeats 4000000 in
theorem k_X10_copy__52_21 {l : Launch} {D : va_G} {a : Nat → Nat} {cI cS : ClassId} (hI : ∀ σ : St, va_D (AN a) (cN a cI cS σ)) {σ : St} {r : Int32 × St} (h : f_X10_copy__52_21 σ = some r) : Kc (SN l D a cI cS) yX10_copy cX10_copy 3 none 1 [Value.ref (a 52), Value.ref (a 21)] σ r := by
  refine enter (own := RX10) (o := f_X10_copy__52_21 σ) (plainFor_of_name (by decide +kernel)) rfl (Nat.le_of_ble_eq_true rfl) hI wk_X10_copy.1 h (fun Γ hRT => ?_)
  show G _ Γ _ _ _ _ _ _ σ [((0 : Nat), Value.ref (a 52)), ((1 : Nat), Value.ref (a 21))] 0 []
  unfold f_X10_copy__52_21
  refine g_iconst (pc := 0) (v := 0) dX10_copy_0 (by decide) ?_
  refine g_istore_n (pc := 1) [1, 2, 0] (lv1 := [(0, Value.ref (a 52)), (1, Value.ref (a 21)), (2, Value.int (0 : Int32))]) dX10_copy_1 rfl (by decide) rfl ?_
  refine g_lq1 (pc := 2) (lf := fun x2 => [((0 : Nat), Value.ref (a 52)), ((1 : Nat), Value.ref (a 21)), ((2 : Nat), Value.int x2)]) (sf := fun x2 => ([] : List Value)) (fun k1 hk1 s3 x2 => ?_) 100000 σ _
  show G _ Γ _ _ _ _ _ _ s3 [((0 : Nat), Value.ref (a 52)), ((1 : Nat), Value.ref (a 21)), ((2 : Nat), Value.int x2)] 2 ([] : List Value)
  refine g_aload_n (pc := 2) 1 dX10_copy_2 rfl rfl ?_
  refine g_ifnull (pc := 3) dX10_copy_3 ?_
  refine g_iload_n (pc := 6) 2 dX10_copy_6 rfl rfl ?_
  refine g_aload_n (pc := 7) 1 dX10_copy_7 rfl rfl ?_
  refine g_alen (pc := 8) 21 0 (v := 5) cN_21 rfl (show Int32.ofNat 5 = 5 by decide) dX10_copy_8 ?_
  refine g_icmp_ge (pc := 9) (tgt := 26) dX10_copy_9 (by decide) ?_ ?_
  · exact g_vret (pc := 26) hRT dX10_copy_26
  · refine g_aload_n (pc := 12) 1 dX10_copy_12 rfl rfl ?_
    refine g_iload_n (pc := 13) 2 dX10_copy_13 rfl rfl ?_
    refine g_aload_n (pc := 14) 0 dX10_copy_14 rfl rfl ?_
    refine g_iload_n (pc := 15) 2 dX10_copy_15 rfl rfl ?_
    refine g_cSi (pc := 16) (As := [Value.ref (a 52), Value.int x2]) (fun r2 h2 => k_X10_at__52 hI h2) wk_X10_at ws_X10_at bw_24_10 (by decide) (by decide) rfl rfl (Nat.le_of_ble_eq_true rfl) dX10_copy_16 (fun r4 s5 => ?_)
    refine g_iast (pc := 19) 21 cN_21 rfl cN_s21 dX10_copy_19 (fun s6 => ?_)
    refine g_iinc (pc := 20) [1, 2, 0] 2 (n1 := 1) (lv1 := fun x7 => [(0, Value.ref (a 52)), (1, Value.ref (a 21)), (2, Value.int x7)]) dX10_copy_20 rfl (by decide) (by decide) (fun _ => rfl) (fun x7 => ?_)
    show G _ Γ _ _ _ _ _ _ _ [(0, Value.ref (a 52)), (1, Value.ref (a 21)), (2, Value.int x7)] (20 + 3) _
    refine g_goto (pc := 23) (tgt := 2) dX10_copy_23 (by decide) ?_
    exact hk1 s6 _
set_option maxRecDepth 100000 in
set_option maxHeartbeats 4000000 in
theorem k_X9_copyOf__19_50 {l : Launch} {D : va_G} {a : Nat → Nat} {cI cS : ClassId} (hI : ∀ σ : St, va_D (AN a) (cN a cI cS σ)) {σ : St} {r : Int32 × St} (h : f_X9_copyOf__19_50 σ = some r) : Kc (SN l D a cI cS) yX9_copyOf cX9_copyOf 2 none 2 [Value.ref (a 19), Value.ref (a 50)] σ r := by
  refine enter (own := RX9) (o := f_X9_copyOf__19_50 σ) (plainFor_of_name (by decide +kernel)) rfl (Nat.le_of_ble_eq_true rfl) hI wk_X9_copyOf.1 h (fun Γ hRT => ?_)
  show G _ Γ _ _ _ _ _ _ σ [((0 : Nat), Value.ref (a 19)), ((1 : Nat), Value.ref (a 50))] 0 []
  unfold f_X9_copyOf__19_50
  refine g_aload_n (pc := 0) 1 dX9_copyOf_0 rfl rfl ?_
  refine g_get (pc := 1) 50 cN_50 rfl inlX9 0 (by decide) bw_4_14 rfl dX9_copyOf_1 ?_
  refine g_aload_n (pc := 4) 0 dX9_copyOf_4 rfl rfl ?_
  refine g_get (pc := 5) 19 cN_19 rfl inlX9 0 (by decide) bw_4_14 rfl dX9_copyOf_5 ?_
  refine g_cNv (pc := 8) (As := [Value.ref (a 51), Value.ref (a 20)]) (fun r2 h2 => k_X10_copy__51_20 hI h2) wk_X10_copy ws_X10_copy nst_RX9_42 (by decide) (by decide) rfl rfl (Nat.le_of_ble_eq_true rfl) dX9_copyOf_8 (fun r1 s2 => ?_)
  refine g_aload_n (pc := 11) 1 dX9_copyOf_11 rfl rfl ?_
  refine g_get (pc := 12) 50 cN_50 rfl inlX9 1 (by decide) bw_4_15 rfl dX9_copyOf_12 ?_
  refine g_aload_n (pc := 15) 0 dX9_copyOf_15 rfl rfl ?_
  refine g_get (pc := 16) 19 cN_19 rfl inlX9 1 (by decide) bw_4_15 rfl dX9_copyOf_16 ?_
  refine g_cNv (pc := 19) (As := [Value.ref (a 52), Value.ref (a 21)]) (fun r2 h2 => k_X10_copy__52_21 hI h2) wk_X10_copy ws_X10_copy nst_RX9_42 (by decide) (by decide) rfl rfl (Nat.le_of_ble_eq_true rfl) dX9_copyOf_19 (fun r3 s4 => ?_)
  refine g_aload_n (pc := 22) 0 dX9_copyOf_22 rfl rfl ?_
  refine g_aload_n (pc := 23) 1 dX9_copyOf_23 rfl rfl ?_
  refine g_get (pc := 24) 50 cN_50 rfl inlX9 2 (by decide) bw_4_16 rfl dX9_copyOf_24 ?_
  refine g_put (pc := 27) 19 (ty := .int) cN_19 rfl inlX9 tyX9_ok nmX9 2 (by decide) bw_4_16 rfl (by decide +kernel) rfl rfl (Nat.le_of_ble_eq_true rfl) cN_f19_2 dX9_copyOf_27 (fun s5 => ?_)
  exact g_vret (pc := 30) hRT dX9_copyOf_30
set_option maxRecDepth 100000 in
set_option maxHeartbeats 4000000 in
theorem k_X10_at__54 {l : Launch} {D : va_G} {a : Nat → Nat} {cI cS : ClassId} (hI : ∀ σ : St, va_D (AN a) (cN a cI cS σ)) {σ : St} {x1 : Int32} {r : Int32 × St} (h : f_X10_at__54 σ x1 = some r) : Kc (SN l D a cI cS) yX10_at cX10_at 2 (some .int) 0 [Value.ref (a 54), Value.int x1] σ r := by
  refine enter (own := RX10) (o := f_X10_at__54 σ x1) (plainFor_of_name (by decide +kernel)) rfl (Nat.le_of_ble_eq_true rfl) hI wk_X10_at.1 h (fun Γ hRT => ?_)
  show G _ Γ _ _ _ _ _ _ σ [((0 : Nat), Value.ref (a 54)), ((1 : Nat), Value.int x1)] 0 []
  unfold f_X10_at__54
  refine g_aload_n (pc := 0) 0 dX10_at_0 rfl rfl ?_
  refine g_ifnull (pc := 1) dX10_at_1 ?_
  refine g_jq0 (pc2 := 20) (lf := ([] : List (Nat × Value))) (sf := ([] : List Value)) (fun s3 => ?_) (fun k2 hk2 => ?_)
  · show G _ Γ _ _ _ _ _ _ s3 ([] : List (Nat × Value)) 20 ([] : List Value)
    refine g_iconst (pc := 20) (v := 0) dX10_at_20 (by decide) ?_
    exact g_iret (pc := 21) hRT dX10_at_21
  · refine g_iload_n (pc := 4) 1 dX10_at_4 rfl rfl ?_
    refine g_if_lt (pc := 5) (tgt := 20) dX10_at_5 (by decide) ?_ ?_
    · exact g_lv [] rfl (hk2 σ)
    · refine g_iload_n (pc := 8) 1 dX10_at_8 rfl rfl ?_
      refine g_aload_n (pc := 9) 0 dX10_at_9 rfl rfl ?_
      refine g_alen (pc := 10) 54 0 (v := 16) cN_54 rfl (show Int32.ofNat 16 = 16 by decide) dX10_at_10 ?_
      refine g_icmp_ge (pc := 11) (tgt := 20) dX10_at_11 (by decide) ?_ ?_
      · exact g_lv [] rfl (hk2 σ)
      · refine g_aload_n (pc := 14) 0 dX10_at_14 rfl rfl ?_
        refine g_iload_n (pc := 15) 1 dX10_at_15 rfl rfl ?_
        refine g_iald (pc := 16) 54 cN_54 rfl dX10_at_16 ?_
        refine g_goto (pc := 17) (tgt := 21) dX10_at_17 (by decide) ?_
        exact g_iret (pc := 21) hRT dX10_at_21
set_option maxRecDepth 100000 in
set_option maxHeartbeats 4000000 in
theorem k_X10_copy__54_20 {l : Launch} {D : va_G} {a : Nat → Nat} {cI cS : ClassId} (hI : ∀ σ : St, va_D (AN a) (cN a cI cS σ)) {σ : St} {r : Int32 × St} (h : f_X10_copy__54_20 σ = some r) : Kc (SN l D a cI cS) yX10_copy cX10_copy 3 none 1 [Value.ref (a 54), Value.ref (a 20)] σ r := by
  refine enter (own := RX10) (o := f_X10_copy__54_20 σ) (plainFor_of_name (by decide +kernel)) rfl (Nat.le_of_ble_eq_true rfl) hI wk_X10_copy.1 h (fun Γ hRT => ?_)
  show G _ Γ _ _ _ _ _ _ σ [((0 : Nat), Value.ref (a 54)), ((1 : Nat), Value.ref (a 20))] 0 []
  unfold f_X10_copy__54_20
  refine g_iconst (pc := 0) (v := 0) dX10_copy_0 (by decide) ?_
  refine g_istore_n (pc := 1) [1, 2, 0] (lv1 := [(0, Value.ref (a 54)), (1, Value.ref (a 20)), (2, Value.int (0 : Int32))]) dX10_copy_1 rfl (by decide) rfl ?_
  refine g_lq1 (pc := 2) (lf := fun x2 => [((0 : Nat), Value.ref (a 54)), ((1 : Nat), Value.ref (a 20)), ((2 : Nat), Value.int x2)]) (sf := fun x2 => ([] : List Value)) (fun k1 hk1 s3 x2 => ?_) 100000 σ _
  show G _ Γ _ _ _ _ _ _ s3 [((0 : Nat), Value.ref (a 54)), ((1 : Nat), Value.ref (a 20)), ((2 : Nat), Value.int x2)] 2 ([] : List Value)
  refine g_aload_n (pc := 2) 1 dX10_copy_2 rfl rfl ?_
  refine g_ifnull (pc := 3) dX10_copy_3 ?_
  refine g_iload_n (pc := 6) 2 dX10_copy_6 rfl rfl ?_
  refine g_aload_n (pc := 7) 1 dX10_copy_7 rfl rfl ?_
  refine g_alen (pc := 8) 20 0 (v := 16) cN_20 rfl (show Int32.ofNat 16 = 16 by decide) dX10_copy_8 ?_
  refine g_icmp_ge (pc := 9) (tgt := 26) dX10_copy_9 (by decide) ?_ ?_
  · exact g_vret (pc := 26) hRT dX10_copy_26
  · refine g_aload_n (pc := 12) 1 dX10_copy_12 rfl rfl ?_
    refine g_iload_n (pc := 13) 2 dX10_copy_13 rfl rfl ?_
    refine g_aload_n (pc := 14) 0 dX10_copy_14 rfl rfl ?_
    refine g_iload_n (pc := 15) 2 dX10_copy_15 rfl rfl ?_
    refine g_cSi (pc := 16) (As := [Value.ref (a 54), Value.int x2]) (fun r2 h2 => k_X10_at__54 hI h2) wk_X10_at ws_X10_at bw_24_10 (by decide) (by decide) rfl rfl (Nat.le_of_ble_eq_true rfl) dX10_copy_16 (fun r4 s5 => ?_)
    refine g_iast (pc := 19) 20 cN_20 rfl cN_s20 dX10_copy_19 (fun s6 => ?_)
    refine g_iinc (pc := 20) [1, 2, 0] 2 (n1 := 1) (lv1 := fun x7 => [(0, Value.ref (a 54)), (1, Value.ref (a 20)), (2, Value.int x7)]) dX10_copy_20 rfl (by decide) (by decide) (fun _ => rfl) (fun x7 => ?_)
    show G _ Γ _ _ _ _ _ _ _ [(0, Value.ref (a 54)), (1, Value.ref (a 20)), (2, Value.int x7)] (20 + 3) _
    refine g_goto (pc := 23) (tgt := 2) dX10_copy_23 (by decide) ?_
    exact hk1 s6 _
set_option maxRecDepth 100000 in
set_option maxHeartbeats 4000000 in
theorem k_X10_at__55 {l : Launch} {D : va_G} {a : Nat → Nat} {cI cS : ClassId} (hI : ∀ σ : St, va_D (AN a) (cN a cI cS σ)) {σ : St} {x1 : Int32} {r : Int32 × St} (h : f_X10_at__55 σ x1 = some r) : Kc (SN l D a cI cS) yX10_at cX10_at 2 (some .int) 0 [Value.ref (a 55), Value.int x1] σ r := by
  refine enter (own := RX10) (o := f_X10_at__55 σ x1) (plainFor_of_name (by decide +kernel)) rfl (Nat.le_of_ble_eq_true rfl) hI wk_X10_at.1 h (fun Γ hRT => ?_)
  show G _ Γ _ _ _ _ _ _ σ [((0 : Nat), Value.ref (a 55)), ((1 : Nat), Value.int x1)] 0 []
  unfold f_X10_at__55
  refine g_aload_n (pc := 0) 0 dX10_at_0 rfl rfl ?_
  refine g_ifnull (pc := 1) dX10_at_1 ?_
  refine g_jq0 (pc2 := 20) (lf := ([] : List (Nat × Value))) (sf := ([] : List Value)) (fun s3 => ?_) (fun k2 hk2 => ?_)
  · show G _ Γ _ _ _ _ _ _ s3 ([] : List (Nat × Value)) 20 ([] : List Value)
    refine g_iconst (pc := 20) (v := 0) dX10_at_20 (by decide) ?_
    exact g_iret (pc := 21) hRT dX10_at_21
  · refine g_iload_n (pc := 4) 1 dX10_at_4 rfl rfl ?_
    refine g_if_lt (pc := 5) (tgt := 20) dX10_at_5 (by decide) ?_ ?_
    · exact g_lv [] rfl (hk2 σ)
    · refine g_iload_n (pc := 8) 1 dX10_at_8 rfl rfl ?_
      refine g_aload_n (pc := 9) 0 dX10_at_9 rfl rfl ?_
      refine g_alen (pc := 10) 55 0 (v := 5) cN_55 rfl (show Int32.ofNat 5 = 5 by decide) dX10_at_10 ?_
      refine g_icmp_ge (pc := 11) (tgt := 20) dX10_at_11 (by decide) ?_ ?_
      · exact g_lv [] rfl (hk2 σ)
      · refine g_aload_n (pc := 14) 0 dX10_at_14 rfl rfl ?_
        refine g_iload_n (pc := 15) 1 dX10_at_15 rfl rfl ?_
        refine g_iald (pc := 16) 55 cN_55 rfl dX10_at_16 ?_
        refine g_goto (pc := 17) (tgt := 21) dX10_at_17 (by decide) ?_
        exact g_iret (pc := 21) hRT dX10_at_21
set_option maxRecDepth 100000 in
set_option maxHeartbeats 4000000 in
theorem k_X10_copy__55_21 {l : Launch} {D : va_G} {a : Nat → Nat} {cI cS : ClassId} (hI : ∀ σ : St, va_D (AN a) (cN a cI cS σ)) {σ : St} {r : Int32 × St} (h : f_X10_copy__55_21 σ = some r) : Kc (SN l D a cI cS) yX10_copy cX10_copy 3 none 1 [Value.ref (a 55), Value.ref (a 21)] σ r := by
  refine enter (own := RX10) (o := f_X10_copy__55_21 σ) (plainFor_of_name (by decide +kernel)) rfl (Nat.le_of_ble_eq_true rfl) hI wk_X10_copy.1 h (fun Γ hRT => ?_)
  show G _ Γ _ _ _ _ _ _ σ [((0 : Nat), Value.ref (a 55)), ((1 : Nat), Value.ref (a 21))] 0 []
  unfold f_X10_copy__55_21
  refine g_iconst (pc := 0) (v := 0) dX10_copy_0 (by decide) ?_
  refine g_istore_n (pc := 1) [1, 2, 0] (lv1 := [(0, Value.ref (a 55)), (1, Value.ref (a 21)), (2, Value.int (0 : Int32))]) dX10_copy_1 rfl (by decide) rfl ?_
  refine g_lq1 (pc := 2) (lf := fun x2 => [((0 : Nat), Value.ref (a 55)), ((1 : Nat), Value.ref (a 21)), ((2 : Nat), Value.int x2)]) (sf := fun x2 => ([] : List Value)) (fun k1 hk1 s3 x2 => ?_) 100000 σ _
  show G _ Γ _ _ _ _ _ _ s3 [((0 : Nat), Value.ref (a 55)), ((1 : Nat), Value.ref (a 21)), ((2 : Nat), Value.int x2)] 2 ([] : List Value)
  refine g_aload_n (pc := 2) 1 dX10_copy_2 rfl rfl ?_
  refine g_ifnull (pc := 3) dX10_copy_3 ?_
  refine g_iload_n (pc := 6) 2 dX10_copy_6 rfl rfl ?_
  refine g_aload_n (pc := 7) 1 dX10_copy_7 rfl rfl ?_
  refine g_alen (pc := 8) 21 0 (v := 5) cN_21 rfl (show Int32.ofNat 5 = 5 by decide) dX10_copy_8 ?_
  refine g_icmp_ge (pc := 9) (tgt := 26) dX10_copy_9 (by decide) ?_ ?_
  · exact g_vret (pc := 26) hRT dX10_copy_26
  · refine g_aload_n (pc := 12) 1 dX10_copy_12 rfl rfl ?_
    refine g_iload_n (pc := 13) 2 dX10_copy_13 rfl rfl ?_
    refine g_aload_n (pc := 14) 0 dX10_copy_14 rfl rfl ?_
    refine g_iload_n (pc := 15) 2 dX10_copy_15 rfl rfl ?_
    refine g_cSi (pc := 16) (As := [Value.ref (a 55), Value.int x2]) (fun r2 h2 => k_X10_at__55 hI h2) wk_X10_at ws_X10_at bw_24_10 (by decide) (by decide) rfl rfl (Nat.le_of_ble_eq_true rfl) dX10_copy_16 (fun r4 s5 => ?_)
    refine g_iast (pc := 19) 21 cN_21 rfl cN_s21 dX10_copy_19 (fun s6 => ?_)
    refine g_iinc (pc := 20) [1, 2, 0] 2 (n1 := 1) (lv1 := fun x7 => [(0, Value.ref (a 55)), (1, Value.ref (a 21)), (2, Value.int x7)]) dX10_copy_20 rfl (by decide) (by decide) (fun _ => rfl) (fun x7 => ?_)
    show G _ Γ _ _ _ _ _ _ _ [(0, Value.ref (a 55)), (1, Value.ref (a 21)), (2, Value.int x7)] (20 + 3) _
    refine g_goto (pc := 23) (tgt := 2) dX10_copy_23 (by decide) ?_
    exact hk1 s6 _
set_option maxRecDepth 100000 in
set_option maxHeartbeats 4000000 in
theorem k_X9_copyOf__19_53 {l : Launch} {D : va_G} {a : Nat → Nat} {cI cS : ClassId} (hI : ∀ σ : St, va_D (AN a) (cN a cI cS σ)) {σ : St} {r : Int32 × St} (h : f_X9_copyOf__19_53 σ = some r) : Kc (SN l D a cI cS) yX9_copyOf cX9_copyOf 2 none 2 [Value.ref (a 19), Value.ref (a 53)] σ r := by
  refine enter (own := RX9) (o := f_X9_copyOf__19_53 σ) (plainFor_of_name (by decide +kernel)) rfl (Nat.le_of_ble_eq_true rfl) hI wk_X9_copyOf.1 h (fun Γ hRT => ?_)
  show G _ Γ _ _ _ _ _ _ σ [((0 : Nat), Value.ref (a 19)), ((1 : Nat), Value.ref (a 53))] 0 []
  unfold f_X9_copyOf__19_53
  refine g_aload_n (pc := 0) 1 dX9_copyOf_0 rfl rfl ?_
  refine g_get (pc := 1) 53 cN_53 rfl inlX9 0 (by decide) bw_4_14 rfl dX9_copyOf_1 ?_
  refine g_aload_n (pc := 4) 0 dX9_copyOf_4 rfl rfl ?_
  refine g_get (pc := 5) 19 cN_19 rfl inlX9 0 (by decide) bw_4_14 rfl dX9_copyOf_5 ?_
  refine g_cNv (pc := 8) (As := [Value.ref (a 54), Value.ref (a 20)]) (fun r2 h2 => k_X10_copy__54_20 hI h2) wk_X10_copy ws_X10_copy nst_RX9_42 (by decide) (by decide) rfl rfl (Nat.le_of_ble_eq_true rfl) dX9_copyOf_8 (fun r1 s2 => ?_)
  refine g_aload_n (pc := 11) 1 dX9_copyOf_11 rfl rfl ?_
  refine g_get (pc := 12) 53 cN_53 rfl inlX9 1 (by decide) bw_4_15 rfl dX9_copyOf_12 ?_
  refine g_aload_n (pc := 15) 0 dX9_copyOf_15 rfl rfl ?_
  refine g_get (pc := 16) 19 cN_19 rfl inlX9 1 (by decide) bw_4_15 rfl dX9_copyOf_16 ?_
  refine g_cNv (pc := 19) (As := [Value.ref (a 55), Value.ref (a 21)]) (fun r2 h2 => k_X10_copy__55_21 hI h2) wk_X10_copy ws_X10_copy nst_RX9_42 (by decide) (by decide) rfl rfl (Nat.le_of_ble_eq_true rfl) dX9_copyOf_19 (fun r3 s4 => ?_)
  refine g_aload_n (pc := 22) 0 dX9_copyOf_22 rfl rfl ?_
  refine g_aload_n (pc := 23) 1 dX9_copyOf_23 rfl rfl ?_
  refine g_get (pc := 24) 53 cN_53 rfl inlX9 2 (by decide) bw_4_16 rfl dX9_copyOf_24 ?_
  refine g_put (pc := 27) 19 (ty := .int) cN_19 rfl inlX9 tyX9_ok nmX9 2 (by decide) bw_4_16 rfl (by decide +kernel) rfl rfl (Nat.le_of_ble_eq_true rfl) cN_f19_2 dX9_copyOf_27 (fun s5 => ?_)
  exact g_vret (pc := 30) hRT dX9_copyOf_30
set_option maxRecDepth 100000 in
set_option maxHeartbeats 4000000 in
theorem k_X5_popInto__48_19 {l : Launch} {D : va_G} {a : Nat → Nat} {cI cS : ClassId} (hI : ∀ σ : St, va_D (AN a) (cN a cI cS σ)) {σ : St} {r : Int32 × St} (h : f_X5_popInto__48_19 σ = some r) : Kc (SN l D a cI cS) yX5_popInto cX5_popInto 3 (some .boolean) 3 [Value.ref (a 48), Value.ref (a 19)] σ r := by
  refine enter (own := RX5) (o := f_X5_popInto__48_19 σ) (plainFor_of_name (by decide +kernel)) rfl (Nat.le_of_ble_eq_true rfl) hI wk_X5_popInto.1 h (fun Γ hRT => ?_)
  show G _ Γ _ _ _ _ _ _ σ [((0 : Nat), Value.ref (a 48)), ((1 : Nat), Value.ref (a 19))] 0 []
  unfold f_X5_popInto__48_19
  refine g_aload_n (pc := 0) 0 dX5_popInto_0 rfl rfl ?_
  refine g_get (pc := 1) 48 cN_48 rfl inlX5 2 (by decide) bw_4_22 rfl dX5_popInto_1 ?_
  refine g_if_ne (pc := 4) (tgt := 9) dX5_popInto_4 (by decide) ?_ ?_
  · refine g_aload_n (pc := 9) 0 dX5_popInto_9 rfl rfl ?_
    refine g_aload_n (pc := 10) 0 dX5_popInto_10 rfl rfl ?_
    refine g_get (pc := 11) 48 cN_48 rfl inlX5 2 (by decide) bw_4_22 rfl dX5_popInto_11 ?_
    refine g_iconst (pc := 14) (v := 1) dX5_popInto_14 (by decide) ?_
    refine g_isub (pc := 15) dX5_popInto_15 ?_
    refine g_cVr (pc := 16) 48 (As := [Value.int ((σ 48 2) - (1 : Int32))]) (fun r2 h2 => k_X5_placeOf__48 hI h2) wk_X5_placeOf wv_X5_placeOf bw_23_23 cN_48 rfl (by decide) (by decide) rfl rfl (Nat.le_of_ble_eq_true rfl) dX5_popInto_16 (fun r1 s2 => ?_)
    refine g_ite (fun e50_ => ?_) (fun e50_ => ?_)
    · refine g_eq (lv1 := [((0 : Nat), Value.ref (a 48)), ((1 : Nat), Value.ref (a 19))]) (st1 := [Value.ref (a 50)]) rfl (by subst e50_; first | rfl | (rw [pqv_50]; done) | (rw [pqv_50]; rfl)) ?_
      refine g_astore_n (pc := 19) [1, 2, 0] (lv1 := [(0, Value.ref (a 48)), (1, Value.ref (a 19)), (2, Value.ref (a 50))]) dX5_popInto_19 rfl (by decide) rfl ?_
      refine g_aload_n (pc := 20) 2 dX5_popInto_20 rfl rfl ?_
      refine g_ifnonnull (pc := 21) (tgt := 26) dX5_popInto_21 (by decide) ?_
      refine g_aload_n (pc := 26) 1 dX5_popInto_26 rfl rfl ?_
      refine g_aload_n (pc := 27) 2 dX5_popInto_27 rfl rfl ?_
      refine g_cVv (pc := 28) 19 (As := [Value.ref (a 50)]) (fun r2 h2 => k_X9_copyOf__19_50 hI h2) wk_X9_copyOf wv_X9_copyOf bw_24_4 cN_19 rfl (by decide) (by decide) rfl rfl (Nat.le_of_ble_eq_true rfl) dX5_popInto_28 (fun r3 s4 => ?_)
      refine g_aload_n (pc := 31) 0 dX5_popInto_31 rfl rfl ?_
      refine g_dup (pc := 32) dX5_popInto_32 rfl ?_
      refine g_get (pc := 33) 48 cN_48 rfl inlX5 2 (by decide) bw_4_22 rfl dX5_popInto_33 ?_
      refine g_iconst (pc := 36) (v := 1) dX5_popInto_36 (by decide) ?_
      refine g_isub (pc := 37) dX5_popInto_37 ?_
      refine g_put (pc := 38) 48 (ty := .int) cN_48 rfl inlX5 tyX5_ok nmX5 2 (by decide) bw_4_22 rfl (by decide +kernel) rfl rfl (Nat.le_of_ble_eq_true rfl) cN_f48_2 dX5_popInto_38 (fun s5 => ?_)
      refine g_iconst (pc := 41) (v := 1) dX5_popInto_41 (by decide) ?_
      exact g_zret1 (pc := 42) hRT (by decide) dX5_popInto_42
    · skip
      refine g_ite (fun e53_ => ?_) (fun e53_ => ?_)
      · refine g_eq (lv1 := [((0 : Nat), Value.ref (a 48)), ((1 : Nat), Value.ref (a 19))]) (st1 := [Value.ref (a 53)]) rfl (by subst e53_; first | rfl | (rw [pqv_53]; done) | (rw [pqv_53]; rfl)) ?_
        refine g_astore_n (pc := 19) [1, 2, 0] (lv1 := [(0, Value.ref (a 48)), (1, Value.ref (a 19)), (2, Value.ref (a 53))]) dX5_popInto_19 rfl (by decide) rfl ?_
        refine g_aload_n (pc := 20) 2 dX5_popInto_20 rfl rfl ?_
        refine g_ifnonnull (pc := 21) (tgt := 26) dX5_popInto_21 (by decide) ?_
        refine g_aload_n (pc := 26) 1 dX5_popInto_26 rfl rfl ?_
        refine g_aload_n (pc := 27) 2 dX5_popInto_27 rfl rfl ?_
        refine g_cVv (pc := 28) 19 (As := [Value.ref (a 53)]) (fun r2 h2 => k_X9_copyOf__19_53 hI h2) wk_X9_copyOf wv_X9_copyOf bw_24_4 cN_19 rfl (by decide) (by decide) rfl rfl (Nat.le_of_ble_eq_true rfl) dX5_popInto_28 (fun r6 s7 => ?_)
        refine g_aload_n (pc := 31) 0 dX5_popInto_31 rfl rfl ?_
        refine g_dup (pc := 32) dX5_popInto_32 rfl ?_
        refine g_get (pc := 33) 48 cN_48 rfl inlX5 2 (by decide) bw_4_22 rfl dX5_popInto_33 ?_
        refine g_iconst (pc := 36) (v := 1) dX5_popInto_36 (by decide) ?_
        refine g_isub (pc := 37) dX5_popInto_37 ?_
        refine g_put (pc := 38) 48 (ty := .int) cN_48 rfl inlX5 tyX5_ok nmX5 2 (by decide) bw_4_22 rfl (by decide +kernel) rfl rfl (Nat.le_of_ble_eq_true rfl) cN_f48_2 dX5_popInto_38 (fun s8 => ?_)
        refine g_iconst (pc := 41) (v := 1) dX5_popInto_41 (by decide) ?_
        exact g_zret1 (pc := 42) hRT (by decide) dX5_popInto_42
      · skip
        exact g_none
  · refine g_iconst (pc := 7) (v := 0) dX5_popInto_7 (by decide) ?_
    exact g_zret1 (pc := 8) hRT (by decide) dX5_popInto_8
set_option maxRecDepth 100000 in
set_option maxHeartbeats 4000000 in
theorem k_X10_back__0 {l : Launch} {D : va_G} {a : Nat → Nat} {cI cS : ClassId} (hI : ∀ σ : St, va_D (AN a) (cN a cI cS σ)) {σ : St} {r : Int32 × St} (h : f_X10_back__0 σ = some r) : Kc (SN l D a cI cS) yX10_back cX10_back 1 (some .int) 4 [Value.ref (a 0)] σ r := by
  refine enter (own := RX10) (o := f_X10_back__0 σ) (plainFor_of_name (by decide +kernel)) rfl (Nat.le_of_ble_eq_true rfl) hI wk_X10_back.1 h (fun Γ hRT => ?_)
  show G _ Γ _ _ _ _ _ _ σ [((0 : Nat), Value.ref (a 0))] 0 []
  unfold f_X10_back__0
  refine g_aload_n (pc := 0) 0 dX10_back_0 rfl rfl ?_
  refine g_get (pc := 1) 0 cN_0 rfl inlX10 6 (by decide) bw_2_9 rfl dX10_back_1 ?_
  refine g_aload_n (pc := 4) 0 dX10_back_4 rfl rfl ?_
  refine g_get (pc := 5) 0 cN_0 rfl inlX10 4 (by decide) bw_2_4 rfl dX10_back_5 ?_
  refine g_cVz (pc := 8) 48 (As := [Value.ref (a 19)]) (fun r2 h2 => k_X5_popInto__48_19 hI h2) wk_X5_popInto wv_X5_popInto bw_29_10 cN_48 rfl (by decide) (by decide) rfl rfl (Nat.le_of_ble_eq_true rfl) dX10_back_8 (fun r1 s2 => ?_)
  refine g_if_ne (pc := 11) (tgt := 17) dX10_back_11 (by decide) ?_ ?_
  · refine g_aload_n (pc := 17) 0 dX10_back_17 rfl rfl ?_
    refine g_get (pc := 18) 0 cN_0 rfl inlX10 5 (by decide) bw_2_8 rfl dX10_back_18 ?_
    refine g_cVv (pc := 21) 22 (As := []) (fun r2 h2 => k_X5_clear__22 hI h2) wk_X5_clear wv_X5_clear bw_13_9 cN_22 rfl (by decide) (by decide) rfl rfl (Nat.le_of_ble_eq_true rfl) dX10_back_21 (fun r3 s4 => ?_)
    refine g_aload_n (pc := 24) 0 dX10_back_24 rfl rfl ?_
    refine g_get (pc := 25) 0 cN_0 rfl inlX10 6 (by decide) bw_2_9 rfl dX10_back_25 ?_
    refine g_cVi (pc := 28) 48 (As := []) (fun r2 h2 => k_X5_size__48 hI h2) wk_X5_size wv_X5_size bw_29_14 cN_48 rfl (by decide) (by decide) rfl rfl (Nat.le_of_ble_eq_true rfl) dX10_back_28 (fun r5 s6 => ?_)
    exact g_iret (pc := 31) hRT dX10_back_31
  · refine g_bipush (pc := 14) (v := -2) dX10_back_14 (by decide) ?_
    exact g_iret (pc := 16) hRT dX10_back_16
set_option maxRecDepth 100000 in
set_option maxHeartbeats 4000000 in
theorem k_X4_rows__12 {l : Launch} {D : va_G} {a : Nat → Nat} {cI cS : ClassId} (hI : ∀ σ : St, va_D (AN a) (cN a cI cS σ)) {σ : St} {r : Int32 × St} (h : f_X4_rows__12 σ = some r) : Kc (SN l D a cI cS) yX4_rows cX4_rows 1 (some .int) 0 [Value.ref (a 12)] σ r := by
  refine enter (own := RX4) (o := f_X4_rows__12 σ) (plainFor_of_name (by decide +kernel)) rfl (Nat.le_of_ble_eq_true rfl) hI wk_X4_rows.1 h (fun Γ hRT => ?_)
  show G _ Γ _ _ _ _ _ _ σ [((0 : Nat), Value.ref (a 12))] 0 []
  unfold f_X4_rows__12
  refine g_aload_n (pc := 0) 0 dX4_rows_0 rfl rfl ?_
  refine g_get (pc := 1) 12 cN_12 rfl inlX4 6 (by decide) bw_4_4 rfl dX4_rows_1 ?_
  exact g_iret (pc := 4) hRT dX4_rows_4
set_option maxRecDepth 100000 in
set_option maxHeartbeats 4000000 in
theorem k_X9_whoKnowsAny__19 {l : Launch} {D : va_G} {a : Nat → Nat} {cI cS : ClassId} (hI : ∀ σ : St, va_D (AN a) (cN a cI cS σ)) {σ : St} {r : Int32 × St} (h : f_X9_whoKnowsAny__19 σ = some r) : Kc (SN l D a cI cS) yX9_whoKnowsAny cX9_whoKnowsAny 3 (some .int) 2 [Value.ref (a 19)] σ r := by
  refine enter (own := RX9) (o := f_X9_whoKnowsAny__19 σ) (plainFor_of_name (by decide +kernel)) rfl (Nat.le_of_ble_eq_true rfl) hI wk_X9_whoKnowsAny.1 h (fun Γ hRT => ?_)
  show G _ Γ _ _ _ _ _ _ σ [((0 : Nat), Value.ref (a 19))] 0 []
  unfold f_X9_whoKnowsAny__19
  refine g_iconst (pc := 0) (v := 0) dX9_whoKnowsAny_0 (by decide) ?_
  refine g_istore_n (pc := 1) [1, 0] (lv1 := [(0, Value.ref (a 19)), (1, Value.int (0 : Int32))]) dX9_whoKnowsAny_1 rfl (by decide) rfl ?_
  refine g_iconst (pc := 2) (v := 0) dX9_whoKnowsAny_2 (by decide) ?_
  refine g_istore_n (pc := 3) [1, 2, 0] (lv1 := [(0, Value.ref (a 19)), (1, Value.int (0 : Int32)), (2, Value.int (0 : Int32))]) dX9_whoKnowsAny_3 rfl (by decide) rfl ?_
  refine g_lq2 (pc := 4) (lf := fun x2 x3 => [((0 : Nat), Value.ref (a 19)), ((1 : Nat), Value.int x2), ((2 : Nat), Value.int x3)]) (sf := fun x2 x3 => ([] : List Value)) (fun k1 hk1 s4 x2 x3 => ?_) 100000 σ _ _
  show G _ Γ _ _ _ _ _ _ s4 [((0 : Nat), Value.ref (a 19)), ((1 : Nat), Value.int x2), ((2 : Nat), Value.int x3)] 4 ([] : List Value)
  refine g_iload_n (pc := 4) 2 dX9_whoKnowsAny_4 rfl rfl ?_
  refine g_iconst (pc := 5) (v := 5) dX9_whoKnowsAny_5 (by decide) ?_
  refine g_icmp_ge (pc := 6) (tgt := 23) dX9_whoKnowsAny_6 (by decide) ?_ ?_
  · refine g_iload_n (pc := 23) 1 dX9_whoKnowsAny_23 rfl rfl ?_
    exact g_iret (pc := 24) hRT dX9_whoKnowsAny_24
  · refine g_iload_n (pc := 9) 1 dX9_whoKnowsAny_9 rfl rfl ?_
    refine g_aload_n (pc := 10) 0 dX9_whoKnowsAny_10 rfl rfl ?_
    refine g_iload_n (pc := 11) 2 dX9_whoKnowsAny_11 rfl rfl ?_
    refine g_cVi (pc := 12) 19 (As := [Value.int x3]) (fun r2 h2 => k_X9_whoKnows__19 hI h2) wk_X9_whoKnows wv_X9_whoKnows bw_19_23 cN_19 rfl (by decide) (by decide) rfl rfl (Nat.le_of_ble_eq_true rfl) dX9_whoKnowsAny_12 (fun r5 s6 => ?_)
    refine g_ior (pc := 15) dX9_whoKnowsAny_15 ?_
    refine g_nm (fun x7 => ?_)
    refine g_istore_n (pc := 16) [1, 0, 2] (lv1 := [(0, Value.ref (a 19)), (1, Value.int x7), (2, Value.int x3)]) dX9_whoKnowsAny_16 rfl (by decide) rfl ?_
    refine g_iinc (pc := 17) [1, 2, 0] 2 (n1 := 1) (lv1 := fun x8 => [(0, Value.ref (a 19)), (1, Value.int x7), (2, Value.int x8)]) dX9_whoKnowsAny_17 rfl (by decide) (by decide) (fun _ => rfl) (fun x8 => ?_)
    show G _ Γ _ _ _ _ _ _ _ [(0, Value.ref (a 19)), (1, Value.int x7), (2, Value.int x8)] (17 + 3) _
    refine g_goto (pc := 20) (tgt := 4) dX9_whoKnowsAny_20 (by decide) ?_
    exact hk1 s6 _ _
set_option maxRecDepth 100000 in
set_option maxHeartbeats 4000000 in
theorem k_X10_count__0 {l : Launch} {D : va_G} {a : Nat → Nat} {cI cS : ClassId} (hI : ∀ σ : St, va_D (AN a) (cN a cI cS σ)) {σ : St} {x1 : Int32} {r : Int32 × St} (h : f_X10_count__0 σ x1 = some r) : Kc (SN l D a cI cS) yX10_count cX10_count 2 (some .int) 3 [Value.ref (a 0), Value.int x1] σ r := by
  refine enter (own := RX10) (o := f_X10_count__0 σ x1) (plainFor_of_name (by decide +kernel)) rfl (Nat.le_of_ble_eq_true rfl) hI wk_X10_count.1 h (fun Γ hRT => ?_)
  show G _ Γ _ _ _ _ _ _ σ [((0 : Nat), Value.ref (a 0)), ((1 : Nat), Value.int x1)] 0 []
  unfold f_X10_count__0
  refine g_iload_n (pc := 0) 1 dX10_count_0 rfl rfl ?_
  refine g_ite (fun e0_ => ?_) (fun e0_ => ?_)
  · refine g_tableIn (pc := 1) (off := 55) (tgt := 56) dX10_count_1 (by rw [e0_]; decide) (by rw [e0_]; decide) (by rw [e0_]; decide) (by decide) ?_
    refine g_aload_n (pc := 56) 0 dX10_count_56 rfl rfl ?_
    refine g_get (pc := 57) 0 cN_0 rfl inlX10 3 (by decide) bw_2_0 rfl dX10_count_57 ?_
    refine g_cVi (pc := 60) 12 (As := []) (fun r2 h2 => k_X4_houses__12 hI h2) wk_X4_houses wv_X4_houses bw_19_0 cN_12 rfl (by decide) (by decide) rfl rfl (Nat.le_of_ble_eq_true rfl) dX10_count_60 (fun r3 s4 => ?_)
    exact g_iret (pc := 63) hRT dX10_count_63
  · skip
    refine g_ite (fun e1_ => ?_) (fun e1_ => ?_)
    · refine g_tableIn (pc := 1) (off := 63) (tgt := 64) dX10_count_1 (by rw [e1_]; decide) (by rw [e1_]; decide) (by rw [e1_]; decide) (by decide) ?_
      refine g_aload_n (pc := 64) 0 dX10_count_64 rfl rfl ?_
      refine g_get (pc := 65) 0 cN_0 rfl inlX10 3 (by decide) bw_2_0 rfl dX10_count_65 ?_
      refine g_cVi (pc := 68) 12 (As := []) (fun r2 h2 => k_X4_rows__12 hI h2) wk_X4_rows wv_X4_rows bw_45_12 cN_12 rfl (by decide) (by decide) rfl rfl (Nat.le_of_ble_eq_true rfl) dX10_count_68 (fun r5 s6 => ?_)
      exact g_iret (pc := 71) hRT dX10_count_71
    · skip
      refine g_ite (fun e2_ => ?_) (fun e2_ => ?_)
      · refine g_tableIn (pc := 1) (off := 71) (tgt := 72) dX10_count_1 (by rw [e2_]; decide) (by rw [e2_]; decide) (by rw [e2_]; decide) (by decide) ?_
        refine g_aload_n (pc := 72) 0 dX10_count_72 rfl rfl ?_
        refine g_get (pc := 73) 0 cN_0 rfl inlX10 3 (by decide) bw_2_0 rfl dX10_count_73 ?_
        refine g_cVi (pc := 76) 12 (As := []) (fun r2 h2 => k_X4_newsTold__12 hI h2) wk_X4_newsTold wv_X4_newsTold bw_12_13 cN_12 rfl (by decide) (by decide) rfl rfl (Nat.le_of_ble_eq_true rfl) dX10_count_76 (fun r7 s8 => ?_)
        exact g_iret (pc := 79) hRT dX10_count_79
      · skip
        refine g_ite (fun e3_ => ?_) (fun e3_ => ?_)
        · refine g_tableIn (pc := 1) (off := 79) (tgt := 80) dX10_count_1 (by rw [e3_]; decide) (by rw [e3_]; decide) (by rw [e3_]; decide) (by decide) ?_
          refine g_aload_n (pc := 80) 0 dX10_count_80 rfl rfl ?_
          refine g_get (pc := 81) 0 cN_0 rfl inlX10 3 (by decide) bw_2_0 rfl dX10_count_81 ?_
          refine g_cVi (pc := 84) 12 (As := []) (fun r2 h2 => k_X4_windsInTurn__12 hI h2) wk_X4_windsInTurn wv_X4_windsInTurn bw_45_16 cN_12 rfl (by decide) (by decide) rfl rfl (Nat.le_of_ble_eq_true rfl) dX10_count_84 (fun r9 s10 => ?_)
          exact g_iret (pc := 87) hRT dX10_count_87
        · skip
          refine g_ite (fun e4_ => ?_) (fun e4_ => ?_)
          · refine g_tableIn (pc := 1) (off := 87) (tgt := 88) dX10_count_1 (by rw [e4_]; decide) (by rw [e4_]; decide) (by rw [e4_]; decide) (by decide) ?_
            refine g_aload_n (pc := 88) 0 dX10_count_88 rfl rfl ?_
            refine g_get (pc := 89) 0 cN_0 rfl inlX10 4 (by decide) bw_2_4 rfl dX10_count_89 ?_
            refine g_cVi (pc := 92) 19 (As := []) (fun r2 h2 => k_X9_stepsGone__19 hI h2) wk_X9_stepsGone wv_X9_stepsGone bw_22_15 cN_19 rfl (by decide) (by decide) rfl rfl (Nat.le_of_ble_eq_true rfl) dX10_count_92 (fun r11 s12 => ?_)
            exact g_iret (pc := 95) hRT dX10_count_95
          · skip
            refine g_ite (fun e5_ => ?_) (fun e5_ => ?_)
            · refine g_tableIn (pc := 1) (off := 95) (tgt := 96) dX10_count_1 (by rw [e5_]; decide) (by rw [e5_]; decide) (by rw [e5_]; decide) (by decide) ?_
              refine g_aload_n (pc := 96) 0 dX10_count_96 rfl rfl ?_
              refine g_get (pc := 97) 0 cN_0 rfl inlX10 4 (by decide) bw_2_4 rfl dX10_count_97 ?_
              refine g_cVi (pc := 100) 19 (As := []) (fun r2 h2 => k_X9_whoKnowsAny__19 hI h2) wk_X9_whoKnowsAny wv_X9_whoKnowsAny bw_45_17 cN_19 rfl (by decide) (by decide) rfl rfl (Nat.le_of_ble_eq_true rfl) dX10_count_100 (fun r13 s14 => ?_)
              refine g_cSi (pc := 103) (As := [Value.int r13]) (fun r2 h2 => k_J6_bitCount_0f7a4 hI h2) wk_J6_bitCount_0f7a4 ws_J6_bitCount_0f7a4 bw_21_17 (by decide) (by decide) rfl rfl (Nat.le_of_ble_eq_true rfl) dX10_count_103 (fun r15 s16 => ?_)
              exact g_iret (pc := 106) hRT dX10_count_106
            · skip
              refine g_ite (fun e6_ => ?_) (fun e6_ => ?_)
              · refine g_tableIn (pc := 1) (off := 106) (tgt := 107) dX10_count_1 (by rw [e6_]; decide) (by rw [e6_]; decide) (by rw [e6_]; decide) (by decide) ?_
                refine g_aload_n (pc := 107) 0 dX10_count_107 rfl rfl ?_
                refine g_get (pc := 108) 0 cN_0 rfl inlX10 11 (by decide) bw_3_5 rfl dX10_count_108 ?_
                refine g_cVi (pc := 111) 62 (As := []) (fun r2 h2 => k_X8_size__62 hI h2) wk_X8_size wv_X8_size bw_39_0 cN_62 rfl (by decide) (by decide) rfl rfl (Nat.le_of_ble_eq_true rfl) dX10_count_111 (fun r17 s18 => ?_)
                exact g_iret (pc := 114) hRT dX10_count_114
              · skip
                refine g_ite (fun e7_ => ?_) (fun e7_ => ?_)
                · refine g_tableIn (pc := 1) (off := 114) (tgt := 115) dX10_count_1 (by rw [e7_]; decide) (by rw [e7_]; decide) (by rw [e7_]; decide) (by decide) ?_
                  refine g_aload_n (pc := 115) 0 dX10_count_115 rfl rfl ?_
                  refine g_get (pc := 116) 0 cN_0 rfl inlX10 5 (by decide) bw_2_8 rfl dX10_count_116 ?_
                  refine g_cVi (pc := 119) 22 (As := []) (fun r2 h2 => k_X5_size__22 hI h2) wk_X5_size wv_X5_size bw_29_14 cN_22 rfl (by decide) (by decide) rfl rfl (Nat.le_of_ble_eq_true rfl) dX10_count_119 (fun r19 s20 => ?_)
                  exact g_iret (pc := 122) hRT dX10_count_122
                · skip
                  refine g_ite (fun e8_ => ?_) (fun e8_ => ?_)
                  · refine g_tableIn (pc := 1) (off := 122) (tgt := 123) dX10_count_1 (by rw [e8_]; decide) (by rw [e8_]; decide) (by rw [e8_]; decide) (by decide) ?_
                    refine g_aload_n (pc := 123) 0 dX10_count_123 rfl rfl ?_
                    refine g_get (pc := 124) 0 cN_0 rfl inlX10 6 (by decide) bw_2_9 rfl dX10_count_124 ?_
                    refine g_cVi (pc := 127) 48 (As := []) (fun r2 h2 => k_X5_size__48 hI h2) wk_X5_size wv_X5_size bw_29_14 cN_48 rfl (by decide) (by decide) rfl rfl (Nat.le_of_ble_eq_true rfl) dX10_count_127 (fun r21 s22 => ?_)
                    exact g_iret (pc := 130) hRT dX10_count_130
                  · skip
                    refine g_ite (fun e9_ => ?_) (fun e9_ => ?_)
                    · refine g_tableIn (pc := 1) (off := 130) (tgt := 131) dX10_count_1 (by rw [e9_]; decide) (by rw [e9_]; decide) (by rw [e9_]; decide) (by decide) ?_
                      refine g_aload_n (pc := 131) 0 dX10_count_131 rfl rfl ?_
                      refine g_get (pc := 132) 0 cN_0 rfl inlX10 0 (by decide) bw_1_15 rfl dX10_count_132 ?_
                      refine g_cVi (pc := 135) 1 (As := []) (fun r2 h2 => k_X7_length__1 hI h2) wk_X7_length wv_X7_length bw_16_3 cN_1 rfl (by decide) (by decide) rfl rfl (Nat.le_of_ble_eq_true rfl) dX10_count_135 (fun r23 s24 => ?_)
                      exact g_iret (pc := 138) hRT dX10_count_138
                    · skip
                      have hx_w2 : x1.toInt < 0 ∨ 9 < x1.toInt := by
                        have n0_ : x1.toInt ≠ 0 := fun q => e0_ (Int32.toInt_inj.mp (q.trans (by decide)))
                        have n1_ : x1.toInt ≠ 1 := fun q => e1_ (Int32.toInt_inj.mp (q.trans (by decide)))
                        have n2_ : x1.toInt ≠ 2 := fun q => e2_ (Int32.toInt_inj.mp (q.trans (by decide)))
                        have n3_ : x1.toInt ≠ 3 := fun q => e3_ (Int32.toInt_inj.mp (q.trans (by decide)))
                        have n4_ : x1.toInt ≠ 4 := fun q => e4_ (Int32.toInt_inj.mp (q.trans (by decide)))
                        have n5_ : x1.toInt ≠ 5 := fun q => e5_ (Int32.toInt_inj.mp (q.trans (by decide)))
                        have n6_ : x1.toInt ≠ 6 := fun q => e6_ (Int32.toInt_inj.mp (q.trans (by decide)))
                        have n7_ : x1.toInt ≠ 7 := fun q => e7_ (Int32.toInt_inj.mp (q.trans (by decide)))
                        have n8_ : x1.toInt ≠ 8 := fun q => e8_ (Int32.toInt_inj.mp (q.trans (by decide)))
                        have n9_ : x1.toInt ≠ 9 := fun q => e9_ (Int32.toInt_inj.mp (q.trans (by decide)))
                        omega
                      refine g_tableOut (pc := 1) (tgt := 139) dX10_count_1 hx_w2 (by decide) ?_
                      refine g_iconst (pc := 139) (v := -1) dX10_count_139 (by decide) ?_
                      exact g_iret (pc := 140) hRT dX10_count_140
