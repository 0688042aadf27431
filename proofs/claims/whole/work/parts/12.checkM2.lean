set_option maxRecDepth 100000 in
set_option maxHeartbeats 4000000 in
theorem k_X11_knowsBy__0 {l : Launch} {D : va_G} {a : Nat → Nat} {cI : ClassId} (hI : ∀ σ : St, va_D (AM a) (cM a cI σ)) {σ : St} {x1 x2 x3 x4 x5 : Int32} {r : Int32 × St} (h : f_X11_knowsBy__0 σ x1 x2 x3 x4 x5 = some r) : Kc (SM l D a cI) yX11_knowsBy cX11_knowsBy 6 (some .boolean) 5 [Value.ref (a 0), Value.int x1, Value.int x2, Value.int x3, Value.int x4, Value.int x5] σ r := by
  refine enter (own := RX11) (o := f_X11_knowsBy__0 σ x1 x2 x3 x4 x5) (plainFor_of_name (by decide +kernel)) rfl (Nat.le_of_ble_eq_true rfl) hI wk_X11_knowsBy.1 h (fun Γ hRT => ?_)
  show G _ Γ _ _ _ _ _ _ σ [((0 : Nat), Value.ref (a 0)), ((1 : Nat), Value.int x1), ((2 : Nat), Value.int x2), ((3 : Nat), Value.int x3), ((4 : Nat), Value.int x4), ((5 : Nat), Value.int x5)] 0 []
  unfold f_X11_knowsBy__0
  refine g_jq0 (pc2 := 37) (lf := [((0 : Nat), Value.ref (a 0)), ((2 : Nat), Value.int x2), ((3 : Nat), Value.int x3), ((4 : Nat), Value.int x4), ((5 : Nat), Value.int x5)]) (sf := ([] : List Value)) (fun s7 => ?_) (fun k6 hk6 => ?_)
  · show G _ Γ _ _ _ _ _ _ s7 [((0 : Nat), Value.ref (a 0)), ((2 : Nat), Value.int x2), ((3 : Nat), Value.int x3), ((4 : Nat), Value.int x4), ((5 : Nat), Value.int x5)] 37 ([] : List Value)
    refine g_jq0 (pc2 := 66) (lf := [((0 : Nat), Value.ref (a 0)), ((3 : Nat), Value.int x3), ((4 : Nat), Value.int x4), ((5 : Nat), Value.int x5)]) (sf := ([] : List Value)) (fun s9 => ?_) (fun k8 hk8 => ?_)
    · show G _ Γ _ _ _ _ _ _ s9 [((0 : Nat), Value.ref (a 0)), ((3 : Nat), Value.int x3), ((4 : Nat), Value.int x4), ((5 : Nat), Value.int x5)] 66 ([] : List Value)
      refine g_aload_n (pc := 66) 0 dX11_knowsBy_66 rfl rfl ?_
      refine g_iload (pc := 67) 3 dX11_knowsBy_67 rfl ?_
      refine g_cVv (pc := 69) 0 (As := [Value.int x5]) (fun r2 h2 => k_X11_goes__0 hI h2) wk_X11_goes wv_X11_goes bw_27_8 cM_0 rfl (by decide) (by decide) rfl rfl (Nat.le_of_ble_eq_true rfl) dX11_knowsBy_69 (fun r10 s11 => ?_)
      refine g_aload_n (pc := 72) 0 dX11_knowsBy_72 rfl rfl ?_
      refine g_get (pc := 73) 0 cM_0 rfl inlX11 28 (by decide) bw_14_14 rfl dX11_knowsBy_73 ?_
      refine g_bipush (pc := 76) (v := 17) dX11_knowsBy_76 (by decide) ?_
      refine g_iload (pc := 78) 2 dX11_knowsBy_78 rfl ?_
      refine g_iadd (pc := 80) dX11_knowsBy_80 ?_
      refine g_iald (pc := 81) 14 cM_14 rfl dX11_knowsBy_81 ?_
      refine g_iload_n (pc := 82) 1 dX11_knowsBy_82 rfl rfl ?_
      refine g_cSz (pc := 83) (As := [Value.int (s11 14 (Int32.toNatClampNeg ((17 : Int32) + x4))), Value.int x3]) (fun r2 h2 => k_X11_has hI h2) wk_X11_has ws_X11_has bw_20_23 (by decide) (by decide) rfl rfl (Nat.le_of_ble_eq_true rfl) dX11_knowsBy_83 (fun r12 s13 => ?_)
      exact g_zret (pc := 86) hRT dX11_knowsBy_86
    · refine g_iload_n (pc := 37) 1 dX11_knowsBy_37 rfl rfl ?_
      refine g_bipush (pc := 38) (v := 16) dX11_knowsBy_38 (by decide) ?_
      refine g_icmp_ge (pc := 40) (tgt := 66) dX11_knowsBy_40 (by decide) ?_ ?_
      · exact g_lv [0, 2, 3, 4] rfl (hk8 s7)
      · refine g_aload_n (pc := 43) 0 dX11_knowsBy_43 rfl rfl ?_
        refine g_get (pc := 44) 0 cM_0 rfl inlX11 28 (by decide) bw_14_14 rfl dX11_knowsBy_44 ?_
        refine g_iconst (pc := 47) (v := 1) dX11_knowsBy_47 (by decide) ?_
        refine g_iload_n (pc := 48) 1 dX11_knowsBy_48 rfl rfl ?_
        refine g_iadd (pc := 49) dX11_knowsBy_49 ?_
        refine g_iald (pc := 50) 14 cM_14 rfl dX11_knowsBy_50 ?_
        refine g_if_le (pc := 51) (tgt := 66) dX11_knowsBy_51 (by decide) ?_ ?_
        · exact g_lv [0, 2, 3, 4] rfl (hk8 s7)
        · refine g_aload_n (pc := 54) 0 dX11_knowsBy_54 rfl rfl ?_
          refine g_get (pc := 55) 0 cM_0 rfl inlX11 28 (by decide) bw_14_14 rfl dX11_knowsBy_55 ?_
          refine g_iconst (pc := 58) (v := 1) dX11_knowsBy_58 (by decide) ?_
          refine g_iload_n (pc := 59) 1 dX11_knowsBy_59 rfl rfl ?_
          refine g_iadd (pc := 60) dX11_knowsBy_60 ?_
          refine g_dup2 (pc := 61) dX11_knowsBy_61 rfl rfl ?_
          refine g_iald (pc := 62) 14 cM_14 rfl dX11_knowsBy_62 ?_
          refine g_iconst (pc := 63) (v := 1) dX11_knowsBy_63 (by decide) ?_
          refine g_isub (pc := 64) dX11_knowsBy_64 ?_
          refine g_iast (pc := 65) 14 cM_14 rfl cM_s14 dX11_knowsBy_65 (fun s14 => ?_)
          exact g_lv [0, 2, 3, 4] rfl (hk8 s14)
  · refine g_aload_n (pc := 0) 0 dX11_knowsBy_0 rfl rfl ?_
    refine g_iload (pc := 1) 4 dX11_knowsBy_1 rfl ?_
    refine g_cVv (pc := 3) 0 (As := [Value.int x4]) (fun r2 h2 => k_X11_asItIsOf__0 hI h2) wk_X11_asItIsOf wv_X11_asItIsOf bw_31_7 cM_0 rfl (by decide) (by decide) rfl rfl (Nat.le_of_ble_eq_true rfl) dX11_knowsBy_3 (fun r15 s16 => ?_)
    refine g_iload_n (pc := 6) 1 dX11_knowsBy_6 rfl rfl ?_
    refine g_bipush (pc := 7) (v := 16) dX11_knowsBy_7 (by decide) ?_
    refine g_icmp_ge (pc := 9) (tgt := 37) dX11_knowsBy_9 (by decide) ?_ ?_
    · exact g_lv [0, 2, 3, 4, 5] rfl (hk6 s16)
    · refine g_aload_n (pc := 12) 0 dX11_knowsBy_12 rfl rfl ?_
      refine g_get (pc := 13) 0 cM_0 rfl inlX11 28 (by decide) bw_14_14 rfl dX11_knowsBy_13 ?_
      refine g_iconst (pc := 16) (v := 1) dX11_knowsBy_16 (by decide) ?_
      refine g_iload_n (pc := 17) 1 dX11_knowsBy_17 rfl rfl ?_
      refine g_iadd (pc := 18) dX11_knowsBy_18 ?_
      refine g_iald (pc := 19) 14 cM_14 rfl dX11_knowsBy_19 ?_
      refine g_bipush (pc := 20) (v := 6) dX11_knowsBy_20 (by decide) ?_
      refine g_icmp_ge (pc := 22) (tgt := 37) dX11_knowsBy_22 (by decide) ?_ ?_
      · exact g_lv [0, 2, 3, 4, 5] rfl (hk6 s16)
      · refine g_aload_n (pc := 25) 0 dX11_knowsBy_25 rfl rfl ?_
        refine g_get (pc := 26) 0 cM_0 rfl inlX11 28 (by decide) bw_14_14 rfl dX11_knowsBy_26 ?_
        refine g_iconst (pc := 29) (v := 1) dX11_knowsBy_29 (by decide) ?_
        refine g_iload_n (pc := 30) 1 dX11_knowsBy_30 rfl rfl ?_
        refine g_iadd (pc := 31) dX11_knowsBy_31 ?_
        refine g_dup2 (pc := 32) dX11_knowsBy_32 rfl rfl ?_
        refine g_iald (pc := 33) 14 cM_14 rfl dX11_knowsBy_33 ?_
        refine g_iconst (pc := 34) (v := 1) dX11_knowsBy_34 (by decide) ?_
        refine g_iadd (pc := 35) dX11_knowsBy_35 ?_
        refine g_iast (pc := 36) 14 cM_14 rfl cM_s14 dX11_knowsBy_36 (fun s17 => ?_)
        exact g_lv [0, 2, 3, 4, 5] rfl (hk6 s17)
set_option maxRecDepth 100000 in
set_option maxHeartbeats 4000000 in
theorem k_X11_isWon__0 {l : Launch} {D : va_G} {a : Nat → Nat} {cI : ClassId} (hI : ∀ σ : St, va_D (AM a) (cM a cI σ)) {σ : St} {x1 x2 x3 x4 : Int32} {r : Int32 × St} (h : f_X11_isWon__0 σ x1 x2 x3 x4 = some r) : Kc (SM l D a cI) yX11_isWon cX11_isWon 7 (some .boolean) 6 [Value.ref (a 0), Value.int x1, Value.int x2, Value.int x3, Value.int x4] σ r := by
  refine enter (own := RX11) (o := f_X11_isWon__0 σ x1 x2 x3 x4) (plainFor_of_name (by decide +kernel)) rfl (Nat.le_of_ble_eq_true rfl) hI wk_X11_isWon.1 h (fun Γ hRT => ?_)
  show G _ Γ _ _ _ _ _ _ σ [((0 : Nat), Value.ref (a 0)), ((1 : Nat), Value.int x1), ((2 : Nat), Value.int x2), ((3 : Nat), Value.int x3), ((4 : Nat), Value.int x4)] 0 []
  unfold f_X11_isWon__0
  refine g_aload_n (pc := 0) 0 dX11_isWon_0 rfl rfl ?_
  refine g_iload_n (pc := 1) 1 dX11_isWon_1 rfl rfl ?_
  refine g_bipush (pc := 2) (v := 16) dX11_isWon_2 (by decide) ?_
  refine g_iload_n (pc := 4) 2 dX11_isWon_4 rfl rfl ?_
  refine g_iload_n (pc := 5) 3 dX11_isWon_5 rfl rfl ?_
  refine g_iload (pc := 6) 4 dX11_isWon_6 rfl ?_
  refine g_cVz (pc := 8) 0 (As := [Value.int x1, Value.int (16 : Int32), Value.int x2, Value.int x3, Value.int x4]) (fun r2 h2 => k_X11_knowsBy__0 hI h2) wk_X11_knowsBy wv_X11_knowsBy bw_38_12 cM_0 rfl (by decide) (by decide) rfl rfl (Nat.le_of_ble_eq_true rfl) dX11_isWon_8 (fun r5 s6 => ?_)
  refine g_istore (pc := 11) [1, 2, 3, 4, 5, 0] (lv1 := [(0, Value.ref (a 0)), (1, Value.int x1), (2, Value.int x2), (3, Value.int x3), (4, Value.int x4), (5, Value.int r5)]) dX11_isWon_11 (by decide) rfl ?_
  refine g_iconst (pc := 13) (v := 0) dX11_isWon_13 (by decide) ?_
  refine g_istore (pc := 14) [1, 2, 3, 4, 5, 6, 0] (lv1 := [(0, Value.ref (a 0)), (1, Value.int x1), (2, Value.int x2), (3, Value.int x3), (4, Value.int x4), (5, Value.int r5), (6, Value.int (0 : Int32))]) dX11_isWon_14 (by decide) rfl ?_
  refine g_lq2 (pc := 16) (lf := fun x8 x9 => [((0 : Nat), Value.ref (a 0)), ((1 : Nat), Value.int x1), ((2 : Nat), Value.int x2), ((3 : Nat), Value.int x3), ((4 : Nat), Value.int x4), ((5 : Nat), Value.int x8), ((6 : Nat), Value.int x9)]) (sf := fun x8 x9 => ([] : List Value)) (fun k7 hk7 s10 x8 x9 => ?_) 100000 s6 _ _
  show G _ Γ _ _ _ _ _ _ s10 [((0 : Nat), Value.ref (a 0)), ((1 : Nat), Value.int x1), ((2 : Nat), Value.int x2), ((3 : Nat), Value.int x3), ((4 : Nat), Value.int x4), ((5 : Nat), Value.int x8), ((6 : Nat), Value.int x9)] 16 ([] : List Value)
  refine g_iload (pc := 16) 6 dX11_isWon_16 rfl ?_
  refine g_aload_n (pc := 18) 0 dX11_isWon_18 rfl rfl ?_
  refine g_get (pc := 19) 0 cM_0 rfl inlX11 2 (by decide) bw_15_14 rfl dX11_isWon_19 ?_
  refine g_icmp_ge (pc := 22) (tgt := 49) dX11_isWon_22 (by decide) ?_ ?_
  · refine g_iload (pc := 49) 5 dX11_isWon_49 rfl ?_
    exact g_zret (pc := 51) hRT dX11_isWon_51
  · refine g_iload (pc := 25) 5 dX11_isWon_25 rfl ?_
    refine g_if_eq (pc := 27) (tgt := 49) dX11_isWon_27 (by decide) ?_ ?_
    · refine g_iload (pc := 49) 5 dX11_isWon_49 rfl ?_
      exact g_zret (pc := 51) hRT dX11_isWon_51
    · refine g_aload_n (pc := 30) 0 dX11_isWon_30 rfl rfl ?_
      refine g_iload_n (pc := 31) 1 dX11_isWon_31 rfl rfl ?_
      refine g_iload (pc := 32) 6 dX11_isWon_32 rfl ?_
      refine g_iload_n (pc := 34) 2 dX11_isWon_34 rfl rfl ?_
      refine g_iload_n (pc := 35) 3 dX11_isWon_35 rfl rfl ?_
      refine g_iload (pc := 36) 4 dX11_isWon_36 rfl ?_
      refine g_cVz (pc := 38) 0 (As := [Value.int x1, Value.int x9, Value.int x2, Value.int x3, Value.int x4]) (fun r2 h2 => k_X11_knowsBy__0 hI h2) wk_X11_knowsBy wv_X11_knowsBy bw_38_12 cM_0 rfl (by decide) (by decide) rfl rfl (Nat.le_of_ble_eq_true rfl) dX11_isWon_38 (fun r11 s12 => ?_)
      refine g_istore (pc := 41) [1, 2, 3, 4, 5, 0, 6] (lv1 := [(0, Value.ref (a 0)), (1, Value.int x1), (2, Value.int x2), (3, Value.int x3), (4, Value.int x4), (5, Value.int r11), (6, Value.int x9)]) dX11_isWon_41 (by decide) rfl ?_
      refine g_iinc (pc := 43) [1, 2, 3, 4, 5, 6, 0] 6 (n1 := 1) (lv1 := fun x13 => [(0, Value.ref (a 0)), (1, Value.int x1), (2, Value.int x2), (3, Value.int x3), (4, Value.int x4), (5, Value.int r11), (6, Value.int x13)]) dX11_isWon_43 rfl (by decide) (by decide) (fun _ => rfl) (fun x13 => ?_)
      show G _ Γ _ _ _ _ _ _ _ [(0, Value.ref (a 0)), (1, Value.int x1), (2, Value.int x2), (3, Value.int x3), (4, Value.int x4), (5, Value.int r11), (6, Value.int x13)] (43 + 3) _
      refine g_goto (pc := 46) (tgt := 16) dX11_isWon_46 (by decide) ?_
      exact hk7 s12 _ _
set_option maxRecDepth 100000 in
set_option maxHeartbeats 4000000 in
theorem k_X11_quarrel__0 {l : Launch} {D : va_G} {a : Nat → Nat} {cI : ClassId} (hI : ∀ σ : St, va_D (AM a) (cM a cI σ)) {σ : St} {x1 x2 x3 x4 : Int32} {r : Int32 × St} (h : f_X11_quarrel__0 σ x1 x2 x3 x4 = some r) : Kc (SM l D a cI) yX11_quarrel cX11_quarrel 7 (some .int) 7 [Value.ref (a 0), Value.int x1, Value.int x2, Value.int x3, Value.int x4] σ r := by
  refine enter (own := RX11) (o := f_X11_quarrel__0 σ x1 x2 x3 x4) (plainFor_of_name (by decide +kernel)) rfl (Nat.le_of_ble_eq_true rfl) hI wk_X11_quarrel.1 h (fun Γ hRT => ?_)
  show G _ Γ _ _ _ _ _ _ σ [((0 : Nat), Value.ref (a 0)), ((1 : Nat), Value.int x1), ((2 : Nat), Value.int x2), ((3 : Nat), Value.int x3), ((4 : Nat), Value.int x4)] 0 []
  unfold f_X11_quarrel__0
  refine g_aload_n (pc := 0) 0 dX11_quarrel_0 rfl rfl ?_
  refine g_iload_n (pc := 1) 1 dX11_quarrel_1 rfl rfl ?_
  refine g_cVz (pc := 2) 0 (As := [Value.int x1]) (fun r2 h2 => k_X11_isHouse__0 hI h2) wk_X11_isHouse wv_X11_isHouse bw_20_10 cM_0 rfl (by decide) (by decide) rfl rfl (Nat.le_of_ble_eq_true rfl) dX11_quarrel_2 (fun r5 s6 => ?_)
  refine g_if_eq (pc := 5) (tgt := 36) dX11_quarrel_5 (by decide) ?_ ?_
  · refine g_iconst (pc := 36) (v := -1) dX11_quarrel_36 (by decide) ?_
    exact g_iret (pc := 37) hRT dX11_quarrel_37
  · refine g_aload_n (pc := 8) 0 dX11_quarrel_8 rfl rfl ?_
    refine g_iload_n (pc := 9) 2 dX11_quarrel_9 rfl rfl ?_
    refine g_cVz (pc := 10) 0 (As := [Value.int x2]) (fun r2 h2 => k_X11_isNews__0 hI h2) wk_X11_isNews wv_X11_isNews bw_22_4 cM_0 rfl (by decide) (by decide) rfl rfl (Nat.le_of_ble_eq_true rfl) dX11_quarrel_10 (fun r7 s8 => ?_)
    refine g_if_eq (pc := 13) (tgt := 36) dX11_quarrel_13 (by decide) ?_ ?_
    · refine g_iconst (pc := 36) (v := -1) dX11_quarrel_36 (by decide) ?_
      exact g_iret (pc := 37) hRT dX11_quarrel_37
    · refine g_iload_n (pc := 16) 3 dX11_quarrel_16 rfl rfl ?_
      refine g_iconst (pc := 17) (v := 1) dX11_quarrel_17 (by decide) ?_
      refine g_bipush (pc := 18) (v := 12) dX11_quarrel_18 (by decide) ?_
      refine g_cSz (pc := 20) (As := [Value.int x3, Value.int (1 : Int32), Value.int (12 : Int32)]) (fun r2 h2 => k_X11_in hI h2) wk_X11_in ws_X11_in bw_16_9 (by decide) (by decide) rfl rfl (Nat.le_of_ble_eq_true rfl) dX11_quarrel_20 (fun r9 s10 => ?_)
      refine g_if_eq (pc := 23) (tgt := 36) dX11_quarrel_23 (by decide) ?_ ?_
      · refine g_iconst (pc := 36) (v := -1) dX11_quarrel_36 (by decide) ?_
        exact g_iret (pc := 37) hRT dX11_quarrel_37
      · refine g_iload (pc := 26) 4 dX11_quarrel_26 rfl ?_
        refine g_iconst (pc := 28) (v := 0) dX11_quarrel_28 (by decide) ?_
        refine g_iconst (pc := 29) (v := 1) dX11_quarrel_29 (by decide) ?_
        refine g_cSz (pc := 30) (As := [Value.int x4, Value.int (0 : Int32), Value.int (1 : Int32)]) (fun r2 h2 => k_X11_in hI h2) wk_X11_in ws_X11_in bw_16_9 (by decide) (by decide) rfl rfl (Nat.le_of_ble_eq_true rfl) dX11_quarrel_30 (fun r11 s12 => ?_)
        refine g_if_ne (pc := 33) (tgt := 38) dX11_quarrel_33 (by decide) ?_ ?_
        · refine g_iconst (pc := 38) (v := -1) dX11_quarrel_38 (by decide) ?_
          refine g_istore (pc := 39) [1, 2, 3, 4, 5, 0] (lv1 := [(0, Value.ref (a 0)), (1, Value.int x1), (2, Value.int x2), (3, Value.int x3), (4, Value.int x4), (5, Value.int (-1 : Int32))]) dX11_quarrel_39 (by decide) rfl ?_
          refine g_aload_n (pc := 41) 0 dX11_quarrel_41 rfl rfl ?_
          refine g_get (pc := 42) 0 cM_0 rfl inlX11 2 (by decide) bw_15_14 rfl dX11_quarrel_42 ?_
          refine g_iconst (pc := 45) (v := 1) dX11_quarrel_45 (by decide) ?_
          refine g_isub (pc := 46) dX11_quarrel_46 ?_
          refine g_nm (fun x13 => ?_)
          refine g_istore (pc := 47) [1, 2, 3, 4, 5, 6, 0] (lv1 := [(0, Value.ref (a 0)), (1, Value.int x1), (2, Value.int x2), (3, Value.int x3), (4, Value.int x4), (5, Value.int (-1 : Int32)), (6, Value.int x13)]) dX11_quarrel_47 (by decide) rfl ?_
          refine g_lq2 (pc := 49) (lf := fun x15 x16 => [((0 : Nat), Value.ref (a 0)), ((1 : Nat), Value.int x1), ((2 : Nat), Value.int x2), ((3 : Nat), Value.int x3), ((4 : Nat), Value.int x4), ((5 : Nat), Value.int x15), ((6 : Nat), Value.int x16)]) (sf := fun x15 x16 => ([] : List Value)) (fun k14 hk14 s17 x15 x16 => ?_) 100000 s12 _ _
          show G _ Γ _ _ _ _ _ _ s17 [((0 : Nat), Value.ref (a 0)), ((1 : Nat), Value.int x1), ((2 : Nat), Value.int x2), ((3 : Nat), Value.int x3), ((4 : Nat), Value.int x4), ((5 : Nat), Value.int x15), ((6 : Nat), Value.int x16)] 49 ([] : List Value)
          refine g_iload (pc := 49) 6 dX11_quarrel_49 rfl ?_
          refine g_if_lt (pc := 51) (tgt := 81) dX11_quarrel_51 (by decide) ?_ ?_
          · refine g_aload_n (pc := 81) 0 dX11_quarrel_81 rfl rfl ?_
            refine g_bipush (pc := 82) (v := 16) dX11_quarrel_82 (by decide) ?_
            refine g_iload_n (pc := 84) 1 dX11_quarrel_84 rfl rfl ?_
            refine g_iload_n (pc := 85) 2 dX11_quarrel_85 rfl rfl ?_
            refine g_iload_n (pc := 86) 3 dX11_quarrel_86 rfl rfl ?_
            refine g_cVz (pc := 87) 0 (As := [Value.int (16 : Int32), Value.int x1, Value.int x2, Value.int x3]) (fun r2 h2 => k_X11_isWon__0 hI h2) wk_X11_isWon wv_X11_isWon bw_38_8 cM_0 rfl (by decide) (by decide) rfl rfl (Nat.le_of_ble_eq_true rfl) dX11_quarrel_87 (fun r18 s19 => ?_)
            refine g_istore (pc := 90) [1, 2, 3, 4, 5, 6, 0] (lv1 := [(0, Value.ref (a 0)), (1, Value.int x1), (2, Value.int x2), (3, Value.int x3), (4, Value.int x4), (5, Value.int x15), (6, Value.int r18)]) dX11_quarrel_90 (by decide) rfl ?_
            refine g_iload (pc := 92) 4 dX11_quarrel_92 rfl ?_
            refine g_if_ne (pc := 94) (tgt := 115) dX11_quarrel_94 (by decide) ?_ ?_
            · refine g_jq0 (pc2 := 125) (lf := ([] : List (Nat × Value))) (sf := ([] : List Value)) (fun s21 => ?_) (fun k20 hk20 => ?_)
              · show G _ Γ _ _ _ _ _ _ s21 ([] : List (Nat × Value)) 125 ([] : List Value)
                refine g_bipush (pc := 125) (v := 16) dX11_quarrel_125 (by decide) ?_
                refine g_goto (pc := 127) (tgt := 132) dX11_quarrel_127 (by decide) ?_
                exact g_iret (pc := 132) hRT dX11_quarrel_132
              · refine g_iload (pc := 115) 6 dX11_quarrel_115 rfl ?_
                refine g_if_ne (pc := 117) (tgt := 125) dX11_quarrel_117 (by decide) ?_ ?_
                · exact g_lv [] rfl (hk20 s19)
                · refine g_iload (pc := 120) 5 dX11_quarrel_120 rfl ?_
                  refine g_if_ge (pc := 122) (tgt := 130) dX11_quarrel_122 (by decide) ?_ ?_
                  · refine g_iload (pc := 130) 5 dX11_quarrel_130 rfl ?_
                    exact g_iret (pc := 132) hRT dX11_quarrel_132
                  · exact g_lv [] rfl (hk20 s19)
            · refine g_jq0 (pc2 := 107) (lf := ([] : List (Nat × Value))) (sf := ([] : List Value)) (fun s23 => ?_) (fun k22 hk22 => ?_)
              · show G _ Γ _ _ _ _ _ _ s23 ([] : List (Nat × Value)) 107 ([] : List Value)
                refine g_iconst (pc := 107) (v := 1) dX11_quarrel_107 (by decide) ?_
                refine g_goto (pc := 108) (tgt := 132) dX11_quarrel_108 (by decide) ?_
                exact g_iret (pc := 132) hRT dX11_quarrel_132
              · refine g_iload (pc := 97) 6 dX11_quarrel_97 rfl ?_
                refine g_if_ne (pc := 99) (tgt := 107) dX11_quarrel_99 (by decide) ?_ ?_
                · exact g_lv [] rfl (hk22 s19)
                · refine g_iload (pc := 102) 5 dX11_quarrel_102 rfl ?_
                  refine g_if_lt (pc := 104) (tgt := 111) dX11_quarrel_104 (by decide) ?_ ?_
                  · refine g_iconst (pc := 111) (v := 0) dX11_quarrel_111 (by decide) ?_
                    refine g_goto (pc := 112) (tgt := 132) dX11_quarrel_112 (by decide) ?_
                    exact g_iret (pc := 132) hRT dX11_quarrel_132
                  · exact g_lv [] rfl (hk22 s19)
          · refine g_jq1 (pc2 := 73) (lf := fun x25 => [((0 : Nat), Value.ref (a 0)), ((1 : Nat), Value.int x1), ((2 : Nat), Value.int x2), ((3 : Nat), Value.int x3), ((4 : Nat), Value.int x4), ((6 : Nat), Value.int x16)]) (sf := fun x25 => [Value.int x25]) (fun s26 x25 => ?_) (fun k24 hk24 => ?_)
            · show G _ Γ _ _ _ _ _ _ s26 [((0 : Nat), Value.ref (a 0)), ((1 : Nat), Value.int x1), ((2 : Nat), Value.int x2), ((3 : Nat), Value.int x3), ((4 : Nat), Value.int x4), ((6 : Nat), Value.int x16)] 73 [Value.int x25]
              refine g_istore (pc := 73) [1, 2, 3, 4, 5, 0, 6] (lv1 := [(0, Value.ref (a 0)), (1, Value.int x1), (2, Value.int x2), (3, Value.int x3), (4, Value.int x4), (5, Value.int x25), (6, Value.int x16)]) dX11_quarrel_73 (by decide) rfl ?_
              refine g_iinc (pc := 75) [1, 2, 3, 4, 5, 6, 0] 6 (n1 := -1) (lv1 := fun x27 => [(0, Value.ref (a 0)), (1, Value.int x1), (2, Value.int x2), (3, Value.int x3), (4, Value.int x4), (5, Value.int x25), (6, Value.int x27)]) dX11_quarrel_75 rfl (by decide) (by decide) (fun _ => rfl) (fun x27 => ?_)
              show G _ Γ _ _ _ _ _ _ _ [(0, Value.ref (a 0)), (1, Value.int x1), (2, Value.int x2), (3, Value.int x3), (4, Value.int x4), (5, Value.int x25), (6, Value.int x27)] (75 + 3) _
              refine g_goto (pc := 78) (tgt := 49) dX11_quarrel_78 (by decide) ?_
              exact hk14 s26 _ _
            · refine g_aload_n (pc := 54) 0 dX11_quarrel_54 rfl rfl ?_
              refine g_iload (pc := 55) 6 dX11_quarrel_55 rfl ?_
              refine g_iload_n (pc := 57) 1 dX11_quarrel_57 rfl rfl ?_
              refine g_iload_n (pc := 58) 2 dX11_quarrel_58 rfl rfl ?_
              refine g_iload_n (pc := 59) 3 dX11_quarrel_59 rfl rfl ?_
              refine g_cVz (pc := 60) 0 (As := [Value.int x16, Value.int x1, Value.int x2, Value.int x3]) (fun r2 h2 => k_X11_isWon__0 hI h2) wk_X11_isWon wv_X11_isWon bw_38_8 cM_0 rfl (by decide) (by decide) rfl rfl (Nat.le_of_ble_eq_true rfl) dX11_quarrel_60 (fun r28 s29 => ?_)
              refine g_if_eq (pc := 63) (tgt := 71) dX11_quarrel_63 (by decide) ?_ ?_
              · refine g_iload (pc := 71) 5 dX11_quarrel_71 rfl ?_
                exact g_lv [0, 1, 2, 3, 4, 6] rfl (hk24 s29 _)
              · refine g_iload (pc := 66) 6 dX11_quarrel_66 rfl ?_
                refine g_goto (pc := 68) (tgt := 73) dX11_quarrel_68 (by decide) ?_
                exact g_lv [0, 1, 2, 3, 4, 6] rfl (hk24 s29 _)
        · refine g_iconst (pc := 36) (v := -1) dX11_quarrel_36 (by decide) ?_
          exact g_iret (pc := 37) hRT dX11_quarrel_37
set_option maxRecDepth 100000 in
set_option maxHeartbeats 4000000 in
theorem k_X11_see__0 {l : Launch} {D : va_G} {a : Nat → Nat} {cI : ClassId} (hI : ∀ σ : St, va_D (AM a) (cM a cI σ)) {σ : St} {x1 x2 x3 x4 : Int32} {r : Int32 × St} (h : f_X11_see__0 σ x1 x2 x3 x4 = some r) : Kc (SM l D a cI) yX11_see cX11_see 5 (some .int) 2 [Value.ref (a 0), Value.int x1, Value.int x2, Value.int x3, Value.int x4] σ r := by
  refine enter (own := RX11) (o := f_X11_see__0 σ x1 x2 x3 x4) (plainFor_of_name (by decide +kernel)) rfl (Nat.le_of_ble_eq_true rfl) hI wk_X11_see.1 h (fun Γ hRT => ?_)
  show G _ Γ _ _ _ _ _ _ σ [((0 : Nat), Value.ref (a 0)), ((1 : Nat), Value.int x1), ((2 : Nat), Value.int x2), ((3 : Nat), Value.int x3), ((4 : Nat), Value.int x4)] 0 []
  unfold f_X11_see__0
  refine g_aload_n (pc := 0) 0 dX11_see_0 rfl rfl ?_
  refine g_iload_n (pc := 1) 1 dX11_see_1 rfl rfl ?_
  refine g_cVz (pc := 2) 0 (As := [Value.int x1]) (fun r2 h2 => k_X11_isHouse__0 hI h2) wk_X11_isHouse wv_X11_isHouse bw_20_10 cM_0 rfl (by decide) (by decide) rfl rfl (Nat.le_of_ble_eq_true rfl) dX11_see_2 (fun r5 s6 => ?_)
  refine g_if_eq (pc := 5) (tgt := 26) dX11_see_5 (by decide) ?_ ?_
  · refine g_iconst (pc := 26) (v := -1) dX11_see_26 (by decide) ?_
    exact g_iret (pc := 27) hRT dX11_see_27
  · refine g_aload_n (pc := 8) 0 dX11_see_8 rfl rfl ?_
    refine g_iload_n (pc := 9) 2 dX11_see_9 rfl rfl ?_
    refine g_cVz (pc := 10) 0 (As := [Value.int x2]) (fun r2 h2 => k_X11_isNews__0 hI h2) wk_X11_isNews wv_X11_isNews bw_22_4 cM_0 rfl (by decide) (by decide) rfl rfl (Nat.le_of_ble_eq_true rfl) dX11_see_10 (fun r7 s8 => ?_)
    refine g_if_eq (pc := 13) (tgt := 26) dX11_see_13 (by decide) ?_ ?_
    · refine g_iconst (pc := 26) (v := -1) dX11_see_26 (by decide) ?_
      exact g_iret (pc := 27) hRT dX11_see_27
    · refine g_iload_n (pc := 16) 3 dX11_see_16 rfl rfl ?_
      refine g_iconst (pc := 17) (v := 0) dX11_see_17 (by decide) ?_
      refine g_bipush (pc := 18) (v := 30) dX11_see_18 (by decide) ?_
      refine g_cSz (pc := 20) (As := [Value.int x3, Value.int (0 : Int32), Value.int (30 : Int32)]) (fun r2 h2 => k_X11_in hI h2) wk_X11_in ws_X11_in bw_16_9 (by decide) (by decide) rfl rfl (Nat.le_of_ble_eq_true rfl) dX11_see_20 (fun r9 s10 => ?_)
      refine g_if_ne (pc := 23) (tgt := 28) dX11_see_23 (by decide) ?_ ?_
      · refine g_aload_n (pc := 28) 0 dX11_see_28 rfl rfl ?_
        refine g_get (pc := 29) 0 cM_0 rfl inlX11 13 (by decide) bw_15_19 rfl dX11_see_29 ?_
        refine g_bipush (pc := 32) (v := 6) dX11_see_32 (by decide) ?_
        refine g_icmp_ne (pc := 34) (tgt := 40) dX11_see_34 (by decide) ?_ ?_
        · refine g_jq2 (pc2 := 102) (lf := fun x12 x13 => [((0 : Nat), Value.ref (a 0))]) (sf := fun x12 x13 => [Value.int x12, Value.int x13, Value.ref (a 7)]) (fun s14 x12 x13 => ?_) (fun k11 hk11 => ?_)
          · show G _ Γ _ _ _ _ _ _ s14 [((0 : Nat), Value.ref (a 0))] 102 [Value.int x12, Value.int x13, Value.ref (a 7)]
            refine g_iast (pc := 102) 7 cM_7 rfl cM_s7 dX11_see_102 (fun s15 => ?_)
            refine g_aload_n (pc := 103) 0 dX11_see_103 rfl rfl ?_
            refine g_dup (pc := 104) dX11_see_104 rfl ?_
            refine g_get (pc := 105) 0 cM_0 rfl inlX11 13 (by decide) bw_15_19 rfl dX11_see_105 ?_
            refine g_iconst (pc := 108) (v := 1) dX11_see_108 (by decide) ?_
            refine g_iadd (pc := 109) dX11_see_109 ?_
            refine g_put (pc := 110) 0 (ty := .int) cM_0 rfl inlX11 tyX11_ok nmX11 13 (by decide) bw_15_19 rfl (by decide +kernel) rfl rfl (Nat.le_of_ble_eq_true rfl) cM_f0_13 dX11_see_110 (fun s16 => ?_)
            refine g_aload_n (pc := 113) 0 dX11_see_113 rfl rfl ?_
            refine g_get (pc := 114) 0 cM_0 rfl inlX11 13 (by decide) bw_15_19 rfl dX11_see_114 ?_
            exact g_iret (pc := 117) hRT dX11_see_117
          · refine g_aload_n (pc := 40) 0 dX11_see_40 rfl rfl ?_
            refine g_get (pc := 41) 0 cM_0 rfl inlX11 14 (by decide) bw_14_7 rfl dX11_see_41 ?_
            refine g_iconst (pc := 44) (v := 4) dX11_see_44 (by decide) ?_
            refine g_aload_n (pc := 45) 0 dX11_see_45 rfl rfl ?_
            refine g_get (pc := 46) 0 cM_0 rfl inlX11 13 (by decide) bw_15_19 rfl dX11_see_46 ?_
            refine g_imul (pc := 49) dX11_see_49 ?_
            refine g_iload_n (pc := 50) 1 dX11_see_50 rfl rfl ?_
            refine g_iast (pc := 51) 7 cM_7 rfl cM_s7 dX11_see_51 (fun s17 => ?_)
            refine g_aload_n (pc := 52) 0 dX11_see_52 rfl rfl ?_
            refine g_get (pc := 53) 0 cM_0 rfl inlX11 14 (by decide) bw_14_7 rfl dX11_see_53 ?_
            refine g_iconst (pc := 56) (v := 4) dX11_see_56 (by decide) ?_
            refine g_aload_n (pc := 57) 0 dX11_see_57 rfl rfl ?_
            refine g_get (pc := 58) 0 cM_0 rfl inlX11 13 (by decide) bw_15_19 rfl dX11_see_58 ?_
            refine g_imul (pc := 61) dX11_see_61 ?_
            refine g_iconst (pc := 62) (v := 1) dX11_see_62 (by decide) ?_
            refine g_iadd (pc := 63) dX11_see_63 ?_
            refine g_iload_n (pc := 64) 2 dX11_see_64 rfl rfl ?_
            refine g_iast (pc := 65) 7 cM_7 rfl cM_s7 dX11_see_65 (fun s18 => ?_)
            refine g_aload_n (pc := 66) 0 dX11_see_66 rfl rfl ?_
            refine g_get (pc := 67) 0 cM_0 rfl inlX11 14 (by decide) bw_14_7 rfl dX11_see_67 ?_
            refine g_iconst (pc := 70) (v := 4) dX11_see_70 (by decide) ?_
            refine g_aload_n (pc := 71) 0 dX11_see_71 rfl rfl ?_
            refine g_get (pc := 72) 0 cM_0 rfl inlX11 13 (by decide) bw_15_19 rfl dX11_see_72 ?_
            refine g_imul (pc := 75) dX11_see_75 ?_
            refine g_iconst (pc := 76) (v := 2) dX11_see_76 (by decide) ?_
            refine g_iadd (pc := 77) dX11_see_77 ?_
            refine g_iload_n (pc := 78) 3 dX11_see_78 rfl rfl ?_
            refine g_iast (pc := 79) 7 cM_7 rfl cM_s7 dX11_see_79 (fun s19 => ?_)
            refine g_aload_n (pc := 80) 0 dX11_see_80 rfl rfl ?_
            refine g_get (pc := 81) 0 cM_0 rfl inlX11 14 (by decide) bw_14_7 rfl dX11_see_81 ?_
            refine g_iconst (pc := 84) (v := 4) dX11_see_84 (by decide) ?_
            refine g_aload_n (pc := 85) 0 dX11_see_85 rfl rfl ?_
            refine g_get (pc := 86) 0 cM_0 rfl inlX11 13 (by decide) bw_15_19 rfl dX11_see_86 ?_
            refine g_imul (pc := 89) dX11_see_89 ?_
            refine g_iconst (pc := 90) (v := 3) dX11_see_90 (by decide) ?_
            refine g_iadd (pc := 91) dX11_see_91 ?_
            refine g_iload (pc := 92) 4 dX11_see_92 rfl ?_
            refine g_if_eq (pc := 94) (tgt := 101) dX11_see_94 (by decide) ?_ ?_
            · refine g_iconst (pc := 101) (v := 0) dX11_see_101 (by decide) ?_
              exact g_lv [0] rfl (hk11 s19 _ _)
            · refine g_iconst (pc := 97) (v := 1) dX11_see_97 (by decide) ?_
              refine g_goto (pc := 98) (tgt := 102) dX11_see_98 (by decide) ?_
              exact g_lv [0] rfl (hk11 s19 _ _)
        · refine g_bipush (pc := 37) (v := -3) dX11_see_37 (by decide) ?_
          exact g_iret (pc := 39) hRT dX11_see_39
      · refine g_iconst (pc := 26) (v := -1) dX11_see_26 (by decide) ?_
        exact g_iret (pc := 27) hRT dX11_see_27
set_option maxRecDepth 100000 in
set_option maxHeartbeats 4000000 in
theorem k_X11_forget__0 {l : Launch} {D : va_G} {a : Nat → Nat} {cI : ClassId} (hI : ∀ σ : St, va_D (AM a) (cM a cI σ)) {σ : St} {r : Int32 × St} (h : f_X11_forget__0 σ = some r) : Kc (SM l D a cI) yX11_forget cX11_forget 2 (some .int) 0 [Value.ref (a 0)] σ r := by
  refine enter (own := RX11) (o := f_X11_forget__0 σ) (plainFor_of_name (by decide +kernel)) rfl (Nat.le_of_ble_eq_true rfl) hI wk_X11_forget.1 h (fun Γ hRT => ?_)
  show G _ Γ _ _ _ _ _ _ σ [((0 : Nat), Value.ref (a 0))] 0 []
  unfold f_X11_forget__0
  refine g_aload_n (pc := 0) 0 dX11_forget_0 rfl rfl ?_
  refine g_get (pc := 1) 0 cM_0 rfl inlX11 13 (by decide) bw_15_19 rfl dX11_forget_1 ?_
  refine g_nm (fun x1 => ?_)
  refine g_istore_n (pc := 4) [1, 0] (lv1 := [(0, Value.ref (a 0)), (1, Value.int x1)]) dX11_forget_4 rfl (by decide) rfl ?_
  refine g_aload_n (pc := 5) 0 dX11_forget_5 rfl rfl ?_
  refine g_iconst (pc := 6) (v := 0) dX11_forget_6 (by decide) ?_
  refine g_put (pc := 7) 0 (ty := .int) cM_0 rfl inlX11 tyX11_ok nmX11 13 (by decide) bw_15_19 rfl (by decide +kernel) rfl rfl (Nat.le_of_ble_eq_true rfl) cM_f0_13 dX11_forget_7 (fun s2 => ?_)
  refine g_iload_n (pc := 10) 1 dX11_forget_10 rfl rfl ?_
  exact g_iret (pc := 11) hRT dX11_forget_11
set_option maxRecDepth 100000 in
set_option maxHeartbeats 4000000 in
theorem k_X11_isSo__0 {l : Launch} {D : va_G} {a : Nat → Nat} {cI : ClassId} (hI : ∀ σ : St, va_D (AM a) (cM a cI σ)) {σ : St} {x1 x2 : Int32} {r : Int32 × St} (h : f_X11_isSo__0 σ x1 x2 = some r) : Kc (SM l D a cI) yX11_isSo cX11_isSo 5 (some .boolean) 1 [Value.ref (a 0), Value.int x1, Value.int x2] σ r := by
  refine enter (own := RX11) (o := f_X11_isSo__0 σ x1 x2) (plainFor_of_name (by decide +kernel)) rfl (Nat.le_of_ble_eq_true rfl) hI wk_X11_isSo.1 h (fun Γ hRT => ?_)
  show G _ Γ _ _ _ _ _ _ σ [((0 : Nat), Value.ref (a 0)), ((1 : Nat), Value.int x1), ((2 : Nat), Value.int x2)] 0 []
  unfold f_X11_isSo__0
  refine g_iconst (pc := 0) (v := 1) dX11_isSo_0 (by decide) ?_
  refine g_istore_n (pc := 1) [1, 2, 3, 0] (lv1 := [(0, Value.ref (a 0)), (1, Value.int x1), (2, Value.int x2), (3, Value.int (1 : Int32))]) dX11_isSo_1 rfl (by decide) rfl ?_
  refine g_iconst (pc := 2) (v := 0) dX11_isSo_2 (by decide) ?_
  refine g_istore (pc := 3) [1, 2, 3, 4, 0] (lv1 := [(0, Value.ref (a 0)), (1, Value.int x1), (2, Value.int x2), (3, Value.int (1 : Int32)), (4, Value.int (0 : Int32))]) dX11_isSo_3 (by decide) rfl ?_
  refine g_lq2 (pc := 5) (lf := fun x4 x5 => [((0 : Nat), Value.ref (a 0)), ((1 : Nat), Value.int x1), ((2 : Nat), Value.int x2), ((3 : Nat), Value.int x4), ((4 : Nat), Value.int x5)]) (sf := fun x4 x5 => ([] : List Value)) (fun k3 hk3 s6 x4 x5 => ?_) 100000 σ _ _
  show G _ Γ _ _ _ _ _ _ s6 [((0 : Nat), Value.ref (a 0)), ((1 : Nat), Value.int x1), ((2 : Nat), Value.int x2), ((3 : Nat), Value.int x4), ((4 : Nat), Value.int x5)] 5 ([] : List Value)
  refine g_iload (pc := 5) 4 dX11_isSo_5 rfl ?_
  refine g_aload_n (pc := 7) 0 dX11_isSo_7 rfl rfl ?_
  refine g_get (pc := 8) 0 cM_0 rfl inlX11 13 (by decide) bw_15_19 rfl dX11_isSo_8 ?_
  refine g_icmp_ge (pc := 11) (tgt := 118) dX11_isSo_11 (by decide) ?_ ?_
  · refine g_iload_n (pc := 118) 3 dX11_isSo_118 rfl rfl ?_
    exact g_zret (pc := 119) hRT dX11_isSo_119
  · refine g_jq1 (pc2 := 112) (lf := fun x8 => [((0 : Nat), Value.ref (a 0)), ((1 : Nat), Value.int x1), ((2 : Nat), Value.int x2), ((3 : Nat), Value.int x8), ((4 : Nat), Value.int x5)]) (sf := fun x8 => ([] : List Value)) (fun s9 x8 => ?_) (fun k7 hk7 => ?_)
    · show G _ Γ _ _ _ _ _ _ s9 [((0 : Nat), Value.ref (a 0)), ((1 : Nat), Value.int x1), ((2 : Nat), Value.int x2), ((3 : Nat), Value.int x8), ((4 : Nat), Value.int x5)] 112 ([] : List Value)
      refine g_iinc (pc := 112) [1, 2, 3, 4, 0] 4 (n1 := 1) (lv1 := fun x10 => [(0, Value.ref (a 0)), (1, Value.int x1), (2, Value.int x2), (3, Value.int x8), (4, Value.int x10)]) dX11_isSo_112 rfl (by decide) (by decide) (fun _ => rfl) (fun x10 => ?_)
      show G _ Γ _ _ _ _ _ _ _ [(0, Value.ref (a 0)), (1, Value.int x1), (2, Value.int x2), (3, Value.int x8), (4, Value.int x10)] (112 + 3) _
      refine g_goto (pc := 115) (tgt := 5) dX11_isSo_115 (by decide) ?_
      exact hk3 s9 _ _
    · refine g_aload_n (pc := 14) 0 dX11_isSo_14 rfl rfl ?_
      refine g_get (pc := 15) 0 cM_0 rfl inlX11 14 (by decide) bw_14_7 rfl dX11_isSo_15 ?_
      refine g_iconst (pc := 18) (v := 4) dX11_isSo_18 (by decide) ?_
      refine g_iload (pc := 19) 4 dX11_isSo_19 rfl ?_
      refine g_imul (pc := 21) dX11_isSo_21 ?_
      refine g_iconst (pc := 22) (v := 2) dX11_isSo_22 (by decide) ?_
      refine g_iadd (pc := 23) dX11_isSo_23 ?_
      refine g_iald (pc := 24) 7 cM_7 rfl dX11_isSo_24 ?_
      refine g_iload_n (pc := 25) 2 dX11_isSo_25 rfl rfl ?_
      refine g_icmp_ne (pc := 26) (tgt := 112) dX11_isSo_26 (by decide) ?_ ?_
      · exact hk7 s6 _
      · refine g_jq0 (pc2 := 48) (lf := [((0 : Nat), Value.ref (a 0)), ((1 : Nat), Value.int x1), ((2 : Nat), Value.int x2), ((3 : Nat), Value.int x4), ((4 : Nat), Value.int x5)]) (sf := ([] : List Value)) (fun s12 => ?_) (fun k11 hk11 => ?_)
        · show G _ Γ _ _ _ _ _ _ s12 [((0 : Nat), Value.ref (a 0)), ((1 : Nat), Value.int x1), ((2 : Nat), Value.int x2), ((3 : Nat), Value.int x4), ((4 : Nat), Value.int x5)] 48 ([] : List Value)
          refine g_jq1 (pc2 := 111) (lf := fun x14 => [((0 : Nat), Value.ref (a 0)), ((1 : Nat), Value.int x1), ((2 : Nat), Value.int x2), ((4 : Nat), Value.int x5)]) (sf := fun x14 => [Value.int x14]) (fun s15 x14 => ?_) (fun k13 hk13 => ?_)
          · show G _ Γ _ _ _ _ _ _ s15 [((0 : Nat), Value.ref (a 0)), ((1 : Nat), Value.int x1), ((2 : Nat), Value.int x2), ((4 : Nat), Value.int x5)] 111 [Value.int x14]
            refine g_istore_n (pc := 111) [1, 2, 3, 0, 4] (lv1 := [(0, Value.ref (a 0)), (1, Value.int x1), (2, Value.int x2), (3, Value.int x14), (4, Value.int x5)]) dX11_isSo_111 rfl (by decide) rfl ?_
            exact hk7 s15 _
          · refine g_jq0 (pc2 := 110) (lf := [((0 : Nat), Value.ref (a 0)), ((1 : Nat), Value.int x1), ((2 : Nat), Value.int x2), ((4 : Nat), Value.int x5)]) (sf := ([] : List Value)) (fun s17 => ?_) (fun k16 hk16 => ?_)
            · show G _ Γ _ _ _ _ _ _ s17 [((0 : Nat), Value.ref (a 0)), ((1 : Nat), Value.int x1), ((2 : Nat), Value.int x2), ((4 : Nat), Value.int x5)] 110 ([] : List Value)
              refine g_iconst (pc := 110) (v := 0) dX11_isSo_110 (by decide) ?_
              exact hk13 s17 _
            · refine g_iload_n (pc := 48) 3 dX11_isSo_48 rfl rfl ?_
              refine g_if_eq (pc := 49) (tgt := 110) dX11_isSo_49 (by decide) ?_ ?_
              · exact g_lv [0, 1, 2, 4] rfl (hk16 s12)
              · refine g_jq2 (pc2 := 103) (lf := fun x19 x20 => [((0 : Nat), Value.ref (a 0)), ((1 : Nat), Value.int x1), ((2 : Nat), Value.int x2), ((4 : Nat), Value.int x5)]) (sf := fun x19 x20 => [Value.int x19, Value.int x20]) (fun s21 x19 x20 => ?_) (fun k18 hk18 => ?_)
                · show G _ Γ _ _ _ _ _ _ s21 [((0 : Nat), Value.ref (a 0)), ((1 : Nat), Value.int x1), ((2 : Nat), Value.int x2), ((4 : Nat), Value.int x5)] 103 [Value.int x19, Value.int x20]
                  refine g_icmp_ne (pc := 103) (tgt := 110) dX11_isSo_103 (by decide) ?_ ?_
                  · exact hk16 s21
                  · refine g_iconst (pc := 106) (v := 1) dX11_isSo_106 (by decide) ?_
                    refine g_goto (pc := 107) (tgt := 111) dX11_isSo_107 (by decide) ?_
                    exact hk13 s21 _
                · refine g_aload_n (pc := 52) 0 dX11_isSo_52 rfl rfl ?_
                  refine g_get (pc := 53) 0 cM_0 rfl inlX11 28 (by decide) bw_14_14 rfl dX11_isSo_53 ?_
                  refine g_bipush (pc := 56) (v := 17) dX11_isSo_56 (by decide) ?_
                  refine g_aload_n (pc := 58) 0 dX11_isSo_58 rfl rfl ?_
                  refine g_get (pc := 59) 0 cM_0 rfl inlX11 14 (by decide) bw_14_7 rfl dX11_isSo_59 ?_
                  refine g_iconst (pc := 62) (v := 4) dX11_isSo_62 (by decide) ?_
                  refine g_iload (pc := 63) 4 dX11_isSo_63 rfl ?_
                  refine g_imul (pc := 65) dX11_isSo_65 ?_
                  refine g_iconst (pc := 66) (v := 1) dX11_isSo_66 (by decide) ?_
                  refine g_iadd (pc := 67) dX11_isSo_67 ?_
                  refine g_iald (pc := 68) 7 cM_7 rfl dX11_isSo_68 ?_
                  refine g_iadd (pc := 69) dX11_isSo_69 ?_
                  refine g_iald (pc := 70) 14 cM_14 rfl dX11_isSo_70 ?_
                  refine g_aload_n (pc := 71) 0 dX11_isSo_71 rfl rfl ?_
                  refine g_get (pc := 72) 0 cM_0 rfl inlX11 14 (by decide) bw_14_7 rfl dX11_isSo_72 ?_
                  refine g_iconst (pc := 75) (v := 4) dX11_isSo_75 (by decide) ?_
                  refine g_iload (pc := 76) 4 dX11_isSo_76 rfl ?_
                  refine g_imul (pc := 78) dX11_isSo_78 ?_
                  refine g_iald (pc := 79) 7 cM_7 rfl dX11_isSo_79 ?_
                  refine g_cSz (pc := 80) (As := [Value.int (s12 14 (Int32.toNatClampNeg ((17 : Int32) + (s12 7 (Int32.toNatClampNeg (((4 : Int32) * x5) + (1 : Int32))))))), Value.int (s12 7 (Int32.toNatClampNeg ((4 : Int32) * x5)))]) (fun r2 h2 => k_X11_has hI h2) wk_X11_has ws_X11_has bw_20_23 (by decide) (by decide) rfl rfl (Nat.le_of_ble_eq_true rfl) dX11_isSo_80 (fun r22 s23 => ?_)
                  refine g_aload_n (pc := 83) 0 dX11_isSo_83 rfl rfl ?_
                  refine g_get (pc := 84) 0 cM_0 rfl inlX11 14 (by decide) bw_14_7 rfl dX11_isSo_84 ?_
                  refine g_iconst (pc := 87) (v := 4) dX11_isSo_87 (by decide) ?_
                  refine g_iload (pc := 88) 4 dX11_isSo_88 rfl ?_
                  refine g_imul (pc := 90) dX11_isSo_90 ?_
                  refine g_iconst (pc := 91) (v := 3) dX11_isSo_91 (by decide) ?_
                  refine g_iadd (pc := 92) dX11_isSo_92 ?_
                  refine g_iald (pc := 93) 7 cM_7 rfl dX11_isSo_93 ?_
                  refine g_iconst (pc := 94) (v := 1) dX11_isSo_94 (by decide) ?_
                  refine g_icmp_ne (pc := 95) (tgt := 102) dX11_isSo_95 (by decide) ?_ ?_
                  · refine g_iconst (pc := 102) (v := 0) dX11_isSo_102 (by decide) ?_
                    exact g_lv [0, 1, 2, 4] rfl (hk18 s23 _ _)
                  · refine g_iconst (pc := 98) (v := 1) dX11_isSo_98 (by decide) ?_
                    refine g_goto (pc := 99) (tgt := 103) dX11_isSo_99 (by decide) ?_
                    exact g_lv [0, 1, 2, 4] rfl (hk18 s23 _ _)
        · refine g_iload_n (pc := 29) 1 dX11_isSo_29 rfl rfl ?_
          refine g_if_lt (pc := 30) (tgt := 48) dX11_isSo_30 (by decide) ?_ ?_
          · exact hk11 s6
          · refine g_aload_n (pc := 33) 0 dX11_isSo_33 rfl rfl ?_
            refine g_get (pc := 34) 0 cM_0 rfl inlX11 14 (by decide) bw_14_7 rfl dX11_isSo_34 ?_
            refine g_iconst (pc := 37) (v := 4) dX11_isSo_37 (by decide) ?_
            refine g_iload (pc := 38) 4 dX11_isSo_38 rfl ?_
            refine g_imul (pc := 40) dX11_isSo_40 ?_
            refine g_iconst (pc := 41) (v := 1) dX11_isSo_41 (by decide) ?_
            refine g_iadd (pc := 42) dX11_isSo_42 ?_
            refine g_iald (pc := 43) 7 cM_7 rfl dX11_isSo_43 ?_
            refine g_iload_n (pc := 44) 1 dX11_isSo_44 rfl rfl ?_
            refine g_icmp_ne (pc := 45) (tgt := 112) dX11_isSo_45 (by decide) ?_ ?_
            · exact hk7 s6 _
            · exact hk11 s6
set_option maxRecDepth 100000 in
set_option maxHeartbeats 4000000 in
theorem k_X11_isSoAll__0 {l : Launch} {D : va_G} {a : Nat → Nat} {cI : ClassId} (hI : ∀ σ : St, va_D (AM a) (cM a cI σ)) {σ : St} {x1 x2 : Int32} {r : Int32 × St} (h : f_X11_isSoAll__0 σ x1 x2 = some r) : Kc (SM l D a cI) yX11_isSoAll cX11_isSoAll 5 (some .boolean) 4 [Value.ref (a 0), Value.int x1, Value.int x2] σ r := by
  refine enter (own := RX11) (o := f_X11_isSoAll__0 σ x1 x2) (plainFor_of_name (by decide +kernel)) rfl (Nat.le_of_ble_eq_true rfl) hI wk_X11_isSoAll.1 h (fun Γ hRT => ?_)
  show G _ Γ _ _ _ _ _ _ σ [((0 : Nat), Value.ref (a 0)), ((1 : Nat), Value.int x1), ((2 : Nat), Value.int x2)] 0 []
  unfold f_X11_isSoAll__0
  refine g_aload_n (pc := 0) 0 dX11_isSoAll_0 rfl rfl ?_
  refine g_iload_n (pc := 1) 1 dX11_isSoAll_1 rfl rfl ?_
  refine g_iconst (pc := 2) (v := 0) dX11_isSoAll_2 (by decide) ?_
  refine g_cVz (pc := 3) 0 (As := [Value.int x1, Value.int (0 : Int32)]) (fun r2 h2 => k_X11_isSo__0 hI h2) wk_X11_isSo wv_X11_isSo bw_40_19 cM_0 rfl (by decide) (by decide) rfl rfl (Nat.le_of_ble_eq_true rfl) dX11_isSoAll_3 (fun r3 s4 => ?_)
  refine g_istore_n (pc := 6) [1, 2, 3, 0] (lv1 := [(0, Value.ref (a 0)), (1, Value.int x1), (2, Value.int x2), (3, Value.int r3)]) dX11_isSoAll_6 rfl (by decide) rfl ?_
  refine g_iconst (pc := 7) (v := 1) dX11_isSoAll_7 (by decide) ?_
  refine g_istore (pc := 8) [1, 2, 3, 4, 0] (lv1 := [(0, Value.ref (a 0)), (1, Value.int x1), (2, Value.int x2), (3, Value.int r3), (4, Value.int (1 : Int32))]) dX11_isSoAll_8 (by decide) rfl ?_
  refine g_lq2 (pc := 10) (lf := fun x6 x7 => [((0 : Nat), Value.ref (a 0)), ((1 : Nat), Value.int x1), ((2 : Nat), Value.int x2), ((3 : Nat), Value.int x6), ((4 : Nat), Value.int x7)]) (sf := fun x6 x7 => ([] : List Value)) (fun k5 hk5 s8 x6 x7 => ?_) 100000 s4 _ _
  show G _ Γ _ _ _ _ _ _ s8 [((0 : Nat), Value.ref (a 0)), ((1 : Nat), Value.int x1), ((2 : Nat), Value.int x2), ((3 : Nat), Value.int x6), ((4 : Nat), Value.int x7)] 10 ([] : List Value)
  refine g_iload (pc := 10) 4 dX11_isSoAll_10 rfl ?_
  refine g_bipush (pc := 12) (v := 30) dX11_isSoAll_12 (by decide) ?_
  refine g_icmp_gt (pc := 14) (tgt := 63) dX11_isSoAll_14 (by decide) ?_ ?_
  · refine g_iload_n (pc := 63) 3 dX11_isSoAll_63 rfl rfl ?_
    exact g_zret (pc := 64) hRT dX11_isSoAll_64
  · refine g_iload_n (pc := 17) 3 dX11_isSoAll_17 rfl rfl ?_
    refine g_if_eq (pc := 18) (tgt := 63) dX11_isSoAll_18 (by decide) ?_ ?_
    · refine g_iload_n (pc := 63) 3 dX11_isSoAll_63 rfl rfl ?_
      exact g_zret (pc := 64) hRT dX11_isSoAll_64
    · refine g_jq1 (pc2 := 46) (lf := fun x10 => [((0 : Nat), Value.ref (a 0)), ((1 : Nat), Value.int x1), ((2 : Nat), Value.int x2), ((4 : Nat), Value.int x7)]) (sf := fun x10 => [Value.int x10, Value.ref (a 0)]) (fun s11 x10 => ?_) (fun k9 hk9 => ?_)
      · show G _ Γ _ _ _ _ _ _ s11 [((0 : Nat), Value.ref (a 0)), ((1 : Nat), Value.int x1), ((2 : Nat), Value.int x2), ((4 : Nat), Value.int x7)] 46 [Value.int x10, Value.ref (a 0)]
        refine g_cVv (pc := 46) 0 (As := [Value.int x10]) (fun r2 h2 => k_X11_goesBy__0 hI h2) wk_X11_goesBy wv_X11_goesBy bw_27_12 cM_0 rfl (by decide) (by decide) rfl rfl (Nat.le_of_ble_eq_true rfl) dX11_isSoAll_46 (fun r12 s13 => ?_)
        refine g_aload_n (pc := 49) 0 dX11_isSoAll_49 rfl rfl ?_
        refine g_iload_n (pc := 50) 1 dX11_isSoAll_50 rfl rfl ?_
        refine g_iload (pc := 51) 3 dX11_isSoAll_51 rfl ?_
        refine g_cVz (pc := 53) 0 (As := [Value.int x1, Value.int x7]) (fun r2 h2 => k_X11_isSo__0 hI h2) wk_X11_isSo wv_X11_isSo bw_40_19 cM_0 rfl (by decide) (by decide) rfl rfl (Nat.le_of_ble_eq_true rfl) dX11_isSoAll_53 (fun r14 s15 => ?_)
        refine g_istore_n (pc := 56) [1, 2, 3, 0, 4] (lv1 := [(0, Value.ref (a 0)), (1, Value.int x1), (2, Value.int x2), (3, Value.int r14), (4, Value.int x7)]) dX11_isSoAll_56 rfl (by decide) rfl ?_
        refine g_iinc (pc := 57) [1, 2, 3, 4, 0] 4 (n1 := 1) (lv1 := fun x16 => [(0, Value.ref (a 0)), (1, Value.int x1), (2, Value.int x2), (3, Value.int r14), (4, Value.int x16)]) dX11_isSoAll_57 rfl (by decide) (by decide) (fun _ => rfl) (fun x16 => ?_)
        show G _ Γ _ _ _ _ _ _ _ [(0, Value.ref (a 0)), (1, Value.int x1), (2, Value.int x2), (3, Value.int r14), (4, Value.int x16)] (57 + 3) _
        refine g_goto (pc := 60) (tgt := 10) dX11_isSoAll_60 (by decide) ?_
        exact hk5 s15 _ _
      · refine g_jq0 (pc2 := 36) (lf := [((0 : Nat), Value.ref (a 0)), ((1 : Nat), Value.int x1), ((2 : Nat), Value.int x2), ((4 : Nat), Value.int x7)]) (sf := [Value.ref (a 0)]) (fun s18 => ?_) (fun k17 hk17 => ?_)
        · show G _ Γ _ _ _ _ _ _ s18 [((0 : Nat), Value.ref (a 0)), ((1 : Nat), Value.int x1), ((2 : Nat), Value.int x2), ((4 : Nat), Value.int x7)] 36 [Value.ref (a 0)]
          refine g_aload_n (pc := 36) 0 dX11_isSoAll_36 rfl rfl ?_
          refine g_aload_n (pc := 37) 0 dX11_isSoAll_37 rfl rfl ?_
          refine g_get (pc := 38) 0 cM_0 rfl inlX11 28 (by decide) bw_14_14 rfl dX11_isSoAll_38 ?_
          refine g_iconst (pc := 41) (v := 0) dX11_isSoAll_41 (by decide) ?_
          refine g_iald (pc := 42) 14 cM_14 rfl dX11_isSoAll_42 ?_
          refine g_cVi (pc := 43) 0 (As := [Value.int (s18 14 (Int32.toNatClampNeg (0 : Int32)))]) (fun r2 h2 => k_X11_windOf__0 hI h2) wk_X11_windOf wv_X11_windOf bw_23_11 cM_0 rfl (by decide) (by decide) rfl rfl (Nat.le_of_ble_eq_true rfl) dX11_isSoAll_43 (fun r19 s20 => ?_)
          exact hk9 s20 _
        · refine g_aload_n (pc := 21) 0 dX11_isSoAll_21 rfl rfl ?_
          refine g_iload (pc := 22) 4 dX11_isSoAll_22 rfl ?_
          refine g_iconst (pc := 24) (v := 1) dX11_isSoAll_24 (by decide) ?_
          refine g_icmp_ne (pc := 25) (tgt := 36) dX11_isSoAll_25 (by decide) ?_ ?_
          · exact g_lv [0, 1, 2, 4] rfl (hk17 s8)
          · refine g_iload_n (pc := 28) 2 dX11_isSoAll_28 rfl rfl ?_
            refine g_if_lt (pc := 29) (tgt := 36) dX11_isSoAll_29 (by decide) ?_ ?_
            · exact g_lv [0, 1, 2, 4] rfl (hk17 s8)
            · refine g_iload_n (pc := 32) 2 dX11_isSoAll_32 rfl rfl ?_
              refine g_goto (pc := 33) (tgt := 46) dX11_isSoAll_33 (by decide) ?_
              exact g_lv [0, 1, 2, 4] rfl (hk9 s8 _)
set_option maxRecDepth 100000 in
set_option maxHeartbeats 4000000 in
theorem k_X11_began__0 {l : Launch} {D : va_G} {a : Nat → Nat} {cI : ClassId} (hI : ∀ σ : St, va_D (AM a) (cM a cI σ)) {σ : St} {x1 : Int32} {r : Int32 × St} (h : f_X11_began__0 σ x1 = some r) : Kc (SM l D a cI) yX11_began cX11_began 4 (some .int) 5 [Value.ref (a 0), Value.int x1] σ r := by
  refine enter (own := RX11) (o := f_X11_began__0 σ x1) (plainFor_of_name (by decide +kernel)) rfl (Nat.le_of_ble_eq_true rfl) hI wk_X11_began.1 h (fun Γ hRT => ?_)
  show G _ Γ _ _ _ _ _ _ σ [((0 : Nat), Value.ref (a 0)), ((1 : Nat), Value.int x1)] 0 []
  unfold f_X11_began__0
  refine g_aload_n (pc := 0) 0 dX11_began_0 rfl rfl ?_
  refine g_iload_n (pc := 1) 1 dX11_began_1 rfl rfl ?_
  refine g_cVz (pc := 2) 0 (As := [Value.int x1]) (fun r2 h2 => k_X11_isNews__0 hI h2) wk_X11_isNews wv_X11_isNews bw_22_4 cM_0 rfl (by decide) (by decide) rfl rfl (Nat.le_of_ble_eq_true rfl) dX11_began_2 (fun r2 s3 => ?_)
  refine g_if_ne (pc := 5) (tgt := 10) dX11_began_5 (by decide) ?_ ?_
  · refine g_iconst (pc := 10) (v := 0) dX11_began_10 (by decide) ?_
    refine g_istore_n (pc := 11) [1, 2, 0] (lv1 := [(0, Value.ref (a 0)), (1, Value.int x1), (2, Value.int (0 : Int32))]) dX11_began_11 rfl (by decide) rfl ?_
    refine g_iconst (pc := 12) (v := 0) dX11_began_12 (by decide) ?_
    refine g_istore_n (pc := 13) [1, 2, 3, 0] (lv1 := [(0, Value.ref (a 0)), (1, Value.int x1), (2, Value.int (0 : Int32)), (3, Value.int (0 : Int32))]) dX11_began_13 rfl (by decide) rfl ?_
    refine g_lq2 (pc := 14) (lf := fun x5 x6 => [((0 : Nat), Value.ref (a 0)), ((1 : Nat), Value.int x1), ((2 : Nat), Value.int x5), ((3 : Nat), Value.int x6)]) (sf := fun x5 x6 => ([] : List Value)) (fun k4 hk4 s7 x5 x6 => ?_) 100000 s3 _ _
    show G _ Γ _ _ _ _ _ _ s7 [((0 : Nat), Value.ref (a 0)), ((1 : Nat), Value.int x1), ((2 : Nat), Value.int x5), ((3 : Nat), Value.int x6)] 14 ([] : List Value)
    refine g_iload_n (pc := 14) 3 dX11_began_14 rfl rfl ?_
    refine g_aload_n (pc := 15) 0 dX11_began_15 rfl rfl ?_
    refine g_get (pc := 16) 0 cM_0 rfl inlX11 2 (by decide) bw_15_14 rfl dX11_began_16 ?_
    refine g_icmp_ge (pc := 19) (tgt := 63) dX11_began_19 (by decide) ?_ ?_
    · refine g_iload_n (pc := 63) 2 dX11_began_63 rfl rfl ?_
      exact g_iret (pc := 64) hRT dX11_began_64
    · refine g_jq2 (pc2 := 55) (lf := fun x9 x10 => [((0 : Nat), Value.ref (a 0)), ((1 : Nat), Value.int x1), ((3 : Nat), Value.int x6)]) (sf := fun x9 x10 => [Value.int x9, Value.int x10]) (fun s11 x9 x10 => ?_) (fun k8 hk8 => ?_)
      · show G _ Γ _ _ _ _ _ _ s11 [((0 : Nat), Value.ref (a 0)), ((1 : Nat), Value.int x1), ((3 : Nat), Value.int x6)] 55 [Value.int x9, Value.int x10]
        refine g_ior (pc := 55) dX11_began_55 ?_
        refine g_nm (fun x12 => ?_)
        refine g_istore_n (pc := 56) [1, 2, 0, 3] (lv1 := [(0, Value.ref (a 0)), (1, Value.int x1), (2, Value.int x12), (3, Value.int x6)]) dX11_began_56 rfl (by decide) rfl ?_
        refine g_iinc (pc := 57) [1, 2, 3, 0] 3 (n1 := 1) (lv1 := fun x13 => [(0, Value.ref (a 0)), (1, Value.int x1), (2, Value.int x12), (3, Value.int x13)]) dX11_began_57 rfl (by decide) (by decide) (fun _ => rfl) (fun x13 => ?_)
        show G _ Γ _ _ _ _ _ _ _ [(0, Value.ref (a 0)), (1, Value.int x1), (2, Value.int x12), (3, Value.int x13)] (57 + 3) _
        refine g_goto (pc := 60) (tgt := 14) dX11_began_60 (by decide) ?_
        exact hk4 s11 _ _
      · refine g_aload_n (pc := 22) 0 dX11_began_22 rfl rfl ?_
        refine g_cVv (pc := 23) 0 (As := []) (fun r2 h2 => k_X11_asItIs__0 hI h2) wk_X11_asItIs wv_X11_asItIs bw_20_14 cM_0 rfl (by decide) (by decide) rfl rfl (Nat.le_of_ble_eq_true rfl) dX11_began_23 (fun r14 s15 => ?_)
        refine g_aload_n (pc := 26) 0 dX11_began_26 rfl rfl ?_
        refine g_get (pc := 27) 0 cM_0 rfl inlX11 28 (by decide) bw_14_14 rfl dX11_began_27 ?_
        refine g_bipush (pc := 30) (v := 17) dX11_began_30 (by decide) ?_
        refine g_iload_n (pc := 32) 1 dX11_began_32 rfl rfl ?_
        refine g_iadd (pc := 33) dX11_began_33 ?_
        refine g_iconst (pc := 34) (v := 1) dX11_began_34 (by decide) ?_
        refine g_iload_n (pc := 35) 3 dX11_began_35 rfl rfl ?_
        refine g_ishl (pc := 36) dX11_began_36 ?_
        refine g_iast (pc := 37) 14 cM_14 rfl cM_s14 dX11_began_37 (fun s16 => ?_)
        refine g_iload_n (pc := 38) 2 dX11_began_38 rfl rfl ?_
        refine g_aload_n (pc := 39) 0 dX11_began_39 rfl rfl ?_
        refine g_iload_n (pc := 40) 1 dX11_began_40 rfl rfl ?_
        refine g_iconst (pc := 41) (v := -1) dX11_began_41 (by decide) ?_
        refine g_cVz (pc := 42) 0 (As := [Value.int x1, Value.int (-1 : Int32)]) (fun r2 h2 => k_X11_isSoAll__0 hI h2) wk_X11_isSoAll wv_X11_isSoAll bw_40_15 cM_0 rfl (by decide) (by decide) rfl rfl (Nat.le_of_ble_eq_true rfl) dX11_began_42 (fun r17 s18 => ?_)
        refine g_if_eq (pc := 45) (tgt := 54) dX11_began_45 (by decide) ?_ ?_
        · refine g_iconst (pc := 54) (v := 0) dX11_began_54 (by decide) ?_
          exact g_lv [0, 1, 3] rfl (hk8 s18 _ _)
        · refine g_iconst (pc := 48) (v := 1) dX11_began_48 (by decide) ?_
          refine g_iload_n (pc := 49) 3 dX11_began_49 rfl rfl ?_
          refine g_ishl (pc := 50) dX11_began_50 ?_
          refine g_goto (pc := 51) (tgt := 55) dX11_began_51 (by decide) ?_
          exact g_lv [0, 1, 3] rfl (hk8 s18 _ _)
  · refine g_iconst (pc := 8) (v := -1) dX11_began_8 (by decide) ?_
    exact g_iret (pc := 9) hRT dX11_began_9
set_option maxRecDepth 100000 in
set_option maxHeartbeats 4000000 in
theorem k_X11_blew__0 {l : Launch} {D : va_G} {a : Nat → Nat} {cI : ClassId} (hI : ∀ σ : St, va_D (AM a) (cM a cI σ)) {σ : St} {r : Int32 × St} (h : f_X11_blew__0 σ = some r) : Kc (SM l D a cI) yX11_blew cX11_blew 3 (some .int) 5 [Value.ref (a 0)] σ r := by
  refine enter (own := RX11) (o := f_X11_blew__0 σ) (plainFor_of_name (by decide +kernel)) rfl (Nat.le_of_ble_eq_true rfl) hI wk_X11_blew.1 h (fun Γ hRT => ?_)
  show G _ Γ _ _ _ _ _ _ σ [((0 : Nat), Value.ref (a 0))] 0 []
  unfold f_X11_blew__0
  refine g_iconst (pc := 0) (v := 0) dX11_blew_0 (by decide) ?_
  refine g_istore_n (pc := 1) [1, 0] (lv1 := [(0, Value.ref (a 0)), (1, Value.int (0 : Int32))]) dX11_blew_1 rfl (by decide) rfl ?_
  refine g_iconst (pc := 2) (v := 0) dX11_blew_2 (by decide) ?_
  refine g_istore_n (pc := 3) [1, 2, 0] (lv1 := [(0, Value.ref (a 0)), (1, Value.int (0 : Int32)), (2, Value.int (0 : Int32))]) dX11_blew_3 rfl (by decide) rfl ?_
  refine g_lq2 (pc := 4) (lf := fun x2 x3 => [((0 : Nat), Value.ref (a 0)), ((1 : Nat), Value.int x2), ((2 : Nat), Value.int x3)]) (sf := fun x2 x3 => ([] : List Value)) (fun k1 hk1 s4 x2 x3 => ?_) 100000 σ _ _
  show G _ Γ _ _ _ _ _ _ s4 [((0 : Nat), Value.ref (a 0)), ((1 : Nat), Value.int x2), ((2 : Nat), Value.int x3)] 4 ([] : List Value)
  refine g_iload_n (pc := 4) 2 dX11_blew_4 rfl rfl ?_
  refine g_iconst (pc := 5) (v := 4) dX11_blew_5 (by decide) ?_
  refine g_icmp_gt (pc := 6) (tgt := 38) dX11_blew_6 (by decide) ?_ ?_
  · refine g_iload_n (pc := 38) 1 dX11_blew_38 rfl rfl ?_
    exact g_iret (pc := 39) hRT dX11_blew_39
  · refine g_jq2 (pc2 := 30) (lf := fun x6 x7 => [((0 : Nat), Value.ref (a 0)), ((2 : Nat), Value.int x3)]) (sf := fun x6 x7 => [Value.int x6, Value.int x7]) (fun s8 x6 x7 => ?_) (fun k5 hk5 => ?_)
    · show G _ Γ _ _ _ _ _ _ s8 [((0 : Nat), Value.ref (a 0)), ((2 : Nat), Value.int x3)] 30 [Value.int x6, Value.int x7]
      refine g_ior (pc := 30) dX11_blew_30 ?_
      refine g_nm (fun x9 => ?_)
      refine g_istore_n (pc := 31) [1, 0, 2] (lv1 := [(0, Value.ref (a 0)), (1, Value.int x9), (2, Value.int x3)]) dX11_blew_31 rfl (by decide) rfl ?_
      refine g_iinc (pc := 32) [1, 2, 0] 2 (n1 := 1) (lv1 := fun x10 => [(0, Value.ref (a 0)), (1, Value.int x9), (2, Value.int x10)]) dX11_blew_32 rfl (by decide) (by decide) (fun _ => rfl) (fun x10 => ?_)
      show G _ Γ _ _ _ _ _ _ _ [(0, Value.ref (a 0)), (1, Value.int x9), (2, Value.int x10)] (32 + 3) _
      refine g_goto (pc := 35) (tgt := 4) dX11_blew_35 (by decide) ?_
      exact hk1 s8 _ _
    · refine g_aload_n (pc := 9) 0 dX11_blew_9 rfl rfl ?_
      refine g_cVv (pc := 10) 0 (As := []) (fun r2 h2 => k_X11_asItIs__0 hI h2) wk_X11_asItIs wv_X11_asItIs bw_20_14 cM_0 rfl (by decide) (by decide) rfl rfl (Nat.le_of_ble_eq_true rfl) dX11_blew_10 (fun r11 s12 => ?_)
      refine g_iload_n (pc := 13) 1 dX11_blew_13 rfl rfl ?_
      refine g_aload_n (pc := 14) 0 dX11_blew_14 rfl rfl ?_
      refine g_iconst (pc := 15) (v := -1) dX11_blew_15 (by decide) ?_
      refine g_iload_n (pc := 16) 2 dX11_blew_16 rfl rfl ?_
      refine g_cVz (pc := 17) 0 (As := [Value.int (-1 : Int32), Value.int x3]) (fun r2 h2 => k_X11_isSoAll__0 hI h2) wk_X11_isSoAll wv_X11_isSoAll bw_40_15 cM_0 rfl (by decide) (by decide) rfl rfl (Nat.le_of_ble_eq_true rfl) dX11_blew_17 (fun r13 s14 => ?_)
      refine g_if_eq (pc := 20) (tgt := 29) dX11_blew_20 (by decide) ?_ ?_
      · refine g_iconst (pc := 29) (v := 0) dX11_blew_29 (by decide) ?_
        exact g_lv [0, 2] rfl (hk5 s14 _ _)
      · refine g_iconst (pc := 23) (v := 1) dX11_blew_23 (by decide) ?_
        refine g_iload_n (pc := 24) 2 dX11_blew_24 rfl rfl ?_
        refine g_ishl (pc := 25) dX11_blew_25 ?_
        refine g_goto (pc := 26) (tgt := 30) dX11_blew_26 (by decide) ?_
        exact g_lv [0, 2] rfl (hk5 s14 _ _)
set_option maxRecDepth 100000 in
set_option maxHeartbeats 4000000 in
theorem k_X11_gusts__0 {l : Launch} {D : va_G} {a : Nat → Nat} {cI : ClassId} (hI : ∀ σ : St, va_D (AM a) (cM a cI σ)) {σ : St} {x1 x2 x3 x4 : Int32} {r : Int32 × St} (h : f_X11_gusts__0 σ x1 x2 x3 x4 = some r) : Kc (SM l D a cI) yX11_gusts cX11_gusts 10 (some .int) 4 [Value.ref (a 0), Value.int x1, Value.int x2, Value.int x3, Value.int x4] σ r := by
  refine enter (own := RX11) (o := f_X11_gusts__0 σ x1 x2 x3 x4) (plainFor_of_name (by decide +kernel)) rfl (Nat.le_of_ble_eq_true rfl) hI wk_X11_gusts.1 h (fun Γ hRT => ?_)
  show G _ Γ _ _ _ _ _ _ σ [((0 : Nat), Value.ref (a 0)), ((1 : Nat), Value.int x1), ((2 : Nat), Value.int x2), ((3 : Nat), Value.int x3), ((4 : Nat), Value.int x4)] 0 []
  unfold f_X11_gusts__0
  refine g_aload_n (pc := 0) 0 dX11_gusts_0 rfl rfl ?_
  refine g_iload_n (pc := 1) 1 dX11_gusts_1 rfl rfl ?_
  refine g_cVz (pc := 2) 0 (As := [Value.int x1]) (fun r2 h2 => k_X11_isHouse__0 hI h2) wk_X11_isHouse wv_X11_isHouse bw_20_10 cM_0 rfl (by decide) (by decide) rfl rfl (Nat.le_of_ble_eq_true rfl) dX11_gusts_2 (fun r5 s6 => ?_)
  refine g_if_eq (pc := 5) (tgt := 35) dX11_gusts_5 (by decide) ?_ ?_
  · refine g_iconst (pc := 35) (v := -1) dX11_gusts_35 (by decide) ?_
    exact g_iret (pc := 36) hRT dX11_gusts_36
  · refine g_aload_n (pc := 8) 0 dX11_gusts_8 rfl rfl ?_
    refine g_iload_n (pc := 9) 2 dX11_gusts_9 rfl rfl ?_
    refine g_cVz (pc := 10) 0 (As := [Value.int x2]) (fun r2 h2 => k_X11_isNews__0 hI h2) wk_X11_isNews wv_X11_isNews bw_22_4 cM_0 rfl (by decide) (by decide) rfl rfl (Nat.le_of_ble_eq_true rfl) dX11_gusts_10 (fun r7 s8 => ?_)
    refine g_if_eq (pc := 13) (tgt := 35) dX11_gusts_13 (by decide) ?_ ?_
    · refine g_iconst (pc := 35) (v := -1) dX11_gusts_35 (by decide) ?_
      exact g_iret (pc := 36) hRT dX11_gusts_36
    · refine g_iload_n (pc := 16) 3 dX11_gusts_16 rfl rfl ?_
      refine g_iconst (pc := 17) (v := 0) dX11_gusts_17 (by decide) ?_
      refine g_iconst (pc := 18) (v := 4) dX11_gusts_18 (by decide) ?_
      refine g_cSz (pc := 19) (As := [Value.int x3, Value.int (0 : Int32), Value.int (4 : Int32)]) (fun r2 h2 => k_X11_in hI h2) wk_X11_in ws_X11_in bw_16_9 (by decide) (by decide) rfl rfl (Nat.le_of_ble_eq_true rfl) dX11_gusts_19 (fun r9 s10 => ?_)
      refine g_if_eq (pc := 22) (tgt := 35) dX11_gusts_22 (by decide) ?_ ?_
      · refine g_iconst (pc := 35) (v := -1) dX11_gusts_35 (by decide) ?_
        exact g_iret (pc := 36) hRT dX11_gusts_36
      · refine g_iload (pc := 25) 4 dX11_gusts_25 rfl ?_
        refine g_iconst (pc := 27) (v := 0) dX11_gusts_27 (by decide) ?_
        refine g_iconst (pc := 28) (v := 1) dX11_gusts_28 (by decide) ?_
        refine g_cSz (pc := 29) (As := [Value.int x4, Value.int (0 : Int32), Value.int (1 : Int32)]) (fun r2 h2 => k_X11_in hI h2) wk_X11_in ws_X11_in bw_16_9 (by decide) (by decide) rfl rfl (Nat.le_of_ble_eq_true rfl) dX11_gusts_29 (fun r11 s12 => ?_)
        refine g_if_ne (pc := 32) (tgt := 37) dX11_gusts_32 (by decide) ?_ ?_
        · refine g_iconst (pc := 37) (v := 1) dX11_gusts_37 (by decide) ?_
          refine g_iconst (pc := 38) (v := 2) dX11_gusts_38 (by decide) ?_
          refine g_iload_n (pc := 39) 3 dX11_gusts_39 rfl rfl ?_
          refine g_imul (pc := 40) dX11_gusts_40 ?_
          refine g_ishl (pc := 41) dX11_gusts_41 ?_
          refine g_nm (fun x13 => ?_)
          refine g_istore (pc := 42) [1, 2, 3, 4, 5, 0] (lv1 := [(0, Value.ref (a 0)), (1, Value.int x1), (2, Value.int x2), (3, Value.int x3), (4, Value.int x4), (5, Value.int x13)]) dX11_gusts_42 (by decide) rfl ?_
          refine g_iconst (pc := 44) (v := 0) dX11_gusts_44 (by decide) ?_
          refine g_istore (pc := 45) [1, 2, 3, 4, 5, 6, 0] (lv1 := [(0, Value.ref (a 0)), (1, Value.int x1), (2, Value.int x2), (3, Value.int x3), (4, Value.int x4), (5, Value.int x13), (6, Value.int (0 : Int32))]) dX11_gusts_45 (by decide) rfl ?_
          refine g_iconst (pc := 47) (v := 0) dX11_gusts_47 (by decide) ?_
          refine g_istore (pc := 48) [1, 2, 3, 4, 5, 6, 7, 0] (lv1 := [(0, Value.ref (a 0)), (1, Value.int x1), (2, Value.int x2), (3, Value.int x3), (4, Value.int x4), (5, Value.int x13), (6, Value.int (0 : Int32)), (7, Value.int (0 : Int32))]) dX11_gusts_48 (by decide) rfl ?_
          refine g_lq2 (pc := 50) (lf := fun x15 x16 => [((0 : Nat), Value.ref (a 0)), ((1 : Nat), Value.int x1), ((2 : Nat), Value.int x2), ((3 : Nat), Value.int x3), ((4 : Nat), Value.int x4), ((5 : Nat), Value.int x13), ((6 : Nat), Value.int x15), ((7 : Nat), Value.int x16)]) (sf := fun x15 x16 => ([] : List Value)) (fun k14 hk14 s17 x15 x16 => ?_) 100000 s12 _ _
          show G _ Γ _ _ _ _ _ _ s17 [((0 : Nat), Value.ref (a 0)), ((1 : Nat), Value.int x1), ((2 : Nat), Value.int x2), ((3 : Nat), Value.int x3), ((4 : Nat), Value.int x4), ((5 : Nat), Value.int x13), ((6 : Nat), Value.int x15), ((7 : Nat), Value.int x16)] 50 ([] : List Value)
          refine g_iload (pc := 50) 7 dX11_gusts_50 rfl ?_
          refine g_iload (pc := 52) 5 dX11_gusts_52 rfl ?_
          refine g_icmp_ge (pc := 54) (tgt := 124) dX11_gusts_54 (by decide) ?_ ?_
          · refine g_iload (pc := 124) 6 dX11_gusts_124 rfl ?_
            refine g_istore (pc := 126) [1, 2, 3, 4, 5, 6, 7, 0] (lv1 := [(0, Value.ref (a 0)), (1, Value.int x1), (2, Value.int x2), (3, Value.int x3), (4, Value.int x4), (5, Value.int x13), (6, Value.int x15), (7, Value.int x15)]) dX11_gusts_126 (by decide) rfl ?_
            refine g_iload (pc := 128) 5 dX11_gusts_128 rfl ?_
            refine g_istore (pc := 130) [1, 2, 3, 4, 5, 6, 7, 8, 0] (lv1 := [(0, Value.ref (a 0)), (1, Value.int x1), (2, Value.int x2), (3, Value.int x3), (4, Value.int x4), (5, Value.int x13), (6, Value.int x15), (7, Value.int x15), (8, Value.int x13)]) dX11_gusts_130 (by decide) rfl ?_
            refine g_lv [4, 5, 6, 7, 8] (lv' := [(4, Value.int x4), (5, Value.int x13), (6, Value.int x15), (7, Value.int x15), (8, Value.int x13)]) rfl ?_
            refine g_lq2 (pc := 132) (lf := fun x19 x20 => [((4 : Nat), Value.int x4), ((5 : Nat), Value.int x13), ((6 : Nat), Value.int x15), ((7 : Nat), Value.int x19), ((8 : Nat), Value.int x20)]) (sf := fun x19 x20 => ([] : List Value)) (fun k18 hk18 s21 x19 x20 => ?_) 100000 s17 _ _
            show G _ Γ _ _ _ _ _ _ s21 [((4 : Nat), Value.int x4), ((5 : Nat), Value.int x13), ((6 : Nat), Value.int x15), ((7 : Nat), Value.int x19), ((8 : Nat), Value.int x20)] 132 ([] : List Value)
            refine g_iload (pc := 132) 4 dX11_gusts_132 rfl ?_
            refine g_if_le (pc := 134) (tgt := 155) dX11_gusts_134 (by decide) ?_ ?_
            · refine g_iload (pc := 155) 0 dX11_gusts_155 rfl ?_
              refine g_if_ne (pc := 157) (tgt := 165) dX11_gusts_157 (by decide) ?_ ?_
              · refine g_iload (pc := 165) 1 dX11_gusts_165 rfl ?_
                refine g_iload (pc := 167) 3 dX11_gusts_167 rfl ?_
                refine g_idiv (pc := 169) dX11_gusts_169 ?_
                exact g_iret (pc := 170) hRT dX11_gusts_170
              · refine g_iload (pc := 160) 2 dX11_gusts_160 rfl ?_
                refine g_goto (pc := 162) (tgt := 167) dX11_gusts_162 (by decide) ?_
                refine g_iload (pc := 167) 3 dX11_gusts_167 rfl ?_
                refine g_idiv (pc := 169) dX11_gusts_169 ?_
                exact g_iret (pc := 170) hRT dX11_gusts_170
            · refine g_iload (pc := 137) 3 dX11_gusts_137 rfl ?_
              refine g_iload (pc := 139) 4 dX11_gusts_139 rfl ?_
              refine g_irem (pc := 141) dX11_gusts_141 ?_
              refine g_nm (fun x22 => ?_)
              refine g_istore (pc := 142) [1, 2, 3, 4, 5, 0] (lv1 := [(4, Value.int x4), (5, Value.int x13), (6, Value.int x15), (7, Value.int x19), (8, Value.int x20), (9, Value.int x22)]) dX11_gusts_142 (by decide) rfl ?_
              refine g_iload (pc := 144) 4 dX11_gusts_144 rfl ?_
              refine g_istore (pc := 146) [1, 2, 3, 0, 4, 5] (lv1 := [(4, Value.int x4), (5, Value.int x13), (6, Value.int x15), (7, Value.int x20), (8, Value.int x20), (9, Value.int x22)]) dX11_gusts_146 (by decide) rfl ?_
              refine g_iload (pc := 148) 5 dX11_gusts_148 rfl ?_
              refine g_istore (pc := 150) [1, 2, 3, 4, 0, 5] (lv1 := [(4, Value.int x4), (5, Value.int x13), (6, Value.int x15), (7, Value.int x20), (8, Value.int x22), (9, Value.int x22)]) dX11_gusts_150 (by decide) rfl ?_
              refine g_goto (pc := 152) (tgt := 132) dX11_gusts_152 (by decide) ?_
              exact g_lv [0, 1, 2, 3, 4] rfl (hk18 s21 _ _)
          · refine g_aload_n (pc := 57) 0 dX11_gusts_57 rfl rfl ?_
            refine g_iload_n (pc := 58) 2 dX11_gusts_58 rfl rfl ?_
            refine g_cVv (pc := 59) 0 (As := [Value.int x2]) (fun r2 h2 => k_X11_asItIsOf__0 hI h2) wk_X11_asItIsOf wv_X11_asItIsOf bw_31_7 cM_0 rfl (by decide) (by decide) rfl rfl (Nat.le_of_ble_eq_true rfl) dX11_gusts_59 (fun r23 s24 => ?_)
            refine g_iconst (pc := 62) (v := 0) dX11_gusts_62 (by decide) ?_
            refine g_istore (pc := 63) [1, 2, 3, 4, 5, 6, 7, 8, 0] (lv1 := [(0, Value.ref (a 0)), (1, Value.int x1), (2, Value.int x2), (3, Value.int x3), (4, Value.int x4), (5, Value.int x13), (6, Value.int x15), (7, Value.int x16), (8, Value.int (0 : Int32))]) dX11_gusts_63 (by decide) rfl ?_
            refine g_lq1 (pc := 65) (lf := fun x26 => [((0 : Nat), Value.ref (a 0)), ((1 : Nat), Value.int x1), ((2 : Nat), Value.int x2), ((3 : Nat), Value.int x3), ((4 : Nat), Value.int x4), ((5 : Nat), Value.int x13), ((6 : Nat), Value.int x15), ((7 : Nat), Value.int x16), ((8 : Nat), Value.int x26)]) (sf := fun x26 => ([] : List Value)) (fun k25 hk25 s27 x26 => ?_) 100000 s24 _
            show G _ Γ _ _ _ _ _ _ s27 [((0 : Nat), Value.ref (a 0)), ((1 : Nat), Value.int x1), ((2 : Nat), Value.int x2), ((3 : Nat), Value.int x3), ((4 : Nat), Value.int x4), ((5 : Nat), Value.int x13), ((6 : Nat), Value.int x15), ((7 : Nat), Value.int x16), ((8 : Nat), Value.int x26)] 65 ([] : List Value)
            refine g_iload (pc := 65) 8 dX11_gusts_65 rfl ?_
            refine g_iload_n (pc := 67) 3 dX11_gusts_67 rfl rfl ?_
            refine g_icmp_ge (pc := 68) (tgt := 92) dX11_gusts_68 (by decide) ?_ ?_
            · refine g_jq2 (pc2 := 115) (lf := fun x29 x30 => [((0 : Nat), Value.ref (a 0)), ((1 : Nat), Value.int x1), ((2 : Nat), Value.int x2), ((3 : Nat), Value.int x3), ((4 : Nat), Value.int x4), ((5 : Nat), Value.int x13), ((7 : Nat), Value.int x16)]) (sf := fun x29 x30 => [Value.int x29, Value.int x30]) (fun s31 x29 x30 => ?_) (fun k28 hk28 => ?_)
              · show G _ Γ _ _ _ _ _ _ s31 [((0 : Nat), Value.ref (a 0)), ((1 : Nat), Value.int x1), ((2 : Nat), Value.int x2), ((3 : Nat), Value.int x3), ((4 : Nat), Value.int x4), ((5 : Nat), Value.int x13), ((7 : Nat), Value.int x16)] 115 [Value.int x29, Value.int x30]
                refine g_iadd (pc := 115) dX11_gusts_115 ?_
                refine g_nm (fun x32 => ?_)
                refine g_istore (pc := 116) [1, 2, 3, 4, 5, 6, 0, 7] (lv1 := [(0, Value.ref (a 0)), (1, Value.int x1), (2, Value.int x2), (3, Value.int x3), (4, Value.int x4), (5, Value.int x13), (6, Value.int x32), (7, Value.int x16)]) dX11_gusts_116 (by decide) rfl ?_
                refine g_iinc (pc := 118) [1, 2, 3, 4, 5, 6, 7, 0] 7 (n1 := 1) (lv1 := fun x33 => [(0, Value.ref (a 0)), (1, Value.int x1), (2, Value.int x2), (3, Value.int x3), (4, Value.int x4), (5, Value.int x13), (6, Value.int x32), (7, Value.int x33)]) dX11_gusts_118 rfl (by decide) (by decide) (fun _ => rfl) (fun x33 => ?_)
                show G _ Γ _ _ _ _ _ _ _ [(0, Value.ref (a 0)), (1, Value.int x1), (2, Value.int x2), (3, Value.int x3), (4, Value.int x4), (5, Value.int x13), (6, Value.int x32), (7, Value.int x33)] (118 + 3) _
                refine g_goto (pc := 121) (tgt := 50) dX11_gusts_121 (by decide) ?_
                exact hk14 s31 _ _
              · refine g_iload (pc := 92) 6 dX11_gusts_92 rfl ?_
                refine g_aload_n (pc := 94) 0 dX11_gusts_94 rfl rfl ?_
                refine g_get (pc := 95) 0 cM_0 rfl inlX11 28 (by decide) bw_14_14 rfl dX11_gusts_95 ?_
                refine g_bipush (pc := 98) (v := 17) dX11_gusts_98 (by decide) ?_
                refine g_iload_n (pc := 100) 2 dX11_gusts_100 rfl rfl ?_
                refine g_iadd (pc := 101) dX11_gusts_101 ?_
                refine g_iald (pc := 102) 14 cM_14 rfl dX11_gusts_102 ?_
                refine g_iload_n (pc := 103) 1 dX11_gusts_103 rfl rfl ?_
                refine g_cSz (pc := 104) (As := [Value.int (s27 14 (Int32.toNatClampNeg ((17 : Int32) + x2))), Value.int x1]) (fun r2 h2 => k_X11_has hI h2) wk_X11_has ws_X11_has bw_20_23 (by decide) (by decide) rfl rfl (Nat.le_of_ble_eq_true rfl) dX11_gusts_104 (fun r34 s35 => ?_)
                refine g_if_eq (pc := 107) (tgt := 114) dX11_gusts_107 (by decide) ?_ ?_
                · refine g_iconst (pc := 114) (v := 0) dX11_gusts_114 (by decide) ?_
                  exact g_lv [0, 1, 2, 3, 4, 5, 7] rfl (hk28 s35 _ _)
                · refine g_iconst (pc := 110) (v := 1) dX11_gusts_110 (by decide) ?_
                  refine g_goto (pc := 111) (tgt := 115) dX11_gusts_111 (by decide) ?_
                  exact g_lv [0, 1, 2, 3, 4, 5, 7] rfl (hk28 s35 _ _)
            · refine g_aload_n (pc := 71) 0 dX11_gusts_71 rfl rfl ?_
              refine g_iconst (pc := 72) (v := 1) dX11_gusts_72 (by decide) ?_
              refine g_iload (pc := 73) 7 dX11_gusts_73 rfl ?_
              refine g_iconst (pc := 75) (v := 2) dX11_gusts_75 (by decide) ?_
              refine g_iload (pc := 76) 8 dX11_gusts_76 rfl ?_
              refine g_imul (pc := 78) dX11_gusts_78 ?_
              refine g_ishr (pc := 79) dX11_gusts_79 ?_
              refine g_iconst (pc := 80) (v := 3) dX11_gusts_80 (by decide) ?_
              refine g_iand (pc := 81) dX11_gusts_81 ?_
              refine g_iadd (pc := 82) dX11_gusts_82 ?_
              refine g_cVv (pc := 83) 0 (As := [Value.int ((1 : Int32) + ((x16 >>> (((2 : Int32) * x26) &&& 31)) &&& (3 : Int32)))]) (fun r2 h2 => k_X11_goesBy__0 hI h2) wk_X11_goesBy wv_X11_goesBy bw_27_12 cM_0 rfl (by decide) (by decide) rfl rfl (Nat.le_of_ble_eq_true rfl) dX11_gusts_83 (fun r36 s37 => ?_)
              refine g_iinc (pc := 86) [1, 2, 3, 4, 5, 6, 7, 8, 0] 8 (n1 := 1) (lv1 := fun x38 => [(0, Value.ref (a 0)), (1, Value.int x1), (2, Value.int x2), (3, Value.int x3), (4, Value.int x4), (5, Value.int x13), (6, Value.int x15), (7, Value.int x16), (8, Value.int x38)]) dX11_gusts_86 rfl (by decide) (by decide) (fun _ => rfl) (fun x38 => ?_)
              show G _ Γ _ _ _ _ _ _ _ [(0, Value.ref (a 0)), (1, Value.int x1), (2, Value.int x2), (3, Value.int x3), (4, Value.int x4), (5, Value.int x13), (6, Value.int x15), (7, Value.int x16), (8, Value.int x38)] (86 + 3) _
              refine g_goto (pc := 89) (tgt := 65) dX11_gusts_89 (by decide) ?_
              exact hk25 s37 _
        · refine g_iconst (pc := 35) (v := -1) dX11_gusts_35 (by decide) ?_
          exact g_iret (pc := 36) hRT dX11_gusts_36
set_option maxRecDepth 100000 in
set_option maxHeartbeats 4000000 in
theorem k_X11_knowers__0 {l : Launch} {D : va_G} {a : Nat → Nat} {cI : ClassId} (hI : ∀ σ : St, va_D (AM a) (cM a cI σ)) {σ : St} {r : Int32 × St} (h : f_X11_knowers__0 σ = some r) : Kc (SM l D a cI) yX11_knowers cX11_knowers 3 (some .int) 1 [Value.ref (a 0)] σ r := by
  refine enter (own := RX11) (o := f_X11_knowers__0 σ) (plainFor_of_name (by decide +kernel)) rfl (Nat.le_of_ble_eq_true rfl) hI wk_X11_knowers.1 h (fun Γ hRT => ?_)
  show G _ Γ _ _ _ _ _ _ σ [((0 : Nat), Value.ref (a 0))] 0 []
  unfold f_X11_knowers__0
  refine g_iconst (pc := 0) (v := 0) dX11_knowers_0 (by decide) ?_
  refine g_istore_n (pc := 1) [1, 0] (lv1 := [(0, Value.ref (a 0)), (1, Value.int (0 : Int32))]) dX11_knowers_1 rfl (by decide) rfl ?_
  refine g_iconst (pc := 2) (v := 0) dX11_knowers_2 (by decide) ?_
  refine g_istore_n (pc := 3) [1, 2, 0] (lv1 := [(0, Value.ref (a 0)), (1, Value.int (0 : Int32)), (2, Value.int (0 : Int32))]) dX11_knowers_3 rfl (by decide) rfl ?_
  refine g_lq2 (pc := 4) (lf := fun x2 x3 => [((0 : Nat), Value.ref (a 0)), ((1 : Nat), Value.int x2), ((2 : Nat), Value.int x3)]) (sf := fun x2 x3 => ([] : List Value)) (fun k1 hk1 s4 x2 x3 => ?_) 100000 σ _ _
  show G _ Γ _ _ _ _ _ _ s4 [((0 : Nat), Value.ref (a 0)), ((1 : Nat), Value.int x2), ((2 : Nat), Value.int x3)] 4 ([] : List Value)
  refine g_iload_n (pc := 4) 2 dX11_knowers_4 rfl rfl ?_
  refine g_aload_n (pc := 5) 0 dX11_knowers_5 rfl rfl ?_
  refine g_get (pc := 6) 0 cM_0 rfl inlX11 4 (by decide) bw_15_15 rfl dX11_knowers_6 ?_
  refine g_icmp_ge (pc := 9) (tgt := 30) dX11_knowers_9 (by decide) ?_ ?_
  · refine g_iload_n (pc := 30) 1 dX11_knowers_30 rfl rfl ?_
    refine g_cSi (pc := 31) (As := [Value.int x2]) (fun r2 h2 => k_X11_bits hI h2) wk_X11_bits ws_X11_bits bw_22_8 (by decide) (by decide) rfl rfl (Nat.le_of_ble_eq_true rfl) dX11_knowers_31 (fun r5 s6 => ?_)
    exact g_iret (pc := 34) hRT dX11_knowers_34
  · refine g_iload_n (pc := 12) 1 dX11_knowers_12 rfl rfl ?_
    refine g_aload_n (pc := 13) 0 dX11_knowers_13 rfl rfl ?_
    refine g_get (pc := 14) 0 cM_0 rfl inlX11 28 (by decide) bw_14_14 rfl dX11_knowers_14 ?_
    refine g_bipush (pc := 17) (v := 17) dX11_knowers_17 (by decide) ?_
    refine g_iload_n (pc := 19) 2 dX11_knowers_19 rfl rfl ?_
    refine g_iadd (pc := 20) dX11_knowers_20 ?_
    refine g_iald (pc := 21) 14 cM_14 rfl dX11_knowers_21 ?_
    refine g_ior (pc := 22) dX11_knowers_22 ?_
    refine g_nm (fun x7 => ?_)
    refine g_istore_n (pc := 23) [1, 0, 2] (lv1 := [(0, Value.ref (a 0)), (1, Value.int x7), (2, Value.int x3)]) dX11_knowers_23 rfl (by decide) rfl ?_
    refine g_iinc (pc := 24) [1, 2, 0] 2 (n1 := 1) (lv1 := fun x8 => [(0, Value.ref (a 0)), (1, Value.int x7), (2, Value.int x8)]) dX11_knowers_24 rfl (by decide) (by decide) (fun _ => rfl) (fun x8 => ?_)
    show G _ Γ _ _ _ _ _ _ _ [(0, Value.ref (a 0)), (1, Value.int x7), (2, Value.int x8)] (24 + 3) _
    refine g_goto (pc := 27) (tgt := 4) dX11_knowers_27 (by decide) ?_
    exact hk1 s4 _ _
set_option maxRecDepth 100000 in
set_option maxHeartbeats 4000000 in
theorem k_X11_allKnown__0 {l : Launch} {D : va_G} {a : Nat → Nat} {cI : ClassId} (hI : ∀ σ : St, va_D (AM a) (cM a cI σ)) {σ : St} {r : Int32 × St} (h : f_X11_allKnown__0 σ = some r) : Kc (SM l D a cI) yX11_allKnown cX11_allKnown 3 (some .int) 1 [Value.ref (a 0)] σ r := by
  refine enter (own := RX11) (o := f_X11_allKnown__0 σ) (plainFor_of_name (by decide +kernel)) rfl (Nat.le_of_ble_eq_true rfl) hI wk_X11_allKnown.1 h (fun Γ hRT => ?_)
  show G _ Γ _ _ _ _ _ _ σ [((0 : Nat), Value.ref (a 0))] 0 []
  unfold f_X11_allKnown__0
  refine g_iconst (pc := 0) (v := 0) dX11_allKnown_0 (by decide) ?_
  refine g_istore_n (pc := 1) [1, 0] (lv1 := [(0, Value.ref (a 0)), (1, Value.int (0 : Int32))]) dX11_allKnown_1 rfl (by decide) rfl ?_
  refine g_iconst (pc := 2) (v := 0) dX11_allKnown_2 (by decide) ?_
  refine g_istore_n (pc := 3) [1, 2, 0] (lv1 := [(0, Value.ref (a 0)), (1, Value.int (0 : Int32)), (2, Value.int (0 : Int32))]) dX11_allKnown_3 rfl (by decide) rfl ?_
  refine g_lq2 (pc := 4) (lf := fun x2 x3 => [((0 : Nat), Value.ref (a 0)), ((1 : Nat), Value.int x2), ((2 : Nat), Value.int x3)]) (sf := fun x2 x3 => ([] : List Value)) (fun k1 hk1 s4 x2 x3 => ?_) 100000 σ _ _
  show G _ Γ _ _ _ _ _ _ s4 [((0 : Nat), Value.ref (a 0)), ((1 : Nat), Value.int x2), ((2 : Nat), Value.int x3)] 4 ([] : List Value)
  refine g_iload_n (pc := 4) 2 dX11_allKnown_4 rfl rfl ?_
  refine g_aload_n (pc := 5) 0 dX11_allKnown_5 rfl rfl ?_
  refine g_get (pc := 6) 0 cM_0 rfl inlX11 4 (by decide) bw_15_15 rfl dX11_allKnown_6 ?_
  refine g_icmp_ge (pc := 9) (tgt := 33) dX11_allKnown_9 (by decide) ?_ ?_
  · refine g_iload_n (pc := 33) 1 dX11_allKnown_33 rfl rfl ?_
    exact g_iret (pc := 34) hRT dX11_allKnown_34
  · refine g_iload_n (pc := 12) 1 dX11_allKnown_12 rfl rfl ?_
    refine g_aload_n (pc := 13) 0 dX11_allKnown_13 rfl rfl ?_
    refine g_get (pc := 14) 0 cM_0 rfl inlX11 28 (by decide) bw_14_14 rfl dX11_allKnown_14 ?_
    refine g_bipush (pc := 17) (v := 17) dX11_allKnown_17 (by decide) ?_
    refine g_iload_n (pc := 19) 2 dX11_allKnown_19 rfl rfl ?_
    refine g_iadd (pc := 20) dX11_allKnown_20 ?_
    refine g_iald (pc := 21) 14 cM_14 rfl dX11_allKnown_21 ?_
    refine g_cSi (pc := 22) (As := [Value.int (s4 14 (Int32.toNatClampNeg ((17 : Int32) + x3)))]) (fun r2 h2 => k_X11_bits hI h2) wk_X11_bits ws_X11_bits bw_22_8 (by decide) (by decide) rfl rfl (Nat.le_of_ble_eq_true rfl) dX11_allKnown_22 (fun r5 s6 => ?_)
    refine g_iadd (pc := 25) dX11_allKnown_25 ?_
    refine g_nm (fun x7 => ?_)
    refine g_istore_n (pc := 26) [1, 0, 2] (lv1 := [(0, Value.ref (a 0)), (1, Value.int x7), (2, Value.int x3)]) dX11_allKnown_26 rfl (by decide) rfl ?_
    refine g_iinc (pc := 27) [1, 2, 0] 2 (n1 := 1) (lv1 := fun x8 => [(0, Value.ref (a 0)), (1, Value.int x7), (2, Value.int x8)]) dX11_allKnown_27 rfl (by decide) (by decide) (fun _ => rfl) (fun x8 => ?_)
    show G _ Γ _ _ _ _ _ _ _ [(0, Value.ref (a 0)), (1, Value.int x7), (2, Value.int x8)] (27 + 3) _
    refine g_goto (pc := 30) (tgt := 4) dX11_allKnown_30 (by decide) ?_
    exact hk1 s6 _ _
set_option maxRecDepth 100000 in
set_option maxHeartbeats 4000000 in
theorem k_X11_year__0 {l : Launch} {D : va_G} {a : Nat → Nat} {cI : ClassId} (hI : ∀ σ : St, va_D (AM a) (cM a cI σ)) {σ : St} {x1 x2 x3 : Int32} {r : Int32 × St} (h : f_X11_year__0 σ x1 x2 x3 = some r) : Kc (SM l D a cI) yX11_year cX11_year 9 (some .int) 5 [Value.ref (a 0), Value.int x1, Value.int x2, Value.int x3] σ r := by
  refine enter (own := RX11) (o := f_X11_year__0 σ x1 x2 x3) (plainFor_of_name (by decide +kernel)) rfl (Nat.le_of_ble_eq_true rfl) hI wk_X11_year.1 h (fun Γ hRT => ?_)
  show G _ Γ _ _ _ _ _ _ σ [((0 : Nat), Value.ref (a 0)), ((1 : Nat), Value.int x1), ((2 : Nat), Value.int x2), ((3 : Nat), Value.int x3)] 0 []
  unfold f_X11_year__0
  refine g_iload_n (pc := 0) 1 dX11_year_0 rfl rfl ?_
  refine g_iconst (pc := 1) (v := 0) dX11_year_1 (by decide) ?_
  refine g_sipush (pc := 2) (v := 9999) dX11_year_2 (by decide) ?_
  refine g_cSz (pc := 5) (As := [Value.int x1, Value.int (0 : Int32), Value.int (9999 : Int32)]) (fun r2 h2 => k_X11_in hI h2) wk_X11_in ws_X11_in bw_16_9 (by decide) (by decide) rfl rfl (Nat.le_of_ble_eq_true rfl) dX11_year_5 (fun r4 s5 => ?_)
  refine g_if_eq (pc := 8) (tgt := 30) dX11_year_8 (by decide) ?_ ?_
  · refine g_iconst (pc := 30) (v := -1) dX11_year_30 (by decide) ?_
    exact g_iret (pc := 31) hRT dX11_year_31
  · refine g_iload_n (pc := 11) 2 dX11_year_11 rfl rfl ?_
    refine g_iconst (pc := 12) (v := 1) dX11_year_12 (by decide) ?_
    refine g_bipush (pc := 13) (v := 60) dX11_year_13 (by decide) ?_
    refine g_cSz (pc := 15) (As := [Value.int x2, Value.int (1 : Int32), Value.int (60 : Int32)]) (fun r2 h2 => k_X11_in hI h2) wk_X11_in ws_X11_in bw_16_9 (by decide) (by decide) rfl rfl (Nat.le_of_ble_eq_true rfl) dX11_year_15 (fun r6 s7 => ?_)
    refine g_if_eq (pc := 18) (tgt := 30) dX11_year_18 (by decide) ?_ ?_
    · refine g_iconst (pc := 30) (v := -1) dX11_year_30 (by decide) ?_
      exact g_iret (pc := 31) hRT dX11_year_31
    · refine g_iload_n (pc := 21) 3 dX11_year_21 rfl rfl ?_
      refine g_iconst (pc := 22) (v := 0) dX11_year_22 (by decide) ?_
      refine g_iconst (pc := 23) (v := 1) dX11_year_23 (by decide) ?_
      refine g_cSz (pc := 24) (As := [Value.int x3, Value.int (0 : Int32), Value.int (1 : Int32)]) (fun r2 h2 => k_X11_in hI h2) wk_X11_in ws_X11_in bw_16_9 (by decide) (by decide) rfl rfl (Nat.le_of_ble_eq_true rfl) dX11_year_24 (fun r8 s9 => ?_)
      refine g_if_ne (pc := 27) (tgt := 32) dX11_year_27 (by decide) ?_ ?_
      · refine g_aload_n (pc := 32) 0 dX11_year_32 rfl rfl ?_
        refine g_cVv (pc := 33) 0 (As := []) (fun r2 h2 => k_X11_asItIs__0 hI h2) wk_X11_asItIs wv_X11_asItIs bw_20_14 cM_0 rfl (by decide) (by decide) rfl rfl (Nat.le_of_ble_eq_true rfl) dX11_year_33 (fun r10 s11 => ?_)
        refine g_aload_n (pc := 36) 0 dX11_year_36 rfl rfl ?_
        refine g_cVi (pc := 37) 0 (As := []) (fun r2 h2 => k_X11_allKnown__0 hI h2) wk_X11_allKnown wv_X11_allKnown bw_44_7 cM_0 rfl (by decide) (by decide) rfl rfl (Nat.le_of_ble_eq_true rfl) dX11_year_37 (fun r12 s13 => ?_)
        refine g_istore (pc := 40) [1, 2, 3, 4, 0] (lv1 := [(0, Value.ref (a 0)), (1, Value.int x1), (2, Value.int x2), (3, Value.int x3), (4, Value.int r12)]) dX11_year_40 (by decide) rfl ?_
        refine g_iconst (pc := 42) (v := 0) dX11_year_42 (by decide) ?_
        refine g_istore (pc := 43) [1, 2, 3, 4, 5, 0] (lv1 := [(0, Value.ref (a 0)), (1, Value.int x1), (2, Value.int x2), (3, Value.int x3), (4, Value.int r12), (5, Value.int (0 : Int32))]) dX11_year_43 (by decide) rfl ?_
        refine g_lq1 (pc := 45) (lf := fun x15 => [((0 : Nat), Value.ref (a 0)), ((1 : Nat), Value.int x1), ((2 : Nat), Value.int x2), ((3 : Nat), Value.int x3), ((4 : Nat), Value.int r12), ((5 : Nat), Value.int x15)]) (sf := fun x15 => ([] : List Value)) (fun k14 hk14 s16 x15 => ?_) 100000 s13 _
        show G _ Γ _ _ _ _ _ _ s16 [((0 : Nat), Value.ref (a 0)), ((1 : Nat), Value.int x1), ((2 : Nat), Value.int x2), ((3 : Nat), Value.int x3), ((4 : Nat), Value.int r12), ((5 : Nat), Value.int x15)] 45 ([] : List Value)
        refine g_iload (pc := 45) 5 dX11_year_45 rfl ?_
        refine g_iload_n (pc := 47) 2 dX11_year_47 rfl rfl ?_
        refine g_icmp_ge (pc := 48) (tgt := 118) dX11_year_48 (by decide) ?_ ?_
        · refine g_iload_n (pc := 118) 3 dX11_year_118 rfl rfl ?_
          refine g_if_ne (pc := 119) (tgt := 129) dX11_year_119 (by decide) ?_ ?_
          · refine g_aload_n (pc := 129) 0 dX11_year_129 rfl rfl ?_
            refine g_cVi (pc := 130) 0 (As := []) (fun r2 h2 => k_X11_allKnown__0 hI h2) wk_X11_allKnown wv_X11_allKnown bw_44_7 cM_0 rfl (by decide) (by decide) rfl rfl (Nat.le_of_ble_eq_true rfl) dX11_year_130 (fun r17 s18 => ?_)
            refine g_iload (pc := 133) 4 dX11_year_133 rfl ?_
            refine g_isub (pc := 135) dX11_year_135 ?_
            exact g_iret (pc := 136) hRT dX11_year_136
          · refine g_aload_n (pc := 122) 0 dX11_year_122 rfl rfl ?_
            refine g_cVi (pc := 123) 0 (As := []) (fun r2 h2 => k_X11_knowers__0 hI h2) wk_X11_knowers wv_X11_knowers bw_44_11 cM_0 rfl (by decide) (by decide) rfl rfl (Nat.le_of_ble_eq_true rfl) dX11_year_123 (fun r19 s20 => ?_)
            refine g_goto (pc := 126) (tgt := 136) dX11_year_126 (by decide) ?_
            exact g_iret (pc := 136) hRT dX11_year_136
        · refine g_ldc2 (pc := 51) bw_44_3 dX11_year_51 ?_
          refine g_iload_n (pc := 54) 1 dX11_year_54 rfl rfl ?_
          refine g_i2l (pc := 55) dX11_year_55 ?_
          refine g_lmul (pc := 56) dX11_year_56 ?_
          refine g_ldc2 (pc := 57) bw_44_4 dX11_year_57 ?_
          refine g_iload (pc := 60) 5 dX11_year_60 rfl ?_
          refine g_i2l (pc := 62) dX11_year_62 ?_
          refine g_lmul (pc := 63) dX11_year_63 ?_
          refine g_ladd (pc := 64) dX11_year_64 ?_
          refine g_lconst (pc := 65) (v := 1) dX11_year_65 (by decide) ?_
          refine g_ladd (pc := 66) dX11_year_66 ?_
          refine g_nml (fun y21 => ?_)
          refine g_lstore (pc := 67) [1, 2, 3, 4, 5, 6, 0] (lv1 := [(0, Value.ref (a 0)), (1, Value.int x1), (2, Value.int x2), (3, Value.int x3), (4, Value.int r12), (5, Value.int x15), (6, Value.long y21)]) dX11_year_67 (by decide) rfl ?_
          refine g_lload (pc := 69) 6 dX11_year_69 rfl ?_
          refine g_lload (pc := 71) 6 dX11_year_71 rfl ?_
          refine g_lmul (pc := 73) dX11_year_73 ?_
          refine g_ldc2 (pc := 74) bw_44_5 dX11_year_74 ?_
          refine g_lrem (pc := 77) dX11_year_77 ?_
          refine g_ldc2 (pc := 78) bw_44_6 dX11_year_78 ?_
          refine g_ldiv (pc := 81) dX11_year_81 ?_
          refine g_l2i (pc := 82) dX11_year_82 ?_
          refine g_nm (fun x22 => ?_)
          refine g_istore (pc := 83) [1, 2, 3, 4, 5, 6, 7, 0] (lv1 := [(0, Value.ref (a 0)), (1, Value.int x1), (2, Value.int x2), (3, Value.int x3), (4, Value.int r12), (5, Value.int x15), (6, Value.long y21), (8, Value.int x22)]) dX11_year_83 (by decide) rfl ?_
          refine g_aload_n (pc := 85) 0 dX11_year_85 rfl rfl ?_
          refine g_get (pc := 86) 0 cM_0 rfl inlX11 28 (by decide) bw_14_14 rfl dX11_year_86 ?_
          refine g_iconst (pc := 89) (v := 1) dX11_year_89 (by decide) ?_
          refine g_iload (pc := 90) 7 dX11_year_90 rfl ?_
          refine g_aload_n (pc := 92) 0 dX11_year_92 rfl rfl ?_
          refine g_get (pc := 93) 0 cM_0 rfl inlX11 2 (by decide) bw_15_14 rfl dX11_year_93 ?_
          refine g_irem (pc := 96) dX11_year_96 ?_
          refine g_iadd (pc := 97) dX11_year_97 ?_
          refine g_iload (pc := 98) 7 dX11_year_98 rfl ?_
          refine g_bipush (pc := 100) (v := 16) dX11_year_100 (by decide) ?_
          refine g_idiv (pc := 102) dX11_year_102 ?_
          refine g_bipush (pc := 103) (v := 7) dX11_year_103 (by decide) ?_
          refine g_irem (pc := 105) dX11_year_105 ?_
          refine g_iast (pc := 106) 14 cM_14 rfl cM_s14 dX11_year_106 (fun s23 => ?_)
          refine g_aload_n (pc := 107) 0 dX11_year_107 rfl rfl ?_
          refine g_iconst (pc := 108) (v := 1) dX11_year_108 (by decide) ?_
          refine g_cVv (pc := 109) 0 (As := [Value.int (1 : Int32)]) (fun r2 h2 => k_X11_goes__0 hI h2) wk_X11_goes wv_X11_goes bw_27_8 cM_0 rfl (by decide) (by decide) rfl rfl (Nat.le_of_ble_eq_true rfl) dX11_year_109 (fun r24 s25 => ?_)
          refine g_iinc (pc := 112) [1, 2, 3, 4, 5, 0, 6, 7] 5 (n1 := 1) (lv1 := fun x26 => [(0, Value.ref (a 0)), (1, Value.int x1), (2, Value.int x2), (3, Value.int x3), (4, Value.int r12), (5, Value.int x26), (6, Value.long y21), (8, Value.int x22)]) dX11_year_112 rfl (by decide) (by decide) (fun _ => rfl) (fun x26 => ?_)
          show G _ Γ _ _ _ _ _ _ _ [(0, Value.ref (a 0)), (1, Value.int x1), (2, Value.int x2), (3, Value.int x3), (4, Value.int r12), (5, Value.int x26), (6, Value.long y21), (8, Value.int x22)] (112 + 3) _
          refine g_goto (pc := 115) (tgt := 45) dX11_year_115 (by decide) ?_
          exact g_lv [0, 1, 2, 3, 4, 5] rfl (hk14 s25 _)
      · refine g_iconst (pc := 30) (v := -1) dX11_year_30 (by decide) ?_
        exact g_iret (pc := 31) hRT dX11_year_31
set_option maxRecDepth 100000 in
set_option maxHeartbeats 4000000 in
theorem k_X11_copies__6_4 {l : Launch} {D : va_G} {a : Nat → Nat} {cI : ClassId} (hI : ∀ σ : St, va_D (AM a) (cM a cI σ)) {σ : St} {x1 x2 x3 : Int32} {r : Int32 × St} (h : f_X11_copies__6_4 σ x1 x2 x3 = some r) : Kc (SM l D a cI) yX11_copies cX11_copies 6 none 0 [Value.ref (a 6), Value.int x1, Value.ref (a 4), Value.int x2, Value.int x3] σ r := by
  refine enter (own := RX11) (o := f_X11_copies__6_4 σ x1 x2 x3) (plainFor_of_name (by decide +kernel)) rfl (Nat.le_of_ble_eq_true rfl) hI wk_X11_copies.1 h (fun Γ hRT => ?_)
  show G _ Γ _ _ _ _ _ _ σ [((0 : Nat), Value.ref (a 6)), ((1 : Nat), Value.int x1), ((2 : Nat), Value.ref (a 4)), ((3 : Nat), Value.int x2), ((4 : Nat), Value.int x3)] 0 []
  unfold f_X11_copies__6_4
  refine g_iconst (pc := 0) (v := 0) dX11_copies_0 (by decide) ?_
  refine g_istore (pc := 1) [1, 2, 3, 4, 5, 0] (lv1 := [(0, Value.ref (a 6)), (1, Value.int x1), (2, Value.ref (a 4)), (3, Value.int x2), (4, Value.int x3), (5, Value.int (0 : Int32))]) dX11_copies_1 (by decide) rfl ?_
  refine g_lq1 (pc := 3) (lf := fun x5 => [((0 : Nat), Value.ref (a 6)), ((1 : Nat), Value.int x1), ((2 : Nat), Value.ref (a 4)), ((3 : Nat), Value.int x2), ((4 : Nat), Value.int x3), ((5 : Nat), Value.int x5)]) (sf := fun x5 => ([] : List Value)) (fun k4 hk4 s6 x5 => ?_) 100000 σ _
  show G _ Γ _ _ _ _ _ _ s6 [((0 : Nat), Value.ref (a 6)), ((1 : Nat), Value.int x1), ((2 : Nat), Value.ref (a 4)), ((3 : Nat), Value.int x2), ((4 : Nat), Value.int x3), ((5 : Nat), Value.int x5)] 3 ([] : List Value)
  refine g_iload (pc := 3) 5 dX11_copies_3 rfl ?_
  refine g_iload (pc := 5) 4 dX11_copies_5 rfl ?_
  refine g_icmp_ge (pc := 7) (tgt := 28) dX11_copies_7 (by decide) ?_ ?_
  · exact g_vret (pc := 28) hRT dX11_copies_28
  · refine g_aload_n (pc := 10) 0 dX11_copies_10 rfl rfl ?_
    refine g_iload_n (pc := 11) 1 dX11_copies_11 rfl rfl ?_
    refine g_iload (pc := 12) 5 dX11_copies_12 rfl ?_
    refine g_iadd (pc := 14) dX11_copies_14 ?_
    refine g_aload_n (pc := 15) 2 dX11_copies_15 rfl rfl ?_
    refine g_iload_n (pc := 16) 3 dX11_copies_16 rfl rfl ?_
    refine g_iload (pc := 17) 5 dX11_copies_17 rfl ?_
    refine g_iadd (pc := 19) dX11_copies_19 ?_
    refine g_iald (pc := 20) 4 cM_4 rfl dX11_copies_20 ?_
    refine g_iast (pc := 21) 6 cM_6 rfl cM_s6 dX11_copies_21 (fun s7 => ?_)
    refine g_iinc (pc := 22) [1, 2, 3, 4, 5, 0] 5 (n1 := 1) (lv1 := fun x8 => [(0, Value.ref (a 6)), (1, Value.int x1), (2, Value.ref (a 4)), (3, Value.int x2), (4, Value.int x3), (5, Value.int x8)]) dX11_copies_22 rfl (by decide) (by decide) (fun _ => rfl) (fun x8 => ?_)
    show G _ Γ _ _ _ _ _ _ _ [(0, Value.ref (a 6)), (1, Value.int x1), (2, Value.ref (a 4)), (3, Value.int x2), (4, Value.int x3), (5, Value.int x8)] (22 + 3) _
    refine g_goto (pc := 25) (tgt := 3) dX11_copies_25 (by decide) ?_
    exact hk4 s7 _
set_option maxRecDepth 100000 in
set_option maxHeartbeats 4000000 in
theorem k_X11_keep__0 {l : Launch} {D : va_G} {a : Nat → Nat} {cI : ClassId} (hI : ∀ σ : St, va_D (AM a) (cM a cI σ)) {σ : St} {r : Int32 × St} (h : f_X11_keep__0 σ = some r) : Kc (SM l D a cI) yX11_keep cX11_keep 1 (some .int) 1 [Value.ref (a 0)] σ r := by
  refine enter (own := RX11) (o := f_X11_keep__0 σ) (plainFor_of_name (by decide +kernel)) rfl (Nat.le_of_ble_eq_true rfl) hI wk_X11_keep.1 h (fun Γ hRT => ?_)
  show G _ Γ _ _ _ _ _ _ σ [((0 : Nat), Value.ref (a 0))] 0 []
  unfold f_X11_keep__0
  refine g_aload_n (pc := 0) 0 dX11_keep_0 rfl rfl ?_
  refine g_get (pc := 1) 0 cM_0 rfl inlX11 11 (by decide) bw_15_18 rfl dX11_keep_1 ?_
  refine g_iconst (pc := 4) (v := 2) dX11_keep_4 (by decide) ?_
  refine g_icmp_ne (pc := 5) (tgt := 11) dX11_keep_5 (by decide) ?_ ?_
  · refine g_aload_n (pc := 11) 0 dX11_keep_11 rfl rfl ?_
    refine g_get (pc := 12) 0 cM_0 rfl inlX11 12 (by decide) bw_14_6 rfl dX11_keep_12 ?_
    refine g_bipush (pc := 15) (v := 22) dX11_keep_15 (by decide) ?_
    refine g_aload_n (pc := 17) 0 dX11_keep_17 rfl rfl ?_
    refine g_get (pc := 18) 0 cM_0 rfl inlX11 11 (by decide) bw_15_18 rfl dX11_keep_18 ?_
    refine g_imul (pc := 21) dX11_keep_21 ?_
    refine g_aload_n (pc := 22) 0 dX11_keep_22 rfl rfl ?_
    refine g_get (pc := 23) 0 cM_0 rfl inlX11 8 (by decide) bw_14_4 rfl dX11_keep_23 ?_
    refine g_iconst (pc := 26) (v := 0) dX11_keep_26 (by decide) ?_
    refine g_bipush (pc := 27) (v := 22) dX11_keep_27 (by decide) ?_
    refine g_cSv (pc := 29) (As := [Value.ref (a 6), Value.int ((22 : Int32) * (σ 0 11)), Value.ref (a 4), Value.int (0 : Int32), Value.int (22 : Int32)]) (fun r2 h2 => k_X11_copies__6_4 hI h2) wk_X11_copies ws_X11_copies bw_15_20 (by decide) (by decide) rfl rfl (Nat.le_of_ble_eq_true rfl) dX11_keep_29 (fun r1 s2 => ?_)
    refine g_aload_n (pc := 32) 0 dX11_keep_32 rfl rfl ?_
    refine g_dup (pc := 33) dX11_keep_33 rfl ?_
    refine g_get (pc := 34) 0 cM_0 rfl inlX11 11 (by decide) bw_15_18 rfl dX11_keep_34 ?_
    refine g_iconst (pc := 37) (v := 1) dX11_keep_37 (by decide) ?_
    refine g_iadd (pc := 38) dX11_keep_38 ?_
    refine g_put (pc := 39) 0 (ty := .int) cM_0 rfl inlX11 tyX11_ok nmX11 11 (by decide) bw_15_18 rfl (by decide +kernel) rfl rfl (Nat.le_of_ble_eq_true rfl) cM_f0_11 dX11_keep_39 (fun s3 => ?_)
    refine g_aload_n (pc := 42) 0 dX11_keep_42 rfl rfl ?_
    refine g_get (pc := 43) 0 cM_0 rfl inlX11 11 (by decide) bw_15_18 rfl dX11_keep_43 ?_
    exact g_iret (pc := 46) hRT dX11_keep_46
  · refine g_bipush (pc := 8) (v := -3) dX11_keep_8 (by decide) ?_
    exact g_iret (pc := 10) hRT dX11_keep_10
set_option maxRecDepth 100000 in
set_option maxHeartbeats 4000000 in
theorem k_X11_copies__4_6 {l : Launch} {D : va_G} {a : Nat → Nat} {cI : ClassId} (hI : ∀ σ : St, va_D (AM a) (cM a cI σ)) {σ : St} {x1 x2 x3 : Int32} {r : Int32 × St} (h : f_X11_copies__4_6 σ x1 x2 x3 = some r) : Kc (SM l D a cI) yX11_copies cX11_copies 6 none 0 [Value.ref (a 4), Value.int x1, Value.ref (a 6), Value.int x2, Value.int x3] σ r := by
  refine enter (own := RX11) (o := f_X11_copies__4_6 σ x1 x2 x3) (plainFor_of_name (by decide +kernel)) rfl (Nat.le_of_ble_eq_true rfl) hI wk_X11_copies.1 h (fun Γ hRT => ?_)
  show G _ Γ _ _ _ _ _ _ σ [((0 : Nat), Value.ref (a 4)), ((1 : Nat), Value.int x1), ((2 : Nat), Value.ref (a 6)), ((3 : Nat), Value.int x2), ((4 : Nat), Value.int x3)] 0 []
  unfold f_X11_copies__4_6
  refine g_iconst (pc := 0) (v := 0) dX11_copies_0 (by decide) ?_
  refine g_istore (pc := 1) [1, 2, 3, 4, 5, 0] (lv1 := [(0, Value.ref (a 4)), (1, Value.int x1), (2, Value.ref (a 6)), (3, Value.int x2), (4, Value.int x3), (5, Value.int (0 : Int32))]) dX11_copies_1 (by decide) rfl ?_
  refine g_lq1 (pc := 3) (lf := fun x5 => [((0 : Nat), Value.ref (a 4)), ((1 : Nat), Value.int x1), ((2 : Nat), Value.ref (a 6)), ((3 : Nat), Value.int x2), ((4 : Nat), Value.int x3), ((5 : Nat), Value.int x5)]) (sf := fun x5 => ([] : List Value)) (fun k4 hk4 s6 x5 => ?_) 100000 σ _
  show G _ Γ _ _ _ _ _ _ s6 [((0 : Nat), Value.ref (a 4)), ((1 : Nat), Value.int x1), ((2 : Nat), Value.ref (a 6)), ((3 : Nat), Value.int x2), ((4 : Nat), Value.int x3), ((5 : Nat), Value.int x5)] 3 ([] : List Value)
  refine g_iload (pc := 3) 5 dX11_copies_3 rfl ?_
  refine g_iload (pc := 5) 4 dX11_copies_5 rfl ?_
  refine g_icmp_ge (pc := 7) (tgt := 28) dX11_copies_7 (by decide) ?_ ?_
  · exact g_vret (pc := 28) hRT dX11_copies_28
  · refine g_aload_n (pc := 10) 0 dX11_copies_10 rfl rfl ?_
    refine g_iload_n (pc := 11) 1 dX11_copies_11 rfl rfl ?_
    refine g_iload (pc := 12) 5 dX11_copies_12 rfl ?_
    refine g_iadd (pc := 14) dX11_copies_14 ?_
    refine g_aload_n (pc := 15) 2 dX11_copies_15 rfl rfl ?_
    refine g_iload_n (pc := 16) 3 dX11_copies_16 rfl rfl ?_
    refine g_iload (pc := 17) 5 dX11_copies_17 rfl ?_
    refine g_iadd (pc := 19) dX11_copies_19 ?_
    refine g_iald (pc := 20) 6 cM_6 rfl dX11_copies_20 ?_
    refine g_iast (pc := 21) 4 cM_4 rfl cM_s4 dX11_copies_21 (fun s7 => ?_)
    refine g_iinc (pc := 22) [1, 2, 3, 4, 5, 0] 5 (n1 := 1) (lv1 := fun x8 => [(0, Value.ref (a 4)), (1, Value.int x1), (2, Value.ref (a 6)), (3, Value.int x2), (4, Value.int x3), (5, Value.int x8)]) dX11_copies_22 rfl (by decide) (by decide) (fun _ => rfl) (fun x8 => ?_)
    show G _ Γ _ _ _ _ _ _ _ [(0, Value.ref (a 4)), (1, Value.int x1), (2, Value.ref (a 6)), (3, Value.int x2), (4, Value.int x3), (5, Value.int x8)] (22 + 3) _
    refine g_goto (pc := 25) (tgt := 3) dX11_copies_25 (by decide) ?_
    exact hk4 s7 _
set_option maxRecDepth 100000 in
set_option maxHeartbeats 4000000 in
theorem k_X11_back__0 {l : Launch} {D : va_G} {a : Nat → Nat} {cI : ClassId} (hI : ∀ σ : St, va_D (AM a) (cM a cI σ)) {σ : St} {r : Int32 × St} (h : f_X11_back__0 σ = some r) : Kc (SM l D a cI) yX11_back cX11_back 1 (some .int) 1 [Value.ref (a 0)] σ r := by
  refine enter (own := RX11) (o := f_X11_back__0 σ) (plainFor_of_name (by decide +kernel)) rfl (Nat.le_of_ble_eq_true rfl) hI wk_X11_back.1 h (fun Γ hRT => ?_)
  show G _ Γ _ _ _ _ _ _ σ [((0 : Nat), Value.ref (a 0))] 0 []
  unfold f_X11_back__0
  refine g_aload_n (pc := 0) 0 dX11_back_0 rfl rfl ?_
  refine g_get (pc := 1) 0 cM_0 rfl inlX11 11 (by decide) bw_15_18 rfl dX11_back_1 ?_
  refine g_if_ne (pc := 4) (tgt := 10) dX11_back_4 (by decide) ?_ ?_
  · refine g_aload_n (pc := 10) 0 dX11_back_10 rfl rfl ?_
    refine g_dup (pc := 11) dX11_back_11 rfl ?_
    refine g_get (pc := 12) 0 cM_0 rfl inlX11 11 (by decide) bw_15_18 rfl dX11_back_12 ?_
    refine g_iconst (pc := 15) (v := 1) dX11_back_15 (by decide) ?_
    refine g_isub (pc := 16) dX11_back_16 ?_
    refine g_put (pc := 17) 0 (ty := .int) cM_0 rfl inlX11 tyX11_ok nmX11 11 (by decide) bw_15_18 rfl (by decide +kernel) rfl rfl (Nat.le_of_ble_eq_true rfl) cM_f0_11 dX11_back_17 (fun s1 => ?_)
    refine g_aload_n (pc := 20) 0 dX11_back_20 rfl rfl ?_
    refine g_get (pc := 21) 0 cM_0 rfl inlX11 8 (by decide) bw_14_4 rfl dX11_back_21 ?_
    refine g_iconst (pc := 24) (v := 0) dX11_back_24 (by decide) ?_
    refine g_aload_n (pc := 25) 0 dX11_back_25 rfl rfl ?_
    refine g_get (pc := 26) 0 cM_0 rfl inlX11 12 (by decide) bw_14_6 rfl dX11_back_26 ?_
    refine g_bipush (pc := 29) (v := 22) dX11_back_29 (by decide) ?_
    refine g_aload_n (pc := 31) 0 dX11_back_31 rfl rfl ?_
    refine g_get (pc := 32) 0 cM_0 rfl inlX11 11 (by decide) bw_15_18 rfl dX11_back_32 ?_
    refine g_imul (pc := 35) dX11_back_35 ?_
    refine g_bipush (pc := 36) (v := 22) dX11_back_36 (by decide) ?_
    refine g_cSv (pc := 38) (As := [Value.ref (a 4), Value.int (0 : Int32), Value.ref (a 6), Value.int ((22 : Int32) * (s1 0 11)), Value.int (22 : Int32)]) (fun r2 h2 => k_X11_copies__4_6 hI h2) wk_X11_copies ws_X11_copies bw_15_20 (by decide) (by decide) rfl rfl (Nat.le_of_ble_eq_true rfl) dX11_back_38 (fun r2 s3 => ?_)
    refine g_aload_n (pc := 41) 0 dX11_back_41 rfl rfl ?_
    refine g_iconst (pc := 42) (v := 0) dX11_back_42 (by decide) ?_
    refine g_put (pc := 43) 0 (ty := .int) cM_0 rfl inlX11 tyX11_ok nmX11 9 (by decide) bw_15_17 rfl (by decide +kernel) rfl rfl (Nat.le_of_ble_eq_true rfl) cM_f0_9 dX11_back_43 (fun s4 => ?_)
    refine g_aload_n (pc := 46) 0 dX11_back_46 rfl rfl ?_
    refine g_get (pc := 47) 0 cM_0 rfl inlX11 11 (by decide) bw_15_18 rfl dX11_back_47 ?_
    exact g_iret (pc := 50) hRT dX11_back_50
  · refine g_bipush (pc := 7) (v := -2) dX11_back_7 (by decide) ?_
    exact g_iret (pc := 9) hRT dX11_back_9
set_option maxRecDepth 100000 in
set_option maxHeartbeats 4000000 in
theorem k_X11_count__0 {l : Launch} {D : va_G} {a : Nat → Nat} {cI : ClassId} (hI : ∀ σ : St, va_D (AM a) (cM a cI σ)) {σ : St} {x1 : Int32} {r : Int32 × St} (h : f_X11_count__0 σ x1 = some r) : Kc (SM l D a cI) yX11_count cX11_count 2 (some .int) 2 [Value.ref (a 0), Value.int x1] σ r := by
  refine enter (own := RX11) (o := f_X11_count__0 σ x1) (plainFor_of_name (by decide +kernel)) rfl (Nat.le_of_ble_eq_true rfl) hI wk_X11_count.1 h (fun Γ hRT => ?_)
  show G _ Γ _ _ _ _ _ _ σ [((0 : Nat), Value.ref (a 0)), ((1 : Nat), Value.int x1)] 0 []
  unfold f_X11_count__0
  refine g_aload_n (pc := 0) 0 dX11_count_0 rfl rfl ?_
  refine g_cVv (pc := 1) 0 (As := []) (fun r2 h2 => k_X11_asItIs__0 hI h2) wk_X11_asItIs wv_X11_asItIs bw_20_14 cM_0 rfl (by decide) (by decide) rfl rfl (Nat.le_of_ble_eq_true rfl) dX11_count_1 (fun r2 s3 => ?_)
  refine g_iload_n (pc := 4) 1 dX11_count_4 rfl rfl ?_
  refine g_ite (fun e0_ => ?_) (fun e0_ => ?_)
  · refine g_tableIn (pc := 5) (off := 55) (tgt := 60) dX11_count_5 (by rw [e0_]; decide) (by rw [e0_]; decide) (by rw [e0_]; decide) (by decide) ?_
    refine g_aload_n (pc := 60) 0 dX11_count_60 rfl rfl ?_
    refine g_get (pc := 61) 0 cM_0 rfl inlX11 2 (by decide) bw_15_14 rfl dX11_count_61 ?_
    exact g_iret (pc := 64) hRT dX11_count_64
  · skip
    refine g_ite (fun e1_ => ?_) (fun e1_ => ?_)
    · refine g_tableIn (pc := 5) (off := 60) (tgt := 65) dX11_count_5 (by rw [e1_]; decide) (by rw [e1_]; decide) (by rw [e1_]; decide) (by decide) ?_
      refine g_aload_n (pc := 65) 0 dX11_count_65 rfl rfl ?_
      refine g_get (pc := 66) 0 cM_0 rfl inlX11 0 (by decide) bw_15_12 rfl dX11_count_66 ?_
      exact g_iret (pc := 69) hRT dX11_count_69
    · skip
      refine g_ite (fun e2_ => ?_) (fun e2_ => ?_)
      · refine g_tableIn (pc := 5) (off := 65) (tgt := 70) dX11_count_5 (by rw [e2_]; decide) (by rw [e2_]; decide) (by rw [e2_]; decide) (by decide) ?_
        refine g_aload_n (pc := 70) 0 dX11_count_70 rfl rfl ?_
        refine g_get (pc := 71) 0 cM_0 rfl inlX11 4 (by decide) bw_15_15 rfl dX11_count_71 ?_
        exact g_iret (pc := 74) hRT dX11_count_74
      · skip
        refine g_ite (fun e3_ => ?_) (fun e3_ => ?_)
        · refine g_tableIn (pc := 5) (off := 70) (tgt := 75) dX11_count_5 (by rw [e3_]; decide) (by rw [e3_]; decide) (by rw [e3_]; decide) (by decide) ?_
          refine g_aload_n (pc := 75) 0 dX11_count_75 rfl rfl ?_
          refine g_get (pc := 76) 0 cM_0 rfl inlX11 6 (by decide) bw_15_16 rfl dX11_count_76 ?_
          exact g_iret (pc := 79) hRT dX11_count_79
        · skip
          refine g_ite (fun e4_ => ?_) (fun e4_ => ?_)
          · refine g_tableIn (pc := 5) (off := 75) (tgt := 80) dX11_count_5 (by rw [e4_]; decide) (by rw [e4_]; decide) (by rw [e4_]; decide) (by decide) ?_
            refine g_aload_n (pc := 80) 0 dX11_count_80 rfl rfl ?_
            refine g_get (pc := 81) 0 cM_0 rfl inlX11 8 (by decide) bw_14_4 rfl dX11_count_81 ?_
            refine g_iconst (pc := 84) (v := 0) dX11_count_84 (by decide) ?_
            refine g_iald (pc := 85) 4 cM_4 rfl dX11_count_85 ?_
            exact g_iret (pc := 86) hRT dX11_count_86
          · skip
            refine g_ite (fun e5_ => ?_) (fun e5_ => ?_)
            · refine g_tableIn (pc := 5) (off := 82) (tgt := 87) dX11_count_5 (by rw [e5_]; decide) (by rw [e5_]; decide) (by rw [e5_]; decide) (by decide) ?_
              refine g_aload_n (pc := 87) 0 dX11_count_87 rfl rfl ?_
              refine g_cVi (pc := 88) 0 (As := []) (fun r2 h2 => k_X11_knowers__0 hI h2) wk_X11_knowers wv_X11_knowers bw_44_11 cM_0 rfl (by decide) (by decide) rfl rfl (Nat.le_of_ble_eq_true rfl) dX11_count_88 (fun r5 s6 => ?_)
              exact g_iret (pc := 91) hRT dX11_count_91
            · skip
              refine g_ite (fun e6_ => ?_) (fun e6_ => ?_)
              · refine g_tableIn (pc := 5) (off := 87) (tgt := 92) dX11_count_5 (by rw [e6_]; decide) (by rw [e6_]; decide) (by rw [e6_]; decide) (by decide) ?_
                refine g_aload_n (pc := 92) 0 dX11_count_92 rfl rfl ?_
                refine g_get (pc := 93) 0 cM_0 rfl inlX11 13 (by decide) bw_15_19 rfl dX11_count_93 ?_
                exact g_iret (pc := 96) hRT dX11_count_96
              · skip
                refine g_ite (fun e7_ => ?_) (fun e7_ => ?_)
                · refine g_tableIn (pc := 5) (off := 92) (tgt := 97) dX11_count_5 (by rw [e7_]; decide) (by rw [e7_]; decide) (by rw [e7_]; decide) (by decide) ?_
                  refine g_aload_n (pc := 97) 0 dX11_count_97 rfl rfl ?_
                  refine g_get (pc := 98) 0 cM_0 rfl inlX11 9 (by decide) bw_15_17 rfl dX11_count_98 ?_
                  exact g_iret (pc := 101) hRT dX11_count_101
                · skip
                  refine g_ite (fun e8_ => ?_) (fun e8_ => ?_)
                  · refine g_tableIn (pc := 5) (off := 97) (tgt := 102) dX11_count_5 (by rw [e8_]; decide) (by rw [e8_]; decide) (by rw [e8_]; decide) (by decide) ?_
                    refine g_aload_n (pc := 102) 0 dX11_count_102 rfl rfl ?_
                    refine g_get (pc := 103) 0 cM_0 rfl inlX11 11 (by decide) bw_15_18 rfl dX11_count_103 ?_
                    exact g_iret (pc := 106) hRT dX11_count_106
                  · skip
                    refine g_ite (fun e9_ => ?_) (fun e9_ => ?_)
                    · refine g_tableIn (pc := 5) (off := 102) (tgt := 107) dX11_count_5 (by rw [e9_]; decide) (by rw [e9_]; decide) (by rw [e9_]; decide) (by decide) ?_
                      refine g_aload_n (pc := 107) 0 dX11_count_107 rfl rfl ?_
                      refine g_get (pc := 108) 0 cM_0 rfl inlX11 16 (by decide) bw_16_8 rfl dX11_count_108 ?_
                      exact g_iret (pc := 111) hRT dX11_count_111
                    · skip
                      have hx_w4 : x1.toInt < 0 ∨ 9 < x1.toInt := by
                        have n0_ : x1.toInt ≠ 0 := fun q => e0_ (Int32.toInt_inj.mp (q.trans (by decide)))
                        have n1_ : x1.toInt ≠ 1 := fun q => e1_ (Int32.toInt_inj.mp (q.trans (by decide)))
                        have n2_ : x1.toInt ≠ 2 := fun q => e2_ (Int32.toInt_inj.mp (q.trans (by decide)))
                        have n3_ : x1.toInt ≠ 3 := fun q => e3_ (Int32.toInt_inj.mp (q.trans (by decide)))
                        have n4_ : x1.toInt ≠ 4 := fun q => e4_ (Int32.toInt_inj.mp (q.trans (by decide)))
                        have n5_ : x1.toInt ≠ 5 := fun q => e5_ (Int32.toInt_inj.mp (q.trans (by decide)))
                        have n6_ : x1.toInt ≠ 6 := fun q => e6_ (Int32.toInt_inj.mp (q.trans (by decide)))
                        have n7_ : x1.toInt ≠ 7 := fun q => e7_ (Int32.toInt_inj.mp (q.trans (by decide)))
                        have n8_ : x1.toInt ≠ 8 := fun q => e8_ (Int32.toInt_inj.mp (q.trans (by decide)))
                        have n9_ : x1.toInt ≠ 9 := fun q => e9_ (Int32.toInt_inj.mp (q.trans (by decide)))
                        omega
                      refine g_tableOut (pc := 5) (tgt := 112) dX11_count_5 hx_w4 (by decide) ?_
                      refine g_iconst (pc := 112) (v := -1) dX11_count_112 (by decide) ?_
                      exact g_iret (pc := 113) hRT dX11_count_113
