set_option maxRecDepth 100000 in
set_option maxHeartbeats 4000000 in
theorem k_X10_within {l : Launch} {D : va_G} {a : Nat → Nat} {cI cS : ClassId} (hI : ∀ σ : St, va_D (AN a) (cN a cI cS σ)) {σ : St} {x1 x2 x3 : Int32} {r : Int32 × St} (h : f_X10_within σ x1 x2 x3 = some r) : Kc (SN l D a cI cS) yX10_within cX10_within 3 (some .boolean) 0 [Value.int x1, Value.int x2, Value.int x3] σ r := by
  refine enter (own := RX10) (o := f_X10_within σ x1 x2 x3) (plainFor_of_name (by decide +kernel)) rfl (Nat.le_of_ble_eq_true rfl) hI wk_X10_within.1 h (fun Γ hRT => ?_)
  show G _ Γ _ _ _ _ _ _ σ [((0 : Nat), Value.int x1), ((1 : Nat), Value.int x2), ((2 : Nat), Value.int x3)] 0 []
  unfold f_X10_within
  refine g_jq0 (pc2 := 14) (lf := ([] : List (Nat × Value))) (sf := ([] : List Value)) (fun s5 => ?_) (fun k4 hk4 => ?_)
  · show G _ Γ _ _ _ _ _ _ s5 ([] : List (Nat × Value)) 14 ([] : List Value)
    refine g_iconst (pc := 14) (v := 0) dX10_within_14 (by decide) ?_
    exact g_zret1 (pc := 15) hRT (by decide) dX10_within_15
  · refine g_iload_n (pc := 0) 0 dX10_within_0 rfl rfl ?_
    refine g_iload_n (pc := 1) 1 dX10_within_1 rfl rfl ?_
    refine g_icmp_lt (pc := 2) (tgt := 14) dX10_within_2 (by decide) ?_ ?_
    · exact g_lv [] rfl (hk4 σ)
    · refine g_iload_n (pc := 5) 0 dX10_within_5 rfl rfl ?_
      refine g_iload_n (pc := 6) 2 dX10_within_6 rfl rfl ?_
      refine g_icmp_gt (pc := 7) (tgt := 14) dX10_within_7 (by decide) ?_ ?_
      · exact g_lv [] rfl (hk4 σ)
      · refine g_iconst (pc := 10) (v := 1) dX10_within_10 (by decide) ?_
        refine g_goto (pc := 11) (tgt := 15) dX10_within_11 (by decide) ?_
        exact g_zret1 (pc := 15) hRT (by decide) dX10_within_15
set_option maxRecDepth 100000 in
set_option maxHeartbeats 4000000 in
theorem k_X10_put__2 {l : Launch} {D : va_G} {a : Nat → Nat} {cI cS : ClassId} (hI : ∀ σ : St, va_D (AN a) (cN a cI cS σ)) {σ : St} {x1 x2 : Int32} {r : Int32 × St} (h : f_X10_put__2 σ x1 x2 = some r) : Kc (SN l D a cI cS) yX10_put cX10_put 3 none 0 [Value.ref (a 2), Value.int x1, Value.int x2] σ r := by
  refine enter (own := RX10) (o := f_X10_put__2 σ x1 x2) (plainFor_of_name (by decide +kernel)) rfl (Nat.le_of_ble_eq_true rfl) hI wk_X10_put.1 h (fun Γ hRT => ?_)
  show G _ Γ _ _ _ _ _ _ σ [((0 : Nat), Value.ref (a 2)), ((1 : Nat), Value.int x1), ((2 : Nat), Value.int x2)] 0 []
  unfold f_X10_put__2
  refine g_aload_n (pc := 0) 0 dX10_put_0 rfl rfl ?_
  refine g_ifnull (pc := 1) dX10_put_1 ?_
  refine g_iload_n (pc := 4) 1 dX10_put_4 rfl rfl ?_
  refine g_if_lt (pc := 5) (tgt := 18) dX10_put_5 (by decide) ?_ ?_
  · exact g_vret (pc := 18) hRT dX10_put_18
  · refine g_iload_n (pc := 8) 1 dX10_put_8 rfl rfl ?_
    refine g_aload_n (pc := 9) 0 dX10_put_9 rfl rfl ?_
    refine g_alen (pc := 10) 2 0 (v := 200) cN_2 rfl (show Int32.ofNat 200 = 200 by decide) dX10_put_10 ?_
    refine g_icmp_ge (pc := 11) (tgt := 18) dX10_put_11 (by decide) ?_ ?_
    · exact g_vret (pc := 18) hRT dX10_put_18
    · refine g_aload_n (pc := 14) 0 dX10_put_14 rfl rfl ?_
      refine g_iload_n (pc := 15) 1 dX10_put_15 rfl rfl ?_
      refine g_iload_n (pc := 16) 2 dX10_put_16 rfl rfl ?_
      refine g_iast (pc := 17) 2 cN_2 rfl cN_s2 dX10_put_17 (fun s3 => ?_)
      exact g_vret (pc := 18) hRT dX10_put_18
set_option maxRecDepth 100000 in
set_option maxHeartbeats 4000000 in
theorem k_X7_add__1 {l : Launch} {D : va_G} {a : Nat → Nat} {cI cS : ClassId} (hI : ∀ σ : St, va_D (AN a) (cN a cI cS σ)) {σ : St} {x1 : Int32} {r : Int32 × St} (h : f_X7_add__1 σ x1 = some r) : Kc (SN l D a cI cS) yX7_add cX7_add 2 (some .boolean) 1 [Value.ref (a 1), Value.int x1] σ r := by
  refine enter (own := RX7) (o := f_X7_add__1 σ x1) (plainFor_of_name (by decide +kernel)) rfl (Nat.le_of_ble_eq_true rfl) hI wk_X7_add.1 h (fun Γ hRT => ?_)
  show G _ Γ _ _ _ _ _ _ σ [((0 : Nat), Value.ref (a 1)), ((1 : Nat), Value.int x1)] 0 []
  unfold f_X7_add__1
  refine g_aload_n (pc := 0) 0 dX7_add_0 rfl rfl ?_
  refine g_get (pc := 1) 1 cN_1 rfl inlX7 1 (by decide) bw_3_11 rfl dX7_add_1 ?_
  refine g_sipush (pc := 4) (v := 200) dX7_add_4 (by decide) ?_
  refine g_icmp_lt (pc := 7) (tgt := 12) dX7_add_7 (by decide) ?_ ?_
  · refine g_aload_n (pc := 12) 0 dX7_add_12 rfl rfl ?_
    refine g_get (pc := 13) 1 cN_1 rfl inlX7 0 (by decide) bw_3_10 rfl dX7_add_13 ?_
    refine g_aload_n (pc := 16) 0 dX7_add_16 rfl rfl ?_
    refine g_get (pc := 17) 1 cN_1 rfl inlX7 1 (by decide) bw_3_11 rfl dX7_add_17 ?_
    refine g_iload_n (pc := 20) 1 dX7_add_20 rfl rfl ?_
    refine g_cNv (pc := 21) (As := [Value.ref (a 2), Value.int (σ 1 1), Value.int x1]) (fun r2 h2 => k_X10_put__2 hI h2) wk_X10_put ws_X10_put nst_RX7_19 (by decide) (by decide) rfl rfl (Nat.le_of_ble_eq_true rfl) dX7_add_21 (fun r2 s3 => ?_)
    refine g_aload_n (pc := 24) 0 dX7_add_24 rfl rfl ?_
    refine g_dup (pc := 25) dX7_add_25 rfl ?_
    refine g_get (pc := 26) 1 cN_1 rfl inlX7 1 (by decide) bw_3_11 rfl dX7_add_26 ?_
    refine g_iconst (pc := 29) (v := 1) dX7_add_29 (by decide) ?_
    refine g_iadd (pc := 30) dX7_add_30 ?_
    refine g_put (pc := 31) 1 (ty := .int) cN_1 rfl inlX7 tyX7_ok nmX7 1 (by decide) bw_3_11 rfl (by decide +kernel) rfl rfl (Nat.le_of_ble_eq_true rfl) cN_f1_1 dX7_add_31 (fun s4 => ?_)
    refine g_iconst (pc := 34) (v := 1) dX7_add_34 (by decide) ?_
    exact g_zret1 (pc := 35) hRT (by decide) dX7_add_35
  · refine g_iconst (pc := 10) (v := 0) dX7_add_10 (by decide) ?_
    exact g_zret1 (pc := 11) hRT (by decide) dX7_add_11
set_option maxRecDepth 100000 in
set_option maxHeartbeats 4000000 in
theorem k_X7_length__1 {l : Launch} {D : va_G} {a : Nat → Nat} {cI cS : ClassId} (hI : ∀ σ : St, va_D (AN a) (cN a cI cS σ)) {σ : St} {r : Int32 × St} (h : f_X7_length__1 σ = some r) : Kc (SN l D a cI cS) yX7_length cX7_length 1 (some .int) 0 [Value.ref (a 1)] σ r := by
  refine enter (own := RX7) (o := f_X7_length__1 σ) (plainFor_of_name (by decide +kernel)) rfl (Nat.le_of_ble_eq_true rfl) hI wk_X7_length.1 h (fun Γ hRT => ?_)
  show G _ Γ _ _ _ _ _ _ σ [((0 : Nat), Value.ref (a 1))] 0 []
  unfold f_X7_length__1
  refine g_aload_n (pc := 0) 0 dX7_length_0 rfl rfl ?_
  refine g_get (pc := 1) 1 cN_1 rfl inlX7 1 (by decide) bw_3_11 rfl dX7_length_1 ?_
  exact g_iret (pc := 4) hRT dX7_length_4
set_option maxRecDepth 100000 in
set_option maxHeartbeats 4000000 in
theorem k_X10_write__0 {l : Launch} {D : va_G} {a : Nat → Nat} {cI cS : ClassId} (hI : ∀ σ : St, va_D (AN a) (cN a cI cS σ)) {σ : St} {x1 : Int32} {r : Int32 × St} (h : f_X10_write__0 σ x1 = some r) : Kc (SN l D a cI cS) yX10_write cX10_write 2 (some .int) 2 [Value.ref (a 0), Value.int x1] σ r := by
  refine enter (own := RX10) (o := f_X10_write__0 σ x1) (plainFor_of_name (by decide +kernel)) rfl (Nat.le_of_ble_eq_true rfl) hI wk_X10_write.1 h (fun Γ hRT => ?_)
  show G _ Γ _ _ _ _ _ _ σ [((0 : Nat), Value.ref (a 0)), ((1 : Nat), Value.int x1)] 0 []
  unfold f_X10_write__0
  refine g_iload_n (pc := 0) 1 dX10_write_0 rfl rfl ?_
  refine g_bipush (pc := 1) (v := 32) dX10_write_1 (by decide) ?_
  refine g_bipush (pc := 3) (v := 126) dX10_write_3 (by decide) ?_
  refine g_cSz (pc := 5) (As := [Value.int x1, Value.int (32 : Int32), Value.int (126 : Int32)]) (fun r2 h2 => k_X10_within hI h2) wk_X10_within ws_X10_within bw_12_4 (by decide) (by decide) rfl rfl (Nat.le_of_ble_eq_true rfl) dX10_write_5 (fun r2 s3 => ?_)
  refine g_if_ne (pc := 8) (tgt := 13) dX10_write_8 (by decide) ?_ ?_
  · refine g_aload_n (pc := 13) 0 dX10_write_13 rfl rfl ?_
    refine g_get (pc := 14) 0 cN_0 rfl inlX10 0 (by decide) bw_1_15 rfl dX10_write_14 ?_
    refine g_iload_n (pc := 17) 1 dX10_write_17 rfl rfl ?_
    refine g_cVz (pc := 18) 1 (As := [Value.int x1]) (fun r2 h2 => k_X7_add__1 hI h2) wk_X7_add wv_X7_add bw_9_9 cN_1 rfl (by decide) (by decide) rfl rfl (Nat.le_of_ble_eq_true rfl) dX10_write_18 (fun r4 s5 => ?_)
    refine g_if_eq (pc := 21) (tgt := 34) dX10_write_21 (by decide) ?_ ?_
    · refine g_bipush (pc := 34) (v := -3) dX10_write_34 (by decide) ?_
      exact g_iret (pc := 36) hRT dX10_write_36
    · refine g_aload_n (pc := 24) 0 dX10_write_24 rfl rfl ?_
      refine g_get (pc := 25) 0 cN_0 rfl inlX10 0 (by decide) bw_1_15 rfl dX10_write_25 ?_
      refine g_cVi (pc := 28) 1 (As := []) (fun r2 h2 => k_X7_length__1 hI h2) wk_X7_length wv_X7_length bw_16_3 cN_1 rfl (by decide) (by decide) rfl rfl (Nat.le_of_ble_eq_true rfl) dX10_write_28 (fun r6 s7 => ?_)
      refine g_goto (pc := 31) (tgt := 36) dX10_write_31 (by decide) ?_
      exact g_iret (pc := 36) hRT dX10_write_36
  · refine g_iconst (pc := 11) (v := -1) dX10_write_11 (by decide) ?_
    exact g_iret (pc := 12) hRT dX10_write_12
set_option maxRecDepth 100000 in
set_option maxHeartbeats 4000000 in
theorem k_X7_clear__1 {l : Launch} {D : va_G} {a : Nat → Nat} {cI cS : ClassId} (hI : ∀ σ : St, va_D (AN a) (cN a cI cS σ)) {σ : St} {r : Int32 × St} (h : f_X7_clear__1 σ = some r) : Kc (SN l D a cI cS) yX7_clear cX7_clear 1 none 0 [Value.ref (a 1)] σ r := by
  refine enter (own := RX7) (o := f_X7_clear__1 σ) (plainFor_of_name (by decide +kernel)) rfl (Nat.le_of_ble_eq_true rfl) hI wk_X7_clear.1 h (fun Γ hRT => ?_)
  show G _ Γ _ _ _ _ _ _ σ [((0 : Nat), Value.ref (a 1))] 0 []
  unfold f_X7_clear__1
  refine g_aload_n (pc := 0) 0 dX7_clear_0 rfl rfl ?_
  refine g_iconst (pc := 1) (v := 0) dX7_clear_1 (by decide) ?_
  refine g_put (pc := 2) 1 (ty := .int) cN_1 rfl inlX7 tyX7_ok nmX7 1 (by decide) bw_3_11 rfl (by decide +kernel) rfl rfl (Nat.le_of_ble_eq_true rfl) cN_f1_1 dX7_clear_2 (fun s1 => ?_)
  exact g_vret (pc := 5) hRT dX7_clear_5
set_option maxRecDepth 100000 in
set_option maxHeartbeats 4000000 in
theorem k_X10_wipe__0 {l : Launch} {D : va_G} {a : Nat → Nat} {cI cS : ClassId} (hI : ∀ σ : St, va_D (AN a) (cN a cI cS σ)) {σ : St} {r : Int32 × St} (h : f_X10_wipe__0 σ = some r) : Kc (SN l D a cI cS) yX10_wipe cX10_wipe 2 (some .int) 1 [Value.ref (a 0)] σ r := by
  refine enter (own := RX10) (o := f_X10_wipe__0 σ) (plainFor_of_name (by decide +kernel)) rfl (Nat.le_of_ble_eq_true rfl) hI wk_X10_wipe.1 h (fun Γ hRT => ?_)
  show G _ Γ _ _ _ _ _ _ σ [((0 : Nat), Value.ref (a 0))] 0 []
  unfold f_X10_wipe__0
  refine g_aload_n (pc := 0) 0 dX10_wipe_0 rfl rfl ?_
  refine g_get (pc := 1) 0 cN_0 rfl inlX10 0 (by decide) bw_1_15 rfl dX10_wipe_1 ?_
  refine g_cVi (pc := 4) 1 (As := []) (fun r2 h2 => k_X7_length__1 hI h2) wk_X7_length wv_X7_length bw_16_3 cN_1 rfl (by decide) (by decide) rfl rfl (Nat.le_of_ble_eq_true rfl) dX10_wipe_4 (fun r1 s2 => ?_)
  refine g_istore_n (pc := 7) [1, 0] (lv1 := [(0, Value.ref (a 0)), (1, Value.int r1)]) dX10_wipe_7 rfl (by decide) rfl ?_
  refine g_aload_n (pc := 8) 0 dX10_wipe_8 rfl rfl ?_
  refine g_get (pc := 9) 0 cN_0 rfl inlX10 0 (by decide) bw_1_15 rfl dX10_wipe_9 ?_
  refine g_cVv (pc := 12) 1 (As := []) (fun r2 h2 => k_X7_clear__1 hI h2) wk_X7_clear wv_X7_clear bw_13_17 cN_1 rfl (by decide) (by decide) rfl rfl (Nat.le_of_ble_eq_true rfl) dX10_wipe_12 (fun r3 s4 => ?_)
  refine g_iload_n (pc := 15) 1 dX10_wipe_15 rfl rfl ?_
  exact g_iret (pc := 16) hRT dX10_wipe_16
set_option maxRecDepth 100000 in
set_option maxHeartbeats 4000000 in
theorem k_X10_fill__6 {l : Launch} {D : va_G} {a : Nat → Nat} {cI cS : ClassId} (hI : ∀ σ : St, va_D (AN a) (cN a cI cS σ)) {σ : St} {x1 : Int32} {r : Int32 × St} (h : f_X10_fill__6 σ x1 = some r) : Kc (SN l D a cI cS) yX10_fill cX10_fill 3 none 0 [Value.ref (a 6), Value.int x1] σ r := by
  refine enter (own := RX10) (o := f_X10_fill__6 σ x1) (plainFor_of_name (by decide +kernel)) rfl (Nat.le_of_ble_eq_true rfl) hI wk_X10_fill.1 h (fun Γ hRT => ?_)
  show G _ Γ _ _ _ _ _ _ σ [((0 : Nat), Value.ref (a 6)), ((1 : Nat), Value.int x1)] 0 []
  unfold f_X10_fill__6
  refine g_iconst (pc := 0) (v := 0) dX10_fill_0 (by decide) ?_
  refine g_istore_n (pc := 1) [1, 2, 0] (lv1 := [(0, Value.ref (a 6)), (1, Value.int x1), (2, Value.int (0 : Int32))]) dX10_fill_1 rfl (by decide) rfl ?_
  refine g_lq1 (pc := 2) (lf := fun x3 => [((0 : Nat), Value.ref (a 6)), ((1 : Nat), Value.int x1), ((2 : Nat), Value.int x3)]) (sf := fun x3 => ([] : List Value)) (fun k2 hk2 s4 x3 => ?_) 100000 σ _
  show G _ Γ _ _ _ _ _ _ s4 [((0 : Nat), Value.ref (a 6)), ((1 : Nat), Value.int x1), ((2 : Nat), Value.int x3)] 2 ([] : List Value)
  refine g_aload_n (pc := 2) 0 dX10_fill_2 rfl rfl ?_
  refine g_ifnull (pc := 3) dX10_fill_3 ?_
  refine g_iload_n (pc := 6) 2 dX10_fill_6 rfl rfl ?_
  refine g_aload_n (pc := 7) 0 dX10_fill_7 rfl rfl ?_
  refine g_alen (pc := 8) 6 0 (v := 16) cN_6 rfl (show Int32.ofNat 16 = 16 by decide) dX10_fill_8 ?_
  refine g_icmp_ge (pc := 9) (tgt := 22) dX10_fill_9 (by decide) ?_ ?_
  · exact g_vret (pc := 22) hRT dX10_fill_22
  · refine g_aload_n (pc := 12) 0 dX10_fill_12 rfl rfl ?_
    refine g_iload_n (pc := 13) 2 dX10_fill_13 rfl rfl ?_
    refine g_iload_n (pc := 14) 1 dX10_fill_14 rfl rfl ?_
    refine g_iast (pc := 15) 6 cN_6 rfl cN_s6 dX10_fill_15 (fun s5 => ?_)
    refine g_iinc (pc := 16) [1, 2, 0] 2 (n1 := 1) (lv1 := fun x6 => [(0, Value.ref (a 6)), (1, Value.int x1), (2, Value.int x6)]) dX10_fill_16 rfl (by decide) (by decide) (fun _ => rfl) (fun x6 => ?_)
    show G _ Γ _ _ _ _ _ _ _ [(0, Value.ref (a 6)), (1, Value.int x1), (2, Value.int x6)] (16 + 3) _
    refine g_goto (pc := 19) (tgt := 2) dX10_fill_19 (by decide) ?_
    exact hk2 s5 _
set_option maxRecDepth 100000 in
set_option maxHeartbeats 4000000 in
theorem k_X10_fill__7 {l : Launch} {D : va_G} {a : Nat → Nat} {cI cS : ClassId} (hI : ∀ σ : St, va_D (AN a) (cN a cI cS σ)) {σ : St} {x1 : Int32} {r : Int32 × St} (h : f_X10_fill__7 σ x1 = some r) : Kc (SN l D a cI cS) yX10_fill cX10_fill 3 none 0 [Value.ref (a 7), Value.int x1] σ r := by
  refine enter (own := RX10) (o := f_X10_fill__7 σ x1) (plainFor_of_name (by decide +kernel)) rfl (Nat.le_of_ble_eq_true rfl) hI wk_X10_fill.1 h (fun Γ hRT => ?_)
  show G _ Γ _ _ _ _ _ _ σ [((0 : Nat), Value.ref (a 7)), ((1 : Nat), Value.int x1)] 0 []
  unfold f_X10_fill__7
  refine g_iconst (pc := 0) (v := 0) dX10_fill_0 (by decide) ?_
  refine g_istore_n (pc := 1) [1, 2, 0] (lv1 := [(0, Value.ref (a 7)), (1, Value.int x1), (2, Value.int (0 : Int32))]) dX10_fill_1 rfl (by decide) rfl ?_
  refine g_lq1 (pc := 2) (lf := fun x3 => [((0 : Nat), Value.ref (a 7)), ((1 : Nat), Value.int x1), ((2 : Nat), Value.int x3)]) (sf := fun x3 => ([] : List Value)) (fun k2 hk2 s4 x3 => ?_) 100000 σ _
  show G _ Γ _ _ _ _ _ _ s4 [((0 : Nat), Value.ref (a 7)), ((1 : Nat), Value.int x1), ((2 : Nat), Value.int x3)] 2 ([] : List Value)
  refine g_aload_n (pc := 2) 0 dX10_fill_2 rfl rfl ?_
  refine g_ifnull (pc := 3) dX10_fill_3 ?_
  refine g_iload_n (pc := 6) 2 dX10_fill_6 rfl rfl ?_
  refine g_aload_n (pc := 7) 0 dX10_fill_7 rfl rfl ?_
  refine g_alen (pc := 8) 7 0 (v := 16) cN_7 rfl (show Int32.ofNat 16 = 16 by decide) dX10_fill_8 ?_
  refine g_icmp_ge (pc := 9) (tgt := 22) dX10_fill_9 (by decide) ?_ ?_
  · exact g_vret (pc := 22) hRT dX10_fill_22
  · refine g_aload_n (pc := 12) 0 dX10_fill_12 rfl rfl ?_
    refine g_iload_n (pc := 13) 2 dX10_fill_13 rfl rfl ?_
    refine g_iload_n (pc := 14) 1 dX10_fill_14 rfl rfl ?_
    refine g_iast (pc := 15) 7 cN_7 rfl cN_s7 dX10_fill_15 (fun s5 => ?_)
    refine g_iinc (pc := 16) [1, 2, 0] 2 (n1 := 1) (lv1 := fun x6 => [(0, Value.ref (a 7)), (1, Value.int x1), (2, Value.int x6)]) dX10_fill_16 rfl (by decide) (by decide) (fun _ => rfl) (fun x6 => ?_)
    show G _ Γ _ _ _ _ _ _ _ [(0, Value.ref (a 7)), (1, Value.int x1), (2, Value.int x6)] (16 + 3) _
    refine g_goto (pc := 19) (tgt := 2) dX10_fill_19 (by decide) ?_
    exact hk2 s5 _
set_option maxRecDepth 100000 in
set_option maxHeartbeats 4000000 in
theorem k_X10_fill__11 {l : Launch} {D : va_G} {a : Nat → Nat} {cI cS : ClassId} (hI : ∀ σ : St, va_D (AN a) (cN a cI cS σ)) {σ : St} {x1 : Int32} {r : Int32 × St} (h : f_X10_fill__11 σ x1 = some r) : Kc (SN l D a cI cS) yX10_fill cX10_fill 3 none 0 [Value.ref (a 11), Value.int x1] σ r := by
  refine enter (own := RX10) (o := f_X10_fill__11 σ x1) (plainFor_of_name (by decide +kernel)) rfl (Nat.le_of_ble_eq_true rfl) hI wk_X10_fill.1 h (fun Γ hRT => ?_)
  show G _ Γ _ _ _ _ _ _ σ [((0 : Nat), Value.ref (a 11)), ((1 : Nat), Value.int x1)] 0 []
  unfold f_X10_fill__11
  refine g_iconst (pc := 0) (v := 0) dX10_fill_0 (by decide) ?_
  refine g_istore_n (pc := 1) [1, 2, 0] (lv1 := [(0, Value.ref (a 11)), (1, Value.int x1), (2, Value.int (0 : Int32))]) dX10_fill_1 rfl (by decide) rfl ?_
  refine g_lq1 (pc := 2) (lf := fun x3 => [((0 : Nat), Value.ref (a 11)), ((1 : Nat), Value.int x1), ((2 : Nat), Value.int x3)]) (sf := fun x3 => ([] : List Value)) (fun k2 hk2 s4 x3 => ?_) 100000 σ _
  show G _ Γ _ _ _ _ _ _ s4 [((0 : Nat), Value.ref (a 11)), ((1 : Nat), Value.int x1), ((2 : Nat), Value.int x3)] 2 ([] : List Value)
  refine g_aload_n (pc := 2) 0 dX10_fill_2 rfl rfl ?_
  refine g_ifnull (pc := 3) dX10_fill_3 ?_
  refine g_iload_n (pc := 6) 2 dX10_fill_6 rfl rfl ?_
  refine g_aload_n (pc := 7) 0 dX10_fill_7 rfl rfl ?_
  refine g_alen (pc := 8) 11 0 (v := 8) cN_11 rfl (show Int32.ofNat 8 = 8 by decide) dX10_fill_8 ?_
  refine g_icmp_ge (pc := 9) (tgt := 22) dX10_fill_9 (by decide) ?_ ?_
  · exact g_vret (pc := 22) hRT dX10_fill_22
  · refine g_aload_n (pc := 12) 0 dX10_fill_12 rfl rfl ?_
    refine g_iload_n (pc := 13) 2 dX10_fill_13 rfl rfl ?_
    refine g_iload_n (pc := 14) 1 dX10_fill_14 rfl rfl ?_
    refine g_iast (pc := 15) 11 cN_11 rfl cN_s11 dX10_fill_15 (fun s5 => ?_)
    refine g_iinc (pc := 16) [1, 2, 0] 2 (n1 := 1) (lv1 := fun x6 => [(0, Value.ref (a 11)), (1, Value.int x1), (2, Value.int x6)]) dX10_fill_16 rfl (by decide) (by decide) (fun _ => rfl) (fun x6 => ?_)
    show G _ Γ _ _ _ _ _ _ _ [(0, Value.ref (a 11)), (1, Value.int x1), (2, Value.int x6)] (16 + 3) _
    refine g_goto (pc := 19) (tgt := 2) dX10_fill_19 (by decide) ?_
    exact hk2 s5 _
set_option maxRecDepth 100000 in
set_option maxHeartbeats 4000000 in
theorem k_X10_bit {l : Launch} {D : va_G} {a : Nat → Nat} {cI cS : ClassId} (hI : ∀ σ : St, va_D (AN a) (cN a cI cS σ)) {σ : St} {x1 : Int32} {r : Int32 × St} (h : f_X10_bit σ x1 = some r) : Kc (SN l D a cI cS) yX10_bit cX10_bit 1 (some .int) 0 [Value.int x1] σ r := by
  refine enter (own := RX10) (o := f_X10_bit σ x1) (plainFor_of_name (by decide +kernel)) rfl (Nat.le_of_ble_eq_true rfl) hI wk_X10_bit.1 h (fun Γ hRT => ?_)
  show G _ Γ _ _ _ _ _ _ σ [((0 : Nat), Value.int x1)] 0 []
  unfold f_X10_bit
  refine g_jq0 (pc2 := 16) (lf := ([] : List (Nat × Value))) (sf := ([] : List Value)) (fun s3 => ?_) (fun k2 hk2 => ?_)
  · show G _ Γ _ _ _ _ _ _ s3 ([] : List (Nat × Value)) 16 ([] : List Value)
    refine g_iconst (pc := 16) (v := 0) dX10_bit_16 (by decide) ?_
    exact g_iret (pc := 17) hRT dX10_bit_17
  · refine g_iload_n (pc := 0) 0 dX10_bit_0 rfl rfl ?_
    refine g_if_lt (pc := 1) (tgt := 16) dX10_bit_1 (by decide) ?_ ?_
    · exact g_lv [] rfl (hk2 σ)
    · refine g_iload_n (pc := 4) 0 dX10_bit_4 rfl rfl ?_
      refine g_bipush (pc := 5) (v := 16) dX10_bit_5 (by decide) ?_
      refine g_icmp_ge (pc := 7) (tgt := 16) dX10_bit_7 (by decide) ?_ ?_
      · exact g_lv [] rfl (hk2 σ)
      · refine g_iconst (pc := 10) (v := 1) dX10_bit_10 (by decide) ?_
        refine g_iload_n (pc := 11) 0 dX10_bit_11 rfl rfl ?_
        refine g_ishl (pc := 12) dX10_bit_12 ?_
        refine g_goto (pc := 13) (tgt := 17) dX10_bit_13 (by decide) ?_
        exact g_iret (pc := 17) hRT dX10_bit_17
set_option maxRecDepth 100000 in
set_option maxHeartbeats 4000000 in
theorem k_X4_takeGrid__5 {l : Launch} {D : va_G} {a : Nat → Nat} {cI cS : ClassId} (hI : ∀ σ : St, va_D (AN a) (cN a cI cS σ)) {σ : St} {x1 x2 : Int32} {r : Int32 × St} (h : f_X4_takeGrid__5 σ x1 x2 = some r) : Kc (SN l D a cI cS) yX4_takeGrid cX4_takeGrid 4 (some .boolean) 1 [Value.ref (a 5), Value.int x1, Value.int x2] σ r := by
  refine enter (own := RX4) (o := f_X4_takeGrid__5 σ x1 x2) (plainFor_of_name (by decide +kernel)) rfl (Nat.le_of_ble_eq_true rfl) hI wk_X4_takeGrid.1 h (fun Γ hRT => ?_)
  show G _ Γ _ _ _ _ _ _ σ [((0 : Nat), Value.ref (a 5)), ((1 : Nat), Value.int x1), ((2 : Nat), Value.int x2)] 0 []
  unfold f_X4_takeGrid__5
  refine g_iload_n (pc := 0) 1 dX4_takeGrid_0 rfl rfl ?_
  refine g_iconst (pc := 1) (v := 1) dX4_takeGrid_1 (by decide) ?_
  refine g_iconst (pc := 2) (v := 4) dX4_takeGrid_2 (by decide) ?_
  refine g_cNz (pc := 3) (As := [Value.int x1, Value.int (1 : Int32), Value.int (4 : Int32)]) (fun r2 h2 => k_X10_within hI h2) wk_X10_within ws_X10_within nst_RX4_76 (by decide) (by decide) rfl rfl (Nat.le_of_ble_eq_true rfl) dX4_takeGrid_3 (fun r3 s4 => ?_)
  refine g_if_eq (pc := 6) (tgt := 18) dX4_takeGrid_6 (by decide) ?_ ?_
  · refine g_iconst (pc := 18) (v := 0) dX4_takeGrid_18 (by decide) ?_
    exact g_zret1 (pc := 19) hRT (by decide) dX4_takeGrid_19
  · refine g_iload_n (pc := 9) 2 dX4_takeGrid_9 rfl rfl ?_
    refine g_iconst (pc := 10) (v := 1) dX4_takeGrid_10 (by decide) ?_
    refine g_iconst (pc := 11) (v := 4) dX4_takeGrid_11 (by decide) ?_
    refine g_cNz (pc := 12) (As := [Value.int x2, Value.int (1 : Int32), Value.int (4 : Int32)]) (fun r2 h2 => k_X10_within hI h2) wk_X10_within ws_X10_within nst_RX4_76 (by decide) (by decide) rfl rfl (Nat.le_of_ble_eq_true rfl) dX4_takeGrid_12 (fun r5 s6 => ?_)
    refine g_if_ne (pc := 15) (tgt := 20) dX4_takeGrid_15 (by decide) ?_ ?_
    · refine g_aload_n (pc := 20) 0 dX4_takeGrid_20 rfl rfl ?_
      refine g_iload_n (pc := 21) 1 dX4_takeGrid_21 rfl rfl ?_
      refine g_put (pc := 22) 5 (ty := .int) cN_5 rfl inlX4 tyX4_ok nmX4 6 (by decide) bw_4_4 rfl (by decide +kernel) rfl rfl (Nat.le_of_ble_eq_true rfl) cN_f5_6 dX4_takeGrid_22 (fun s7 => ?_)
      refine g_aload_n (pc := 25) 0 dX4_takeGrid_25 rfl rfl ?_
      refine g_iload_n (pc := 26) 2 dX4_takeGrid_26 rfl rfl ?_
      refine g_put (pc := 27) 5 (ty := .int) cN_5 rfl inlX4 tyX4_ok nmX4 7 (by decide) bw_4_5 rfl (by decide +kernel) rfl rfl (Nat.le_of_ble_eq_true rfl) cN_f5_7 dX4_takeGrid_27 (fun s8 => ?_)
      refine g_aload_n (pc := 30) 0 dX4_takeGrid_30 rfl rfl ?_
      refine g_iconst (pc := 31) (v := 0) dX4_takeGrid_31 (by decide) ?_
      refine g_put (pc := 32) 5 (ty := .int) cN_5 rfl inlX4 tyX4_ok nmX4 8 (by decide) bw_4_6 rfl (by decide +kernel) rfl rfl (Nat.le_of_ble_eq_true rfl) cN_f5_8 dX4_takeGrid_32 (fun s9 => ?_)
      refine g_iconst (pc := 35) (v := 0) dX4_takeGrid_35 (by decide) ?_
      refine g_istore_n (pc := 36) [1, 2, 3, 0] (lv1 := [(0, Value.ref (a 5)), (1, Value.int x1), (2, Value.int x2), (3, Value.int (0 : Int32))]) dX4_takeGrid_36 rfl (by decide) rfl ?_
      refine g_lv [0, 3] (lv' := [(0, Value.ref (a 5)), (3, Value.int (0 : Int32))]) rfl ?_
      refine g_lq1 (pc := 37) (lf := fun x11 => [((0 : Nat), Value.ref (a 5)), ((3 : Nat), Value.int x11)]) (sf := fun x11 => ([] : List Value)) (fun k10 hk10 s12 x11 => ?_) 100000 s9 _
      show G _ Γ _ _ _ _ _ _ s12 [((0 : Nat), Value.ref (a 5)), ((3 : Nat), Value.int x11)] 37 ([] : List Value)
      refine g_iload_n (pc := 37) 1 dX4_takeGrid_37 rfl rfl ?_
      refine g_aload_n (pc := 38) 0 dX4_takeGrid_38 rfl rfl ?_
      refine g_get (pc := 39) 5 cN_5 rfl inlX4 6 (by decide) bw_4_4 rfl dX4_takeGrid_39 ?_
      refine g_icmp_ge (pc := 42) (tgt := 69) dX4_takeGrid_42 (by decide) ?_ ?_
      · refine g_aload_n (pc := 69) 0 dX4_takeGrid_69 rfl rfl ?_
        refine g_aload_n (pc := 70) 0 dX4_takeGrid_70 rfl rfl ?_
        refine g_get (pc := 71) 5 cN_5 rfl inlX4 8 (by decide) bw_4_6 rfl dX4_takeGrid_71 ?_
        refine g_aload_n (pc := 74) 0 dX4_takeGrid_74 rfl rfl ?_
        refine g_get (pc := 75) 5 cN_5 rfl inlX4 7 (by decide) bw_4_5 rfl dX4_takeGrid_75 ?_
        refine g_iconst (pc := 78) (v := 1) dX4_takeGrid_78 (by decide) ?_
        refine g_isub (pc := 79) dX4_takeGrid_79 ?_
        refine g_ishl (pc := 80) dX4_takeGrid_80 ?_
        refine g_put (pc := 81) 5 (ty := .int) cN_5 rfl inlX4 tyX4_ok nmX4 9 (by decide) bw_4_7 rfl (by decide +kernel) rfl rfl (Nat.le_of_ble_eq_true rfl) cN_f5_9 dX4_takeGrid_81 (fun s13 => ?_)
        refine g_iconst (pc := 84) (v := 1) dX4_takeGrid_84 (by decide) ?_
        exact g_zret1 (pc := 85) hRT (by decide) dX4_takeGrid_85
      · refine g_aload_n (pc := 45) 0 dX4_takeGrid_45 rfl rfl ?_
        refine g_dup (pc := 46) dX4_takeGrid_46 rfl ?_
        refine g_get (pc := 47) 5 cN_5 rfl inlX4 8 (by decide) bw_4_6 rfl dX4_takeGrid_47 ?_
        refine g_iload_n (pc := 50) 1 dX4_takeGrid_50 rfl rfl ?_
        refine g_aload_n (pc := 51) 0 dX4_takeGrid_51 rfl rfl ?_
        refine g_get (pc := 52) 5 cN_5 rfl inlX4 7 (by decide) bw_4_5 rfl dX4_takeGrid_52 ?_
        refine g_imul (pc := 55) dX4_takeGrid_55 ?_
        refine g_cNi (pc := 56) (As := [Value.int (x11 * (s12 5 7))]) (fun r2 h2 => k_X10_bit hI h2) wk_X10_bit ws_X10_bit nst_RX4_79 (by decide) (by decide) rfl rfl (Nat.le_of_ble_eq_true rfl) dX4_takeGrid_56 (fun r14 s15 => ?_)
        refine g_ior (pc := 59) dX4_takeGrid_59 ?_
        refine g_put (pc := 60) 5 (ty := .int) cN_5 rfl inlX4 tyX4_ok nmX4 8 (by decide) bw_4_6 rfl (by decide +kernel) rfl rfl (Nat.le_of_ble_eq_true rfl) cN_f5_8 dX4_takeGrid_60 (fun s16 => ?_)
        refine g_iinc (pc := 63) [1, 0] 1 (n1 := 1) (lv1 := fun x17 => [(0, Value.ref (a 5)), (3, Value.int x17)]) dX4_takeGrid_63 rfl (by decide) (by decide) (fun _ => rfl) (fun x17 => ?_)
        show G _ Γ _ _ _ _ _ _ _ [(0, Value.ref (a 5)), (3, Value.int x17)] (63 + 3) _
        refine g_goto (pc := 66) (tgt := 37) dX4_takeGrid_66 (by decide) ?_
        exact hk10 s16 _
    · refine g_iconst (pc := 18) (v := 0) dX4_takeGrid_18 (by decide) ?_
      exact g_zret1 (pc := 19) hRT (by decide) dX4_takeGrid_19
set_option maxRecDepth 100000 in
set_option maxHeartbeats 4000000 in
theorem k_X4_clear__5 {l : Launch} {D : va_G} {a : Nat → Nat} {cI cS : ClassId} (hI : ∀ σ : St, va_D (AN a) (cN a cI cS σ)) {σ : St} {r : Int32 × St} (h : f_X4_clear__5 σ = some r) : Kc (SN l D a cI cS) yX4_clear cX4_clear 1 none 2 [Value.ref (a 5)] σ r := by
  refine enter (own := RX4) (o := f_X4_clear__5 σ) (plainFor_of_name (by decide +kernel)) rfl (Nat.le_of_ble_eq_true rfl) hI wk_X4_clear.1 h (fun Γ hRT => ?_)
  show G _ Γ _ _ _ _ _ _ σ [((0 : Nat), Value.ref (a 5))] 0 []
  unfold f_X4_clear__5
  refine g_aload_n (pc := 0) 0 dX4_clear_0 rfl rfl ?_
  refine g_get (pc := 1) 5 cN_5 rfl inlX4 0 (by decide) bw_3_22 rfl dX4_clear_1 ?_
  refine g_iconst (pc := 4) (v := 0) dX4_clear_4 (by decide) ?_
  refine g_cNv (pc := 5) (As := [Value.ref (a 6), Value.int (0 : Int32)]) (fun r2 h2 => k_X10_fill__6 hI h2) wk_X10_fill ws_X10_fill nst_RX4_53 (by decide) (by decide) rfl rfl (Nat.le_of_ble_eq_true rfl) dX4_clear_5 (fun r1 s2 => ?_)
  refine g_aload_n (pc := 8) 0 dX4_clear_8 rfl rfl ?_
  refine g_get (pc := 9) 5 cN_5 rfl inlX4 1 (by decide) bw_3_23 rfl dX4_clear_9 ?_
  refine g_iconst (pc := 12) (v := 2) dX4_clear_12 (by decide) ?_
  refine g_cNv (pc := 13) (As := [Value.ref (a 7), Value.int (2 : Int32)]) (fun r2 h2 => k_X10_fill__7 hI h2) wk_X10_fill ws_X10_fill nst_RX4_53 (by decide) (by decide) rfl rfl (Nat.le_of_ble_eq_true rfl) dX4_clear_13 (fun r3 s4 => ?_)
  refine g_aload_n (pc := 16) 0 dX4_clear_16 rfl rfl ?_
  refine g_get (pc := 17) 5 cN_5 rfl inlX4 5 (by decide) bw_4_3 rfl dX4_clear_17 ?_
  refine g_iconst (pc := 20) (v := 0) dX4_clear_20 (by decide) ?_
  refine g_cNv (pc := 21) (As := [Value.ref (a 11), Value.int (0 : Int32)]) (fun r2 h2 => k_X10_fill__11 hI h2) wk_X10_fill ws_X10_fill nst_RX4_53 (by decide) (by decide) rfl rfl (Nat.le_of_ble_eq_true rfl) dX4_clear_21 (fun r5 s6 => ?_)
  refine g_aload_n (pc := 24) 0 dX4_clear_24 rfl rfl ?_
  refine g_iconst (pc := 25) (v := 0) dX4_clear_25 (by decide) ?_
  refine g_put (pc := 26) 5 (ty := .int) cN_5 rfl inlX4 tyX4_ok nmX4 10 (by decide) bw_4_8 rfl (by decide +kernel) rfl rfl (Nat.le_of_ble_eq_true rfl) cN_f5_10 dX4_clear_26 (fun s7 => ?_)
  refine g_aload_n (pc := 29) 0 dX4_clear_29 rfl rfl ?_
  refine g_iconst (pc := 30) (v := 0) dX4_clear_30 (by decide) ?_
  refine g_put (pc := 31) 5 (ty := .int) cN_5 rfl inlX4 tyX4_ok nmX4 11 (by decide) bw_4_9 rfl (by decide +kernel) rfl rfl (Nat.le_of_ble_eq_true rfl) cN_f5_11 dX4_clear_31 (fun s8 => ?_)
  refine g_aload_n (pc := 34) 0 dX4_clear_34 rfl rfl ?_
  refine g_iconst (pc := 35) (v := 1) dX4_clear_35 (by decide) ?_
  refine g_put (pc := 36) 5 (ty := .boolean) cN_5 rfl inlX4 tyX4_ok nmX4 12 (by decide) bw_4_10 rfl (by decide +kernel) (by decide) (by decide) (Nat.le_of_ble_eq_true rfl) cN_f5_12 dX4_clear_36 (fun s9 => ?_)
  refine g_aload_n (pc := 39) 0 dX4_clear_39 rfl rfl ?_
  refine g_iconst (pc := 40) (v := 3) dX4_clear_40 (by decide) ?_
  refine g_iconst (pc := 41) (v := 4) dX4_clear_41 (by decide) ?_
  refine g_cVz (pc := 42) 5 (As := [Value.int (3 : Int32), Value.int (4 : Int32)]) (fun r2 h2 => k_X4_takeGrid__5 hI h2) wk_X4_takeGrid wv_X4_takeGrid bw_10_5 cN_5 rfl (by decide) (by decide) rfl rfl (Nat.le_of_ble_eq_true rfl) dX4_clear_42 (fun r10 s11 => ?_)
  refine g_pop (pc := 45) dX4_clear_45 rfl ?_
  exact g_vret (pc := 46) hRT dX4_clear_46
set_option maxRecDepth 100000 in
set_option maxHeartbeats 4000000 in
theorem k_X10_at__2 {l : Launch} {D : va_G} {a : Nat → Nat} {cI cS : ClassId} (hI : ∀ σ : St, va_D (AN a) (cN a cI cS σ)) {σ : St} {x1 : Int32} {r : Int32 × St} (h : f_X10_at__2 σ x1 = some r) : Kc (SN l D a cI cS) yX10_at cX10_at 2 (some .int) 0 [Value.ref (a 2), Value.int x1] σ r := by
  refine enter (own := RX10) (o := f_X10_at__2 σ x1) (plainFor_of_name (by decide +kernel)) rfl (Nat.le_of_ble_eq_true rfl) hI wk_X10_at.1 h (fun Γ hRT => ?_)
  show G _ Γ _ _ _ _ _ _ σ [((0 : Nat), Value.ref (a 2)), ((1 : Nat), Value.int x1)] 0 []
  unfold f_X10_at__2
  refine g_aload_n (pc := 0) 0 dX10_at_0 rfl rfl ?_
  refine g_ifnull (pc := 1) dX10_at_1 ?_
  refine g_jq0 (pc2 := 20) (lf := ([] : List (Nat × Value))) (sf := ([] : List Value)) (fun s3 => ?_) (fun k2 hk2 => ?_)
  · show G _ Γ _ _ _ _ _ _ s3 ([] : List (Nat × Value)) 20 ([] : List Value)
    refine g_iconst (pc := 20) (v := 0) dX10_at_20 (by decide) ?_
    exact g_iret (pc := 21) hRT dX10_at_21
  · refine g_iload_n (pc := 4) 1 dX10_at_4 rfl rfl ?_
    refine g_if_lt (pc := 5) (tgt := 20) dX10_at_5 (by decide) ?_ ?_
    · exact g_lv [] rfl (hk2 σ)
    · refine g_iload_n (pc := 8) 1 dX10_at_8 rfl rfl ?_
      refine g_aload_n (pc := 9) 0 dX10_at_9 rfl rfl ?_
      refine g_alen (pc := 10) 2 0 (v := 200) cN_2 rfl (show Int32.ofNat 200 = 200 by decide) dX10_at_10 ?_
      refine g_icmp_ge (pc := 11) (tgt := 20) dX10_at_11 (by decide) ?_ ?_
      · exact g_lv [] rfl (hk2 σ)
      · refine g_aload_n (pc := 14) 0 dX10_at_14 rfl rfl ?_
        refine g_iload_n (pc := 15) 1 dX10_at_15 rfl rfl ?_
        refine g_iald (pc := 16) 2 cN_2 rfl dX10_at_16 ?_
        refine g_goto (pc := 17) (tgt := 21) dX10_at_17 (by decide) ?_
        exact g_iret (pc := 21) hRT dX10_at_21
set_option maxRecDepth 100000 in
set_option maxHeartbeats 4000000 in
theorem k_X7_letterAt__1 {l : Launch} {D : va_G} {a : Nat → Nat} {cI cS : ClassId} (hI : ∀ σ : St, va_D (AN a) (cN a cI cS σ)) {σ : St} {x1 : Int32} {r : Int32 × St} (h : f_X7_letterAt__1 σ x1 = some r) : Kc (SN l D a cI cS) yX7_letterAt cX7_letterAt 2 (some .int) 1 [Value.ref (a 1), Value.int x1] σ r := by
  refine enter (own := RX7) (o := f_X7_letterAt__1 σ x1) (plainFor_of_name (by decide +kernel)) rfl (Nat.le_of_ble_eq_true rfl) hI wk_X7_letterAt.1 h (fun Γ hRT => ?_)
  show G _ Γ _ _ _ _ _ _ σ [((0 : Nat), Value.ref (a 1)), ((1 : Nat), Value.int x1)] 0 []
  unfold f_X7_letterAt__1
  refine g_iload_n (pc := 0) 1 dX7_letterAt_0 rfl rfl ?_
  refine g_aload_n (pc := 1) 0 dX7_letterAt_1 rfl rfl ?_
  refine g_get (pc := 2) 1 cN_1 rfl inlX7 1 (by decide) bw_3_11 rfl dX7_letterAt_2 ?_
  refine g_icmp_ge (pc := 5) (tgt := 19) dX7_letterAt_5 (by decide) ?_ ?_
  · refine g_iconst (pc := 19) (v := 0) dX7_letterAt_19 (by decide) ?_
    exact g_iret (pc := 20) hRT dX7_letterAt_20
  · refine g_aload_n (pc := 8) 0 dX7_letterAt_8 rfl rfl ?_
    refine g_get (pc := 9) 1 cN_1 rfl inlX7 0 (by decide) bw_3_10 rfl dX7_letterAt_9 ?_
    refine g_iload_n (pc := 12) 1 dX7_letterAt_12 rfl rfl ?_
    refine g_cNi (pc := 13) (As := [Value.ref (a 2), Value.int x1]) (fun r2 h2 => k_X10_at__2 hI h2) wk_X10_at ws_X10_at nst_RX7_23 (by decide) (by decide) rfl rfl (Nat.le_of_ble_eq_true rfl) dX7_letterAt_13 (fun r2 s3 => ?_)
    refine g_goto (pc := 16) (tgt := 20) dX7_letterAt_16 (by decide) ?_
    exact g_iret (pc := 20) hRT dX7_letterAt_20
set_option maxRecDepth 100000 in
set_option maxHeartbeats 4000000 in
theorem k_X6_isFigure {l : Launch} {D : va_G} {a : Nat → Nat} {cI cS : ClassId} (hI : ∀ σ : St, va_D (AN a) (cN a cI cS σ)) {σ : St} {x1 : Int32} {r : Int32 × St} (h : f_X6_isFigure σ x1 = some r) : Kc (SN l D a cI cS) yX6_isFigure cX6_isFigure 1 (some .boolean) 1 [Value.int x1] σ r := by
  refine enter (own := RX6) (o := f_X6_isFigure σ x1) (plainFor_of_name (by decide +kernel)) rfl (Nat.le_of_ble_eq_true rfl) hI wk_X6_isFigure.1 h (fun Γ hRT => ?_)
  show G _ Γ _ _ _ _ _ _ σ [((0 : Nat), Value.int x1)] 0 []
  unfold f_X6_isFigure
  refine g_iload_n (pc := 0) 0 dX6_isFigure_0 rfl rfl ?_
  refine g_bipush (pc := 1) (v := 48) dX6_isFigure_1 (by decide) ?_
  refine g_bipush (pc := 3) (v := 57) dX6_isFigure_3 (by decide) ?_
  refine g_cNz (pc := 5) (As := [Value.int x1, Value.int (48 : Int32), Value.int (57 : Int32)]) (fun r2 h2 => k_X10_within hI h2) wk_X10_within ws_X10_within nst_RX6_56 (by decide) (by decide) rfl rfl (Nat.le_of_ble_eq_true rfl) dX6_isFigure_5 (fun r2 s3 => ?_)
  exact g_zret (pc := 8) hRT dX6_isFigure_8
set_option maxRecDepth 100000 in
set_option maxHeartbeats 4000000 in
theorem k_X6_readNumber__3 {l : Launch} {D : va_G} {a : Nat → Nat} {cI cS : ClassId} (hI : ∀ σ : St, va_D (AN a) (cN a cI cS σ)) {σ : St} {r : Int32 × St} (h : f_X6_readNumber__3 σ = some r) : Kc (SN l D a cI cS) yX6_readNumber cX6_readNumber 3 (some .int) 2 [Value.ref (a 3)] σ r := by
  refine enter (own := RX6) (o := f_X6_readNumber__3 σ) (plainFor_of_name (by decide +kernel)) rfl (Nat.le_of_ble_eq_true rfl) hI wk_X6_readNumber.1 h (fun Γ hRT => ?_)
  show G _ Γ _ _ _ _ _ _ σ [((0 : Nat), Value.ref (a 3))] 0 []
  unfold f_X6_readNumber__3
  refine g_aload_n (pc := 0) 0 dX6_readNumber_0 rfl rfl ?_
  refine g_get (pc := 1) 3 cN_3 rfl inlX6 0 (by decide) bw_3_18 rfl dX6_readNumber_1 ?_
  refine g_aload_n (pc := 4) 0 dX6_readNumber_4 rfl rfl ?_
  refine g_get (pc := 5) 3 cN_3 rfl inlX6 2 (by decide) bw_3_17 rfl dX6_readNumber_5 ?_
  refine g_cVi (pc := 8) 1 (As := [Value.int (σ 3 2)]) (fun r2 h2 => k_X7_letterAt__1 hI h2) wk_X7_letterAt wv_X7_letterAt bw_11_1 cN_1 rfl (by decide) (by decide) rfl rfl (Nat.le_of_ble_eq_true rfl) dX6_readNumber_8 (fun r1 s2 => ?_)
  refine g_istore_n (pc := 11) [1, 0] (lv1 := [(0, Value.ref (a 3)), (1, Value.int r1)]) dX6_readNumber_11 rfl (by decide) rfl ?_
  refine g_iload_n (pc := 12) 1 dX6_readNumber_12 rfl rfl ?_
  refine g_cSz (pc := 13) (As := [Value.int r1]) (fun r2 h2 => k_X6_isFigure hI h2) wk_X6_isFigure ws_X6_isFigure bw_11_7 (by decide) (by decide) rfl rfl (Nat.le_of_ble_eq_true rfl) dX6_readNumber_13 (fun r3 s4 => ?_)
  refine g_if_ne (pc := 16) (tgt := 21) dX6_readNumber_16 (by decide) ?_ ?_
  · refine g_aload_n (pc := 21) 0 dX6_readNumber_21 rfl rfl ?_
    refine g_dup (pc := 22) dX6_readNumber_22 rfl ?_
    refine g_get (pc := 23) 3 cN_3 rfl inlX6 2 (by decide) bw_3_17 rfl dX6_readNumber_23 ?_
    refine g_iconst (pc := 26) (v := 1) dX6_readNumber_26 (by decide) ?_
    refine g_iadd (pc := 27) dX6_readNumber_27 ?_
    refine g_put (pc := 28) 3 (ty := .int) cN_3 rfl inlX6 tyX6_ok nmX6 2 (by decide) bw_3_17 rfl (by decide +kernel) rfl rfl (Nat.le_of_ble_eq_true rfl) cN_f3_2 dX6_readNumber_28 (fun s5 => ?_)
    refine g_aload_n (pc := 31) 0 dX6_readNumber_31 rfl rfl ?_
    refine g_get (pc := 32) 3 cN_3 rfl inlX6 0 (by decide) bw_3_18 rfl dX6_readNumber_32 ?_
    refine g_aload_n (pc := 35) 0 dX6_readNumber_35 rfl rfl ?_
    refine g_get (pc := 36) 3 cN_3 rfl inlX6 2 (by decide) bw_3_17 rfl dX6_readNumber_36 ?_
    refine g_cVi (pc := 39) 1 (As := [Value.int (s5 3 2)]) (fun r2 h2 => k_X7_letterAt__1 hI h2) wk_X7_letterAt wv_X7_letterAt bw_11_1 cN_1 rfl (by decide) (by decide) rfl rfl (Nat.le_of_ble_eq_true rfl) dX6_readNumber_39 (fun r6 s7 => ?_)
    refine g_istore_n (pc := 42) [1, 2, 0] (lv1 := [(0, Value.ref (a 3)), (1, Value.int r1), (2, Value.int r6)]) dX6_readNumber_42 rfl (by decide) rfl ?_
    refine g_iload_n (pc := 43) 2 dX6_readNumber_43 rfl rfl ?_
    refine g_cSz (pc := 44) (As := [Value.int r6]) (fun r2 h2 => k_X6_isFigure hI h2) wk_X6_isFigure ws_X6_isFigure bw_11_7 (by decide) (by decide) rfl rfl (Nat.le_of_ble_eq_true rfl) dX6_readNumber_44 (fun r8 s9 => ?_)
    refine g_if_ne (pc := 47) (tgt := 55) dX6_readNumber_47 (by decide) ?_ ?_
    · refine g_aload_n (pc := 55) 0 dX6_readNumber_55 rfl rfl ?_
      refine g_dup (pc := 56) dX6_readNumber_56 rfl ?_
      refine g_get (pc := 57) 3 cN_3 rfl inlX6 2 (by decide) bw_3_17 rfl dX6_readNumber_57 ?_
      refine g_iconst (pc := 60) (v := 1) dX6_readNumber_60 (by decide) ?_
      refine g_iadd (pc := 61) dX6_readNumber_61 ?_
      refine g_put (pc := 62) 3 (ty := .int) cN_3 rfl inlX6 tyX6_ok nmX6 2 (by decide) bw_3_17 rfl (by decide +kernel) rfl rfl (Nat.le_of_ble_eq_true rfl) cN_f3_2 dX6_readNumber_62 (fun s10 => ?_)
      refine g_bipush (pc := 65) (v := 10) dX6_readNumber_65 (by decide) ?_
      refine g_iload_n (pc := 67) 1 dX6_readNumber_67 rfl rfl ?_
      refine g_bipush (pc := 68) (v := 48) dX6_readNumber_68 (by decide) ?_
      refine g_isub (pc := 70) dX6_readNumber_70 ?_
      refine g_imul (pc := 71) dX6_readNumber_71 ?_
      refine g_iload_n (pc := 72) 2 dX6_readNumber_72 rfl rfl ?_
      refine g_iadd (pc := 73) dX6_readNumber_73 ?_
      refine g_bipush (pc := 74) (v := 48) dX6_readNumber_74 (by decide) ?_
      refine g_isub (pc := 76) dX6_readNumber_76 ?_
      exact g_iret (pc := 77) hRT dX6_readNumber_77
    · refine g_iload_n (pc := 50) 1 dX6_readNumber_50 rfl rfl ?_
      refine g_bipush (pc := 51) (v := 48) dX6_readNumber_51 (by decide) ?_
      refine g_isub (pc := 53) dX6_readNumber_53 ?_
      exact g_iret (pc := 54) hRT dX6_readNumber_54
  · refine g_iconst (pc := 19) (v := -1) dX6_readNumber_19 (by decide) ?_
    exact g_iret (pc := 20) hRT dX6_readNumber_20
set_option maxRecDepth 100000 in
set_option maxHeartbeats 4000000 in
theorem k_X10_put__4 {l : Launch} {D : va_G} {a : Nat → Nat} {cI cS : ClassId} (hI : ∀ σ : St, va_D (AN a) (cN a cI cS σ)) {σ : St} {x1 x2 : Int32} {r : Int32 × St} (h : f_X10_put__4 σ x1 x2 = some r) : Kc (SN l D a cI cS) yX10_put cX10_put 3 none 0 [Value.ref (a 4), Value.int x1, Value.int x2] σ r := by
  refine enter (own := RX10) (o := f_X10_put__4 σ x1 x2) (plainFor_of_name (by decide +kernel)) rfl (Nat.le_of_ble_eq_true rfl) hI wk_X10_put.1 h (fun Γ hRT => ?_)
  show G _ Γ _ _ _ _ _ _ σ [((0 : Nat), Value.ref (a 4)), ((1 : Nat), Value.int x1), ((2 : Nat), Value.int x2)] 0 []
  unfold f_X10_put__4
  refine g_aload_n (pc := 0) 0 dX10_put_0 rfl rfl ?_
  refine g_ifnull (pc := 1) dX10_put_1 ?_
  refine g_iload_n (pc := 4) 1 dX10_put_4 rfl rfl ?_
  refine g_if_lt (pc := 5) (tgt := 18) dX10_put_5 (by decide) ?_ ?_
  · exact g_vret (pc := 18) hRT dX10_put_18
  · refine g_iload_n (pc := 8) 1 dX10_put_8 rfl rfl ?_
    refine g_aload_n (pc := 9) 0 dX10_put_9 rfl rfl ?_
    refine g_alen (pc := 10) 4 0 (v := 3) cN_4 rfl (show Int32.ofNat 3 = 3 by decide) dX10_put_10 ?_
    refine g_icmp_ge (pc := 11) (tgt := 18) dX10_put_11 (by decide) ?_ ?_
    · exact g_vret (pc := 18) hRT dX10_put_18
    · refine g_aload_n (pc := 14) 0 dX10_put_14 rfl rfl ?_
      refine g_iload_n (pc := 15) 1 dX10_put_15 rfl rfl ?_
      refine g_iload_n (pc := 16) 2 dX10_put_16 rfl rfl ?_
      refine g_iast (pc := 17) 4 cN_4 rfl cN_s4 dX10_put_17 (fun s3 => ?_)
      exact g_vret (pc := 18) hRT dX10_put_18
set_option maxRecDepth 100000 in
set_option maxHeartbeats 4000000 in
theorem k_X6_readNumbers__3 {l : Launch} {D : va_G} {a : Nat → Nat} {cI cS : ClassId} (hI : ∀ σ : St, va_D (AN a) (cN a cI cS σ)) {σ : St} {r : Int32 × St} (h : f_X6_readNumbers__3 σ = some r) : Kc (SN l D a cI cS) yX6_readNumbers cX6_readNumbers 4 (some .int) 3 [Value.ref (a 3)] σ r := by
  refine enter (own := RX6) (o := f_X6_readNumbers__3 σ) (plainFor_of_name (by decide +kernel)) rfl (Nat.le_of_ble_eq_true rfl) hI wk_X6_readNumbers.1 h (fun Γ hRT => ?_)
  show G _ Γ _ _ _ _ _ _ σ [((0 : Nat), Value.ref (a 3))] 0 []
  unfold f_X6_readNumbers__3
  refine g_iconst (pc := 0) (v := 0) dX6_readNumbers_0 (by decide) ?_
  refine g_istore_n (pc := 1) [1, 0] (lv1 := [(0, Value.ref (a 3)), (1, Value.int (0 : Int32))]) dX6_readNumbers_1 rfl (by decide) rfl ?_
  refine g_lq1 (pc := 2) (lf := fun x2 => [((0 : Nat), Value.ref (a 3)), ((1 : Nat), Value.int x2)]) (sf := fun x2 => ([] : List Value)) (fun k1 hk1 s3 x2 => ?_) 100000 σ _
  show G _ Γ _ _ _ _ _ _ s3 [((0 : Nat), Value.ref (a 3)), ((1 : Nat), Value.int x2)] 2 ([] : List Value)
  refine g_iload_n (pc := 2) 1 dX6_readNumbers_2 rfl rfl ?_
  refine g_iconst (pc := 3) (v := 3) dX6_readNumbers_3 (by decide) ?_
  refine g_icmp_ge (pc := 4) (tgt := 73) dX6_readNumbers_4 (by decide) ?_ ?_
  · refine g_iconst (pc := 73) (v := 0) dX6_readNumbers_73 (by decide) ?_
    exact g_iret (pc := 74) hRT dX6_readNumbers_74
  · refine g_aload_n (pc := 7) 0 dX6_readNumbers_7 rfl rfl ?_
    refine g_cVi (pc := 8) 3 (As := []) (fun r2 h2 => k_X6_readNumber__3 hI h2) wk_X6_readNumber wv_X6_readNumber bw_10_21 cN_3 rfl (by decide) (by decide) rfl rfl (Nat.le_of_ble_eq_true rfl) dX6_readNumbers_8 (fun r4 s5 => ?_)
    refine g_istore_n (pc := 11) [1, 2, 0] (lv1 := [(0, Value.ref (a 3)), (1, Value.int x2), (2, Value.int r4)]) dX6_readNumbers_11 rfl (by decide) rfl ?_
    refine g_iload_n (pc := 12) 2 dX6_readNumbers_12 rfl rfl ?_
    refine g_if_ge (pc := 13) (tgt := 18) dX6_readNumbers_13 (by decide) ?_ ?_
    · refine g_aload_n (pc := 18) 0 dX6_readNumbers_18 rfl rfl ?_
      refine g_get (pc := 19) 3 cN_3 rfl inlX6 1 (by decide) bw_3_16 rfl dX6_readNumbers_19 ?_
      refine g_iload_n (pc := 22) 1 dX6_readNumbers_22 rfl rfl ?_
      refine g_iload_n (pc := 23) 2 dX6_readNumbers_23 rfl rfl ?_
      refine g_cNv (pc := 24) (As := [Value.ref (a 4), Value.int x2, Value.int r4]) (fun r2 h2 => k_X10_put__4 hI h2) wk_X10_put ws_X10_put nst_RX6_48 (by decide) (by decide) rfl rfl (Nat.le_of_ble_eq_true rfl) dX6_readNumbers_24 (fun r6 s7 => ?_)
      refine g_aload_n (pc := 27) 0 dX6_readNumbers_27 rfl rfl ?_
      refine g_get (pc := 28) 3 cN_3 rfl inlX6 0 (by decide) bw_3_18 rfl dX6_readNumbers_28 ?_
      refine g_aload_n (pc := 31) 0 dX6_readNumbers_31 rfl rfl ?_
      refine g_get (pc := 32) 3 cN_3 rfl inlX6 2 (by decide) bw_3_17 rfl dX6_readNumbers_32 ?_
      refine g_cVi (pc := 35) 1 (As := [Value.int (s7 3 2)]) (fun r2 h2 => k_X7_letterAt__1 hI h2) wk_X7_letterAt wv_X7_letterAt bw_11_1 cN_1 rfl (by decide) (by decide) rfl rfl (Nat.le_of_ble_eq_true rfl) dX6_readNumbers_35 (fun r8 s9 => ?_)
      refine g_istore_n (pc := 38) [1, 2, 3, 0] (lv1 := [(0, Value.ref (a 3)), (1, Value.int x2), (2, Value.int r4), (3, Value.int r8)]) dX6_readNumbers_38 rfl (by decide) rfl ?_
      refine g_aload_n (pc := 39) 0 dX6_readNumbers_39 rfl rfl ?_
      refine g_dup (pc := 40) dX6_readNumbers_40 rfl ?_
      refine g_get (pc := 41) 3 cN_3 rfl inlX6 2 (by decide) bw_3_17 rfl dX6_readNumbers_41 ?_
      refine g_iconst (pc := 44) (v := 1) dX6_readNumbers_44 (by decide) ?_
      refine g_iadd (pc := 45) dX6_readNumbers_45 ?_
      refine g_put (pc := 46) 3 (ty := .int) cN_3 rfl inlX6 tyX6_ok nmX6 2 (by decide) bw_3_17 rfl (by decide +kernel) rfl rfl (Nat.le_of_ble_eq_true rfl) cN_f3_2 dX6_readNumbers_46 (fun s10 => ?_)
      refine g_iload_n (pc := 49) 3 dX6_readNumbers_49 rfl rfl ?_
      refine g_bipush (pc := 50) (v := 59) dX6_readNumbers_50 (by decide) ?_
      refine g_icmp_ne (pc := 52) (tgt := 59) dX6_readNumbers_52 (by decide) ?_ ?_
      · refine g_iload_n (pc := 59) 3 dX6_readNumbers_59 rfl rfl ?_
        refine g_bipush (pc := 60) (v := 44) dX6_readNumbers_60 (by decide) ?_
        refine g_icmp_eq (pc := 62) (tgt := 67) dX6_readNumbers_62 (by decide) ?_ ?_
        · refine g_iinc (pc := 67) [1, 0, 2, 3] 1 (n1 := 1) (lv1 := fun x11 => [(0, Value.ref (a 3)), (1, Value.int x11), (2, Value.int r4), (3, Value.int r8)]) dX6_readNumbers_67 rfl (by decide) (by decide) (fun _ => rfl) (fun x11 => ?_)
          show G _ Γ _ _ _ _ _ _ _ [(0, Value.ref (a 3)), (1, Value.int x11), (2, Value.int r4), (3, Value.int r8)] (67 + 3) _
          refine g_goto (pc := 70) (tgt := 2) dX6_readNumbers_70 (by decide) ?_
          exact g_lv [0, 1] rfl (hk1 s10 _)
        · refine g_iconst (pc := 65) (v := 0) dX6_readNumbers_65 (by decide) ?_
          exact g_iret (pc := 66) hRT dX6_readNumbers_66
      · refine g_iload_n (pc := 55) 1 dX6_readNumbers_55 rfl rfl ?_
        refine g_iconst (pc := 56) (v := 1) dX6_readNumbers_56 (by decide) ?_
        refine g_iadd (pc := 57) dX6_readNumbers_57 ?_
        exact g_iret (pc := 58) hRT dX6_readNumbers_58
    · refine g_iconst (pc := 16) (v := 0) dX6_readNumbers_16 (by decide) ?_
      exact g_iret (pc := 17) hRT dX6_readNumbers_17
set_option maxRecDepth 100000 in
set_option maxHeartbeats 4000000 in
theorem k_X10_at__4 {l : Launch} {D : va_G} {a : Nat → Nat} {cI cS : ClassId} (hI : ∀ σ : St, va_D (AN a) (cN a cI cS σ)) {σ : St} {x1 : Int32} {r : Int32 × St} (h : f_X10_at__4 σ x1 = some r) : Kc (SN l D a cI cS) yX10_at cX10_at 2 (some .int) 0 [Value.ref (a 4), Value.int x1] σ r := by
  refine enter (own := RX10) (o := f_X10_at__4 σ x1) (plainFor_of_name (by decide +kernel)) rfl (Nat.le_of_ble_eq_true rfl) hI wk_X10_at.1 h (fun Γ hRT => ?_)
  show G _ Γ _ _ _ _ _ _ σ [((0 : Nat), Value.ref (a 4)), ((1 : Nat), Value.int x1)] 0 []
  unfold f_X10_at__4
  refine g_aload_n (pc := 0) 0 dX10_at_0 rfl rfl ?_
  refine g_ifnull (pc := 1) dX10_at_1 ?_
  refine g_jq0 (pc2 := 20) (lf := ([] : List (Nat × Value))) (sf := ([] : List Value)) (fun s3 => ?_) (fun k2 hk2 => ?_)
  · show G _ Γ _ _ _ _ _ _ s3 ([] : List (Nat × Value)) 20 ([] : List Value)
    refine g_iconst (pc := 20) (v := 0) dX10_at_20 (by decide) ?_
    exact g_iret (pc := 21) hRT dX10_at_21
  · refine g_iload_n (pc := 4) 1 dX10_at_4 rfl rfl ?_
    refine g_if_lt (pc := 5) (tgt := 20) dX10_at_5 (by decide) ?_ ?_
    · exact g_lv [] rfl (hk2 σ)
    · refine g_iload_n (pc := 8) 1 dX10_at_8 rfl rfl ?_
      refine g_aload_n (pc := 9) 0 dX10_at_9 rfl rfl ?_
      refine g_alen (pc := 10) 4 0 (v := 3) cN_4 rfl (show Int32.ofNat 3 = 3 by decide) dX10_at_10 ?_
      refine g_icmp_ge (pc := 11) (tgt := 20) dX10_at_11 (by decide) ?_ ?_
      · exact g_lv [] rfl (hk2 σ)
      · refine g_aload_n (pc := 14) 0 dX10_at_14 rfl rfl ?_
        refine g_iload_n (pc := 15) 1 dX10_at_15 rfl rfl ?_
        refine g_iald (pc := 16) 4 cN_4 rfl dX10_at_16 ?_
        refine g_goto (pc := 17) (tgt := 21) dX10_at_17 (by decide) ?_
        exact g_iret (pc := 21) hRT dX10_at_21
set_option maxRecDepth 100000 in
set_option maxHeartbeats 4000000 in
theorem k_X4_houses__5 {l : Launch} {D : va_G} {a : Nat → Nat} {cI cS : ClassId} (hI : ∀ σ : St, va_D (AN a) (cN a cI cS σ)) {σ : St} {r : Int32 × St} (h : f_X4_houses__5 σ = some r) : Kc (SN l D a cI cS) yX4_houses cX4_houses 1 (some .int) 0 [Value.ref (a 5)] σ r := by
  refine enter (own := RX4) (o := f_X4_houses__5 σ) (plainFor_of_name (by decide +kernel)) rfl (Nat.le_of_ble_eq_true rfl) hI wk_X4_houses.1 h (fun Γ hRT => ?_)
  show G _ Γ _ _ _ _ _ _ σ [((0 : Nat), Value.ref (a 5))] 0 []
  unfold f_X4_houses__5
  refine g_aload_n (pc := 0) 0 dX4_houses_0 rfl rfl ?_
  refine g_get (pc := 1) 5 cN_5 rfl inlX4 6 (by decide) bw_4_4 rfl dX4_houses_1 ?_
  refine g_aload_n (pc := 4) 0 dX4_houses_4 rfl rfl ?_
  refine g_get (pc := 5) 5 cN_5 rfl inlX4 7 (by decide) bw_4_5 rfl dX4_houses_5 ?_
  refine g_imul (pc := 8) dX4_houses_8 ?_
  exact g_iret (pc := 9) hRT dX4_houses_9
set_option maxRecDepth 100000 in
set_option maxHeartbeats 4000000 in
theorem k_X4_hasHouse__5 {l : Launch} {D : va_G} {a : Nat → Nat} {cI cS : ClassId} (hI : ∀ σ : St, va_D (AN a) (cN a cI cS σ)) {σ : St} {x1 : Int32} {r : Int32 × St} (h : f_X4_hasHouse__5 σ x1 = some r) : Kc (SN l D a cI cS) yX4_hasHouse cX4_hasHouse 2 (some .boolean) 1 [Value.ref (a 5), Value.int x1] σ r := by
  refine enter (own := RX4) (o := f_X4_hasHouse__5 σ x1) (plainFor_of_name (by decide +kernel)) rfl (Nat.le_of_ble_eq_true rfl) hI wk_X4_hasHouse.1 h (fun Γ hRT => ?_)
  show G _ Γ _ _ _ _ _ _ σ [((0 : Nat), Value.ref (a 5)), ((1 : Nat), Value.int x1)] 0 []
  unfold f_X4_hasHouse__5
  refine g_jq0 (pc2 := 16) (lf := ([] : List (Nat × Value))) (sf := ([] : List Value)) (fun s3 => ?_) (fun k2 hk2 => ?_)
  · show G _ Γ _ _ _ _ _ _ s3 ([] : List (Nat × Value)) 16 ([] : List Value)
    refine g_iconst (pc := 16) (v := 0) dX4_hasHouse_16 (by decide) ?_
    exact g_zret1 (pc := 17) hRT (by decide) dX4_hasHouse_17
  · refine g_iload_n (pc := 0) 1 dX4_hasHouse_0 rfl rfl ?_
    refine g_if_lt (pc := 1) (tgt := 16) dX4_hasHouse_1 (by decide) ?_ ?_
    · exact g_lv [] rfl (hk2 σ)
    · refine g_iload_n (pc := 4) 1 dX4_hasHouse_4 rfl rfl ?_
      refine g_aload_n (pc := 5) 0 dX4_hasHouse_5 rfl rfl ?_
      refine g_cVi (pc := 6) 5 (As := []) (fun r2 h2 => k_X4_houses__5 hI h2) wk_X4_houses wv_X4_houses bw_11_22 cN_5 rfl (by decide) (by decide) rfl rfl (Nat.le_of_ble_eq_true rfl) dX4_hasHouse_6 (fun r4 s5 => ?_)
      refine g_icmp_ge (pc := 9) (tgt := 16) dX4_hasHouse_9 (by decide) ?_ ?_
      · exact g_lv [] rfl (hk2 s5)
      · refine g_iconst (pc := 12) (v := 1) dX4_hasHouse_12 (by decide) ?_
        refine g_goto (pc := 13) (tgt := 17) dX4_hasHouse_13 (by decide) ?_
        exact g_zret1 (pc := 17) hRT (by decide) dX4_hasHouse_17
set_option maxRecDepth 100000 in
set_option maxHeartbeats 4000000 in
theorem k_X10_isWidth {l : Launch} {D : va_G} {a : Nat → Nat} {cI cS : ClassId} (hI : ∀ σ : St, va_D (AN a) (cN a cI cS σ)) {σ : St} {x1 : Int32} {r : Int32 × St} (h : f_X10_isWidth σ x1 = some r) : Kc (SN l D a cI cS) yX10_isWidth cX10_isWidth 1 (some .boolean) 1 [Value.int x1] σ r := by
  refine enter (own := RX10) (o := f_X10_isWidth σ x1) (plainFor_of_name (by decide +kernel)) rfl (Nat.le_of_ble_eq_true rfl) hI wk_X10_isWidth.1 h (fun Γ hRT => ?_)
  show G _ Γ _ _ _ _ _ _ σ [((0 : Nat), Value.int x1)] 0 []
  unfold f_X10_isWidth
  refine g_iload_n (pc := 0) 0 dX10_isWidth_0 rfl rfl ?_
  refine g_iconst (pc := 1) (v := 0) dX10_isWidth_1 (by decide) ?_
  refine g_bipush (pc := 2) (v := 6) dX10_isWidth_2 (by decide) ?_
  refine g_cSz (pc := 4) (As := [Value.int x1, Value.int (0 : Int32), Value.int (6 : Int32)]) (fun r2 h2 => k_X10_within hI h2) wk_X10_within ws_X10_within bw_12_4 (by decide) (by decide) rfl rfl (Nat.le_of_ble_eq_true rfl) dX10_isWidth_4 (fun r2 s3 => ?_)
  exact g_zret (pc := 7) hRT dX10_isWidth_7
set_option maxRecDepth 100000 in
set_option maxHeartbeats 4000000 in
theorem k_X10_put__6 {l : Launch} {D : va_G} {a : Nat → Nat} {cI cS : ClassId} (hI : ∀ σ : St, va_D (AN a) (cN a cI cS σ)) {σ : St} {x1 x2 : Int32} {r : Int32 × St} (h : f_X10_put__6 σ x1 x2 = some r) : Kc (SN l D a cI cS) yX10_put cX10_put 3 none 0 [Value.ref (a 6), Value.int x1, Value.int x2] σ r := by
  refine enter (own := RX10) (o := f_X10_put__6 σ x1 x2) (plainFor_of_name (by decide +kernel)) rfl (Nat.le_of_ble_eq_true rfl) hI wk_X10_put.1 h (fun Γ hRT => ?_)
  show G _ Γ _ _ _ _ _ _ σ [((0 : Nat), Value.ref (a 6)), ((1 : Nat), Value.int x1), ((2 : Nat), Value.int x2)] 0 []
  unfold f_X10_put__6
  refine g_aload_n (pc := 0) 0 dX10_put_0 rfl rfl ?_
  refine g_ifnull (pc := 1) dX10_put_1 ?_
  refine g_iload_n (pc := 4) 1 dX10_put_4 rfl rfl ?_
  refine g_if_lt (pc := 5) (tgt := 18) dX10_put_5 (by decide) ?_ ?_
  · exact g_vret (pc := 18) hRT dX10_put_18
  · refine g_iload_n (pc := 8) 1 dX10_put_8 rfl rfl ?_
    refine g_aload_n (pc := 9) 0 dX10_put_9 rfl rfl ?_
    refine g_alen (pc := 10) 6 0 (v := 16) cN_6 rfl (show Int32.ofNat 16 = 16 by decide) dX10_put_10 ?_
    refine g_icmp_ge (pc := 11) (tgt := 18) dX10_put_11 (by decide) ?_ ?_
    · exact g_vret (pc := 18) hRT dX10_put_18
    · refine g_aload_n (pc := 14) 0 dX10_put_14 rfl rfl ?_
      refine g_iload_n (pc := 15) 1 dX10_put_15 rfl rfl ?_
      refine g_iload_n (pc := 16) 2 dX10_put_16 rfl rfl ?_
      refine g_iast (pc := 17) 6 cN_6 rfl cN_s6 dX10_put_17 (fun s3 => ?_)
      exact g_vret (pc := 18) hRT dX10_put_18
set_option maxRecDepth 100000 in
set_option maxHeartbeats 4000000 in
theorem k_X10_put__7 {l : Launch} {D : va_G} {a : Nat → Nat} {cI cS : ClassId} (hI : ∀ σ : St, va_D (AN a) (cN a cI cS σ)) {σ : St} {x1 x2 : Int32} {r : Int32 × St} (h : f_X10_put__7 σ x1 x2 = some r) : Kc (SN l D a cI cS) yX10_put cX10_put 3 none 0 [Value.ref (a 7), Value.int x1, Value.int x2] σ r := by
  refine enter (own := RX10) (o := f_X10_put__7 σ x1 x2) (plainFor_of_name (by decide +kernel)) rfl (Nat.le_of_ble_eq_true rfl) hI wk_X10_put.1 h (fun Γ hRT => ?_)
  show G _ Γ _ _ _ _ _ _ σ [((0 : Nat), Value.ref (a 7)), ((1 : Nat), Value.int x1), ((2 : Nat), Value.int x2)] 0 []
  unfold f_X10_put__7
  refine g_aload_n (pc := 0) 0 dX10_put_0 rfl rfl ?_
  refine g_ifnull (pc := 1) dX10_put_1 ?_
  refine g_iload_n (pc := 4) 1 dX10_put_4 rfl rfl ?_
  refine g_if_lt (pc := 5) (tgt := 18) dX10_put_5 (by decide) ?_ ?_
  · exact g_vret (pc := 18) hRT dX10_put_18
  · refine g_iload_n (pc := 8) 1 dX10_put_8 rfl rfl ?_
    refine g_aload_n (pc := 9) 0 dX10_put_9 rfl rfl ?_
    refine g_alen (pc := 10) 7 0 (v := 16) cN_7 rfl (show Int32.ofNat 16 = 16 by decide) dX10_put_10 ?_
    refine g_icmp_ge (pc := 11) (tgt := 18) dX10_put_11 (by decide) ?_ ?_
    · exact g_vret (pc := 18) hRT dX10_put_18
    · refine g_aload_n (pc := 14) 0 dX10_put_14 rfl rfl ?_
      refine g_iload_n (pc := 15) 1 dX10_put_15 rfl rfl ?_
      refine g_iload_n (pc := 16) 2 dX10_put_16 rfl rfl ?_
      refine g_iast (pc := 17) 7 cN_7 rfl cN_s7 dX10_put_17 (fun s3 => ?_)
      exact g_vret (pc := 18) hRT dX10_put_18
set_option maxRecDepth 100000 in
set_option maxHeartbeats 4000000 in
theorem k_X4_takeHouse__5 {l : Launch} {D : va_G} {a : Nat → Nat} {cI cS : ClassId} (hI : ∀ σ : St, va_D (AN a) (cN a cI cS σ)) {σ : St} {x1 x2 x3 : Int32} {r : Int32 × St} (h : f_X4_takeHouse__5 σ x1 x2 x3 = some r) : Kc (SN l D a cI cS) yX4_takeHouse cX4_takeHouse 4 (some .boolean) 2 [Value.ref (a 5), Value.int x1, Value.int x2, Value.int x3] σ r := by
  refine enter (own := RX4) (o := f_X4_takeHouse__5 σ x1 x2 x3) (plainFor_of_name (by decide +kernel)) rfl (Nat.le_of_ble_eq_true rfl) hI wk_X4_takeHouse.1 h (fun Γ hRT => ?_)
  show G _ Γ _ _ _ _ _ _ σ [((0 : Nat), Value.ref (a 5)), ((1 : Nat), Value.int x1), ((2 : Nat), Value.int x2), ((3 : Nat), Value.int x3)] 0 []
  unfold f_X4_takeHouse__5
  refine g_aload_n (pc := 0) 0 dX4_takeHouse_0 rfl rfl ?_
  refine g_iload_n (pc := 1) 1 dX4_takeHouse_1 rfl rfl ?_
  refine g_cVz (pc := 2) 5 (As := [Value.int x1]) (fun r2 h2 => k_X4_hasHouse__5 hI h2) wk_X4_hasHouse wv_X4_hasHouse bw_11_18 cN_5 rfl (by decide) (by decide) rfl rfl (Nat.le_of_ble_eq_true rfl) dX4_takeHouse_2 (fun r4 s5 => ?_)
  refine g_if_eq (pc := 5) (tgt := 20) dX4_takeHouse_5 (by decide) ?_ ?_
  · refine g_iconst (pc := 20) (v := 0) dX4_takeHouse_20 (by decide) ?_
    exact g_zret1 (pc := 21) hRT (by decide) dX4_takeHouse_21
  · refine g_iload_n (pc := 8) 2 dX4_takeHouse_8 rfl rfl ?_
    refine g_iconst (pc := 9) (v := 4) dX4_takeHouse_9 (by decide) ?_
    refine g_icmp_gt (pc := 10) (tgt := 20) dX4_takeHouse_10 (by decide) ?_ ?_
    · refine g_iconst (pc := 20) (v := 0) dX4_takeHouse_20 (by decide) ?_
      exact g_zret1 (pc := 21) hRT (by decide) dX4_takeHouse_21
    · refine g_iload_n (pc := 13) 3 dX4_takeHouse_13 rfl rfl ?_
      refine g_cNz (pc := 14) (As := [Value.int x3]) (fun r2 h2 => k_X10_isWidth hI h2) wk_X10_isWidth ws_X10_isWidth nst_RX4_86 (by decide) (by decide) rfl rfl (Nat.le_of_ble_eq_true rfl) dX4_takeHouse_14 (fun r6 s7 => ?_)
      refine g_if_ne (pc := 17) (tgt := 22) dX4_takeHouse_17 (by decide) ?_ ?_
      · refine g_aload_n (pc := 22) 0 dX4_takeHouse_22 rfl rfl ?_
        refine g_get (pc := 23) 5 cN_5 rfl inlX4 0 (by decide) bw_3_22 rfl dX4_takeHouse_23 ?_
        refine g_iload_n (pc := 26) 1 dX4_takeHouse_26 rfl rfl ?_
        refine g_iload_n (pc := 27) 2 dX4_takeHouse_27 rfl rfl ?_
        refine g_cNv (pc := 28) (As := [Value.ref (a 6), Value.int x1, Value.int x2]) (fun r2 h2 => k_X10_put__6 hI h2) wk_X10_put ws_X10_put nst_RX4_89 (by decide) (by decide) rfl rfl (Nat.le_of_ble_eq_true rfl) dX4_takeHouse_28 (fun r8 s9 => ?_)
        refine g_aload_n (pc := 31) 0 dX4_takeHouse_31 rfl rfl ?_
        refine g_get (pc := 32) 5 cN_5 rfl inlX4 1 (by decide) bw_3_23 rfl dX4_takeHouse_32 ?_
        refine g_iload_n (pc := 35) 1 dX4_takeHouse_35 rfl rfl ?_
        refine g_iload_n (pc := 36) 3 dX4_takeHouse_36 rfl rfl ?_
        refine g_cNv (pc := 37) (As := [Value.ref (a 7), Value.int x1, Value.int x3]) (fun r2 h2 => k_X10_put__7 hI h2) wk_X10_put ws_X10_put nst_RX4_89 (by decide) (by decide) rfl rfl (Nat.le_of_ble_eq_true rfl) dX4_takeHouse_37 (fun r10 s11 => ?_)
        refine g_iconst (pc := 40) (v := 1) dX4_takeHouse_40 (by decide) ?_
        exact g_zret1 (pc := 41) hRT (by decide) dX4_takeHouse_41
      · refine g_iconst (pc := 20) (v := 0) dX4_takeHouse_20 (by decide) ?_
        exact g_zret1 (pc := 21) hRT (by decide) dX4_takeHouse_21
set_option maxRecDepth 100000 in
set_option maxHeartbeats 4000000 in
theorem k_X10_put__8 {l : Launch} {D : va_G} {a : Nat → Nat} {cI cS : ClassId} (hI : ∀ σ : St, va_D (AN a) (cN a cI cS σ)) {σ : St} {x1 x2 : Int32} {r : Int32 × St} (h : f_X10_put__8 σ x1 x2 = some r) : Kc (SN l D a cI cS) yX10_put cX10_put 3 none 0 [Value.ref (a 8), Value.int x1, Value.int x2] σ r := by
  refine enter (own := RX10) (o := f_X10_put__8 σ x1 x2) (plainFor_of_name (by decide +kernel)) rfl (Nat.le_of_ble_eq_true rfl) hI wk_X10_put.1 h (fun Γ hRT => ?_)
  show G _ Γ _ _ _ _ _ _ σ [((0 : Nat), Value.ref (a 8)), ((1 : Nat), Value.int x1), ((2 : Nat), Value.int x2)] 0 []
  unfold f_X10_put__8
  refine g_aload_n (pc := 0) 0 dX10_put_0 rfl rfl ?_
  refine g_ifnull (pc := 1) dX10_put_1 ?_
  refine g_iload_n (pc := 4) 1 dX10_put_4 rfl rfl ?_
  refine g_if_lt (pc := 5) (tgt := 18) dX10_put_5 (by decide) ?_ ?_
  · exact g_vret (pc := 18) hRT dX10_put_18
  · refine g_iload_n (pc := 8) 1 dX10_put_8 rfl rfl ?_
    refine g_aload_n (pc := 9) 0 dX10_put_9 rfl rfl ?_
    refine g_alen (pc := 10) 8 0 (v := 5) cN_8 rfl (show Int32.ofNat 5 = 5 by decide) dX10_put_10 ?_
    refine g_icmp_ge (pc := 11) (tgt := 18) dX10_put_11 (by decide) ?_ ?_
    · exact g_vret (pc := 18) hRT dX10_put_18
    · refine g_aload_n (pc := 14) 0 dX10_put_14 rfl rfl ?_
      refine g_iload_n (pc := 15) 1 dX10_put_15 rfl rfl ?_
      refine g_iload_n (pc := 16) 2 dX10_put_16 rfl rfl ?_
      refine g_iast (pc := 17) 8 cN_8 rfl cN_s8 dX10_put_17 (fun s3 => ?_)
      exact g_vret (pc := 18) hRT dX10_put_18
set_option maxRecDepth 100000 in
set_option maxHeartbeats 4000000 in
theorem k_X10_put__9 {l : Launch} {D : va_G} {a : Nat → Nat} {cI cS : ClassId} (hI : ∀ σ : St, va_D (AN a) (cN a cI cS σ)) {σ : St} {x1 x2 : Int32} {r : Int32 × St} (h : f_X10_put__9 σ x1 x2 = some r) : Kc (SN l D a cI cS) yX10_put cX10_put 3 none 0 [Value.ref (a 9), Value.int x1, Value.int x2] σ r := by
  refine enter (own := RX10) (o := f_X10_put__9 σ x1 x2) (plainFor_of_name (by decide +kernel)) rfl (Nat.le_of_ble_eq_true rfl) hI wk_X10_put.1 h (fun Γ hRT => ?_)
  show G _ Γ _ _ _ _ _ _ σ [((0 : Nat), Value.ref (a 9)), ((1 : Nat), Value.int x1), ((2 : Nat), Value.int x2)] 0 []
  unfold f_X10_put__9
  refine g_aload_n (pc := 0) 0 dX10_put_0 rfl rfl ?_
  refine g_ifnull (pc := 1) dX10_put_1 ?_
  refine g_iload_n (pc := 4) 1 dX10_put_4 rfl rfl ?_
  refine g_if_lt (pc := 5) (tgt := 18) dX10_put_5 (by decide) ?_ ?_
  · exact g_vret (pc := 18) hRT dX10_put_18
  · refine g_iload_n (pc := 8) 1 dX10_put_8 rfl rfl ?_
    refine g_aload_n (pc := 9) 0 dX10_put_9 rfl rfl ?_
    refine g_alen (pc := 10) 9 0 (v := 5) cN_9 rfl (show Int32.ofNat 5 = 5 by decide) dX10_put_10 ?_
    refine g_icmp_ge (pc := 11) (tgt := 18) dX10_put_11 (by decide) ?_ ?_
    · exact g_vret (pc := 18) hRT dX10_put_18
    · refine g_aload_n (pc := 14) 0 dX10_put_14 rfl rfl ?_
      refine g_iload_n (pc := 15) 1 dX10_put_15 rfl rfl ?_
      refine g_iload_n (pc := 16) 2 dX10_put_16 rfl rfl ?_
      refine g_iast (pc := 17) 9 cN_9 rfl cN_s9 dX10_put_17 (fun s3 => ?_)
      exact g_vret (pc := 18) hRT dX10_put_18
set_option maxRecDepth 100000 in
set_option maxHeartbeats 4000000 in
theorem k_X10_put__10 {l : Launch} {D : va_G} {a : Nat → Nat} {cI cS : ClassId} (hI : ∀ σ : St, va_D (AN a) (cN a cI cS σ)) {σ : St} {x1 x2 : Int32} {r : Int32 × St} (h : f_X10_put__10 σ x1 x2 = some r) : Kc (SN l D a cI cS) yX10_put cX10_put 3 none 0 [Value.ref (a 10), Value.int x1, Value.int x2] σ r := by
  refine enter (own := RX10) (o := f_X10_put__10 σ x1 x2) (plainFor_of_name (by decide +kernel)) rfl (Nat.le_of_ble_eq_true rfl) hI wk_X10_put.1 h (fun Γ hRT => ?_)
  show G _ Γ _ _ _ _ _ _ σ [((0 : Nat), Value.ref (a 10)), ((1 : Nat), Value.int x1), ((2 : Nat), Value.int x2)] 0 []
  unfold f_X10_put__10
  refine g_aload_n (pc := 0) 0 dX10_put_0 rfl rfl ?_
  refine g_ifnull (pc := 1) dX10_put_1 ?_
  refine g_iload_n (pc := 4) 1 dX10_put_4 rfl rfl ?_
  refine g_if_lt (pc := 5) (tgt := 18) dX10_put_5 (by decide) ?_ ?_
  · exact g_vret (pc := 18) hRT dX10_put_18
  · refine g_iload_n (pc := 8) 1 dX10_put_8 rfl rfl ?_
    refine g_aload_n (pc := 9) 0 dX10_put_9 rfl rfl ?_
    refine g_alen (pc := 10) 10 0 (v := 5) cN_10 rfl (show Int32.ofNat 5 = 5 by decide) dX10_put_10 ?_
    refine g_icmp_ge (pc := 11) (tgt := 18) dX10_put_11 (by decide) ?_ ?_
    · exact g_vret (pc := 18) hRT dX10_put_18
    · refine g_aload_n (pc := 14) 0 dX10_put_14 rfl rfl ?_
      refine g_iload_n (pc := 15) 1 dX10_put_15 rfl rfl ?_
      refine g_iload_n (pc := 16) 2 dX10_put_16 rfl rfl ?_
      refine g_iast (pc := 17) 10 cN_10 rfl cN_s10 dX10_put_17 (fun s3 => ?_)
      exact g_vret (pc := 18) hRT dX10_put_18
set_option maxRecDepth 100000 in
set_option maxHeartbeats 4000000 in
theorem k_X4_takeNews__5 {l : Launch} {D : va_G} {a : Nat → Nat} {cI cS : ClassId} (hI : ∀ σ : St, va_D (AN a) (cN a cI cS σ)) {σ : St} {x1 x2 x3 : Int32} {r : Int32 × St} (h : f_X4_takeNews__5 σ x1 x2 x3 = some r) : Kc (SN l D a cI cS) yX4_takeNews cX4_takeNews 4 (some .boolean) 2 [Value.ref (a 5), Value.int x1, Value.int x2, Value.int x3] σ r := by
  refine enter (own := RX4) (o := f_X4_takeNews__5 σ x1 x2 x3) (plainFor_of_name (by decide +kernel)) rfl (Nat.le_of_ble_eq_true rfl) hI wk_X4_takeNews.1 h (fun Γ hRT => ?_)
  show G _ Γ _ _ _ _ _ _ σ [((0 : Nat), Value.ref (a 5)), ((1 : Nat), Value.int x1), ((2 : Nat), Value.int x2), ((3 : Nat), Value.int x3)] 0 []
  unfold f_X4_takeNews__5
  refine g_iload_n (pc := 0) 1 dX4_takeNews_0 rfl rfl ?_
  refine g_iconst (pc := 1) (v := 2) dX4_takeNews_1 (by decide) ?_
  refine g_icmp_gt (pc := 2) (tgt := 22) dX4_takeNews_2 (by decide) ?_ ?_
  · refine g_iconst (pc := 22) (v := 0) dX4_takeNews_22 (by decide) ?_
    exact g_zret1 (pc := 23) hRT (by decide) dX4_takeNews_23
  · refine g_iload_n (pc := 5) 2 dX4_takeNews_5 rfl rfl ?_
    refine g_iconst (pc := 6) (v := 1) dX4_takeNews_6 (by decide) ?_
    refine g_iconst (pc := 7) (v := 4) dX4_takeNews_7 (by decide) ?_
    refine g_cNz (pc := 8) (As := [Value.int x2, Value.int (1 : Int32), Value.int (4 : Int32)]) (fun r2 h2 => k_X10_within hI h2) wk_X10_within ws_X10_within nst_RX4_76 (by decide) (by decide) rfl rfl (Nat.le_of_ble_eq_true rfl) dX4_takeNews_8 (fun r4 s5 => ?_)
    refine g_if_eq (pc := 11) (tgt := 22) dX4_takeNews_11 (by decide) ?_ ?_
    · refine g_iconst (pc := 22) (v := 0) dX4_takeNews_22 (by decide) ?_
      exact g_zret1 (pc := 23) hRT (by decide) dX4_takeNews_23
    · refine g_aload_n (pc := 14) 0 dX4_takeNews_14 rfl rfl ?_
      refine g_iload_n (pc := 15) 3 dX4_takeNews_15 rfl rfl ?_
      refine g_cVz (pc := 16) 5 (As := [Value.int x3]) (fun r2 h2 => k_X4_hasHouse__5 hI h2) wk_X4_hasHouse wv_X4_hasHouse bw_11_18 cN_5 rfl (by decide) (by decide) rfl rfl (Nat.le_of_ble_eq_true rfl) dX4_takeNews_16 (fun r6 s7 => ?_)
      refine g_if_ne (pc := 19) (tgt := 24) dX4_takeNews_19 (by decide) ?_ ?_
      · refine g_aload_n (pc := 24) 0 dX4_takeNews_24 rfl rfl ?_
        refine g_get (pc := 25) 5 cN_5 rfl inlX4 10 (by decide) bw_4_8 rfl dX4_takeNews_25 ?_
        refine g_iconst (pc := 28) (v := 5) dX4_takeNews_28 (by decide) ?_
        refine g_icmp_lt (pc := 29) (tgt := 34) dX4_takeNews_29 (by decide) ?_ ?_
        · refine g_aload_n (pc := 34) 0 dX4_takeNews_34 rfl rfl ?_
          refine g_get (pc := 35) 5 cN_5 rfl inlX4 2 (by decide) bw_4_0 rfl dX4_takeNews_35 ?_
          refine g_aload_n (pc := 38) 0 dX4_takeNews_38 rfl rfl ?_
          refine g_get (pc := 39) 5 cN_5 rfl inlX4 10 (by decide) bw_4_8 rfl dX4_takeNews_39 ?_
          refine g_iload_n (pc := 42) 1 dX4_takeNews_42 rfl rfl ?_
          refine g_cNv (pc := 43) (As := [Value.ref (a 8), Value.int (s7 5 10), Value.int x1]) (fun r2 h2 => k_X10_put__8 hI h2) wk_X10_put ws_X10_put nst_RX4_89 (by decide) (by decide) rfl rfl (Nat.le_of_ble_eq_true rfl) dX4_takeNews_43 (fun r8 s9 => ?_)
          refine g_aload_n (pc := 46) 0 dX4_takeNews_46 rfl rfl ?_
          refine g_get (pc := 47) 5 cN_5 rfl inlX4 3 (by decide) bw_4_1 rfl dX4_takeNews_47 ?_
          refine g_aload_n (pc := 50) 0 dX4_takeNews_50 rfl rfl ?_
          refine g_get (pc := 51) 5 cN_5 rfl inlX4 10 (by decide) bw_4_8 rfl dX4_takeNews_51 ?_
          refine g_iload_n (pc := 54) 2 dX4_takeNews_54 rfl rfl ?_
          refine g_cNv (pc := 55) (As := [Value.ref (a 9), Value.int (s9 5 10), Value.int x2]) (fun r2 h2 => k_X10_put__9 hI h2) wk_X10_put ws_X10_put nst_RX4_89 (by decide) (by decide) rfl rfl (Nat.le_of_ble_eq_true rfl) dX4_takeNews_55 (fun r10 s11 => ?_)
          refine g_aload_n (pc := 58) 0 dX4_takeNews_58 rfl rfl ?_
          refine g_get (pc := 59) 5 cN_5 rfl inlX4 4 (by decide) bw_4_2 rfl dX4_takeNews_59 ?_
          refine g_aload_n (pc := 62) 0 dX4_takeNews_62 rfl rfl ?_
          refine g_get (pc := 63) 5 cN_5 rfl inlX4 10 (by decide) bw_4_8 rfl dX4_takeNews_63 ?_
          refine g_iload_n (pc := 66) 3 dX4_takeNews_66 rfl rfl ?_
          refine g_cNv (pc := 67) (As := [Value.ref (a 10), Value.int (s11 5 10), Value.int x3]) (fun r2 h2 => k_X10_put__10 hI h2) wk_X10_put ws_X10_put nst_RX4_89 (by decide) (by decide) rfl rfl (Nat.le_of_ble_eq_true rfl) dX4_takeNews_67 (fun r12 s13 => ?_)
          refine g_aload_n (pc := 70) 0 dX4_takeNews_70 rfl rfl ?_
          refine g_dup (pc := 71) dX4_takeNews_71 rfl ?_
          refine g_get (pc := 72) 5 cN_5 rfl inlX4 10 (by decide) bw_4_8 rfl dX4_takeNews_72 ?_
          refine g_iconst (pc := 75) (v := 1) dX4_takeNews_75 (by decide) ?_
          refine g_iadd (pc := 76) dX4_takeNews_76 ?_
          refine g_put (pc := 77) 5 (ty := .int) cN_5 rfl inlX4 tyX4_ok nmX4 10 (by decide) bw_4_8 rfl (by decide +kernel) rfl rfl (Nat.le_of_ble_eq_true rfl) cN_f5_10 dX4_takeNews_77 (fun s14 => ?_)
          refine g_iconst (pc := 80) (v := 1) dX4_takeNews_80 (by decide) ?_
          exact g_zret1 (pc := 81) hRT (by decide) dX4_takeNews_81
        · refine g_iconst (pc := 32) (v := 0) dX4_takeNews_32 (by decide) ?_
          exact g_zret1 (pc := 33) hRT (by decide) dX4_takeNews_33
      · refine g_iconst (pc := 22) (v := 0) dX4_takeNews_22 (by decide) ?_
        exact g_zret1 (pc := 23) hRT (by decide) dX4_takeNews_23
set_option maxRecDepth 100000 in
set_option maxHeartbeats 4000000 in
theorem k_X10_put__11 {l : Launch} {D : va_G} {a : Nat → Nat} {cI cS : ClassId} (hI : ∀ σ : St, va_D (AN a) (cN a cI cS σ)) {σ : St} {x1 x2 : Int32} {r : Int32 × St} (h : f_X10_put__11 σ x1 x2 = some r) : Kc (SN l D a cI cS) yX10_put cX10_put 3 none 0 [Value.ref (a 11), Value.int x1, Value.int x2] σ r := by
  refine enter (own := RX10) (o := f_X10_put__11 σ x1 x2) (plainFor_of_name (by decide +kernel)) rfl (Nat.le_of_ble_eq_true rfl) hI wk_X10_put.1 h (fun Γ hRT => ?_)
  show G _ Γ _ _ _ _ _ _ σ [((0 : Nat), Value.ref (a 11)), ((1 : Nat), Value.int x1), ((2 : Nat), Value.int x2)] 0 []
  unfold f_X10_put__11
  refine g_aload_n (pc := 0) 0 dX10_put_0 rfl rfl ?_
  refine g_ifnull (pc := 1) dX10_put_1 ?_
  refine g_iload_n (pc := 4) 1 dX10_put_4 rfl rfl ?_
  refine g_if_lt (pc := 5) (tgt := 18) dX10_put_5 (by decide) ?_ ?_
  · exact g_vret (pc := 18) hRT dX10_put_18
  · refine g_iload_n (pc := 8) 1 dX10_put_8 rfl rfl ?_
    refine g_aload_n (pc := 9) 0 dX10_put_9 rfl rfl ?_
    refine g_alen (pc := 10) 11 0 (v := 8) cN_11 rfl (show Int32.ofNat 8 = 8 by decide) dX10_put_10 ?_
    refine g_icmp_ge (pc := 11) (tgt := 18) dX10_put_11 (by decide) ?_ ?_
    · exact g_vret (pc := 18) hRT dX10_put_18
    · refine g_aload_n (pc := 14) 0 dX10_put_14 rfl rfl ?_
      refine g_iload_n (pc := 15) 1 dX10_put_15 rfl rfl ?_
      refine g_iload_n (pc := 16) 2 dX10_put_16 rfl rfl ?_
      refine g_iast (pc := 17) 11 cN_11 rfl cN_s11 dX10_put_17 (fun s3 => ?_)
      exact g_vret (pc := 18) hRT dX10_put_18
set_option maxRecDepth 100000 in
set_option maxHeartbeats 4000000 in
theorem k_X4_takeWind__5 {l : Launch} {D : va_G} {a : Nat → Nat} {cI cS : ClassId} (hI : ∀ σ : St, va_D (AN a) (cN a cI cS σ)) {σ : St} {x1 : Int32} {r : Int32 × St} (h : f_X4_takeWind__5 σ x1 = some r) : Kc (SN l D a cI cS) yX4_takeWind cX4_takeWind 2 (some .boolean) 1 [Value.ref (a 5), Value.int x1] σ r := by
  refine enter (own := RX4) (o := f_X4_takeWind__5 σ x1) (plainFor_of_name (by decide +kernel)) rfl (Nat.le_of_ble_eq_true rfl) hI wk_X4_takeWind.1 h (fun Γ hRT => ?_)
  show G _ Γ _ _ _ _ _ _ σ [((0 : Nat), Value.ref (a 5)), ((1 : Nat), Value.int x1)] 0 []
  unfold f_X4_takeWind__5
  refine g_iload_n (pc := 0) 1 dX4_takeWind_0 rfl rfl ?_
  refine g_iconst (pc := 1) (v := 4) dX4_takeWind_1 (by decide) ?_
  refine g_icmp_gt (pc := 2) (tgt := 14) dX4_takeWind_2 (by decide) ?_ ?_
  · refine g_iconst (pc := 14) (v := 0) dX4_takeWind_14 (by decide) ?_
    exact g_zret1 (pc := 15) hRT (by decide) dX4_takeWind_15
  · refine g_aload_n (pc := 5) 0 dX4_takeWind_5 rfl rfl ?_
    refine g_get (pc := 6) 5 cN_5 rfl inlX4 11 (by decide) bw_4_9 rfl dX4_takeWind_6 ?_
    refine g_bipush (pc := 9) (v := 8) dX4_takeWind_9 (by decide) ?_
    refine g_icmp_lt (pc := 11) (tgt := 16) dX4_takeWind_11 (by decide) ?_ ?_
    · refine g_aload_n (pc := 16) 0 dX4_takeWind_16 rfl rfl ?_
      refine g_get (pc := 17) 5 cN_5 rfl inlX4 5 (by decide) bw_4_3 rfl dX4_takeWind_17 ?_
      refine g_aload_n (pc := 20) 0 dX4_takeWind_20 rfl rfl ?_
      refine g_get (pc := 21) 5 cN_5 rfl inlX4 11 (by decide) bw_4_9 rfl dX4_takeWind_21 ?_
      refine g_iload_n (pc := 24) 1 dX4_takeWind_24 rfl rfl ?_
      refine g_cNv (pc := 25) (As := [Value.ref (a 11), Value.int (σ 5 11), Value.int x1]) (fun r2 h2 => k_X10_put__11 hI h2) wk_X10_put ws_X10_put nst_RX4_89 (by decide) (by decide) rfl rfl (Nat.le_of_ble_eq_true rfl) dX4_takeWind_25 (fun r2 s3 => ?_)
      refine g_aload_n (pc := 28) 0 dX4_takeWind_28 rfl rfl ?_
      refine g_dup (pc := 29) dX4_takeWind_29 rfl ?_
      refine g_get (pc := 30) 5 cN_5 rfl inlX4 11 (by decide) bw_4_9 rfl dX4_takeWind_30 ?_
      refine g_iconst (pc := 33) (v := 1) dX4_takeWind_33 (by decide) ?_
      refine g_iadd (pc := 34) dX4_takeWind_34 ?_
      refine g_put (pc := 35) 5 (ty := .int) cN_5 rfl inlX4 tyX4_ok nmX4 11 (by decide) bw_4_9 rfl (by decide +kernel) rfl rfl (Nat.le_of_ble_eq_true rfl) cN_f5_11 dX4_takeWind_35 (fun s4 => ?_)
      refine g_iconst (pc := 38) (v := 1) dX4_takeWind_38 (by decide) ?_
      exact g_zret1 (pc := 39) hRT (by decide) dX4_takeWind_39
    · refine g_iconst (pc := 14) (v := 0) dX4_takeWind_14 (by decide) ?_
      exact g_zret1 (pc := 15) hRT (by decide) dX4_takeWind_15
set_option maxRecDepth 100000 in
set_option maxHeartbeats 4000000 in
theorem k_X4_take__5_4 {l : Launch} {D : va_G} {a : Nat → Nat} {cI cS : ClassId} (hI : ∀ σ : St, va_D (AN a) (cN a cI cS σ)) {σ : St} {x1 x2 : Int32} {r : Int32 × St} (h : f_X4_take__5_4 σ x1 x2 = some r) : Kc (SN l D a cI cS) yX4_take cX4_take 7 (some .boolean) 3 [Value.ref (a 5), Value.int x1, Value.int x2, Value.ref (a 4)] σ r := by
  refine enter (own := RX4) (o := f_X4_take__5_4 σ x1 x2) (plainFor_of_name (by decide +kernel)) rfl (Nat.le_of_ble_eq_true rfl) hI wk_X4_take.1 h (fun Γ hRT => ?_)
  show G _ Γ _ _ _ _ _ _ σ [((0 : Nat), Value.ref (a 5)), ((1 : Nat), Value.int x1), ((2 : Nat), Value.int x2), ((3 : Nat), Value.ref (a 4))] 0 []
  unfold f_X4_take__5_4
  refine g_aload_n (pc := 0) 3 dX4_take_0 rfl rfl ?_
  refine g_iconst (pc := 1) (v := 0) dX4_take_1 (by decide) ?_
  refine g_cNi (pc := 2) (As := [Value.ref (a 4), Value.int (0 : Int32)]) (fun r2 h2 => k_X10_at__4 hI h2) wk_X10_at ws_X10_at nst_RX4_61 (by decide) (by decide) rfl rfl (Nat.le_of_ble_eq_true rfl) dX4_take_2 (fun r3 s4 => ?_)
  refine g_istore (pc := 5) [1, 2, 3, 4, 0] (lv1 := [(0, Value.ref (a 5)), (1, Value.int x1), (2, Value.int x2), (3, Value.ref (a 4)), (4, Value.int r3)]) dX4_take_5 (by decide) rfl ?_
  refine g_aload_n (pc := 7) 3 dX4_take_7 rfl rfl ?_
  refine g_iconst (pc := 8) (v := 1) dX4_take_8 (by decide) ?_
  refine g_cNi (pc := 9) (As := [Value.ref (a 4), Value.int (1 : Int32)]) (fun r2 h2 => k_X10_at__4 hI h2) wk_X10_at ws_X10_at nst_RX4_61 (by decide) (by decide) rfl rfl (Nat.le_of_ble_eq_true rfl) dX4_take_9 (fun r5 s6 => ?_)
  refine g_istore (pc := 12) [1, 2, 3, 4, 5, 0] (lv1 := [(0, Value.ref (a 5)), (1, Value.int x1), (2, Value.int x2), (3, Value.ref (a 4)), (4, Value.int r3), (5, Value.int r5)]) dX4_take_12 (by decide) rfl ?_
  refine g_aload_n (pc := 14) 3 dX4_take_14 rfl rfl ?_
  refine g_iconst (pc := 15) (v := 2) dX4_take_15 (by decide) ?_
  refine g_cNi (pc := 16) (As := [Value.ref (a 4), Value.int (2 : Int32)]) (fun r2 h2 => k_X10_at__4 hI h2) wk_X10_at ws_X10_at nst_RX4_61 (by decide) (by decide) rfl rfl (Nat.le_of_ble_eq_true rfl) dX4_take_16 (fun r7 s8 => ?_)
  refine g_istore (pc := 19) [1, 2, 3, 4, 5, 6, 0] (lv1 := [(0, Value.ref (a 5)), (1, Value.int x1), (2, Value.int x2), (3, Value.ref (a 4)), (4, Value.int r3), (5, Value.int r5), (6, Value.int r7)]) dX4_take_19 (by decide) rfl ?_
  refine g_iload_n (pc := 21) 1 dX4_take_21 rfl rfl ?_
  refine g_bipush (pc := 22) (v := 103) dX4_take_22 (by decide) ?_
  refine g_icmp_ne (pc := 24) (tgt := 56) dX4_take_24 (by decide) ?_ ?_
  · refine g_aload_n (pc := 56) 0 dX4_take_56 rfl rfl ?_
    refine g_iconst (pc := 57) (v := 0) dX4_take_57 (by decide) ?_
    refine g_put (pc := 58) 5 (ty := .boolean) cN_5 rfl inlX4 tyX4_ok nmX4 12 (by decide) bw_4_10 rfl (by decide +kernel) (by decide) (by decide) (Nat.le_of_ble_eq_true rfl) cN_f5_12 dX4_take_58 (fun s9 => ?_)
    refine g_iload_n (pc := 61) 1 dX4_take_61 rfl rfl ?_
    refine g_ite (fun e104_ => ?_) (fun e104_ => ?_)
    · refine g_lookup (pc := 62) (off := 34) (tgt := 96) dX4_take_62 (by decide) (by rw [e104_]; decide) (by decide) ?_
      refine g_jq0 (pc2 := 118) (lf := ([] : List (Nat × Value))) (sf := ([] : List Value)) (fun s11 => ?_) (fun k10 hk10 => ?_)
      · show G _ Γ _ _ _ _ _ _ s11 ([] : List (Nat × Value)) 118 ([] : List Value)
        refine g_iconst (pc := 118) (v := 0) dX4_take_118 (by decide) ?_
        exact g_zret1 (pc := 119) hRT (by decide) dX4_take_119
      · refine g_iload_n (pc := 96) 2 dX4_take_96 rfl rfl ?_
        refine g_iconst (pc := 97) (v := 3) dX4_take_97 (by decide) ?_
        refine g_icmp_ne (pc := 98) (tgt := 118) dX4_take_98 (by decide) ?_ ?_
        · exact g_lv [] rfl (hk10 s9)
        · refine g_aload_n (pc := 101) 0 dX4_take_101 rfl rfl ?_
          refine g_iload (pc := 102) 4 dX4_take_102 rfl ?_
          refine g_iload (pc := 104) 5 dX4_take_104 rfl ?_
          refine g_iload (pc := 106) 6 dX4_take_106 rfl ?_
          refine g_cVz (pc := 108) 5 (As := [Value.int r3, Value.int r5, Value.int r7]) (fun r2 h2 => k_X4_takeHouse__5 hI h2) wk_X4_takeHouse wv_X4_takeHouse bw_11_14 cN_5 rfl (by decide) (by decide) rfl rfl (Nat.le_of_ble_eq_true rfl) dX4_take_108 (fun r12 s13 => ?_)
          refine g_if_eq (pc := 111) (tgt := 118) dX4_take_111 (by decide) ?_ ?_
          · exact g_lv [] rfl (hk10 s13)
          · refine g_iconst (pc := 114) (v := 1) dX4_take_114 (by decide) ?_
            refine g_goto (pc := 115) (tgt := 119) dX4_take_115 (by decide) ?_
            exact g_zret1 (pc := 119) hRT (by decide) dX4_take_119
    · skip
      refine g_ite (fun e110_ => ?_) (fun e110_ => ?_)
      · refine g_lookup (pc := 62) (off := 58) (tgt := 120) dX4_take_62 (by decide) (by rw [e110_]; decide) (by decide) ?_
        refine g_jq0 (pc2 := 142) (lf := ([] : List (Nat × Value))) (sf := ([] : List Value)) (fun s15 => ?_) (fun k14 hk14 => ?_)
        · show G _ Γ _ _ _ _ _ _ s15 ([] : List (Nat × Value)) 142 ([] : List Value)
          refine g_iconst (pc := 142) (v := 0) dX4_take_142 (by decide) ?_
          exact g_zret1 (pc := 143) hRT (by decide) dX4_take_143
        · refine g_iload_n (pc := 120) 2 dX4_take_120 rfl rfl ?_
          refine g_iconst (pc := 121) (v := 3) dX4_take_121 (by decide) ?_
          refine g_icmp_ne (pc := 122) (tgt := 142) dX4_take_122 (by decide) ?_ ?_
          · exact g_lv [] rfl (hk14 s9)
          · refine g_aload_n (pc := 125) 0 dX4_take_125 rfl rfl ?_
            refine g_iload (pc := 126) 4 dX4_take_126 rfl ?_
            refine g_iload (pc := 128) 5 dX4_take_128 rfl ?_
            refine g_iload (pc := 130) 6 dX4_take_130 rfl ?_
            refine g_cVz (pc := 132) 5 (As := [Value.int r3, Value.int r5, Value.int r7]) (fun r2 h2 => k_X4_takeNews__5 hI h2) wk_X4_takeNews wv_X4_takeNews bw_12_5 cN_5 rfl (by decide) (by decide) rfl rfl (Nat.le_of_ble_eq_true rfl) dX4_take_132 (fun r16 s17 => ?_)
            refine g_if_eq (pc := 135) (tgt := 142) dX4_take_135 (by decide) ?_ ?_
            · exact g_lv [] rfl (hk14 s17)
            · refine g_iconst (pc := 138) (v := 1) dX4_take_138 (by decide) ?_
              refine g_goto (pc := 139) (tgt := 143) dX4_take_139 (by decide) ?_
              exact g_zret1 (pc := 143) hRT (by decide) dX4_take_143
      · skip
        refine g_ite (fun e119_ => ?_) (fun e119_ => ?_)
        · refine g_lookup (pc := 62) (off := 82) (tgt := 144) dX4_take_62 (by decide) (by rw [e119_]; decide) (by decide) ?_
          refine g_jq0 (pc2 := 162) (lf := ([] : List (Nat × Value))) (sf := ([] : List Value)) (fun s19 => ?_) (fun k18 hk18 => ?_)
          · show G _ Γ _ _ _ _ _ _ s19 ([] : List (Nat × Value)) 162 ([] : List Value)
            refine g_iconst (pc := 162) (v := 0) dX4_take_162 (by decide) ?_
            exact g_zret1 (pc := 163) hRT (by decide) dX4_take_163
          · refine g_iload_n (pc := 144) 2 dX4_take_144 rfl rfl ?_
            refine g_iconst (pc := 145) (v := 1) dX4_take_145 (by decide) ?_
            refine g_icmp_ne (pc := 146) (tgt := 162) dX4_take_146 (by decide) ?_ ?_
            · exact g_lv [] rfl (hk18 s9)
            · refine g_aload_n (pc := 149) 0 dX4_take_149 rfl rfl ?_
              refine g_iload (pc := 150) 4 dX4_take_150 rfl ?_
              refine g_cVz (pc := 152) 5 (As := [Value.int r3]) (fun r2 h2 => k_X4_takeWind__5 hI h2) wk_X4_takeWind wv_X4_takeWind bw_12_9 cN_5 rfl (by decide) (by decide) rfl rfl (Nat.le_of_ble_eq_true rfl) dX4_take_152 (fun r20 s21 => ?_)
              refine g_if_eq (pc := 155) (tgt := 162) dX4_take_155 (by decide) ?_ ?_
              · exact g_lv [] rfl (hk18 s21)
              · refine g_iconst (pc := 158) (v := 1) dX4_take_158 (by decide) ?_
                refine g_goto (pc := 159) (tgt := 163) dX4_take_159 (by decide) ?_
                exact g_zret1 (pc := 163) hRT (by decide) dX4_take_163
        · skip
          have n104_ : x1.toInt ≠ 104 := fun q => e104_ (Int32.toInt_inj.mp (q.trans (by decide)))
          have n110_ : x1.toInt ≠ 110 := fun q => e110_ (Int32.toInt_inj.mp (q.trans (by decide)))
          have n119_ : x1.toInt ≠ 119 := fun q => e119_ (Int32.toInt_inj.mp (q.trans (by decide)))
          refine g_lookup (pc := 62) (off := 102) (tgt := 164) dX4_take_62 (by decide) (by simp [Op.lookupswitch.offset, List.find?, n104_, Ne.symm n104_, n110_, Ne.symm n110_, n119_, Ne.symm n119_]) (by decide) ?_
          refine g_iconst (pc := 164) (v := 0) dX4_take_164 (by decide) ?_
          exact g_zret1 (pc := 165) hRT (by decide) dX4_take_165
  · refine g_jq0 (pc2 := 54) (lf := ([] : List (Nat × Value))) (sf := ([] : List Value)) (fun s23 => ?_) (fun k22 hk22 => ?_)
    · show G _ Γ _ _ _ _ _ _ s23 ([] : List (Nat × Value)) 54 ([] : List Value)
      refine g_iconst (pc := 54) (v := 0) dX4_take_54 (by decide) ?_
      exact g_zret1 (pc := 55) hRT (by decide) dX4_take_55
    · refine g_iload_n (pc := 27) 2 dX4_take_27 rfl rfl ?_
      refine g_iconst (pc := 28) (v := 2) dX4_take_28 (by decide) ?_
      refine g_icmp_ne (pc := 29) (tgt := 54) dX4_take_29 (by decide) ?_ ?_
      · exact g_lv [] rfl (hk22 s8)
      · refine g_aload_n (pc := 32) 0 dX4_take_32 rfl rfl ?_
        refine g_get (pc := 33) 5 cN_5 rfl inlX4 12 (by decide) bw_4_10 rfl dX4_take_33 ?_
        refine g_if_eq (pc := 36) (tgt := 54) dX4_take_36 (by decide) ?_ ?_
        · exact g_lv [] rfl (hk22 s8)
        · refine g_aload_n (pc := 39) 0 dX4_take_39 rfl rfl ?_
          refine g_iload (pc := 40) 4 dX4_take_40 rfl ?_
          refine g_iload (pc := 42) 5 dX4_take_42 rfl ?_
          refine g_cVz (pc := 44) 5 (As := [Value.int r3, Value.int r5]) (fun r2 h2 => k_X4_takeGrid__5 hI h2) wk_X4_takeGrid wv_X4_takeGrid bw_10_5 cN_5 rfl (by decide) (by decide) rfl rfl (Nat.le_of_ble_eq_true rfl) dX4_take_44 (fun r24 s25 => ?_)
          refine g_if_eq (pc := 47) (tgt := 54) dX4_take_47 (by decide) ?_ ?_
          · exact g_lv [] rfl (hk22 s25)
          · refine g_iconst (pc := 50) (v := 1) dX4_take_50 (by decide) ?_
            refine g_goto (pc := 51) (tgt := 55) dX4_take_51 (by decide) ?_
            exact g_zret1 (pc := 55) hRT (by decide) dX4_take_55
set_option maxRecDepth 100000 in
set_option maxHeartbeats 4000000 in
theorem k_X6_readInto__3_5 {l : Launch} {D : va_G} {a : Nat → Nat} {cI cS : ClassId} (hI : ∀ σ : St, va_D (AN a) (cN a cI cS σ)) {σ : St} {r : Int32 × St} (h : f_X6_readInto__3_5 σ = some r) : Kc (SN l D a cI cS) yX6_readInto cX6_readInto 5 (some .int) 4 [Value.ref (a 3), Value.ref (a 5)] σ r := by
  refine enter (own := RX6) (o := f_X6_readInto__3_5 σ) (plainFor_of_name (by decide +kernel)) rfl (Nat.le_of_ble_eq_true rfl) hI wk_X6_readInto.1 h (fun Γ hRT => ?_)
  show G _ Γ _ _ _ _ _ _ σ [((0 : Nat), Value.ref (a 3)), ((1 : Nat), Value.ref (a 5))] 0 []
  unfold f_X6_readInto__3_5
  refine g_aload_n (pc := 0) 1 dX6_readInto_0 rfl rfl ?_
  refine g_cVv (pc := 1) 5 (As := []) (fun r2 h2 => k_X4_clear__5 hI h2) wk_X4_clear wv_X4_clear bw_9_23 cN_5 rfl (by decide) (by decide) rfl rfl (Nat.le_of_ble_eq_true rfl) dX6_readInto_1 (fun r1 s2 => ?_)
  refine g_aload_n (pc := 4) 0 dX6_readInto_4 rfl rfl ?_
  refine g_iconst (pc := 5) (v := 0) dX6_readInto_5 (by decide) ?_
  refine g_put (pc := 6) 3 (ty := .int) cN_3 rfl inlX6 tyX6_ok nmX6 2 (by decide) bw_3_17 rfl (by decide +kernel) rfl rfl (Nat.le_of_ble_eq_true rfl) cN_f3_2 dX6_readInto_6 (fun s3 => ?_)
  refine g_iconst (pc := 9) (v := 0) dX6_readInto_9 (by decide) ?_
  refine g_istore_n (pc := 10) [1, 2, 0] (lv1 := [(0, Value.ref (a 3)), (1, Value.ref (a 5)), (2, Value.int (0 : Int32))]) dX6_readInto_10 rfl (by decide) rfl ?_
  refine g_lq1 (pc := 11) (lf := fun x5 => [((0 : Nat), Value.ref (a 3)), ((1 : Nat), Value.ref (a 5)), ((2 : Nat), Value.int x5)]) (sf := fun x5 => ([] : List Value)) (fun k4 hk4 s6 x5 => ?_) 100000 s3 _
  show G _ Γ _ _ _ _ _ _ s6 [((0 : Nat), Value.ref (a 3)), ((1 : Nat), Value.ref (a 5)), ((2 : Nat), Value.int x5)] 11 ([] : List Value)
  refine g_iload_n (pc := 11) 2 dX6_readInto_11 rfl rfl ?_
  refine g_sipush (pc := 12) (v := 200) dX6_readInto_12 (by decide) ?_
  refine g_icmp_ge (pc := 15) (tgt := 87) dX6_readInto_15 (by decide) ?_ ?_
  · refine g_bipush (pc := 87) (v := -4) dX6_readInto_87 (by decide) ?_
    exact g_iret (pc := 89) hRT dX6_readInto_89
  · refine g_aload_n (pc := 18) 0 dX6_readInto_18 rfl rfl ?_
    refine g_get (pc := 19) 3 cN_3 rfl inlX6 2 (by decide) bw_3_17 rfl dX6_readInto_19 ?_
    refine g_aload_n (pc := 22) 0 dX6_readInto_22 rfl rfl ?_
    refine g_get (pc := 23) 3 cN_3 rfl inlX6 0 (by decide) bw_3_18 rfl dX6_readInto_23 ?_
    refine g_cVi (pc := 26) 1 (As := []) (fun r2 h2 => k_X7_length__1 hI h2) wk_X7_length wv_X7_length bw_10_13 cN_1 rfl (by decide) (by decide) rfl rfl (Nat.le_of_ble_eq_true rfl) dX6_readInto_26 (fun r7 s8 => ?_)
    refine g_icmp_ge (pc := 29) (tgt := 87) dX6_readInto_29 (by decide) ?_ ?_
    · refine g_bipush (pc := 87) (v := -4) dX6_readInto_87 (by decide) ?_
      exact g_iret (pc := 89) hRT dX6_readInto_89
    · refine g_aload_n (pc := 32) 0 dX6_readInto_32 rfl rfl ?_
      refine g_get (pc := 33) 3 cN_3 rfl inlX6 2 (by decide) bw_3_17 rfl dX6_readInto_33 ?_
      refine g_nm (fun x9 => ?_)
      refine g_istore_n (pc := 36) [1, 2, 3, 0] (lv1 := [(0, Value.ref (a 3)), (1, Value.ref (a 5)), (2, Value.int x5), (3, Value.int x9)]) dX6_readInto_36 rfl (by decide) rfl ?_
      refine g_aload_n (pc := 37) 0 dX6_readInto_37 rfl rfl ?_
      refine g_dup (pc := 38) dX6_readInto_38 rfl ?_
      refine g_get (pc := 39) 3 cN_3 rfl inlX6 2 (by decide) bw_3_17 rfl dX6_readInto_39 ?_
      refine g_iconst (pc := 42) (v := 1) dX6_readInto_42 (by decide) ?_
      refine g_iadd (pc := 43) dX6_readInto_43 ?_
      refine g_put (pc := 44) 3 (ty := .int) cN_3 rfl inlX6 tyX6_ok nmX6 2 (by decide) bw_3_17 rfl (by decide +kernel) rfl rfl (Nat.le_of_ble_eq_true rfl) cN_f3_2 dX6_readInto_44 (fun s10 => ?_)
      refine g_aload_n (pc := 47) 0 dX6_readInto_47 rfl rfl ?_
      refine g_cVi (pc := 48) 3 (As := []) (fun r2 h2 => k_X6_readNumbers__3 hI h2) wk_X6_readNumbers wv_X6_readNumbers bw_10_17 cN_3 rfl (by decide) (by decide) rfl rfl (Nat.le_of_ble_eq_true rfl) dX6_readInto_48 (fun r11 s12 => ?_)
      refine g_istore (pc := 51) [1, 2, 3, 4, 0] (lv1 := [(0, Value.ref (a 3)), (1, Value.ref (a 5)), (2, Value.int x5), (3, Value.int x9), (4, Value.int r11)]) dX6_readInto_51 (by decide) rfl ?_
      refine g_iload (pc := 53) 4 dX6_readInto_53 rfl ?_
      refine g_if_eq (pc := 55) (tgt := 79) dX6_readInto_55 (by decide) ?_ ?_
      · refine g_iload_n (pc := 79) 3 dX6_readInto_79 rfl rfl ?_
        exact g_iret (pc := 80) hRT dX6_readInto_80
      · refine g_aload_n (pc := 58) 1 dX6_readInto_58 rfl rfl ?_
        refine g_aload_n (pc := 59) 0 dX6_readInto_59 rfl rfl ?_
        refine g_get (pc := 60) 3 cN_3 rfl inlX6 0 (by decide) bw_3_18 rfl dX6_readInto_60 ?_
        refine g_iload_n (pc := 63) 3 dX6_readInto_63 rfl rfl ?_
        refine g_cVi (pc := 64) 1 (As := [Value.int x9]) (fun r2 h2 => k_X7_letterAt__1 hI h2) wk_X7_letterAt wv_X7_letterAt bw_11_1 cN_1 rfl (by decide) (by decide) rfl rfl (Nat.le_of_ble_eq_true rfl) dX6_readInto_64 (fun r13 s14 => ?_)
        refine g_iload (pc := 67) 4 dX6_readInto_67 rfl ?_
        refine g_aload_n (pc := 69) 0 dX6_readInto_69 rfl rfl ?_
        refine g_get (pc := 70) 3 cN_3 rfl inlX6 1 (by decide) bw_3_16 rfl dX6_readInto_70 ?_
        refine g_cVz (pc := 73) 5 (As := [Value.int r13, Value.int r11, Value.ref (a 4)]) (fun r2 h2 => k_X4_take__5_4 hI h2) wk_X4_take wv_X4_take bw_11_10 cN_5 rfl (by decide) (by decide) rfl rfl (Nat.le_of_ble_eq_true rfl) dX6_readInto_73 (fun r15 s16 => ?_)
        refine g_if_ne (pc := 76) (tgt := 81) dX6_readInto_76 (by decide) ?_ ?_
        · refine g_iinc (pc := 81) [1, 2, 0, 3, 4] 2 (n1 := 1) (lv1 := fun x17 => [(0, Value.ref (a 3)), (1, Value.ref (a 5)), (2, Value.int x17), (3, Value.int x9), (4, Value.int r11)]) dX6_readInto_81 rfl (by decide) (by decide) (fun _ => rfl) (fun x17 => ?_)
          show G _ Γ _ _ _ _ _ _ _ [(0, Value.ref (a 3)), (1, Value.ref (a 5)), (2, Value.int x17), (3, Value.int x9), (4, Value.int r11)] (81 + 3) _
          refine g_goto (pc := 84) (tgt := 11) dX6_readInto_84 (by decide) ?_
          exact g_lv [0, 1, 2] rfl (hk4 s16 _)
        · refine g_iload_n (pc := 79) 3 dX6_readInto_79 rfl rfl ?_
          exact g_iret (pc := 80) hRT dX6_readInto_80
set_option maxRecDepth 100000 in
set_option maxHeartbeats 4000000 in
theorem k_X10_fault__0 {l : Launch} {D : va_G} {a : Nat → Nat} {cI cS : ClassId} (hI : ∀ σ : St, va_D (AN a) (cN a cI cS σ)) {σ : St} {r : Int32 × St} (h : f_X10_fault__0 σ = some r) : Kc (SN l D a cI cS) yX10_fault cX10_fault 1 (some .int) 5 [Value.ref (a 0)] σ r := by
  refine enter (own := RX10) (o := f_X10_fault__0 σ) (plainFor_of_name (by decide +kernel)) rfl (Nat.le_of_ble_eq_true rfl) hI wk_X10_fault.1 h (fun Γ hRT => ?_)
  show G _ Γ _ _ _ _ _ _ σ [((0 : Nat), Value.ref (a 0))] 0 []
  unfold f_X10_fault__0
  refine g_aload_n (pc := 0) 0 dX10_fault_0 rfl rfl ?_
  refine g_get (pc := 1) 0 cN_0 rfl inlX10 1 (by decide) bw_1_19 rfl dX10_fault_1 ?_
  refine g_aload_n (pc := 4) 0 dX10_fault_4 rfl rfl ?_
  refine g_get (pc := 5) 0 cN_0 rfl inlX10 2 (by decide) bw_1_23 rfl dX10_fault_5 ?_
  refine g_cVi (pc := 8) 3 (As := [Value.ref (a 5)]) (fun r2 h2 => k_X6_readInto__3_5 hI h2) wk_X6_readInto wv_X6_readInto bw_9_19 cN_3 rfl (by decide) (by decide) rfl rfl (Nat.le_of_ble_eq_true rfl) dX10_fault_8 (fun r1 s2 => ?_)
  exact g_iret (pc := 11) hRT dX10_fault_11
set_option maxRecDepth 100000 in
set_option maxHeartbeats 4000000 in
theorem k_X4_newsTold__5 {l : Launch} {D : va_G} {a : Nat → Nat} {cI cS : ClassId} (hI : ∀ σ : St, va_D (AN a) (cN a cI cS σ)) {σ : St} {r : Int32 × St} (h : f_X4_newsTold__5 σ = some r) : Kc (SN l D a cI cS) yX4_newsTold cX4_newsTold 1 (some .int) 0 [Value.ref (a 5)] σ r := by
  refine enter (own := RX4) (o := f_X4_newsTold__5 σ) (plainFor_of_name (by decide +kernel)) rfl (Nat.le_of_ble_eq_true rfl) hI wk_X4_newsTold.1 h (fun Γ hRT => ?_)
  show G _ Γ _ _ _ _ _ _ σ [((0 : Nat), Value.ref (a 5))] 0 []
  unfold f_X4_newsTold__5
  refine g_aload_n (pc := 0) 0 dX4_newsTold_0 rfl rfl ?_
  refine g_get (pc := 1) 5 cN_5 rfl inlX4 10 (by decide) bw_4_8 rfl dX4_newsTold_1 ?_
  exact g_iret (pc := 4) hRT dX4_newsTold_4
set_option maxRecDepth 100000 in
set_option maxHeartbeats 4000000 in
theorem k_X10_fill__13 {l : Launch} {D : va_G} {a : Nat → Nat} {cI cS : ClassId} (hI : ∀ σ : St, va_D (AN a) (cN a cI cS σ)) {σ : St} {x1 : Int32} {r : Int32 × St} (h : f_X10_fill__13 σ x1 = some r) : Kc (SN l D a cI cS) yX10_fill cX10_fill 3 none 0 [Value.ref (a 13), Value.int x1] σ r := by
  refine enter (own := RX10) (o := f_X10_fill__13 σ x1) (plainFor_of_name (by decide +kernel)) rfl (Nat.le_of_ble_eq_true rfl) hI wk_X10_fill.1 h (fun Γ hRT => ?_)
  show G _ Γ _ _ _ _ _ _ σ [((0 : Nat), Value.ref (a 13)), ((1 : Nat), Value.int x1)] 0 []
  unfold f_X10_fill__13
  refine g_iconst (pc := 0) (v := 0) dX10_fill_0 (by decide) ?_
  refine g_istore_n (pc := 1) [1, 2, 0] (lv1 := [(0, Value.ref (a 13)), (1, Value.int x1), (2, Value.int (0 : Int32))]) dX10_fill_1 rfl (by decide) rfl ?_
  refine g_lq1 (pc := 2) (lf := fun x3 => [((0 : Nat), Value.ref (a 13)), ((1 : Nat), Value.int x1), ((2 : Nat), Value.int x3)]) (sf := fun x3 => ([] : List Value)) (fun k2 hk2 s4 x3 => ?_) 100000 σ _
  show G _ Γ _ _ _ _ _ _ s4 [((0 : Nat), Value.ref (a 13)), ((1 : Nat), Value.int x1), ((2 : Nat), Value.int x3)] 2 ([] : List Value)
  refine g_aload_n (pc := 2) 0 dX10_fill_2 rfl rfl ?_
  refine g_ifnull (pc := 3) dX10_fill_3 ?_
  refine g_iload_n (pc := 6) 2 dX10_fill_6 rfl rfl ?_
  refine g_aload_n (pc := 7) 0 dX10_fill_7 rfl rfl ?_
  refine g_alen (pc := 8) 13 0 (v := 16) cN_13 rfl (show Int32.ofNat 16 = 16 by decide) dX10_fill_8 ?_
  refine g_icmp_ge (pc := 9) (tgt := 22) dX10_fill_9 (by decide) ?_ ?_
  · exact g_vret (pc := 22) hRT dX10_fill_22
  · refine g_aload_n (pc := 12) 0 dX10_fill_12 rfl rfl ?_
    refine g_iload_n (pc := 13) 2 dX10_fill_13 rfl rfl ?_
    refine g_iload_n (pc := 14) 1 dX10_fill_14 rfl rfl ?_
    refine g_iast (pc := 15) 13 cN_13 rfl cN_s13 dX10_fill_15 (fun s5 => ?_)
    refine g_iinc (pc := 16) [1, 2, 0] 2 (n1 := 1) (lv1 := fun x6 => [(0, Value.ref (a 13)), (1, Value.int x1), (2, Value.int x6)]) dX10_fill_16 rfl (by decide) (by decide) (fun _ => rfl) (fun x6 => ?_)
    show G _ Γ _ _ _ _ _ _ _ [(0, Value.ref (a 13)), (1, Value.int x1), (2, Value.int x6)] (16 + 3) _
    refine g_goto (pc := 19) (tgt := 2) dX10_fill_19 (by decide) ?_
    exact hk2 s5 _
set_option maxRecDepth 100000 in
set_option maxHeartbeats 4000000 in
theorem k_X10_fill__14 {l : Launch} {D : va_G} {a : Nat → Nat} {cI cS : ClassId} (hI : ∀ σ : St, va_D (AN a) (cN a cI cS σ)) {σ : St} {x1 : Int32} {r : Int32 × St} (h : f_X10_fill__14 σ x1 = some r) : Kc (SN l D a cI cS) yX10_fill cX10_fill 3 none 0 [Value.ref (a 14), Value.int x1] σ r := by
  refine enter (own := RX10) (o := f_X10_fill__14 σ x1) (plainFor_of_name (by decide +kernel)) rfl (Nat.le_of_ble_eq_true rfl) hI wk_X10_fill.1 h (fun Γ hRT => ?_)
  show G _ Γ _ _ _ _ _ _ σ [((0 : Nat), Value.ref (a 14)), ((1 : Nat), Value.int x1)] 0 []
  unfold f_X10_fill__14
  refine g_iconst (pc := 0) (v := 0) dX10_fill_0 (by decide) ?_
  refine g_istore_n (pc := 1) [1, 2, 0] (lv1 := [(0, Value.ref (a 14)), (1, Value.int x1), (2, Value.int (0 : Int32))]) dX10_fill_1 rfl (by decide) rfl ?_
  refine g_lq1 (pc := 2) (lf := fun x3 => [((0 : Nat), Value.ref (a 14)), ((1 : Nat), Value.int x1), ((2 : Nat), Value.int x3)]) (sf := fun x3 => ([] : List Value)) (fun k2 hk2 s4 x3 => ?_) 100000 σ _
  show G _ Γ _ _ _ _ _ _ s4 [((0 : Nat), Value.ref (a 14)), ((1 : Nat), Value.int x1), ((2 : Nat), Value.int x3)] 2 ([] : List Value)
  refine g_aload_n (pc := 2) 0 dX10_fill_2 rfl rfl ?_
  refine g_ifnull (pc := 3) dX10_fill_3 ?_
  refine g_iload_n (pc := 6) 2 dX10_fill_6 rfl rfl ?_
  refine g_aload_n (pc := 7) 0 dX10_fill_7 rfl rfl ?_
  refine g_alen (pc := 8) 14 0 (v := 16) cN_14 rfl (show Int32.ofNat 16 = 16 by decide) dX10_fill_8 ?_
  refine g_icmp_ge (pc := 9) (tgt := 22) dX10_fill_9 (by decide) ?_ ?_
  · exact g_vret (pc := 22) hRT dX10_fill_22
  · refine g_aload_n (pc := 12) 0 dX10_fill_12 rfl rfl ?_
    refine g_iload_n (pc := 13) 2 dX10_fill_13 rfl rfl ?_
    refine g_iload_n (pc := 14) 1 dX10_fill_14 rfl rfl ?_
    refine g_iast (pc := 15) 14 cN_14 rfl cN_s14 dX10_fill_15 (fun s5 => ?_)
    refine g_iinc (pc := 16) [1, 2, 0] 2 (n1 := 1) (lv1 := fun x6 => [(0, Value.ref (a 14)), (1, Value.int x1), (2, Value.int x6)]) dX10_fill_16 rfl (by decide) (by decide) (fun _ => rfl) (fun x6 => ?_)
    show G _ Γ _ _ _ _ _ _ _ [(0, Value.ref (a 14)), (1, Value.int x1), (2, Value.int x6)] (16 + 3) _
    refine g_goto (pc := 19) (tgt := 2) dX10_fill_19 (by decide) ?_
    exact hk2 s5 _
set_option maxRecDepth 100000 in
set_option maxHeartbeats 4000000 in
theorem k_X10_fill__18 {l : Launch} {D : va_G} {a : Nat → Nat} {cI cS : ClassId} (hI : ∀ σ : St, va_D (AN a) (cN a cI cS σ)) {σ : St} {x1 : Int32} {r : Int32 × St} (h : f_X10_fill__18 σ x1 = some r) : Kc (SN l D a cI cS) yX10_fill cX10_fill 3 none 0 [Value.ref (a 18), Value.int x1] σ r := by
  refine enter (own := RX10) (o := f_X10_fill__18 σ x1) (plainFor_of_name (by decide +kernel)) rfl (Nat.le_of_ble_eq_true rfl) hI wk_X10_fill.1 h (fun Γ hRT => ?_)
  show G _ Γ _ _ _ _ _ _ σ [((0 : Nat), Value.ref (a 18)), ((1 : Nat), Value.int x1)] 0 []
  unfold f_X10_fill__18
  refine g_iconst (pc := 0) (v := 0) dX10_fill_0 (by decide) ?_
  refine g_istore_n (pc := 1) [1, 2, 0] (lv1 := [(0, Value.ref (a 18)), (1, Value.int x1), (2, Value.int (0 : Int32))]) dX10_fill_1 rfl (by decide) rfl ?_
  refine g_lq1 (pc := 2) (lf := fun x3 => [((0 : Nat), Value.ref (a 18)), ((1 : Nat), Value.int x1), ((2 : Nat), Value.int x3)]) (sf := fun x3 => ([] : List Value)) (fun k2 hk2 s4 x3 => ?_) 100000 σ _
  show G _ Γ _ _ _ _ _ _ s4 [((0 : Nat), Value.ref (a 18)), ((1 : Nat), Value.int x1), ((2 : Nat), Value.int x3)] 2 ([] : List Value)
  refine g_aload_n (pc := 2) 0 dX10_fill_2 rfl rfl ?_
  refine g_ifnull (pc := 3) dX10_fill_3 ?_
  refine g_iload_n (pc := 6) 2 dX10_fill_6 rfl rfl ?_
  refine g_aload_n (pc := 7) 0 dX10_fill_7 rfl rfl ?_
  refine g_alen (pc := 8) 18 0 (v := 8) cN_18 rfl (show Int32.ofNat 8 = 8 by decide) dX10_fill_8 ?_
  refine g_icmp_ge (pc := 9) (tgt := 22) dX10_fill_9 (by decide) ?_ ?_
  · exact g_vret (pc := 22) hRT dX10_fill_22
  · refine g_aload_n (pc := 12) 0 dX10_fill_12 rfl rfl ?_
    refine g_iload_n (pc := 13) 2 dX10_fill_13 rfl rfl ?_
    refine g_iload_n (pc := 14) 1 dX10_fill_14 rfl rfl ?_
    refine g_iast (pc := 15) 18 cN_18 rfl cN_s18 dX10_fill_15 (fun s5 => ?_)
    refine g_iinc (pc := 16) [1, 2, 0] 2 (n1 := 1) (lv1 := fun x6 => [(0, Value.ref (a 18)), (1, Value.int x1), (2, Value.int x6)]) dX10_fill_16 rfl (by decide) (by decide) (fun _ => rfl) (fun x6 => ?_)
    show G _ Γ _ _ _ _ _ _ _ [(0, Value.ref (a 18)), (1, Value.int x1), (2, Value.int x6)] (16 + 3) _
    refine g_goto (pc := 19) (tgt := 2) dX10_fill_19 (by decide) ?_
    exact hk2 s5 _
set_option maxRecDepth 100000 in
set_option maxHeartbeats 4000000 in
theorem k_X4_takeGrid__12 {l : Launch} {D : va_G} {a : Nat → Nat} {cI cS : ClassId} (hI : ∀ σ : St, va_D (AN a) (cN a cI cS σ)) {σ : St} {x1 x2 : Int32} {r : Int32 × St} (h : f_X4_takeGrid__12 σ x1 x2 = some r) : Kc (SN l D a cI cS) yX4_takeGrid cX4_takeGrid 4 (some .boolean) 1 [Value.ref (a 12), Value.int x1, Value.int x2] σ r := by
  refine enter (own := RX4) (o := f_X4_takeGrid__12 σ x1 x2) (plainFor_of_name (by decide +kernel)) rfl (Nat.le_of_ble_eq_true rfl) hI wk_X4_takeGrid.1 h (fun Γ hRT => ?_)
  show G _ Γ _ _ _ _ _ _ σ [((0 : Nat), Value.ref (a 12)), ((1 : Nat), Value.int x1), ((2 : Nat), Value.int x2)] 0 []
  unfold f_X4_takeGrid__12
  refine g_iload_n (pc := 0) 1 dX4_takeGrid_0 rfl rfl ?_
  refine g_iconst (pc := 1) (v := 1) dX4_takeGrid_1 (by decide) ?_
  refine g_iconst (pc := 2) (v := 4) dX4_takeGrid_2 (by decide) ?_
  refine g_cNz (pc := 3) (As := [Value.int x1, Value.int (1 : Int32), Value.int (4 : Int32)]) (fun r2 h2 => k_X10_within hI h2) wk_X10_within ws_X10_within nst_RX4_76 (by decide) (by decide) rfl rfl (Nat.le_of_ble_eq_true rfl) dX4_takeGrid_3 (fun r3 s4 => ?_)
  refine g_if_eq (pc := 6) (tgt := 18) dX4_takeGrid_6 (by decide) ?_ ?_
  · refine g_iconst (pc := 18) (v := 0) dX4_takeGrid_18 (by decide) ?_
    exact g_zret1 (pc := 19) hRT (by decide) dX4_takeGrid_19
  · refine g_iload_n (pc := 9) 2 dX4_takeGrid_9 rfl rfl ?_
    refine g_iconst (pc := 10) (v := 1) dX4_takeGrid_10 (by decide) ?_
    refine g_iconst (pc := 11) (v := 4) dX4_takeGrid_11 (by decide) ?_
    refine g_cNz (pc := 12) (As := [Value.int x2, Value.int (1 : Int32), Value.int (4 : Int32)]) (fun r2 h2 => k_X10_within hI h2) wk_X10_within ws_X10_within nst_RX4_76 (by decide) (by decide) rfl rfl (Nat.le_of_ble_eq_true rfl) dX4_takeGrid_12 (fun r5 s6 => ?_)
    refine g_if_ne (pc := 15) (tgt := 20) dX4_takeGrid_15 (by decide) ?_ ?_
    · refine g_aload_n (pc := 20) 0 dX4_takeGrid_20 rfl rfl ?_
      refine g_iload_n (pc := 21) 1 dX4_takeGrid_21 rfl rfl ?_
      refine g_put (pc := 22) 12 (ty := .int) cN_12 rfl inlX4 tyX4_ok nmX4 6 (by decide) bw_4_4 rfl (by decide +kernel) rfl rfl (Nat.le_of_ble_eq_true rfl) cN_f12_6 dX4_takeGrid_22 (fun s7 => ?_)
      refine g_aload_n (pc := 25) 0 dX4_takeGrid_25 rfl rfl ?_
      refine g_iload_n (pc := 26) 2 dX4_takeGrid_26 rfl rfl ?_
      refine g_put (pc := 27) 12 (ty := .int) cN_12 rfl inlX4 tyX4_ok nmX4 7 (by decide) bw_4_5 rfl (by decide +kernel) rfl rfl (Nat.le_of_ble_eq_true rfl) cN_f12_7 dX4_takeGrid_27 (fun s8 => ?_)
      refine g_aload_n (pc := 30) 0 dX4_takeGrid_30 rfl rfl ?_
      refine g_iconst (pc := 31) (v := 0) dX4_takeGrid_31 (by decide) ?_
      refine g_put (pc := 32) 12 (ty := .int) cN_12 rfl inlX4 tyX4_ok nmX4 8 (by decide) bw_4_6 rfl (by decide +kernel) rfl rfl (Nat.le_of_ble_eq_true rfl) cN_f12_8 dX4_takeGrid_32 (fun s9 => ?_)
      refine g_iconst (pc := 35) (v := 0) dX4_takeGrid_35 (by decide) ?_
      refine g_istore_n (pc := 36) [1, 2, 3, 0] (lv1 := [(0, Value.ref (a 12)), (1, Value.int x1), (2, Value.int x2), (3, Value.int (0 : Int32))]) dX4_takeGrid_36 rfl (by decide) rfl ?_
      refine g_lv [0, 3] (lv' := [(0, Value.ref (a 12)), (3, Value.int (0 : Int32))]) rfl ?_
      refine g_lq1 (pc := 37) (lf := fun x11 => [((0 : Nat), Value.ref (a 12)), ((3 : Nat), Value.int x11)]) (sf := fun x11 => ([] : List Value)) (fun k10 hk10 s12 x11 => ?_) 100000 s9 _
      show G _ Γ _ _ _ _ _ _ s12 [((0 : Nat), Value.ref (a 12)), ((3 : Nat), Value.int x11)] 37 ([] : List Value)
      refine g_iload_n (pc := 37) 1 dX4_takeGrid_37 rfl rfl ?_
      refine g_aload_n (pc := 38) 0 dX4_takeGrid_38 rfl rfl ?_
      refine g_get (pc := 39) 12 cN_12 rfl inlX4 6 (by decide) bw_4_4 rfl dX4_takeGrid_39 ?_
      refine g_icmp_ge (pc := 42) (tgt := 69) dX4_takeGrid_42 (by decide) ?_ ?_
      · refine g_aload_n (pc := 69) 0 dX4_takeGrid_69 rfl rfl ?_
        refine g_aload_n (pc := 70) 0 dX4_takeGrid_70 rfl rfl ?_
        refine g_get (pc := 71) 12 cN_12 rfl inlX4 8 (by decide) bw_4_6 rfl dX4_takeGrid_71 ?_
        refine g_aload_n (pc := 74) 0 dX4_takeGrid_74 rfl rfl ?_
        refine g_get (pc := 75) 12 cN_12 rfl inlX4 7 (by decide) bw_4_5 rfl dX4_takeGrid_75 ?_
        refine g_iconst (pc := 78) (v := 1) dX4_takeGrid_78 (by decide) ?_
        refine g_isub (pc := 79) dX4_takeGrid_79 ?_
        refine g_ishl (pc := 80) dX4_takeGrid_80 ?_
        refine g_put (pc := 81) 12 (ty := .int) cN_12 rfl inlX4 tyX4_ok nmX4 9 (by decide) bw_4_7 rfl (by decide +kernel) rfl rfl (Nat.le_of_ble_eq_true rfl) cN_f12_9 dX4_takeGrid_81 (fun s13 => ?_)
        refine g_iconst (pc := 84) (v := 1) dX4_takeGrid_84 (by decide) ?_
        exact g_zret1 (pc := 85) hRT (by decide) dX4_takeGrid_85
      · refine g_aload_n (pc := 45) 0 dX4_takeGrid_45 rfl rfl ?_
        refine g_dup (pc := 46) dX4_takeGrid_46 rfl ?_
        refine g_get (pc := 47) 12 cN_12 rfl inlX4 8 (by decide) bw_4_6 rfl dX4_takeGrid_47 ?_
        refine g_iload_n (pc := 50) 1 dX4_takeGrid_50 rfl rfl ?_
        refine g_aload_n (pc := 51) 0 dX4_takeGrid_51 rfl rfl ?_
        refine g_get (pc := 52) 12 cN_12 rfl inlX4 7 (by decide) bw_4_5 rfl dX4_takeGrid_52 ?_
        refine g_imul (pc := 55) dX4_takeGrid_55 ?_
        refine g_cNi (pc := 56) (As := [Value.int (x11 * (s12 12 7))]) (fun r2 h2 => k_X10_bit hI h2) wk_X10_bit ws_X10_bit nst_RX4_79 (by decide) (by decide) rfl rfl (Nat.le_of_ble_eq_true rfl) dX4_takeGrid_56 (fun r14 s15 => ?_)
        refine g_ior (pc := 59) dX4_takeGrid_59 ?_
        refine g_put (pc := 60) 12 (ty := .int) cN_12 rfl inlX4 tyX4_ok nmX4 8 (by decide) bw_4_6 rfl (by decide +kernel) rfl rfl (Nat.le_of_ble_eq_true rfl) cN_f12_8 dX4_takeGrid_60 (fun s16 => ?_)
        refine g_iinc (pc := 63) [1, 0] 1 (n1 := 1) (lv1 := fun x17 => [(0, Value.ref (a 12)), (3, Value.int x17)]) dX4_takeGrid_63 rfl (by decide) (by decide) (fun _ => rfl) (fun x17 => ?_)
        show G _ Γ _ _ _ _ _ _ _ [(0, Value.ref (a 12)), (3, Value.int x17)] (63 + 3) _
        refine g_goto (pc := 66) (tgt := 37) dX4_takeGrid_66 (by decide) ?_
        exact hk10 s16 _
    · refine g_iconst (pc := 18) (v := 0) dX4_takeGrid_18 (by decide) ?_
      exact g_zret1 (pc := 19) hRT (by decide) dX4_takeGrid_19
set_option maxRecDepth 100000 in
set_option maxHeartbeats 4000000 in
theorem k_X4_clear__12 {l : Launch} {D : va_G} {a : Nat → Nat} {cI cS : ClassId} (hI : ∀ σ : St, va_D (AN a) (cN a cI cS σ)) {σ : St} {r : Int32 × St} (h : f_X4_clear__12 σ = some r) : Kc (SN l D a cI cS) yX4_clear cX4_clear 1 none 2 [Value.ref (a 12)] σ r := by
  refine enter (own := RX4) (o := f_X4_clear__12 σ) (plainFor_of_name (by decide +kernel)) rfl (Nat.le_of_ble_eq_true rfl) hI wk_X4_clear.1 h (fun Γ hRT => ?_)
  show G _ Γ _ _ _ _ _ _ σ [((0 : Nat), Value.ref (a 12))] 0 []
  unfold f_X4_clear__12
  refine g_aload_n (pc := 0) 0 dX4_clear_0 rfl rfl ?_
  refine g_get (pc := 1) 12 cN_12 rfl inlX4 0 (by decide) bw_3_22 rfl dX4_clear_1 ?_
  refine g_iconst (pc := 4) (v := 0) dX4_clear_4 (by decide) ?_
  refine g_cNv (pc := 5) (As := [Value.ref (a 13), Value.int (0 : Int32)]) (fun r2 h2 => k_X10_fill__13 hI h2) wk_X10_fill ws_X10_fill nst_RX4_53 (by decide) (by decide) rfl rfl (Nat.le_of_ble_eq_true rfl) dX4_clear_5 (fun r1 s2 => ?_)
  refine g_aload_n (pc := 8) 0 dX4_clear_8 rfl rfl ?_
  refine g_get (pc := 9) 12 cN_12 rfl inlX4 1 (by decide) bw_3_23 rfl dX4_clear_9 ?_
  refine g_iconst (pc := 12) (v := 2) dX4_clear_12 (by decide) ?_
  refine g_cNv (pc := 13) (As := [Value.ref (a 14), Value.int (2 : Int32)]) (fun r2 h2 => k_X10_fill__14 hI h2) wk_X10_fill ws_X10_fill nst_RX4_53 (by decide) (by decide) rfl rfl (Nat.le_of_ble_eq_true rfl) dX4_clear_13 (fun r3 s4 => ?_)
  refine g_aload_n (pc := 16) 0 dX4_clear_16 rfl rfl ?_
  refine g_get (pc := 17) 12 cN_12 rfl inlX4 5 (by decide) bw_4_3 rfl dX4_clear_17 ?_
  refine g_iconst (pc := 20) (v := 0) dX4_clear_20 (by decide) ?_
  refine g_cNv (pc := 21) (As := [Value.ref (a 18), Value.int (0 : Int32)]) (fun r2 h2 => k_X10_fill__18 hI h2) wk_X10_fill ws_X10_fill nst_RX4_53 (by decide) (by decide) rfl rfl (Nat.le_of_ble_eq_true rfl) dX4_clear_21 (fun r5 s6 => ?_)
  refine g_aload_n (pc := 24) 0 dX4_clear_24 rfl rfl ?_
  refine g_iconst (pc := 25) (v := 0) dX4_clear_25 (by decide) ?_
  refine g_put (pc := 26) 12 (ty := .int) cN_12 rfl inlX4 tyX4_ok nmX4 10 (by decide) bw_4_8 rfl (by decide +kernel) rfl rfl (Nat.le_of_ble_eq_true rfl) cN_f12_10 dX4_clear_26 (fun s7 => ?_)
  refine g_aload_n (pc := 29) 0 dX4_clear_29 rfl rfl ?_
  refine g_iconst (pc := 30) (v := 0) dX4_clear_30 (by decide) ?_
  refine g_put (pc := 31) 12 (ty := .int) cN_12 rfl inlX4 tyX4_ok nmX4 11 (by decide) bw_4_9 rfl (by decide +kernel) rfl rfl (Nat.le_of_ble_eq_true rfl) cN_f12_11 dX4_clear_31 (fun s8 => ?_)
  refine g_aload_n (pc := 34) 0 dX4_clear_34 rfl rfl ?_
  refine g_iconst (pc := 35) (v := 1) dX4_clear_35 (by decide) ?_
  refine g_put (pc := 36) 12 (ty := .boolean) cN_12 rfl inlX4 tyX4_ok nmX4 12 (by decide) bw_4_10 rfl (by decide +kernel) (by decide) (by decide) (Nat.le_of_ble_eq_true rfl) cN_f12_12 dX4_clear_36 (fun s9 => ?_)
  refine g_aload_n (pc := 39) 0 dX4_clear_39 rfl rfl ?_
  refine g_iconst (pc := 40) (v := 3) dX4_clear_40 (by decide) ?_
  refine g_iconst (pc := 41) (v := 4) dX4_clear_41 (by decide) ?_
  refine g_cVz (pc := 42) 12 (As := [Value.int (3 : Int32), Value.int (4 : Int32)]) (fun r2 h2 => k_X4_takeGrid__12 hI h2) wk_X4_takeGrid wv_X4_takeGrid bw_10_5 cN_12 rfl (by decide) (by decide) rfl rfl (Nat.le_of_ble_eq_true rfl) dX4_clear_42 (fun r10 s11 => ?_)
  refine g_pop (pc := 45) dX4_clear_45 rfl ?_
  exact g_vret (pc := 46) hRT dX4_clear_46
set_option maxRecDepth 100000 in
set_option maxHeartbeats 4000000 in
theorem k_X4_houses__12 {l : Launch} {D : va_G} {a : Nat → Nat} {cI cS : ClassId} (hI : ∀ σ : St, va_D (AN a) (cN a cI cS σ)) {σ : St} {r : Int32 × St} (h : f_X4_houses__12 σ = some r) : Kc (SN l D a cI cS) yX4_houses cX4_houses 1 (some .int) 0 [Value.ref (a 12)] σ r := by
  refine enter (own := RX4) (o := f_X4_houses__12 σ) (plainFor_of_name (by decide +kernel)) rfl (Nat.le_of_ble_eq_true rfl) hI wk_X4_houses.1 h (fun Γ hRT => ?_)
  show G _ Γ _ _ _ _ _ _ σ [((0 : Nat), Value.ref (a 12))] 0 []
  unfold f_X4_houses__12
  refine g_aload_n (pc := 0) 0 dX4_houses_0 rfl rfl ?_
  refine g_get (pc := 1) 12 cN_12 rfl inlX4 6 (by decide) bw_4_4 rfl dX4_houses_1 ?_
  refine g_aload_n (pc := 4) 0 dX4_houses_4 rfl rfl ?_
  refine g_get (pc := 5) 12 cN_12 rfl inlX4 7 (by decide) bw_4_5 rfl dX4_houses_5 ?_
  refine g_imul (pc := 8) dX4_houses_8 ?_
  exact g_iret (pc := 9) hRT dX4_houses_9
set_option maxRecDepth 100000 in
set_option maxHeartbeats 4000000 in
theorem k_X4_hasHouse__12 {l : Launch} {D : va_G} {a : Nat → Nat} {cI cS : ClassId} (hI : ∀ σ : St, va_D (AN a) (cN a cI cS σ)) {σ : St} {x1 : Int32} {r : Int32 × St} (h : f_X4_hasHouse__12 σ x1 = some r) : Kc (SN l D a cI cS) yX4_hasHouse cX4_hasHouse 2 (some .boolean) 1 [Value.ref (a 12), Value.int x1] σ r := by
  refine enter (own := RX4) (o := f_X4_hasHouse__12 σ x1) (plainFor_of_name (by decide +kernel)) rfl (Nat.le_of_ble_eq_true rfl) hI wk_X4_hasHouse.1 h (fun Γ hRT => ?_)
  show G _ Γ _ _ _ _ _ _ σ [((0 : Nat), Value.ref (a 12)), ((1 : Nat), Value.int x1)] 0 []
  unfold f_X4_hasHouse__12
  refine g_jq0 (pc2 := 16) (lf := ([] : List (Nat × Value))) (sf := ([] : List Value)) (fun s3 => ?_) (fun k2 hk2 => ?_)
  · show G _ Γ _ _ _ _ _ _ s3 ([] : List (Nat × Value)) 16 ([] : List Value)
    refine g_iconst (pc := 16) (v := 0) dX4_hasHouse_16 (by decide) ?_
    exact g_zret1 (pc := 17) hRT (by decide) dX4_hasHouse_17
  · refine g_iload_n (pc := 0) 1 dX4_hasHouse_0 rfl rfl ?_
    refine g_if_lt (pc := 1) (tgt := 16) dX4_hasHouse_1 (by decide) ?_ ?_
    · exact g_lv [] rfl (hk2 σ)
    · refine g_iload_n (pc := 4) 1 dX4_hasHouse_4 rfl rfl ?_
      refine g_aload_n (pc := 5) 0 dX4_hasHouse_5 rfl rfl ?_
      refine g_cVi (pc := 6) 12 (As := []) (fun r2 h2 => k_X4_houses__12 hI h2) wk_X4_houses wv_X4_houses bw_11_22 cN_12 rfl (by decide) (by decide) rfl rfl (Nat.le_of_ble_eq_true rfl) dX4_hasHouse_6 (fun r4 s5 => ?_)
      refine g_icmp_ge (pc := 9) (tgt := 16) dX4_hasHouse_9 (by decide) ?_ ?_
      · exact g_lv [] rfl (hk2 s5)
      · refine g_iconst (pc := 12) (v := 1) dX4_hasHouse_12 (by decide) ?_
        refine g_goto (pc := 13) (tgt := 17) dX4_hasHouse_13 (by decide) ?_
        exact g_zret1 (pc := 17) hRT (by decide) dX4_hasHouse_17
set_option maxRecDepth 100000 in
set_option maxHeartbeats 4000000 in
theorem k_X10_put__13 {l : Launch} {D : va_G} {a : Nat → Nat} {cI cS : ClassId} (hI : ∀ σ : St, va_D (AN a) (cN a cI cS σ)) {σ : St} {x1 x2 : Int32} {r : Int32 × St} (h : f_X10_put__13 σ x1 x2 = some r) : Kc (SN l D a cI cS) yX10_put cX10_put 3 none 0 [Value.ref (a 13), Value.int x1, Value.int x2] σ r := by
  refine enter (own := RX10) (o := f_X10_put__13 σ x1 x2) (plainFor_of_name (by decide +kernel)) rfl (Nat.le_of_ble_eq_true rfl) hI wk_X10_put.1 h (fun Γ hRT => ?_)
  show G _ Γ _ _ _ _ _ _ σ [((0 : Nat), Value.ref (a 13)), ((1 : Nat), Value.int x1), ((2 : Nat), Value.int x2)] 0 []
  unfold f_X10_put__13
  refine g_aload_n (pc := 0) 0 dX10_put_0 rfl rfl ?_
  refine g_ifnull (pc := 1) dX10_put_1 ?_
  refine g_iload_n (pc := 4) 1 dX10_put_4 rfl rfl ?_
  refine g_if_lt (pc := 5) (tgt := 18) dX10_put_5 (by decide) ?_ ?_
  · exact g_vret (pc := 18) hRT dX10_put_18
  · refine g_iload_n (pc := 8) 1 dX10_put_8 rfl rfl ?_
    refine g_aload_n (pc := 9) 0 dX10_put_9 rfl rfl ?_
    refine g_alen (pc := 10) 13 0 (v := 16) cN_13 rfl (show Int32.ofNat 16 = 16 by decide) dX10_put_10 ?_
    refine g_icmp_ge (pc := 11) (tgt := 18) dX10_put_11 (by decide) ?_ ?_
    · exact g_vret (pc := 18) hRT dX10_put_18
    · refine g_aload_n (pc := 14) 0 dX10_put_14 rfl rfl ?_
      refine g_iload_n (pc := 15) 1 dX10_put_15 rfl rfl ?_
      refine g_iload_n (pc := 16) 2 dX10_put_16 rfl rfl ?_
      refine g_iast (pc := 17) 13 cN_13 rfl cN_s13 dX10_put_17 (fun s3 => ?_)
      exact g_vret (pc := 18) hRT dX10_put_18
set_option maxRecDepth 100000 in
set_option maxHeartbeats 4000000 in
theorem k_X10_put__14 {l : Launch} {D : va_G} {a : Nat → Nat} {cI cS : ClassId} (hI : ∀ σ : St, va_D (AN a) (cN a cI cS σ)) {σ : St} {x1 x2 : Int32} {r : Int32 × St} (h : f_X10_put__14 σ x1 x2 = some r) : Kc (SN l D a cI cS) yX10_put cX10_put 3 none 0 [Value.ref (a 14), Value.int x1, Value.int x2] σ r := by
  refine enter (own := RX10) (o := f_X10_put__14 σ x1 x2) (plainFor_of_name (by decide +kernel)) rfl (Nat.le_of_ble_eq_true rfl) hI wk_X10_put.1 h (fun Γ hRT => ?_)
  show G _ Γ _ _ _ _ _ _ σ [((0 : Nat), Value.ref (a 14)), ((1 : Nat), Value.int x1), ((2 : Nat), Value.int x2)] 0 []
  unfold f_X10_put__14
  refine g_aload_n (pc := 0) 0 dX10_put_0 rfl rfl ?_
  refine g_ifnull (pc := 1) dX10_put_1 ?_
  refine g_iload_n (pc := 4) 1 dX10_put_4 rfl rfl ?_
  refine g_if_lt (pc := 5) (tgt := 18) dX10_put_5 (by decide) ?_ ?_
  · exact g_vret (pc := 18) hRT dX10_put_18
  · refine g_iload_n (pc := 8) 1 dX10_put_8 rfl rfl ?_
    refine g_aload_n (pc := 9) 0 dX10_put_9 rfl rfl ?_
    refine g_alen (pc := 10) 14 0 (v := 16) cN_14 rfl (show Int32.ofNat 16 = 16 by decide) dX10_put_10 ?_
    refine g_icmp_ge (pc := 11) (tgt := 18) dX10_put_11 (by decide) ?_ ?_
    · exact g_vret (pc := 18) hRT dX10_put_18
    · refine g_aload_n (pc := 14) 0 dX10_put_14 rfl rfl ?_
      refine g_iload_n (pc := 15) 1 dX10_put_15 rfl rfl ?_
      refine g_iload_n (pc := 16) 2 dX10_put_16 rfl rfl ?_
      refine g_iast (pc := 17) 14 cN_14 rfl cN_s14 dX10_put_17 (fun s3 => ?_)
      exact g_vret (pc := 18) hRT dX10_put_18
set_option maxRecDepth 100000 in
set_option maxHeartbeats 4000000 in
theorem k_X4_takeHouse__12 {l : Launch} {D : va_G} {a : Nat → Nat} {cI cS : ClassId} (hI : ∀ σ : St, va_D (AN a) (cN a cI cS σ)) {σ : St} {x1 x2 x3 : Int32} {r : Int32 × St} (h : f_X4_takeHouse__12 σ x1 x2 x3 = some r) : Kc (SN l D a cI cS) yX4_takeHouse cX4_takeHouse 4 (some .boolean) 2 [Value.ref (a 12), Value.int x1, Value.int x2, Value.int x3] σ r := by
  refine enter (own := RX4) (o := f_X4_takeHouse__12 σ x1 x2 x3) (plainFor_of_name (by decide +kernel)) rfl (Nat.le_of_ble_eq_true rfl) hI wk_X4_takeHouse.1 h (fun Γ hRT => ?_)
  show G _ Γ _ _ _ _ _ _ σ [((0 : Nat), Value.ref (a 12)), ((1 : Nat), Value.int x1), ((2 : Nat), Value.int x2), ((3 : Nat), Value.int x3)] 0 []
  unfold f_X4_takeHouse__12
  refine g_aload_n (pc := 0) 0 dX4_takeHouse_0 rfl rfl ?_
  refine g_iload_n (pc := 1) 1 dX4_takeHouse_1 rfl rfl ?_
  refine g_cVz (pc := 2) 12 (As := [Value.int x1]) (fun r2 h2 => k_X4_hasHouse__12 hI h2) wk_X4_hasHouse wv_X4_hasHouse bw_11_18 cN_12 rfl (by decide) (by decide) rfl rfl (Nat.le_of_ble_eq_true rfl) dX4_takeHouse_2 (fun r4 s5 => ?_)
  refine g_if_eq (pc := 5) (tgt := 20) dX4_takeHouse_5 (by decide) ?_ ?_
  · refine g_iconst (pc := 20) (v := 0) dX4_takeHouse_20 (by decide) ?_
    exact g_zret1 (pc := 21) hRT (by decide) dX4_takeHouse_21
  · refine g_iload_n (pc := 8) 2 dX4_takeHouse_8 rfl rfl ?_
    refine g_iconst (pc := 9) (v := 4) dX4_takeHouse_9 (by decide) ?_
    refine g_icmp_gt (pc := 10) (tgt := 20) dX4_takeHouse_10 (by decide) ?_ ?_
    · refine g_iconst (pc := 20) (v := 0) dX4_takeHouse_20 (by decide) ?_
      exact g_zret1 (pc := 21) hRT (by decide) dX4_takeHouse_21
    · refine g_iload_n (pc := 13) 3 dX4_takeHouse_13 rfl rfl ?_
      refine g_cNz (pc := 14) (As := [Value.int x3]) (fun r2 h2 => k_X10_isWidth hI h2) wk_X10_isWidth ws_X10_isWidth nst_RX4_86 (by decide) (by decide) rfl rfl (Nat.le_of_ble_eq_true rfl) dX4_takeHouse_14 (fun r6 s7 => ?_)
      refine g_if_ne (pc := 17) (tgt := 22) dX4_takeHouse_17 (by decide) ?_ ?_
      · refine g_aload_n (pc := 22) 0 dX4_takeHouse_22 rfl rfl ?_
        refine g_get (pc := 23) 12 cN_12 rfl inlX4 0 (by decide) bw_3_22 rfl dX4_takeHouse_23 ?_
        refine g_iload_n (pc := 26) 1 dX4_takeHouse_26 rfl rfl ?_
        refine g_iload_n (pc := 27) 2 dX4_takeHouse_27 rfl rfl ?_
        refine g_cNv (pc := 28) (As := [Value.ref (a 13), Value.int x1, Value.int x2]) (fun r2 h2 => k_X10_put__13 hI h2) wk_X10_put ws_X10_put nst_RX4_89 (by decide) (by decide) rfl rfl (Nat.le_of_ble_eq_true rfl) dX4_takeHouse_28 (fun r8 s9 => ?_)
        refine g_aload_n (pc := 31) 0 dX4_takeHouse_31 rfl rfl ?_
        refine g_get (pc := 32) 12 cN_12 rfl inlX4 1 (by decide) bw_3_23 rfl dX4_takeHouse_32 ?_
        refine g_iload_n (pc := 35) 1 dX4_takeHouse_35 rfl rfl ?_
        refine g_iload_n (pc := 36) 3 dX4_takeHouse_36 rfl rfl ?_
        refine g_cNv (pc := 37) (As := [Value.ref (a 14), Value.int x1, Value.int x3]) (fun r2 h2 => k_X10_put__14 hI h2) wk_X10_put ws_X10_put nst_RX4_89 (by decide) (by decide) rfl rfl (Nat.le_of_ble_eq_true rfl) dX4_takeHouse_37 (fun r10 s11 => ?_)
        refine g_iconst (pc := 40) (v := 1) dX4_takeHouse_40 (by decide) ?_
        exact g_zret1 (pc := 41) hRT (by decide) dX4_takeHouse_41
      · refine g_iconst (pc := 20) (v := 0) dX4_takeHouse_20 (by decide) ?_
        exact g_zret1 (pc := 21) hRT (by decide) dX4_takeHouse_21
set_option maxRecDepth 100000 in
set_option maxHeartbeats 4000000 in
theorem k_X10_put__15 {l : Launch} {D : va_G} {a : Nat → Nat} {cI cS : ClassId} (hI : ∀ σ : St, va_D (AN a) (cN a cI cS σ)) {σ : St} {x1 x2 : Int32} {r : Int32 × St} (h : f_X10_put__15 σ x1 x2 = some r) : Kc (SN l D a cI cS) yX10_put cX10_put 3 none 0 [Value.ref (a 15), Value.int x1, Value.int x2] σ r := by
  refine enter (own := RX10) (o := f_X10_put__15 σ x1 x2) (plainFor_of_name (by decide +kernel)) rfl (Nat.le_of_ble_eq_true rfl) hI wk_X10_put.1 h (fun Γ hRT => ?_)
  show G _ Γ _ _ _ _ _ _ σ [((0 : Nat), Value.ref (a 15)), ((1 : Nat), Value.int x1), ((2 : Nat), Value.int x2)] 0 []
  unfold f_X10_put__15
  refine g_aload_n (pc := 0) 0 dX10_put_0 rfl rfl ?_
  refine g_ifnull (pc := 1) dX10_put_1 ?_
  refine g_iload_n (pc := 4) 1 dX10_put_4 rfl rfl ?_
  refine g_if_lt (pc := 5) (tgt := 18) dX10_put_5 (by decide) ?_ ?_
  · exact g_vret (pc := 18) hRT dX10_put_18
  · refine g_iload_n (pc := 8) 1 dX10_put_8 rfl rfl ?_
    refine g_aload_n (pc := 9) 0 dX10_put_9 rfl rfl ?_
    refine g_alen (pc := 10) 15 0 (v := 5) cN_15 rfl (show Int32.ofNat 5 = 5 by decide) dX10_put_10 ?_
    refine g_icmp_ge (pc := 11) (tgt := 18) dX10_put_11 (by decide) ?_ ?_
    · exact g_vret (pc := 18) hRT dX10_put_18
    · refine g_aload_n (pc := 14) 0 dX10_put_14 rfl rfl ?_
      refine g_iload_n (pc := 15) 1 dX10_put_15 rfl rfl ?_
      refine g_iload_n (pc := 16) 2 dX10_put_16 rfl rfl ?_
      refine g_iast (pc := 17) 15 cN_15 rfl cN_s15 dX10_put_17 (fun s3 => ?_)
      exact g_vret (pc := 18) hRT dX10_put_18
set_option maxRecDepth 100000 in
set_option maxHeartbeats 4000000 in
theorem k_X10_put__16 {l : Launch} {D : va_G} {a : Nat → Nat} {cI cS : ClassId} (hI : ∀ σ : St, va_D (AN a) (cN a cI cS σ)) {σ : St} {x1 x2 : Int32} {r : Int32 × St} (h : f_X10_put__16 σ x1 x2 = some r) : Kc (SN l D a cI cS) yX10_put cX10_put 3 none 0 [Value.ref (a 16), Value.int x1, Value.int x2] σ r := by
  refine enter (own := RX10) (o := f_X10_put__16 σ x1 x2) (plainFor_of_name (by decide +kernel)) rfl (Nat.le_of_ble_eq_true rfl) hI wk_X10_put.1 h (fun Γ hRT => ?_)
  show G _ Γ _ _ _ _ _ _ σ [((0 : Nat), Value.ref (a 16)), ((1 : Nat), Value.int x1), ((2 : Nat), Value.int x2)] 0 []
  unfold f_X10_put__16
  refine g_aload_n (pc := 0) 0 dX10_put_0 rfl rfl ?_
  refine g_ifnull (pc := 1) dX10_put_1 ?_
  refine g_iload_n (pc := 4) 1 dX10_put_4 rfl rfl ?_
  refine g_if_lt (pc := 5) (tgt := 18) dX10_put_5 (by decide) ?_ ?_
  · exact g_vret (pc := 18) hRT dX10_put_18
  · refine g_iload_n (pc := 8) 1 dX10_put_8 rfl rfl ?_
    refine g_aload_n (pc := 9) 0 dX10_put_9 rfl rfl ?_
    refine g_alen (pc := 10) 16 0 (v := 5) cN_16 rfl (show Int32.ofNat 5 = 5 by decide) dX10_put_10 ?_
    refine g_icmp_ge (pc := 11) (tgt := 18) dX10_put_11 (by decide) ?_ ?_
    · exact g_vret (pc := 18) hRT dX10_put_18
    · refine g_aload_n (pc := 14) 0 dX10_put_14 rfl rfl ?_
      refine g_iload_n (pc := 15) 1 dX10_put_15 rfl rfl ?_
      refine g_iload_n (pc := 16) 2 dX10_put_16 rfl rfl ?_
      refine g_iast (pc := 17) 16 cN_16 rfl cN_s16 dX10_put_17 (fun s3 => ?_)
      exact g_vret (pc := 18) hRT dX10_put_18
set_option maxRecDepth 100000 in
set_option maxHeartbeats 4000000 in
theorem k_X10_put__17 {l : Launch} {D : va_G} {a : Nat → Nat} {cI cS : ClassId} (hI : ∀ σ : St, va_D (AN a) (cN a cI cS σ)) {σ : St} {x1 x2 : Int32} {r : Int32 × St} (h : f_X10_put__17 σ x1 x2 = some r) : Kc (SN l D a cI cS) yX10_put cX10_put 3 none 0 [Value.ref (a 17), Value.int x1, Value.int x2] σ r := by
  refine enter (own := RX10) (o := f_X10_put__17 σ x1 x2) (plainFor_of_name (by decide +kernel)) rfl (Nat.le_of_ble_eq_true rfl) hI wk_X10_put.1 h (fun Γ hRT => ?_)
  show G _ Γ _ _ _ _ _ _ σ [((0 : Nat), Value.ref (a 17)), ((1 : Nat), Value.int x1), ((2 : Nat), Value.int x2)] 0 []
  unfold f_X10_put__17
  refine g_aload_n (pc := 0) 0 dX10_put_0 rfl rfl ?_
  refine g_ifnull (pc := 1) dX10_put_1 ?_
  refine g_iload_n (pc := 4) 1 dX10_put_4 rfl rfl ?_
  refine g_if_lt (pc := 5) (tgt := 18) dX10_put_5 (by decide) ?_ ?_
  · exact g_vret (pc := 18) hRT dX10_put_18
  · refine g_iload_n (pc := 8) 1 dX10_put_8 rfl rfl ?_
    refine g_aload_n (pc := 9) 0 dX10_put_9 rfl rfl ?_
    refine g_alen (pc := 10) 17 0 (v := 5) cN_17 rfl (show Int32.ofNat 5 = 5 by decide) dX10_put_10 ?_
    refine g_icmp_ge (pc := 11) (tgt := 18) dX10_put_11 (by decide) ?_ ?_
    · exact g_vret (pc := 18) hRT dX10_put_18
    · refine g_aload_n (pc := 14) 0 dX10_put_14 rfl rfl ?_
      refine g_iload_n (pc := 15) 1 dX10_put_15 rfl rfl ?_
      refine g_iload_n (pc := 16) 2 dX10_put_16 rfl rfl ?_
      refine g_iast (pc := 17) 17 cN_17 rfl cN_s17 dX10_put_17 (fun s3 => ?_)
      exact g_vret (pc := 18) hRT dX10_put_18
set_option maxRecDepth 100000 in
set_option maxHeartbeats 4000000 in
theorem k_X4_takeNews__12 {l : Launch} {D : va_G} {a : Nat → Nat} {cI cS : ClassId} (hI : ∀ σ : St, va_D (AN a) (cN a cI cS σ)) {σ : St} {x1 x2 x3 : Int32} {r : Int32 × St} (h : f_X4_takeNews__12 σ x1 x2 x3 = some r) : Kc (SN l D a cI cS) yX4_takeNews cX4_takeNews 4 (some .boolean) 2 [Value.ref (a 12), Value.int x1, Value.int x2, Value.int x3] σ r := by
  refine enter (own := RX4) (o := f_X4_takeNews__12 σ x1 x2 x3) (plainFor_of_name (by decide +kernel)) rfl (Nat.le_of_ble_eq_true rfl) hI wk_X4_takeNews.1 h (fun Γ hRT => ?_)
  show G _ Γ _ _ _ _ _ _ σ [((0 : Nat), Value.ref (a 12)), ((1 : Nat), Value.int x1), ((2 : Nat), Value.int x2), ((3 : Nat), Value.int x3)] 0 []
  unfold f_X4_takeNews__12
  refine g_iload_n (pc := 0) 1 dX4_takeNews_0 rfl rfl ?_
  refine g_iconst (pc := 1) (v := 2) dX4_takeNews_1 (by decide) ?_
  refine g_icmp_gt (pc := 2) (tgt := 22) dX4_takeNews_2 (by decide) ?_ ?_
  · refine g_iconst (pc := 22) (v := 0) dX4_takeNews_22 (by decide) ?_
    exact g_zret1 (pc := 23) hRT (by decide) dX4_takeNews_23
  · refine g_iload_n (pc := 5) 2 dX4_takeNews_5 rfl rfl ?_
    refine g_iconst (pc := 6) (v := 1) dX4_takeNews_6 (by decide) ?_
    refine g_iconst (pc := 7) (v := 4) dX4_takeNews_7 (by decide) ?_
    refine g_cNz (pc := 8) (As := [Value.int x2, Value.int (1 : Int32), Value.int (4 : Int32)]) (fun r2 h2 => k_X10_within hI h2) wk_X10_within ws_X10_within nst_RX4_76 (by decide) (by decide) rfl rfl (Nat.le_of_ble_eq_true rfl) dX4_takeNews_8 (fun r4 s5 => ?_)
    refine g_if_eq (pc := 11) (tgt := 22) dX4_takeNews_11 (by decide) ?_ ?_
    · refine g_iconst (pc := 22) (v := 0) dX4_takeNews_22 (by decide) ?_
      exact g_zret1 (pc := 23) hRT (by decide) dX4_takeNews_23
    · refine g_aload_n (pc := 14) 0 dX4_takeNews_14 rfl rfl ?_
      refine g_iload_n (pc := 15) 3 dX4_takeNews_15 rfl rfl ?_
      refine g_cVz (pc := 16) 12 (As := [Value.int x3]) (fun r2 h2 => k_X4_hasHouse__12 hI h2) wk_X4_hasHouse wv_X4_hasHouse bw_11_18 cN_12 rfl (by decide) (by decide) rfl rfl (Nat.le_of_ble_eq_true rfl) dX4_takeNews_16 (fun r6 s7 => ?_)
      refine g_if_ne (pc := 19) (tgt := 24) dX4_takeNews_19 (by decide) ?_ ?_
      · refine g_aload_n (pc := 24) 0 dX4_takeNews_24 rfl rfl ?_
        refine g_get (pc := 25) 12 cN_12 rfl inlX4 10 (by decide) bw_4_8 rfl dX4_takeNews_25 ?_
        refine g_iconst (pc := 28) (v := 5) dX4_takeNews_28 (by decide) ?_
        refine g_icmp_lt (pc := 29) (tgt := 34) dX4_takeNews_29 (by decide) ?_ ?_
        · refine g_aload_n (pc := 34) 0 dX4_takeNews_34 rfl rfl ?_
          refine g_get (pc := 35) 12 cN_12 rfl inlX4 2 (by decide) bw_4_0 rfl dX4_takeNews_35 ?_
          refine g_aload_n (pc := 38) 0 dX4_takeNews_38 rfl rfl ?_
          refine g_get (pc := 39) 12 cN_12 rfl inlX4 10 (by decide) bw_4_8 rfl dX4_takeNews_39 ?_
          refine g_iload_n (pc := 42) 1 dX4_takeNews_42 rfl rfl ?_
          refine g_cNv (pc := 43) (As := [Value.ref (a 15), Value.int (s7 12 10), Value.int x1]) (fun r2 h2 => k_X10_put__15 hI h2) wk_X10_put ws_X10_put nst_RX4_89 (by decide) (by decide) rfl rfl (Nat.le_of_ble_eq_true rfl) dX4_takeNews_43 (fun r8 s9 => ?_)
          refine g_aload_n (pc := 46) 0 dX4_takeNews_46 rfl rfl ?_
          refine g_get (pc := 47) 12 cN_12 rfl inlX4 3 (by decide) bw_4_1 rfl dX4_takeNews_47 ?_
          refine g_aload_n (pc := 50) 0 dX4_takeNews_50 rfl rfl ?_
          refine g_get (pc := 51) 12 cN_12 rfl inlX4 10 (by decide) bw_4_8 rfl dX4_takeNews_51 ?_
          refine g_iload_n (pc := 54) 2 dX4_takeNews_54 rfl rfl ?_
          refine g_cNv (pc := 55) (As := [Value.ref (a 16), Value.int (s9 12 10), Value.int x2]) (fun r2 h2 => k_X10_put__16 hI h2) wk_X10_put ws_X10_put nst_RX4_89 (by decide) (by decide) rfl rfl (Nat.le_of_ble_eq_true rfl) dX4_takeNews_55 (fun r10 s11 => ?_)
          refine g_aload_n (pc := 58) 0 dX4_takeNews_58 rfl rfl ?_
          refine g_get (pc := 59) 12 cN_12 rfl inlX4 4 (by decide) bw_4_2 rfl dX4_takeNews_59 ?_
          refine g_aload_n (pc := 62) 0 dX4_takeNews_62 rfl rfl ?_
          refine g_get (pc := 63) 12 cN_12 rfl inlX4 10 (by decide) bw_4_8 rfl dX4_takeNews_63 ?_
          refine g_iload_n (pc := 66) 3 dX4_takeNews_66 rfl rfl ?_
          refine g_cNv (pc := 67) (As := [Value.ref (a 17), Value.int (s11 12 10), Value.int x3]) (fun r2 h2 => k_X10_put__17 hI h2) wk_X10_put ws_X10_put nst_RX4_89 (by decide) (by decide) rfl rfl (Nat.le_of_ble_eq_true rfl) dX4_takeNews_67 (fun r12 s13 => ?_)
          refine g_aload_n (pc := 70) 0 dX4_takeNews_70 rfl rfl ?_
          refine g_dup (pc := 71) dX4_takeNews_71 rfl ?_
          refine g_get (pc := 72) 12 cN_12 rfl inlX4 10 (by decide) bw_4_8 rfl dX4_takeNews_72 ?_
          refine g_iconst (pc := 75) (v := 1) dX4_takeNews_75 (by decide) ?_
          refine g_iadd (pc := 76) dX4_takeNews_76 ?_
          refine g_put (pc := 77) 12 (ty := .int) cN_12 rfl inlX4 tyX4_ok nmX4 10 (by decide) bw_4_8 rfl (by decide +kernel) rfl rfl (Nat.le_of_ble_eq_true rfl) cN_f12_10 dX4_takeNews_77 (fun s14 => ?_)
          refine g_iconst (pc := 80) (v := 1) dX4_takeNews_80 (by decide) ?_
          exact g_zret1 (pc := 81) hRT (by decide) dX4_takeNews_81
        · refine g_iconst (pc := 32) (v := 0) dX4_takeNews_32 (by decide) ?_
          exact g_zret1 (pc := 33) hRT (by decide) dX4_takeNews_33
      · refine g_iconst (pc := 22) (v := 0) dX4_takeNews_22 (by decide) ?_
        exact g_zret1 (pc := 23) hRT (by decide) dX4_takeNews_23
set_option maxRecDepth 100000 in
set_option maxHeartbeats 4000000 in
theorem k_X10_put__18 {l : Launch} {D : va_G} {a : Nat → Nat} {cI cS : ClassId} (hI : ∀ σ : St, va_D (AN a) (cN a cI cS σ)) {σ : St} {x1 x2 : Int32} {r : Int32 × St} (h : f_X10_put__18 σ x1 x2 = some r) : Kc (SN l D a cI cS) yX10_put cX10_put 3 none 0 [Value.ref (a 18), Value.int x1, Value.int x2] σ r := by
  refine enter (own := RX10) (o := f_X10_put__18 σ x1 x2) (plainFor_of_name (by decide +kernel)) rfl (Nat.le_of_ble_eq_true rfl) hI wk_X10_put.1 h (fun Γ hRT => ?_)
  show G _ Γ _ _ _ _ _ _ σ [((0 : Nat), Value.ref (a 18)), ((1 : Nat), Value.int x1), ((2 : Nat), Value.int x2)] 0 []
  unfold f_X10_put__18
  refine g_aload_n (pc := 0) 0 dX10_put_0 rfl rfl ?_
  refine g_ifnull (pc := 1) dX10_put_1 ?_
  refine g_iload_n (pc := 4) 1 dX10_put_4 rfl rfl ?_
  refine g_if_lt (pc := 5) (tgt := 18) dX10_put_5 (by decide) ?_ ?_
  · exact g_vret (pc := 18) hRT dX10_put_18
  · refine g_iload_n (pc := 8) 1 dX10_put_8 rfl rfl ?_
    refine g_aload_n (pc := 9) 0 dX10_put_9 rfl rfl ?_
    refine g_alen (pc := 10) 18 0 (v := 8) cN_18 rfl (show Int32.ofNat 8 = 8 by decide) dX10_put_10 ?_
    refine g_icmp_ge (pc := 11) (tgt := 18) dX10_put_11 (by decide) ?_ ?_
    · exact g_vret (pc := 18) hRT dX10_put_18
    · refine g_aload_n (pc := 14) 0 dX10_put_14 rfl rfl ?_
      refine g_iload_n (pc := 15) 1 dX10_put_15 rfl rfl ?_
      refine g_iload_n (pc := 16) 2 dX10_put_16 rfl rfl ?_
      refine g_iast (pc := 17) 18 cN_18 rfl cN_s18 dX10_put_17 (fun s3 => ?_)
      exact g_vret (pc := 18) hRT dX10_put_18
set_option maxRecDepth 100000 in
set_option maxHeartbeats 4000000 in
theorem k_X4_takeWind__12 {l : Launch} {D : va_G} {a : Nat → Nat} {cI cS : ClassId} (hI : ∀ σ : St, va_D (AN a) (cN a cI cS σ)) {σ : St} {x1 : Int32} {r : Int32 × St} (h : f_X4_takeWind__12 σ x1 = some r) : Kc (SN l D a cI cS) yX4_takeWind cX4_takeWind 2 (some .boolean) 1 [Value.ref (a 12), Value.int x1] σ r := by
  refine enter (own := RX4) (o := f_X4_takeWind__12 σ x1) (plainFor_of_name (by decide +kernel)) rfl (Nat.le_of_ble_eq_true rfl) hI wk_X4_takeWind.1 h (fun Γ hRT => ?_)
  show G _ Γ _ _ _ _ _ _ σ [((0 : Nat), Value.ref (a 12)), ((1 : Nat), Value.int x1)] 0 []
  unfold f_X4_takeWind__12
  refine g_iload_n (pc := 0) 1 dX4_takeWind_0 rfl rfl ?_
  refine g_iconst (pc := 1) (v := 4) dX4_takeWind_1 (by decide) ?_
  refine g_icmp_gt (pc := 2) (tgt := 14) dX4_takeWind_2 (by decide) ?_ ?_
  · refine g_iconst (pc := 14) (v := 0) dX4_takeWind_14 (by decide) ?_
    exact g_zret1 (pc := 15) hRT (by decide) dX4_takeWind_15
  · refine g_aload_n (pc := 5) 0 dX4_takeWind_5 rfl rfl ?_
    refine g_get (pc := 6) 12 cN_12 rfl inlX4 11 (by decide) bw_4_9 rfl dX4_takeWind_6 ?_
    refine g_bipush (pc := 9) (v := 8) dX4_takeWind_9 (by decide) ?_
    refine g_icmp_lt (pc := 11) (tgt := 16) dX4_takeWind_11 (by decide) ?_ ?_
    · refine g_aload_n (pc := 16) 0 dX4_takeWind_16 rfl rfl ?_
      refine g_get (pc := 17) 12 cN_12 rfl inlX4 5 (by decide) bw_4_3 rfl dX4_takeWind_17 ?_
      refine g_aload_n (pc := 20) 0 dX4_takeWind_20 rfl rfl ?_
      refine g_get (pc := 21) 12 cN_12 rfl inlX4 11 (by decide) bw_4_9 rfl dX4_takeWind_21 ?_
      refine g_iload_n (pc := 24) 1 dX4_takeWind_24 rfl rfl ?_
      refine g_cNv (pc := 25) (As := [Value.ref (a 18), Value.int (σ 12 11), Value.int x1]) (fun r2 h2 => k_X10_put__18 hI h2) wk_X10_put ws_X10_put nst_RX4_89 (by decide) (by decide) rfl rfl (Nat.le_of_ble_eq_true rfl) dX4_takeWind_25 (fun r2 s3 => ?_)
      refine g_aload_n (pc := 28) 0 dX4_takeWind_28 rfl rfl ?_
      refine g_dup (pc := 29) dX4_takeWind_29 rfl ?_
      refine g_get (pc := 30) 12 cN_12 rfl inlX4 11 (by decide) bw_4_9 rfl dX4_takeWind_30 ?_
      refine g_iconst (pc := 33) (v := 1) dX4_takeWind_33 (by decide) ?_
      refine g_iadd (pc := 34) dX4_takeWind_34 ?_
      refine g_put (pc := 35) 12 (ty := .int) cN_12 rfl inlX4 tyX4_ok nmX4 11 (by decide) bw_4_9 rfl (by decide +kernel) rfl rfl (Nat.le_of_ble_eq_true rfl) cN_f12_11 dX4_takeWind_35 (fun s4 => ?_)
      refine g_iconst (pc := 38) (v := 1) dX4_takeWind_38 (by decide) ?_
      exact g_zret1 (pc := 39) hRT (by decide) dX4_takeWind_39
    · refine g_iconst (pc := 14) (v := 0) dX4_takeWind_14 (by decide) ?_
      exact g_zret1 (pc := 15) hRT (by decide) dX4_takeWind_15
set_option maxRecDepth 100000 in
set_option maxHeartbeats 4000000 in
theorem k_X4_take__12_4 {l : Launch} {D : va_G} {a : Nat → Nat} {cI cS : ClassId} (hI : ∀ σ : St, va_D (AN a) (cN a cI cS σ)) {σ : St} {x1 x2 : Int32} {r : Int32 × St} (h : f_X4_take__12_4 σ x1 x2 = some r) : Kc (SN l D a cI cS) yX4_take cX4_take 7 (some .boolean) 3 [Value.ref (a 12), Value.int x1, Value.int x2, Value.ref (a 4)] σ r := by
  refine enter (own := RX4) (o := f_X4_take__12_4 σ x1 x2) (plainFor_of_name (by decide +kernel)) rfl (Nat.le_of_ble_eq_true rfl) hI wk_X4_take.1 h (fun Γ hRT => ?_)
  show G _ Γ _ _ _ _ _ _ σ [((0 : Nat), Value.ref (a 12)), ((1 : Nat), Value.int x1), ((2 : Nat), Value.int x2), ((3 : Nat), Value.ref (a 4))] 0 []
  unfold f_X4_take__12_4
  refine g_aload_n (pc := 0) 3 dX4_take_0 rfl rfl ?_
  refine g_iconst (pc := 1) (v := 0) dX4_take_1 (by decide) ?_
  refine g_cNi (pc := 2) (As := [Value.ref (a 4), Value.int (0 : Int32)]) (fun r2 h2 => k_X10_at__4 hI h2) wk_X10_at ws_X10_at nst_RX4_61 (by decide) (by decide) rfl rfl (Nat.le_of_ble_eq_true rfl) dX4_take_2 (fun r3 s4 => ?_)
  refine g_istore (pc := 5) [1, 2, 3, 4, 0] (lv1 := [(0, Value.ref (a 12)), (1, Value.int x1), (2, Value.int x2), (3, Value.ref (a 4)), (4, Value.int r3)]) dX4_take_5 (by decide) rfl ?_
  refine g_aload_n (pc := 7) 3 dX4_take_7 rfl rfl ?_
  refine g_iconst (pc := 8) (v := 1) dX4_take_8 (by decide) ?_
  refine g_cNi (pc := 9) (As := [Value.ref (a 4), Value.int (1 : Int32)]) (fun r2 h2 => k_X10_at__4 hI h2) wk_X10_at ws_X10_at nst_RX4_61 (by decide) (by decide) rfl rfl (Nat.le_of_ble_eq_true rfl) dX4_take_9 (fun r5 s6 => ?_)
  refine g_istore (pc := 12) [1, 2, 3, 4, 5, 0] (lv1 := [(0, Value.ref (a 12)), (1, Value.int x1), (2, Value.int x2), (3, Value.ref (a 4)), (4, Value.int r3), (5, Value.int r5)]) dX4_take_12 (by decide) rfl ?_
  refine g_aload_n (pc := 14) 3 dX4_take_14 rfl rfl ?_
  refine g_iconst (pc := 15) (v := 2) dX4_take_15 (by decide) ?_
  refine g_cNi (pc := 16) (As := [Value.ref (a 4), Value.int (2 : Int32)]) (fun r2 h2 => k_X10_at__4 hI h2) wk_X10_at ws_X10_at nst_RX4_61 (by decide) (by decide) rfl rfl (Nat.le_of_ble_eq_true rfl) dX4_take_16 (fun r7 s8 => ?_)
  refine g_istore (pc := 19) [1, 2, 3, 4, 5, 6, 0] (lv1 := [(0, Value.ref (a 12)), (1, Value.int x1), (2, Value.int x2), (3, Value.ref (a 4)), (4, Value.int r3), (5, Value.int r5), (6, Value.int r7)]) dX4_take_19 (by decide) rfl ?_
  refine g_iload_n (pc := 21) 1 dX4_take_21 rfl rfl ?_
  refine g_bipush (pc := 22) (v := 103) dX4_take_22 (by decide) ?_
  refine g_icmp_ne (pc := 24) (tgt := 56) dX4_take_24 (by decide) ?_ ?_
  · refine g_aload_n (pc := 56) 0 dX4_take_56 rfl rfl ?_
    refine g_iconst (pc := 57) (v := 0) dX4_take_57 (by decide) ?_
    refine g_put (pc := 58) 12 (ty := .boolean) cN_12 rfl inlX4 tyX4_ok nmX4 12 (by decide) bw_4_10 rfl (by decide +kernel) (by decide) (by decide) (Nat.le_of_ble_eq_true rfl) cN_f12_12 dX4_take_58 (fun s9 => ?_)
    refine g_iload_n (pc := 61) 1 dX4_take_61 rfl rfl ?_
    refine g_ite (fun e104_ => ?_) (fun e104_ => ?_)
    · refine g_lookup (pc := 62) (off := 34) (tgt := 96) dX4_take_62 (by decide) (by rw [e104_]; decide) (by decide) ?_
      refine g_jq0 (pc2 := 118) (lf := ([] : List (Nat × Value))) (sf := ([] : List Value)) (fun s11 => ?_) (fun k10 hk10 => ?_)
      · show G _ Γ _ _ _ _ _ _ s11 ([] : List (Nat × Value)) 118 ([] : List Value)
        refine g_iconst (pc := 118) (v := 0) dX4_take_118 (by decide) ?_
        exact g_zret1 (pc := 119) hRT (by decide) dX4_take_119
      · refine g_iload_n (pc := 96) 2 dX4_take_96 rfl rfl ?_
        refine g_iconst (pc := 97) (v := 3) dX4_take_97 (by decide) ?_
        refine g_icmp_ne (pc := 98) (tgt := 118) dX4_take_98 (by decide) ?_ ?_
        · exact g_lv [] rfl (hk10 s9)
        · refine g_aload_n (pc := 101) 0 dX4_take_101 rfl rfl ?_
          refine g_iload (pc := 102) 4 dX4_take_102 rfl ?_
          refine g_iload (pc := 104) 5 dX4_take_104 rfl ?_
          refine g_iload (pc := 106) 6 dX4_take_106 rfl ?_
          refine g_cVz (pc := 108) 12 (As := [Value.int r3, Value.int r5, Value.int r7]) (fun r2 h2 => k_X4_takeHouse__12 hI h2) wk_X4_takeHouse wv_X4_takeHouse bw_11_14 cN_12 rfl (by decide) (by decide) rfl rfl (Nat.le_of_ble_eq_true rfl) dX4_take_108 (fun r12 s13 => ?_)
          refine g_if_eq (pc := 111) (tgt := 118) dX4_take_111 (by decide) ?_ ?_
          · exact g_lv [] rfl (hk10 s13)
          · refine g_iconst (pc := 114) (v := 1) dX4_take_114 (by decide) ?_
            refine g_goto (pc := 115) (tgt := 119) dX4_take_115 (by decide) ?_
            exact g_zret1 (pc := 119) hRT (by decide) dX4_take_119
    · skip
      refine g_ite (fun e110_ => ?_) (fun e110_ => ?_)
      · refine g_lookup (pc := 62) (off := 58) (tgt := 120) dX4_take_62 (by decide) (by rw [e110_]; decide) (by decide) ?_
        refine g_jq0 (pc2 := 142) (lf := ([] : List (Nat × Value))) (sf := ([] : List Value)) (fun s15 => ?_) (fun k14 hk14 => ?_)
        · show G _ Γ _ _ _ _ _ _ s15 ([] : List (Nat × Value)) 142 ([] : List Value)
          refine g_iconst (pc := 142) (v := 0) dX4_take_142 (by decide) ?_
          exact g_zret1 (pc := 143) hRT (by decide) dX4_take_143
        · refine g_iload_n (pc := 120) 2 dX4_take_120 rfl rfl ?_
          refine g_iconst (pc := 121) (v := 3) dX4_take_121 (by decide) ?_
          refine g_icmp_ne (pc := 122) (tgt := 142) dX4_take_122 (by decide) ?_ ?_
          · exact g_lv [] rfl (hk14 s9)
          · refine g_aload_n (pc := 125) 0 dX4_take_125 rfl rfl ?_
            refine g_iload (pc := 126) 4 dX4_take_126 rfl ?_
            refine g_iload (pc := 128) 5 dX4_take_128 rfl ?_
            refine g_iload (pc := 130) 6 dX4_take_130 rfl ?_
            refine g_cVz (pc := 132) 12 (As := [Value.int r3, Value.int r5, Value.int r7]) (fun r2 h2 => k_X4_takeNews__12 hI h2) wk_X4_takeNews wv_X4_takeNews bw_12_5 cN_12 rfl (by decide) (by decide) rfl rfl (Nat.le_of_ble_eq_true rfl) dX4_take_132 (fun r16 s17 => ?_)
            refine g_if_eq (pc := 135) (tgt := 142) dX4_take_135 (by decide) ?_ ?_
            · exact g_lv [] rfl (hk14 s17)
            · refine g_iconst (pc := 138) (v := 1) dX4_take_138 (by decide) ?_
              refine g_goto (pc := 139) (tgt := 143) dX4_take_139 (by decide) ?_
              exact g_zret1 (pc := 143) hRT (by decide) dX4_take_143
      · skip
        refine g_ite (fun e119_ => ?_) (fun e119_ => ?_)
        · refine g_lookup (pc := 62) (off := 82) (tgt := 144) dX4_take_62 (by decide) (by rw [e119_]; decide) (by decide) ?_
          refine g_jq0 (pc2 := 162) (lf := ([] : List (Nat × Value))) (sf := ([] : List Value)) (fun s19 => ?_) (fun k18 hk18 => ?_)
          · show G _ Γ _ _ _ _ _ _ s19 ([] : List (Nat × Value)) 162 ([] : List Value)
            refine g_iconst (pc := 162) (v := 0) dX4_take_162 (by decide) ?_
            exact g_zret1 (pc := 163) hRT (by decide) dX4_take_163
          · refine g_iload_n (pc := 144) 2 dX4_take_144 rfl rfl ?_
            refine g_iconst (pc := 145) (v := 1) dX4_take_145 (by decide) ?_
            refine g_icmp_ne (pc := 146) (tgt := 162) dX4_take_146 (by decide) ?_ ?_
            · exact g_lv [] rfl (hk18 s9)
            · refine g_aload_n (pc := 149) 0 dX4_take_149 rfl rfl ?_
              refine g_iload (pc := 150) 4 dX4_take_150 rfl ?_
              refine g_cVz (pc := 152) 12 (As := [Value.int r3]) (fun r2 h2 => k_X4_takeWind__12 hI h2) wk_X4_takeWind wv_X4_takeWind bw_12_9 cN_12 rfl (by decide) (by decide) rfl rfl (Nat.le_of_ble_eq_true rfl) dX4_take_152 (fun r20 s21 => ?_)
              refine g_if_eq (pc := 155) (tgt := 162) dX4_take_155 (by decide) ?_ ?_
              · exact g_lv [] rfl (hk18 s21)
              · refine g_iconst (pc := 158) (v := 1) dX4_take_158 (by decide) ?_
                refine g_goto (pc := 159) (tgt := 163) dX4_take_159 (by decide) ?_
                exact g_zret1 (pc := 163) hRT (by decide) dX4_take_163
        · skip
          have n104_ : x1.toInt ≠ 104 := fun q => e104_ (Int32.toInt_inj.mp (q.trans (by decide)))
          have n110_ : x1.toInt ≠ 110 := fun q => e110_ (Int32.toInt_inj.mp (q.trans (by decide)))
          have n119_ : x1.toInt ≠ 119 := fun q => e119_ (Int32.toInt_inj.mp (q.trans (by decide)))
          refine g_lookup (pc := 62) (off := 102) (tgt := 164) dX4_take_62 (by decide) (by simp [Op.lookupswitch.offset, List.find?, n104_, Ne.symm n104_, n110_, Ne.symm n110_, n119_, Ne.symm n119_]) (by decide) ?_
          refine g_iconst (pc := 164) (v := 0) dX4_take_164 (by decide) ?_
          exact g_zret1 (pc := 165) hRT (by decide) dX4_take_165
  · refine g_jq0 (pc2 := 54) (lf := ([] : List (Nat × Value))) (sf := ([] : List Value)) (fun s23 => ?_) (fun k22 hk22 => ?_)
    · show G _ Γ _ _ _ _ _ _ s23 ([] : List (Nat × Value)) 54 ([] : List Value)
      refine g_iconst (pc := 54) (v := 0) dX4_take_54 (by decide) ?_
      exact g_zret1 (pc := 55) hRT (by decide) dX4_take_55
    · refine g_iload_n (pc := 27) 2 dX4_take_27 rfl rfl ?_
      refine g_iconst (pc := 28) (v := 2) dX4_take_28 (by decide) ?_
      refine g_icmp_ne (pc := 29) (tgt := 54) dX4_take_29 (by decide) ?_ ?_
      · exact g_lv [] rfl (hk22 s8)
      · refine g_aload_n (pc := 32) 0 dX4_take_32 rfl rfl ?_
        refine g_get (pc := 33) 12 cN_12 rfl inlX4 12 (by decide) bw_4_10 rfl dX4_take_33 ?_
        refine g_if_eq (pc := 36) (tgt := 54) dX4_take_36 (by decide) ?_ ?_
        · exact g_lv [] rfl (hk22 s8)
        · refine g_aload_n (pc := 39) 0 dX4_take_39 rfl rfl ?_
          refine g_iload (pc := 40) 4 dX4_take_40 rfl ?_
          refine g_iload (pc := 42) 5 dX4_take_42 rfl ?_
          refine g_cVz (pc := 44) 12 (As := [Value.int r3, Value.int r5]) (fun r2 h2 => k_X4_takeGrid__12 hI h2) wk_X4_takeGrid wv_X4_takeGrid bw_10_5 cN_12 rfl (by decide) (by decide) rfl rfl (Nat.le_of_ble_eq_true rfl) dX4_take_44 (fun r24 s25 => ?_)
          refine g_if_eq (pc := 47) (tgt := 54) dX4_take_47 (by decide) ?_ ?_
          · exact g_lv [] rfl (hk22 s25)
          · refine g_iconst (pc := 50) (v := 1) dX4_take_50 (by decide) ?_
            refine g_goto (pc := 51) (tgt := 55) dX4_take_51 (by decide) ?_
            exact g_zret1 (pc := 55) hRT (by decide) dX4_take_55
set_option maxRecDepth 100000 in
set_option maxHeartbeats 4000000 in
theorem k_X6_readInto__3_12 {l : Launch} {D : va_G} {a : Nat → Nat} {cI cS : ClassId} (hI : ∀ σ : St, va_D (AN a) (cN a cI cS σ)) {σ : St} {r : Int32 × St} (h : f_X6_readInto__3_12 σ = some r) : Kc (SN l D a cI cS) yX6_readInto cX6_readInto 5 (some .int) 4 [Value.ref (a 3), Value.ref (a 12)] σ r := by
  refine enter (own := RX6) (o := f_X6_readInto__3_12 σ) (plainFor_of_name (by decide +kernel)) rfl (Nat.le_of_ble_eq_true rfl) hI wk_X6_readInto.1 h (fun Γ hRT => ?_)
  show G _ Γ _ _ _ _ _ _ σ [((0 : Nat), Value.ref (a 3)), ((1 : Nat), Value.ref (a 12))] 0 []
  unfold f_X6_readInto__3_12
  refine g_aload_n (pc := 0) 1 dX6_readInto_0 rfl rfl ?_
  refine g_cVv (pc := 1) 12 (As := []) (fun r2 h2 => k_X4_clear__12 hI h2) wk_X4_clear wv_X4_clear bw_9_23 cN_12 rfl (by decide) (by decide) rfl rfl (Nat.le_of_ble_eq_true rfl) dX6_readInto_1 (fun r1 s2 => ?_)
  refine g_aload_n (pc := 4) 0 dX6_readInto_4 rfl rfl ?_
  refine g_iconst (pc := 5) (v := 0) dX6_readInto_5 (by decide) ?_
  refine g_put (pc := 6) 3 (ty := .int) cN_3 rfl inlX6 tyX6_ok nmX6 2 (by decide) bw_3_17 rfl (by decide +kernel) rfl rfl (Nat.le_of_ble_eq_true rfl) cN_f3_2 dX6_readInto_6 (fun s3 => ?_)
  refine g_iconst (pc := 9) (v := 0) dX6_readInto_9 (by decide) ?_
  refine g_istore_n (pc := 10) [1, 2, 0] (lv1 := [(0, Value.ref (a 3)), (1, Value.ref (a 12)), (2, Value.int (0 : Int32))]) dX6_readInto_10 rfl (by decide) rfl ?_
  refine g_lq1 (pc := 11) (lf := fun x5 => [((0 : Nat), Value.ref (a 3)), ((1 : Nat), Value.ref (a 12)), ((2 : Nat), Value.int x5)]) (sf := fun x5 => ([] : List Value)) (fun k4 hk4 s6 x5 => ?_) 100000 s3 _
  show G _ Γ _ _ _ _ _ _ s6 [((0 : Nat), Value.ref (a 3)), ((1 : Nat), Value.ref (a 12)), ((2 : Nat), Value.int x5)] 11 ([] : List Value)
  refine g_iload_n (pc := 11) 2 dX6_readInto_11 rfl rfl ?_
  refine g_sipush (pc := 12) (v := 200) dX6_readInto_12 (by decide) ?_
  refine g_icmp_ge (pc := 15) (tgt := 87) dX6_readInto_15 (by decide) ?_ ?_
  · refine g_bipush (pc := 87) (v := -4) dX6_readInto_87 (by decide) ?_
    exact g_iret (pc := 89) hRT dX6_readInto_89
  · refine g_aload_n (pc := 18) 0 dX6_readInto_18 rfl rfl ?_
    refine g_get (pc := 19) 3 cN_3 rfl inlX6 2 (by decide) bw_3_17 rfl dX6_readInto_19 ?_
    refine g_aload_n (pc := 22) 0 dX6_readInto_22 rfl rfl ?_
    refine g_get (pc := 23) 3 cN_3 rfl inlX6 0 (by decide) bw_3_18 rfl dX6_readInto_23 ?_
    refine g_cVi (pc := 26) 1 (As := []) (fun r2 h2 => k_X7_length__1 hI h2) wk_X7_length wv_X7_length bw_10_13 cN_1 rfl (by decide) (by decide) rfl rfl (Nat.le_of_ble_eq_true rfl) dX6_readInto_26 (fun r7 s8 => ?_)
    refine g_icmp_ge (pc := 29) (tgt := 87) dX6_readInto_29 (by decide) ?_ ?_
    · refine g_bipush (pc := 87) (v := -4) dX6_readInto_87 (by decide) ?_
      exact g_iret (pc := 89) hRT dX6_readInto_89
    · refine g_aload_n (pc := 32) 0 dX6_readInto_32 rfl rfl ?_
      refine g_get (pc := 33) 3 cN_3 rfl inlX6 2 (by decide) bw_3_17 rfl dX6_readInto_33 ?_
      refine g_nm (fun x9 => ?_)
      refine g_istore_n (pc := 36) [1, 2, 3, 0] (lv1 := [(0, Value.ref (a 3)), (1, Value.ref (a 12)), (2, Value.int x5), (3, Value.int x9)]) dX6_readInto_36 rfl (by decide) rfl ?_
      refine g_aload_n (pc := 37) 0 dX6_readInto_37 rfl rfl ?_
      refine g_dup (pc := 38) dX6_readInto_38 rfl ?_
      refine g_get (pc := 39) 3 cN_3 rfl inlX6 2 (by decide) bw_3_17 rfl dX6_readInto_39 ?_
      refine g_iconst (pc := 42) (v := 1) dX6_readInto_42 (by decide) ?_
      refine g_iadd (pc := 43) dX6_readInto_43 ?_
      refine g_put (pc := 44) 3 (ty := .int) cN_3 rfl inlX6 tyX6_ok nmX6 2 (by decide) bw_3_17 rfl (by decide +kernel) rfl rfl (Nat.le_of_ble_eq_true rfl) cN_f3_2 dX6_readInto_44 (fun s10 => ?_)
      refine g_aload_n (pc := 47) 0 dX6_readInto_47 rfl rfl ?_
      refine g_cVi (pc := 48) 3 (As := []) (fun r2 h2 => k_X6_readNumbers__3 hI h2) wk_X6_readNumbers wv_X6_readNumbers bw_10_17 cN_3 rfl (by decide) (by decide) rfl rfl (Nat.le_of_ble_eq_true rfl) dX6_readInto_48 (fun r11 s12 => ?_)
      refine g_istore (pc := 51) [1, 2, 3, 4, 0] (lv1 := [(0, Value.ref (a 3)), (1, Value.ref (a 12)), (2, Value.int x5), (3, Value.int x9), (4, Value.int r11)]) dX6_readInto_51 (by decide) rfl ?_
      refine g_iload (pc := 53) 4 dX6_readInto_53 rfl ?_
      refine g_if_eq (pc := 55) (tgt := 79) dX6_readInto_55 (by decide) ?_ ?_
      · refine g_iload_n (pc := 79) 3 dX6_readInto_79 rfl rfl ?_
        exact g_iret (pc := 80) hRT dX6_readInto_80
      · refine g_aload_n (pc := 58) 1 dX6_readInto_58 rfl rfl ?_
        refine g_aload_n (pc := 59) 0 dX6_readInto_59 rfl rfl ?_
        refine g_get (pc := 60) 3 cN_3 rfl inlX6 0 (by decide) bw_3_18 rfl dX6_readInto_60 ?_
        refine g_iload_n (pc := 63) 3 dX6_readInto_63 rfl rfl ?_
        refine g_cVi (pc := 64) 1 (As := [Value.int x9]) (fun r2 h2 => k_X7_letterAt__1 hI h2) wk_X7_letterAt wv_X7_letterAt bw_11_1 cN_1 rfl (by decide) (by decide) rfl rfl (Nat.le_of_ble_eq_true rfl) dX6_readInto_64 (fun r13 s14 => ?_)
        refine g_iload (pc := 67) 4 dX6_readInto_67 rfl ?_
        refine g_aload_n (pc := 69) 0 dX6_readInto_69 rfl rfl ?_
        refine g_get (pc := 70) 3 cN_3 rfl inlX6 1 (by decide) bw_3_16 rfl dX6_readInto_70 ?_
        refine g_cVz (pc := 73) 12 (As := [Value.int r13, Value.int r11, Value.ref (a 4)]) (fun r2 h2 => k_X4_take__12_4 hI h2) wk_X4_take wv_X4_take bw_11_10 cN_12 rfl (by decide) (by decide) rfl rfl (Nat.le_of_ble_eq_true rfl) dX6_readInto_73 (fun r15 s16 => ?_)
        refine g_if_ne (pc := 76) (tgt := 81) dX6_readInto_76 (by decide) ?_ ?_
        · refine g_iinc (pc := 81) [1, 2, 0, 3, 4] 2 (n1 := 1) (lv1 := fun x17 => [(0, Value.ref (a 3)), (1, Value.ref (a 12)), (2, Value.int x17), (3, Value.int x9), (4, Value.int r11)]) dX6_readInto_81 rfl (by decide) (by decide) (fun _ => rfl) (fun x17 => ?_)
          show G _ Γ _ _ _ _ _ _ _ [(0, Value.ref (a 3)), (1, Value.ref (a 12)), (2, Value.int x17), (3, Value.int x9), (4, Value.int r11)] (81 + 3) _
          refine g_goto (pc := 84) (tgt := 11) dX6_readInto_84 (by decide) ?_
          exact g_lv [0, 1, 2] rfl (hk4 s16 _)
        · refine g_iload_n (pc := 79) 3 dX6_readInto_79 rfl rfl ?_
          exact g_iret (pc := 80) hRT dX6_readInto_80
set_option maxRecDepth 100000 in
set_option maxHeartbeats 4000000 in
theorem k_X10_put__21 {l : Launch} {D : va_G} {a : Nat → Nat} {cI cS : ClassId} (hI : ∀ σ : St, va_D (AN a) (cN a cI cS σ)) {σ : St} {x1 x2 : Int32} {r : Int32 × St} (h : f_X10_put__21 σ x1 x2 = some r) : Kc (SN l D a cI cS) yX10_put cX10_put 3 none 0 [Value.ref (a 21), Value.int x1, Value.int x2] σ r := by
  refine enter (own := RX10) (o := f_X10_put__21 σ x1 x2) (plainFor_of_name (by decide +kernel)) rfl (Nat.le_of_ble_eq_true rfl) hI wk_X10_put.1 h (fun Γ hRT => ?_)
  show G _ Γ _ _ _ _ _ _ σ [((0 : Nat), Value.ref (a 21)), ((1 : Nat), Value.int x1), ((2 : Nat), Value.int x2)] 0 []
  unfold f_X10_put__21
  refine g_aload_n (pc := 0) 0 dX10_put_0 rfl rfl ?_
  refine g_ifnull (pc := 1) dX10_put_1 ?_
  refine g_iload_n (pc := 4) 1 dX10_put_4 rfl rfl ?_
  refine g_if_lt (pc := 5) (tgt := 18) dX10_put_5 (by decide) ?_ ?_
  · exact g_vret (pc := 18) hRT dX10_put_18
  · refine g_iload_n (pc := 8) 1 dX10_put_8 rfl rfl ?_
    refine g_aload_n (pc := 9) 0 dX10_put_9 rfl rfl ?_
    refine g_alen (pc := 10) 21 0 (v := 5) cN_21 rfl (show Int32.ofNat 5 = 5 by decide) dX10_put_10 ?_
    refine g_icmp_ge (pc := 11) (tgt := 18) dX10_put_11 (by decide) ?_ ?_
    · exact g_vret (pc := 18) hRT dX10_put_18
    · refine g_aload_n (pc := 14) 0 dX10_put_14 rfl rfl ?_
      refine g_iload_n (pc := 15) 1 dX10_put_15 rfl rfl ?_
      refine g_iload_n (pc := 16) 2 dX10_put_16 rfl rfl ?_
      refine g_iast (pc := 17) 21 cN_21 rfl cN_s21 dX10_put_17 (fun s3 => ?_)
      exact g_vret (pc := 18) hRT dX10_put_18
set_option maxRecDepth 100000 in
set_option maxHeartbeats 4000000 in
theorem k_X4_hasNews__12 {l : Launch} {D : va_G} {a : Nat → Nat} {cI cS : ClassId} (hI : ∀ σ : St, va_D (AN a) (cN a cI cS σ)) {σ : St} {x1 : Int32} {r : Int32 × St} (h : f_X4_hasNews__12 σ x1 = some r) : Kc (SN l D a cI cS) yX4_hasNews cX4_hasNews 2 (some .boolean) 0 [Value.ref (a 12), Value.int x1] σ r := by
  refine enter (own := RX4) (o := f_X4_hasNews__12 σ x1) (plainFor_of_name (by decide +kernel)) rfl (Nat.le_of_ble_eq_true rfl) hI wk_X4_hasNews.1 h (fun Γ hRT => ?_)
  show G _ Γ _ _ _ _ _ _ σ [((0 : Nat), Value.ref (a 12)), ((1 : Nat), Value.int x1)] 0 []
  unfold f_X4_hasNews__12
  refine g_jq0 (pc2 := 16) (lf := ([] : List (Nat × Value))) (sf := ([] : List Value)) (fun s3 => ?_) (fun k2 hk2 => ?_)
  · show G _ Γ _ _ _ _ _ _ s3 ([] : List (Nat × Value)) 16 ([] : List Value)
    refine g_iconst (pc := 16) (v := 0) dX4_hasNews_16 (by decide) ?_
    exact g_zret1 (pc := 17) hRT (by decide) dX4_hasNews_17
  · refine g_iload_n (pc := 0) 1 dX4_hasNews_0 rfl rfl ?_
    refine g_if_lt (pc := 1) (tgt := 16) dX4_hasNews_1 (by decide) ?_ ?_
    · exact g_lv [] rfl (hk2 σ)
    · refine g_iload_n (pc := 4) 1 dX4_hasNews_4 rfl rfl ?_
      refine g_aload_n (pc := 5) 0 dX4_hasNews_5 rfl rfl ?_
      refine g_get (pc := 6) 12 cN_12 rfl inlX4 10 (by decide) bw_4_8 rfl dX4_hasNews_6 ?_
      refine g_icmp_ge (pc := 9) (tgt := 16) dX4_hasNews_9 (by decide) ?_ ?_
      · exact g_lv [] rfl (hk2 σ)
      · refine g_iconst (pc := 12) (v := 1) dX4_hasNews_12 (by decide) ?_
        refine g_goto (pc := 13) (tgt := 17) dX4_hasNews_13 (by decide) ?_
        exact g_zret1 (pc := 17) hRT (by decide) dX4_hasNews_17
set_option maxRecDepth 100000 in
set_option maxHeartbeats 4000000 in
theorem k_X10_at__17 {l : Launch} {D : va_G} {a : Nat → Nat} {cI cS : ClassId} (hI : ∀ σ : St, va_D (AN a) (cN a cI cS σ)) {σ : St} {x1 : Int32} {r : Int32 × St} (h : f_X10_at__17 σ x1 = some r) : Kc (SN l D a cI cS) yX10_at cX10_at 2 (some .int) 0 [Value.ref (a 17), Value.int x1] σ r := by
  refine enter (own := RX10) (o := f_X10_at__17 σ x1) (plainFor_of_name (by decide +kernel)) rfl (Nat.le_of_ble_eq_true rfl) hI wk_X10_at.1 h (fun Γ hRT => ?_)
  show G _ Γ _ _ _ _ _ _ σ [((0 : Nat), Value.ref (a 17)), ((1 : Nat), Value.int x1)] 0 []
  unfold f_X10_at__17
  refine g_aload_n (pc := 0) 0 dX10_at_0 rfl rfl ?_
  refine g_ifnull (pc := 1) dX10_at_1 ?_
  refine g_jq0 (pc2 := 20) (lf := ([] : List (Nat × Value))) (sf := ([] : List Value)) (fun s3 => ?_) (fun k2 hk2 => ?_)
  · show G _ Γ _ _ _ _ _ _ s3 ([] : List (Nat × Value)) 20 ([] : List Value)
    refine g_iconst (pc := 20) (v := 0) dX10_at_20 (by decide) ?_
    exact g_iret (pc := 21) hRT dX10_at_21
  · refine g_iload_n (pc := 4) 1 dX10_at_4 rfl rfl ?_
    refine g_if_lt (pc := 5) (tgt := 20) dX10_at_5 (by decide) ?_ ?_
    · exact g_lv [] rfl (hk2 σ)
    · refine g_iload_n (pc := 8) 1 dX10_at_8 rfl rfl ?_
      refine g_aload_n (pc := 9) 0 dX10_at_9 rfl rfl ?_
      refine g_alen (pc := 10) 17 0 (v := 5) cN_17 rfl (show Int32.ofNat 5 = 5 by decide) dX10_at_10 ?_
      refine g_icmp_ge (pc := 11) (tgt := 20) dX10_at_11 (by decide) ?_ ?_
      · exact g_lv [] rfl (hk2 σ)
      · refine g_aload_n (pc := 14) 0 dX10_at_14 rfl rfl ?_
        refine g_iload_n (pc := 15) 1 dX10_at_15 rfl rfl ?_
        refine g_iald (pc := 16) 17 cN_17 rfl dX10_at_16 ?_
        refine g_goto (pc := 17) (tgt := 21) dX10_at_17 (by decide) ?_
        exact g_iret (pc := 21) hRT dX10_at_21
set_option maxRecDepth 100000 in
set_option maxHeartbeats 4000000 in
theorem k_X4_beginningOf__12 {l : Launch} {D : va_G} {a : Nat → Nat} {cI cS : ClassId} (hI : ∀ σ : St, va_D (AN a) (cN a cI cS σ)) {σ : St} {x1 : Int32} {r : Int32 × St} (h : f_X4_beginningOf__12 σ x1 = some r) : Kc (SN l D a cI cS) yX4_beginningOf cX4_beginningOf 2 (some .int) 1 [Value.ref (a 12), Value.int x1] σ r := by
  refine enter (own := RX4) (o := f_X4_beginningOf__12 σ x1) (plainFor_of_name (by decide +kernel)) rfl (Nat.le_of_ble_eq_true rfl) hI wk_X4_beginningOf.1 h (fun Γ hRT => ?_)
  show G _ Γ _ _ _ _ _ _ σ [((0 : Nat), Value.ref (a 12)), ((1 : Nat), Value.int x1)] 0 []
  unfold f_X4_beginningOf__12
  refine g_aload_n (pc := 0) 0 dX4_beginningOf_0 rfl rfl ?_
  refine g_get (pc := 1) 12 cN_12 rfl inlX4 4 (by decide) bw_4_2 rfl dX4_beginningOf_1 ?_
  refine g_iload_n (pc := 4) 1 dX4_beginningOf_4 rfl rfl ?_
  refine g_cNi (pc := 5) (As := [Value.ref (a 17), Value.int x1]) (fun r2 h2 => k_X10_at__17 hI h2) wk_X10_at ws_X10_at nst_RX4_61 (by decide) (by decide) rfl rfl (Nat.le_of_ble_eq_true rfl) dX4_beginningOf_5 (fun r2 s3 => ?_)
  exact g_iret (pc := 8) hRT dX4_beginningOf_8
set_option maxRecDepth 100000 in
set_option maxHeartbeats 4000000 in
theorem k_X10_at__14 {l : Launch} {D : va_G} {a : Nat → Nat} {cI cS : ClassId} (hI : ∀ σ : St, va_D (AN a) (cN a cI cS σ)) {σ : St} {x1 : Int32} {r : Int32 × St} (h : f_X10_at__14 σ x1 = some r) : Kc (SN l D a cI cS) yX10_at cX10_at 2 (some .int) 0 [Value.ref (a 14), Value.int x1] σ r := by
  refine enter (own := RX10) (o := f_X10_at__14 σ x1) (plainFor_of_name (by decide +kernel)) rfl (Nat.le_of_ble_eq_true rfl) hI wk_X10_at.1 h (fun Γ hRT => ?_)
  show G _ Γ _ _ _ _ _ _ σ [((0 : Nat), Value.ref (a 14)), ((1 : Nat), Value.int x1)] 0 []
  unfold f_X10_at__14
  refine g_aload_n (pc := 0) 0 dX10_at_0 rfl rfl ?_
  refine g_ifnull (pc := 1) dX10_at_1 ?_
  refine g_jq0 (pc2 := 20) (lf := ([] : List (Nat × Value))) (sf := ([] : List Value)) (fun s3 => ?_) (fun k2 hk2 => ?_)
  · show G _ Γ _ _ _ _ _ _ s3 ([] : List (Nat × Value)) 20 ([] : List Value)
    refine g_iconst (pc := 20) (v := 0) dX10_at_20 (by decide) ?_
    exact g_iret (pc := 21) hRT dX10_at_21
  · refine g_iload_n (pc := 4) 1 dX10_at_4 rfl rfl ?_
    refine g_if_lt (pc := 5) (tgt := 20) dX10_at_5 (by decide) ?_ ?_
    · exact g_lv [] rfl (hk2 σ)
    · refine g_iload_n (pc := 8) 1 dX10_at_8 rfl rfl ?_
      refine g_aload_n (pc := 9) 0 dX10_at_9 rfl rfl ?_
      refine g_alen (pc := 10) 14 0 (v := 16) cN_14 rfl (show Int32.ofNat 16 = 16 by decide) dX10_at_10 ?_
      refine g_icmp_ge (pc := 11) (tgt := 20) dX10_at_11 (by decide) ?_ ?_
      · exact g_lv [] rfl (hk2 σ)
      · refine g_aload_n (pc := 14) 0 dX10_at_14 rfl rfl ?_
        refine g_iload_n (pc := 15) 1 dX10_at_15 rfl rfl ?_
        refine g_iald (pc := 16) 14 cN_14 rfl dX10_at_16 ?_
        refine g_goto (pc := 17) (tgt := 21) dX10_at_17 (by decide) ?_
        exact g_iret (pc := 21) hRT dX10_at_21
set_option maxRecDepth 100000 in
set_option maxHeartbeats 4000000 in
theorem k_X4_sashOf__12 {l : Launch} {D : va_G} {a : Nat → Nat} {cI cS : ClassId} (hI : ∀ σ : St, va_D (AN a) (cN a cI cS σ)) {σ : St} {x1 : Int32} {r : Int32 × St} (h : f_X4_sashOf__12 σ x1 = some r) : Kc (SN l D a cI cS) yX4_sashOf cX4_sashOf 2 (some .int) 1 [Value.ref (a 12), Value.int x1] σ r := by
  refine enter (own := RX4) (o := f_X4_sashOf__12 σ x1) (plainFor_of_name (by decide +kernel)) rfl (Nat.le_of_ble_eq_true rfl) hI wk_X4_sashOf.1 h (fun Γ hRT => ?_)
  show G _ Γ _ _ _ _ _ _ σ [((0 : Nat), Value.ref (a 12)), ((1 : Nat), Value.int x1)] 0 []
  unfold f_X4_sashOf__12
  refine g_aload_n (pc := 0) 0 dX4_sashOf_0 rfl rfl ?_
  refine g_get (pc := 1) 12 cN_12 rfl inlX4 1 (by decide) bw_3_23 rfl dX4_sashOf_1 ?_
  refine g_iload_n (pc := 4) 1 dX4_sashOf_4 rfl rfl ?_
  refine g_cNi (pc := 5) (As := [Value.ref (a 14), Value.int x1]) (fun r2 h2 => k_X10_at__14 hI h2) wk_X10_at ws_X10_at nst_RX4_61 (by decide) (by decide) rfl rfl (Nat.le_of_ble_eq_true rfl) dX4_sashOf_5 (fun r2 s3 => ?_)
  exact g_iret (pc := 8) hRT dX4_sashOf_8
set_option maxRecDepth 100000 in
set_option maxHeartbeats 4000000 in
theorem k_X10_put__20 {l : Launch} {D : va_G} {a : Nat → Nat} {cI cS : ClassId} (hI : ∀ σ : St, va_D (AN a) (cN a cI cS σ)) {σ : St} {x1 x2 : Int32} {r : Int32 × St} (h : f_X10_put__20 σ x1 x2 = some r) : Kc (SN l D a cI cS) yX10_put cX10_put 3 none 0 [Value.ref (a 20), Value.int x1, Value.int x2] σ r := by
  refine enter (own := RX10) (o := f_X10_put__20 σ x1 x2) (plainFor_of_name (by decide +kernel)) rfl (Nat.le_of_ble_eq_true rfl) hI wk_X10_put.1 h (fun Γ hRT => ?_)
  show G _ Γ _ _ _ _ _ _ σ [((0 : Nat), Value.ref (a 20)), ((1 : Nat), Value.int x1), ((2 : Nat), Value.int x2)] 0 []
  unfold f_X10_put__20
  refine g_aload_n (pc := 0) 0 dX10_put_0 rfl rfl ?_
  refine g_ifnull (pc := 1) dX10_put_1 ?_
  refine g_iload_n (pc := 4) 1 dX10_put_4 rfl rfl ?_
  refine g_if_lt (pc := 5) (tgt := 18) dX10_put_5 (by decide) ?_ ?_
  · exact g_vret (pc := 18) hRT dX10_put_18
  · refine g_iload_n (pc := 8) 1 dX10_put_8 rfl rfl ?_
    refine g_aload_n (pc := 9) 0 dX10_put_9 rfl rfl ?_
    refine g_alen (pc := 10) 20 0 (v := 16) cN_20 rfl (show Int32.ofNat 16 = 16 by decide) dX10_put_10 ?_
    refine g_icmp_ge (pc := 11) (tgt := 18) dX10_put_11 (by decide) ?_ ?_
    · exact g_vret (pc := 18) hRT dX10_put_18
    · refine g_aload_n (pc := 14) 0 dX10_put_14 rfl rfl ?_
      refine g_iload_n (pc := 15) 1 dX10_put_15 rfl rfl ?_
      refine g_iload_n (pc := 16) 2 dX10_put_16 rfl rfl ?_
      refine g_iast (pc := 17) 20 cN_20 rfl cN_s20 dX10_put_17 (fun s3 => ?_)
      exact g_vret (pc := 18) hRT dX10_put_18
set_option maxRecDepth 100000 in
set_option maxHeartbeats 4000000 in
theorem k_X9_begin__19_12 {l : Launch} {D : va_G} {a : Nat → Nat} {cI cS : ClassId} (hI : ∀ σ : St, va_D (AN a) (cN a cI cS σ)) {σ : St} {r : Int32 × St} (h : f_X9_begin__19_12 σ = some r) : Kc (SN l D a cI cS) yX9_begin cX9_begin 3 none 2 [Value.ref (a 19), Value.ref (a 12)] σ r := by
  refine enter (own := RX9) (o := f_X9_begin__19_12 σ) (plainFor_of_name (by decide +kernel)) rfl (Nat.le_of_ble_eq_true rfl) hI wk_X9_begin.1 h (fun Γ hRT => ?_)
  show G _ Γ _ _ _ _ _ _ σ [((0 : Nat), Value.ref (a 19)), ((1 : Nat), Value.ref (a 12))] 0 []
  unfold f_X9_begin__19_12
  refine g_iconst (pc := 0) (v := 0) dX9_begin_0 (by decide) ?_
  refine g_istore_n (pc := 1) [1, 2, 0] (lv1 := [(0, Value.ref (a 19)), (1, Value.ref (a 12)), (2, Value.int (0 : Int32))]) dX9_begin_1 rfl (by decide) rfl ?_
  refine g_lq1 (pc := 2) (lf := fun x2 => [((0 : Nat), Value.ref (a 19)), ((1 : Nat), Value.ref (a 12)), ((2 : Nat), Value.int x2)]) (sf := fun x2 => ([] : List Value)) (fun k1 hk1 s3 x2 => ?_) 100000 σ _
  show G _ Γ _ _ _ _ _ _ s3 [((0 : Nat), Value.ref (a 19)), ((1 : Nat), Value.ref (a 12)), ((2 : Nat), Value.int x2)] 2 ([] : List Value)
  refine g_iload_n (pc := 2) 2 dX9_begin_2 rfl rfl ?_
  refine g_bipush (pc := 3) (v := 16) dX9_begin_3 (by decide) ?_
  refine g_icmp_ge (pc := 5) (tgt := 27) dX9_begin_5 (by decide) ?_ ?_
  · refine g_iconst (pc := 27) (v := 0) dX9_begin_27 (by decide) ?_
    refine g_istore_n (pc := 28) [1, 2, 0] (lv1 := [(0, Value.ref (a 19)), (1, Value.ref (a 12)), (2, Value.int (0 : Int32))]) dX9_begin_28 rfl (by decide) rfl ?_
    refine g_lq1 (pc := 29) (lf := fun x5 => [((0 : Nat), Value.ref (a 19)), ((1 : Nat), Value.ref (a 12)), ((2 : Nat), Value.int x5)]) (sf := fun x5 => ([] : List Value)) (fun k4 hk4 s6 x5 => ?_) 100000 s3 _
    show G _ Γ _ _ _ _ _ _ s6 [((0 : Nat), Value.ref (a 19)), ((1 : Nat), Value.ref (a 12)), ((2 : Nat), Value.int x5)] 29 ([] : List Value)
    refine g_iload_n (pc := 29) 2 dX9_begin_29 rfl rfl ?_
    refine g_iconst (pc := 30) (v := 5) dX9_begin_30 (by decide) ?_
    refine g_icmp_ge (pc := 31) (tgt := 68) dX9_begin_31 (by decide) ?_ ?_
    · refine g_aload_n (pc := 68) 0 dX9_begin_68 rfl rfl ?_
      refine g_iconst (pc := 69) (v := 0) dX9_begin_69 (by decide) ?_
      refine g_put (pc := 70) 19 (ty := .int) cN_19 rfl inlX9 tyX9_ok nmX9 2 (by decide) bw_4_16 rfl (by decide +kernel) rfl rfl (Nat.le_of_ble_eq_true rfl) cN_f19_2 dX9_begin_70 (fun s7 => ?_)
      exact g_vret (pc := 73) hRT dX9_begin_73
    · refine g_jq2 (pc2 := 59) (lf := fun x9 x10 => [((0 : Nat), Value.ref (a 19)), ((1 : Nat), Value.ref (a 12)), ((2 : Nat), Value.int x5)]) (sf := fun x9 x10 => [Value.int x9, Value.int x10, Value.ref (a 21)]) (fun s11 x9 x10 => ?_) (fun k8 hk8 => ?_)
      · show G _ Γ _ _ _ _ _ _ s11 [((0 : Nat), Value.ref (a 19)), ((1 : Nat), Value.ref (a 12)), ((2 : Nat), Value.int x5)] 59 [Value.int x9, Value.int x10, Value.ref (a 21)]
        refine g_cNv (pc := 59) (As := [Value.ref (a 21), Value.int x10, Value.int x9]) (fun r2 h2 => k_X10_put__21 hI h2) wk_X10_put ws_X10_put nst_RX9_28 (by decide) (by decide) rfl rfl (Nat.le_of_ble_eq_true rfl) dX9_begin_59 (fun r12 s13 => ?_)
        refine g_iinc (pc := 62) [1, 2, 0] 2 (n1 := 1) (lv1 := fun x14 => [(0, Value.ref (a 19)), (1, Value.ref (a 12)), (2, Value.int x14)]) dX9_begin_62 rfl (by decide) (by decide) (fun _ => rfl) (fun x14 => ?_)
        show G _ Γ _ _ _ _ _ _ _ [(0, Value.ref (a 19)), (1, Value.ref (a 12)), (2, Value.int x14)] (62 + 3) _
        refine g_goto (pc := 65) (tgt := 29) dX9_begin_65 (by decide) ?_
        exact hk4 s13 _
      · refine g_aload_n (pc := 34) 0 dX9_begin_34 rfl rfl ?_
        refine g_get (pc := 35) 19 cN_19 rfl inlX9 1 (by decide) bw_4_15 rfl dX9_begin_35 ?_
        refine g_iload_n (pc := 38) 2 dX9_begin_38 rfl rfl ?_
        refine g_aload_n (pc := 39) 1 dX9_begin_39 rfl rfl ?_
        refine g_iload_n (pc := 40) 2 dX9_begin_40 rfl rfl ?_
        refine g_cVz (pc := 41) 12 (As := [Value.int x5]) (fun r2 h2 => k_X4_hasNews__12 hI h2) wk_X4_hasNews wv_X4_hasNews bw_13_1 cN_12 rfl (by decide) (by decide) rfl rfl (Nat.le_of_ble_eq_true rfl) dX9_begin_41 (fun r15 s16 => ?_)
        refine g_if_eq (pc := 44) (tgt := 58) dX9_begin_44 (by decide) ?_ ?_
        · refine g_iconst (pc := 58) (v := 0) dX9_begin_58 (by decide) ?_
          exact hk8 s16 _ _
        · refine g_aload_n (pc := 47) 1 dX9_begin_47 rfl rfl ?_
          refine g_iload_n (pc := 48) 2 dX9_begin_48 rfl rfl ?_
          refine g_cVi (pc := 49) 12 (As := [Value.int x5]) (fun r2 h2 => k_X4_beginningOf__12 hI h2) wk_X4_beginningOf wv_X4_beginningOf bw_13_5 cN_12 rfl (by decide) (by decide) rfl rfl (Nat.le_of_ble_eq_true rfl) dX9_begin_49 (fun r17 s18 => ?_)
          refine g_cNi (pc := 52) (As := [Value.int r17]) (fun r2 h2 => k_X10_bit hI h2) wk_X10_bit ws_X10_bit nst_RX9_39 (by decide) (by decide) rfl rfl (Nat.le_of_ble_eq_true rfl) dX9_begin_52 (fun r19 s20 => ?_)
          refine g_goto (pc := 55) (tgt := 59) dX9_begin_55 (by decide) ?_
          exact hk8 s20 _ _
  · refine g_aload_n (pc := 8) 0 dX9_begin_8 rfl rfl ?_
    refine g_get (pc := 9) 19 cN_19 rfl inlX9 0 (by decide) bw_4_14 rfl dX9_begin_9 ?_
    refine g_iload_n (pc := 12) 2 dX9_begin_12 rfl rfl ?_
    refine g_aload_n (pc := 13) 1 dX9_begin_13 rfl rfl ?_
    refine g_iload_n (pc := 14) 2 dX9_begin_14 rfl rfl ?_
    refine g_cVi (pc := 15) 12 (As := [Value.int x2]) (fun r2 h2 => k_X4_sashOf__12 hI h2) wk_X4_sashOf wv_X4_sashOf bw_12_21 cN_12 rfl (by decide) (by decide) rfl rfl (Nat.le_of_ble_eq_true rfl) dX9_begin_15 (fun r21 s22 => ?_)
    refine g_cNv (pc := 18) (As := [Value.ref (a 20), Value.int x2, Value.int r21]) (fun r2 h2 => k_X10_put__20 hI h2) wk_X10_put ws_X10_put nst_RX9_28 (by decide) (by decide) rfl rfl (Nat.le_of_ble_eq_true rfl) dX9_begin_18 (fun r23 s24 => ?_)
    refine g_iinc (pc := 21) [1, 2, 0] 2 (n1 := 1) (lv1 := fun x25 => [(0, Value.ref (a 19)), (1, Value.ref (a 12)), (2, Value.int x25)]) dX9_begin_21 rfl (by decide) (by decide) (fun _ => rfl) (fun x25 => ?_)
    show G _ Γ _ _ _ _ _ _ _ [(0, Value.ref (a 19)), (1, Value.ref (a 12)), (2, Value.int x25)] (21 + 3) _
    refine g_goto (pc := 24) (tgt := 2) dX9_begin_24 (by decide) ?_
    exact hk1 s24 _
set_option maxRecDepth 100000 in
set_option maxHeartbeats 4000000 in
theorem k_X5_clear__22 {l : Launch} {D : va_G} {a : Nat → Nat} {cI cS : ClassId} (hI : ∀ σ : St, va_D (AN a) (cN a cI cS σ)) {σ : St} {r : Int32 × St} (h : f_X5_clear__22 σ = some r) : Kc (SN l D a cI cS) yX5_clear cX5_clear 1 none 0 [Value.ref (a 22)] σ r := by
  refine enter (own := RX5) (o := f_X5_clear__22 σ) (plainFor_of_name (by decide +kernel)) rfl (Nat.le_of_ble_eq_true rfl) hI wk_X5_clear.1 h (fun Γ hRT => ?_)
  show G _ Γ _ _ _ _ _ _ σ [((0 : Nat), Value.ref (a 22))] 0 []
  unfold f_X5_clear__22
  refine g_aload_n (pc := 0) 0 dX5_clear_0 rfl rfl ?_
  refine g_iconst (pc := 1) (v := 0) dX5_clear_1 (by decide) ?_
  refine g_put (pc := 2) 22 (ty := .int) cN_22 rfl inlX5 tyX5_ok nmX5 2 (by decide) bw_4_22 rfl (by decide +kernel) rfl rfl (Nat.le_of_ble_eq_true rfl) cN_f22_2 dX5_clear_2 (fun s1 => ?_)
  exact g_vret (pc := 5) hRT dX5_clear_5
set_option maxRecDepth 100000 in
set_option maxHeartbeats 4000000 in
theorem k_X5_clear__48 {l : Launch} {D : va_G} {a : Nat → Nat} {cI cS : ClassId} (hI : ∀ σ : St, va_D (AN a) (cN a cI cS σ)) {σ : St} {r : Int32 × St} (h : f_X5_clear__48 σ = some r) : Kc (SN l D a cI cS) yX5_clear cX5_clear 1 none 0 [Value.ref (a 48)] σ r := by
  refine enter (own := RX5) (o := f_X5_clear__48 σ) (plainFor_of_name (by decide +kernel)) rfl (Nat.le_of_ble_eq_true rfl) hI wk_X5_clear.1 h (fun Γ hRT => ?_)
  show G _ Γ _ _ _ _ _ _ σ [((0 : Nat), Value.ref (a 48))] 0 []
  unfold f_X5_clear__48
  refine g_aload_n (pc := 0) 0 dX5_clear_0 rfl rfl ?_
  refine g_iconst (pc := 1) (v := 0) dX5_clear_1 (by decide) ?_
  refine g_put (pc := 2) 48 (ty := .int) cN_48 rfl inlX5 tyX5_ok nmX5 2 (by decide) bw_4_22 rfl (by decide +kernel) rfl rfl (Nat.le_of_ble_eq_true rfl) cN_f48_2 dX5_clear_2 (fun s1 => ?_)
  exact g_vret (pc := 5) hRT dX5_clear_5
set_option maxRecDepth 100000 in
set_option maxHeartbeats 4000000 in
theorem k_X8_clear__62 {l : Launch} {D : va_G} {a : Nat → Nat} {cI cS : ClassId} (hI : ∀ σ : St, va_D (AN a) (cN a cI cS σ)) {σ : St} {r : Int32 × St} (h : f_X8_clear__62 σ = some r) : Kc (SN l D a cI cS) yX8_clear cX8_clear 1 none 0 [Value.ref (a 62)] σ r := by
  refine enter (own := RX8) (o := f_X8_clear__62 σ) (plainFor_of_name (by decide +kernel)) rfl (Nat.le_of_ble_eq_true rfl) hI wk_X8_clear.1 h (fun Γ hRT => ?_)
  show G _ Γ _ _ _ _ _ _ σ [((0 : Nat), Value.ref (a 62))] 0 []
  unfold f_X8_clear__62
  refine g_aload_n (pc := 0) 0 dX8_clear_0 rfl rfl ?_
  refine g_iconst (pc := 1) (v := 0) dX8_clear_1 (by decide) ?_
  refine g_put (pc := 2) 62 (ty := .int) cN_62 rfl inlX8 tyX8_ok nmX8 6 (by decide) bw_7_5 rfl (by decide +kernel) rfl rfl (Nat.le_of_ble_eq_true rfl) cN_f62_6 dX8_clear_2 (fun s1 => ?_)
  exact g_vret (pc := 5) hRT dX8_clear_5
set_option maxRecDepth 100000 in
set_option maxHeartbeats 4000000 in
theorem k_X10_layText__0 {l : Launch} {D : va_G} {a : Nat → Nat} {cI cS : ClassId} (hI : ∀ σ : St, va_D (AN a) (cN a cI cS σ)) {σ : St} {r : Int32 × St} (h : f_X10_layText__0 σ = some r) : Kc (SN l D a cI cS) yX10_layText cX10_layText 1 (some .boolean) 5 [Value.ref (a 0)] σ r := by
  refine enter (own := RX10) (o := f_X10_layText__0 σ) (plainFor_of_name (by decide +kernel)) rfl (Nat.le_of_ble_eq_true rfl) hI wk_X10_layText.1 h (fun Γ hRT => ?_)
  show G _ Γ _ _ _ _ _ _ σ [((0 : Nat), Value.ref (a 0))] 0 []
  unfold f_X10_layText__0
  refine g_aload_n (pc := 0) 0 dX10_layText_0 rfl rfl ?_
  refine g_get (pc := 1) 0 cN_0 rfl inlX10 1 (by decide) bw_1_19 rfl dX10_layText_1 ?_
  refine g_aload_n (pc := 4) 0 dX10_layText_4 rfl rfl ?_
  refine g_get (pc := 5) 0 cN_0 rfl inlX10 2 (by decide) bw_1_23 rfl dX10_layText_5 ?_
  refine g_cVi (pc := 8) 3 (As := [Value.ref (a 5)]) (fun r2 h2 => k_X6_readInto__3_5 hI h2) wk_X6_readInto wv_X6_readInto bw_9_19 cN_3 rfl (by decide) (by decide) rfl rfl (Nat.le_of_ble_eq_true rfl) dX10_layText_8 (fun r1 s2 => ?_)
  refine g_bipush (pc := 11) (v := -4) dX10_layText_11 (by decide) ?_
  refine g_icmp_ne (pc := 13) (tgt := 26) dX10_layText_13 (by decide) ?_ ?_
  · refine g_iconst (pc := 26) (v := 0) dX10_layText_26 (by decide) ?_
    exact g_zret1 (pc := 27) hRT (by decide) dX10_layText_27
  · refine g_aload_n (pc := 16) 0 dX10_layText_16 rfl rfl ?_
    refine g_get (pc := 17) 0 cN_0 rfl inlX10 2 (by decide) bw_1_23 rfl dX10_layText_17 ?_
    refine g_cVi (pc := 20) 5 (As := []) (fun r2 h2 => k_X4_newsTold__5 hI h2) wk_X4_newsTold wv_X4_newsTold bw_12_13 cN_5 rfl (by decide) (by decide) rfl rfl (Nat.le_of_ble_eq_true rfl) dX10_layText_20 (fun r3 s4 => ?_)
    refine g_if_ne (pc := 23) (tgt := 28) dX10_layText_23 (by decide) ?_ ?_
    · refine g_aload_n (pc := 28) 0 dX10_layText_28 rfl rfl ?_
      refine g_get (pc := 29) 0 cN_0 rfl inlX10 1 (by decide) bw_1_19 rfl dX10_layText_29 ?_
      refine g_aload_n (pc := 32) 0 dX10_layText_32 rfl rfl ?_
      refine g_get (pc := 33) 0 cN_0 rfl inlX10 3 (by decide) bw_2_0 rfl dX10_layText_33 ?_
      refine g_cVi (pc := 36) 3 (As := [Value.ref (a 12)]) (fun r2 h2 => k_X6_readInto__3_12 hI h2) wk_X6_readInto wv_X6_readInto bw_9_19 cN_3 rfl (by decide) (by decide) rfl rfl (Nat.le_of_ble_eq_true rfl) dX10_layText_36 (fun r5 s6 => ?_)
      refine g_pop (pc := 39) dX10_layText_39 rfl ?_
      refine g_aload_n (pc := 40) 0 dX10_layText_40 rfl rfl ?_
      refine g_get (pc := 41) 0 cN_0 rfl inlX10 4 (by decide) bw_2_4 rfl dX10_layText_41 ?_
      refine g_aload_n (pc := 44) 0 dX10_layText_44 rfl rfl ?_
      refine g_get (pc := 45) 0 cN_0 rfl inlX10 3 (by decide) bw_2_0 rfl dX10_layText_45 ?_
      refine g_cVv (pc := 48) 19 (As := [Value.ref (a 12)]) (fun r2 h2 => k_X9_begin__19_12 hI h2) wk_X9_begin wv_X9_begin bw_12_17 cN_19 rfl (by decide) (by decide) rfl rfl (Nat.le_of_ble_eq_true rfl) dX10_layText_48 (fun r7 s8 => ?_)
      refine g_aload_n (pc := 51) 0 dX10_layText_51 rfl rfl ?_
      refine g_get (pc := 52) 0 cN_0 rfl inlX10 5 (by decide) bw_2_8 rfl dX10_layText_52 ?_
      refine g_cVv (pc := 55) 22 (As := []) (fun r2 h2 => k_X5_clear__22 hI h2) wk_X5_clear wv_X5_clear bw_13_9 cN_22 rfl (by decide) (by decide) rfl rfl (Nat.le_of_ble_eq_true rfl) dX10_layText_55 (fun r9 s10 => ?_)
      refine g_aload_n (pc := 58) 0 dX10_layText_58 rfl rfl ?_
      refine g_get (pc := 59) 0 cN_0 rfl inlX10 6 (by decide) bw_2_9 rfl dX10_layText_59 ?_
      refine g_cVv (pc := 62) 48 (As := []) (fun r2 h2 => k_X5_clear__48 hI h2) wk_X5_clear wv_X5_clear bw_13_9 cN_48 rfl (by decide) (by decide) rfl rfl (Nat.le_of_ble_eq_true rfl) dX10_layText_62 (fun r11 s12 => ?_)
      refine g_aload_n (pc := 65) 0 dX10_layText_65 rfl rfl ?_
      refine g_get (pc := 66) 0 cN_0 rfl inlX10 11 (by decide) bw_3_5 rfl dX10_layText_66 ?_
      refine g_cVv (pc := 69) 62 (As := []) (fun r2 h2 => k_X8_clear__62 hI h2) wk_X8_clear wv_X8_clear bw_13_13 cN_62 rfl (by decide) (by decide) rfl rfl (Nat.le_of_ble_eq_true rfl) dX10_layText_69 (fun r13 s14 => ?_)
      refine g_iconst (pc := 72) (v := 1) dX10_layText_72 (by decide) ?_
      exact g_zret1 (pc := 73) hRT (by decide) dX10_layText_73
    · refine g_iconst (pc := 26) (v := 0) dX10_layText_26 (by decide) ?_
      exact g_zret1 (pc := 27) hRT (by decide) dX10_layText_27
set_option maxRecDepth 100000 in
set_option maxHeartbeats 4000000 in
theorem k_X10_lay__0 {l : Launch} {D : va_G} {a : Nat → Nat} {cI cS : ClassId} (hI : ∀ σ : St, va_D (AN a) (cN a cI cS σ)) {σ : St} {r : Int32 × St} (h : f_X10_lay__0 σ = some r) : Kc (SN l D a cI cS) yX10_lay cX10_lay 1 (some .int) 6 [Value.ref (a 0)] σ r := by
  refine enter (own := RX10) (o := f_X10_lay__0 σ) (plainFor_of_name (by decide +kernel)) rfl (Nat.le_of_ble_eq_true rfl) hI wk_X10_lay.1 h (fun Γ hRT => ?_)
  show G _ Γ _ _ _ _ _ _ σ [((0 : Nat), Value.ref (a 0))] 0 []
  unfold f_X10_lay__0
  refine g_aload_n (pc := 0) 0 dX10_lay_0 rfl rfl ?_
  refine g_cVz (pc := 1) 0 (As := []) (fun r2 h2 => k_X10_layText__0 hI h2) wk_X10_layText wv_X10_layText bw_9_15 cN_0 rfl (by decide) (by decide) rfl rfl (Nat.le_of_ble_eq_true rfl) dX10_lay_1 (fun r1 s2 => ?_)
  refine g_if_eq (pc := 4) (tgt := 17) dX10_lay_4 (by decide) ?_ ?_
  · refine g_bipush (pc := 17) (v := -2) dX10_lay_17 (by decide) ?_
    exact g_iret (pc := 19) hRT dX10_lay_19
  · refine g_aload_n (pc := 7) 0 dX10_lay_7 rfl rfl ?_
    refine g_get (pc := 8) 0 cN_0 rfl inlX10 3 (by decide) bw_2_0 rfl dX10_lay_8 ?_
    refine g_cVi (pc := 11) 12 (As := []) (fun r2 h2 => k_X4_houses__12 hI h2) wk_X4_houses wv_X4_houses bw_19_0 cN_12 rfl (by decide) (by decide) rfl rfl (Nat.le_of_ble_eq_true rfl) dX10_lay_11 (fun r3 s4 => ?_)
    refine g_goto (pc := 14) (tgt := 19) dX10_lay_14 (by decide) ?_
    exact g_iret (pc := 19) hRT dX10_lay_19
set_option maxRecDepth 100000 in
set_option maxHeartbeats 4000000 in
theorem k_X10_at__13 {l : Launch} {D : va_G} {a : Nat → Nat} {cI cS : ClassId} (hI : ∀ σ : St, va_D (AN a) (cN a cI cS σ)) {σ : St} {x1 : Int32} {r : Int32 × St} (h : f_X10_at__13 σ x1 = some r) : Kc (SN l D a cI cS) yX10_at cX10_at 2 (some .int) 0 [Value.ref (a 13), Value.int x1] σ r := by
  refine enter (own := RX10) (o := f_X10_at__13 σ x1) (plainFor_of_name (by decide +kernel)) rfl (Nat.le_of_ble_eq_true rfl) hI wk_X10_at.1 h (fun Γ hRT => ?_)
  show G _ Γ _ _ _ _ _ _ σ [((0 : Nat), Value.ref (a 13)), ((1 : Nat), Value.int x1)] 0 []
  unfold f_X10_at__13
  refine g_aload_n (pc := 0) 0 dX10_at_0 rfl rfl ?_
  refine g_ifnull (pc := 1) dX10_at_1 ?_
  refine g_jq0 (pc2 := 20) (lf := ([] : List (Nat × Value))) (sf := ([] : List Value)) (fun s3 => ?_) (fun k2 hk2 => ?_)
  · show G _ Γ _ _ _ _ _ _ s3 ([] : List (Nat × Value)) 20 ([] : List Value)
    refine g_iconst (pc := 20) (v := 0) dX10_at_20 (by decide) ?_
    exact g_iret (pc := 21) hRT dX10_at_21
  · refine g_iload_n (pc := 4) 1 dX10_at_4 rfl rfl ?_
    refine g_if_lt (pc := 5) (tgt := 20) dX10_at_5 (by decide) ?_ ?_
    · exact g_lv [] rfl (hk2 σ)
    · refine g_iload_n (pc := 8) 1 dX10_at_8 rfl rfl ?_
      refine g_aload_n (pc := 9) 0 dX10_at_9 rfl rfl ?_
      refine g_alen (pc := 10) 13 0 (v := 16) cN_13 rfl (show Int32.ofNat 16 = 16 by decide) dX10_at_10 ?_
      refine g_icmp_ge (pc := 11) (tgt := 20) dX10_at_11 (by decide) ?_ ?_
      · exact g_lv [] rfl (hk2 σ)
      · refine g_aload_n (pc := 14) 0 dX10_at_14 rfl rfl ?_
        refine g_iload_n (pc := 15) 1 dX10_at_15 rfl rfl ?_
        refine g_iald (pc := 16) 13 cN_13 rfl dX10_at_16 ?_
        refine g_goto (pc := 17) (tgt := 21) dX10_at_17 (by decide) ?_
        exact g_iret (pc := 21) hRT dX10_at_21
set_option maxRecDepth 100000 in
set_option maxHeartbeats 4000000 in
theorem k_X4_kindOf__12 {l : Launch} {D : va_G} {a : Nat → Nat} {cI cS : ClassId} (hI : ∀ σ : St, va_D (AN a) (cN a cI cS σ)) {σ : St} {x1 : Int32} {r : Int32 × St} (h : f_X4_kindOf__12 σ x1 = some r) : Kc (SN l D a cI cS) yX4_kindOf cX4_kindOf 2 (some .int) 1 [Value.ref (a 12), Value.int x1] σ r := by
  refine enter (own := RX4) (o := f_X4_kindOf__12 σ x1) (plainFor_of_name (by decide +kernel)) rfl (Nat.le_of_ble_eq_true rfl) hI wk_X4_kindOf.1 h (fun Γ hRT => ?_)
  show G _ Γ _ _ _ _ _ _ σ [((0 : Nat), Value.ref (a 12)), ((1 : Nat), Value.int x1)] 0 []
  unfold f_X4_kindOf__12
  refine g_aload_n (pc := 0) 0 dX4_kindOf_0 rfl rfl ?_
  refine g_get (pc := 1) 12 cN_12 rfl inlX4 0 (by decide) bw_3_22 rfl dX4_kindOf_1 ?_
  refine g_iload_n (pc := 4) 1 dX4_kindOf_4 rfl rfl ?_
  refine g_cNi (pc := 5) (As := [Value.ref (a 13), Value.int x1]) (fun r2 h2 => k_X10_at__13 hI h2) wk_X10_at ws_X10_at nst_RX4_61 (by decide) (by decide) rfl rfl (Nat.le_of_ble_eq_true rfl) dX4_kindOf_5 (fun r2 s3 => ?_)
  exact g_iret (pc := 8) hRT dX4_kindOf_8
set_option maxRecDepth 100000 in
set_option maxHeartbeats 4000000 in
theorem k_X10_at__20 {l : Launch} {D : va_G} {a : Nat → Nat} {cI cS : ClassId} (hI : ∀ σ : St, va_D (AN a) (cN a cI cS σ)) {σ : St} {x1 : Int32} {r : Int32 × St} (h : f_X10_at__20 σ x1 = some r) : Kc (SN l D a cI cS) yX10_at cX10_at 2 (some .int) 0 [Value.ref (a 20), Value.int x1] σ r := by
  refine enter (own := RX10) (o := f_X10_at__20 σ x1) (plainFor_of_name (by decide +kernel)) rfl (Nat.le_of_ble_eq_true rfl) hI wk_X10_at.1 h (fun Γ hRT => ?_)
  show G _ Γ _ _ _ _ _ _ σ [((0 : Nat), Value.ref (a 20)), ((1 : Nat), Value.int x1)] 0 []
  unfold f_X10_at__20
  refine g_aload_n (pc := 0) 0 dX10_at_0 rfl rfl ?_
  refine g_ifnull (pc := 1) dX10_at_1 ?_
  refine g_jq0 (pc2 := 20) (lf := ([] : List (Nat × Value))) (sf := ([] : List Value)) (fun s3 => ?_) (fun k2 hk2 => ?_)
  · show G _ Γ _ _ _ _ _ _ s3 ([] : List (Nat × Value)) 20 ([] : List Value)
    refine g_iconst (pc := 20) (v := 0) dX10_at_20 (by decide) ?_
    exact g_iret (pc := 21) hRT dX10_at_21
  · refine g_iload_n (pc := 4) 1 dX10_at_4 rfl rfl ?_
    refine g_if_lt (pc := 5) (tgt := 20) dX10_at_5 (by decide) ?_ ?_
    · exact g_lv [] rfl (hk2 σ)
    · refine g_iload_n (pc := 8) 1 dX10_at_8 rfl rfl ?_
      refine g_aload_n (pc := 9) 0 dX10_at_9 rfl rfl ?_
      refine g_alen (pc := 10) 20 0 (v := 16) cN_20 rfl (show Int32.ofNat 16 = 16 by decide) dX10_at_10 ?_
      refine g_icmp_ge (pc := 11) (tgt := 20) dX10_at_11 (by decide) ?_ ?_
      · exact g_lv [] rfl (hk2 σ)
      · refine g_aload_n (pc := 14) 0 dX10_at_14 rfl rfl ?_
        refine g_iload_n (pc := 15) 1 dX10_at_15 rfl rfl ?_
        refine g_iald (pc := 16) 20 cN_20 rfl dX10_at_16 ?_
        refine g_goto (pc := 17) (tgt := 21) dX10_at_17 (by decide) ?_
        exact g_iret (pc := 21) hRT dX10_at_21
set_option maxRecDepth 100000 in
set_option maxHeartbeats 4000000 in
theorem k_X9_sashOf__19 {l : Launch} {D : va_G} {a : Nat → Nat} {cI cS : ClassId} (hI : ∀ σ : St, va_D (AN a) (cN a cI cS σ)) {σ : St} {x1 : Int32} {r : Int32 × St} (h : f_X9_sashOf__19 σ x1 = some r) : Kc (SN l D a cI cS) yX9_sashOf cX9_sashOf 2 (some .int) 1 [Value.ref (a 19), Value.int x1] σ r := by
  refine enter (own := RX9) (o := f_X9_sashOf__19 σ x1) (plainFor_of_name (by decide +kernel)) rfl (Nat.le_of_ble_eq_true rfl) hI wk_X9_sashOf.1 h (fun Γ hRT => ?_)
  show G _ Γ _ _ _ _ _ _ σ [((0 : Nat), Value.ref (a 19)), ((1 : Nat), Value.int x1)] 0 []
  unfold f_X9_sashOf__19
  refine g_aload_n (pc := 0) 0 dX9_sashOf_0 rfl rfl ?_
  refine g_get (pc := 1) 19 cN_19 rfl inlX9 0 (by decide) bw_4_14 rfl dX9_sashOf_1 ?_
  refine g_iload_n (pc := 4) 1 dX9_sashOf_4 rfl rfl ?_
  refine g_cNi (pc := 5) (As := [Value.ref (a 20), Value.int x1]) (fun r2 h2 => k_X10_at__20 hI h2) wk_X10_at ws_X10_at nst_RX9_46 (by decide) (by decide) rfl rfl (Nat.le_of_ble_eq_true rfl) dX9_sashOf_5 (fun r2 s3 => ?_)
  exact g_iret (pc := 8) hRT dX9_sashOf_8
set_option maxRecDepth 100000 in
set_option maxHeartbeats 4000000 in
theorem k_X10_at__21 {l : Launch} {D : va_G} {a : Nat → Nat} {cI cS : ClassId} (hI : ∀ σ : St, va_D (AN a) (cN a cI cS σ)) {σ : St} {x1 : Int32} {r : Int32 × St} (h : f_X10_at__21 σ x1 = some r) : Kc (SN l D a cI cS) yX10_at cX10_at 2 (some .int) 0 [Value.ref (a 21), Value.int x1] σ r := by
  refine enter (own := RX10) (o := f_X10_at__21 σ x1) (plainFor_of_name (by decide +kernel)) rfl (Nat.le_of_ble_eq_true rfl) hI wk_X10_at.1 h (fun Γ hRT => ?_)
  show G _ Γ _ _ _ _ _ _ σ [((0 : Nat), Value.ref (a 21)), ((1 : Nat), Value.int x1)] 0 []
  unfold f_X10_at__21
  refine g_aload_n (pc := 0) 0 dX10_at_0 rfl rfl ?_
  refine g_ifnull (pc := 1) dX10_at_1 ?_
  refine g_jq0 (pc2 := 20) (lf := ([] : List (Nat × Value))) (sf := ([] : List Value)) (fun s3 => ?_) (fun k2 hk2 => ?_)
  · show G _ Γ _ _ _ _ _ _ s3 ([] : List (Nat × Value)) 20 ([] : List Value)
    refine g_iconst (pc := 20) (v := 0) dX10_at_20 (by decide) ?_
    exact g_iret (pc := 21) hRT dX10_at_21
  · refine g_iload_n (pc := 4) 1 dX10_at_4 rfl rfl ?_
    refine g_if_lt (pc := 5) (tgt := 20) dX10_at_5 (by decide) ?_ ?_
    · exact g_lv [] rfl (hk2 σ)
    · refine g_iload_n (pc := 8) 1 dX10_at_8 rfl rfl ?_
      refine g_aload_n (pc := 9) 0 dX10_at_9 rfl rfl ?_
      refine g_alen (pc := 10) 21 0 (v := 5) cN_21 rfl (show Int32.ofNat 5 = 5 by decide) dX10_at_10 ?_
      refine g_icmp_ge (pc := 11) (tgt := 20) dX10_at_11 (by decide) ?_ ?_
      · exact g_lv [] rfl (hk2 σ)
      · refine g_aload_n (pc := 14) 0 dX10_at_14 rfl rfl ?_
        refine g_iload_n (pc := 15) 1 dX10_at_15 rfl rfl ?_
        refine g_iald (pc := 16) 21 cN_21 rfl dX10_at_16 ?_
        refine g_goto (pc := 17) (tgt := 21) dX10_at_17 (by decide) ?_
        exact g_iret (pc := 21) hRT dX10_at_21
set_option maxRecDepth 100000 in
set_option maxHeartbeats 4000000 in
theorem k_X9_whoKnows__19 {l : Launch} {D : va_G} {a : Nat → Nat} {cI cS : ClassId} (hI : ∀ σ : St, va_D (AN a) (cN a cI cS σ)) {σ : St} {x1 : Int32} {r : Int32 × St} (h : f_X9_whoKnows__19 σ x1 = some r) : Kc (SN l D a cI cS) yX9_whoKnows cX9_whoKnows 2 (some .int) 1 [Value.ref (a 19), Value.int x1] σ r := by
  refine enter (own := RX9) (o := f_X9_whoKnows__19 σ x1) (plainFor_of_name (by decide +kernel)) rfl (Nat.le_of_ble_eq_true rfl) hI wk_X9_whoKnows.1 h (fun Γ hRT => ?_)
  show G _ Γ _ _ _ _ _ _ σ [((0 : Nat), Value.ref (a 19)), ((1 : Nat), Value.int x1)] 0 []
  unfold f_X9_whoKnows__19
  refine g_aload_n (pc := 0) 0 dX9_whoKnows_0 rfl rfl ?_
  refine g_get (pc := 1) 19 cN_19 rfl inlX9 1 (by decide) bw_4_15 rfl dX9_whoKnows_1 ?_
  refine g_iload_n (pc := 4) 1 dX9_whoKnows_4 rfl rfl ?_
  refine g_cNi (pc := 5) (As := [Value.ref (a 21), Value.int x1]) (fun r2 h2 => k_X10_at__21 hI h2) wk_X10_at ws_X10_at nst_RX9_46 (by decide) (by decide) rfl rfl (Nat.le_of_ble_eq_true rfl) dX9_whoKnows_5 (fun r2 s3 => ?_)
  exact g_iret (pc := 8) hRT dX9_whoKnows_8
set_option maxRecDepth 100000 in
set_option maxHeartbeats 4000000 in
theorem k_X10_holds {l : Launch} {D : va_G} {a : Nat → Nat} {cI cS : ClassId} (hI : ∀ σ : St, va_D (AN a) (cN a cI cS σ)) {σ : St} {x1 x2 : Int32} {r : Int32 × St} (h : f_X10_holds σ x1 x2 = some r) : Kc (SN l D a cI cS) yX10_holds cX10_holds 2 (some .boolean) 1 [Value.int x1, Value.int x2] σ r := by
  refine enter (own := RX10) (o := f_X10_holds σ x1 x2) (plainFor_of_name (by decide +kernel)) rfl (Nat.le_of_ble_eq_true rfl) hI wk_X10_holds.1 h (fun Γ hRT => ?_)
  show G _ Γ _ _ _ _ _ _ σ [((0 : Nat), Value.int x1), ((1 : Nat), Value.int x2)] 0 []
  unfold f_X10_holds
  refine g_iload_n (pc := 0) 0 dX10_holds_0 rfl rfl ?_
  refine g_iload_n (pc := 1) 1 dX10_holds_1 rfl rfl ?_
  refine g_cSi (pc := 2) (As := [Value.int x2]) (fun r2 h2 => k_X10_bit hI h2) wk_X10_bit ws_X10_bit bw_20_5 (by decide) (by decide) rfl rfl (Nat.le_of_ble_eq_true rfl) dX10_holds_2 (fun r3 s4 => ?_)
  refine g_iand (pc := 5) dX10_holds_5 ?_
  refine g_if_eq (pc := 6) (tgt := 13) dX10_holds_6 (by decide) ?_ ?_
  · refine g_iconst (pc := 13) (v := 0) dX10_holds_13 (by decide) ?_
    exact g_zret1 (pc := 14) hRT (by decide) dX10_holds_14
  · refine g_iconst (pc := 9) (v := 1) dX10_holds_9 (by decide) ?_
    refine g_goto (pc := 10) (tgt := 14) dX10_holds_10 (by decide) ?_
    exact g_zret1 (pc := 14) hRT (by decide) dX10_holds_14
set_option maxRecDepth 100000 in
set_option maxHeartbeats 4000000 in
theorem k_X9_knownIn__19 {l : Launch} {D : va_G} {a : Nat → Nat} {cI cS : ClassId} (hI : ∀ σ : St, va_D (AN a) (cN a cI cS σ)) {σ : St} {x1 : Int32} {r : Int32 × St} (h : f_X9_knownIn__19 σ x1 = some r) : Kc (SN l D a cI cS) yX9_knownIn cX9_knownIn 4 (some .int) 2 [Value.ref (a 19), Value.int x1] σ r := by
  refine enter (own := RX9) (o := f_X9_knownIn__19 σ x1) (plainFor_of_name (by decide +kernel)) rfl (Nat.le_of_ble_eq_true rfl) hI wk_X9_knownIn.1 h (fun Γ hRT => ?_)
  show G _ Γ _ _ _ _ _ _ σ [((0 : Nat), Value.ref (a 19)), ((1 : Nat), Value.int x1)] 0 []
  unfold f_X9_knownIn__19
  refine g_iconst (pc := 0) (v := 0) dX9_knownIn_0 (by decide) ?_
  refine g_istore_n (pc := 1) [1, 2, 0] (lv1 := [(0, Value.ref (a 19)), (1, Value.int x1), (2, Value.int (0 : Int32))]) dX9_knownIn_1 rfl (by decide) rfl ?_
  refine g_iconst (pc := 2) (v := 0) dX9_knownIn_2 (by decide) ?_
  refine g_istore_n (pc := 3) [1, 2, 3, 0] (lv1 := [(0, Value.ref (a 19)), (1, Value.int x1), (2, Value.int (0 : Int32)), (3, Value.int (0 : Int32))]) dX9_knownIn_3 rfl (by decide) rfl ?_
  refine g_lq2 (pc := 4) (lf := fun x3 x4 => [((0 : Nat), Value.ref (a 19)), ((1 : Nat), Value.int x1), ((2 : Nat), Value.int x3), ((3 : Nat), Value.int x4)]) (sf := fun x3 x4 => ([] : List Value)) (fun k2 hk2 s5 x3 x4 => ?_) 100000 σ _ _
  show G _ Γ _ _ _ _ _ _ s5 [((0 : Nat), Value.ref (a 19)), ((1 : Nat), Value.int x1), ((2 : Nat), Value.int x3), ((3 : Nat), Value.int x4)] 4 ([] : List Value)
  refine g_iload_n (pc := 4) 3 dX9_knownIn_4 rfl rfl ?_
  refine g_iconst (pc := 5) (v := 5) dX9_knownIn_5 (by decide) ?_
  refine g_icmp_ge (pc := 6) (tgt := 34) dX9_knownIn_6 (by decide) ?_ ?_
  · refine g_iload_n (pc := 34) 2 dX9_knownIn_34 rfl rfl ?_
    exact g_iret (pc := 35) hRT dX9_knownIn_35
  · refine g_jq1 (pc2 := 28) (lf := fun x7 => [((0 : Nat), Value.ref (a 19)), ((1 : Nat), Value.int x1), ((2 : Nat), Value.int x7), ((3 : Nat), Value.int x4)]) (sf := fun x7 => ([] : List Value)) (fun s8 x7 => ?_) (fun k6 hk6 => ?_)
    · show G _ Γ _ _ _ _ _ _ s8 [((0 : Nat), Value.ref (a 19)), ((1 : Nat), Value.int x1), ((2 : Nat), Value.int x7), ((3 : Nat), Value.int x4)] 28 ([] : List Value)
      refine g_iinc (pc := 28) [1, 2, 3, 0] 3 (n1 := 1) (lv1 := fun x9 => [(0, Value.ref (a 19)), (1, Value.int x1), (2, Value.int x7), (3, Value.int x9)]) dX9_knownIn_28 rfl (by decide) (by decide) (fun _ => rfl) (fun x9 => ?_)
      show G _ Γ _ _ _ _ _ _ _ [(0, Value.ref (a 19)), (1, Value.int x1), (2, Value.int x7), (3, Value.int x9)] (28 + 3) _
      refine g_goto (pc := 31) (tgt := 4) dX9_knownIn_31 (by decide) ?_
      exact hk2 s8 _ _
    · refine g_aload_n (pc := 9) 0 dX9_knownIn_9 rfl rfl ?_
      refine g_iload_n (pc := 10) 3 dX9_knownIn_10 rfl rfl ?_
      refine g_cVi (pc := 11) 19 (As := [Value.int x4]) (fun r2 h2 => k_X9_whoKnows__19 hI h2) wk_X9_whoKnows wv_X9_whoKnows bw_19_23 cN_19 rfl (by decide) (by decide) rfl rfl (Nat.le_of_ble_eq_true rfl) dX9_knownIn_11 (fun r10 s11 => ?_)
      refine g_iload_n (pc := 14) 1 dX9_knownIn_14 rfl rfl ?_
      refine g_cNz (pc := 15) (As := [Value.int r10, Value.int x1]) (fun r2 h2 => k_X10_holds hI h2) wk_X10_holds ws_X10_holds nst_RX9_52 (by decide) (by decide) rfl rfl (Nat.le_of_ble_eq_true rfl) dX9_knownIn_15 (fun r12 s13 => ?_)
      refine g_if_eq (pc := 18) (tgt := 28) dX9_knownIn_18 (by decide) ?_ ?_
      · exact hk6 s13 _
      · refine g_iload_n (pc := 21) 2 dX9_knownIn_21 rfl rfl ?_
        refine g_iload_n (pc := 22) 3 dX9_knownIn_22 rfl rfl ?_
        refine g_cNi (pc := 23) (As := [Value.int x4]) (fun r2 h2 => k_X10_bit hI h2) wk_X10_bit ws_X10_bit nst_RX9_39 (by decide) (by decide) rfl rfl (Nat.le_of_ble_eq_true rfl) dX9_knownIn_23 (fun r14 s15 => ?_)
        refine g_ior (pc := 26) dX9_knownIn_26 ?_
        refine g_nm (fun x16 => ?_)
        refine g_istore_n (pc := 27) [1, 2, 0, 3] (lv1 := [(0, Value.ref (a 19)), (1, Value.int x1), (2, Value.int x16), (3, Value.int x4)]) dX9_knownIn_27 rfl (by decide) rfl ?_
        exact hk6 s15 _
set_option maxRecDepth 100000 in
set_option maxHeartbeats 4000000 in
theorem k_X10_house__0 {l : Launch} {D : va_G} {a : Nat → Nat} {cI cS : ClassId} (hI : ∀ σ : St, va_D (AN a) (cN a cI cS σ)) {σ : St} {x1 x2 : Int32} {r : Int32 × St} (h : f_X10_house__0 σ x1 x2 = some r) : Kc (SN l D a cI cS) yX10_house cX10_house 3 (some .int) 3 [Value.ref (a 0), Value.int x1, Value.int x2] σ r := by
  refine enter (own := RX10) (o := f_X10_house__0 σ x1 x2) (plainFor_of_name (by decide +kernel)) rfl (Nat.le_of_ble_eq_true rfl) hI wk_X10_house.1 h (fun Γ hRT => ?_)
  show G _ Γ _ _ _ _ _ _ σ [((0 : Nat), Value.ref (a 0)), ((1 : Nat), Value.int x1), ((2 : Nat), Value.int x2)] 0 []
  unfold f_X10_house__0
  refine g_aload_n (pc := 0) 0 dX10_house_0 rfl rfl ?_
  refine g_get (pc := 1) 0 cN_0 rfl inlX10 3 (by decide) bw_2_0 rfl dX10_house_1 ?_
  refine g_iload_n (pc := 4) 1 dX10_house_4 rfl rfl ?_
  refine g_cVz (pc := 5) 12 (As := [Value.int x1]) (fun r2 h2 => k_X4_hasHouse__12 hI h2) wk_X4_hasHouse wv_X4_hasHouse bw_19_10 cN_12 rfl (by decide) (by decide) rfl rfl (Nat.le_of_ble_eq_true rfl) dX10_house_5 (fun r3 s4 => ?_)
  refine g_if_ne (pc := 8) (tgt := 13) dX10_house_8 (by decide) ?_ ?_
  · refine g_iload_n (pc := 13) 2 dX10_house_13 rfl rfl ?_
    refine g_ite (fun e0_ => ?_) (fun e0_ => ?_)
    · refine g_tableIn (pc := 14) (off := 26) (tgt := 40) dX10_house_14 (by rw [e0_]; decide) (by rw [e0_]; decide) (by rw [e0_]; decide) (by decide) ?_
      refine g_aload_n (pc := 40) 0 dX10_house_40 rfl rfl ?_
      refine g_get (pc := 41) 0 cN_0 rfl inlX10 3 (by decide) bw_2_0 rfl dX10_house_41 ?_
      refine g_iload_n (pc := 44) 1 dX10_house_44 rfl rfl ?_
      refine g_cVi (pc := 45) 12 (As := [Value.int x1]) (fun r2 h2 => k_X4_kindOf__12 hI h2) wk_X4_kindOf wv_X4_kindOf bw_19_11 cN_12 rfl (by decide) (by decide) rfl rfl (Nat.le_of_ble_eq_true rfl) dX10_house_45 (fun r6 s7 => ?_)
      exact g_iret (pc := 48) hRT dX10_house_48
    · skip
      refine g_ite (fun e1_ => ?_) (fun e1_ => ?_)
      · refine g_tableIn (pc := 14) (off := 35) (tgt := 49) dX10_house_14 (by rw [e1_]; decide) (by rw [e1_]; decide) (by rw [e1_]; decide) (by decide) ?_
        refine g_aload_n (pc := 49) 0 dX10_house_49 rfl rfl ?_
        refine g_get (pc := 50) 0 cN_0 rfl inlX10 4 (by decide) bw_2_4 rfl dX10_house_50 ?_
        refine g_iload_n (pc := 53) 1 dX10_house_53 rfl rfl ?_
        refine g_cVi (pc := 54) 19 (As := [Value.int x1]) (fun r2 h2 => k_X9_sashOf__19 hI h2) wk_X9_sashOf wv_X9_sashOf bw_19_15 cN_19 rfl (by decide) (by decide) rfl rfl (Nat.le_of_ble_eq_true rfl) dX10_house_54 (fun r8 s9 => ?_)
        exact g_iret (pc := 57) hRT dX10_house_57
      · skip
        refine g_ite (fun e2_ => ?_) (fun e2_ => ?_)
        · refine g_tableIn (pc := 14) (off := 44) (tgt := 58) dX10_house_14 (by rw [e2_]; decide) (by rw [e2_]; decide) (by rw [e2_]; decide) (by decide) ?_
          refine g_aload_n (pc := 58) 0 dX10_house_58 rfl rfl ?_
          refine g_get (pc := 59) 0 cN_0 rfl inlX10 4 (by decide) bw_2_4 rfl dX10_house_59 ?_
          refine g_iload_n (pc := 62) 1 dX10_house_62 rfl rfl ?_
          refine g_cVi (pc := 63) 19 (As := [Value.int x1]) (fun r2 h2 => k_X9_knownIn__19 hI h2) wk_X9_knownIn wv_X9_knownIn bw_19_19 cN_19 rfl (by decide) (by decide) rfl rfl (Nat.le_of_ble_eq_true rfl) dX10_house_63 (fun r10 s11 => ?_)
          exact g_iret (pc := 66) hRT dX10_house_66
        · skip
          have hx_w5 : x2.toInt < 0 ∨ 2 < x2.toInt := by
            have n0_ : x2.toInt ≠ 0 := fun q => e0_ (Int32.toInt_inj.mp (q.trans (by decide)))
            have n1_ : x2.toInt ≠ 1 := fun q => e1_ (Int32.toInt_inj.mp (q.trans (by decide)))
            have n2_ : x2.toInt ≠ 2 := fun q => e2_ (Int32.toInt_inj.mp (q.trans (by decide)))
            omega
          refine g_tableOut (pc := 14) (tgt := 67) dX10_house_14 hx_w5 (by decide) ?_
          refine g_iconst (pc := 67) (v := -1) dX10_house_67 (by decide) ?_
          exact g_iret (pc := 68) hRT dX10_house_68
  · refine g_iconst (pc := 11) (v := -1) dX10_house_11 (by decide) ?_
    exact g_iret (pc := 12) hRT dX10_house_12
set_option maxRecDepth 100000 in
set_option maxHeartbeats 4000000 in
theorem k_X10_at__15 {l : Launch} {D : va_G} {a : Nat → Nat} {cI cS : ClassId} (hI : ∀ σ : St, va_D (AN a) (cN a cI cS σ)) {σ : St} {x1 : Int32} {r : Int32 × St} (h : f_X10_at__15 σ x1 = some r) : Kc (SN l D a cI cS) yX10_at cX10_at 2 (some .int) 0 [Value.ref (a 15), Value.int x1] σ r := by
  refine enter (own := RX10) (o := f_X10_at__15 σ x1) (plainFor_of_name (by decide +kernel)) rfl (Nat.le_of_ble_eq_true rfl) hI wk_X10_at.1 h (fun Γ hRT => ?_)
  show G _ Γ _ _ _ _ _ _ σ [((0 : Nat), Value.ref (a 15)), ((1 : Nat), Value.int x1)] 0 []
  unfold f_X10_at__15
  refine g_aload_n (pc := 0) 0 dX10_at_0 rfl rfl ?_
  refine g_ifnull (pc := 1) dX10_at_1 ?_
  refine g_jq0 (pc2 := 20) (lf := ([] : List (Nat × Value))) (sf := ([] : List Value)) (fun s3 => ?_) (fun k2 hk2 => ?_)
  · show G _ Γ _ _ _ _ _ _ s3 ([] : List (Nat × Value)) 20 ([] : List Value)
    refine g_iconst (pc := 20) (v := 0) dX10_at_20 (by decide) ?_
    exact g_iret (pc := 21) hRT dX10_at_21
  · refine g_iload_n (pc := 4) 1 dX10_at_4 rfl rfl ?_
    refine g_if_lt (pc := 5) (tgt := 20) dX10_at_5 (by decide) ?_ ?_
    · exact g_lv [] rfl (hk2 σ)
    · refine g_iload_n (pc := 8) 1 dX10_at_8 rfl rfl ?_
      refine g_aload_n (pc := 9) 0 dX10_at_9 rfl rfl ?_
      refine g_alen (pc := 10) 15 0 (v := 5) cN_15 rfl (show Int32.ofNat 5 = 5 by decide) dX10_at_10 ?_
      refine g_icmp_ge (pc := 11) (tgt := 20) dX10_at_11 (by decide) ?_ ?_
      · exact g_lv [] rfl (hk2 σ)
      · refine g_aload_n (pc := 14) 0 dX10_at_14 rfl rfl ?_
        refine g_iload_n (pc := 15) 1 dX10_at_15 rfl rfl ?_
        refine g_iald (pc := 16) 15 cN_15 rfl dX10_at_16 ?_
        refine g_goto (pc := 17) (tgt := 21) dX10_at_17 (by decide) ?_
        exact g_iret (pc := 21) hRT dX10_at_21
