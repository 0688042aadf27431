set_option maxRecDepth 100000 in
set_option maxHeartbeats 4000000 in
theorem k_X11_tellsHouse__0 {l : Launch} {D : va_G} {a : Nat → Nat} {cI : ClassId} (hI : ∀ σ : St, va_D (AM a) (cM a cI σ)) {σ : St} {x1 x2 x3 : Int32} {r : Int32 × St} (h : f_X11_tellsHouse__0 σ x1 x2 x3 = some r) : Kc (SM l D a cI) yX11_tellsHouse cX11_tellsHouse 4 none 0 [Value.ref (a 0), Value.int x1, Value.int x2, Value.int x3] σ r := by
  refine enter (own := RX11) (o := f_X11_tellsHouse__0 σ x1 x2 x3) (plainFor_of_name (by decide +kernel)) rfl (Nat.le_of_ble_eq_true rfl) hI wk_X11_tellsHouse.1 h (fun Γ hRT => ?_)
  show G _ Γ _ _ _ _ _ _ σ [((0 : Nat), Value.ref (a 0)), ((1 : Nat), Value.int x1), ((2 : Nat), Value.int x2), ((3 : Nat), Value.int x3)] 0 []
  unfold f_X11_tellsHouse__0
  refine g_aload_n (pc := 0) 0 dX11_tellsHouse_0 rfl rfl ?_
  refine g_get (pc := 1) 0 cM_0 rfl inlX11 22 (by decide) bw_14_10 rfl dX11_tellsHouse_1 ?_
  refine g_iload_n (pc := 4) 1 dX11_tellsHouse_4 rfl rfl ?_
  refine g_iload_n (pc := 5) 2 dX11_tellsHouse_5 rfl rfl ?_
  refine g_iast (pc := 6) 10 cM_10 rfl cM_s10 dX11_tellsHouse_6 (fun s4 => ?_)
  refine g_aload_n (pc := 7) 0 dX11_tellsHouse_7 rfl rfl ?_
  refine g_get (pc := 8) 0 cM_0 rfl inlX11 23 (by decide) bw_14_11 rfl dX11_tellsHouse_8 ?_
  refine g_iload_n (pc := 11) 1 dX11_tellsHouse_11 rfl rfl ?_
  refine g_iload_n (pc := 12) 3 dX11_tellsHouse_12 rfl rfl ?_
  refine g_iast (pc := 13) 11 cM_11 rfl cM_s11 dX11_tellsHouse_13 (fun s5 => ?_)
  exact g_vret (pc := 14) hRT dX11_tellsHouse_14
set_option maxRecDepth 100000 in
set_option maxHeartbeats 4000000 in
theorem k_X11_tellsNews__0 {l : Launch} {D : va_G} {a : Nat → Nat} {cI : ClassId} (hI : ∀ σ : St, va_D (AM a) (cM a cI σ)) {σ : St} {x1 x2 x3 : Int32} {r : Int32 × St} (h : f_X11_tellsNews__0 σ x1 x2 x3 = some r) : Kc (SM l D a cI) yX11_tellsNews cX11_tellsNews 4 none 0 [Value.ref (a 0), Value.int x1, Value.int x2, Value.int x3] σ r := by
  refine enter (own := RX11) (o := f_X11_tellsNews__0 σ x1 x2 x3) (plainFor_of_name (by decide +kernel)) rfl (Nat.le_of_ble_eq_true rfl) hI wk_X11_tellsNews.1 h (fun Γ hRT => ?_)
  show G _ Γ _ _ _ _ _ _ σ [((0 : Nat), Value.ref (a 0)), ((1 : Nat), Value.int x1), ((2 : Nat), Value.int x2), ((3 : Nat), Value.int x3)] 0 []
  unfold f_X11_tellsNews__0
  refine g_aload_n (pc := 0) 0 dX11_tellsNews_0 rfl rfl ?_
  refine g_get (pc := 1) 0 cM_0 rfl inlX11 25 (by decide) bw_14_12 rfl dX11_tellsNews_1 ?_
  refine g_iconst (pc := 4) (v := 3) dX11_tellsNews_4 (by decide) ?_
  refine g_aload_n (pc := 5) 0 dX11_tellsNews_5 rfl rfl ?_
  refine g_get (pc := 6) 0 cM_0 rfl inlX11 24 (by decide) bw_14_23 rfl dX11_tellsNews_6 ?_
  refine g_imul (pc := 9) dX11_tellsNews_9 ?_
  refine g_iload_n (pc := 10) 1 dX11_tellsNews_10 rfl rfl ?_
  refine g_iast (pc := 11) 12 cM_12 rfl cM_s12 dX11_tellsNews_11 (fun s4 => ?_)
  refine g_aload_n (pc := 12) 0 dX11_tellsNews_12 rfl rfl ?_
  refine g_get (pc := 13) 0 cM_0 rfl inlX11 25 (by decide) bw_14_12 rfl dX11_tellsNews_13 ?_
  refine g_iconst (pc := 16) (v := 3) dX11_tellsNews_16 (by decide) ?_
  refine g_aload_n (pc := 17) 0 dX11_tellsNews_17 rfl rfl ?_
  refine g_get (pc := 18) 0 cM_0 rfl inlX11 24 (by decide) bw_14_23 rfl dX11_tellsNews_18 ?_
  refine g_imul (pc := 21) dX11_tellsNews_21 ?_
  refine g_iconst (pc := 22) (v := 1) dX11_tellsNews_22 (by decide) ?_
  refine g_iadd (pc := 23) dX11_tellsNews_23 ?_
  refine g_iload_n (pc := 24) 2 dX11_tellsNews_24 rfl rfl ?_
  refine g_iast (pc := 25) 12 cM_12 rfl cM_s12 dX11_tellsNews_25 (fun s5 => ?_)
  refine g_aload_n (pc := 26) 0 dX11_tellsNews_26 rfl rfl ?_
  refine g_get (pc := 27) 0 cM_0 rfl inlX11 25 (by decide) bw_14_12 rfl dX11_tellsNews_27 ?_
  refine g_iconst (pc := 30) (v := 3) dX11_tellsNews_30 (by decide) ?_
  refine g_aload_n (pc := 31) 0 dX11_tellsNews_31 rfl rfl ?_
  refine g_get (pc := 32) 0 cM_0 rfl inlX11 24 (by decide) bw_14_23 rfl dX11_tellsNews_32 ?_
  refine g_imul (pc := 35) dX11_tellsNews_35 ?_
  refine g_iconst (pc := 36) (v := 2) dX11_tellsNews_36 (by decide) ?_
  refine g_iadd (pc := 37) dX11_tellsNews_37 ?_
  refine g_iload_n (pc := 38) 3 dX11_tellsNews_38 rfl rfl ?_
  refine g_iast (pc := 39) 12 cM_12 rfl cM_s12 dX11_tellsNews_39 (fun s6 => ?_)
  refine g_aload_n (pc := 40) 0 dX11_tellsNews_40 rfl rfl ?_
  refine g_dup (pc := 41) dX11_tellsNews_41 rfl ?_
  refine g_get (pc := 42) 0 cM_0 rfl inlX11 24 (by decide) bw_14_23 rfl dX11_tellsNews_42 ?_
  refine g_iconst (pc := 45) (v := 1) dX11_tellsNews_45 (by decide) ?_
  refine g_iadd (pc := 46) dX11_tellsNews_46 ?_
  refine g_put (pc := 47) 0 (ty := .int) cM_0 rfl inlX11 tyX11_ok nmX11 24 (by decide) bw_14_23 rfl (by decide +kernel) rfl rfl (Nat.le_of_ble_eq_true rfl) cM_f0_24 dX11_tellsNews_47 (fun s7 => ?_)
  exact g_vret (pc := 50) hRT dX11_tellsNews_50
set_option maxRecDepth 100000 in
set_option maxHeartbeats 4000000 in
theorem k_X11_in {l : Launch} {D : va_G} {a : Nat → Nat} {cI : ClassId} (hI : ∀ σ : St, va_D (AM a) (cM a cI σ)) {σ : St} {x1 x2 x3 : Int32} {r : Int32 × St} (h : f_X11_in σ x1 x2 x3 = some r) : Kc (SM l D a cI) yX11_in cX11_in 3 (some .boolean) 0 [Value.int x1, Value.int x2, Value.int x3] σ r := by
  refine enter (own := RX11) (o := f_X11_in σ x1 x2 x3) (plainFor_of_name (by decide +kernel)) rfl (Nat.le_of_ble_eq_true rfl) hI wk_X11_in.1 h (fun Γ hRT => ?_)
  show G _ Γ _ _ _ _ _ _ σ [((0 : Nat), Value.int x1), ((1 : Nat), Value.int x2), ((2 : Nat), Value.int x3)] 0 []
  unfold f_X11_in
  refine g_jq0 (pc2 := 14) (lf := ([] : List (Nat × Value))) (sf := ([] : List Value)) (fun s5 => ?_) (fun k4 hk4 => ?_)
  · show G _ Γ _ _ _ _ _ _ s5 ([] : List (Nat × Value)) 14 ([] : List Value)
    refine g_iconst (pc := 14) (v := 0) dX11_in_14 (by decide) ?_
    exact g_zret1 (pc := 15) hRT (by decide) dX11_in_15
  · refine g_iload_n (pc := 0) 0 dX11_in_0 rfl rfl ?_
    refine g_iload_n (pc := 1) 1 dX11_in_1 rfl rfl ?_
    refine g_icmp_lt (pc := 2) (tgt := 14) dX11_in_2 (by decide) ?_ ?_
    · exact g_lv [] rfl (hk4 σ)
    · refine g_iload_n (pc := 5) 0 dX11_in_5 rfl rfl ?_
      refine g_iload_n (pc := 6) 2 dX11_in_6 rfl rfl ?_
      refine g_icmp_gt (pc := 7) (tgt := 14) dX11_in_7 (by decide) ?_ ?_
      · exact g_lv [] rfl (hk4 σ)
      · refine g_iconst (pc := 10) (v := 1) dX11_in_10 (by decide) ?_
        refine g_goto (pc := 11) (tgt := 15) dX11_in_11 (by decide) ?_
        exact g_zret1 (pc := 15) hRT (by decide) dX11_in_15
set_option maxRecDepth 100000 in
set_option maxHeartbeats 4000000 in
theorem k_X11_has {l : Launch} {D : va_G} {a : Nat → Nat} {cI : ClassId} (hI : ∀ σ : St, va_D (AM a) (cM a cI σ)) {σ : St} {x1 x2 : Int32} {r : Int32 × St} (h : f_X11_has σ x1 x2 = some r) : Kc (SM l D a cI) yX11_has cX11_has 2 (some .boolean) 0 [Value.int x1, Value.int x2] σ r := by
  refine enter (own := RX11) (o := f_X11_has σ x1 x2) (plainFor_of_name (by decide +kernel)) rfl (Nat.le_of_ble_eq_true rfl) hI wk_X11_has.1 h (fun Γ hRT => ?_)
  show G _ Γ _ _ _ _ _ _ σ [((0 : Nat), Value.int x1), ((1 : Nat), Value.int x2)] 0 []
  unfold f_X11_has
  refine g_iload_n (pc := 0) 0 dX11_has_0 rfl rfl ?_
  refine g_iload_n (pc := 1) 1 dX11_has_1 rfl rfl ?_
  refine g_ishr (pc := 2) dX11_has_2 ?_
  refine g_iconst (pc := 3) (v := 1) dX11_has_3 (by decide) ?_
  refine g_iand (pc := 4) dX11_has_4 ?_
  refine g_iconst (pc := 5) (v := 1) dX11_has_5 (by decide) ?_
  refine g_icmp_ne (pc := 6) (tgt := 13) dX11_has_6 (by decide) ?_ ?_
  · refine g_iconst (pc := 13) (v := 0) dX11_has_13 (by decide) ?_
    exact g_zret1 (pc := 14) hRT (by decide) dX11_has_14
  · refine g_iconst (pc := 9) (v := 1) dX11_has_9 (by decide) ?_
    refine g_goto (pc := 10) (tgt := 14) dX11_has_10 (by decide) ?_
    exact g_zret1 (pc := 14) hRT (by decide) dX11_has_14
set_option maxRecDepth 100000 in
set_option maxHeartbeats 4000000 in
theorem k_X11_bits {l : Launch} {D : va_G} {a : Nat → Nat} {cI : ClassId} (hI : ∀ σ : St, va_D (AM a) (cM a cI σ)) {σ : St} {x1 : Int32} {r : Int32 × St} (h : f_X11_bits σ x1 = some r) : Kc (SM l D a cI) yX11_bits cX11_bits 3 (some .int) 0 [Value.int x1] σ r := by
  refine enter (own := RX11) (o := f_X11_bits σ x1) (plainFor_of_name (by decide +kernel)) rfl (Nat.le_of_ble_eq_true rfl) hI wk_X11_bits.1 h (fun Γ hRT => ?_)
  show G _ Γ _ _ _ _ _ _ σ [((0 : Nat), Value.int x1)] 0 []
  unfold f_X11_bits
  refine g_iconst (pc := 0) (v := 0) dX11_bits_0 (by decide) ?_
  refine g_istore_n (pc := 1) [1, 0] (lv1 := [(0, Value.int x1), (1, Value.int (0 : Int32))]) dX11_bits_1 rfl (by decide) rfl ?_
  refine g_iconst (pc := 2) (v := 0) dX11_bits_2 (by decide) ?_
  refine g_istore_n (pc := 3) [1, 2, 0] (lv1 := [(0, Value.int x1), (1, Value.int (0 : Int32)), (2, Value.int (0 : Int32))]) dX11_bits_3 rfl (by decide) rfl ?_
  refine g_lq2 (pc := 4) (lf := fun x3 x4 => [((0 : Nat), Value.int x1), ((1 : Nat), Value.int x3), ((2 : Nat), Value.int x4)]) (sf := fun x3 x4 => ([] : List Value)) (fun k2 hk2 s5 x3 x4 => ?_) 100000 σ _ _
  show G _ Γ _ _ _ _ _ _ s5 [((0 : Nat), Value.int x1), ((1 : Nat), Value.int x3), ((2 : Nat), Value.int x4)] 4 ([] : List Value)
  refine g_iload_n (pc := 4) 2 dX11_bits_4 rfl rfl ?_
  refine g_bipush (pc := 5) (v := 16) dX11_bits_5 (by decide) ?_
  refine g_icmp_ge (pc := 7) (tgt := 24) dX11_bits_7 (by decide) ?_ ?_
  · refine g_iload_n (pc := 24) 1 dX11_bits_24 rfl rfl ?_
    exact g_iret (pc := 25) hRT dX11_bits_25
  · refine g_iload_n (pc := 10) 1 dX11_bits_10 rfl rfl ?_
    refine g_iload_n (pc := 11) 0 dX11_bits_11 rfl rfl ?_
    refine g_iload_n (pc := 12) 2 dX11_bits_12 rfl rfl ?_
    refine g_ishr (pc := 13) dX11_bits_13 ?_
    refine g_iconst (pc := 14) (v := 1) dX11_bits_14 (by decide) ?_
    refine g_iand (pc := 15) dX11_bits_15 ?_
    refine g_iadd (pc := 16) dX11_bits_16 ?_
    refine g_nm (fun x6 => ?_)
    refine g_istore_n (pc := 17) [1, 0, 2] (lv1 := [(0, Value.int x1), (1, Value.int x6), (2, Value.int x4)]) dX11_bits_17 rfl (by decide) rfl ?_
    refine g_iinc (pc := 18) [1, 2, 0] 2 (n1 := 1) (lv1 := fun x7 => [(0, Value.int x1), (1, Value.int x6), (2, Value.int x7)]) dX11_bits_18 rfl (by decide) (by decide) (fun _ => rfl) (fun x7 => ?_)
    show G _ Γ _ _ _ _ _ _ _ [(0, Value.int x1), (1, Value.int x6), (2, Value.int x7)] (18 + 3) _
    refine g_goto (pc := 21) (tgt := 4) dX11_bits_21 (by decide) ?_
    exact hk2 s5 _ _
set_option maxRecDepth 100000 in
set_option maxHeartbeats 4000000 in
theorem k_X11_isHouse__0 {l : Launch} {D : va_G} {a : Nat → Nat} {cI : ClassId} (hI : ∀ σ : St, va_D (AM a) (cM a cI σ)) {σ : St} {x1 : Int32} {r : Int32 × St} (h : f_X11_isHouse__0 σ x1 = some r) : Kc (SM l D a cI) yX11_isHouse cX11_isHouse 2 (some .boolean) 1 [Value.ref (a 0), Value.int x1] σ r := by
  refine enter (own := RX11) (o := f_X11_isHouse__0 σ x1) (plainFor_of_name (by decide +kernel)) rfl (Nat.le_of_ble_eq_true rfl) hI wk_X11_isHouse.1 h (fun Γ hRT => ?_)
  show G _ Γ _ _ _ _ _ _ σ [((0 : Nat), Value.ref (a 0)), ((1 : Nat), Value.int x1)] 0 []
  unfold f_X11_isHouse__0
  refine g_iload_n (pc := 0) 1 dX11_isHouse_0 rfl rfl ?_
  refine g_iconst (pc := 1) (v := 0) dX11_isHouse_1 (by decide) ?_
  refine g_aload_n (pc := 2) 0 dX11_isHouse_2 rfl rfl ?_
  refine g_get (pc := 3) 0 cM_0 rfl inlX11 2 (by decide) bw_15_14 rfl dX11_isHouse_3 ?_
  refine g_iconst (pc := 6) (v := 1) dX11_isHouse_6 (by decide) ?_
  refine g_isub (pc := 7) dX11_isHouse_7 ?_
  refine g_cSz (pc := 8) (As := [Value.int x1, Value.int (0 : Int32), Value.int ((σ 0 2) - (1 : Int32))]) (fun r2 h2 => k_X11_in hI h2) wk_X11_in ws_X11_in bw_16_9 (by decide) (by decide) rfl rfl (Nat.le_of_ble_eq_true rfl) dX11_isHouse_8 (fun r2 s3 => ?_)
  exact g_zret (pc := 11) hRT dX11_isHouse_11
set_option maxRecDepth 100000 in
set_option maxHeartbeats 4000000 in
theorem k_X11_isNews__0 {l : Launch} {D : va_G} {a : Nat → Nat} {cI : ClassId} (hI : ∀ σ : St, va_D (AM a) (cM a cI σ)) {σ : St} {x1 : Int32} {r : Int32 × St} (h : f_X11_isNews__0 σ x1 = some r) : Kc (SM l D a cI) yX11_isNews cX11_isNews 2 (some .boolean) 1 [Value.ref (a 0), Value.int x1] σ r := by
  refine enter (own := RX11) (o := f_X11_isNews__0 σ x1) (plainFor_of_name (by decide +kernel)) rfl (Nat.le_of_ble_eq_true rfl) hI wk_X11_isNews.1 h (fun Γ hRT => ?_)
  show G _ Γ _ _ _ _ _ _ σ [((0 : Nat), Value.ref (a 0)), ((1 : Nat), Value.int x1)] 0 []
  unfold f_X11_isNews__0
  refine g_iload_n (pc := 0) 1 dX11_isNews_0 rfl rfl ?_
  refine g_iconst (pc := 1) (v := 0) dX11_isNews_1 (by decide) ?_
  refine g_aload_n (pc := 2) 0 dX11_isNews_2 rfl rfl ?_
  refine g_get (pc := 3) 0 cM_0 rfl inlX11 4 (by decide) bw_15_15 rfl dX11_isNews_3 ?_
  refine g_iconst (pc := 6) (v := 1) dX11_isNews_6 (by decide) ?_
  refine g_isub (pc := 7) dX11_isNews_7 ?_
  refine g_cSz (pc := 8) (As := [Value.int x1, Value.int (0 : Int32), Value.int ((σ 0 4) - (1 : Int32))]) (fun r2 h2 => k_X11_in hI h2) wk_X11_in ws_X11_in bw_16_9 (by decide) (by decide) rfl rfl (Nat.le_of_ble_eq_true rfl) dX11_isNews_8 (fun r2 s3 => ?_)
  exact g_zret (pc := 11) hRT dX11_isNews_11
set_option maxRecDepth 100000 in
set_option maxHeartbeats 4000000 in
theorem k_X11_write__0 {l : Launch} {D : va_G} {a : Nat → Nat} {cI : ClassId} (hI : ∀ σ : St, va_D (AM a) (cM a cI σ)) {σ : St} {x1 : Int32} {r : Int32 × St} (h : f_X11_write__0 σ x1 = some r) : Kc (SM l D a cI) yX11_write cX11_write 2 (some .int) 1 [Value.ref (a 0), Value.int x1] σ r := by
  refine enter (own := RX11) (o := f_X11_write__0 σ x1) (plainFor_of_name (by decide +kernel)) rfl (Nat.le_of_ble_eq_true rfl) hI wk_X11_write.1 h (fun Γ hRT => ?_)
  show G _ Γ _ _ _ _ _ _ σ [((0 : Nat), Value.ref (a 0)), ((1 : Nat), Value.int x1)] 0 []
  unfold f_X11_write__0
  refine g_iload_n (pc := 0) 1 dX11_write_0 rfl rfl ?_
  refine g_bipush (pc := 1) (v := 32) dX11_write_1 (by decide) ?_
  refine g_bipush (pc := 3) (v := 126) dX11_write_3 (by decide) ?_
  refine g_cSz (pc := 5) (As := [Value.int x1, Value.int (32 : Int32), Value.int (126 : Int32)]) (fun r2 h2 => k_X11_in hI h2) wk_X11_in ws_X11_in bw_16_9 (by decide) (by decide) rfl rfl (Nat.le_of_ble_eq_true rfl) dX11_write_5 (fun r2 s3 => ?_)
  refine g_if_ne (pc := 8) (tgt := 13) dX11_write_8 (by decide) ?_ ?_
  · refine g_aload_n (pc := 13) 0 dX11_write_13 rfl rfl ?_
    refine g_get (pc := 14) 0 cM_0 rfl inlX11 16 (by decide) bw_16_8 rfl dX11_write_14 ?_
    refine g_sipush (pc := 17) (v := 200) dX11_write_17 (by decide) ?_
    refine g_icmp_ne (pc := 20) (tgt := 26) dX11_write_20 (by decide) ?_ ?_
    · refine g_aload_n (pc := 26) 0 dX11_write_26 rfl rfl ?_
      refine g_get (pc := 27) 0 cM_0 rfl inlX11 15 (by decide) bw_14_8 rfl dX11_write_27 ?_
      refine g_aload_n (pc := 30) 0 dX11_write_30 rfl rfl ?_
      refine g_get (pc := 31) 0 cM_0 rfl inlX11 16 (by decide) bw_16_8 rfl dX11_write_31 ?_
      refine g_iload_n (pc := 34) 1 dX11_write_34 rfl rfl ?_
      refine g_iast (pc := 35) 8 cM_8 rfl cM_s8 dX11_write_35 (fun s4 => ?_)
      refine g_aload_n (pc := 36) 0 dX11_write_36 rfl rfl ?_
      refine g_dup (pc := 37) dX11_write_37 rfl ?_
      refine g_get (pc := 38) 0 cM_0 rfl inlX11 16 (by decide) bw_16_8 rfl dX11_write_38 ?_
      refine g_iconst (pc := 41) (v := 1) dX11_write_41 (by decide) ?_
      refine g_iadd (pc := 42) dX11_write_42 ?_
      refine g_put (pc := 43) 0 (ty := .int) cM_0 rfl inlX11 tyX11_ok nmX11 16 (by decide) bw_16_8 rfl (by decide +kernel) rfl rfl (Nat.le_of_ble_eq_true rfl) cM_f0_16 dX11_write_43 (fun s5 => ?_)
      refine g_aload_n (pc := 46) 0 dX11_write_46 rfl rfl ?_
      refine g_get (pc := 47) 0 cM_0 rfl inlX11 16 (by decide) bw_16_8 rfl dX11_write_47 ?_
      exact g_iret (pc := 50) hRT dX11_write_50
    · refine g_bipush (pc := 23) (v := -3) dX11_write_23 (by decide) ?_
      exact g_iret (pc := 25) hRT dX11_write_25
  · refine g_iconst (pc := 11) (v := -1) dX11_write_11 (by decide) ?_
    exact g_iret (pc := 12) hRT dX11_write_12
set_option maxRecDepth 100000 in
set_option maxHeartbeats 4000000 in
theorem k_X11_wipe__0 {l : Launch} {D : va_G} {a : Nat → Nat} {cI : ClassId} (hI : ∀ σ : St, va_D (AM a) (cM a cI σ)) {σ : St} {r : Int32 × St} (h : f_X11_wipe__0 σ = some r) : Kc (SM l D a cI) yX11_wipe cX11_wipe 2 (some .int) 0 [Value.ref (a 0)] σ r := by
  refine enter (own := RX11) (o := f_X11_wipe__0 σ) (plainFor_of_name (by decide +kernel)) rfl (Nat.le_of_ble_eq_true rfl) hI wk_X11_wipe.1 h (fun Γ hRT => ?_)
  show G _ Γ _ _ _ _ _ _ σ [((0 : Nat), Value.ref (a 0))] 0 []
  unfold f_X11_wipe__0
  refine g_aload_n (pc := 0) 0 dX11_wipe_0 rfl rfl ?_
  refine g_get (pc := 1) 0 cM_0 rfl inlX11 16 (by decide) bw_16_8 rfl dX11_wipe_1 ?_
  refine g_nm (fun x1 => ?_)
  refine g_istore_n (pc := 4) [1, 0] (lv1 := [(0, Value.ref (a 0)), (1, Value.int x1)]) dX11_wipe_4 rfl (by decide) rfl ?_
  refine g_aload_n (pc := 5) 0 dX11_wipe_5 rfl rfl ?_
  refine g_iconst (pc := 6) (v := 0) dX11_wipe_6 (by decide) ?_
  refine g_put (pc := 7) 0 (ty := .int) cM_0 rfl inlX11 tyX11_ok nmX11 16 (by decide) bw_16_8 rfl (by decide +kernel) rfl rfl (Nat.le_of_ble_eq_true rfl) cM_f0_16 dX11_wipe_7 (fun s2 => ?_)
  refine g_iload_n (pc := 10) 1 dX11_wipe_10 rfl rfl ?_
  exact g_iret (pc := 11) hRT dX11_wipe_11
set_option maxRecDepth 100000 in
set_option maxHeartbeats 4000000 in
theorem k_X11_letterAt__0 {l : Launch} {D : va_G} {a : Nat → Nat} {cI : ClassId} (hI : ∀ σ : St, va_D (AM a) (cM a cI σ)) {σ : St} {x1 : Int32} {r : Int32 × St} (h : f_X11_letterAt__0 σ x1 = some r) : Kc (SM l D a cI) yX11_letterAt cX11_letterAt 2 (some .int) 0 [Value.ref (a 0), Value.int x1] σ r := by
  refine enter (own := RX11) (o := f_X11_letterAt__0 σ x1) (plainFor_of_name (by decide +kernel)) rfl (Nat.le_of_ble_eq_true rfl) hI wk_X11_letterAt.1 h (fun Γ hRT => ?_)
  show G _ Γ _ _ _ _ _ _ σ [((0 : Nat), Value.ref (a 0)), ((1 : Nat), Value.int x1)] 0 []
  unfold f_X11_letterAt__0
  refine g_iload_n (pc := 0) 1 dX11_letterAt_0 rfl rfl ?_
  refine g_aload_n (pc := 1) 0 dX11_letterAt_1 rfl rfl ?_
  refine g_get (pc := 2) 0 cM_0 rfl inlX11 16 (by decide) bw_16_8 rfl dX11_letterAt_2 ?_
  refine g_icmp_ge (pc := 5) (tgt := 17) dX11_letterAt_5 (by decide) ?_ ?_
  · refine g_iconst (pc := 17) (v := -1) dX11_letterAt_17 (by decide) ?_
    exact g_iret (pc := 18) hRT dX11_letterAt_18
  · refine g_aload_n (pc := 8) 0 dX11_letterAt_8 rfl rfl ?_
    refine g_get (pc := 9) 0 cM_0 rfl inlX11 15 (by decide) bw_14_8 rfl dX11_letterAt_9 ?_
    refine g_iload_n (pc := 12) 1 dX11_letterAt_12 rfl rfl ?_
    refine g_iald (pc := 13) 8 cM_8 rfl dX11_letterAt_13 ?_
    refine g_goto (pc := 14) (tgt := 18) dX11_letterAt_14 (by decide) ?_
    exact g_iret (pc := 18) hRT dX11_letterAt_18
set_option maxRecDepth 100000 in
set_option maxHeartbeats 4000000 in
theorem k_X11_isFigure {l : Launch} {D : va_G} {a : Nat → Nat} {cI : ClassId} (hI : ∀ σ : St, va_D (AM a) (cM a cI σ)) {σ : St} {x1 : Int32} {r : Int32 × St} (h : f_X11_isFigure σ x1 = some r) : Kc (SM l D a cI) yX11_isFigure cX11_isFigure 1 (some .boolean) 1 [Value.int x1] σ r := by
  refine enter (own := RX11) (o := f_X11_isFigure σ x1) (plainFor_of_name (by decide +kernel)) rfl (Nat.le_of_ble_eq_true rfl) hI wk_X11_isFigure.1 h (fun Γ hRT => ?_)
  show G _ Γ _ _ _ _ _ _ σ [((0 : Nat), Value.int x1)] 0 []
  unfold f_X11_isFigure
  refine g_iload_n (pc := 0) 0 dX11_isFigure_0 rfl rfl ?_
  refine g_bipush (pc := 1) (v := 48) dX11_isFigure_1 (by decide) ?_
  refine g_bipush (pc := 3) (v := 57) dX11_isFigure_3 (by decide) ?_
  refine g_cSz (pc := 5) (As := [Value.int x1, Value.int (48 : Int32), Value.int (57 : Int32)]) (fun r2 h2 => k_X11_in hI h2) wk_X11_in ws_X11_in bw_16_9 (by decide) (by decide) rfl rfl (Nat.le_of_ble_eq_true rfl) dX11_isFigure_5 (fun r2 s3 => ?_)
  exact g_zret (pc := 8) hRT dX11_isFigure_8
set_option maxRecDepth 100000 in
set_option maxHeartbeats 4000000 in
theorem k_X11_readNumbers__0 {l : Launch} {D : va_G} {a : Nat → Nat} {cI : ClassId} (hI : ∀ σ : St, va_D (AM a) (cM a cI σ)) {σ : St} {x1 : Int32} {r : Int32 × St} (h : f_X11_readNumbers__0 σ x1 = some r) : Kc (SM l D a cI) yX11_readNumbers cX11_readNumbers 3 (some .boolean) 2 [Value.ref (a 0), Value.int x1] σ r := by
  refine enter (own := RX11) (o := f_X11_readNumbers__0 σ x1) (plainFor_of_name (by decide +kernel)) rfl (Nat.le_of_ble_eq_true rfl) hI wk_X11_readNumbers.1 h (fun Γ hRT => ?_)
  show G _ Γ _ _ _ _ _ _ σ [((0 : Nat), Value.ref (a 0)), ((1 : Nat), Value.int x1)] 0 []
  unfold f_X11_readNumbers__0
  refine g_iconst (pc := 0) (v := 0) dX11_readNumbers_0 (by decide) ?_
  refine g_istore_n (pc := 1) [1, 2, 0] (lv1 := [(0, Value.ref (a 0)), (1, Value.int x1), (2, Value.int (0 : Int32))]) dX11_readNumbers_1 rfl (by decide) rfl ?_
  refine g_lq1 (pc := 2) (lf := fun x3 => [((0 : Nat), Value.ref (a 0)), ((1 : Nat), Value.int x1), ((2 : Nat), Value.int x3)]) (sf := fun x3 => ([] : List Value)) (fun k2 hk2 s4 x3 => ?_) 100000 σ _
  show G _ Γ _ _ _ _ _ _ s4 [((0 : Nat), Value.ref (a 0)), ((1 : Nat), Value.int x1), ((2 : Nat), Value.int x3)] 2 ([] : List Value)
  refine g_iload_n (pc := 2) 2 dX11_readNumbers_2 rfl rfl ?_
  refine g_iload_n (pc := 3) 1 dX11_readNumbers_3 rfl rfl ?_
  refine g_icmp_ge (pc := 4) (tgt := 144) dX11_readNumbers_4 (by decide) ?_ ?_
  · refine g_iconst (pc := 144) (v := 1) dX11_readNumbers_144 (by decide) ?_
    exact g_zret1 (pc := 145) hRT (by decide) dX11_readNumbers_145
  · refine g_aload_n (pc := 7) 0 dX11_readNumbers_7 rfl rfl ?_
    refine g_aload_n (pc := 8) 0 dX11_readNumbers_8 rfl rfl ?_
    refine g_get (pc := 9) 0 cM_0 rfl inlX11 17 (by decide) bw_17_4 rfl dX11_readNumbers_9 ?_
    refine g_cVi (pc := 12) 0 (As := [Value.int (s4 0 17)]) (fun r2 h2 => k_X11_letterAt__0 hI h2) wk_X11_letterAt wv_X11_letterAt bw_17_9 cM_0 rfl (by decide) (by decide) rfl rfl (Nat.le_of_ble_eq_true rfl) dX11_readNumbers_12 (fun r5 s6 => ?_)
    refine g_cSz (pc := 15) (As := [Value.int r5]) (fun r2 h2 => k_X11_isFigure hI h2) wk_X11_isFigure ws_X11_isFigure bw_17_21 (by decide) (by decide) rfl rfl (Nat.le_of_ble_eq_true rfl) dX11_readNumbers_15 (fun r7 s8 => ?_)
    refine g_if_ne (pc := 18) (tgt := 23) dX11_readNumbers_18 (by decide) ?_ ?_
    · refine g_jq0 (pc2 := 101) (lf := [((0 : Nat), Value.ref (a 0)), ((1 : Nat), Value.int x1), ((2 : Nat), Value.int x3)]) (sf := ([] : List Value)) (fun s10 => ?_) (fun k9 hk9 => ?_)
      · show G _ Γ _ _ _ _ _ _ s10 [((0 : Nat), Value.ref (a 0)), ((1 : Nat), Value.int x1), ((2 : Nat), Value.int x3)] 101 ([] : List Value)
        refine g_jq2 (pc2 := 123) (lf := fun x12 x13 => [((0 : Nat), Value.ref (a 0)), ((1 : Nat), Value.int x1), ((2 : Nat), Value.int x3)]) (sf := fun x12 x13 => [Value.int x12, Value.int x13]) (fun s14 x12 x13 => ?_) (fun k11 hk11 => ?_)
        · show G _ Γ _ _ _ _ _ _ s14 [((0 : Nat), Value.ref (a 0)), ((1 : Nat), Value.int x1), ((2 : Nat), Value.int x3)] 123 [Value.int x12, Value.int x13]
          refine g_icmp_eq (pc := 123) (tgt := 128) dX11_readNumbers_123 (by decide) ?_ ?_
          · refine g_aload_n (pc := 128) 0 dX11_readNumbers_128 rfl rfl ?_
            refine g_dup (pc := 129) dX11_readNumbers_129 rfl ?_
            refine g_get (pc := 130) 0 cM_0 rfl inlX11 17 (by decide) bw_17_4 rfl dX11_readNumbers_130 ?_
            refine g_iconst (pc := 133) (v := 1) dX11_readNumbers_133 (by decide) ?_
            refine g_iadd (pc := 134) dX11_readNumbers_134 ?_
            refine g_put (pc := 135) 0 (ty := .int) cM_0 rfl inlX11 tyX11_ok nmX11 17 (by decide) bw_17_4 rfl (by decide +kernel) rfl rfl (Nat.le_of_ble_eq_true rfl) cM_f0_17 dX11_readNumbers_135 (fun s15 => ?_)
            refine g_iinc (pc := 138) [1, 2, 0] 2 (n1 := 1) (lv1 := fun x16 => [(0, Value.ref (a 0)), (1, Value.int x1), (2, Value.int x16)]) dX11_readNumbers_138 rfl (by decide) (by decide) (fun _ => rfl) (fun x16 => ?_)
            show G _ Γ _ _ _ _ _ _ _ [(0, Value.ref (a 0)), (1, Value.int x1), (2, Value.int x16)] (138 + 3) _
            refine g_goto (pc := 141) (tgt := 2) dX11_readNumbers_141 (by decide) ?_
            exact hk2 s15 _
          · refine g_iconst (pc := 126) (v := 0) dX11_readNumbers_126 (by decide) ?_
            exact g_zret1 (pc := 127) hRT (by decide) dX11_readNumbers_127
        · refine g_aload_n (pc := 101) 0 dX11_readNumbers_101 rfl rfl ?_
          refine g_aload_n (pc := 102) 0 dX11_readNumbers_102 rfl rfl ?_
          refine g_get (pc := 103) 0 cM_0 rfl inlX11 17 (by decide) bw_17_4 rfl dX11_readNumbers_103 ?_
          refine g_cVi (pc := 106) 0 (As := [Value.int (s10 0 17)]) (fun r2 h2 => k_X11_letterAt__0 hI h2) wk_X11_letterAt wv_X11_letterAt bw_17_9 cM_0 rfl (by decide) (by decide) rfl rfl (Nat.le_of_ble_eq_true rfl) dX11_readNumbers_106 (fun r17 s18 => ?_)
          refine g_iload_n (pc := 109) 2 dX11_readNumbers_109 rfl rfl ?_
          refine g_iload_n (pc := 110) 1 dX11_readNumbers_110 rfl rfl ?_
          refine g_iconst (pc := 111) (v := 1) dX11_readNumbers_111 (by decide) ?_
          refine g_isub (pc := 112) dX11_readNumbers_112 ?_
          refine g_icmp_ge (pc := 113) (tgt := 121) dX11_readNumbers_113 (by decide) ?_ ?_
          · refine g_bipush (pc := 121) (v := 59) dX11_readNumbers_121 (by decide) ?_
            exact hk11 s18 _ _
          · refine g_bipush (pc := 116) (v := 44) dX11_readNumbers_116 (by decide) ?_
            refine g_goto (pc := 118) (tgt := 123) dX11_readNumbers_118 (by decide) ?_
            exact hk11 s18 _ _
      · refine g_aload_n (pc := 23) 0 dX11_readNumbers_23 rfl rfl ?_
        refine g_get (pc := 24) 0 cM_0 rfl inlX11 18 (by decide) bw_14_9 rfl dX11_readNumbers_24 ?_
        refine g_iload_n (pc := 27) 2 dX11_readNumbers_27 rfl rfl ?_
        refine g_aload_n (pc := 28) 0 dX11_readNumbers_28 rfl rfl ?_
        refine g_aload_n (pc := 29) 0 dX11_readNumbers_29 rfl rfl ?_
        refine g_get (pc := 30) 0 cM_0 rfl inlX11 17 (by decide) bw_17_4 rfl dX11_readNumbers_30 ?_
        refine g_cVi (pc := 33) 0 (As := [Value.int (s8 0 17)]) (fun r2 h2 => k_X11_letterAt__0 hI h2) wk_X11_letterAt wv_X11_letterAt bw_17_9 cM_0 rfl (by decide) (by decide) rfl rfl (Nat.le_of_ble_eq_true rfl) dX11_readNumbers_33 (fun r19 s20 => ?_)
        refine g_bipush (pc := 36) (v := 48) dX11_readNumbers_36 (by decide) ?_
        refine g_isub (pc := 38) dX11_readNumbers_38 ?_
        refine g_iast (pc := 39) 9 cM_9 rfl cM_s9 dX11_readNumbers_39 (fun s21 => ?_)
        refine g_aload_n (pc := 40) 0 dX11_readNumbers_40 rfl rfl ?_
        refine g_dup (pc := 41) dX11_readNumbers_41 rfl ?_
        refine g_get (pc := 42) 0 cM_0 rfl inlX11 17 (by decide) bw_17_4 rfl dX11_readNumbers_42 ?_
        refine g_iconst (pc := 45) (v := 1) dX11_readNumbers_45 (by decide) ?_
        refine g_iadd (pc := 46) dX11_readNumbers_46 ?_
        refine g_put (pc := 47) 0 (ty := .int) cM_0 rfl inlX11 tyX11_ok nmX11 17 (by decide) bw_17_4 rfl (by decide +kernel) rfl rfl (Nat.le_of_ble_eq_true rfl) cM_f0_17 dX11_readNumbers_47 (fun s22 => ?_)
        refine g_aload_n (pc := 50) 0 dX11_readNumbers_50 rfl rfl ?_
        refine g_aload_n (pc := 51) 0 dX11_readNumbers_51 rfl rfl ?_
        refine g_get (pc := 52) 0 cM_0 rfl inlX11 17 (by decide) bw_17_4 rfl dX11_readNumbers_52 ?_
        refine g_cVi (pc := 55) 0 (As := [Value.int (s22 0 17)]) (fun r2 h2 => k_X11_letterAt__0 hI h2) wk_X11_letterAt wv_X11_letterAt bw_17_9 cM_0 rfl (by decide) (by decide) rfl rfl (Nat.le_of_ble_eq_true rfl) dX11_readNumbers_55 (fun r23 s24 => ?_)
        refine g_cSz (pc := 58) (As := [Value.int r23]) (fun r2 h2 => k_X11_isFigure hI h2) wk_X11_isFigure ws_X11_isFigure bw_17_21 (by decide) (by decide) rfl rfl (Nat.le_of_ble_eq_true rfl) dX11_readNumbers_58 (fun r25 s26 => ?_)
        refine g_if_eq (pc := 61) (tgt := 101) dX11_readNumbers_61 (by decide) ?_ ?_
        · exact hk9 s26
        · refine g_aload_n (pc := 64) 0 dX11_readNumbers_64 rfl rfl ?_
          refine g_get (pc := 65) 0 cM_0 rfl inlX11 18 (by decide) bw_14_9 rfl dX11_readNumbers_65 ?_
          refine g_iload_n (pc := 68) 2 dX11_readNumbers_68 rfl rfl ?_
          refine g_bipush (pc := 69) (v := 10) dX11_readNumbers_69 (by decide) ?_
          refine g_aload_n (pc := 71) 0 dX11_readNumbers_71 rfl rfl ?_
          refine g_get (pc := 72) 0 cM_0 rfl inlX11 18 (by decide) bw_14_9 rfl dX11_readNumbers_72 ?_
          refine g_iload_n (pc := 75) 2 dX11_readNumbers_75 rfl rfl ?_
          refine g_iald (pc := 76) 9 cM_9 rfl dX11_readNumbers_76 ?_
          refine g_imul (pc := 77) dX11_readNumbers_77 ?_
          refine g_aload_n (pc := 78) 0 dX11_readNumbers_78 rfl rfl ?_
          refine g_aload_n (pc := 79) 0 dX11_readNumbers_79 rfl rfl ?_
          refine g_get (pc := 80) 0 cM_0 rfl inlX11 17 (by decide) bw_17_4 rfl dX11_readNumbers_80 ?_
          refine g_cVi (pc := 83) 0 (As := [Value.int (s26 0 17)]) (fun r2 h2 => k_X11_letterAt__0 hI h2) wk_X11_letterAt wv_X11_letterAt bw_17_9 cM_0 rfl (by decide) (by decide) rfl rfl (Nat.le_of_ble_eq_true rfl) dX11_readNumbers_83 (fun r27 s28 => ?_)
          refine g_iadd (pc := 86) dX11_readNumbers_86 ?_
          refine g_bipush (pc := 87) (v := 48) dX11_readNumbers_87 (by decide) ?_
          refine g_isub (pc := 89) dX11_readNumbers_89 ?_
          refine g_iast (pc := 90) 9 cM_9 rfl cM_s9 dX11_readNumbers_90 (fun s29 => ?_)
          refine g_aload_n (pc := 91) 0 dX11_readNumbers_91 rfl rfl ?_
          refine g_dup (pc := 92) dX11_readNumbers_92 rfl ?_
          refine g_get (pc := 93) 0 cM_0 rfl inlX11 17 (by decide) bw_17_4 rfl dX11_readNumbers_93 ?_
          refine g_iconst (pc := 96) (v := 1) dX11_readNumbers_96 (by decide) ?_
          refine g_iadd (pc := 97) dX11_readNumbers_97 ?_
          refine g_put (pc := 98) 0 (ty := .int) cM_0 rfl inlX11 tyX11_ok nmX11 17 (by decide) bw_17_4 rfl (by decide +kernel) rfl rfl (Nat.le_of_ble_eq_true rfl) cM_f0_17 dX11_readNumbers_98 (fun s30 => ?_)
          exact hk9 s30
    · refine g_iconst (pc := 21) (v := 0) dX11_readNumbers_21 (by decide) ?_
      exact g_zret1 (pc := 22) hRT (by decide) dX11_readNumbers_22
set_option maxRecDepth 100000 in
set_option maxHeartbeats 4000000 in
theorem k_X11_isTold__0 {l : Launch} {D : va_G} {a : Nat → Nat} {cI : ClassId} (hI : ∀ σ : St, va_D (AM a) (cM a cI σ)) {σ : St} {x1 x2 x3 : Int32} {r : Int32 × St} (h : f_X11_isTold__0 σ x1 x2 x3 = some r) : Kc (SM l D a cI) yX11_isTold cX11_isTold 4 (some .boolean) 1 [Value.ref (a 0), Value.int x1, Value.int x2, Value.int x3] σ r := by
  refine enter (own := RX11) (o := f_X11_isTold__0 σ x1 x2 x3) (plainFor_of_name (by decide +kernel)) rfl (Nat.le_of_ble_eq_true rfl) hI wk_X11_isTold.1 h (fun Γ hRT => ?_)
  show G _ Γ _ _ _ _ _ _ σ [((0 : Nat), Value.ref (a 0)), ((1 : Nat), Value.int x1), ((2 : Nat), Value.int x2), ((3 : Nat), Value.int x3)] 0 []
  unfold f_X11_isTold__0
  refine g_aload_n (pc := 0) 0 dX11_isTold_0 rfl rfl ?_
  refine g_get (pc := 1) 0 cM_0 rfl inlX11 18 (by decide) bw_14_9 rfl dX11_isTold_1 ?_
  refine g_iload_n (pc := 4) 1 dX11_isTold_4 rfl rfl ?_
  refine g_iald (pc := 5) 9 cM_9 rfl dX11_isTold_5 ?_
  refine g_iload_n (pc := 6) 2 dX11_isTold_6 rfl rfl ?_
  refine g_iload_n (pc := 7) 3 dX11_isTold_7 rfl rfl ?_
  refine g_cSz (pc := 8) (As := [Value.int (σ 9 (Int32.toNatClampNeg x1)), Value.int x2, Value.int x3]) (fun r2 h2 => k_X11_in hI h2) wk_X11_in ws_X11_in bw_16_9 (by decide) (by decide) rfl rfl (Nat.le_of_ble_eq_true rfl) dX11_isTold_8 (fun r4 s5 => ?_)
  exact g_zret (pc := 11) hRT dX11_isTold_11
set_option maxRecDepth 100000 in
set_option maxHeartbeats 4000000 in
theorem k_X11_clearTold__0 {l : Launch} {D : va_G} {a : Nat → Nat} {cI : ClassId} (hI : ∀ σ : St, va_D (AM a) (cM a cI σ)) {σ : St} {r : Int32 × St} (h : f_X11_clearTold__0 σ = some r) : Kc (SM l D a cI) yX11_clearTold cX11_clearTold 2 none 0 [Value.ref (a 0)] σ r := by
  refine enter (own := RX11) (o := f_X11_clearTold__0 σ) (plainFor_of_name (by decide +kernel)) rfl (Nat.le_of_ble_eq_true rfl) hI wk_X11_clearTold.1 h (fun Γ hRT => ?_)
  show G _ Γ _ _ _ _ _ _ σ [((0 : Nat), Value.ref (a 0))] 0 []
  unfold f_X11_clearTold__0
  refine g_aload_n (pc := 0) 0 dX11_clearTold_0 rfl rfl ?_
  refine g_iconst (pc := 1) (v := 0) dX11_clearTold_1 (by decide) ?_
  refine g_put (pc := 2) 0 (ty := .boolean) cM_0 rfl inlX11 tyX11_ok nmX11 19 (by decide) bw_14_20 rfl (by decide +kernel) (by decide) (by decide) (Nat.le_of_ble_eq_true rfl) cM_f0_19 dX11_clearTold_2 (fun s1 => ?_)
  refine g_aload_n (pc := 5) 0 dX11_clearTold_5 rfl rfl ?_
  refine g_iconst (pc := 6) (v := 3) dX11_clearTold_6 (by decide) ?_
  refine g_put (pc := 7) 0 (ty := .int) cM_0 rfl inlX11 tyX11_ok nmX11 20 (by decide) bw_14_21 rfl (by decide +kernel) rfl rfl (Nat.le_of_ble_eq_true rfl) cM_f0_20 dX11_clearTold_7 (fun s2 => ?_)
  refine g_aload_n (pc := 10) 0 dX11_clearTold_10 rfl rfl ?_
  refine g_iconst (pc := 11) (v := 4) dX11_clearTold_11 (by decide) ?_
  refine g_put (pc := 12) 0 (ty := .int) cM_0 rfl inlX11 tyX11_ok nmX11 21 (by decide) bw_14_22 rfl (by decide +kernel) rfl rfl (Nat.le_of_ble_eq_true rfl) cM_f0_21 dX11_clearTold_12 (fun s3 => ?_)
  refine g_iconst (pc := 15) (v := 0) dX11_clearTold_15 (by decide) ?_
  refine g_istore_n (pc := 16) [1, 0] (lv1 := [(0, Value.ref (a 0)), (1, Value.int (0 : Int32))]) dX11_clearTold_16 rfl (by decide) rfl ?_
  refine g_lq1 (pc := 17) (lf := fun x5 => [((0 : Nat), Value.ref (a 0)), ((1 : Nat), Value.int x5)]) (sf := fun x5 => ([] : List Value)) (fun k4 hk4 s6 x5 => ?_) 100000 s3 _
  show G _ Γ _ _ _ _ _ _ s6 [((0 : Nat), Value.ref (a 0)), ((1 : Nat), Value.int x5)] 17 ([] : List Value)
  refine g_iload_n (pc := 17) 1 dX11_clearTold_17 rfl rfl ?_
  refine g_bipush (pc := 18) (v := 16) dX11_clearTold_18 (by decide) ?_
  refine g_icmp_ge (pc := 20) (tgt := 43) dX11_clearTold_20 (by decide) ?_ ?_
  · refine g_aload_n (pc := 43) 0 dX11_clearTold_43 rfl rfl ?_
    refine g_iconst (pc := 44) (v := 0) dX11_clearTold_44 (by decide) ?_
    refine g_put (pc := 45) 0 (ty := .int) cM_0 rfl inlX11 tyX11_ok nmX11 24 (by decide) bw_14_23 rfl (by decide +kernel) rfl rfl (Nat.le_of_ble_eq_true rfl) cM_f0_24 dX11_clearTold_45 (fun s7 => ?_)
    refine g_aload_n (pc := 48) 0 dX11_clearTold_48 rfl rfl ?_
    refine g_iconst (pc := 49) (v := 0) dX11_clearTold_49 (by decide) ?_
    refine g_put (pc := 50) 0 (ty := .int) cM_0 rfl inlX11 tyX11_ok nmX11 26 (by decide) bw_14_15 rfl (by decide +kernel) rfl rfl (Nat.le_of_ble_eq_true rfl) cM_f0_26 dX11_clearTold_50 (fun s8 => ?_)
    exact g_vret (pc := 53) hRT dX11_clearTold_53
  · refine g_aload_n (pc := 23) 0 dX11_clearTold_23 rfl rfl ?_
    refine g_get (pc := 24) 0 cM_0 rfl inlX11 22 (by decide) bw_14_10 rfl dX11_clearTold_24 ?_
    refine g_iload_n (pc := 27) 1 dX11_clearTold_27 rfl rfl ?_
    refine g_iconst (pc := 28) (v := 0) dX11_clearTold_28 (by decide) ?_
    refine g_iast (pc := 29) 10 cM_10 rfl cM_s10 dX11_clearTold_29 (fun s9 => ?_)
    refine g_aload_n (pc := 30) 0 dX11_clearTold_30 rfl rfl ?_
    refine g_get (pc := 31) 0 cM_0 rfl inlX11 23 (by decide) bw_14_11 rfl dX11_clearTold_31 ?_
    refine g_iload_n (pc := 34) 1 dX11_clearTold_34 rfl rfl ?_
    refine g_iconst (pc := 35) (v := 2) dX11_clearTold_35 (by decide) ?_
    refine g_iast (pc := 36) 11 cM_11 rfl cM_s11 dX11_clearTold_36 (fun s10 => ?_)
    refine g_iinc (pc := 37) [1, 0] 1 (n1 := 1) (lv1 := fun x11 => [(0, Value.ref (a 0)), (1, Value.int x11)]) dX11_clearTold_37 rfl (by decide) (by decide) (fun _ => rfl) (fun x11 => ?_)
    show G _ Γ _ _ _ _ _ _ _ [(0, Value.ref (a 0)), (1, Value.int x11)] (37 + 3) _
    refine g_goto (pc := 40) (tgt := 17) dX11_clearTold_40 (by decide) ?_
    exact hk4 s10 _
set_option maxRecDepth 100000 in
set_option maxHeartbeats 4000000 in
theorem k_X11_lastTold__0 {l : Launch} {D : va_G} {a : Nat → Nat} {cI : ClassId} (hI : ∀ σ : St, va_D (AM a) (cM a cI σ)) {σ : St} {r : Int32 × St} (h : f_X11_lastTold__0 σ = some r) : Kc (SM l D a cI) yX11_lastTold cX11_lastTold 1 (some .int) 0 [Value.ref (a 0)] σ r := by
  refine enter (own := RX11) (o := f_X11_lastTold__0 σ) (plainFor_of_name (by decide +kernel)) rfl (Nat.le_of_ble_eq_true rfl) hI wk_X11_lastTold.1 h (fun Γ hRT => ?_)
  show G _ Γ _ _ _ _ _ _ σ [((0 : Nat), Value.ref (a 0))] 0 []
  unfold f_X11_lastTold__0
  refine g_aload_n (pc := 0) 0 dX11_lastTold_0 rfl rfl ?_
  refine g_get (pc := 1) 0 cM_0 rfl inlX11 20 (by decide) bw_14_21 rfl dX11_lastTold_1 ?_
  refine g_aload_n (pc := 4) 0 dX11_lastTold_4 rfl rfl ?_
  refine g_get (pc := 5) 0 cM_0 rfl inlX11 21 (by decide) bw_14_22 rfl dX11_lastTold_5 ?_
  refine g_imul (pc := 8) dX11_lastTold_8 ?_
  refine g_iconst (pc := 9) (v := 1) dX11_lastTold_9 (by decide) ?_
  refine g_isub (pc := 10) dX11_lastTold_10 ?_
  exact g_iret (pc := 11) hRT dX11_lastTold_11
set_option maxRecDepth 100000 in
set_option maxHeartbeats 4000000 in
theorem k_X11_readGridOf__0 {l : Launch} {D : va_G} {a : Nat → Nat} {cI : ClassId} (hI : ∀ σ : St, va_D (AM a) (cM a cI σ)) {σ : St} {r : Int32 × St} (h : f_X11_readGridOf__0 σ = some r) : Kc (SM l D a cI) yX11_readGridOf cX11_readGridOf 1 (some .boolean) 3 [Value.ref (a 0)] σ r := by
  refine enter (own := RX11) (o := f_X11_readGridOf__0 σ) (plainFor_of_name (by decide +kernel)) rfl (Nat.le_of_ble_eq_true rfl) hI wk_X11_readGridOf.1 h (fun Γ hRT => ?_)
  show G _ Γ _ _ _ _ _ _ σ [((0 : Nat), Value.ref (a 0))] 0 []
  unfold f_X11_readGridOf__0
  refine g_aload_n (pc := 0) 0 dX11_readGridOf_0 rfl rfl ?_
  refine g_get (pc := 1) 0 cM_0 rfl inlX11 19 (by decide) bw_14_20 rfl dX11_readGridOf_1 ?_
  refine g_if_ne (pc := 4) (tgt := 35) dX11_readGridOf_4 (by decide) ?_ ?_
  · refine g_iconst (pc := 35) (v := 0) dX11_readGridOf_35 (by decide) ?_
    exact g_zret1 (pc := 36) hRT (by decide) dX11_readGridOf_36
  · refine g_aload_n (pc := 7) 0 dX11_readGridOf_7 rfl rfl ?_
    refine g_iconst (pc := 8) (v := 2) dX11_readGridOf_8 (by decide) ?_
    refine g_cVz (pc := 9) 0 (As := [Value.int (2 : Int32)]) (fun r2 h2 => k_X11_readNumbers__0 hI h2) wk_X11_readNumbers wv_X11_readNumbers bw_17_17 cM_0 rfl (by decide) (by decide) rfl rfl (Nat.le_of_ble_eq_true rfl) dX11_readGridOf_9 (fun r1 s2 => ?_)
    refine g_if_eq (pc := 12) (tgt := 35) dX11_readGridOf_12 (by decide) ?_ ?_
    · refine g_iconst (pc := 35) (v := 0) dX11_readGridOf_35 (by decide) ?_
      exact g_zret1 (pc := 36) hRT (by decide) dX11_readGridOf_36
    · refine g_aload_n (pc := 15) 0 dX11_readGridOf_15 rfl rfl ?_
      refine g_iconst (pc := 16) (v := 0) dX11_readGridOf_16 (by decide) ?_
      refine g_iconst (pc := 17) (v := 1) dX11_readGridOf_17 (by decide) ?_
      refine g_iconst (pc := 18) (v := 4) dX11_readGridOf_18 (by decide) ?_
      refine g_cVz (pc := 19) 0 (As := [Value.int (0 : Int32), Value.int (1 : Int32), Value.int (4 : Int32)]) (fun r2 h2 => k_X11_isTold__0 hI h2) wk_X11_isTold wv_X11_isTold bw_18_0 cM_0 rfl (by decide) (by decide) rfl rfl (Nat.le_of_ble_eq_true rfl) dX11_readGridOf_19 (fun r3 s4 => ?_)
      refine g_if_eq (pc := 22) (tgt := 35) dX11_readGridOf_22 (by decide) ?_ ?_
      · refine g_iconst (pc := 35) (v := 0) dX11_readGridOf_35 (by decide) ?_
        exact g_zret1 (pc := 36) hRT (by decide) dX11_readGridOf_36
      · refine g_aload_n (pc := 25) 0 dX11_readGridOf_25 rfl rfl ?_
        refine g_iconst (pc := 26) (v := 1) dX11_readGridOf_26 (by decide) ?_
        refine g_iconst (pc := 27) (v := 1) dX11_readGridOf_27 (by decide) ?_
        refine g_iconst (pc := 28) (v := 4) dX11_readGridOf_28 (by decide) ?_
        refine g_cVz (pc := 29) 0 (As := [Value.int (1 : Int32), Value.int (1 : Int32), Value.int (4 : Int32)]) (fun r2 h2 => k_X11_isTold__0 hI h2) wk_X11_isTold wv_X11_isTold bw_18_0 cM_0 rfl (by decide) (by decide) rfl rfl (Nat.le_of_ble_eq_true rfl) dX11_readGridOf_29 (fun r5 s6 => ?_)
        refine g_if_ne (pc := 32) (tgt := 37) dX11_readGridOf_32 (by decide) ?_ ?_
        · refine g_aload_n (pc := 37) 0 dX11_readGridOf_37 rfl rfl ?_
          refine g_aload_n (pc := 38) 0 dX11_readGridOf_38 rfl rfl ?_
          refine g_get (pc := 39) 0 cM_0 rfl inlX11 18 (by decide) bw_14_9 rfl dX11_readGridOf_39 ?_
          refine g_iconst (pc := 42) (v := 0) dX11_readGridOf_42 (by decide) ?_
          refine g_iald (pc := 43) 9 cM_9 rfl dX11_readGridOf_43 ?_
          refine g_put (pc := 44) 0 (ty := .int) cM_0 rfl inlX11 tyX11_ok nmX11 20 (by decide) bw_14_21 rfl (by decide +kernel) rfl rfl (Nat.le_of_ble_eq_true rfl) cM_f0_20 dX11_readGridOf_44 (fun s7 => ?_)
          refine g_aload_n (pc := 47) 0 dX11_readGridOf_47 rfl rfl ?_
          refine g_aload_n (pc := 48) 0 dX11_readGridOf_48 rfl rfl ?_
          refine g_get (pc := 49) 0 cM_0 rfl inlX11 18 (by decide) bw_14_9 rfl dX11_readGridOf_49 ?_
          refine g_iconst (pc := 52) (v := 1) dX11_readGridOf_52 (by decide) ?_
          refine g_iald (pc := 53) 9 cM_9 rfl dX11_readGridOf_53 ?_
          refine g_put (pc := 54) 0 (ty := .int) cM_0 rfl inlX11 tyX11_ok nmX11 21 (by decide) bw_14_22 rfl (by decide +kernel) rfl rfl (Nat.le_of_ble_eq_true rfl) cM_f0_21 dX11_readGridOf_54 (fun s8 => ?_)
          refine g_iconst (pc := 57) (v := 1) dX11_readGridOf_57 (by decide) ?_
          exact g_zret1 (pc := 58) hRT (by decide) dX11_readGridOf_58
        · refine g_iconst (pc := 35) (v := 0) dX11_readGridOf_35 (by decide) ?_
          exact g_zret1 (pc := 36) hRT (by decide) dX11_readGridOf_36
set_option maxRecDepth 100000 in
set_option maxHeartbeats 4000000 in
theorem k_X11_readHouseOf__0 {l : Launch} {D : va_G} {a : Nat → Nat} {cI : ClassId} (hI : ∀ σ : St, va_D (AM a) (cM a cI σ)) {σ : St} {r : Int32 × St} (h : f_X11_readHouseOf__0 σ = some r) : Kc (SM l D a cI) yX11_readHouseOf cX11_readHouseOf 1 (some .boolean) 3 [Value.ref (a 0)] σ r := by
  refine enter (own := RX11) (o := f_X11_readHouseOf__0 σ) (plainFor_of_name (by decide +kernel)) rfl (Nat.le_of_ble_eq_true rfl) hI wk_X11_readHouseOf.1 h (fun Γ hRT => ?_)
  show G _ Γ _ _ _ _ _ _ σ [((0 : Nat), Value.ref (a 0))] 0 []
  unfold f_X11_readHouseOf__0
  refine g_aload_n (pc := 0) 0 dX11_readHouseOf_0 rfl rfl ?_
  refine g_iconst (pc := 1) (v := 3) dX11_readHouseOf_1 (by decide) ?_
  refine g_cVz (pc := 2) 0 (As := [Value.int (3 : Int32)]) (fun r2 h2 => k_X11_readNumbers__0 hI h2) wk_X11_readNumbers wv_X11_readNumbers bw_17_17 cM_0 rfl (by decide) (by decide) rfl rfl (Nat.le_of_ble_eq_true rfl) dX11_readHouseOf_2 (fun r1 s2 => ?_)
  refine g_if_eq (pc := 5) (tgt := 42) dX11_readHouseOf_5 (by decide) ?_ ?_
  · refine g_iconst (pc := 42) (v := 0) dX11_readHouseOf_42 (by decide) ?_
    exact g_zret1 (pc := 43) hRT (by decide) dX11_readHouseOf_43
  · refine g_aload_n (pc := 8) 0 dX11_readHouseOf_8 rfl rfl ?_
    refine g_iconst (pc := 9) (v := 0) dX11_readHouseOf_9 (by decide) ?_
    refine g_iconst (pc := 10) (v := 0) dX11_readHouseOf_10 (by decide) ?_
    refine g_aload_n (pc := 11) 0 dX11_readHouseOf_11 rfl rfl ?_
    refine g_cVi (pc := 12) 0 (As := []) (fun r2 h2 => k_X11_lastTold__0 hI h2) wk_X11_lastTold wv_X11_lastTold bw_18_8 cM_0 rfl (by decide) (by decide) rfl rfl (Nat.le_of_ble_eq_true rfl) dX11_readHouseOf_12 (fun r3 s4 => ?_)
    refine g_cVz (pc := 15) 0 (As := [Value.int (0 : Int32), Value.int (0 : Int32), Value.int r3]) (fun r2 h2 => k_X11_isTold__0 hI h2) wk_X11_isTold wv_X11_isTold bw_18_0 cM_0 rfl (by decide) (by decide) rfl rfl (Nat.le_of_ble_eq_true rfl) dX11_readHouseOf_15 (fun r5 s6 => ?_)
    refine g_if_eq (pc := 18) (tgt := 42) dX11_readHouseOf_18 (by decide) ?_ ?_
    · refine g_iconst (pc := 42) (v := 0) dX11_readHouseOf_42 (by decide) ?_
      exact g_zret1 (pc := 43) hRT (by decide) dX11_readHouseOf_43
    · refine g_aload_n (pc := 21) 0 dX11_readHouseOf_21 rfl rfl ?_
      refine g_iconst (pc := 22) (v := 1) dX11_readHouseOf_22 (by decide) ?_
      refine g_iconst (pc := 23) (v := 0) dX11_readHouseOf_23 (by decide) ?_
      refine g_iconst (pc := 24) (v := 4) dX11_readHouseOf_24 (by decide) ?_
      refine g_cVz (pc := 25) 0 (As := [Value.int (1 : Int32), Value.int (0 : Int32), Value.int (4 : Int32)]) (fun r2 h2 => k_X11_isTold__0 hI h2) wk_X11_isTold wv_X11_isTold bw_18_0 cM_0 rfl (by decide) (by decide) rfl rfl (Nat.le_of_ble_eq_true rfl) dX11_readHouseOf_25 (fun r7 s8 => ?_)
      refine g_if_eq (pc := 28) (tgt := 42) dX11_readHouseOf_28 (by decide) ?_ ?_
      · refine g_iconst (pc := 42) (v := 0) dX11_readHouseOf_42 (by decide) ?_
        exact g_zret1 (pc := 43) hRT (by decide) dX11_readHouseOf_43
      · refine g_aload_n (pc := 31) 0 dX11_readHouseOf_31 rfl rfl ?_
        refine g_iconst (pc := 32) (v := 2) dX11_readHouseOf_32 (by decide) ?_
        refine g_iconst (pc := 33) (v := 0) dX11_readHouseOf_33 (by decide) ?_
        refine g_bipush (pc := 34) (v := 6) dX11_readHouseOf_34 (by decide) ?_
        refine g_cVz (pc := 36) 0 (As := [Value.int (2 : Int32), Value.int (0 : Int32), Value.int (6 : Int32)]) (fun r2 h2 => k_X11_isTold__0 hI h2) wk_X11_isTold wv_X11_isTold bw_18_0 cM_0 rfl (by decide) (by decide) rfl rfl (Nat.le_of_ble_eq_true rfl) dX11_readHouseOf_36 (fun r9 s10 => ?_)
        refine g_if_ne (pc := 39) (tgt := 44) dX11_readHouseOf_39 (by decide) ?_ ?_
        · refine g_aload_n (pc := 44) 0 dX11_readHouseOf_44 rfl rfl ?_
          refine g_aload_n (pc := 45) 0 dX11_readHouseOf_45 rfl rfl ?_
          refine g_get (pc := 46) 0 cM_0 rfl inlX11 18 (by decide) bw_14_9 rfl dX11_readHouseOf_46 ?_
          refine g_iconst (pc := 49) (v := 0) dX11_readHouseOf_49 (by decide) ?_
          refine g_iald (pc := 50) 9 cM_9 rfl dX11_readHouseOf_50 ?_
          refine g_aload_n (pc := 51) 0 dX11_readHouseOf_51 rfl rfl ?_
          refine g_get (pc := 52) 0 cM_0 rfl inlX11 18 (by decide) bw_14_9 rfl dX11_readHouseOf_52 ?_
          refine g_iconst (pc := 55) (v := 1) dX11_readHouseOf_55 (by decide) ?_
          refine g_iald (pc := 56) 9 cM_9 rfl dX11_readHouseOf_56 ?_
          refine g_aload_n (pc := 57) 0 dX11_readHouseOf_57 rfl rfl ?_
          refine g_get (pc := 58) 0 cM_0 rfl inlX11 18 (by decide) bw_14_9 rfl dX11_readHouseOf_58 ?_
          refine g_iconst (pc := 61) (v := 2) dX11_readHouseOf_61 (by decide) ?_
          refine g_iald (pc := 62) 9 cM_9 rfl dX11_readHouseOf_62 ?_
          refine g_cVv (pc := 63) 0 (As := [Value.int (s10 9 (Int32.toNatClampNeg (0 : Int32))), Value.int (s10 9 (Int32.toNatClampNeg (1 : Int32))), Value.int (s10 9 (Int32.toNatClampNeg (2 : Int32)))]) (fun r2 h2 => k_X11_tellsHouse__0 hI h2) wk_X11_tellsHouse wv_X11_tellsHouse bw_15_0 cM_0 rfl (by decide) (by decide) rfl rfl (Nat.le_of_ble_eq_true rfl) dX11_readHouseOf_63 (fun r11 s12 => ?_)
          refine g_iconst (pc := 66) (v := 1) dX11_readHouseOf_66 (by decide) ?_
          exact g_zret1 (pc := 67) hRT (by decide) dX11_readHouseOf_67
        · refine g_iconst (pc := 42) (v := 0) dX11_readHouseOf_42 (by decide) ?_
          exact g_zret1 (pc := 43) hRT (by decide) dX11_readHouseOf_43
set_option maxRecDepth 100000 in
set_option maxHeartbeats 4000000 in
theorem k_X11_readNewsOf__0 {l : Launch} {D : va_G} {a : Nat → Nat} {cI : ClassId} (hI : ∀ σ : St, va_D (AM a) (cM a cI σ)) {σ : St} {r : Int32 × St} (h : f_X11_readNewsOf__0 σ = some r) : Kc (SM l D a cI) yX11_readNewsOf cX11_readNewsOf 1 (some .boolean) 3 [Value.ref (a 0)] σ r := by
  refine enter (own := RX11) (o := f_X11_readNewsOf__0 σ) (plainFor_of_name (by decide +kernel)) rfl (Nat.le_of_ble_eq_true rfl) hI wk_X11_readNewsOf.1 h (fun Γ hRT => ?_)
  show G _ Γ _ _ _ _ _ _ σ [((0 : Nat), Value.ref (a 0))] 0 []
  unfold f_X11_readNewsOf__0
  refine g_aload_n (pc := 0) 0 dX11_readNewsOf_0 rfl rfl ?_
  refine g_get (pc := 1) 0 cM_0 rfl inlX11 24 (by decide) bw_14_23 rfl dX11_readNewsOf_1 ?_
  refine g_iconst (pc := 4) (v := 5) dX11_readNewsOf_4 (by decide) ?_
  refine g_icmp_eq (pc := 5) (tgt := 49) dX11_readNewsOf_5 (by decide) ?_ ?_
  · refine g_iconst (pc := 49) (v := 0) dX11_readNewsOf_49 (by decide) ?_
    exact g_zret1 (pc := 50) hRT (by decide) dX11_readNewsOf_50
  · refine g_aload_n (pc := 8) 0 dX11_readNewsOf_8 rfl rfl ?_
    refine g_iconst (pc := 9) (v := 3) dX11_readNewsOf_9 (by decide) ?_
    refine g_cVz (pc := 10) 0 (As := [Value.int (3 : Int32)]) (fun r2 h2 => k_X11_readNumbers__0 hI h2) wk_X11_readNumbers wv_X11_readNumbers bw_17_17 cM_0 rfl (by decide) (by decide) rfl rfl (Nat.le_of_ble_eq_true rfl) dX11_readNewsOf_10 (fun r1 s2 => ?_)
    refine g_if_eq (pc := 13) (tgt := 49) dX11_readNewsOf_13 (by decide) ?_ ?_
    · refine g_iconst (pc := 49) (v := 0) dX11_readNewsOf_49 (by decide) ?_
      exact g_zret1 (pc := 50) hRT (by decide) dX11_readNewsOf_50
    · refine g_aload_n (pc := 16) 0 dX11_readNewsOf_16 rfl rfl ?_
      refine g_iconst (pc := 17) (v := 0) dX11_readNewsOf_17 (by decide) ?_
      refine g_iconst (pc := 18) (v := 0) dX11_readNewsOf_18 (by decide) ?_
      refine g_iconst (pc := 19) (v := 2) dX11_readNewsOf_19 (by decide) ?_
      refine g_cVz (pc := 20) 0 (As := [Value.int (0 : Int32), Value.int (0 : Int32), Value.int (2 : Int32)]) (fun r2 h2 => k_X11_isTold__0 hI h2) wk_X11_isTold wv_X11_isTold bw_18_0 cM_0 rfl (by decide) (by decide) rfl rfl (Nat.le_of_ble_eq_true rfl) dX11_readNewsOf_20 (fun r3 s4 => ?_)
      refine g_if_eq (pc := 23) (tgt := 49) dX11_readNewsOf_23 (by decide) ?_ ?_
      · refine g_iconst (pc := 49) (v := 0) dX11_readNewsOf_49 (by decide) ?_
        exact g_zret1 (pc := 50) hRT (by decide) dX11_readNewsOf_50
      · refine g_aload_n (pc := 26) 0 dX11_readNewsOf_26 rfl rfl ?_
        refine g_iconst (pc := 27) (v := 1) dX11_readNewsOf_27 (by decide) ?_
        refine g_iconst (pc := 28) (v := 1) dX11_readNewsOf_28 (by decide) ?_
        refine g_iconst (pc := 29) (v := 4) dX11_readNewsOf_29 (by decide) ?_
        refine g_cVz (pc := 30) 0 (As := [Value.int (1 : Int32), Value.int (1 : Int32), Value.int (4 : Int32)]) (fun r2 h2 => k_X11_isTold__0 hI h2) wk_X11_isTold wv_X11_isTold bw_18_0 cM_0 rfl (by decide) (by decide) rfl rfl (Nat.le_of_ble_eq_true rfl) dX11_readNewsOf_30 (fun r5 s6 => ?_)
        refine g_if_eq (pc := 33) (tgt := 49) dX11_readNewsOf_33 (by decide) ?_ ?_
        · refine g_iconst (pc := 49) (v := 0) dX11_readNewsOf_49 (by decide) ?_
          exact g_zret1 (pc := 50) hRT (by decide) dX11_readNewsOf_50
        · refine g_aload_n (pc := 36) 0 dX11_readNewsOf_36 rfl rfl ?_
          refine g_iconst (pc := 37) (v := 2) dX11_readNewsOf_37 (by decide) ?_
          refine g_iconst (pc := 38) (v := 0) dX11_readNewsOf_38 (by decide) ?_
          refine g_aload_n (pc := 39) 0 dX11_readNewsOf_39 rfl rfl ?_
          refine g_cVi (pc := 40) 0 (As := []) (fun r2 h2 => k_X11_lastTold__0 hI h2) wk_X11_lastTold wv_X11_lastTold bw_18_8 cM_0 rfl (by decide) (by decide) rfl rfl (Nat.le_of_ble_eq_true rfl) dX11_readNewsOf_40 (fun r7 s8 => ?_)
          refine g_cVz (pc := 43) 0 (As := [Value.int (2 : Int32), Value.int (0 : Int32), Value.int r7]) (fun r2 h2 => k_X11_isTold__0 hI h2) wk_X11_isTold wv_X11_isTold bw_18_0 cM_0 rfl (by decide) (by decide) rfl rfl (Nat.le_of_ble_eq_true rfl) dX11_readNewsOf_43 (fun r9 s10 => ?_)
          refine g_if_ne (pc := 46) (tgt := 51) dX11_readNewsOf_46 (by decide) ?_ ?_
          · refine g_aload_n (pc := 51) 0 dX11_readNewsOf_51 rfl rfl ?_
            refine g_aload_n (pc := 52) 0 dX11_readNewsOf_52 rfl rfl ?_
            refine g_get (pc := 53) 0 cM_0 rfl inlX11 18 (by decide) bw_14_9 rfl dX11_readNewsOf_53 ?_
            refine g_iconst (pc := 56) (v := 0) dX11_readNewsOf_56 (by decide) ?_
            refine g_iald (pc := 57) 9 cM_9 rfl dX11_readNewsOf_57 ?_
            refine g_aload_n (pc := 58) 0 dX11_readNewsOf_58 rfl rfl ?_
            refine g_get (pc := 59) 0 cM_0 rfl inlX11 18 (by decide) bw_14_9 rfl dX11_readNewsOf_59 ?_
            refine g_iconst (pc := 62) (v := 1) dX11_readNewsOf_62 (by decide) ?_
            refine g_iald (pc := 63) 9 cM_9 rfl dX11_readNewsOf_63 ?_
            refine g_aload_n (pc := 64) 0 dX11_readNewsOf_64 rfl rfl ?_
            refine g_get (pc := 65) 0 cM_0 rfl inlX11 18 (by decide) bw_14_9 rfl dX11_readNewsOf_65 ?_
            refine g_iconst (pc := 68) (v := 2) dX11_readNewsOf_68 (by decide) ?_
            refine g_iald (pc := 69) 9 cM_9 rfl dX11_readNewsOf_69 ?_
            refine g_cVv (pc := 70) 0 (As := [Value.int (s10 9 (Int32.toNatClampNeg (0 : Int32))), Value.int (s10 9 (Int32.toNatClampNeg (1 : Int32))), Value.int (s10 9 (Int32.toNatClampNeg (2 : Int32)))]) (fun r2 h2 => k_X11_tellsNews__0 hI h2) wk_X11_tellsNews wv_X11_tellsNews bw_15_4 cM_0 rfl (by decide) (by decide) rfl rfl (Nat.le_of_ble_eq_true rfl) dX11_readNewsOf_70 (fun r11 s12 => ?_)
            refine g_iconst (pc := 73) (v := 1) dX11_readNewsOf_73 (by decide) ?_
            exact g_zret1 (pc := 74) hRT (by decide) dX11_readNewsOf_74
          · refine g_iconst (pc := 49) (v := 0) dX11_readNewsOf_49 (by decide) ?_
            exact g_zret1 (pc := 50) hRT (by decide) dX11_readNewsOf_50
set_option maxRecDepth 100000 in
set_option maxHeartbeats 4000000 in
theorem k_X11_readWindOf__0 {l : Launch} {D : va_G} {a : Nat → Nat} {cI : ClassId} (hI : ∀ σ : St, va_D (AM a) (cM a cI σ)) {σ : St} {r : Int32 × St} (h : f_X11_readWindOf__0 σ = some r) : Kc (SM l D a cI) yX11_readWindOf cX11_readWindOf 1 (some .boolean) 3 [Value.ref (a 0)] σ r := by
  refine enter (own := RX11) (o := f_X11_readWindOf__0 σ) (plainFor_of_name (by decide +kernel)) rfl (Nat.le_of_ble_eq_true rfl) hI wk_X11_readWindOf.1 h (fun Γ hRT => ?_)
  show G _ Γ _ _ _ _ _ _ σ [((0 : Nat), Value.ref (a 0))] 0 []
  unfold f_X11_readWindOf__0
  refine g_aload_n (pc := 0) 0 dX11_readWindOf_0 rfl rfl ?_
  refine g_get (pc := 1) 0 cM_0 rfl inlX11 26 (by decide) bw_14_15 rfl dX11_readWindOf_1 ?_
  refine g_bipush (pc := 4) (v := 8) dX11_readWindOf_4 (by decide) ?_
  refine g_icmp_eq (pc := 6) (tgt := 27) dX11_readWindOf_6 (by decide) ?_ ?_
  · refine g_iconst (pc := 27) (v := 0) dX11_readWindOf_27 (by decide) ?_
    exact g_zret1 (pc := 28) hRT (by decide) dX11_readWindOf_28
  · refine g_aload_n (pc := 9) 0 dX11_readWindOf_9 rfl rfl ?_
    refine g_iconst (pc := 10) (v := 1) dX11_readWindOf_10 (by decide) ?_
    refine g_cVz (pc := 11) 0 (As := [Value.int (1 : Int32)]) (fun r2 h2 => k_X11_readNumbers__0 hI h2) wk_X11_readNumbers wv_X11_readNumbers bw_17_17 cM_0 rfl (by decide) (by decide) rfl rfl (Nat.le_of_ble_eq_true rfl) dX11_readWindOf_11 (fun r1 s2 => ?_)
    refine g_if_eq (pc := 14) (tgt := 27) dX11_readWindOf_14 (by decide) ?_ ?_
    · refine g_iconst (pc := 27) (v := 0) dX11_readWindOf_27 (by decide) ?_
      exact g_zret1 (pc := 28) hRT (by decide) dX11_readWindOf_28
    · refine g_aload_n (pc := 17) 0 dX11_readWindOf_17 rfl rfl ?_
      refine g_iconst (pc := 18) (v := 0) dX11_readWindOf_18 (by decide) ?_
      refine g_iconst (pc := 19) (v := 0) dX11_readWindOf_19 (by decide) ?_
      refine g_iconst (pc := 20) (v := 4) dX11_readWindOf_20 (by decide) ?_
      refine g_cVz (pc := 21) 0 (As := [Value.int (0 : Int32), Value.int (0 : Int32), Value.int (4 : Int32)]) (fun r2 h2 => k_X11_isTold__0 hI h2) wk_X11_isTold wv_X11_isTold bw_18_0 cM_0 rfl (by decide) (by decide) rfl rfl (Nat.le_of_ble_eq_true rfl) dX11_readWindOf_21 (fun r3 s4 => ?_)
      refine g_if_ne (pc := 24) (tgt := 29) dX11_readWindOf_24 (by decide) ?_ ?_
      · refine g_aload_n (pc := 29) 0 dX11_readWindOf_29 rfl rfl ?_
        refine g_get (pc := 30) 0 cM_0 rfl inlX11 27 (by decide) bw_14_13 rfl dX11_readWindOf_30 ?_
        refine g_aload_n (pc := 33) 0 dX11_readWindOf_33 rfl rfl ?_
        refine g_get (pc := 34) 0 cM_0 rfl inlX11 26 (by decide) bw_14_15 rfl dX11_readWindOf_34 ?_
        refine g_aload_n (pc := 37) 0 dX11_readWindOf_37 rfl rfl ?_
        refine g_get (pc := 38) 0 cM_0 rfl inlX11 18 (by decide) bw_14_9 rfl dX11_readWindOf_38 ?_
        refine g_iconst (pc := 41) (v := 0) dX11_readWindOf_41 (by decide) ?_
        refine g_iald (pc := 42) 9 cM_9 rfl dX11_readWindOf_42 ?_
        refine g_iast (pc := 43) 13 cM_13 rfl cM_s13 dX11_readWindOf_43 (fun s5 => ?_)
        refine g_aload_n (pc := 44) 0 dX11_readWindOf_44 rfl rfl ?_
        refine g_dup (pc := 45) dX11_readWindOf_45 rfl ?_
        refine g_get (pc := 46) 0 cM_0 rfl inlX11 26 (by decide) bw_14_15 rfl dX11_readWindOf_46 ?_
        refine g_iconst (pc := 49) (v := 1) dX11_readWindOf_49 (by decide) ?_
        refine g_iadd (pc := 50) dX11_readWindOf_50 ?_
        refine g_put (pc := 51) 0 (ty := .int) cM_0 rfl inlX11 tyX11_ok nmX11 26 (by decide) bw_14_15 rfl (by decide +kernel) rfl rfl (Nat.le_of_ble_eq_true rfl) cM_f0_26 dX11_readWindOf_51 (fun s6 => ?_)
        refine g_iconst (pc := 54) (v := 1) dX11_readWindOf_54 (by decide) ?_
        exact g_zret1 (pc := 55) hRT (by decide) dX11_readWindOf_55
      · refine g_iconst (pc := 27) (v := 0) dX11_readWindOf_27 (by decide) ?_
        exact g_zret1 (pc := 28) hRT (by decide) dX11_readWindOf_28
set_option maxRecDepth 100000 in
set_option maxHeartbeats 4000000 in
theorem k_X11_readItem__0 {l : Launch} {D : va_G} {a : Nat → Nat} {cI : ClassId} (hI : ∀ σ : St, va_D (AM a) (cM a cI σ)) {σ : St} {r : Int32 × St} (h : f_X11_readItem__0 σ = some r) : Kc (SM l D a cI) yX11_readItem cX11_readItem 2 (some .boolean) 4 [Value.ref (a 0)] σ r := by
  refine enter (own := RX11) (o := f_X11_readItem__0 σ) (plainFor_of_name (by decide +kernel)) rfl (Nat.le_of_ble_eq_true rfl) hI wk_X11_readItem.1 h (fun Γ hRT => ?_)
  show G _ Γ _ _ _ _ _ _ σ [((0 : Nat), Value.ref (a 0))] 0 []
  unfold f_X11_readItem__0
  refine g_aload_n (pc := 0) 0 dX11_readItem_0 rfl rfl ?_
  refine g_aload_n (pc := 1) 0 dX11_readItem_1 rfl rfl ?_
  refine g_get (pc := 2) 0 cM_0 rfl inlX11 17 (by decide) bw_17_4 rfl dX11_readItem_2 ?_
  refine g_cVi (pc := 5) 0 (As := [Value.int (σ 0 17)]) (fun r2 h2 => k_X11_letterAt__0 hI h2) wk_X11_letterAt wv_X11_letterAt bw_17_9 cM_0 rfl (by decide) (by decide) rfl rfl (Nat.le_of_ble_eq_true rfl) dX11_readItem_5 (fun r1 s2 => ?_)
  refine g_istore_n (pc := 8) [1, 0] (lv1 := [(0, Value.ref (a 0)), (1, Value.int r1)]) dX11_readItem_8 rfl (by decide) rfl ?_
  refine g_aload_n (pc := 9) 0 dX11_readItem_9 rfl rfl ?_
  refine g_dup (pc := 10) dX11_readItem_10 rfl ?_
  refine g_get (pc := 11) 0 cM_0 rfl inlX11 17 (by decide) bw_17_4 rfl dX11_readItem_11 ?_
  refine g_iconst (pc := 14) (v := 1) dX11_readItem_14 (by decide) ?_
  refine g_iadd (pc := 15) dX11_readItem_15 ?_
  refine g_put (pc := 16) 0 (ty := .int) cM_0 rfl inlX11 tyX11_ok nmX11 17 (by decide) bw_17_4 rfl (by decide +kernel) rfl rfl (Nat.le_of_ble_eq_true rfl) cM_f0_17 dX11_readItem_16 (fun s3 => ?_)
  refine g_iload_n (pc := 19) 1 dX11_readItem_19 rfl rfl ?_
  refine g_bipush (pc := 20) (v := 103) dX11_readItem_20 (by decide) ?_
  refine g_icmp_ne (pc := 22) (tgt := 30) dX11_readItem_22 (by decide) ?_ ?_
  · refine g_aload_n (pc := 30) 0 dX11_readItem_30 rfl rfl ?_
    refine g_iconst (pc := 31) (v := 1) dX11_readItem_31 (by decide) ?_
    refine g_put (pc := 32) 0 (ty := .boolean) cM_0 rfl inlX11 tyX11_ok nmX11 19 (by decide) bw_14_20 rfl (by decide +kernel) (by decide) (by decide) (Nat.le_of_ble_eq_true rfl) cM_f0_19 dX11_readItem_32 (fun s4 => ?_)
    refine g_iload_n (pc := 35) 1 dX11_readItem_35 rfl rfl ?_
    refine g_ite (fun e104_ => ?_) (fun e104_ => ?_)
    · refine g_lookup (pc := 36) (off := 36) (tgt := 72) dX11_readItem_36 (by decide) (by rw [e104_]; decide) (by decide) ?_
      refine g_aload_n (pc := 72) 0 dX11_readItem_72 rfl rfl ?_
      refine g_cVz (pc := 73) 0 (As := []) (fun r2 h2 => k_X11_readHouseOf__0 hI h2) wk_X11_readHouseOf wv_X11_readHouseOf bw_18_4 cM_0 rfl (by decide) (by decide) rfl rfl (Nat.le_of_ble_eq_true rfl) dX11_readItem_73 (fun r5 s6 => ?_)
      exact g_zret (pc := 76) hRT dX11_readItem_76
    · skip
      refine g_ite (fun e110_ => ?_) (fun e110_ => ?_)
      · refine g_lookup (pc := 36) (off := 41) (tgt := 77) dX11_readItem_36 (by decide) (by rw [e110_]; decide) (by decide) ?_
        refine g_aload_n (pc := 77) 0 dX11_readItem_77 rfl rfl ?_
        refine g_cVz (pc := 78) 0 (As := []) (fun r2 h2 => k_X11_readNewsOf__0 hI h2) wk_X11_readNewsOf wv_X11_readNewsOf bw_18_12 cM_0 rfl (by decide) (by decide) rfl rfl (Nat.le_of_ble_eq_true rfl) dX11_readItem_78 (fun r7 s8 => ?_)
        exact g_zret (pc := 81) hRT dX11_readItem_81
      · skip
        refine g_ite (fun e119_ => ?_) (fun e119_ => ?_)
        · refine g_lookup (pc := 36) (off := 46) (tgt := 82) dX11_readItem_36 (by decide) (by rw [e119_]; decide) (by decide) ?_
          refine g_aload_n (pc := 82) 0 dX11_readItem_82 rfl rfl ?_
          refine g_cVz (pc := 83) 0 (As := []) (fun r2 h2 => k_X11_readWindOf__0 hI h2) wk_X11_readWindOf wv_X11_readWindOf bw_18_16 cM_0 rfl (by decide) (by decide) rfl rfl (Nat.le_of_ble_eq_true rfl) dX11_readItem_83 (fun r9 s10 => ?_)
          exact g_zret (pc := 86) hRT dX11_readItem_86
        · skip
          have n104_ : r1.toInt ≠ 104 := fun q => e104_ (Int32.toInt_inj.mp (q.trans (by decide)))
          have n110_ : r1.toInt ≠ 110 := fun q => e110_ (Int32.toInt_inj.mp (q.trans (by decide)))
          have n119_ : r1.toInt ≠ 119 := fun q => e119_ (Int32.toInt_inj.mp (q.trans (by decide)))
          refine g_lookup (pc := 36) (off := 51) (tgt := 87) dX11_readItem_36 (by decide) (by simp [Op.lookupswitch.offset, List.find?, n104_, Ne.symm n104_, n110_, Ne.symm n110_, n119_, Ne.symm n119_]) (by decide) ?_
          refine g_iconst (pc := 87) (v := 0) dX11_readItem_87 (by decide) ?_
          exact g_zret1 (pc := 88) hRT (by decide) dX11_readItem_88
  · refine g_aload_n (pc := 25) 0 dX11_readItem_25 rfl rfl ?_
    refine g_cVz (pc := 26) 0 (As := []) (fun r2 h2 => k_X11_readGridOf__0 hI h2) wk_X11_readGridOf wv_X11_readGridOf bw_17_13 cM_0 rfl (by decide) (by decide) rfl rfl (Nat.le_of_ble_eq_true rfl) dX11_readItem_26 (fun r11 s12 => ?_)
    exact g_zret (pc := 29) hRT dX11_readItem_29
set_option maxRecDepth 100000 in
set_option maxHeartbeats 4000000 in
theorem k_X11_fault__0 {l : Launch} {D : va_G} {a : Nat → Nat} {cI : ClassId} (hI : ∀ σ : St, va_D (AM a) (cM a cI σ)) {σ : St} {r : Int32 × St} (h : f_X11_fault__0 σ = some r) : Kc (SM l D a cI) yX11_fault cX11_fault 2 (some .int) 5 [Value.ref (a 0)] σ r := by
  refine enter (own := RX11) (o := f_X11_fault__0 σ) (plainFor_of_name (by decide +kernel)) rfl (Nat.le_of_ble_eq_true rfl) hI wk_X11_fault.1 h (fun Γ hRT => ?_)
  show G _ Γ _ _ _ _ _ _ σ [((0 : Nat), Value.ref (a 0))] 0 []
  unfold f_X11_fault__0
  refine g_aload_n (pc := 0) 0 dX11_fault_0 rfl rfl ?_
  refine g_iconst (pc := 1) (v := 0) dX11_fault_1 (by decide) ?_
  refine g_put (pc := 2) 0 (ty := .int) cM_0 rfl inlX11 tyX11_ok nmX11 17 (by decide) bw_17_4 rfl (by decide +kernel) rfl rfl (Nat.le_of_ble_eq_true rfl) cM_f0_17 dX11_fault_2 (fun s1 => ?_)
  refine g_aload_n (pc := 5) 0 dX11_fault_5 rfl rfl ?_
  refine g_cVv (pc := 6) 0 (As := []) (fun r2 h2 => k_X11_clearTold__0 hI h2) wk_X11_clearTold wv_X11_clearTold bw_14_16 cM_0 rfl (by decide) (by decide) rfl rfl (Nat.le_of_ble_eq_true rfl) dX11_fault_6 (fun r2 s3 => ?_)
  refine g_lq0 (pc := 9) (lf := [((0 : Nat), Value.ref (a 0))]) (sf := ([] : List Value)) (fun k4 hk4 s5 => ?_) 100000 s3
  show G _ Γ _ _ _ _ _ _ s5 [((0 : Nat), Value.ref (a 0))] 9 ([] : List Value)
  refine g_aload_n (pc := 9) 0 dX11_fault_9 rfl rfl ?_
  refine g_get (pc := 10) 0 cM_0 rfl inlX11 17 (by decide) bw_17_4 rfl dX11_fault_10 ?_
  refine g_aload_n (pc := 13) 0 dX11_fault_13 rfl rfl ?_
  refine g_get (pc := 14) 0 cM_0 rfl inlX11 16 (by decide) bw_16_8 rfl dX11_fault_14 ?_
  refine g_icmp_ge (pc := 17) (tgt := 37) dX11_fault_17 (by decide) ?_ ?_
  · refine g_bipush (pc := 37) (v := -4) dX11_fault_37 (by decide) ?_
    exact g_iret (pc := 39) hRT dX11_fault_39
  · refine g_aload_n (pc := 20) 0 dX11_fault_20 rfl rfl ?_
    refine g_get (pc := 21) 0 cM_0 rfl inlX11 17 (by decide) bw_17_4 rfl dX11_fault_21 ?_
    refine g_nm (fun x6 => ?_)
    refine g_istore_n (pc := 24) [1, 0] (lv1 := [(0, Value.ref (a 0)), (1, Value.int x6)]) dX11_fault_24 rfl (by decide) rfl ?_
    refine g_aload_n (pc := 25) 0 dX11_fault_25 rfl rfl ?_
    refine g_cVz (pc := 26) 0 (As := []) (fun r2 h2 => k_X11_readItem__0 hI h2) wk_X11_readItem wv_X11_readItem bw_17_5 cM_0 rfl (by decide) (by decide) rfl rfl (Nat.le_of_ble_eq_true rfl) dX11_fault_26 (fun r7 s8 => ?_)
    refine g_if_ne (pc := 29) (tgt := 34) dX11_fault_29 (by decide) ?_ ?_
    · refine g_goto (pc := 34) (tgt := 9) dX11_fault_34 (by decide) ?_
      exact g_lv [0] rfl (hk4 s8)
    · refine g_iload_n (pc := 32) 1 dX11_fault_32 rfl rfl ?_
      exact g_iret (pc := 33) hRT dX11_fault_33
set_option maxRecDepth 100000 in
set_option maxHeartbeats 4000000 in
theorem k_X11_copies__3_13 {l : Launch} {D : va_G} {a : Nat → Nat} {cI : ClassId} (hI : ∀ σ : St, va_D (AM a) (cM a cI σ)) {σ : St} {x1 x2 x3 : Int32} {r : Int32 × St} (h : f_X11_copies__3_13 σ x1 x2 x3 = some r) : Kc (SM l D a cI) yX11_copies cX11_copies 6 none 0 [Value.ref (a 3), Value.int x1, Value.ref (a 13), Value.int x2, Value.int x3] σ r := by
  refine enter (own := RX11) (o := f_X11_copies__3_13 σ x1 x2 x3) (plainFor_of_name (by decide +kernel)) rfl (Nat.le_of_ble_eq_true rfl) hI wk_X11_copies.1 h (fun Γ hRT => ?_)
  show G _ Γ _ _ _ _ _ _ σ [((0 : Nat), Value.ref (a 3)), ((1 : Nat), Value.int x1), ((2 : Nat), Value.ref (a 13)), ((3 : Nat), Value.int x2), ((4 : Nat), Value.int x3)] 0 []
  unfold f_X11_copies__3_13
  refine g_iconst (pc := 0) (v := 0) dX11_copies_0 (by decide) ?_
  refine g_istore (pc := 1) [1, 2, 3, 4, 5, 0] (lv1 := [(0, Value.ref (a 3)), (1, Value.int x1), (2, Value.ref (a 13)), (3, Value.int x2), (4, Value.int x3), (5, Value.int (0 : Int32))]) dX11_copies_1 (by decide) rfl ?_
  refine g_lq1 (pc := 3) (lf := fun x5 => [((0 : Nat), Value.ref (a 3)), ((1 : Nat), Value.int x1), ((2 : Nat), Value.ref (a 13)), ((3 : Nat), Value.int x2), ((4 : Nat), Value.int x3), ((5 : Nat), Value.int x5)]) (sf := fun x5 => ([] : List Value)) (fun k4 hk4 s6 x5 => ?_) 100000 σ _
  show G _ Γ _ _ _ _ _ _ s6 [((0 : Nat), Value.ref (a 3)), ((1 : Nat), Value.int x1), ((2 : Nat), Value.ref (a 13)), ((3 : Nat), Value.int x2), ((4 : Nat), Value.int x3), ((5 : Nat), Value.int x5)] 3 ([] : List Value)
  refine g_iload (pc := 3) 5 dX11_copies_3 rfl ?_
  refine g_iload (pc := 5) 4 dX11_copies_5 rfl ?_
  refine g_icmp_ge (pc := 7) (tgt := 28) dX11_copies_7 (by decide) ?_ ?_
  · exact g_vret (pc := 28) hRT dX11_copies_28
  · refine g_aload_n (pc := 10) 0 dX11_copies_10 rfl rfl ?_
    refine g_iload_n (pc := 11) 1 dX11_copies_11 rfl rfl ?_
    refine g_iload (pc := 12) 5 dX11_copies_12 rfl ?_
    refine g_iadd (pc := 14) dX11_copies_14 ?_
    refine g_aload_n (pc := 15) 2 dX11_copies_15 rfl rfl ?_
    refine g_iload_n (pc := 16) 3 dX11_copies_16 rfl rfl ?_
    refine g_iload (pc := 17) 5 dX11_copies_17 rfl ?_
    refine g_iadd (pc := 19) dX11_copies_19 ?_
    refine g_iald (pc := 20) 13 cM_13 rfl dX11_copies_20 ?_
    refine g_iast (pc := 21) 3 cM_3 rfl cM_s3 dX11_copies_21 (fun s7 => ?_)
    refine g_iinc (pc := 22) [1, 2, 3, 4, 5, 0] 5 (n1 := 1) (lv1 := fun x8 => [(0, Value.ref (a 3)), (1, Value.int x1), (2, Value.ref (a 13)), (3, Value.int x2), (4, Value.int x3), (5, Value.int x8)]) dX11_copies_22 rfl (by decide) (by decide) (fun _ => rfl) (fun x8 => ?_)
    show G _ Γ _ _ _ _ _ _ _ [(0, Value.ref (a 3)), (1, Value.int x1), (2, Value.ref (a 13)), (3, Value.int x2), (4, Value.int x3), (5, Value.int x8)] (22 + 3) _
    refine g_goto (pc := 25) (tgt := 3) dX11_copies_25 (by decide) ?_
    exact hk4 s7 _
set_option maxRecDepth 100000 in
set_option maxHeartbeats 4000000 in
theorem k_X11_copies__4_11 {l : Launch} {D : va_G} {a : Nat → Nat} {cI : ClassId} (hI : ∀ σ : St, va_D (AM a) (cM a cI σ)) {σ : St} {x1 x2 x3 : Int32} {r : Int32 × St} (h : f_X11_copies__4_11 σ x1 x2 x3 = some r) : Kc (SM l D a cI) yX11_copies cX11_copies 6 none 0 [Value.ref (a 4), Value.int x1, Value.ref (a 11), Value.int x2, Value.int x3] σ r := by
  refine enter (own := RX11) (o := f_X11_copies__4_11 σ x1 x2 x3) (plainFor_of_name (by decide +kernel)) rfl (Nat.le_of_ble_eq_true rfl) hI wk_X11_copies.1 h (fun Γ hRT => ?_)
  show G _ Γ _ _ _ _ _ _ σ [((0 : Nat), Value.ref (a 4)), ((1 : Nat), Value.int x1), ((2 : Nat), Value.ref (a 11)), ((3 : Nat), Value.int x2), ((4 : Nat), Value.int x3)] 0 []
  unfold f_X11_copies__4_11
  refine g_iconst (pc := 0) (v := 0) dX11_copies_0 (by decide) ?_
  refine g_istore (pc := 1) [1, 2, 3, 4, 5, 0] (lv1 := [(0, Value.ref (a 4)), (1, Value.int x1), (2, Value.ref (a 11)), (3, Value.int x2), (4, Value.int x3), (5, Value.int (0 : Int32))]) dX11_copies_1 (by decide) rfl ?_
  refine g_lq1 (pc := 3) (lf := fun x5 => [((0 : Nat), Value.ref (a 4)), ((1 : Nat), Value.int x1), ((2 : Nat), Value.ref (a 11)), ((3 : Nat), Value.int x2), ((4 : Nat), Value.int x3), ((5 : Nat), Value.int x5)]) (sf := fun x5 => ([] : List Value)) (fun k4 hk4 s6 x5 => ?_) 100000 σ _
  show G _ Γ _ _ _ _ _ _ s6 [((0 : Nat), Value.ref (a 4)), ((1 : Nat), Value.int x1), ((2 : Nat), Value.ref (a 11)), ((3 : Nat), Value.int x2), ((4 : Nat), Value.int x3), ((5 : Nat), Value.int x5)] 3 ([] : List Value)
  refine g_iload (pc := 3) 5 dX11_copies_3 rfl ?_
  refine g_iload (pc := 5) 4 dX11_copies_5 rfl ?_
  refine g_icmp_ge (pc := 7) (tgt := 28) dX11_copies_7 (by decide) ?_ ?_
  · exact g_vret (pc := 28) hRT dX11_copies_28
  · refine g_aload_n (pc := 10) 0 dX11_copies_10 rfl rfl ?_
    refine g_iload_n (pc := 11) 1 dX11_copies_11 rfl rfl ?_
    refine g_iload (pc := 12) 5 dX11_copies_12 rfl ?_
    refine g_iadd (pc := 14) dX11_copies_14 ?_
    refine g_aload_n (pc := 15) 2 dX11_copies_15 rfl rfl ?_
    refine g_iload_n (pc := 16) 3 dX11_copies_16 rfl rfl ?_
    refine g_iload (pc := 17) 5 dX11_copies_17 rfl ?_
    refine g_iadd (pc := 19) dX11_copies_19 ?_
    refine g_iald (pc := 20) 11 cM_11 rfl dX11_copies_20 ?_
    refine g_iast (pc := 21) 4 cM_4 rfl cM_s4 dX11_copies_21 (fun s7 => ?_)
    refine g_iinc (pc := 22) [1, 2, 3, 4, 5, 0] 5 (n1 := 1) (lv1 := fun x8 => [(0, Value.ref (a 4)), (1, Value.int x1), (2, Value.ref (a 11)), (3, Value.int x2), (4, Value.int x3), (5, Value.int x8)]) dX11_copies_22 rfl (by decide) (by decide) (fun _ => rfl) (fun x8 => ?_)
    show G _ Γ _ _ _ _ _ _ _ [(0, Value.ref (a 4)), (1, Value.int x1), (2, Value.ref (a 11)), (3, Value.int x2), (4, Value.int x3), (5, Value.int x8)] (22 + 3) _
    refine g_goto (pc := 25) (tgt := 3) dX11_copies_25 (by decide) ?_
    exact hk4 s7 _
set_option maxRecDepth 100000 in
set_option maxHeartbeats 4000000 in
theorem k_X11_copies__1_10 {l : Launch} {D : va_G} {a : Nat → Nat} {cI : ClassId} (hI : ∀ σ : St, va_D (AM a) (cM a cI σ)) {σ : St} {x1 x2 x3 : Int32} {r : Int32 × St} (h : f_X11_copies__1_10 σ x1 x2 x3 = some r) : Kc (SM l D a cI) yX11_copies cX11_copies 6 none 0 [Value.ref (a 1), Value.int x1, Value.ref (a 10), Value.int x2, Value.int x3] σ r := by
  refine enter (own := RX11) (o := f_X11_copies__1_10 σ x1 x2 x3) (plainFor_of_name (by decide +kernel)) rfl (Nat.le_of_ble_eq_true rfl) hI wk_X11_copies.1 h (fun Γ hRT => ?_)
  show G _ Γ _ _ _ _ _ _ σ [((0 : Nat), Value.ref (a 1)), ((1 : Nat), Value.int x1), ((2 : Nat), Value.ref (a 10)), ((3 : Nat), Value.int x2), ((4 : Nat), Value.int x3)] 0 []
  unfold f_X11_copies__1_10
  refine g_iconst (pc := 0) (v := 0) dX11_copies_0 (by decide) ?_
  refine g_istore (pc := 1) [1, 2, 3, 4, 5, 0] (lv1 := [(0, Value.ref (a 1)), (1, Value.int x1), (2, Value.ref (a 10)), (3, Value.int x2), (4, Value.int x3), (5, Value.int (0 : Int32))]) dX11_copies_1 (by decide) rfl ?_
  refine g_lq1 (pc := 3) (lf := fun x5 => [((0 : Nat), Value.ref (a 1)), ((1 : Nat), Value.int x1), ((2 : Nat), Value.ref (a 10)), ((3 : Nat), Value.int x2), ((4 : Nat), Value.int x3), ((5 : Nat), Value.int x5)]) (sf := fun x5 => ([] : List Value)) (fun k4 hk4 s6 x5 => ?_) 100000 σ _
  show G _ Γ _ _ _ _ _ _ s6 [((0 : Nat), Value.ref (a 1)), ((1 : Nat), Value.int x1), ((2 : Nat), Value.ref (a 10)), ((3 : Nat), Value.int x2), ((4 : Nat), Value.int x3), ((5 : Nat), Value.int x5)] 3 ([] : List Value)
  refine g_iload (pc := 3) 5 dX11_copies_3 rfl ?_
  refine g_iload (pc := 5) 4 dX11_copies_5 rfl ?_
  refine g_icmp_ge (pc := 7) (tgt := 28) dX11_copies_7 (by decide) ?_ ?_
  · exact g_vret (pc := 28) hRT dX11_copies_28
  · refine g_aload_n (pc := 10) 0 dX11_copies_10 rfl rfl ?_
    refine g_iload_n (pc := 11) 1 dX11_copies_11 rfl rfl ?_
    refine g_iload (pc := 12) 5 dX11_copies_12 rfl ?_
    refine g_iadd (pc := 14) dX11_copies_14 ?_
    refine g_aload_n (pc := 15) 2 dX11_copies_15 rfl rfl ?_
    refine g_iload_n (pc := 16) 3 dX11_copies_16 rfl rfl ?_
    refine g_iload (pc := 17) 5 dX11_copies_17 rfl ?_
    refine g_iadd (pc := 19) dX11_copies_19 ?_
    refine g_iald (pc := 20) 10 cM_10 rfl dX11_copies_20 ?_
    refine g_iast (pc := 21) 1 cM_1 rfl cM_s1 dX11_copies_21 (fun s7 => ?_)
    refine g_iinc (pc := 22) [1, 2, 3, 4, 5, 0] 5 (n1 := 1) (lv1 := fun x8 => [(0, Value.ref (a 1)), (1, Value.int x1), (2, Value.ref (a 10)), (3, Value.int x2), (4, Value.int x3), (5, Value.int x8)]) dX11_copies_22 rfl (by decide) (by decide) (fun _ => rfl) (fun x8 => ?_)
    show G _ Γ _ _ _ _ _ _ _ [(0, Value.ref (a 1)), (1, Value.int x1), (2, Value.ref (a 10)), (3, Value.int x2), (4, Value.int x3), (5, Value.int x8)] (22 + 3) _
    refine g_goto (pc := 25) (tgt := 3) dX11_copies_25 (by decide) ?_
    exact hk4 s7 _
set_option maxRecDepth 100000 in
set_option maxHeartbeats 4000000 in
theorem k_X11_copies__2_12 {l : Launch} {D : va_G} {a : Nat → Nat} {cI : ClassId} (hI : ∀ σ : St, va_D (AM a) (cM a cI σ)) {σ : St} {x1 x2 x3 : Int32} {r : Int32 × St} (h : f_X11_copies__2_12 σ x1 x2 x3 = some r) : Kc (SM l D a cI) yX11_copies cX11_copies 6 none 0 [Value.ref (a 2), Value.int x1, Value.ref (a 12), Value.int x2, Value.int x3] σ r := by
  refine enter (own := RX11) (o := f_X11_copies__2_12 σ x1 x2 x3) (plainFor_of_name (by decide +kernel)) rfl (Nat.le_of_ble_eq_true rfl) hI wk_X11_copies.1 h (fun Γ hRT => ?_)
  show G _ Γ _ _ _ _ _ _ σ [((0 : Nat), Value.ref (a 2)), ((1 : Nat), Value.int x1), ((2 : Nat), Value.ref (a 12)), ((3 : Nat), Value.int x2), ((4 : Nat), Value.int x3)] 0 []
  unfold f_X11_copies__2_12
  refine g_iconst (pc := 0) (v := 0) dX11_copies_0 (by decide) ?_
  refine g_istore (pc := 1) [1, 2, 3, 4, 5, 0] (lv1 := [(0, Value.ref (a 2)), (1, Value.int x1), (2, Value.ref (a 12)), (3, Value.int x2), (4, Value.int x3), (5, Value.int (0 : Int32))]) dX11_copies_1 (by decide) rfl ?_
  refine g_lq1 (pc := 3) (lf := fun x5 => [((0 : Nat), Value.ref (a 2)), ((1 : Nat), Value.int x1), ((2 : Nat), Value.ref (a 12)), ((3 : Nat), Value.int x2), ((4 : Nat), Value.int x3), ((5 : Nat), Value.int x5)]) (sf := fun x5 => ([] : List Value)) (fun k4 hk4 s6 x5 => ?_) 100000 σ _
  show G _ Γ _ _ _ _ _ _ s6 [((0 : Nat), Value.ref (a 2)), ((1 : Nat), Value.int x1), ((2 : Nat), Value.ref (a 12)), ((3 : Nat), Value.int x2), ((4 : Nat), Value.int x3), ((5 : Nat), Value.int x5)] 3 ([] : List Value)
  refine g_iload (pc := 3) 5 dX11_copies_3 rfl ?_
  refine g_iload (pc := 5) 4 dX11_copies_5 rfl ?_
  refine g_icmp_ge (pc := 7) (tgt := 28) dX11_copies_7 (by decide) ?_ ?_
  · exact g_vret (pc := 28) hRT dX11_copies_28
  · refine g_aload_n (pc := 10) 0 dX11_copies_10 rfl rfl ?_
    refine g_iload_n (pc := 11) 1 dX11_copies_11 rfl rfl ?_
    refine g_iload (pc := 12) 5 dX11_copies_12 rfl ?_
    refine g_iadd (pc := 14) dX11_copies_14 ?_
    refine g_aload_n (pc := 15) 2 dX11_copies_15 rfl rfl ?_
    refine g_iload_n (pc := 16) 3 dX11_copies_16 rfl rfl ?_
    refine g_iload (pc := 17) 5 dX11_copies_17 rfl ?_
    refine g_iadd (pc := 19) dX11_copies_19 ?_
    refine g_iald (pc := 20) 12 cM_12 rfl dX11_copies_20 ?_
    refine g_iast (pc := 21) 2 cM_2 rfl cM_s2 dX11_copies_21 (fun s7 => ?_)
    refine g_iinc (pc := 22) [1, 2, 3, 4, 5, 0] 5 (n1 := 1) (lv1 := fun x8 => [(0, Value.ref (a 2)), (1, Value.int x1), (2, Value.ref (a 12)), (3, Value.int x2), (4, Value.int x3), (5, Value.int x8)]) dX11_copies_22 rfl (by decide) (by decide) (fun _ => rfl) (fun x8 => ?_)
    show G _ Γ _ _ _ _ _ _ _ [(0, Value.ref (a 2)), (1, Value.int x1), (2, Value.ref (a 12)), (3, Value.int x2), (4, Value.int x3), (5, Value.int x8)] (22 + 3) _
    refine g_goto (pc := 25) (tgt := 3) dX11_copies_25 (by decide) ?_
    exact hk4 s7 _
set_option maxRecDepth 100000 in
set_option maxHeartbeats 4000000 in
theorem k_X11_settles__0 {l : Launch} {D : va_G} {a : Nat → Nat} {cI : ClassId} (hI : ∀ σ : St, va_D (AM a) (cM a cI σ)) {σ : St} {r : Int32 × St} (h : f_X11_settles__0 σ = some r) : Kc (SM l D a cI) yX11_settles cX11_settles 2 none 1 [Value.ref (a 0)] σ r := by
  refine enter (own := RX11) (o := f_X11_settles__0 σ) (plainFor_of_name (by decide +kernel)) rfl (Nat.le_of_ble_eq_true rfl) hI wk_X11_settles.1 h (fun Γ hRT => ?_)
  show G _ Γ _ _ _ _ _ _ σ [((0 : Nat), Value.ref (a 0))] 0 []
  unfold f_X11_settles__0
  refine g_jq1 (pc2 := 83) (lf := fun x2 => [((0 : Nat), Value.ref (a 0))]) (sf := fun x2 => [Value.int x2, Value.ref (a 0)]) (fun s3 x2 => ?_) (fun k1 hk1 => ?_)
  · show G _ Γ _ _ _ _ _ _ s3 [((0 : Nat), Value.ref (a 0))] 83 [Value.int x2, Value.ref (a 0)]
    refine g_put (pc := 83) 0 (ty := .int) cM_0 rfl inlX11 tyX11_ok nmX11 6 (by decide) bw_15_16 rfl (by decide +kernel) rfl rfl (Nat.le_of_ble_eq_true rfl) cM_f0_6 dX11_settles_83 (fun s4 => ?_)
    refine g_aload_n (pc := 86) 0 dX11_settles_86 rfl rfl ?_
    refine g_get (pc := 87) 0 cM_0 rfl inlX11 7 (by decide) bw_14_3 rfl dX11_settles_87 ?_
    refine g_iconst (pc := 90) (v := 0) dX11_settles_90 (by decide) ?_
    refine g_iconst (pc := 91) (v := 0) dX11_settles_91 (by decide) ?_
    refine g_iast (pc := 92) 3 cM_3 rfl cM_s3 dX11_settles_92 (fun s5 => ?_)
    refine g_aload_n (pc := 93) 0 dX11_settles_93 rfl rfl ?_
    refine g_get (pc := 94) 0 cM_0 rfl inlX11 7 (by decide) bw_14_3 rfl dX11_settles_94 ?_
    refine g_iconst (pc := 97) (v := 0) dX11_settles_97 (by decide) ?_
    refine g_aload_n (pc := 98) 0 dX11_settles_98 rfl rfl ?_
    refine g_get (pc := 99) 0 cM_0 rfl inlX11 27 (by decide) bw_14_13 rfl dX11_settles_99 ?_
    refine g_iconst (pc := 102) (v := 0) dX11_settles_102 (by decide) ?_
    refine g_aload_n (pc := 103) 0 dX11_settles_103 rfl rfl ?_
    refine g_get (pc := 104) 0 cM_0 rfl inlX11 26 (by decide) bw_14_15 rfl dX11_settles_104 ?_
    refine g_cSv (pc := 107) (As := [Value.ref (a 3), Value.int (0 : Int32), Value.ref (a 13), Value.int (0 : Int32), Value.int (s5 0 26)]) (fun r2 h2 => k_X11_copies__3_13 hI h2) wk_X11_copies ws_X11_copies bw_15_20 (by decide) (by decide) rfl rfl (Nat.le_of_ble_eq_true rfl) dX11_settles_107 (fun r6 s7 => ?_)
    refine g_iconst (pc := 110) (v := 0) dX11_settles_110 (by decide) ?_
    refine g_istore_n (pc := 111) [1, 0] (lv1 := [(0, Value.ref (a 0)), (1, Value.int (0 : Int32))]) dX11_settles_111 rfl (by decide) rfl ?_
    refine g_lq1 (pc := 112) (lf := fun x9 => [((0 : Nat), Value.ref (a 0)), ((1 : Nat), Value.int x9)]) (sf := fun x9 => ([] : List Value)) (fun k8 hk8 s10 x9 => ?_) 100000 s7 _
    show G _ Γ _ _ _ _ _ _ s10 [((0 : Nat), Value.ref (a 0)), ((1 : Nat), Value.int x9)] 112 ([] : List Value)
    refine g_iload_n (pc := 112) 1 dX11_settles_112 rfl rfl ?_
    refine g_bipush (pc := 113) (v := 22) dX11_settles_113 (by decide) ?_
    refine g_icmp_ge (pc := 115) (tgt := 131) dX11_settles_115 (by decide) ?_ ?_
    · refine g_aload_n (pc := 131) 0 dX11_settles_131 rfl rfl ?_
      refine g_get (pc := 132) 0 cM_0 rfl inlX11 8 (by decide) bw_14_4 rfl dX11_settles_132 ?_
      refine g_iconst (pc := 135) (v := 1) dX11_settles_135 (by decide) ?_
      refine g_aload_n (pc := 136) 0 dX11_settles_136 rfl rfl ?_
      refine g_get (pc := 137) 0 cM_0 rfl inlX11 23 (by decide) bw_14_11 rfl dX11_settles_137 ?_
      refine g_iconst (pc := 140) (v := 0) dX11_settles_140 (by decide) ?_
      refine g_bipush (pc := 141) (v := 16) dX11_settles_141 (by decide) ?_
      refine g_cSv (pc := 143) (As := [Value.ref (a 4), Value.int (1 : Int32), Value.ref (a 11), Value.int (0 : Int32), Value.int (16 : Int32)]) (fun r2 h2 => k_X11_copies__4_11 hI h2) wk_X11_copies ws_X11_copies bw_15_20 (by decide) (by decide) rfl rfl (Nat.le_of_ble_eq_true rfl) dX11_settles_143 (fun r11 s12 => ?_)
      refine g_iconst (pc := 146) (v := 0) dX11_settles_146 (by decide) ?_
      refine g_istore_n (pc := 147) [1, 0] (lv1 := [(0, Value.ref (a 0)), (1, Value.int (0 : Int32))]) dX11_settles_147 rfl (by decide) rfl ?_
      refine g_lq1 (pc := 148) (lf := fun x14 => [((0 : Nat), Value.ref (a 0)), ((1 : Nat), Value.int x14)]) (sf := fun x14 => ([] : List Value)) (fun k13 hk13 s15 x14 => ?_) 100000 s12 _
      show G _ Γ _ _ _ _ _ _ s15 [((0 : Nat), Value.ref (a 0)), ((1 : Nat), Value.int x14)] 148 ([] : List Value)
      refine g_iload_n (pc := 148) 1 dX11_settles_148 rfl rfl ?_
      refine g_aload_n (pc := 149) 0 dX11_settles_149 rfl rfl ?_
      refine g_get (pc := 150) 0 cM_0 rfl inlX11 4 (by decide) bw_15_15 rfl dX11_settles_150 ?_
      refine g_icmp_ge (pc := 153) (tgt := 183) dX11_settles_153 (by decide) ?_ ?_
      · refine g_aload_n (pc := 183) 0 dX11_settles_183 rfl rfl ?_
        refine g_iconst (pc := 184) (v := 0) dX11_settles_184 (by decide) ?_
        refine g_put (pc := 185) 0 (ty := .int) cM_0 rfl inlX11 tyX11_ok nmX11 9 (by decide) bw_15_17 rfl (by decide +kernel) rfl rfl (Nat.le_of_ble_eq_true rfl) cM_f0_9 dX11_settles_185 (fun s16 => ?_)
        refine g_aload_n (pc := 188) 0 dX11_settles_188 rfl rfl ?_
        refine g_iconst (pc := 189) (v := 0) dX11_settles_189 (by decide) ?_
        refine g_put (pc := 190) 0 (ty := .int) cM_0 rfl inlX11 tyX11_ok nmX11 11 (by decide) bw_15_18 rfl (by decide +kernel) rfl rfl (Nat.le_of_ble_eq_true rfl) cM_f0_11 dX11_settles_190 (fun s17 => ?_)
        refine g_aload_n (pc := 193) 0 dX11_settles_193 rfl rfl ?_
        refine g_iconst (pc := 194) (v := 0) dX11_settles_194 (by decide) ?_
        refine g_put (pc := 195) 0 (ty := .int) cM_0 rfl inlX11 tyX11_ok nmX11 13 (by decide) bw_15_19 rfl (by decide +kernel) rfl rfl (Nat.le_of_ble_eq_true rfl) cM_f0_13 dX11_settles_195 (fun s18 => ?_)
        exact g_vret (pc := 198) hRT dX11_settles_198
      · refine g_aload_n (pc := 156) 0 dX11_settles_156 rfl rfl ?_
        refine g_get (pc := 157) 0 cM_0 rfl inlX11 8 (by decide) bw_14_4 rfl dX11_settles_157 ?_
        refine g_bipush (pc := 160) (v := 17) dX11_settles_160 (by decide) ?_
        refine g_iload_n (pc := 162) 1 dX11_settles_162 rfl rfl ?_
        refine g_iadd (pc := 163) dX11_settles_163 ?_
        refine g_iconst (pc := 164) (v := 1) dX11_settles_164 (by decide) ?_
        refine g_aload_n (pc := 165) 0 dX11_settles_165 rfl rfl ?_
        refine g_get (pc := 166) 0 cM_0 rfl inlX11 5 (by decide) bw_14_2 rfl dX11_settles_166 ?_
        refine g_iconst (pc := 169) (v := 3) dX11_settles_169 (by decide) ?_
        refine g_iload_n (pc := 170) 1 dX11_settles_170 rfl rfl ?_
        refine g_imul (pc := 171) dX11_settles_171 ?_
        refine g_iconst (pc := 172) (v := 2) dX11_settles_172 (by decide) ?_
        refine g_iadd (pc := 173) dX11_settles_173 ?_
        refine g_iald (pc := 174) 2 cM_2 rfl dX11_settles_174 ?_
        refine g_ishl (pc := 175) dX11_settles_175 ?_
        refine g_iast (pc := 176) 4 cM_4 rfl cM_s4 dX11_settles_176 (fun s19 => ?_)
        refine g_iinc (pc := 177) [1, 0] 1 (n1 := 1) (lv1 := fun x20 => [(0, Value.ref (a 0)), (1, Value.int x20)]) dX11_settles_177 rfl (by decide) (by decide) (fun _ => rfl) (fun x20 => ?_)
        show G _ Γ _ _ _ _ _ _ _ [(0, Value.ref (a 0)), (1, Value.int x20)] (177 + 3) _
        refine g_goto (pc := 180) (tgt := 148) dX11_settles_180 (by decide) ?_
        exact hk13 s19 _
    · refine g_aload_n (pc := 118) 0 dX11_settles_118 rfl rfl ?_
      refine g_get (pc := 119) 0 cM_0 rfl inlX11 8 (by decide) bw_14_4 rfl dX11_settles_119 ?_
      refine g_iload_n (pc := 122) 1 dX11_settles_122 rfl rfl ?_
      refine g_iconst (pc := 123) (v := 0) dX11_settles_123 (by decide) ?_
      refine g_iast (pc := 124) 4 cM_4 rfl cM_s4 dX11_settles_124 (fun s21 => ?_)
      refine g_iinc (pc := 125) [1, 0] 1 (n1 := 1) (lv1 := fun x22 => [(0, Value.ref (a 0)), (1, Value.int x22)]) dX11_settles_125 rfl (by decide) (by decide) (fun _ => rfl) (fun x22 => ?_)
      show G _ Γ _ _ _ _ _ _ _ [(0, Value.ref (a 0)), (1, Value.int x22)] (125 + 3) _
      refine g_goto (pc := 128) (tgt := 112) dX11_settles_128 (by decide) ?_
      exact hk8 s21 _
  · refine g_aload_n (pc := 0) 0 dX11_settles_0 rfl rfl ?_
    refine g_aload_n (pc := 1) 0 dX11_settles_1 rfl rfl ?_
    refine g_get (pc := 2) 0 cM_0 rfl inlX11 20 (by decide) bw_14_21 rfl dX11_settles_2 ?_
    refine g_put (pc := 5) 0 (ty := .int) cM_0 rfl inlX11 tyX11_ok nmX11 0 (by decide) bw_15_12 rfl (by decide +kernel) rfl rfl (Nat.le_of_ble_eq_true rfl) cM_f0_0 dX11_settles_5 (fun s23 => ?_)
    refine g_aload_n (pc := 8) 0 dX11_settles_8 rfl rfl ?_
    refine g_aload_n (pc := 9) 0 dX11_settles_9 rfl rfl ?_
    refine g_get (pc := 10) 0 cM_0 rfl inlX11 21 (by decide) bw_14_22 rfl dX11_settles_10 ?_
    refine g_put (pc := 13) 0 (ty := .int) cM_0 rfl inlX11 tyX11_ok nmX11 1 (by decide) bw_15_13 rfl (by decide +kernel) rfl rfl (Nat.le_of_ble_eq_true rfl) cM_f0_1 dX11_settles_13 (fun s24 => ?_)
    refine g_aload_n (pc := 16) 0 dX11_settles_16 rfl rfl ?_
    refine g_aload_n (pc := 17) 0 dX11_settles_17 rfl rfl ?_
    refine g_get (pc := 18) 0 cM_0 rfl inlX11 0 (by decide) bw_15_12 rfl dX11_settles_18 ?_
    refine g_aload_n (pc := 21) 0 dX11_settles_21 rfl rfl ?_
    refine g_get (pc := 22) 0 cM_0 rfl inlX11 1 (by decide) bw_15_13 rfl dX11_settles_22 ?_
    refine g_imul (pc := 25) dX11_settles_25 ?_
    refine g_put (pc := 26) 0 (ty := .int) cM_0 rfl inlX11 tyX11_ok nmX11 2 (by decide) bw_15_14 rfl (by decide +kernel) rfl rfl (Nat.le_of_ble_eq_true rfl) cM_f0_2 dX11_settles_26 (fun s25 => ?_)
    refine g_aload_n (pc := 29) 0 dX11_settles_29 rfl rfl ?_
    refine g_get (pc := 30) 0 cM_0 rfl inlX11 3 (by decide) bw_14_1 rfl dX11_settles_30 ?_
    refine g_iconst (pc := 33) (v := 0) dX11_settles_33 (by decide) ?_
    refine g_aload_n (pc := 34) 0 dX11_settles_34 rfl rfl ?_
    refine g_get (pc := 35) 0 cM_0 rfl inlX11 22 (by decide) bw_14_10 rfl dX11_settles_35 ?_
    refine g_iconst (pc := 38) (v := 0) dX11_settles_38 (by decide) ?_
    refine g_bipush (pc := 39) (v := 16) dX11_settles_39 (by decide) ?_
    refine g_cSv (pc := 41) (As := [Value.ref (a 1), Value.int (0 : Int32), Value.ref (a 10), Value.int (0 : Int32), Value.int (16 : Int32)]) (fun r2 h2 => k_X11_copies__1_10 hI h2) wk_X11_copies ws_X11_copies bw_15_20 (by decide) (by decide) rfl rfl (Nat.le_of_ble_eq_true rfl) dX11_settles_41 (fun r26 s27 => ?_)
    refine g_aload_n (pc := 44) 0 dX11_settles_44 rfl rfl ?_
    refine g_aload_n (pc := 45) 0 dX11_settles_45 rfl rfl ?_
    refine g_get (pc := 46) 0 cM_0 rfl inlX11 24 (by decide) bw_14_23 rfl dX11_settles_46 ?_
    refine g_put (pc := 49) 0 (ty := .int) cM_0 rfl inlX11 tyX11_ok nmX11 4 (by decide) bw_15_15 rfl (by decide +kernel) rfl rfl (Nat.le_of_ble_eq_true rfl) cM_f0_4 dX11_settles_49 (fun s28 => ?_)
    refine g_aload_n (pc := 52) 0 dX11_settles_52 rfl rfl ?_
    refine g_get (pc := 53) 0 cM_0 rfl inlX11 5 (by decide) bw_14_2 rfl dX11_settles_53 ?_
    refine g_iconst (pc := 56) (v := 0) dX11_settles_56 (by decide) ?_
    refine g_aload_n (pc := 57) 0 dX11_settles_57 rfl rfl ?_
    refine g_get (pc := 58) 0 cM_0 rfl inlX11 25 (by decide) bw_14_12 rfl dX11_settles_58 ?_
    refine g_iconst (pc := 61) (v := 0) dX11_settles_61 (by decide) ?_
    refine g_bipush (pc := 62) (v := 15) dX11_settles_62 (by decide) ?_
    refine g_cSv (pc := 64) (As := [Value.ref (a 2), Value.int (0 : Int32), Value.ref (a 12), Value.int (0 : Int32), Value.int (15 : Int32)]) (fun r2 h2 => k_X11_copies__2_12 hI h2) wk_X11_copies ws_X11_copies bw_15_20 (by decide) (by decide) rfl rfl (Nat.le_of_ble_eq_true rfl) dX11_settles_64 (fun r29 s30 => ?_)
    refine g_aload_n (pc := 67) 0 dX11_settles_67 rfl rfl ?_
    refine g_aload_n (pc := 68) 0 dX11_settles_68 rfl rfl ?_
    refine g_get (pc := 69) 0 cM_0 rfl inlX11 26 (by decide) bw_14_15 rfl dX11_settles_69 ?_
    refine g_if_ne (pc := 72) (tgt := 79) dX11_settles_72 (by decide) ?_ ?_
    · refine g_aload_n (pc := 79) 0 dX11_settles_79 rfl rfl ?_
      refine g_get (pc := 80) 0 cM_0 rfl inlX11 26 (by decide) bw_14_15 rfl dX11_settles_80 ?_
      exact hk1 s30 _
    · refine g_iconst (pc := 75) (v := 1) dX11_settles_75 (by decide) ?_
      refine g_goto (pc := 76) (tgt := 83) dX11_settles_76 (by decide) ?_
      exact hk1 s30 _
set_option maxRecDepth 100000 in
set_option maxHeartbeats 4000000 in
theorem k_X11_lay__0 {l : Launch} {D : va_G} {a : Nat → Nat} {cI : ClassId} (hI : ∀ σ : St, va_D (AM a) (cM a cI σ)) {σ : St} {r : Int32 × St} (h : f_X11_lay__0 σ = some r) : Kc (SM l D a cI) yX11_lay cX11_lay 1 (some .int) 6 [Value.ref (a 0)] σ r := by
  refine enter (own := RX11) (o := f_X11_lay__0 σ) (plainFor_of_name (by decide +kernel)) rfl (Nat.le_of_ble_eq_true rfl) hI wk_X11_lay.1 h (fun Γ hRT => ?_)
  show G _ Γ _ _ _ _ _ _ σ [((0 : Nat), Value.ref (a 0))] 0 []
  unfold f_X11_lay__0
  refine g_aload_n (pc := 0) 0 dX11_lay_0 rfl rfl ?_
  refine g_cVi (pc := 1) 0 (As := []) (fun r2 h2 => k_X11_fault__0 hI h2) wk_X11_fault wv_X11_fault bw_19_5 cM_0 rfl (by decide) (by decide) rfl rfl (Nat.le_of_ble_eq_true rfl) dX11_lay_1 (fun r1 s2 => ?_)
  refine g_bipush (pc := 4) (v := -4) dX11_lay_4 (by decide) ?_
  refine g_icmp_ne (pc := 6) (tgt := 16) dX11_lay_6 (by decide) ?_ ?_
  · refine g_bipush (pc := 16) (v := -2) dX11_lay_16 (by decide) ?_
    exact g_iret (pc := 18) hRT dX11_lay_18
  · refine g_aload_n (pc := 9) 0 dX11_lay_9 rfl rfl ?_
    refine g_get (pc := 10) 0 cM_0 rfl inlX11 24 (by decide) bw_14_23 rfl dX11_lay_10 ?_
    refine g_if_ne (pc := 13) (tgt := 19) dX11_lay_13 (by decide) ?_ ?_
    · refine g_aload_n (pc := 19) 0 dX11_lay_19 rfl rfl ?_
      refine g_cVv (pc := 20) 0 (As := []) (fun r2 h2 => k_X11_settles__0 hI h2) wk_X11_settles wv_X11_settles bw_15_8 cM_0 rfl (by decide) (by decide) rfl rfl (Nat.le_of_ble_eq_true rfl) dX11_lay_20 (fun r3 s4 => ?_)
      refine g_aload_n (pc := 23) 0 dX11_lay_23 rfl rfl ?_
      refine g_get (pc := 24) 0 cM_0 rfl inlX11 2 (by decide) bw_15_14 rfl dX11_lay_24 ?_
      exact g_iret (pc := 27) hRT dX11_lay_27
    · refine g_bipush (pc := 16) (v := -2) dX11_lay_16 (by decide) ?_
      exact g_iret (pc := 18) hRT dX11_lay_18
set_option maxRecDepth 100000 in
set_option maxHeartbeats 4000000 in
theorem k_X11_copies__14_4 {l : Launch} {D : va_G} {a : Nat → Nat} {cI : ClassId} (hI : ∀ σ : St, va_D (AM a) (cM a cI σ)) {σ : St} {x1 x2 x3 : Int32} {r : Int32 × St} (h : f_X11_copies__14_4 σ x1 x2 x3 = some r) : Kc (SM l D a cI) yX11_copies cX11_copies 6 none 0 [Value.ref (a 14), Value.int x1, Value.ref (a 4), Value.int x2, Value.int x3] σ r := by
  refine enter (own := RX11) (o := f_X11_copies__14_4 σ x1 x2 x3) (plainFor_of_name (by decide +kernel)) rfl (Nat.le_of_ble_eq_true rfl) hI wk_X11_copies.1 h (fun Γ hRT => ?_)
  show G _ Γ _ _ _ _ _ _ σ [((0 : Nat), Value.ref (a 14)), ((1 : Nat), Value.int x1), ((2 : Nat), Value.ref (a 4)), ((3 : Nat), Value.int x2), ((4 : Nat), Value.int x3)] 0 []
  unfold f_X11_copies__14_4
  refine g_iconst (pc := 0) (v := 0) dX11_copies_0 (by decide) ?_
  refine g_istore (pc := 1) [1, 2, 3, 4, 5, 0] (lv1 := [(0, Value.ref (a 14)), (1, Value.int x1), (2, Value.ref (a 4)), (3, Value.int x2), (4, Value.int x3), (5, Value.int (0 : Int32))]) dX11_copies_1 (by decide) rfl ?_
  refine g_lq1 (pc := 3) (lf := fun x5 => [((0 : Nat), Value.ref (a 14)), ((1 : Nat), Value.int x1), ((2 : Nat), Value.ref (a 4)), ((3 : Nat), Value.int x2), ((4 : Nat), Value.int x3), ((5 : Nat), Value.int x5)]) (sf := fun x5 => ([] : List Value)) (fun k4 hk4 s6 x5 => ?_) 100000 σ _
  show G _ Γ _ _ _ _ _ _ s6 [((0 : Nat), Value.ref (a 14)), ((1 : Nat), Value.int x1), ((2 : Nat), Value.ref (a 4)), ((3 : Nat), Value.int x2), ((4 : Nat), Value.int x3), ((5 : Nat), Value.int x5)] 3 ([] : List Value)
  refine g_iload (pc := 3) 5 dX11_copies_3 rfl ?_
  refine g_iload (pc := 5) 4 dX11_copies_5 rfl ?_
  refine g_icmp_ge (pc := 7) (tgt := 28) dX11_copies_7 (by decide) ?_ ?_
  · exact g_vret (pc := 28) hRT dX11_copies_28
  · refine g_aload_n (pc := 10) 0 dX11_copies_10 rfl rfl ?_
    refine g_iload_n (pc := 11) 1 dX11_copies_11 rfl rfl ?_
    refine g_iload (pc := 12) 5 dX11_copies_12 rfl ?_
    refine g_iadd (pc := 14) dX11_copies_14 ?_
    refine g_aload_n (pc := 15) 2 dX11_copies_15 rfl rfl ?_
    refine g_iload_n (pc := 16) 3 dX11_copies_16 rfl rfl ?_
    refine g_iload (pc := 17) 5 dX11_copies_17 rfl ?_
    refine g_iadd (pc := 19) dX11_copies_19 ?_
    refine g_iald (pc := 20) 4 cM_4 rfl dX11_copies_20 ?_
    refine g_iast (pc := 21) 14 cM_14 rfl cM_s14 dX11_copies_21 (fun s7 => ?_)
    refine g_iinc (pc := 22) [1, 2, 3, 4, 5, 0] 5 (n1 := 1) (lv1 := fun x8 => [(0, Value.ref (a 14)), (1, Value.int x1), (2, Value.ref (a 4)), (3, Value.int x2), (4, Value.int x3), (5, Value.int x8)]) dX11_copies_22 rfl (by decide) (by decide) (fun _ => rfl) (fun x8 => ?_)
    show G _ Γ _ _ _ _ _ _ _ [(0, Value.ref (a 14)), (1, Value.int x1), (2, Value.ref (a 4)), (3, Value.int x2), (4, Value.int x3), (5, Value.int x8)] (22 + 3) _
    refine g_goto (pc := 25) (tgt := 3) dX11_copies_25 (by decide) ?_
    exact hk4 s7 _
set_option maxRecDepth 100000 in
set_option maxHeartbeats 4000000 in
theorem k_X11_asItIs__0 {l : Launch} {D : va_G} {a : Nat → Nat} {cI : ClassId} (hI : ∀ σ : St, va_D (AM a) (cM a cI σ)) {σ : St} {r : Int32 × St} (h : f_X11_asItIs__0 σ = some r) : Kc (SM l D a cI) yX11_asItIs cX11_asItIs 1 none 1 [Value.ref (a 0)] σ r := by
  refine enter (own := RX11) (o := f_X11_asItIs__0 σ) (plainFor_of_name (by decide +kernel)) rfl (Nat.le_of_ble_eq_true rfl) hI wk_X11_asItIs.1 h (fun Γ hRT => ?_)
  show G _ Γ _ _ _ _ _ _ σ [((0 : Nat), Value.ref (a 0))] 0 []
  unfold f_X11_asItIs__0
  refine g_aload_n (pc := 0) 0 dX11_asItIs_0 rfl rfl ?_
  refine g_get (pc := 1) 0 cM_0 rfl inlX11 28 (by decide) bw_14_14 rfl dX11_asItIs_1 ?_
  refine g_iconst (pc := 4) (v := 0) dX11_asItIs_4 (by decide) ?_
  refine g_aload_n (pc := 5) 0 dX11_asItIs_5 rfl rfl ?_
  refine g_get (pc := 6) 0 cM_0 rfl inlX11 8 (by decide) bw_14_4 rfl dX11_asItIs_6 ?_
  refine g_iconst (pc := 9) (v := 0) dX11_asItIs_9 (by decide) ?_
  refine g_bipush (pc := 10) (v := 22) dX11_asItIs_10 (by decide) ?_
  refine g_cSv (pc := 12) (As := [Value.ref (a 14), Value.int (0 : Int32), Value.ref (a 4), Value.int (0 : Int32), Value.int (22 : Int32)]) (fun r2 h2 => k_X11_copies__14_4 hI h2) wk_X11_copies ws_X11_copies bw_15_20 (by decide) (by decide) rfl rfl (Nat.le_of_ble_eq_true rfl) dX11_asItIs_12 (fun r1 s2 => ?_)
  refine g_aload_n (pc := 15) 0 dX11_asItIs_15 rfl rfl ?_
  refine g_bipush (pc := 16) (v := -4) dX11_asItIs_16 (by decide) ?_
  refine g_put (pc := 18) 0 (ty := .int) cM_0 rfl inlX11 tyX11_ok nmX11 29 (by decide) bw_20_18 rfl (by decide +kernel) rfl rfl (Nat.le_of_ble_eq_true rfl) cM_f0_29 dX11_asItIs_18 (fun s3 => ?_)
  exact g_vret (pc := 21) hRT dX11_asItIs_21
set_option maxRecDepth 100000 in
set_option maxHeartbeats 4000000 in
theorem k_X11_asItIsOf__0 {l : Launch} {D : va_G} {a : Nat → Nat} {cI : ClassId} (hI : ∀ σ : St, va_D (AM a) (cM a cI σ)) {σ : St} {x1 : Int32} {r : Int32 × St} (h : f_X11_asItIsOf__0 σ x1 = some r) : Kc (SM l D a cI) yX11_asItIsOf cX11_asItIsOf 2 none 2 [Value.ref (a 0), Value.int x1] σ r := by
  refine enter (own := RX11) (o := f_X11_asItIsOf__0 σ x1) (plainFor_of_name (by decide +kernel)) rfl (Nat.le_of_ble_eq_true rfl) hI wk_X11_asItIsOf.1 h (fun Γ hRT => ?_)
  show G _ Γ _ _ _ _ _ _ σ [((0 : Nat), Value.ref (a 0)), ((1 : Nat), Value.int x1)] 0 []
  unfold f_X11_asItIsOf__0
  refine g_aload_n (pc := 0) 0 dX11_asItIsOf_0 rfl rfl ?_
  refine g_cVv (pc := 1) 0 (As := []) (fun r2 h2 => k_X11_asItIs__0 hI h2) wk_X11_asItIs wv_X11_asItIs bw_20_14 cM_0 rfl (by decide) (by decide) rfl rfl (Nat.le_of_ble_eq_true rfl) dX11_asItIsOf_1 (fun r2 s3 => ?_)
  refine g_aload_n (pc := 4) 0 dX11_asItIsOf_4 rfl rfl ?_
  refine g_iload_n (pc := 5) 1 dX11_asItIsOf_5 rfl rfl ?_
  refine g_put (pc := 6) 0 (ty := .int) cM_0 rfl inlX11 tyX11_ok nmX11 29 (by decide) bw_20_18 rfl (by decide +kernel) rfl rfl (Nat.le_of_ble_eq_true rfl) cM_f0_29 dX11_asItIsOf_6 (fun s4 => ?_)
  exact g_vret (pc := 9) hRT dX11_asItIsOf_9
set_option maxRecDepth 100000 in
set_option maxHeartbeats 4000000 in
theorem k_X11_windOf__0 {l : Launch} {D : va_G} {a : Nat → Nat} {cI : ClassId} (hI : ∀ σ : St, va_D (AM a) (cM a cI σ)) {σ : St} {x1 : Int32} {r : Int32 × St} (h : f_X11_windOf__0 σ x1 = some r) : Kc (SM l D a cI) yX11_windOf cX11_windOf 2 (some .int) 0 [Value.ref (a 0), Value.int x1] σ r := by
  refine enter (own := RX11) (o := f_X11_windOf__0 σ x1) (plainFor_of_name (by decide +kernel)) rfl (Nat.le_of_ble_eq_true rfl) hI wk_X11_windOf.1 h (fun Γ hRT => ?_)
  show G _ Γ _ _ _ _ _ _ σ [((0 : Nat), Value.ref (a 0)), ((1 : Nat), Value.int x1)] 0 []
  unfold f_X11_windOf__0
  refine g_aload_n (pc := 0) 0 dX11_windOf_0 rfl rfl ?_
  refine g_get (pc := 1) 0 cM_0 rfl inlX11 7 (by decide) bw_14_3 rfl dX11_windOf_1 ?_
  refine g_iload_n (pc := 4) 1 dX11_windOf_4 rfl rfl ?_
  refine g_aload_n (pc := 5) 0 dX11_windOf_5 rfl rfl ?_
  refine g_get (pc := 6) 0 cM_0 rfl inlX11 6 (by decide) bw_15_16 rfl dX11_windOf_6 ?_
  refine g_irem (pc := 9) dX11_windOf_9 ?_
  refine g_iald (pc := 10) 3 cM_3 rfl dX11_windOf_10 ?_
  exact g_iret (pc := 11) hRT dX11_windOf_11
set_option maxRecDepth 100000 in
set_option maxHeartbeats 4000000 in
theorem k_X11_beside__0 {l : Launch} {D : va_G} {a : Nat → Nat} {cI : ClassId} (hI : ∀ σ : St, va_D (AM a) (cM a cI σ)) {σ : St} {x1 x2 : Int32} {r : Int32 × St} (h : f_X11_beside__0 σ x1 x2 = some r) : Kc (SM l D a cI) yX11_beside cX11_beside 5 (some .int) 1 [Value.ref (a 0), Value.int x1, Value.int x2] σ r := by
  refine enter (own := RX11) (o := f_X11_beside__0 σ x1 x2) (plainFor_of_name (by decide +kernel)) rfl (Nat.le_of_ble_eq_true rfl) hI wk_X11_beside.1 h (fun Γ hRT => ?_)
  show G _ Γ _ _ _ _ _ _ σ [((0 : Nat), Value.ref (a 0)), ((1 : Nat), Value.int x1), ((2 : Nat), Value.int x2)] 0 []
  unfold f_X11_beside__0
  refine g_jq2 (pc2 := 25) (lf := fun x4 x5 => [((0 : Nat), Value.ref (a 0)), ((1 : Nat), Value.int x1), ((2 : Nat), Value.int x2)]) (sf := fun x4 x5 => [Value.int x4, Value.int x5]) (fun s6 x4 x5 => ?_) (fun k3 hk3 => ?_)
  · show G _ Γ _ _ _ _ _ _ s6 [((0 : Nat), Value.ref (a 0)), ((1 : Nat), Value.int x1), ((2 : Nat), Value.int x2)] 25 [Value.int x4, Value.int x5]
    refine g_jq3 (pc2 := 52) (lf := fun x8 x9 x10 => [((0 : Nat), Value.ref (a 0)), ((3 : Nat), Value.int x8)]) (sf := fun x8 x9 x10 => [Value.int x9, Value.int x10]) (fun s11 x8 x9 x10 => ?_) (fun k7 hk7 => ?_)
    · show G _ Γ _ _ _ _ _ _ s11 [((0 : Nat), Value.ref (a 0)), ((3 : Nat), Value.int x8)] 52 [Value.int x9, Value.int x10]
      refine g_jq0 (pc2 := 96) (lf := ([] : List (Nat × Value))) (sf := ([] : List Value)) (fun s13 => ?_) (fun k12 hk12 => ?_)
      · show G _ Γ _ _ _ _ _ _ s13 ([] : List (Nat × Value)) 96 ([] : List Value)
        refine g_bipush (pc := 96) (v := -4) dX11_beside_96 (by decide) ?_
        exact g_iret (pc := 98) hRT dX11_beside_98
      · refine g_iadd (pc := 52) dX11_beside_52 ?_
        refine g_nm (fun x14 => ?_)
        refine g_istore (pc := 53) [1, 2, 0] (lv1 := [(0, Value.ref (a 0)), (3, Value.int x8), (4, Value.int x14)]) dX11_beside_53 (by decide) rfl ?_
        refine g_iload_n (pc := 55) 1 dX11_beside_55 rfl rfl ?_
        refine g_iconst (pc := 56) (v := 0) dX11_beside_56 (by decide) ?_
        refine g_aload_n (pc := 57) 0 dX11_beside_57 rfl rfl ?_
        refine g_get (pc := 58) 0 cM_0 rfl inlX11 0 (by decide) bw_15_12 rfl dX11_beside_58 ?_
        refine g_iconst (pc := 61) (v := 1) dX11_beside_61 (by decide) ?_
        refine g_isub (pc := 62) dX11_beside_62 ?_
        refine g_cSz (pc := 63) (As := [Value.int x8, Value.int (0 : Int32), Value.int ((s11 0 0) - (1 : Int32))]) (fun r2 h2 => k_X11_in hI h2) wk_X11_in ws_X11_in bw_16_9 (by decide) (by decide) rfl rfl (Nat.le_of_ble_eq_true rfl) dX11_beside_63 (fun r15 s16 => ?_)
        refine g_if_eq (pc := 66) (tgt := 96) dX11_beside_66 (by decide) ?_ ?_
        · exact g_lv [] rfl (hk12 s16)
        · refine g_iload (pc := 69) 2 dX11_beside_69 rfl ?_
          refine g_iconst (pc := 71) (v := 0) dX11_beside_71 (by decide) ?_
          refine g_aload_n (pc := 72) 0 dX11_beside_72 rfl rfl ?_
          refine g_get (pc := 73) 0 cM_0 rfl inlX11 1 (by decide) bw_15_13 rfl dX11_beside_73 ?_
          refine g_iconst (pc := 76) (v := 1) dX11_beside_76 (by decide) ?_
          refine g_isub (pc := 77) dX11_beside_77 ?_
          refine g_cSz (pc := 78) (As := [Value.int x14, Value.int (0 : Int32), Value.int ((s16 0 1) - (1 : Int32))]) (fun r2 h2 => k_X11_in hI h2) wk_X11_in ws_X11_in bw_16_9 (by decide) (by decide) rfl rfl (Nat.le_of_ble_eq_true rfl) dX11_beside_78 (fun r17 s18 => ?_)
          refine g_if_eq (pc := 81) (tgt := 96) dX11_beside_81 (by decide) ?_ ?_
          · exact g_lv [] rfl (hk12 s18)
          · refine g_iload_n (pc := 84) 1 dX11_beside_84 rfl rfl ?_
            refine g_aload_n (pc := 85) 0 dX11_beside_85 rfl rfl ?_
            refine g_get (pc := 86) 0 cM_0 rfl inlX11 1 (by decide) bw_15_13 rfl dX11_beside_86 ?_
            refine g_imul (pc := 89) dX11_beside_89 ?_
            refine g_iload (pc := 90) 2 dX11_beside_90 rfl ?_
            refine g_iadd (pc := 92) dX11_beside_92 ?_
            refine g_goto (pc := 93) (tgt := 98) dX11_beside_93 (by decide) ?_
            exact g_iret (pc := 98) hRT dX11_beside_98
    · refine g_iadd (pc := 25) dX11_beside_25 ?_
      refine g_nm (fun x19 => ?_)
      refine g_istore_n (pc := 26) [1, 2, 3, 0] (lv1 := [(0, Value.ref (a 0)), (1, Value.int x1), (2, Value.int x2), (3, Value.int x19)]) dX11_beside_26 rfl (by decide) rfl ?_
      refine g_iload_n (pc := 27) 1 dX11_beside_27 rfl rfl ?_
      refine g_aload_n (pc := 28) 0 dX11_beside_28 rfl rfl ?_
      refine g_get (pc := 29) 0 cM_0 rfl inlX11 1 (by decide) bw_15_13 rfl dX11_beside_29 ?_
      refine g_irem (pc := 32) dX11_beside_32 ?_
      refine g_iload_n (pc := 33) 2 dX11_beside_33 rfl rfl ?_
      refine g_iconst (pc := 34) (v := 2) dX11_beside_34 (by decide) ?_
      refine g_icmp_ne (pc := 35) (tgt := 42) dX11_beside_35 (by decide) ?_ ?_
      · refine g_iload_n (pc := 42) 2 dX11_beside_42 rfl rfl ?_
        refine g_iconst (pc := 43) (v := 4) dX11_beside_43 (by decide) ?_
        refine g_icmp_ne (pc := 44) (tgt := 51) dX11_beside_44 (by decide) ?_ ?_
        · refine g_iconst (pc := 51) (v := 0) dX11_beside_51 (by decide) ?_
          exact g_lv [0, 3] rfl (hk7 s6 _ _ _)
        · refine g_iconst (pc := 47) (v := -1) dX11_beside_47 (by decide) ?_
          refine g_goto (pc := 48) (tgt := 52) dX11_beside_48 (by decide) ?_
          exact g_lv [0, 3] rfl (hk7 s6 _ _ _)
      · refine g_iconst (pc := 38) (v := 1) dX11_beside_38 (by decide) ?_
        refine g_goto (pc := 39) (tgt := 52) dX11_beside_39 (by decide) ?_
        exact g_lv [0, 3] rfl (hk7 s6 _ _ _)
  · refine g_iload_n (pc := 0) 1 dX11_beside_0 rfl rfl ?_
    refine g_aload_n (pc := 1) 0 dX11_beside_1 rfl rfl ?_
    refine g_get (pc := 2) 0 cM_0 rfl inlX11 1 (by decide) bw_15_13 rfl dX11_beside_2 ?_
    refine g_idiv (pc := 5) dX11_beside_5 ?_
    refine g_iload_n (pc := 6) 2 dX11_beside_6 rfl rfl ?_
    refine g_iconst (pc := 7) (v := 3) dX11_beside_7 (by decide) ?_
    refine g_icmp_ne (pc := 8) (tgt := 15) dX11_beside_8 (by decide) ?_ ?_
    · refine g_iload_n (pc := 15) 2 dX11_beside_15 rfl rfl ?_
      refine g_iconst (pc := 16) (v := 1) dX11_beside_16 (by decide) ?_
      refine g_icmp_ne (pc := 17) (tgt := 24) dX11_beside_17 (by decide) ?_ ?_
      · refine g_iconst (pc := 24) (v := 0) dX11_beside_24 (by decide) ?_
        exact hk3 σ _ _
      · refine g_iconst (pc := 20) (v := -1) dX11_beside_20 (by decide) ?_
        refine g_goto (pc := 21) (tgt := 25) dX11_beside_21 (by decide) ?_
        exact hk3 σ _ _
    · refine g_iconst (pc := 11) (v := 1) dX11_beside_11 (by decide) ?_
      refine g_goto (pc := 12) (tgt := 25) dX11_beside_12 (by decide) ?_
      exact hk3 σ _ _
set_option maxRecDepth 100000 in
set_option maxHeartbeats 4000000 in
theorem k_X11_letsOut__0 {l : Launch} {D : va_G} {a : Nat → Nat} {cI : ClassId} (hI : ∀ σ : St, va_D (AM a) (cM a cI σ)) {σ : St} {x1 x2 : Int32} {r : Int32 × St} (h : f_X11_letsOut__0 σ x1 x2 = some r) : Kc (SM l D a cI) yX11_letsOut cX11_letsOut 3 (some .boolean) 0 [Value.ref (a 0), Value.int x1, Value.int x2] σ r := by
  refine enter (own := RX11) (o := f_X11_letsOut__0 σ x1 x2) (plainFor_of_name (by decide +kernel)) rfl (Nat.le_of_ble_eq_true rfl) hI wk_X11_letsOut.1 h (fun Γ hRT => ?_)
  show G _ Γ _ _ _ _ _ _ σ [((0 : Nat), Value.ref (a 0)), ((1 : Nat), Value.int x1), ((2 : Nat), Value.int x2)] 0 []
  unfold f_X11_letsOut__0
  refine g_jq0 (pc2 := 36) (lf := ([] : List (Nat × Value))) (sf := ([] : List Value)) (fun s4 => ?_) (fun k3 hk3 => ?_)
  · show G _ Γ _ _ _ _ _ _ s4 ([] : List (Nat × Value)) 36 ([] : List Value)
    refine g_iconst (pc := 36) (v := 0) dX11_letsOut_36 (by decide) ?_
    exact g_zret1 (pc := 37) hRT (by decide) dX11_letsOut_37
  · refine g_aload_n (pc := 0) 0 dX11_letsOut_0 rfl rfl ?_
    refine g_get (pc := 1) 0 cM_0 rfl inlX11 3 (by decide) bw_14_1 rfl dX11_letsOut_1 ?_
    refine g_iload_n (pc := 4) 1 dX11_letsOut_4 rfl rfl ?_
    refine g_iald (pc := 5) 1 cM_1 rfl dX11_letsOut_5 ?_
    refine g_iconst (pc := 6) (v := 3) dX11_letsOut_6 (by decide) ?_
    refine g_icmp_eq (pc := 7) (tgt := 36) dX11_letsOut_7 (by decide) ?_ ?_
    · exact g_lv [] rfl (hk3 σ)
    · refine g_jq0 (pc2 := 32) (lf := ([] : List (Nat × Value))) (sf := ([] : List Value)) (fun s6 => ?_) (fun k5 hk5 => ?_)
      · show G _ Γ _ _ _ _ _ _ s6 ([] : List (Nat × Value)) 32 ([] : List Value)
        refine g_iconst (pc := 32) (v := 1) dX11_letsOut_32 (by decide) ?_
        refine g_goto (pc := 33) (tgt := 37) dX11_letsOut_33 (by decide) ?_
        exact g_zret1 (pc := 37) hRT (by decide) dX11_letsOut_37
      · refine g_aload_n (pc := 10) 0 dX11_letsOut_10 rfl rfl ?_
        refine g_get (pc := 11) 0 cM_0 rfl inlX11 3 (by decide) bw_14_1 rfl dX11_letsOut_11 ?_
        refine g_iload_n (pc := 14) 1 dX11_letsOut_14 rfl rfl ?_
        refine g_iald (pc := 15) 1 cM_1 rfl dX11_letsOut_15 ?_
        refine g_iconst (pc := 16) (v := 4) dX11_letsOut_16 (by decide) ?_
        refine g_icmp_ne (pc := 17) (tgt := 32) dX11_letsOut_17 (by decide) ?_ ?_
        · exact g_lv [] rfl (hk5 σ)
        · refine g_aload_n (pc := 20) 0 dX11_letsOut_20 rfl rfl ?_
          refine g_get (pc := 21) 0 cM_0 rfl inlX11 5 (by decide) bw_14_2 rfl dX11_letsOut_21 ?_
          refine g_iconst (pc := 24) (v := 3) dX11_letsOut_24 (by decide) ?_
          refine g_iload_n (pc := 25) 2 dX11_letsOut_25 rfl rfl ?_
          refine g_imul (pc := 26) dX11_letsOut_26 ?_
          refine g_iald (pc := 27) 2 cM_2 rfl dX11_letsOut_27 ?_
          refine g_iconst (pc := 28) (v := 2) dX11_letsOut_28 (by decide) ?_
          refine g_icmp_eq (pc := 29) (tgt := 36) dX11_letsOut_29 (by decide) ?_ ?_
          · exact g_lv [] rfl (hk3 σ)
          · exact g_lv [] rfl (hk5 σ)
set_option maxRecDepth 100000 in
set_option maxHeartbeats 4000000 in
theorem k_X11_letsIn__0 {l : Launch} {D : va_G} {a : Nat → Nat} {cI : ClassId} (hI : ∀ σ : St, va_D (AM a) (cM a cI σ)) {σ : St} {x1 x2 x3 : Int32} {r : Int32 × St} (h : f_X11_letsIn__0 σ x1 x2 x3 = some r) : Kc (SM l D a cI) yX11_letsIn cX11_letsIn 5 (some .boolean) 0 [Value.ref (a 0), Value.int x1, Value.int x2, Value.int x3] σ r := by
  refine enter (own := RX11) (o := f_X11_letsIn__0 σ x1 x2 x3) (plainFor_of_name (by decide +kernel)) rfl (Nat.le_of_ble_eq_true rfl) hI wk_X11_letsIn.1 h (fun Γ hRT => ?_)
  show G _ Γ _ _ _ _ _ _ σ [((0 : Nat), Value.ref (a 0)), ((1 : Nat), Value.int x1), ((2 : Nat), Value.int x2), ((3 : Nat), Value.int x3)] 0 []
  unfold f_X11_letsIn__0
  refine g_jq2 (pc2 := 25) (lf := fun x5 x6 => [((0 : Nat), Value.ref (a 0)), ((2 : Nat), Value.int x2)]) (sf := fun x5 x6 => [Value.int x5, Value.int x6]) (fun s7 x5 x6 => ?_) (fun k4 hk4 => ?_)
  · show G _ Γ _ _ _ _ _ _ s7 [((0 : Nat), Value.ref (a 0)), ((2 : Nat), Value.int x2)] 25 [Value.int x5, Value.int x6]
    refine g_jq2 (pc2 := 41) (lf := fun x9 x10 => [((0 : Nat), Value.ref (a 0)), ((2 : Nat), Value.int x2)]) (sf := fun x9 x10 => [Value.int x9, Value.int x10]) (fun s11 x9 x10 => ?_) (fun k8 hk8 => ?_)
    · show G _ Γ _ _ _ _ _ _ s11 [((0 : Nat), Value.ref (a 0)), ((2 : Nat), Value.int x2)] 41 [Value.int x9, Value.int x10]
      refine g_jq0 (pc2 := 72) (lf := ([] : List (Nat × Value))) (sf := ([] : List Value)) (fun s13 => ?_) (fun k12 hk12 => ?_)
      · show G _ Γ _ _ _ _ _ _ s13 ([] : List (Nat × Value)) 72 ([] : List Value)
        refine g_iconst (pc := 72) (v := 0) dX11_letsIn_72 (by decide) ?_
        exact g_zret1 (pc := 73) hRT (by decide) dX11_letsIn_73
      · refine g_iadd (pc := 41) dX11_letsIn_41 ?_
        refine g_nm (fun x14 => ?_)
        refine g_istore (pc := 42) [1, 2, 0] (lv1 := [(0, Value.ref (a 0)), (2, Value.int x2), (4, Value.int x14)]) dX11_letsIn_42 (by decide) rfl ?_
        refine g_aload_n (pc := 44) 0 dX11_letsIn_44 rfl rfl ?_
        refine g_get (pc := 45) 0 cM_0 rfl inlX11 28 (by decide) bw_14_14 rfl dX11_letsIn_45 ?_
        refine g_iconst (pc := 48) (v := 1) dX11_letsIn_48 (by decide) ?_
        refine g_iload_n (pc := 49) 1 dX11_letsIn_49 rfl rfl ?_
        refine g_iadd (pc := 50) dX11_letsIn_50 ?_
        refine g_iald (pc := 51) 14 cM_14 rfl dX11_letsIn_51 ?_
        refine g_if_le (pc := 52) (tgt := 72) dX11_letsIn_52 (by decide) ?_ ?_
        · exact g_lv [] rfl (hk12 s11)
        · refine g_aload_n (pc := 55) 0 dX11_letsIn_55 rfl rfl ?_
          refine g_get (pc := 56) 0 cM_0 rfl inlX11 28 (by decide) bw_14_14 rfl dX11_letsIn_56 ?_
          refine g_iconst (pc := 59) (v := 1) dX11_letsIn_59 (by decide) ?_
          refine g_iload_n (pc := 60) 1 dX11_letsIn_60 rfl rfl ?_
          refine g_iadd (pc := 61) dX11_letsIn_61 ?_
          refine g_iald (pc := 62) 14 cM_14 rfl dX11_letsIn_62 ?_
          refine g_iload (pc := 63) 2 dX11_letsIn_63 rfl ?_
          refine g_icmp_lt (pc := 65) (tgt := 72) dX11_letsIn_65 (by decide) ?_ ?_
          · exact g_lv [] rfl (hk12 s11)
          · refine g_iconst (pc := 68) (v := 1) dX11_letsIn_68 (by decide) ?_
            refine g_goto (pc := 69) (tgt := 73) dX11_letsIn_69 (by decide) ?_
            exact g_zret1 (pc := 73) hRT (by decide) dX11_letsIn_73
    · refine g_isub (pc := 25) dX11_letsIn_25 ?_
      refine g_aload_n (pc := 26) 0 dX11_letsIn_26 rfl rfl ?_
      refine g_get (pc := 27) 0 cM_0 rfl inlX11 3 (by decide) bw_14_1 rfl dX11_letsIn_27 ?_
      refine g_iload_n (pc := 30) 1 dX11_letsIn_30 rfl rfl ?_
      refine g_iald (pc := 31) 1 cM_1 rfl dX11_letsIn_31 ?_
      refine g_iconst (pc := 32) (v := 2) dX11_letsIn_32 (by decide) ?_
      refine g_icmp_ne (pc := 33) (tgt := 40) dX11_letsIn_33 (by decide) ?_ ?_
      · refine g_iconst (pc := 40) (v := 0) dX11_letsIn_40 (by decide) ?_
        exact hk8 s7 _ _
      · refine g_iconst (pc := 36) (v := 1) dX11_letsIn_36 (by decide) ?_
        refine g_goto (pc := 37) (tgt := 41) dX11_letsIn_37 (by decide) ?_
        exact hk8 s7 _ _
  · refine g_aload_n (pc := 0) 0 dX11_letsIn_0 rfl rfl ?_
    refine g_get (pc := 1) 0 cM_0 rfl inlX11 5 (by decide) bw_14_2 rfl dX11_letsIn_1 ?_
    refine g_iconst (pc := 4) (v := 3) dX11_letsIn_4 (by decide) ?_
    refine g_iload_n (pc := 5) 3 dX11_letsIn_5 rfl rfl ?_
    refine g_imul (pc := 6) dX11_letsIn_6 ?_
    refine g_iconst (pc := 7) (v := 1) dX11_letsIn_7 (by decide) ?_
    refine g_iadd (pc := 8) dX11_letsIn_8 ?_
    refine g_iald (pc := 9) 2 cM_2 rfl dX11_letsIn_9 ?_
    refine g_aload_n (pc := 10) 0 dX11_letsIn_10 rfl rfl ?_
    refine g_get (pc := 11) 0 cM_0 rfl inlX11 3 (by decide) bw_14_1 rfl dX11_letsIn_11 ?_
    refine g_iload_n (pc := 14) 1 dX11_letsIn_14 rfl rfl ?_
    refine g_iald (pc := 15) 1 cM_1 rfl dX11_letsIn_15 ?_
    refine g_iconst (pc := 16) (v := 1) dX11_letsIn_16 (by decide) ?_
    refine g_icmp_ne (pc := 17) (tgt := 24) dX11_letsIn_17 (by decide) ?_ ?_
    · refine g_iconst (pc := 24) (v := 0) dX11_letsIn_24 (by decide) ?_
      exact g_lv [0, 2] rfl (hk4 σ _ _)
    · refine g_iconst (pc := 20) (v := 1) dX11_letsIn_20 (by decide) ?_
      refine g_goto (pc := 21) (tgt := 25) dX11_letsIn_21 (by decide) ?_
      exact g_lv [0, 2] rfl (hk4 σ _ _)
set_option maxRecDepth 100000 in
set_option maxHeartbeats 4000000 in
theorem k_X11_blowsFrom__0 {l : Launch} {D : va_G} {a : Nat → Nat} {cI : ClassId} (hI : ∀ σ : St, va_D (AM a) (cM a cI σ)) {σ : St} {x1 x2 x3 x4 : Int32} {r : Int32 × St} (h : f_X11_blowsFrom__0 σ x1 x2 x3 x4 = some r) : Kc (SM l D a cI) yX11_blowsFrom cX11_blowsFrom 6 none 2 [Value.ref (a 0), Value.int x1, Value.int x2, Value.int x3, Value.int x4] σ r := by
  refine enter (own := RX11) (o := f_X11_blowsFrom__0 σ x1 x2 x3 x4) (plainFor_of_name (by decide +kernel)) rfl (Nat.le_of_ble_eq_true rfl) hI wk_X11_blowsFrom.1 h (fun Γ hRT => ?_)
  show G _ Γ _ _ _ _ _ _ σ [((0 : Nat), Value.ref (a 0)), ((1 : Nat), Value.int x1), ((2 : Nat), Value.int x2), ((3 : Nat), Value.int x3), ((4 : Nat), Value.int x4)] 0 []
  unfold f_X11_blowsFrom__0
  refine g_aload_n (pc := 0) 0 dX11_blowsFrom_0 rfl rfl ?_
  refine g_iload_n (pc := 1) 1 dX11_blowsFrom_1 rfl rfl ?_
  refine g_iload_n (pc := 2) 3 dX11_blowsFrom_2 rfl rfl ?_
  refine g_cVi (pc := 3) 0 (As := [Value.int x1, Value.int x3]) (fun r2 h2 => k_X11_beside__0 hI h2) wk_X11_beside wv_X11_beside bw_28_0 cM_0 rfl (by decide) (by decide) rfl rfl (Nat.le_of_ble_eq_true rfl) dX11_blowsFrom_3 (fun r5 s6 => ?_)
  refine g_istore (pc := 6) [1, 2, 3, 4, 5, 0] (lv1 := [(0, Value.ref (a 0)), (1, Value.int x1), (2, Value.int x2), (3, Value.int x3), (4, Value.int x4), (5, Value.int r5)]) dX11_blowsFrom_6 (by decide) rfl ?_
  refine g_iload (pc := 8) 5 dX11_blowsFrom_8 rfl ?_
  refine g_if_lt (pc := 10) (tgt := 50) dX11_blowsFrom_10 (by decide) ?_ ?_
  · exact g_vret (pc := 50) hRT dX11_blowsFrom_50
  · refine g_iload (pc := 13) 4 dX11_blowsFrom_13 rfl ?_
    refine g_iload (pc := 15) 5 dX11_blowsFrom_15 rfl ?_
    refine g_cSz (pc := 17) (As := [Value.int x4, Value.int r5]) (fun r2 h2 => k_X11_has hI h2) wk_X11_has ws_X11_has bw_20_23 (by decide) (by decide) rfl rfl (Nat.le_of_ble_eq_true rfl) dX11_blowsFrom_17 (fun r7 s8 => ?_)
    refine g_if_ne (pc := 20) (tgt := 50) dX11_blowsFrom_20 (by decide) ?_ ?_
    · exact g_vret (pc := 50) hRT dX11_blowsFrom_50
    · refine g_aload_n (pc := 23) 0 dX11_blowsFrom_23 rfl rfl ?_
      refine g_iload_n (pc := 24) 1 dX11_blowsFrom_24 rfl rfl ?_
      refine g_iload (pc := 25) 5 dX11_blowsFrom_25 rfl ?_
      refine g_iload_n (pc := 27) 2 dX11_blowsFrom_27 rfl rfl ?_
      refine g_cVz (pc := 28) 0 (As := [Value.int x1, Value.int r5, Value.int x2]) (fun r2 h2 => k_X11_letsIn__0 hI h2) wk_X11_letsIn wv_X11_letsIn bw_28_4 cM_0 rfl (by decide) (by decide) rfl rfl (Nat.le_of_ble_eq_true rfl) dX11_blowsFrom_28 (fun r9 s10 => ?_)
      refine g_if_eq (pc := 31) (tgt := 50) dX11_blowsFrom_31 (by decide) ?_ ?_
      · exact g_vret (pc := 50) hRT dX11_blowsFrom_50
      · refine g_aload_n (pc := 34) 0 dX11_blowsFrom_34 rfl rfl ?_
        refine g_get (pc := 35) 0 cM_0 rfl inlX11 28 (by decide) bw_14_14 rfl dX11_blowsFrom_35 ?_
        refine g_bipush (pc := 38) (v := 17) dX11_blowsFrom_38 (by decide) ?_
        refine g_iload_n (pc := 40) 2 dX11_blowsFrom_40 rfl rfl ?_
        refine g_iadd (pc := 41) dX11_blowsFrom_41 ?_
        refine g_dup2 (pc := 42) dX11_blowsFrom_42 rfl rfl ?_
        refine g_iald (pc := 43) 14 cM_14 rfl dX11_blowsFrom_43 ?_
        refine g_iconst (pc := 44) (v := 1) dX11_blowsFrom_44 (by decide) ?_
        refine g_iload (pc := 45) 5 dX11_blowsFrom_45 rfl ?_
        refine g_ishl (pc := 47) dX11_blowsFrom_47 ?_
        refine g_ior (pc := 48) dX11_blowsFrom_48 ?_
        refine g_iast (pc := 49) 14 cM_14 rfl cM_s14 dX11_blowsFrom_49 (fun s11 => ?_)
        exact g_vret (pc := 50) hRT dX11_blowsFrom_50
set_option maxRecDepth 100000 in
set_option maxHeartbeats 4000000 in
theorem k_X11_goesBy__0 {l : Launch} {D : va_G} {a : Nat → Nat} {cI : ClassId} (hI : ∀ σ : St, va_D (AM a) (cM a cI σ)) {σ : St} {x1 : Int32} {r : Int32 × St} (h : f_X11_goesBy__0 σ x1 = some r) : Kc (SM l D a cI) yX11_goesBy cX11_goesBy 6 none 3 [Value.ref (a 0), Value.int x1] σ r := by
  refine enter (own := RX11) (o := f_X11_goesBy__0 σ x1) (plainFor_of_name (by decide +kernel)) rfl (Nat.le_of_ble_eq_true rfl) hI wk_X11_goesBy.1 h (fun Γ hRT => ?_)
  show G _ Γ _ _ _ _ _ _ σ [((0 : Nat), Value.ref (a 0)), ((1 : Nat), Value.int x1)] 0 []
  unfold f_X11_goesBy__0
  refine g_iconst (pc := 0) (v := 0) dX11_goesBy_0 (by decide) ?_
  refine g_istore_n (pc := 1) [1, 2, 0] (lv1 := [(0, Value.ref (a 0)), (1, Value.int x1), (2, Value.int (0 : Int32))]) dX11_goesBy_1 rfl (by decide) rfl ?_
  refine g_lq1 (pc := 2) (lf := fun x3 => [((0 : Nat), Value.ref (a 0)), ((1 : Nat), Value.int x1), ((2 : Nat), Value.int x3)]) (sf := fun x3 => ([] : List Value)) (fun k2 hk2 s4 x3 => ?_) 100000 σ _
  show G _ Γ _ _ _ _ _ _ s4 [((0 : Nat), Value.ref (a 0)), ((1 : Nat), Value.int x1), ((2 : Nat), Value.int x3)] 2 ([] : List Value)
  refine g_iload_n (pc := 2) 2 dX11_goesBy_2 rfl rfl ?_
  refine g_aload_n (pc := 3) 0 dX11_goesBy_3 rfl rfl ?_
  refine g_get (pc := 4) 0 cM_0 rfl inlX11 4 (by decide) bw_15_15 rfl dX11_goesBy_4 ?_
  refine g_icmp_ge (pc := 7) (tgt := 121) dX11_goesBy_7 (by decide) ?_ ?_
  · refine g_aload_n (pc := 121) 0 dX11_goesBy_121 rfl rfl ?_
    refine g_get (pc := 122) 0 cM_0 rfl inlX11 28 (by decide) bw_14_14 rfl dX11_goesBy_122 ?_
    refine g_iconst (pc := 125) (v := 0) dX11_goesBy_125 (by decide) ?_
    refine g_dup2 (pc := 126) dX11_goesBy_126 rfl rfl ?_
    refine g_iald (pc := 127) 14 cM_14 rfl dX11_goesBy_127 ?_
    refine g_iconst (pc := 128) (v := 1) dX11_goesBy_128 (by decide) ?_
    refine g_iadd (pc := 129) dX11_goesBy_129 ?_
    refine g_iast (pc := 130) 14 cM_14 rfl cM_s14 dX11_goesBy_130 (fun s5 => ?_)
    exact g_vret (pc := 131) hRT dX11_goesBy_131
  · refine g_jq1 (pc2 := 38) (lf := fun x7 => [((0 : Nat), Value.ref (a 0)), ((1 : Nat), Value.int x1), ((2 : Nat), Value.int x3)]) (sf := fun x7 => [Value.int x7]) (fun s8 x7 => ?_) (fun k6 hk6 => ?_)
    · show G _ Γ _ _ _ _ _ _ s8 [((0 : Nat), Value.ref (a 0)), ((1 : Nat), Value.int x1), ((2 : Nat), Value.int x3)] 38 [Value.int x7]
      refine g_istore_n (pc := 38) [1, 2, 3, 0] (lv1 := [(0, Value.ref (a 0)), (1, Value.int x1), (2, Value.int x3), (3, Value.int x7)]) dX11_goesBy_38 rfl (by decide) rfl ?_
      refine g_iconst (pc := 39) (v := 0) dX11_goesBy_39 (by decide) ?_
      refine g_istore (pc := 40) [1, 2, 3, 4, 0] (lv1 := [(0, Value.ref (a 0)), (1, Value.int x1), (2, Value.int x3), (3, Value.int x7), (4, Value.int (0 : Int32))]) dX11_goesBy_40 (by decide) rfl ?_
      refine g_lq1 (pc := 42) (lf := fun x10 => [((0 : Nat), Value.ref (a 0)), ((1 : Nat), Value.int x1), ((2 : Nat), Value.int x3), ((3 : Nat), Value.int x7), ((4 : Nat), Value.int x10)]) (sf := fun x10 => ([] : List Value)) (fun k9 hk9 s11 x10 => ?_) 100000 s8 _
      show G _ Γ _ _ _ _ _ _ s11 [((0 : Nat), Value.ref (a 0)), ((1 : Nat), Value.int x1), ((2 : Nat), Value.int x3), ((3 : Nat), Value.int x7), ((4 : Nat), Value.int x10)] 42 ([] : List Value)
      refine g_jq0 (pc2 := 115) (lf := [((0 : Nat), Value.ref (a 0)), ((1 : Nat), Value.int x1), ((2 : Nat), Value.int x3)]) (sf := ([] : List Value)) (fun s13 => ?_) (fun k12 hk12 => ?_)
      · show G _ Γ _ _ _ _ _ _ s13 [((0 : Nat), Value.ref (a 0)), ((1 : Nat), Value.int x1), ((2 : Nat), Value.int x3)] 115 ([] : List Value)
        refine g_iinc (pc := 115) [1, 2, 0] 2 (n1 := 1) (lv1 := fun x14 => [(0, Value.ref (a 0)), (1, Value.int x1), (2, Value.int x14)]) dX11_goesBy_115 rfl (by decide) (by decide) (fun _ => rfl) (fun x14 => ?_)
        show G _ Γ _ _ _ _ _ _ _ [(0, Value.ref (a 0)), (1, Value.int x1), (2, Value.int x14)] (115 + 3) _
        refine g_goto (pc := 118) (tgt := 2) dX11_goesBy_118 (by decide) ?_
        exact hk2 s13 _
      · refine g_iload (pc := 42) 4 dX11_goesBy_42 rfl ?_
        refine g_aload_n (pc := 44) 0 dX11_goesBy_44 rfl rfl ?_
        refine g_get (pc := 45) 0 cM_0 rfl inlX11 2 (by decide) bw_15_14 rfl dX11_goesBy_45 ?_
        refine g_icmp_ge (pc := 48) (tgt := 115) dX11_goesBy_48 (by decide) ?_ ?_
        · exact g_lv [0, 1, 2] rfl (hk12 s11)
        · refine g_iload_n (pc := 51) 3 dX11_goesBy_51 rfl rfl ?_
          refine g_if_le (pc := 52) (tgt := 115) dX11_goesBy_52 (by decide) ?_ ?_
          · exact g_lv [0, 1, 2] rfl (hk12 s11)
          · refine g_jq0 (pc2 := 109) (lf := [((0 : Nat), Value.ref (a 0)), ((1 : Nat), Value.int x1), ((2 : Nat), Value.int x3), ((3 : Nat), Value.int x7), ((4 : Nat), Value.int x10)]) (sf := ([] : List Value)) (fun s16 => ?_) (fun k15 hk15 => ?_)
            · show G _ Γ _ _ _ _ _ _ s16 [((0 : Nat), Value.ref (a 0)), ((1 : Nat), Value.int x1), ((2 : Nat), Value.int x3), ((3 : Nat), Value.int x7), ((4 : Nat), Value.int x10)] 109 ([] : List Value)
              refine g_iinc (pc := 109) [1, 2, 3, 4, 0] 4 (n1 := 1) (lv1 := fun x17 => [(0, Value.ref (a 0)), (1, Value.int x1), (2, Value.int x3), (3, Value.int x7), (4, Value.int x17)]) dX11_goesBy_109 rfl (by decide) (by decide) (fun _ => rfl) (fun x17 => ?_)
              show G _ Γ _ _ _ _ _ _ _ [(0, Value.ref (a 0)), (1, Value.int x1), (2, Value.int x3), (3, Value.int x7), (4, Value.int x17)] (109 + 3) _
              refine g_goto (pc := 112) (tgt := 42) dX11_goesBy_112 (by decide) ?_
              exact hk9 s16 _
            · refine g_iload_n (pc := 55) 3 dX11_goesBy_55 rfl rfl ?_
              refine g_iload (pc := 56) 4 dX11_goesBy_56 rfl ?_
              refine g_cSz (pc := 58) (As := [Value.int x7, Value.int x10]) (fun r2 h2 => k_X11_has hI h2) wk_X11_has ws_X11_has bw_20_23 (by decide) (by decide) rfl rfl (Nat.le_of_ble_eq_true rfl) dX11_goesBy_58 (fun r18 s19 => ?_)
              refine g_if_eq (pc := 61) (tgt := 109) dX11_goesBy_61 (by decide) ?_ ?_
              · exact hk15 s19
              · refine g_aload_n (pc := 64) 0 dX11_goesBy_64 rfl rfl ?_
                refine g_iload (pc := 65) 4 dX11_goesBy_65 rfl ?_
                refine g_iload_n (pc := 67) 2 dX11_goesBy_67 rfl rfl ?_
                refine g_cVz (pc := 68) 0 (As := [Value.int x10, Value.int x3]) (fun r2 h2 => k_X11_letsOut__0 hI h2) wk_X11_letsOut wv_X11_letsOut bw_27_16 cM_0 rfl (by decide) (by decide) rfl rfl (Nat.le_of_ble_eq_true rfl) dX11_goesBy_68 (fun r20 s21 => ?_)
                refine g_if_eq (pc := 71) (tgt := 109) dX11_goesBy_71 (by decide) ?_ ?_
                · exact hk15 s21
                · refine g_iconst (pc := 74) (v := 1) dX11_goesBy_74 (by decide) ?_
                  refine g_istore (pc := 75) [1, 2, 3, 4, 5, 0] (lv1 := [(0, Value.ref (a 0)), (1, Value.int x1), (2, Value.int x3), (3, Value.int x7), (4, Value.int x10), (5, Value.int (1 : Int32))]) dX11_goesBy_75 (by decide) rfl ?_
                  refine g_lq1 (pc := 77) (lf := fun x23 => [((0 : Nat), Value.ref (a 0)), ((1 : Nat), Value.int x1), ((2 : Nat), Value.int x3), ((3 : Nat), Value.int x7), ((4 : Nat), Value.int x10), ((5 : Nat), Value.int x23)]) (sf := fun x23 => ([] : List Value)) (fun k22 hk22 s24 x23 => ?_) 100000 s21 _
                  show G _ Γ _ _ _ _ _ _ s24 [((0 : Nat), Value.ref (a 0)), ((1 : Nat), Value.int x1), ((2 : Nat), Value.int x3), ((3 : Nat), Value.int x7), ((4 : Nat), Value.int x10), ((5 : Nat), Value.int x23)] 77 ([] : List Value)
                  refine g_iload (pc := 77) 5 dX11_goesBy_77 rfl ?_
                  refine g_iconst (pc := 79) (v := 4) dX11_goesBy_79 (by decide) ?_
                  refine g_icmp_gt (pc := 80) (tgt := 109) dX11_goesBy_80 (by decide) ?_ ?_
                  · exact g_lv [0, 1, 2, 3, 4] rfl (hk15 s24)
                  · refine g_jq0 (pc2 := 103) (lf := [((0 : Nat), Value.ref (a 0)), ((1 : Nat), Value.int x1), ((2 : Nat), Value.int x3), ((3 : Nat), Value.int x7), ((4 : Nat), Value.int x10), ((5 : Nat), Value.int x23)]) (sf := ([] : List Value)) (fun s26 => ?_) (fun k25 hk25 => ?_)
                    · show G _ Γ _ _ _ _ _ _ s26 [((0 : Nat), Value.ref (a 0)), ((1 : Nat), Value.int x1), ((2 : Nat), Value.int x3), ((3 : Nat), Value.int x7), ((4 : Nat), Value.int x10), ((5 : Nat), Value.int x23)] 103 ([] : List Value)
                      refine g_iinc (pc := 103) [1, 2, 3, 4, 5, 0] 5 (n1 := 1) (lv1 := fun x27 => [(0, Value.ref (a 0)), (1, Value.int x1), (2, Value.int x3), (3, Value.int x7), (4, Value.int x10), (5, Value.int x27)]) dX11_goesBy_103 rfl (by decide) (by decide) (fun _ => rfl) (fun x27 => ?_)
                      show G _ Γ _ _ _ _ _ _ _ [(0, Value.ref (a 0)), (1, Value.int x1), (2, Value.int x3), (3, Value.int x7), (4, Value.int x10), (5, Value.int x27)] (103 + 3) _
                      refine g_goto (pc := 106) (tgt := 77) dX11_goesBy_106 (by decide) ?_
                      exact hk22 s26 _
                    · refine g_jq0 (pc2 := 93) (lf := [((0 : Nat), Value.ref (a 0)), ((1 : Nat), Value.int x1), ((2 : Nat), Value.int x3), ((3 : Nat), Value.int x7), ((4 : Nat), Value.int x10), ((5 : Nat), Value.int x23)]) (sf := ([] : List Value)) (fun s29 => ?_) (fun k28 hk28 => ?_)
                      · show G _ Γ _ _ _ _ _ _ s29 [((0 : Nat), Value.ref (a 0)), ((1 : Nat), Value.int x1), ((2 : Nat), Value.int x3), ((3 : Nat), Value.int x7), ((4 : Nat), Value.int x10), ((5 : Nat), Value.int x23)] 93 ([] : List Value)
                        refine g_aload_n (pc := 93) 0 dX11_goesBy_93 rfl rfl ?_
                        refine g_iload (pc := 94) 4 dX11_goesBy_94 rfl ?_
                        refine g_iload_n (pc := 96) 2 dX11_goesBy_96 rfl rfl ?_
                        refine g_iload (pc := 97) 5 dX11_goesBy_97 rfl ?_
                        refine g_iload_n (pc := 99) 3 dX11_goesBy_99 rfl rfl ?_
                        refine g_cVv (pc := 100) 0 (As := [Value.int x10, Value.int x3, Value.int x23, Value.int x7]) (fun r2 h2 => k_X11_blowsFrom__0 hI h2) wk_X11_blowsFrom wv_X11_blowsFrom bw_27_20 cM_0 rfl (by decide) (by decide) rfl rfl (Nat.le_of_ble_eq_true rfl) dX11_goesBy_100 (fun r30 s31 => ?_)
                        exact hk25 s31
                      · refine g_iload_n (pc := 83) 1 dX11_goesBy_83 rfl rfl ?_
                        refine g_if_eq (pc := 84) (tgt := 93) dX11_goesBy_84 (by decide) ?_ ?_
                        · exact hk28 s24
                        · refine g_iload_n (pc := 87) 1 dX11_goesBy_87 rfl rfl ?_
                          refine g_iload (pc := 88) 5 dX11_goesBy_88 rfl ?_
                          refine g_icmp_ne (pc := 90) (tgt := 103) dX11_goesBy_90 (by decide) ?_ ?_
                          · exact hk25 s24
                          · exact hk28 s24
    · refine g_jq0 (pc2 := 25) (lf := [((0 : Nat), Value.ref (a 0)), ((1 : Nat), Value.int x1), ((2 : Nat), Value.int x3)]) (sf := ([] : List Value)) (fun s33 => ?_) (fun k32 hk32 => ?_)
      · show G _ Γ _ _ _ _ _ _ s33 [((0 : Nat), Value.ref (a 0)), ((1 : Nat), Value.int x1), ((2 : Nat), Value.int x3)] 25 ([] : List Value)
        refine g_aload_n (pc := 25) 0 dX11_goesBy_25 rfl rfl ?_
        refine g_get (pc := 26) 0 cM_0 rfl inlX11 28 (by decide) bw_14_14 rfl dX11_goesBy_26 ?_
        refine g_bipush (pc := 29) (v := 17) dX11_goesBy_29 (by decide) ?_
        refine g_iload_n (pc := 31) 2 dX11_goesBy_31 rfl rfl ?_
        refine g_iadd (pc := 32) dX11_goesBy_32 ?_
        refine g_iald (pc := 33) 14 cM_14 rfl dX11_goesBy_33 ?_
        refine g_goto (pc := 34) (tgt := 38) dX11_goesBy_34 (by decide) ?_
        exact hk6 s33 _
      · refine g_aload_n (pc := 10) 0 dX11_goesBy_10 rfl rfl ?_
        refine g_get (pc := 11) 0 cM_0 rfl inlX11 29 (by decide) bw_20_18 rfl dX11_goesBy_11 ?_
        refine g_if_lt (pc := 14) (tgt := 25) dX11_goesBy_14 (by decide) ?_ ?_
        · exact hk32 s4
        · refine g_aload_n (pc := 17) 0 dX11_goesBy_17 rfl rfl ?_
          refine g_get (pc := 18) 0 cM_0 rfl inlX11 29 (by decide) bw_20_18 rfl dX11_goesBy_18 ?_
          refine g_iload_n (pc := 21) 2 dX11_goesBy_21 rfl rfl ?_
          refine g_icmp_ne (pc := 22) (tgt := 37) dX11_goesBy_22 (by decide) ?_ ?_
          · refine g_iconst (pc := 37) (v := 0) dX11_goesBy_37 (by decide) ?_
            exact hk6 s4 _
          · exact hk32 s4
