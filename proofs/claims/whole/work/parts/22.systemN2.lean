set_option maxRecDepth 100000 in
set_option maxHeartbeats 4000000 in
theorem k_X10_copy__26_21 {l : Launch} {D : va_G} {a : Nat → Nat} {cI cS : ClassId} (hI : ∀ σ : St, va_D (AN a) (cN a cI cS σ)) {σ : St} {r : Int32 × St} (h : f_X10_copy__26_21 σ = some r) : Kc (SN l D a cI cS) yX10_copy cX10_copy 3 none 1 [Value.ref (a 26), Value.ref (a 21)] σ r := by
  refine enter (own := RX10) (o := f_X10_copy__26_21 σ) (plainFor_of_name (by decide +kernel)) rfl (Nat.le_of_ble_eq_true rfl) hI wk_X10_copy.1 h (fun Γ hRT => ?_)
  show G _ Γ _ _ _ _ _ _ σ [((0 : Nat), Value.ref (a 26)), ((1 : Nat), Value.ref (a 21))] 0 []
  unfold f_X10_copy__26_21
  refine g_iconst (pc := 0) (v := 0) dX10_copy_0 (by decide) ?_
  refine g_istore_n (pc := 1) [1, 2, 0] (lv1 := [(0, Value.ref (a 26)), (1, Value.ref (a 21)), (2, Value.int (0 : Int32))]) dX10_copy_1 rfl (by decide) rfl ?_
  refine g_lq1 (pc := 2) (lf := fun x2 => [((0 : Nat), Value.ref (a 26)), ((1 : Nat), Value.ref (a 21)), ((2 : Nat), Value.int x2)]) (sf := fun x2 => ([] : List Value)) (fun k1 hk1 s3 x2 => ?_) 100000 σ _
  show G _ Γ _ _ _ _ _ _ s3 [((0 : Nat), Value.ref (a 26)), ((1 : Nat), Value.ref (a 21)), ((2 : Nat), Value.int x2)] 2 ([] : List Value)
  refine g_aload_n (pc := 2) 1 dX10_copy_2 rfl rfl ?_
  refine g_ifnull (pc := 3) dX10_copy_3 ?_
  refine g_iload_n (pc := 6) 2 dX10_copy_6 rfl rfl ?_
  refine g_aload_n (pc := 7) 1 dX10_copy_7 rfl rfl ?_
  refine g_alen (pc := 8) 21 0 (v := 5) cN_21 rfl (show Int32.ofNat 5 = 5 by decide) dX10_copy_8 ?_
  refine g_icmp_ge (pc := 9) (tgt := 26) dX10_copy_9 (by decide) ?_ ?_
  · exact g_vret (pc := 26) hRT dX10_copy_26
  · refine g_aload_n (pc := 12) 1 dX10_copy_12 rfl rfl ?_
    refine g_iload_n (pc := 13) 2 dX10_copy_13 rfl rfl ?_
    refine g_aload_n (pc := 14) 0 dX10_copy_14 rfl rfl ?_
    refine g_iload_n (pc := 15) 2 dX10_copy_15 rfl rfl ?_
    refine g_cSi (pc := 16) (As := [Value.ref (a 26), Value.int x2]) (fun r2 h2 => k_X10_at__26 hI h2) wk_X10_at ws_X10_at bw_24_10 (by decide) (by decide) rfl rfl (Nat.le_of_ble_eq_true rfl) dX10_copy_16 (fun r4 s5 => ?_)
    refine g_iast (pc := 19) 21 cN_21 rfl cN_s21 dX10_copy_19 (fun s6 => ?_)
    refine g_iinc (pc := 20) [1, 2, 0] 2 (n1 := 1) (lv1 := fun x7 => [(0, Value.ref (a 26)), (1, Value.ref (a 21)), (2, Value.int x7)]) dX10_copy_20 rfl (by decide) (by decide) (fun _ => rfl) (fun x7 => ?_)
    show G _ Γ _ _ _ _ _ _ _ [(0, Value.ref (a 26)), (1, Value.ref (a 21)), (2, Value.int x7)] (20 + 3) _
    refine g_goto (pc := 23) (tgt := 2) dX10_copy_23 (by decide) ?_
    exact hk1 s6 _
set_option maxRecDepth 100000 in
set_option maxHeartbeats 4000000 in
theorem k_X9_copyOf__19_24 {l : Launch} {D : va_G} {a : Nat → Nat} {cI cS : ClassId} (hI : ∀ σ : St, va_D (AN a) (cN a cI cS σ)) {σ : St} {r : Int32 × St} (h : f_X9_copyOf__19_24 σ = some r) : Kc (SN l D a cI cS) yX9_copyOf cX9_copyOf 2 none 2 [Value.ref (a 19), Value.ref (a 24)] σ r := by
  refine enter (own := RX9) (o := f_X9_copyOf__19_24 σ) (plainFor_of_name (by decide +kernel)) rfl (Nat.le_of_ble_eq_true rfl) hI wk_X9_copyOf.1 h (fun Γ hRT => ?_)
  show G _ Γ _ _ _ _ _ _ σ [((0 : Nat), Value.ref (a 19)), ((1 : Nat), Value.ref (a 24))] 0 []
  unfold f_X9_copyOf__19_24
  refine g_aload_n (pc := 0) 1 dX9_copyOf_0 rfl rfl ?_
  refine g_get (pc := 1) 24 cN_24 rfl inlX9 0 (by decide) bw_4_14 rfl dX9_copyOf_1 ?_
  refine g_aload_n (pc := 4) 0 dX9_copyOf_4 rfl rfl ?_
  refine g_get (pc := 5) 19 cN_19 rfl inlX9 0 (by decide) bw_4_14 rfl dX9_copyOf_5 ?_
  refine g_cNv (pc := 8) (As := [Value.ref (a 25), Value.ref (a 20)]) (fun r2 h2 => k_X10_copy__25_20 hI h2) wk_X10_copy ws_X10_copy nst_RX9_42 (by decide) (by decide) rfl rfl (Nat.le_of_ble_eq_true rfl) dX9_copyOf_8 (fun r1 s2 => ?_)
  refine g_aload_n (pc := 11) 1 dX9_copyOf_11 rfl rfl ?_
  refine g_get (pc := 12) 24 cN_24 rfl inlX9 1 (by decide) bw_4_15 rfl dX9_copyOf_12 ?_
  refine g_aload_n (pc := 15) 0 dX9_copyOf_15 rfl rfl ?_
  refine g_get (pc := 16) 19 cN_19 rfl inlX9 1 (by decide) bw_4_15 rfl dX9_copyOf_16 ?_
  refine g_cNv (pc := 19) (As := [Value.ref (a 26), Value.ref (a 21)]) (fun r2 h2 => k_X10_copy__26_21 hI h2) wk_X10_copy ws_X10_copy nst_RX9_42 (by decide) (by decide) rfl rfl (Nat.le_of_ble_eq_true rfl) dX9_copyOf_19 (fun r3 s4 => ?_)
  refine g_aload_n (pc := 22) 0 dX9_copyOf_22 rfl rfl ?_
  refine g_aload_n (pc := 23) 1 dX9_copyOf_23 rfl rfl ?_
  refine g_get (pc := 24) 24 cN_24 rfl inlX9 2 (by decide) bw_4_16 rfl dX9_copyOf_24 ?_
  refine g_put (pc := 27) 19 (ty := .int) cN_19 rfl inlX9 tyX9_ok nmX9 2 (by decide) bw_4_16 rfl (by decide +kernel) rfl rfl (Nat.le_of_ble_eq_true rfl) cN_f19_2 dX9_copyOf_27 (fun s5 => ?_)
  exact g_vret (pc := 30) hRT dX9_copyOf_30
set_option maxRecDepth 100000 in
set_option maxHeartbeats 4000000 in
theorem k_X10_at__28 {l : Launch} {D : va_G} {a : Nat → Nat} {cI cS : ClassId} (hI : ∀ σ : St, va_D (AN a) (cN a cI cS σ)) {σ : St} {x1 : Int32} {r : Int32 × St} (h : f_X10_at__28 σ x1 = some r) : Kc (SN l D a cI cS) yX10_at cX10_at 2 (some .int) 0 [Value.ref (a 28), Value.int x1] σ r := by
  refine enter (own := RX10) (o := f_X10_at__28 σ x1) (plainFor_of_name (by decide +kernel)) rfl (Nat.le_of_ble_eq_true rfl) hI wk_X10_at.1 h (fun Γ hRT => ?_)
  show G _ Γ _ _ _ _ _ _ σ [((0 : Nat), Value.ref (a 28)), ((1 : Nat), Value.int x1)] 0 []
  unfold f_X10_at__28
  refine g_aload_n (pc := 0) 0 dX10_at_0 rfl rfl ?_
  refine g_ifnull (pc := 1) dX10_at_1 ?_
  refine g_jq0 (pc2 := 20) (lf := ([] : List (Nat × Value))) (sf := ([] : List Value)) (fun s3 => ?_) (fun k2 hk2 => ?_)
  · show G _ Γ _ _ _ _ _ _ s3 ([] : List (Nat × Value)) 20 ([] : List Value)
    refine g_iconst (pc := 20) (v := 0) dX10_at_20 (by decide) ?_
    exact g_iret (pc := 21) hRT dX10_at_21
  · refine g_iload_n (pc := 4) 1 dX10_at_4 rfl rfl ?_
    refine g_if_lt (pc := 5) (tgt := 20) dX10_at_5 (by decide) ?_ ?_
    · exact g_lv [] rfl (hk2 σ)
    · refine g_iload_n (pc := 8) 1 dX10_at_8 rfl rfl ?_
      refine g_aload_n (pc := 9) 0 dX10_at_9 rfl rfl ?_
      refine g_alen (pc := 10) 28 0 (v := 16) cN_28 rfl (show Int32.ofNat 16 = 16 by decide) dX10_at_10 ?_
      refine g_icmp_ge (pc := 11) (tgt := 20) dX10_at_11 (by decide) ?_ ?_
      · exact g_lv [] rfl (hk2 σ)
      · refine g_aload_n (pc := 14) 0 dX10_at_14 rfl rfl ?_
        refine g_iload_n (pc := 15) 1 dX10_at_15 rfl rfl ?_
        refine g_iald (pc := 16) 28 cN_28 rfl dX10_at_16 ?_
        refine g_goto (pc := 17) (tgt := 21) dX10_at_17 (by decide) ?_
        exact g_iret (pc := 21) hRT dX10_at_21
set_option maxRecDepth 100000 in
set_option maxHeartbeats 4000000 in
theorem k_X10_copy__28_20 {l : Launch} {D : va_G} {a : Nat → Nat} {cI cS : ClassId} (hI : ∀ σ : St, va_D (AN a) (cN a cI cS σ)) {σ : St} {r : Int32 × St} (h : f_X10_copy__28_20 σ = some r) : Kc (SN l D a cI cS) yX10_copy cX10_copy 3 none 1 [Value.ref (a 28), Value.ref (a 20)] σ r := by
  refine enter (own := RX10) (o := f_X10_copy__28_20 σ) (plainFor_of_name (by decide +kernel)) rfl (Nat.le_of_ble_eq_true rfl) hI wk_X10_copy.1 h (fun Γ hRT => ?_)
  show G _ Γ _ _ _ _ _ _ σ [((0 : Nat), Value.ref (a 28)), ((1 : Nat), Value.ref (a 20))] 0 []
  unfold f_X10_copy__28_20
  refine g_iconst (pc := 0) (v := 0) dX10_copy_0 (by decide) ?_
  refine g_istore_n (pc := 1) [1, 2, 0] (lv1 := [(0, Value.ref (a 28)), (1, Value.ref (a 20)), (2, Value.int (0 : Int32))]) dX10_copy_1 rfl (by decide) rfl ?_
  refine g_lq1 (pc := 2) (lf := fun x2 => [((0 : Nat), Value.ref (a 28)), ((1 : Nat), Value.ref (a 20)), ((2 : Nat), Value.int x2)]) (sf := fun x2 => ([] : List Value)) (fun k1 hk1 s3 x2 => ?_) 100000 σ _
  show G _ Γ _ _ _ _ _ _ s3 [((0 : Nat), Value.ref (a 28)), ((1 : Nat), Value.ref (a 20)), ((2 : Nat), Value.int x2)] 2 ([] : List Value)
  refine g_aload_n (pc := 2) 1 dX10_copy_2 rfl rfl ?_
  refine g_ifnull (pc := 3) dX10_copy_3 ?_
  refine g_iload_n (pc := 6) 2 dX10_copy_6 rfl rfl ?_
  refine g_aload_n (pc := 7) 1 dX10_copy_7 rfl rfl ?_
  refine g_alen (pc := 8) 20 0 (v := 16) cN_20 rfl (show Int32.ofNat 16 = 16 by decide) dX10_copy_8 ?_
  refine g_icmp_ge (pc := 9) (tgt := 26) dX10_copy_9 (by decide) ?_ ?_
  · exact g_vret (pc := 26) hRT dX10_copy_26
  · refine g_aload_n (pc := 12) 1 dX10_copy_12 rfl rfl ?_
    refine g_iload_n (pc := 13) 2 dX10_copy_13 rfl rfl ?_
    refine g_aload_n (pc := 14) 0 dX10_copy_14 rfl rfl ?_
    refine g_iload_n (pc := 15) 2 dX10_copy_15 rfl rfl ?_
    refine g_cSi (pc := 16) (As := [Value.ref (a 28), Value.int x2]) (fun r2 h2 => k_X10_at__28 hI h2) wk_X10_at ws_X10_at bw_24_10 (by decide) (by decide) rfl rfl (Nat.le_of_ble_eq_true rfl) dX10_copy_16 (fun r4 s5 => ?_)
    refine g_iast (pc := 19) 20 cN_20 rfl cN_s20 dX10_copy_19 (fun s6 => ?_)
    refine g_iinc (pc := 20) [1, 2, 0] 2 (n1 := 1) (lv1 := fun x7 => [(0, Value.ref (a 28)), (1, Value.ref (a 20)), (2, Value.int x7)]) dX10_copy_20 rfl (by decide) (by decide) (fun _ => rfl) (fun x7 => ?_)
    show G _ Γ _ _ _ _ _ _ _ [(0, Value.ref (a 28)), (1, Value.ref (a 20)), (2, Value.int x7)] (20 + 3) _
    refine g_goto (pc := 23) (tgt := 2) dX10_copy_23 (by decide) ?_
    exact hk1 s6 _
set_option maxRecDepth 100000 in
set_option maxHeartbeats 4000000 in
theorem k_X10_at__29 {l : Launch} {D : va_G} {a : Nat → Nat} {cI cS : ClassId} (hI : ∀ σ : St, va_D (AN a) (cN a cI cS σ)) {σ : St} {x1 : Int32} {r : Int32 × St} (h : f_X10_at__29 σ x1 = some r) : Kc (SN l D a cI cS) yX10_at cX10_at 2 (some .int) 0 [Value.ref (a 29), Value.int x1] σ r := by
  refine enter (own := RX10) (o := f_X10_at__29 σ x1) (plainFor_of_name (by decide +kernel)) rfl (Nat.le_of_ble_eq_true rfl) hI wk_X10_at.1 h (fun Γ hRT => ?_)
  show G _ Γ _ _ _ _ _ _ σ [((0 : Nat), Value.ref (a 29)), ((1 : Nat), Value.int x1)] 0 []
  unfold f_X10_at__29
  refine g_aload_n (pc := 0) 0 dX10_at_0 rfl rfl ?_
  refine g_ifnull (pc := 1) dX10_at_1 ?_
  refine g_jq0 (pc2 := 20) (lf := ([] : List (Nat × Value))) (sf := ([] : List Value)) (fun s3 => ?_) (fun k2 hk2 => ?_)
  · show G _ Γ _ _ _ _ _ _ s3 ([] : List (Nat × Value)) 20 ([] : List Value)
    refine g_iconst (pc := 20) (v := 0) dX10_at_20 (by decide) ?_
    exact g_iret (pc := 21) hRT dX10_at_21
  · refine g_iload_n (pc := 4) 1 dX10_at_4 rfl rfl ?_
    refine g_if_lt (pc := 5) (tgt := 20) dX10_at_5 (by decide) ?_ ?_
    · exact g_lv [] rfl (hk2 σ)
    · refine g_iload_n (pc := 8) 1 dX10_at_8 rfl rfl ?_
      refine g_aload_n (pc := 9) 0 dX10_at_9 rfl rfl ?_
      refine g_alen (pc := 10) 29 0 (v := 5) cN_29 rfl (show Int32.ofNat 5 = 5 by decide) dX10_at_10 ?_
      refine g_icmp_ge (pc := 11) (tgt := 20) dX10_at_11 (by decide) ?_ ?_
      · exact g_lv [] rfl (hk2 σ)
      · refine g_aload_n (pc := 14) 0 dX10_at_14 rfl rfl ?_
        refine g_iload_n (pc := 15) 1 dX10_at_15 rfl rfl ?_
        refine g_iald (pc := 16) 29 cN_29 rfl dX10_at_16 ?_
        refine g_goto (pc := 17) (tgt := 21) dX10_at_17 (by decide) ?_
        exact g_iret (pc := 21) hRT dX10_at_21
set_option maxRecDepth 100000 in
set_option maxHeartbeats 4000000 in
theorem k_X10_copy__29_21 {l : Launch} {D : va_G} {a : Nat → Nat} {cI cS : ClassId} (hI : ∀ σ : St, va_D (AN a) (cN a cI cS σ)) {σ : St} {r : Int32 × St} (h : f_X10_copy__29_21 σ = some r) : Kc (SN l D a cI cS) yX10_copy cX10_copy 3 none 1 [Value.ref (a 29), Value.ref (a 21)] σ r := by
  refine enter (own := RX10) (o := f_X10_copy__29_21 σ) (plainFor_of_name (by decide +kernel)) rfl (Nat.le_of_ble_eq_true rfl) hI wk_X10_copy.1 h (fun Γ hRT => ?_)
  show G _ Γ _ _ _ _ _ _ σ [((0 : Nat), Value.ref (a 29)), ((1 : Nat), Value.ref (a 21))] 0 []
  unfold f_X10_copy__29_21
  refine g_iconst (pc := 0) (v := 0) dX10_copy_0 (by decide) ?_
  refine g_istore_n (pc := 1) [1, 2, 0] (lv1 := [(0, Value.ref (a 29)), (1, Value.ref (a 21)), (2, Value.int (0 : Int32))]) dX10_copy_1 rfl (by decide) rfl ?_
  refine g_lq1 (pc := 2) (lf := fun x2 => [((0 : Nat), Value.ref (a 29)), ((1 : Nat), Value.ref (a 21)), ((2 : Nat), Value.int x2)]) (sf := fun x2 => ([] : List Value)) (fun k1 hk1 s3 x2 => ?_) 100000 σ _
  show G _ Γ _ _ _ _ _ _ s3 [((0 : Nat), Value.ref (a 29)), ((1 : Nat), Value.ref (a 21)), ((2 : Nat), Value.int x2)] 2 ([] : List Value)
  refine g_aload_n (pc := 2) 1 dX10_copy_2 rfl rfl ?_
  refine g_ifnull (pc := 3) dX10_copy_3 ?_
  refine g_iload_n (pc := 6) 2 dX10_copy_6 rfl rfl ?_
  refine g_aload_n (pc := 7) 1 dX10_copy_7 rfl rfl ?_
  refine g_alen (pc := 8) 21 0 (v := 5) cN_21 rfl (show Int32.ofNat 5 = 5 by decide) dX10_copy_8 ?_
  refine g_icmp_ge (pc := 9) (tgt := 26) dX10_copy_9 (by decide) ?_ ?_
  · exact g_vret (pc := 26) hRT dX10_copy_26
  · refine g_aload_n (pc := 12) 1 dX10_copy_12 rfl rfl ?_
    refine g_iload_n (pc := 13) 2 dX10_copy_13 rfl rfl ?_
    refine g_aload_n (pc := 14) 0 dX10_copy_14 rfl rfl ?_
    refine g_iload_n (pc := 15) 2 dX10_copy_15 rfl rfl ?_
    refine g_cSi (pc := 16) (As := [Value.ref (a 29), Value.int x2]) (fun r2 h2 => k_X10_at__29 hI h2) wk_X10_at ws_X10_at bw_24_10 (by decide) (by decide) rfl rfl (Nat.le_of_ble_eq_true rfl) dX10_copy_16 (fun r4 s5 => ?_)
    refine g_iast (pc := 19) 21 cN_21 rfl cN_s21 dX10_copy_19 (fun s6 => ?_)
    refine g_iinc (pc := 20) [1, 2, 0] 2 (n1 := 1) (lv1 := fun x7 => [(0, Value.ref (a 29)), (1, Value.ref (a 21)), (2, Value.int x7)]) dX10_copy_20 rfl (by decide) (by decide) (fun _ => rfl) (fun x7 => ?_)
    show G _ Γ _ _ _ _ _ _ _ [(0, Value.ref (a 29)), (1, Value.ref (a 21)), (2, Value.int x7)] (20 + 3) _
    refine g_goto (pc := 23) (tgt := 2) dX10_copy_23 (by decide) ?_
    exact hk1 s6 _
set_option maxRecDepth 100000 in
set_option maxHeartbeats 4000000 in
theorem k_X9_copyOf__19_27 {l : Launch} {D : va_G} {a : Nat → Nat} {cI cS : ClassId} (hI : ∀ σ : St, va_D (AN a) (cN a cI cS σ)) {σ : St} {r : Int32 × St} (h : f_X9_copyOf__19_27 σ = some r) : Kc (SN l D a cI cS) yX9_copyOf cX9_copyOf 2 none 2 [Value.ref (a 19), Value.ref (a 27)] σ r := by
  refine enter (own := RX9) (o := f_X9_copyOf__19_27 σ) (plainFor_of_name (by decide +kernel)) rfl (Nat.le_of_ble_eq_true rfl) hI wk_X9_copyOf.1 h (fun Γ hRT => ?_)
  show G _ Γ _ _ _ _ _ _ σ [((0 : Nat), Value.ref (a 19)), ((1 : Nat), Value.ref (a 27))] 0 []
  unfold f_X9_copyOf__19_27
  refine g_aload_n (pc := 0) 1 dX9_copyOf_0 rfl rfl ?_
  refine g_get (pc := 1) 27 cN_27 rfl inlX9 0 (by decide) bw_4_14 rfl dX9_copyOf_1 ?_
  refine g_aload_n (pc := 4) 0 dX9_copyOf_4 rfl rfl ?_
  refine g_get (pc := 5) 19 cN_19 rfl inlX9 0 (by decide) bw_4_14 rfl dX9_copyOf_5 ?_
  refine g_cNv (pc := 8) (As := [Value.ref (a 28), Value.ref (a 20)]) (fun r2 h2 => k_X10_copy__28_20 hI h2) wk_X10_copy ws_X10_copy nst_RX9_42 (by decide) (by decide) rfl rfl (Nat.le_of_ble_eq_true rfl) dX9_copyOf_8 (fun r1 s2 => ?_)
  refine g_aload_n (pc := 11) 1 dX9_copyOf_11 rfl rfl ?_
  refine g_get (pc := 12) 27 cN_27 rfl inlX9 1 (by decide) bw_4_15 rfl dX9_copyOf_12 ?_
  refine g_aload_n (pc := 15) 0 dX9_copyOf_15 rfl rfl ?_
  refine g_get (pc := 16) 19 cN_19 rfl inlX9 1 (by decide) bw_4_15 rfl dX9_copyOf_16 ?_
  refine g_cNv (pc := 19) (As := [Value.ref (a 29), Value.ref (a 21)]) (fun r2 h2 => k_X10_copy__29_21 hI h2) wk_X10_copy ws_X10_copy nst_RX9_42 (by decide) (by decide) rfl rfl (Nat.le_of_ble_eq_true rfl) dX9_copyOf_19 (fun r3 s4 => ?_)
  refine g_aload_n (pc := 22) 0 dX9_copyOf_22 rfl rfl ?_
  refine g_aload_n (pc := 23) 1 dX9_copyOf_23 rfl rfl ?_
  refine g_get (pc := 24) 27 cN_27 rfl inlX9 2 (by decide) bw_4_16 rfl dX9_copyOf_24 ?_
  refine g_put (pc := 27) 19 (ty := .int) cN_19 rfl inlX9 tyX9_ok nmX9 2 (by decide) bw_4_16 rfl (by decide +kernel) rfl rfl (Nat.le_of_ble_eq_true rfl) cN_f19_2 dX9_copyOf_27 (fun s5 => ?_)
  exact g_vret (pc := 30) hRT dX9_copyOf_30
set_option maxRecDepth 100000 in
set_option maxHeartbeats 4000000 in
theorem k_X10_at__31 {l : Launch} {D : va_G} {a : Nat → Nat} {cI cS : ClassId} (hI : ∀ σ : St, va_D (AN a) (cN a cI cS σ)) {σ : St} {x1 : Int32} {r : Int32 × St} (h : f_X10_at__31 σ x1 = some r) : Kc (SN l D a cI cS) yX10_at cX10_at 2 (some .int) 0 [Value.ref (a 31), Value.int x1] σ r := by
  refine enter (own := RX10) (o := f_X10_at__31 σ x1) (plainFor_of_name (by decide +kernel)) rfl (Nat.le_of_ble_eq_true rfl) hI wk_X10_at.1 h (fun Γ hRT => ?_)
  show G _ Γ _ _ _ _ _ _ σ [((0 : Nat), Value.ref (a 31)), ((1 : Nat), Value.int x1)] 0 []
  unfold f_X10_at__31
  refine g_aload_n (pc := 0) 0 dX10_at_0 rfl rfl ?_
  refine g_ifnull (pc := 1) dX10_at_1 ?_
  refine g_jq0 (pc2 := 20) (lf := ([] : List (Nat × Value))) (sf := ([] : List Value)) (fun s3 => ?_) (fun k2 hk2 => ?_)
  · show G _ Γ _ _ _ _ _ _ s3 ([] : List (Nat × Value)) 20 ([] : List Value)
    refine g_iconst (pc := 20) (v := 0) dX10_at_20 (by decide) ?_
    exact g_iret (pc := 21) hRT dX10_at_21
  · refine g_iload_n (pc := 4) 1 dX10_at_4 rfl rfl ?_
    refine g_if_lt (pc := 5) (tgt := 20) dX10_at_5 (by decide) ?_ ?_
    · exact g_lv [] rfl (hk2 σ)
    · refine g_iload_n (pc := 8) 1 dX10_at_8 rfl rfl ?_
      refine g_aload_n (pc := 9) 0 dX10_at_9 rfl rfl ?_
      refine g_alen (pc := 10) 31 0 (v := 16) cN_31 rfl (show Int32.ofNat 16 = 16 by decide) dX10_at_10 ?_
      refine g_icmp_ge (pc := 11) (tgt := 20) dX10_at_11 (by decide) ?_ ?_
      · exact g_lv [] rfl (hk2 σ)
      · refine g_aload_n (pc := 14) 0 dX10_at_14 rfl rfl ?_
        refine g_iload_n (pc := 15) 1 dX10_at_15 rfl rfl ?_
        refine g_iald (pc := 16) 31 cN_31 rfl dX10_at_16 ?_
        refine g_goto (pc := 17) (tgt := 21) dX10_at_17 (by decide) ?_
        exact g_iret (pc := 21) hRT dX10_at_21
set_option maxRecDepth 100000 in
set_option maxHeartbeats 4000000 in
theorem k_X10_copy__31_20 {l : Launch} {D : va_G} {a : Nat → Nat} {cI cS : ClassId} (hI : ∀ σ : St, va_D (AN a) (cN a cI cS σ)) {σ : St} {r : Int32 × St} (h : f_X10_copy__31_20 σ = some r) : Kc (SN l D a cI cS) yX10_copy cX10_copy 3 none 1 [Value.ref (a 31), Value.ref (a 20)] σ r := by
  refine enter (own := RX10) (o := f_X10_copy__31_20 σ) (plainFor_of_name (by decide +kernel)) rfl (Nat.le_of_ble_eq_true rfl) hI wk_X10_copy.1 h (fun Γ hRT => ?_)
  show G _ Γ _ _ _ _ _ _ σ [((0 : Nat), Value.ref (a 31)), ((1 : Nat), Value.ref (a 20))] 0 []
  unfold f_X10_copy__31_20
  refine g_iconst (pc := 0) (v := 0) dX10_copy_0 (by decide) ?_
  refine g_istore_n (pc := 1) [1, 2, 0] (lv1 := [(0, Value.ref (a 31)), (1, Value.ref (a 20)), (2, Value.int (0 : Int32))]) dX10_copy_1 rfl (by decide) rfl ?_
  refine g_lq1 (pc := 2) (lf := fun x2 => [((0 : Nat), Value.ref (a 31)), ((1 : Nat), Value.ref (a 20)), ((2 : Nat), Value.int x2)]) (sf := fun x2 => ([] : List Value)) (fun k1 hk1 s3 x2 => ?_) 100000 σ _
  show G _ Γ _ _ _ _ _ _ s3 [((0 : Nat), Value.ref (a 31)), ((1 : Nat), Value.ref (a 20)), ((2 : Nat), Value.int x2)] 2 ([] : List Value)
  refine g_aload_n (pc := 2) 1 dX10_copy_2 rfl rfl ?_
  refine g_ifnull (pc := 3) dX10_copy_3 ?_
  refine g_iload_n (pc := 6) 2 dX10_copy_6 rfl rfl ?_
  refine g_aload_n (pc := 7) 1 dX10_copy_7 rfl rfl ?_
  refine g_alen (pc := 8) 20 0 (v := 16) cN_20 rfl (show Int32.ofNat 16 = 16 by decide) dX10_copy_8 ?_
  refine g_icmp_ge (pc := 9) (tgt := 26) dX10_copy_9 (by decide) ?_ ?_
  · exact g_vret (pc := 26) hRT dX10_copy_26
  · refine g_aload_n (pc := 12) 1 dX10_copy_12 rfl rfl ?_
    refine g_iload_n (pc := 13) 2 dX10_copy_13 rfl rfl ?_
    refine g_aload_n (pc := 14) 0 dX10_copy_14 rfl rfl ?_
    refine g_iload_n (pc := 15) 2 dX10_copy_15 rfl rfl ?_
    refine g_cSi (pc := 16) (As := [Value.ref (a 31), Value.int x2]) (fun r2 h2 => k_X10_at__31 hI h2) wk_X10_at ws_X10_at bw_24_10 (by decide) (by decide) rfl rfl (Nat.le_of_ble_eq_true rfl) dX10_copy_16 (fun r4 s5 => ?_)
    refine g_iast (pc := 19) 20 cN_20 rfl cN_s20 dX10_copy_19 (fun s6 => ?_)
    refine g_iinc (pc := 20) [1, 2, 0] 2 (n1 := 1) (lv1 := fun x7 => [(0, Value.ref (a 31)), (1, Value.ref (a 20)), (2, Value.int x7)]) dX10_copy_20 rfl (by decide) (by decide) (fun _ => rfl) (fun x7 => ?_)
    show G _ Γ _ _ _ _ _ _ _ [(0, Value.ref (a 31)), (1, Value.ref (a 20)), (2, Value.int x7)] (20 + 3) _
    refine g_goto (pc := 23) (tgt := 2) dX10_copy_23 (by decide) ?_
    exact hk1 s6 _
set_option maxRecDepth 100000 in
set_option maxHeartbeats 4000000 in
theorem k_X10_at__32 {l : Launch} {D : va_G} {a : Nat → Nat} {cI cS : ClassId} (hI : ∀ σ : St, va_D (AN a) (cN a cI cS σ)) {σ : St} {x1 : Int32} {r : Int32 × St} (h : f_X10_at__32 σ x1 = some r) : Kc (SN l D a cI cS) yX10_at cX10_at 2 (some .int) 0 [Value.ref (a 32), Value.int x1] σ r := by
  refine enter (own := RX10) (o := f_X10_at__32 σ x1) (plainFor_of_name (by decide +kernel)) rfl (Nat.le_of_ble_eq_true rfl) hI wk_X10_at.1 h (fun Γ hRT => ?_)
  show G _ Γ _ _ _ _ _ _ σ [((0 : Nat), Value.ref (a 32)), ((1 : Nat), Value.int x1)] 0 []
  unfold f_X10_at__32
  refine g_aload_n (pc := 0) 0 dX10_at_0 rfl rfl ?_
  refine g_ifnull (pc := 1) dX10_at_1 ?_
  refine g_jq0 (pc2 := 20) (lf := ([] : List (Nat × Value))) (sf := ([] : List Value)) (fun s3 => ?_) (fun k2 hk2 => ?_)
  · show G _ Γ _ _ _ _ _ _ s3 ([] : List (Nat × Value)) 20 ([] : List Value)
    refine g_iconst (pc := 20) (v := 0) dX10_at_20 (by decide) ?_
    exact g_iret (pc := 21) hRT dX10_at_21
  · refine g_iload_n (pc := 4) 1 dX10_at_4 rfl rfl ?_
    refine g_if_lt (pc := 5) (tgt := 20) dX10_at_5 (by decide) ?_ ?_
    · exact g_lv [] rfl (hk2 σ)
    · refine g_iload_n (pc := 8) 1 dX10_at_8 rfl rfl ?_
      refine g_aload_n (pc := 9) 0 dX10_at_9 rfl rfl ?_
      refine g_alen (pc := 10) 32 0 (v := 5) cN_32 rfl (show Int32.ofNat 5 = 5 by decide) dX10_at_10 ?_
      refine g_icmp_ge (pc := 11) (tgt := 20) dX10_at_11 (by decide) ?_ ?_
      · exact g_lv [] rfl (hk2 σ)
      · refine g_aload_n (pc := 14) 0 dX10_at_14 rfl rfl ?_
        refine g_iload_n (pc := 15) 1 dX10_at_15 rfl rfl ?_
        refine g_iald (pc := 16) 32 cN_32 rfl dX10_at_16 ?_
        refine g_goto (pc := 17) (tgt := 21) dX10_at_17 (by decide) ?_
        exact g_iret (pc := 21) hRT dX10_at_21
set_option maxRecDepth 100000 in
set_option maxHeartbeats 4000000 in
theorem k_X10_copy__32_21 {l : Launch} {D : va_G} {a : Nat → Nat} {cI cS : ClassId} (hI : ∀ σ : St, va_D (AN a) (cN a cI cS σ)) {σ : St} {r : Int32 × St} (h : f_X10_copy__32_21 σ = some r) : Kc (SN l D a cI cS) yX10_copy cX10_copy 3 none 1 [Value.ref (a 32), Value.ref (a 21)] σ r := by
  refine enter (own := RX10) (o := f_X10_copy__32_21 σ) (plainFor_of_name (by decide +kernel)) rfl (Nat.le_of_ble_eq_true rfl) hI wk_X10_copy.1 h (fun Γ hRT => ?_)
  show G _ Γ _ _ _ _ _ _ σ [((0 : Nat), Value.ref (a 32)), ((1 : Nat), Value.ref (a 21))] 0 []
  unfold f_X10_copy__32_21
  refine g_iconst (pc := 0) (v := 0) dX10_copy_0 (by decide) ?_
  refine g_istore_n (pc := 1) [1, 2, 0] (lv1 := [(0, Value.ref (a 32)), (1, Value.ref (a 21)), (2, Value.int (0 : Int32))]) dX10_copy_1 rfl (by decide) rfl ?_
  refine g_lq1 (pc := 2) (lf := fun x2 => [((0 : Nat), Value.ref (a 32)), ((1 : Nat), Value.ref (a 21)), ((2 : Nat), Value.int x2)]) (sf := fun x2 => ([] : List Value)) (fun k1 hk1 s3 x2 => ?_) 100000 σ _
  show G _ Γ _ _ _ _ _ _ s3 [((0 : Nat), Value.ref (a 32)), ((1 : Nat), Value.ref (a 21)), ((2 : Nat), Value.int x2)] 2 ([] : List Value)
  refine g_aload_n (pc := 2) 1 dX10_copy_2 rfl rfl ?_
  refine g_ifnull (pc := 3) dX10_copy_3 ?_
  refine g_iload_n (pc := 6) 2 dX10_copy_6 rfl rfl ?_
  refine g_aload_n (pc := 7) 1 dX10_copy_7 rfl rfl ?_
  refine g_alen (pc := 8) 21 0 (v := 5) cN_21 rfl (show Int32.ofNat 5 = 5 by decide) dX10_copy_8 ?_
  refine g_icmp_ge (pc := 9) (tgt := 26) dX10_copy_9 (by decide) ?_ ?_
  · exact g_vret (pc := 26) hRT dX10_copy_26
  · refine g_aload_n (pc := 12) 1 dX10_copy_12 rfl rfl ?_
    refine g_iload_n (pc := 13) 2 dX10_copy_13 rfl rfl ?_
    refine g_aload_n (pc := 14) 0 dX10_copy_14 rfl rfl ?_
    refine g_iload_n (pc := 15) 2 dX10_copy_15 rfl rfl ?_
    refine g_cSi (pc := 16) (As := [Value.ref (a 32), Value.int x2]) (fun r2 h2 => k_X10_at__32 hI h2) wk_X10_at ws_X10_at bw_24_10 (by decide) (by decide) rfl rfl (Nat.le_of_ble_eq_true rfl) dX10_copy_16 (fun r4 s5 => ?_)
    refine g_iast (pc := 19) 21 cN_21 rfl cN_s21 dX10_copy_19 (fun s6 => ?_)
    refine g_iinc (pc := 20) [1, 2, 0] 2 (n1 := 1) (lv1 := fun x7 => [(0, Value.ref (a 32)), (1, Value.ref (a 21)), (2, Value.int x7)]) dX10_copy_20 rfl (by decide) (by decide) (fun _ => rfl) (fun x7 => ?_)
    show G _ Γ _ _ _ _ _ _ _ [(0, Value.ref (a 32)), (1, Value.ref (a 21)), (2, Value.int x7)] (20 + 3) _
    refine g_goto (pc := 23) (tgt := 2) dX10_copy_23 (by decide) ?_
    exact hk1 s6 _
set_option maxRecDepth 100000 in
set_option maxHeartbeats 4000000 in
theorem k_X9_copyOf__19_30 {l : Launch} {D : va_G} {a : Nat → Nat} {cI cS : ClassId} (hI : ∀ σ : St, va_D (AN a) (cN a cI cS σ)) {σ : St} {r : Int32 × St} (h : f_X9_copyOf__19_30 σ = some r) : Kc (SN l D a cI cS) yX9_copyOf cX9_copyOf 2 none 2 [Value.ref (a 19), Value.ref (a 30)] σ r := by
  refine enter (own := RX9) (o := f_X9_copyOf__19_30 σ) (plainFor_of_name (by decide +kernel)) rfl (Nat.le_of_ble_eq_true rfl) hI wk_X9_copyOf.1 h (fun Γ hRT => ?_)
  show G _ Γ _ _ _ _ _ _ σ [((0 : Nat), Value.ref (a 19)), ((1 : Nat), Value.ref (a 30))] 0 []
  unfold f_X9_copyOf__19_30
  refine g_aload_n (pc := 0) 1 dX9_copyOf_0 rfl rfl ?_
  refine g_get (pc := 1) 30 cN_30 rfl inlX9 0 (by decide) bw_4_14 rfl dX9_copyOf_1 ?_
  refine g_aload_n (pc := 4) 0 dX9_copyOf_4 rfl rfl ?_
  refine g_get (pc := 5) 19 cN_19 rfl inlX9 0 (by decide) bw_4_14 rfl dX9_copyOf_5 ?_
  refine g_cNv (pc := 8) (As := [Value.ref (a 31), Value.ref (a 20)]) (fun r2 h2 => k_X10_copy__31_20 hI h2) wk_X10_copy ws_X10_copy nst_RX9_42 (by decide) (by decide) rfl rfl (Nat.le_of_ble_eq_true rfl) dX9_copyOf_8 (fun r1 s2 => ?_)
  refine g_aload_n (pc := 11) 1 dX9_copyOf_11 rfl rfl ?_
  refine g_get (pc := 12) 30 cN_30 rfl inlX9 1 (by decide) bw_4_15 rfl dX9_copyOf_12 ?_
  refine g_aload_n (pc := 15) 0 dX9_copyOf_15 rfl rfl ?_
  refine g_get (pc := 16) 19 cN_19 rfl inlX9 1 (by decide) bw_4_15 rfl dX9_copyOf_16 ?_
  refine g_cNv (pc := 19) (As := [Value.ref (a 32), Value.ref (a 21)]) (fun r2 h2 => k_X10_copy__32_21 hI h2) wk_X10_copy ws_X10_copy nst_RX9_42 (by decide) (by decide) rfl rfl (Nat.le_of_ble_eq_true rfl) dX9_copyOf_19 (fun r3 s4 => ?_)
  refine g_aload_n (pc := 22) 0 dX9_copyOf_22 rfl rfl ?_
  refine g_aload_n (pc := 23) 1 dX9_copyOf_23 rfl rfl ?_
  refine g_get (pc := 24) 30 cN_30 rfl inlX9 2 (by decide) bw_4_16 rfl dX9_copyOf_24 ?_
  refine g_put (pc := 27) 19 (ty := .int) cN_19 rfl inlX9 tyX9_ok nmX9 2 (by decide) bw_4_16 rfl (by decide +kernel) rfl rfl (Nat.le_of_ble_eq_true rfl) cN_f19_2 dX9_copyOf_27 (fun s5 => ?_)
  exact g_vret (pc := 30) hRT dX9_copyOf_30
set_option maxRecDepth 100000 in
set_option maxHeartbeats 4000000 in
theorem k_X10_at__34 {l : Launch} {D : va_G} {a : Nat → Nat} {cI cS : ClassId} (hI : ∀ σ : St, va_D (AN a) (cN a cI cS σ)) {σ : St} {x1 : Int32} {r : Int32 × St} (h : f_X10_at__34 σ x1 = some r) : Kc (SN l D a cI cS) yX10_at cX10_at 2 (some .int) 0 [Value.ref (a 34), Value.int x1] σ r := by
  refine enter (own := RX10) (o := f_X10_at__34 σ x1) (plainFor_of_name (by decide +kernel)) rfl (Nat.le_of_ble_eq_true rfl) hI wk_X10_at.1 h (fun Γ hRT => ?_)
  show G _ Γ _ _ _ _ _ _ σ [((0 : Nat), Value.ref (a 34)), ((1 : Nat), Value.int x1)] 0 []
  unfold f_X10_at__34
  refine g_aload_n (pc := 0) 0 dX10_at_0 rfl rfl ?_
  refine g_ifnull (pc := 1) dX10_at_1 ?_
  refine g_jq0 (pc2 := 20) (lf := ([] : List (Nat × Value))) (sf := ([] : List Value)) (fun s3 => ?_) (fun k2 hk2 => ?_)
  · show G _ Γ _ _ _ _ _ _ s3 ([] : List (Nat × Value)) 20 ([] : List Value)
    refine g_iconst (pc := 20) (v := 0) dX10_at_20 (by decide) ?_
    exact g_iret (pc := 21) hRT dX10_at_21
  · refine g_iload_n (pc := 4) 1 dX10_at_4 rfl rfl ?_
    refine g_if_lt (pc := 5) (tgt := 20) dX10_at_5 (by decide) ?_ ?_
    · exact g_lv [] rfl (hk2 σ)
    · refine g_iload_n (pc := 8) 1 dX10_at_8 rfl rfl ?_
      refine g_aload_n (pc := 9) 0 dX10_at_9 rfl rfl ?_
      refine g_alen (pc := 10) 34 0 (v := 16) cN_34 rfl (show Int32.ofNat 16 = 16 by decide) dX10_at_10 ?_
      refine g_icmp_ge (pc := 11) (tgt := 20) dX10_at_11 (by decide) ?_ ?_
      · exact g_lv [] rfl (hk2 σ)
      · refine g_aload_n (pc := 14) 0 dX10_at_14 rfl rfl ?_
        refine g_iload_n (pc := 15) 1 dX10_at_15 rfl rfl ?_
        refine g_iald (pc := 16) 34 cN_34 rfl dX10_at_16 ?_
        refine g_goto (pc := 17) (tgt := 21) dX10_at_17 (by decide) ?_
        exact g_iret (pc := 21) hRT dX10_at_21
set_option maxRecDepth 100000 in
set_option maxHeartbeats 4000000 in
theorem k_X10_copy__34_20 {l : Launch} {D : va_G} {a : Nat → Nat} {cI cS : ClassId} (hI : ∀ σ : St, va_D (AN a) (cN a cI cS σ)) {σ : St} {r : Int32 × St} (h : f_X10_copy__34_20 σ = some r) : Kc (SN l D a cI cS) yX10_copy cX10_copy 3 none 1 [Value.ref (a 34), Value.ref (a 20)] σ r := by
  refine enter (own := RX10) (o := f_X10_copy__34_20 σ) (plainFor_of_name (by decide +kernel)) rfl (Nat.le_of_ble_eq_true rfl) hI wk_X10_copy.1 h (fun Γ hRT => ?_)
  show G _ Γ _ _ _ _ _ _ σ [((0 : Nat), Value.ref (a 34)), ((1 : Nat), Value.ref (a 20))] 0 []
  unfold f_X10_copy__34_20
  refine g_iconst (pc := 0) (v := 0) dX10_copy_0 (by decide) ?_
  refine g_istore_n (pc := 1) [1, 2, 0] (lv1 := [(0, Value.ref (a 34)), (1, Value.ref (a 20)), (2, Value.int (0 : Int32))]) dX10_copy_1 rfl (by decide) rfl ?_
  refine g_lq1 (pc := 2) (lf := fun x2 => [((0 : Nat), Value.ref (a 34)), ((1 : Nat), Value.ref (a 20)), ((2 : Nat), Value.int x2)]) (sf := fun x2 => ([] : List Value)) (fun k1 hk1 s3 x2 => ?_) 100000 σ _
  show G _ Γ _ _ _ _ _ _ s3 [((0 : Nat), Value.ref (a 34)), ((1 : Nat), Value.ref (a 20)), ((2 : Nat), Value.int x2)] 2 ([] : List Value)
  refine g_aload_n (pc := 2) 1 dX10_copy_2 rfl rfl ?_
  refine g_ifnull (pc := 3) dX10_copy_3 ?_
  refine g_iload_n (pc := 6) 2 dX10_copy_6 rfl rfl ?_
  refine g_aload_n (pc := 7) 1 dX10_copy_7 rfl rfl ?_
  refine g_alen (pc := 8) 20 0 (v := 16) cN_20 rfl (show Int32.ofNat 16 = 16 by decide) dX10_copy_8 ?_
  refine g_icmp_ge (pc := 9) (tgt := 26) dX10_copy_9 (by decide) ?_ ?_
  · exact g_vret (pc := 26) hRT dX10_copy_26
  · refine g_aload_n (pc := 12) 1 dX10_copy_12 rfl rfl ?_
    refine g_iload_n (pc := 13) 2 dX10_copy_13 rfl rfl ?_
    refine g_aload_n (pc := 14) 0 dX10_copy_14 rfl rfl ?_
    refine g_iload_n (pc := 15) 2 dX10_copy_15 rfl rfl ?_
    refine g_cSi (pc := 16) (As := [Value.ref (a 34), Value.int x2]) (fun r2 h2 => k_X10_at__34 hI h2) wk_X10_at ws_X10_at bw_24_10 (by decide) (by decide) rfl rfl (Nat.le_of_ble_eq_true rfl) dX10_copy_16 (fun r4 s5 => ?_)
    refine g_iast (pc := 19) 20 cN_20 rfl cN_s20 dX10_copy_19 (fun s6 => ?_)
    refine g_iinc (pc := 20) [1, 2, 0] 2 (n1 := 1) (lv1 := fun x7 => [(0, Value.ref (a 34)), (1, Value.ref (a 20)), (2, Value.int x7)]) dX10_copy_20 rfl (by decide) (by decide) (fun _ => rfl) (fun x7 => ?_)
    show G _ Γ _ _ _ _ _ _ _ [(0, Value.ref (a 34)), (1, Value.ref (a 20)), (2, Value.int x7)] (20 + 3) _
    refine g_goto (pc := 23) (tgt := 2) dX10_copy_23 (by decide) ?_
    exact hk1 s6 _
set_option maxRecDepth 100000 in
set_option maxHeartbeats 4000000 in
theorem k_X10_at__35 {l : Launch} {D : va_G} {a : Nat → Nat} {cI cS : ClassId} (hI : ∀ σ : St, va_D (AN a) (cN a cI cS σ)) {σ : St} {x1 : Int32} {r : Int32 × St} (h : f_X10_at__35 σ x1 = some r) : Kc (SN l D a cI cS) yX10_at cX10_at 2 (some .int) 0 [Value.ref (a 35), Value.int x1] σ r := by
  refine enter (own := RX10) (o := f_X10_at__35 σ x1) (plainFor_of_name (by decide +kernel)) rfl (Nat.le_of_ble_eq_true rfl) hI wk_X10_at.1 h (fun Γ hRT => ?_)
  show G _ Γ _ _ _ _ _ _ σ [((0 : Nat), Value.ref (a 35)), ((1 : Nat), Value.int x1)] 0 []
  unfold f_X10_at__35
  refine g_aload_n (pc := 0) 0 dX10_at_0 rfl rfl ?_
  refine g_ifnull (pc := 1) dX10_at_1 ?_
  refine g_jq0 (pc2 := 20) (lf := ([] : List (Nat × Value))) (sf := ([] : List Value)) (fun s3 => ?_) (fun k2 hk2 => ?_)
  · show G _ Γ _ _ _ _ _ _ s3 ([] : List (Nat × Value)) 20 ([] : List Value)
    refine g_iconst (pc := 20) (v := 0) dX10_at_20 (by decide) ?_
    exact g_iret (pc := 21) hRT dX10_at_21
  · refine g_iload_n (pc := 4) 1 dX10_at_4 rfl rfl ?_
    refine g_if_lt (pc := 5) (tgt := 20) dX10_at_5 (by decide) ?_ ?_
    · exact g_lv [] rfl (hk2 σ)
    · refine g_iload_n (pc := 8) 1 dX10_at_8 rfl rfl ?_
      refine g_aload_n (pc := 9) 0 dX10_at_9 rfl rfl ?_
      refine g_alen (pc := 10) 35 0 (v := 5) cN_35 rfl (show Int32.ofNat 5 = 5 by decide) dX10_at_10 ?_
      refine g_icmp_ge (pc := 11) (tgt := 20) dX10_at_11 (by decide) ?_ ?_
      · exact g_lv [] rfl (hk2 σ)
      · refine g_aload_n (pc := 14) 0 dX10_at_14 rfl rfl ?_
        refine g_iload_n (pc := 15) 1 dX10_at_15 rfl rfl ?_
        refine g_iald (pc := 16) 35 cN_35 rfl dX10_at_16 ?_
        refine g_goto (pc := 17) (tgt := 21) dX10_at_17 (by decide) ?_
        exact g_iret (pc := 21) hRT dX10_at_21
set_option maxRecDepth 100000 in
set_option maxHeartbeats 4000000 in
theorem k_X10_copy__35_21 {l : Launch} {D : va_G} {a : Nat → Nat} {cI cS : ClassId} (hI : ∀ σ : St, va_D (AN a) (cN a cI cS σ)) {σ : St} {r : Int32 × St} (h : f_X10_copy__35_21 σ = some r) : Kc (SN l D a cI cS) yX10_copy cX10_copy 3 none 1 [Value.ref (a 35), Value.ref (a 21)] σ r := by
  refine enter (own := RX10) (o := f_X10_copy__35_21 σ) (plainFor_of_name (by decide +kernel)) rfl (Nat.le_of_ble_eq_true rfl) hI wk_X10_copy.1 h (fun Γ hRT => ?_)
  show G _ Γ _ _ _ _ _ _ σ [((0 : Nat), Value.ref (a 35)), ((1 : Nat), Value.ref (a 21))] 0 []
  unfold f_X10_copy__35_21
  refine g_iconst (pc := 0) (v := 0) dX10_copy_0 (by decide) ?_
  refine g_istore_n (pc := 1) [1, 2, 0] (lv1 := [(0, Value.ref (a 35)), (1, Value.ref (a 21)), (2, Value.int (0 : Int32))]) dX10_copy_1 rfl (by decide) rfl ?_
  refine g_lq1 (pc := 2) (lf := fun x2 => [((0 : Nat), Value.ref (a 35)), ((1 : Nat), Value.ref (a 21)), ((2 : Nat), Value.int x2)]) (sf := fun x2 => ([] : List Value)) (fun k1 hk1 s3 x2 => ?_) 100000 σ _
  show G _ Γ _ _ _ _ _ _ s3 [((0 : Nat), Value.ref (a 35)), ((1 : Nat), Value.ref (a 21)), ((2 : Nat), Value.int x2)] 2 ([] : List Value)
  refine g_aload_n (pc := 2) 1 dX10_copy_2 rfl rfl ?_
  refine g_ifnull (pc := 3) dX10_copy_3 ?_
  refine g_iload_n (pc := 6) 2 dX10_copy_6 rfl rfl ?_
  refine g_aload_n (pc := 7) 1 dX10_copy_7 rfl rfl ?_
  refine g_alen (pc := 8) 21 0 (v := 5) cN_21 rfl (show Int32.ofNat 5 = 5 by decide) dX10_copy_8 ?_
  refine g_icmp_ge (pc := 9) (tgt := 26) dX10_copy_9 (by decide) ?_ ?_
  · exact g_vret (pc := 26) hRT dX10_copy_26
  · refine g_aload_n (pc := 12) 1 dX10_copy_12 rfl rfl ?_
    refine g_iload_n (pc := 13) 2 dX10_copy_13 rfl rfl ?_
    refine g_aload_n (pc := 14) 0 dX10_copy_14 rfl rfl ?_
    refine g_iload_n (pc := 15) 2 dX10_copy_15 rfl rfl ?_
    refine g_cSi (pc := 16) (As := [Value.ref (a 35), Value.int x2]) (fun r2 h2 => k_X10_at__35 hI h2) wk_X10_at ws_X10_at bw_24_10 (by decide) (by decide) rfl rfl (Nat.le_of_ble_eq_true rfl) dX10_copy_16 (fun r4 s5 => ?_)
    refine g_iast (pc := 19) 21 cN_21 rfl cN_s21 dX10_copy_19 (fun s6 => ?_)
    refine g_iinc (pc := 20) [1, 2, 0] 2 (n1 := 1) (lv1 := fun x7 => [(0, Value.ref (a 35)), (1, Value.ref (a 21)), (2, Value.int x7)]) dX10_copy_20 rfl (by decide) (by decide) (fun _ => rfl) (fun x7 => ?_)
    show G _ Γ _ _ _ _ _ _ _ [(0, Value.ref (a 35)), (1, Value.ref (a 21)), (2, Value.int x7)] (20 + 3) _
    refine g_goto (pc := 23) (tgt := 2) dX10_copy_23 (by decide) ?_
    exact hk1 s6 _
set_option maxRecDepth 100000 in
set_option maxHeartbeats 4000000 in
theorem k_X9_copyOf__19_33 {l : Launch} {D : va_G} {a : Nat → Nat} {cI cS : ClassId} (hI : ∀ σ : St, va_D (AN a) (cN a cI cS σ)) {σ : St} {r : Int32 × St} (h : f_X9_copyOf__19_33 σ = some r) : Kc (SN l D a cI cS) yX9_copyOf cX9_copyOf 2 none 2 [Value.ref (a 19), Value.ref (a 33)] σ r := by
  refine enter (own := RX9) (o := f_X9_copyOf__19_33 σ) (plainFor_of_name (by decide +kernel)) rfl (Nat.le_of_ble_eq_true rfl) hI wk_X9_copyOf.1 h (fun Γ hRT => ?_)
  show G _ Γ _ _ _ _ _ _ σ [((0 : Nat), Value.ref (a 19)), ((1 : Nat), Value.ref (a 33))] 0 []
  unfold f_X9_copyOf__19_33
  refine g_aload_n (pc := 0) 1 dX9_copyOf_0 rfl rfl ?_
  refine g_get (pc := 1) 33 cN_33 rfl inlX9 0 (by decide) bw_4_14 rfl dX9_copyOf_1 ?_
  refine g_aload_n (pc := 4) 0 dX9_copyOf_4 rfl rfl ?_
  refine g_get (pc := 5) 19 cN_19 rfl inlX9 0 (by decide) bw_4_14 rfl dX9_copyOf_5 ?_
  refine g_cNv (pc := 8) (As := [Value.ref (a 34), Value.ref (a 20)]) (fun r2 h2 => k_X10_copy__34_20 hI h2) wk_X10_copy ws_X10_copy nst_RX9_42 (by decide) (by decide) rfl rfl (Nat.le_of_ble_eq_true rfl) dX9_copyOf_8 (fun r1 s2 => ?_)
  refine g_aload_n (pc := 11) 1 dX9_copyOf_11 rfl rfl ?_
  refine g_get (pc := 12) 33 cN_33 rfl inlX9 1 (by decide) bw_4_15 rfl dX9_copyOf_12 ?_
  refine g_aload_n (pc := 15) 0 dX9_copyOf_15 rfl rfl ?_
  refine g_get (pc := 16) 19 cN_19 rfl inlX9 1 (by decide) bw_4_15 rfl dX9_copyOf_16 ?_
  refine g_cNv (pc := 19) (As := [Value.ref (a 35), Value.ref (a 21)]) (fun r2 h2 => k_X10_copy__35_21 hI h2) wk_X10_copy ws_X10_copy nst_RX9_42 (by decide) (by decide) rfl rfl (Nat.le_of_ble_eq_true rfl) dX9_copyOf_19 (fun r3 s4 => ?_)
  refine g_aload_n (pc := 22) 0 dX9_copyOf_22 rfl rfl ?_
  refine g_aload_n (pc := 23) 1 dX9_copyOf_23 rfl rfl ?_
  refine g_get (pc := 24) 33 cN_33 rfl inlX9 2 (by decide) bw_4_16 rfl dX9_copyOf_24 ?_
  refine g_put (pc := 27) 19 (ty := .int) cN_19 rfl inlX9 tyX9_ok nmX9 2 (by decide) bw_4_16 rfl (by decide +kernel) rfl rfl (Nat.le_of_ble_eq_true rfl) cN_f19_2 dX9_copyOf_27 (fun s5 => ?_)
  exact g_vret (pc := 30) hRT dX9_copyOf_30
set_option maxRecDepth 100000 in
set_option maxHeartbeats 4000000 in
theorem k_X10_at__37 {l : Launch} {D : va_G} {a : Nat → Nat} {cI cS : ClassId} (hI : ∀ σ : St, va_D (AN a) (cN a cI cS σ)) {σ : St} {x1 : Int32} {r : Int32 × St} (h : f_X10_at__37 σ x1 = some r) : Kc (SN l D a cI cS) yX10_at cX10_at 2 (some .int) 0 [Value.ref (a 37), Value.int x1] σ r := by
  refine enter (own := RX10) (o := f_X10_at__37 σ x1) (plainFor_of_name (by decide +kernel)) rfl (Nat.le_of_ble_eq_true rfl) hI wk_X10_at.1 h (fun Γ hRT => ?_)
  show G _ Γ _ _ _ _ _ _ σ [((0 : Nat), Value.ref (a 37)), ((1 : Nat), Value.int x1)] 0 []
  unfold f_X10_at__37
  refine g_aload_n (pc := 0) 0 dX10_at_0 rfl rfl ?_
  refine g_ifnull (pc := 1) dX10_at_1 ?_
  refine g_jq0 (pc2 := 20) (lf := ([] : List (Nat × Value))) (sf := ([] : List Value)) (fun s3 => ?_) (fun k2 hk2 => ?_)
  · show G _ Γ _ _ _ _ _ _ s3 ([] : List (Nat × Value)) 20 ([] : List Value)
    refine g_iconst (pc := 20) (v := 0) dX10_at_20 (by decide) ?_
    exact g_iret (pc := 21) hRT dX10_at_21
  · refine g_iload_n (pc := 4) 1 dX10_at_4 rfl rfl ?_
    refine g_if_lt (pc := 5) (tgt := 20) dX10_at_5 (by decide) ?_ ?_
    · exact g_lv [] rfl (hk2 σ)
    · refine g_iload_n (pc := 8) 1 dX10_at_8 rfl rfl ?_
      refine g_aload_n (pc := 9) 0 dX10_at_9 rfl rfl ?_
      refine g_alen (pc := 10) 37 0 (v := 16) cN_37 rfl (show Int32.ofNat 16 = 16 by decide) dX10_at_10 ?_
      refine g_icmp_ge (pc := 11) (tgt := 20) dX10_at_11 (by decide) ?_ ?_
      · exact g_lv [] rfl (hk2 σ)
      · refine g_aload_n (pc := 14) 0 dX10_at_14 rfl rfl ?_
        refine g_iload_n (pc := 15) 1 dX10_at_15 rfl rfl ?_
        refine g_iald (pc := 16) 37 cN_37 rfl dX10_at_16 ?_
        refine g_goto (pc := 17) (tgt := 21) dX10_at_17 (by decide) ?_
        exact g_iret (pc := 21) hRT dX10_at_21
set_option maxRecDepth 100000 in
set_option maxHeartbeats 4000000 in
theorem k_X10_copy__37_20 {l : Launch} {D : va_G} {a : Nat → Nat} {cI cS : ClassId} (hI : ∀ σ : St, va_D (AN a) (cN a cI cS σ)) {σ : St} {r : Int32 × St} (h : f_X10_copy__37_20 σ = some r) : Kc (SN l D a cI cS) yX10_copy cX10_copy 3 none 1 [Value.ref (a 37), Value.ref (a 20)] σ r := by
  refine enter (own := RX10) (o := f_X10_copy__37_20 σ) (plainFor_of_name (by decide +kernel)) rfl (Nat.le_of_ble_eq_true rfl) hI wk_X10_copy.1 h (fun Γ hRT => ?_)
  show G _ Γ _ _ _ _ _ _ σ [((0 : Nat), Value.ref (a 37)), ((1 : Nat), Value.ref (a 20))] 0 []
  unfold f_X10_copy__37_20
  refine g_iconst (pc := 0) (v := 0) dX10_copy_0 (by decide) ?_
  refine g_istore_n (pc := 1) [1, 2, 0] (lv1 := [(0, Value.ref (a 37)), (1, Value.ref (a 20)), (2, Value.int (0 : Int32))]) dX10_copy_1 rfl (by decide) rfl ?_
  refine g_lq1 (pc := 2) (lf := fun x2 => [((0 : Nat), Value.ref (a 37)), ((1 : Nat), Value.ref (a 20)), ((2 : Nat), Value.int x2)]) (sf := fun x2 => ([] : List Value)) (fun k1 hk1 s3 x2 => ?_) 100000 σ _
  show G _ Γ _ _ _ _ _ _ s3 [((0 : Nat), Value.ref (a 37)), ((1 : Nat), Value.ref (a 20)), ((2 : Nat), Value.int x2)] 2 ([] : List Value)
  refine g_aload_n (pc := 2) 1 dX10_copy_2 rfl rfl ?_
  refine g_ifnull (pc := 3) dX10_copy_3 ?_
  refine g_iload_n (pc := 6) 2 dX10_copy_6 rfl rfl ?_
  refine g_aload_n (pc := 7) 1 dX10_copy_7 rfl rfl ?_
  refine g_alen (pc := 8) 20 0 (v := 16) cN_20 rfl (show Int32.ofNat 16 = 16 by decide) dX10_copy_8 ?_
  refine g_icmp_ge (pc := 9) (tgt := 26) dX10_copy_9 (by decide) ?_ ?_
  · exact g_vret (pc := 26) hRT dX10_copy_26
  · refine g_aload_n (pc := 12) 1 dX10_copy_12 rfl rfl ?_
    refine g_iload_n (pc := 13) 2 dX10_copy_13 rfl rfl ?_
    refine g_aload_n (pc := 14) 0 dX10_copy_14 rfl rfl ?_
    refine g_iload_n (pc := 15) 2 dX10_copy_15 rfl rfl ?_
    refine g_cSi (pc := 16) (As := [Value.ref (a 37), Value.int x2]) (fun r2 h2 => k_X10_at__37 hI h2) wk_X10_at ws_X10_at bw_24_10 (by decide) (by decide) rfl rfl (Nat.le_of_ble_eq_true rfl) dX10_copy_16 (fun r4 s5 => ?_)
    refine g_iast (pc := 19) 20 cN_20 rfl cN_s20 dX10_copy_19 (fun s6 => ?_)
    refine g_iinc (pc := 20) [1, 2, 0] 2 (n1 := 1) (lv1 := fun x7 => [(0, Value.ref (a 37)), (1, Value.ref (a 20)), (2, Value.int x7)]) dX10_copy_20 rfl (by decide) (by decide) (fun _ => rfl) (fun x7 => ?_)
    show G _ Γ _ _ _ _ _ _ _ [(0, Value.ref (a 37)), (1, Value.ref (a 20)), (2, Value.int x7)] (20 + 3) _
    refine g_goto (pc := 23) (tgt := 2) dX10_copy_23 (by decide) ?_
    exact hk1 s6 _
set_option maxRecDepth 100000 in
set_option maxHeartbeats 4000000 in
theorem k_X10_at__38 {l : Launch} {D : va_G} {a : Nat → Nat} {cI cS : ClassId} (hI : ∀ σ : St, va_D (AN a) (cN a cI cS σ)) {σ : St} {x1 : Int32} {r : Int32 × St} (h : f_X10_at__38 σ x1 = some r) : Kc (SN l D a cI cS) yX10_at cX10_at 2 (some .int) 0 [Value.ref (a 38), Value.int x1] σ r := by
  refine enter (own := RX10) (o := f_X10_at__38 σ x1) (plainFor_of_name (by decide +kernel)) rfl (Nat.le_of_ble_eq_true rfl) hI wk_X10_at.1 h (fun Γ hRT => ?_)
  show G _ Γ _ _ _ _ _ _ σ [((0 : Nat), Value.ref (a 38)), ((1 : Nat), Value.int x1)] 0 []
  unfold f_X10_at__38
  refine g_aload_n (pc := 0) 0 dX10_at_0 rfl rfl ?_
  refine g_ifnull (pc := 1) dX10_at_1 ?_
  refine g_jq0 (pc2 := 20) (lf := ([] : List (Nat × Value))) (sf := ([] : List Value)) (fun s3 => ?_) (fun k2 hk2 => ?_)
  · show G _ Γ _ _ _ _ _ _ s3 ([] : List (Nat × Value)) 20 ([] : List Value)
    refine g_iconst (pc := 20) (v := 0) dX10_at_20 (by decide) ?_
    exact g_iret (pc := 21) hRT dX10_at_21
  · refine g_iload_n (pc := 4) 1 dX10_at_4 rfl rfl ?_
    refine g_if_lt (pc := 5) (tgt := 20) dX10_at_5 (by decide) ?_ ?_
    · exact g_lv [] rfl (hk2 σ)
    · refine g_iload_n (pc := 8) 1 dX10_at_8 rfl rfl ?_
      refine g_aload_n (pc := 9) 0 dX10_at_9 rfl rfl ?_
      refine g_alen (pc := 10) 38 0 (v := 5) cN_38 rfl (show Int32.ofNat 5 = 5 by decide) dX10_at_10 ?_
      refine g_icmp_ge (pc := 11) (tgt := 20) dX10_at_11 (by decide) ?_ ?_
      · exact g_lv [] rfl (hk2 σ)
      · refine g_aload_n (pc := 14) 0 dX10_at_14 rfl rfl ?_
        refine g_iload_n (pc := 15) 1 dX10_at_15 rfl rfl ?_
        refine g_iald (pc := 16) 38 cN_38 rfl dX10_at_16 ?_
        refine g_goto (pc := 17) (tgt := 21) dX10_at_17 (by decide) ?_
        exact g_iret (pc := 21) hRT dX10_at_21
set_option maxRecDepth 100000 in
set_option maxHeartbeats 4000000 in
theorem k_X10_copy__38_21 {l : Launch} {D : va_G} {a : Nat → Nat} {cI cS : ClassId} (hI : ∀ σ : St, va_D (AN a) (cN a cI cS σ)) {σ : St} {r : Int32 × St} (h : f_X10_copy__38_21 σ = some r) : Kc (SN l D a cI cS) yX10_copy cX10_copy 3 none 1 [Value.ref (a 38), Value.ref (a 21)] σ r := by
  refine enter (own := RX10) (o := f_X10_copy__38_21 σ) (plainFor_of_name (by decide +kernel)) rfl (Nat.le_of_ble_eq_true rfl) hI wk_X10_copy.1 h (fun Γ hRT => ?_)
  show G _ Γ _ _ _ _ _ _ σ [((0 : Nat), Value.ref (a 38)), ((1 : Nat), Value.ref (a 21))] 0 []
  unfold f_X10_copy__38_21
  refine g_iconst (pc := 0) (v := 0) dX10_copy_0 (by decide) ?_
  refine g_istore_n (pc := 1) [1, 2, 0] (lv1 := [(0, Value.ref (a 38)), (1, Value.ref (a 21)), (2, Value.int (0 : Int32))]) dX10_copy_1 rfl (by decide) rfl ?_
  refine g_lq1 (pc := 2) (lf := fun x2 => [((0 : Nat), Value.ref (a 38)), ((1 : Nat), Value.ref (a 21)), ((2 : Nat), Value.int x2)]) (sf := fun x2 => ([] : List Value)) (fun k1 hk1 s3 x2 => ?_) 100000 σ _
  show G _ Γ _ _ _ _ _ _ s3 [((0 : Nat), Value.ref (a 38)), ((1 : Nat), Value.ref (a 21)), ((2 : Nat), Value.int x2)] 2 ([] : List Value)
  refine g_aload_n (pc := 2) 1 dX10_copy_2 rfl rfl ?_
  refine g_ifnull (pc := 3) dX10_copy_3 ?_
  refine g_iload_n (pc := 6) 2 dX10_copy_6 rfl rfl ?_
  refine g_aload_n (pc := 7) 1 dX10_copy_7 rfl rfl ?_
  refine g_alen (pc := 8) 21 0 (v := 5) cN_21 rfl (show Int32.ofNat 5 = 5 by decide) dX10_copy_8 ?_
  refine g_icmp_ge (pc := 9) (tgt := 26) dX10_copy_9 (by decide) ?_ ?_
  · exact g_vret (pc := 26) hRT dX10_copy_26
  · refine g_aload_n (pc := 12) 1 dX10_copy_12 rfl rfl ?_
    refine g_iload_n (pc := 13) 2 dX10_copy_13 rfl rfl ?_
    refine g_aload_n (pc := 14) 0 dX10_copy_14 rfl rfl ?_
    refine g_iload_n (pc := 15) 2 dX10_copy_15 rfl rfl ?_
    refine g_cSi (pc := 16) (As := [Value.ref (a 38), Value.int x2]) (fun r2 h2 => k_X10_at__38 hI h2) wk_X10_at ws_X10_at bw_24_10 (by decide) (by decide) rfl rfl (Nat.le_of_ble_eq_true rfl) dX10_copy_16 (fun r4 s5 => ?_)
    refine g_iast (pc := 19) 21 cN_21 rfl cN_s21 dX10_copy_19 (fun s6 => ?_)
    refine g_iinc (pc := 20) [1, 2, 0] 2 (n1 := 1) (lv1 := fun x7 => [(0, Value.ref (a 38)), (1, Value.ref (a 21)), (2, Value.int x7)]) dX10_copy_20 rfl (by decide) (by decide) (fun _ => rfl) (fun x7 => ?_)
    show G _ Γ _ _ _ _ _ _ _ [(0, Value.ref (a 38)), (1, Value.ref (a 21)), (2, Value.int x7)] (20 + 3) _
    refine g_goto (pc := 23) (tgt := 2) dX10_copy_23 (by decide) ?_
    exact hk1 s6 _
set_option maxRecDepth 100000 in
set_option maxHeartbeats 4000000 in
theorem k_X9_copyOf__19_36 {l : Launch} {D : va_G} {a : Nat → Nat} {cI cS : ClassId} (hI : ∀ σ : St, va_D (AN a) (cN a cI cS σ)) {σ : St} {r : Int32 × St} (h : f_X9_copyOf__19_36 σ = some r) : Kc (SN l D a cI cS) yX9_copyOf cX9_copyOf 2 none 2 [Value.ref (a 19), Value.ref (a 36)] σ r := by
  refine enter (own := RX9) (o := f_X9_copyOf__19_36 σ) (plainFor_of_name (by decide +kernel)) rfl (Nat.le_of_ble_eq_true rfl) hI wk_X9_copyOf.1 h (fun Γ hRT => ?_)
  show G _ Γ _ _ _ _ _ _ σ [((0 : Nat), Value.ref (a 19)), ((1 : Nat), Value.ref (a 36))] 0 []
  unfold f_X9_copyOf__19_36
  refine g_aload_n (pc := 0) 1 dX9_copyOf_0 rfl rfl ?_
  refine g_get (pc := 1) 36 cN_36 rfl inlX9 0 (by decide) bw_4_14 rfl dX9_copyOf_1 ?_
  refine g_aload_n (pc := 4) 0 dX9_copyOf_4 rfl rfl ?_
  refine g_get (pc := 5) 19 cN_19 rfl inlX9 0 (by decide) bw_4_14 rfl dX9_copyOf_5 ?_
  refine g_cNv (pc := 8) (As := [Value.ref (a 37), Value.ref (a 20)]) (fun r2 h2 => k_X10_copy__37_20 hI h2) wk_X10_copy ws_X10_copy nst_RX9_42 (by decide) (by decide) rfl rfl (Nat.le_of_ble_eq_true rfl) dX9_copyOf_8 (fun r1 s2 => ?_)
  refine g_aload_n (pc := 11) 1 dX9_copyOf_11 rfl rfl ?_
  refine g_get (pc := 12) 36 cN_36 rfl inlX9 1 (by decide) bw_4_15 rfl dX9_copyOf_12 ?_
  refine g_aload_n (pc := 15) 0 dX9_copyOf_15 rfl rfl ?_
  refine g_get (pc := 16) 19 cN_19 rfl inlX9 1 (by decide) bw_4_15 rfl dX9_copyOf_16 ?_
  refine g_cNv (pc := 19) (As := [Value.ref (a 38), Value.ref (a 21)]) (fun r2 h2 => k_X10_copy__38_21 hI h2) wk_X10_copy ws_X10_copy nst_RX9_42 (by decide) (by decide) rfl rfl (Nat.le_of_ble_eq_true rfl) dX9_copyOf_19 (fun r3 s4 => ?_)
  refine g_aload_n (pc := 22) 0 dX9_copyOf_22 rfl rfl ?_
  refine g_aload_n (pc := 23) 1 dX9_copyOf_23 rfl rfl ?_
  refine g_get (pc := 24) 36 cN_36 rfl inlX9 2 (by decide) bw_4_16 rfl dX9_copyOf_24 ?_
  refine g_put (pc := 27) 19 (ty := .int) cN_19 rfl inlX9 tyX9_ok nmX9 2 (by decide) bw_4_16 rfl (by decide +kernel) rfl rfl (Nat.le_of_ble_eq_true rfl) cN_f19_2 dX9_copyOf_27 (fun s5 => ?_)
  exact g_vret (pc := 30) hRT dX9_copyOf_30
set_option maxRecDepth 100000 in
set_option maxHeartbeats 4000000 in
theorem k_X10_at__40 {l : Launch} {D : va_G} {a : Nat → Nat} {cI cS : ClassId} (hI : ∀ σ : St, va_D (AN a) (cN a cI cS σ)) {σ : St} {x1 : Int32} {r : Int32 × St} (h : f_X10_at__40 σ x1 = some r) : Kc (SN l D a cI cS) yX10_at cX10_at 2 (some .int) 0 [Value.ref (a 40), Value.int x1] σ r := by
  refine enter (own := RX10) (o := f_X10_at__40 σ x1) (plainFor_of_name (by decide +kernel)) rfl (Nat.le_of_ble_eq_true rfl) hI wk_X10_at.1 h (fun Γ hRT => ?_)
  show G _ Γ _ _ _ _ _ _ σ [((0 : Nat), Value.ref (a 40)), ((1 : Nat), Value.int x1)] 0 []
  unfold f_X10_at__40
  refine g_aload_n (pc := 0) 0 dX10_at_0 rfl rfl ?_
  refine g_ifnull (pc := 1) dX10_at_1 ?_
  refine g_jq0 (pc2 := 20) (lf := ([] : List (Nat × Value))) (sf := ([] : List Value)) (fun s3 => ?_) (fun k2 hk2 => ?_)
  · show G _ Γ _ _ _ _ _ _ s3 ([] : List (Nat × Value)) 20 ([] : List Value)
    refine g_iconst (pc := 20) (v := 0) dX10_at_20 (by decide) ?_
    exact g_iret (pc := 21) hRT dX10_at_21
  · refine g_iload_n (pc := 4) 1 dX10_at_4 rfl rfl ?_
    refine g_if_lt (pc := 5) (tgt := 20) dX10_at_5 (by decide) ?_ ?_
    · exact g_lv [] rfl (hk2 σ)
    · refine g_iload_n (pc := 8) 1 dX10_at_8 rfl rfl ?_
      refine g_aload_n (pc := 9) 0 dX10_at_9 rfl rfl ?_
      refine g_alen (pc := 10) 40 0 (v := 16) cN_40 rfl (show Int32.ofNat 16 = 16 by decide) dX10_at_10 ?_
      refine g_icmp_ge (pc := 11) (tgt := 20) dX10_at_11 (by decide) ?_ ?_
      · exact g_lv [] rfl (hk2 σ)
      · refine g_aload_n (pc := 14) 0 dX10_at_14 rfl rfl ?_
        refine g_iload_n (pc := 15) 1 dX10_at_15 rfl rfl ?_
        refine g_iald (pc := 16) 40 cN_40 rfl dX10_at_16 ?_
        refine g_goto (pc := 17) (tgt := 21) dX10_at_17 (by decide) ?_
        exact g_iret (pc := 21) hRT dX10_at_21
set_option maxRecDepth 100000 in
set_option maxHeartbeats 4000000 in
theorem k_X10_copy__40_20 {l : Launch} {D : va_G} {a : Nat → Nat} {cI cS : ClassId} (hI : ∀ σ : St, va_D (AN a) (cN a cI cS σ)) {σ : St} {r : Int32 × St} (h : f_X10_copy__40_20 σ = some r) : Kc (SN l D a cI cS) yX10_copy cX10_copy 3 none 1 [Value.ref (a 40), Value.ref (a 20)] σ r := by
  refine enter (own := RX10) (o := f_X10_copy__40_20 σ) (plainFor_of_name (by decide +kernel)) rfl (Nat.le_of_ble_eq_true rfl) hI wk_X10_copy.1 h (fun Γ hRT => ?_)
  show G _ Γ _ _ _ _ _ _ σ [((0 : Nat), Value.ref (a 40)), ((1 : Nat), Value.ref (a 20))] 0 []
  unfold f_X10_copy__40_20
  refine g_iconst (pc := 0) (v := 0) dX10_copy_0 (by decide) ?_
  refine g_istore_n (pc := 1) [1, 2, 0] (lv1 := [(0, Value.ref (a 40)), (1, Value.ref (a 20)), (2, Value.int (0 : Int32))]) dX10_copy_1 rfl (by decide) rfl ?_
  refine g_lq1 (pc := 2) (lf := fun x2 => [((0 : Nat), Value.ref (a 40)), ((1 : Nat), Value.ref (a 20)), ((2 : Nat), Value.int x2)]) (sf := fun x2 => ([] : List Value)) (fun k1 hk1 s3 x2 => ?_) 100000 σ _
  show G _ Γ _ _ _ _ _ _ s3 [((0 : Nat), Value.ref (a 40)), ((1 : Nat), Value.ref (a 20)), ((2 : Nat), Value.int x2)] 2 ([] : List Value)
  refine g_aload_n (pc := 2) 1 dX10_copy_2 rfl rfl ?_
  refine g_ifnull (pc := 3) dX10_copy_3 ?_
  refine g_iload_n (pc := 6) 2 dX10_copy_6 rfl rfl ?_
  refine g_aload_n (pc := 7) 1 dX10_copy_7 rfl rfl ?_
  refine g_alen (pc := 8) 20 0 (v := 16) cN_20 rfl (show Int32.ofNat 16 = 16 by decide) dX10_copy_8 ?_
  refine g_icmp_ge (pc := 9) (tgt := 26) dX10_copy_9 (by decide) ?_ ?_
  · exact g_vret (pc := 26) hRT dX10_copy_26
  · refine g_aload_n (pc := 12) 1 dX10_copy_12 rfl rfl ?_
    refine g_iload_n (pc := 13) 2 dX10_copy_13 rfl rfl ?_
    refine g_aload_n (pc := 14) 0 dX10_copy_14 rfl rfl ?_
    refine g_iload_n (pc := 15) 2 dX10_copy_15 rfl rfl ?_
    refine g_cSi (pc := 16) (As := [Value.ref (a 40), Value.int x2]) (fun r2 h2 => k_X10_at__40 hI h2) wk_X10_at ws_X10_at bw_24_10 (by decide) (by decide) rfl rfl (Nat.le_of_ble_eq_true rfl) dX10_copy_16 (fun r4 s5 => ?_)
    refine g_iast (pc := 19) 20 cN_20 rfl cN_s20 dX10_copy_19 (fun s6 => ?_)
    refine g_iinc (pc := 20) [1, 2, 0] 2 (n1 := 1) (lv1 := fun x7 => [(0, Value.ref (a 40)), (1, Value.ref (a 20)), (2, Value.int x7)]) dX10_copy_20 rfl (by decide) (by decide) (fun _ => rfl) (fun x7 => ?_)
    show G _ Γ _ _ _ _ _ _ _ [(0, Value.ref (a 40)), (1, Value.ref (a 20)), (2, Value.int x7)] (20 + 3) _
    refine g_goto (pc := 23) (tgt := 2) dX10_copy_23 (by decide) ?_
    exact hk1 s6 _
set_option maxRecDepth 100000 in
set_option maxHeartbeats 4000000 in
theorem k_X10_at__41 {l : Launch} {D : va_G} {a : Nat → Nat} {cI cS : ClassId} (hI : ∀ σ : St, va_D (AN a) (cN a cI cS σ)) {σ : St} {x1 : Int32} {r : Int32 × St} (h : f_X10_at__41 σ x1 = some r) : Kc (SN l D a cI cS) yX10_at cX10_at 2 (some .int) 0 [Value.ref (a 41), Value.int x1] σ r := by
  refine enter (own := RX10) (o := f_X10_at__41 σ x1) (plainFor_of_name (by decide +kernel)) rfl (Nat.le_of_ble_eq_true rfl) hI wk_X10_at.1 h (fun Γ hRT => ?_)
  show G _ Γ _ _ _ _ _ _ σ [((0 : Nat), Value.ref (a 41)), ((1 : Nat), Value.int x1)] 0 []
  unfold f_X10_at__41
  refine g_aload_n (pc := 0) 0 dX10_at_0 rfl rfl ?_
  refine g_ifnull (pc := 1) dX10_at_1 ?_
  refine g_jq0 (pc2 := 20) (lf := ([] : List (Nat × Value))) (sf := ([] : List Value)) (fun s3 => ?_) (fun k2 hk2 => ?_)
  · show G _ Γ _ _ _ _ _ _ s3 ([] : List (Nat × Value)) 20 ([] : List Value)
    refine g_iconst (pc := 20) (v := 0) dX10_at_20 (by decide) ?_
    exact g_iret (pc := 21) hRT dX10_at_21
  · refine g_iload_n (pc := 4) 1 dX10_at_4 rfl rfl ?_
    refine g_if_lt (pc := 5) (tgt := 20) dX10_at_5 (by decide) ?_ ?_
    · exact g_lv [] rfl (hk2 σ)
    · refine g_iload_n (pc := 8) 1 dX10_at_8 rfl rfl ?_
      refine g_aload_n (pc := 9) 0 dX10_at_9 rfl rfl ?_
      refine g_alen (pc := 10) 41 0 (v := 5) cN_41 rfl (show Int32.ofNat 5 = 5 by decide) dX10_at_10 ?_
      refine g_icmp_ge (pc := 11) (tgt := 20) dX10_at_11 (by decide) ?_ ?_
      · exact g_lv [] rfl (hk2 σ)
      · refine g_aload_n (pc := 14) 0 dX10_at_14 rfl rfl ?_
        refine g_iload_n (pc := 15) 1 dX10_at_15 rfl rfl ?_
        refine g_iald (pc := 16) 41 cN_41 rfl dX10_at_16 ?_
        refine g_goto (pc := 17) (tgt := 21) dX10_at_17 (by decide) ?_
        exact g_iret (pc := 21) hRT dX10_at_21
set_option maxRecDepth 100000 in
set_option maxHeartbeats 4000000 in
theorem k_X10_copy__41_21 {l : Launch} {D : va_G} {a : Nat → Nat} {cI cS : ClassId} (hI : ∀ σ : St, va_D (AN a) (cN a cI cS σ)) {σ : St} {r : Int32 × St} (h : f_X10_copy__41_21 σ = some r) : Kc (SN l D a cI cS) yX10_copy cX10_copy 3 none 1 [Value.ref (a 41), Value.ref (a 21)] σ r := by
  refine enter (own := RX10) (o := f_X10_copy__41_21 σ) (plainFor_of_name (by decide +kernel)) rfl (Nat.le_of_ble_eq_true rfl) hI wk_X10_copy.1 h (fun Γ hRT => ?_)
  show G _ Γ _ _ _ _ _ _ σ [((0 : Nat), Value.ref (a 41)), ((1 : Nat), Value.ref (a 21))] 0 []
  unfold f_X10_copy__41_21
  refine g_iconst (pc := 0) (v := 0) dX10_copy_0 (by decide) ?_
  refine g_istore_n (pc := 1) [1, 2, 0] (lv1 := [(0, Value.ref (a 41)), (1, Value.ref (a 21)), (2, Value.int (0 : Int32))]) dX10_copy_1 rfl (by decide) rfl ?_
  refine g_lq1 (pc := 2) (lf := fun x2 => [((0 : Nat), Value.ref (a 41)), ((1 : Nat), Value.ref (a 21)), ((2 : Nat), Value.int x2)]) (sf := fun x2 => ([] : List Value)) (fun k1 hk1 s3 x2 => ?_) 100000 σ _
  show G _ Γ _ _ _ _ _ _ s3 [((0 : Nat), Value.ref (a 41)), ((1 : Nat), Value.ref (a 21)), ((2 : Nat), Value.int x2)] 2 ([] : List Value)
  refine g_aload_n (pc := 2) 1 dX10_copy_2 rfl rfl ?_
  refine g_ifnull (pc := 3) dX10_copy_3 ?_
  refine g_iload_n (pc := 6) 2 dX10_copy_6 rfl rfl ?_
  refine g_aload_n (pc := 7) 1 dX10_copy_7 rfl rfl ?_
  refine g_alen (pc := 8) 21 0 (v := 5) cN_21 rfl (show Int32.ofNat 5 = 5 by decide) dX10_copy_8 ?_
  refine g_icmp_ge (pc := 9) (tgt := 26) dX10_copy_9 (by decide) ?_ ?_
  · exact g_vret (pc := 26) hRT dX10_copy_26
  · refine g_aload_n (pc := 12) 1 dX10_copy_12 rfl rfl ?_
    refine g_iload_n (pc := 13) 2 dX10_copy_13 rfl rfl ?_
    refine g_aload_n (pc := 14) 0 dX10_copy_14 rfl rfl ?_
    refine g_iload_n (pc := 15) 2 dX10_copy_15 rfl rfl ?_
    refine g_cSi (pc := 16) (As := [Value.ref (a 41), Value.int x2]) (fun r2 h2 => k_X10_at__41 hI h2) wk_X10_at ws_X10_at bw_24_10 (by decide) (by decide) rfl rfl (Nat.le_of_ble_eq_true rfl) dX10_copy_16 (fun r4 s5 => ?_)
    refine g_iast (pc := 19) 21 cN_21 rfl cN_s21 dX10_copy_19 (fun s6 => ?_)
    refine g_iinc (pc := 20) [1, 2, 0] 2 (n1 := 1) (lv1 := fun x7 => [(0, Value.ref (a 41)), (1, Value.ref (a 21)), (2, Value.int x7)]) dX10_copy_20 rfl (by decide) (by decide) (fun _ => rfl) (fun x7 => ?_)
    show G _ Γ _ _ _ _ _ _ _ [(0, Value.ref (a 41)), (1, Value.ref (a 21)), (2, Value.int x7)] (20 + 3) _
    refine g_goto (pc := 23) (tgt := 2) dX10_copy_23 (by decide) ?_
    exact hk1 s6 _
set_option maxRecDepth 100000 in
set_option maxHeartbeats 4000000 in
theorem k_X9_copyOf__19_39 {l : Launch} {D : va_G} {a : Nat → Nat} {cI cS : ClassId} (hI : ∀ σ : St, va_D (AN a) (cN a cI cS σ)) {σ : St} {r : Int32 × St} (h : f_X9_copyOf__19_39 σ = some r) : Kc (SN l D a cI cS) yX9_copyOf cX9_copyOf 2 none 2 [Value.ref (a 19), Value.ref (a 39)] σ r := by
  refine enter (own := RX9) (o := f_X9_copyOf__19_39 σ) (plainFor_of_name (by decide +kernel)) rfl (Nat.le_of_ble_eq_true rfl) hI wk_X9_copyOf.1 h (fun Γ hRT => ?_)
  show G _ Γ _ _ _ _ _ _ σ [((0 : Nat), Value.ref (a 19)), ((1 : Nat), Value.ref (a 39))] 0 []
  unfold f_X9_copyOf__19_39
  refine g_aload_n (pc := 0) 1 dX9_copyOf_0 rfl rfl ?_
  refine g_get (pc := 1) 39 cN_39 rfl inlX9 0 (by decide) bw_4_14 rfl dX9_copyOf_1 ?_
  refine g_aload_n (pc := 4) 0 dX9_copyOf_4 rfl rfl ?_
  refine g_get (pc := 5) 19 cN_19 rfl inlX9 0 (by decide) bw_4_14 rfl dX9_copyOf_5 ?_
  refine g_cNv (pc := 8) (As := [Value.ref (a 40), Value.ref (a 20)]) (fun r2 h2 => k_X10_copy__40_20 hI h2) wk_X10_copy ws_X10_copy nst_RX9_42 (by decide) (by decide) rfl rfl (Nat.le_of_ble_eq_true rfl) dX9_copyOf_8 (fun r1 s2 => ?_)
  refine g_aload_n (pc := 11) 1 dX9_copyOf_11 rfl rfl ?_
  refine g_get (pc := 12) 39 cN_39 rfl inlX9 1 (by decide) bw_4_15 rfl dX9_copyOf_12 ?_
  refine g_aload_n (pc := 15) 0 dX9_copyOf_15 rfl rfl ?_
  refine g_get (pc := 16) 19 cN_19 rfl inlX9 1 (by decide) bw_4_15 rfl dX9_copyOf_16 ?_
  refine g_cNv (pc := 19) (As := [Value.ref (a 41), Value.ref (a 21)]) (fun r2 h2 => k_X10_copy__41_21 hI h2) wk_X10_copy ws_X10_copy nst_RX9_42 (by decide) (by decide) rfl rfl (Nat.le_of_ble_eq_true rfl) dX9_copyOf_19 (fun r3 s4 => ?_)
  refine g_aload_n (pc := 22) 0 dX9_copyOf_22 rfl rfl ?_
  refine g_aload_n (pc := 23) 1 dX9_copyOf_23 rfl rfl ?_
  refine g_get (pc := 24) 39 cN_39 rfl inlX9 2 (by decide) bw_4_16 rfl dX9_copyOf_24 ?_
  refine g_put (pc := 27) 19 (ty := .int) cN_19 rfl inlX9 tyX9_ok nmX9 2 (by decide) bw_4_16 rfl (by decide +kernel) rfl rfl (Nat.le_of_ble_eq_true rfl) cN_f19_2 dX9_copyOf_27 (fun s5 => ?_)
  exact g_vret (pc := 30) hRT dX9_copyOf_30
set_option maxRecDepth 100000 in
set_option maxHeartbeats 4000000 in
theorem k_X10_at__43 {l : Launch} {D : va_G} {a : Nat → Nat} {cI cS : ClassId} (hI : ∀ σ : St, va_D (AN a) (cN a cI cS σ)) {σ : St} {x1 : Int32} {r : Int32 × St} (h : f_X10_at__43 σ x1 = some r) : Kc (SN l D a cI cS) yX10_at cX10_at 2 (some .int) 0 [Value.ref (a 43), Value.int x1] σ r := by
  refine enter (own := RX10) (o := f_X10_at__43 σ x1) (plainFor_of_name (by decide +kernel)) rfl (Nat.le_of_ble_eq_true rfl) hI wk_X10_at.1 h (fun Γ hRT => ?_)
  show G _ Γ _ _ _ _ _ _ σ [((0 : Nat), Value.ref (a 43)), ((1 : Nat), Value.int x1)] 0 []
  unfold f_X10_at__43
  refine g_aload_n (pc := 0) 0 dX10_at_0 rfl rfl ?_
  refine g_ifnull (pc := 1) dX10_at_1 ?_
  refine g_jq0 (pc2 := 20) (lf := ([] : List (Nat × Value))) (sf := ([] : List Value)) (fun s3 => ?_) (fun k2 hk2 => ?_)
  · show G _ Γ _ _ _ _ _ _ s3 ([] : List (Nat × Value)) 20 ([] : List Value)
    refine g_iconst (pc := 20) (v := 0) dX10_at_20 (by decide) ?_
    exact g_iret (pc := 21) hRT dX10_at_21
  · refine g_iload_n (pc := 4) 1 dX10_at_4 rfl rfl ?_
    refine g_if_lt (pc := 5) (tgt := 20) dX10_at_5 (by decide) ?_ ?_
    · exact g_lv [] rfl (hk2 σ)
    · refine g_iload_n (pc := 8) 1 dX10_at_8 rfl rfl ?_
      refine g_aload_n (pc := 9) 0 dX10_at_9 rfl rfl ?_
      refine g_alen (pc := 10) 43 0 (v := 16) cN_43 rfl (show Int32.ofNat 16 = 16 by decide) dX10_at_10 ?_
      refine g_icmp_ge (pc := 11) (tgt := 20) dX10_at_11 (by decide) ?_ ?_
      · exact g_lv [] rfl (hk2 σ)
      · refine g_aload_n (pc := 14) 0 dX10_at_14 rfl rfl ?_
        refine g_iload_n (pc := 15) 1 dX10_at_15 rfl rfl ?_
        refine g_iald (pc := 16) 43 cN_43 rfl dX10_at_16 ?_
        refine g_goto (pc := 17) (tgt := 21) dX10_at_17 (by decide) ?_
        exact g_iret (pc := 21) hRT dX10_at_21
set_option maxRecDepth 100000 in
set_option maxHeartbeats 4000000 in
theorem k_X10_copy__43_20 {l : Launch} {D : va_G} {a : Nat → Nat} {cI cS : ClassId} (hI : ∀ σ : St, va_D (AN a) (cN a cI cS σ)) {σ : St} {r : Int32 × St} (h : f_X10_copy__43_20 σ = some r) : Kc (SN l D a cI cS) yX10_copy cX10_copy 3 none 1 [Value.ref (a 43), Value.ref (a 20)] σ r := by
  refine enter (own := RX10) (o := f_X10_copy__43_20 σ) (plainFor_of_name (by decide +kernel)) rfl (Nat.le_of_ble_eq_true rfl) hI wk_X10_copy.1 h (fun Γ hRT => ?_)
  show G _ Γ _ _ _ _ _ _ σ [((0 : Nat), Value.ref (a 43)), ((1 : Nat), Value.ref (a 20))] 0 []
  unfold f_X10_copy__43_20
  refine g_iconst (pc := 0) (v := 0) dX10_copy_0 (by decide) ?_
  refine g_istore_n (pc := 1) [1, 2, 0] (lv1 := [(0, Value.ref (a 43)), (1, Value.ref (a 20)), (2, Value.int (0 : Int32))]) dX10_copy_1 rfl (by decide) rfl ?_
  refine g_lq1 (pc := 2) (lf := fun x2 => [((0 : Nat), Value.ref (a 43)), ((1 : Nat), Value.ref (a 20)), ((2 : Nat), Value.int x2)]) (sf := fun x2 => ([] : List Value)) (fun k1 hk1 s3 x2 => ?_) 100000 σ _
  show G _ Γ _ _ _ _ _ _ s3 [((0 : Nat), Value.ref (a 43)), ((1 : Nat), Value.ref (a 20)), ((2 : Nat), Value.int x2)] 2 ([] : List Value)
  refine g_aload_n (pc := 2) 1 dX10_copy_2 rfl rfl ?_
  refine g_ifnull (pc := 3) dX10_copy_3 ?_
  refine g_iload_n (pc := 6) 2 dX10_copy_6 rfl rfl ?_
  refine g_aload_n (pc := 7) 1 dX10_copy_7 rfl rfl ?_
  refine g_alen (pc := 8) 20 0 (v := 16) cN_20 rfl (show Int32.ofNat 16 = 16 by decide) dX10_copy_8 ?_
  refine g_icmp_ge (pc := 9) (tgt := 26) dX10_copy_9 (by decide) ?_ ?_
  · exact g_vret (pc := 26) hRT dX10_copy_26
  · refine g_aload_n (pc := 12) 1 dX10_copy_12 rfl rfl ?_
    refine g_iload_n (pc := 13) 2 dX10_copy_13 rfl rfl ?_
    refine g_aload_n (pc := 14) 0 dX10_copy_14 rfl rfl ?_
    refine g_iload_n (pc := 15) 2 dX10_copy_15 rfl rfl ?_
    refine g_cSi (pc := 16) (As := [Value.ref (a 43), Value.int x2]) (fun r2 h2 => k_X10_at__43 hI h2) wk_X10_at ws_X10_at bw_24_10 (by decide) (by decide) rfl rfl (Nat.le_of_ble_eq_true rfl) dX10_copy_16 (fun r4 s5 => ?_)
    refine g_iast (pc := 19) 20 cN_20 rfl cN_s20 dX10_copy_19 (fun s6 => ?_)
    refine g_iinc (pc := 20) [1, 2, 0] 2 (n1 := 1) (lv1 := fun x7 => [(0, Value.ref (a 43)), (1, Value.ref (a 20)), (2, Value.int x7)]) dX10_copy_20 rfl (by decide) (by decide) (fun _ => rfl) (fun x7 => ?_)
    show G _ Γ _ _ _ _ _ _ _ [(0, Value.ref (a 43)), (1, Value.ref (a 20)), (2, Value.int x7)] (20 + 3) _
    refine g_goto (pc := 23) (tgt := 2) dX10_copy_23 (by decide) ?_
    exact hk1 s6 _
set_option maxRecDepth 100000 in
set_option maxHeartbeats 4000000 in
theorem k_X10_at__44 {l : Launch} {D : va_G} {a : Nat → Nat} {cI cS : ClassId} (hI : ∀ σ : St, va_D (AN a) (cN a cI cS σ)) {σ : St} {x1 : Int32} {r : Int32 × St} (h : f_X10_at__44 σ x1 = some r) : Kc (SN l D a cI cS) yX10_at cX10_at 2 (some .int) 0 [Value.ref (a 44), Value.int x1] σ r := by
  refine enter (own := RX10) (o := f_X10_at__44 σ x1) (plainFor_of_name (by decide +kernel)) rfl (Nat.le_of_ble_eq_true rfl) hI wk_X10_at.1 h (fun Γ hRT => ?_)
  show G _ Γ _ _ _ _ _ _ σ [((0 : Nat), Value.ref (a 44)), ((1 : Nat), Value.int x1)] 0 []
  unfold f_X10_at__44
  refine g_aload_n (pc := 0) 0 dX10_at_0 rfl rfl ?_
  refine g_ifnull (pc := 1) dX10_at_1 ?_
  refine g_jq0 (pc2 := 20) (lf := ([] : List (Nat × Value))) (sf := ([] : List Value)) (fun s3 => ?_) (fun k2 hk2 => ?_)
  · show G _ Γ _ _ _ _ _ _ s3 ([] : List (Nat × Value)) 20 ([] : List Value)
    refine g_iconst (pc := 20) (v := 0) dX10_at_20 (by decide) ?_
    exact g_iret (pc := 21) hRT dX10_at_21
  · refine g_iload_n (pc := 4) 1 dX10_at_4 rfl rfl ?_
    refine g_if_lt (pc := 5) (tgt := 20) dX10_at_5 (by decide) ?_ ?_
    · exact g_lv [] rfl (hk2 σ)
    · refine g_iload_n (pc := 8) 1 dX10_at_8 rfl rfl ?_
      refine g_aload_n (pc := 9) 0 dX10_at_9 rfl rfl ?_
      refine g_alen (pc := 10) 44 0 (v := 5) cN_44 rfl (show Int32.ofNat 5 = 5 by decide) dX10_at_10 ?_
      refine g_icmp_ge (pc := 11) (tgt := 20) dX10_at_11 (by decide) ?_ ?_
      · exact g_lv [] rfl (hk2 σ)
      · refine g_aload_n (pc := 14) 0 dX10_at_14 rfl rfl ?_
        refine g_iload_n (pc := 15) 1 dX10_at_15 rfl rfl ?_
        refine g_iald (pc := 16) 44 cN_44 rfl dX10_at_16 ?_
        refine g_goto (pc := 17) (tgt := 21) dX10_at_17 (by decide) ?_
        exact g_iret (pc := 21) hRT dX10_at_21
set_option maxRecDepth 100000 in
set_option maxHeartbeats 4000000 in
theorem k_X10_copy__44_21 {l : Launch} {D : va_G} {a : Nat → Nat} {cI cS : ClassId} (hI : ∀ σ : St, va_D (AN a) (cN a cI cS σ)) {σ : St} {r : Int32 × St} (h : f_X10_copy__44_21 σ = some r) : Kc (SN l D a cI cS) yX10_copy cX10_copy 3 none 1 [Value.ref (a 44), Value.ref (a 21)] σ r := by
  refine enter (own := RX10) (o := f_X10_copy__44_21 σ) (plainFor_of_name (by decide +kernel)) rfl (Nat.le_of_ble_eq_true rfl) hI wk_X10_copy.1 h (fun Γ hRT => ?_)
  show G _ Γ _ _ _ _ _ _ σ [((0 : Nat), Value.ref (a 44)), ((1 : Nat), Value.ref (a 21))] 0 []
  unfold f_X10_copy__44_21
  refine g_iconst (pc := 0) (v := 0) dX10_copy_0 (by decide) ?_
  refine g_istore_n (pc := 1) [1, 2, 0] (lv1 := [(0, Value.ref (a 44)), (1, Value.ref (a 21)), (2, Value.int (0 : Int32))]) dX10_copy_1 rfl (by decide) rfl ?_
  refine g_lq1 (pc := 2) (lf := fun x2 => [((0 : Nat), Value.ref (a 44)), ((1 : Nat), Value.ref (a 21)), ((2 : Nat), Value.int x2)]) (sf := fun x2 => ([] : List Value)) (fun k1 hk1 s3 x2 => ?_) 100000 σ _
  show G _ Γ _ _ _ _ _ _ s3 [((0 : Nat), Value.ref (a 44)), ((1 : Nat), Value.ref (a 21)), ((2 : Nat), Value.int x2)] 2 ([] : List Value)
  refine g_aload_n (pc := 2) 1 dX10_copy_2 rfl rfl ?_
  refine g_ifnull (pc := 3) dX10_copy_3 ?_
  refine g_iload_n (pc := 6) 2 dX10_copy_6 rfl rfl ?_
  refine g_aload_n (pc := 7) 1 dX10_copy_7 rfl rfl ?_
  refine g_alen (pc := 8) 21 0 (v := 5) cN_21 rfl (show Int32.ofNat 5 = 5 by decide) dX10_copy_8 ?_
  refine g_icmp_ge (pc := 9) (tgt := 26) dX10_copy_9 (by decide) ?_ ?_
  · exact g_vret (pc := 26) hRT dX10_copy_26
  · refine g_aload_n (pc := 12) 1 dX10_copy_12 rfl rfl ?_
    refine g_iload_n (pc := 13) 2 dX10_copy_13 rfl rfl ?_
    refine g_aload_n (pc := 14) 0 dX10_copy_14 rfl rfl ?_
    refine g_iload_n (pc := 15) 2 dX10_copy_15 rfl rfl ?_
    refine g_cSi (pc := 16) (As := [Value.ref (a 44), Value.int x2]) (fun r2 h2 => k_X10_at__44 hI h2) wk_X10_at ws_X10_at bw_24_10 (by decide) (by decide) rfl rfl (Nat.le_of_ble_eq_true rfl) dX10_copy_16 (fun r4 s5 => ?_)
    refine g_iast (pc := 19) 21 cN_21 rfl cN_s21 dX10_copy_19 (fun s6 => ?_)
    refine g_iinc (pc := 20) [1, 2, 0] 2 (n1 := 1) (lv1 := fun x7 => [(0, Value.ref (a 44)), (1, Value.ref (a 21)), (2, Value.int x7)]) dX10_copy_20 rfl (by decide) (by decide) (fun _ => rfl) (fun x7 => ?_)
    show G _ Γ _ _ _ _ _ _ _ [(0, Value.ref (a 44)), (1, Value.ref (a 21)), (2, Value.int x7)] (20 + 3) _
    refine g_goto (pc := 23) (tgt := 2) dX10_copy_23 (by decide) ?_
    exact hk1 s6 _
set_option maxRecDepth 100000 in
set_option maxHeartbeats 4000000 in
theorem k_X9_copyOf__19_42 {l : Launch} {D : va_G} {a : Nat → Nat} {cI cS : ClassId} (hI : ∀ σ : St, va_D (AN a) (cN a cI cS σ)) {σ : St} {r : Int32 × St} (h : f_X9_copyOf__19_42 σ = some r) : Kc (SN l D a cI cS) yX9_copyOf cX9_copyOf 2 none 2 [Value.ref (a 19), Value.ref (a 42)] σ r := by
  refine enter (own := RX9) (o := f_X9_copyOf__19_42 σ) (plainFor_of_name (by decide +kernel)) rfl (Nat.le_of_ble_eq_true rfl) hI wk_X9_copyOf.1 h (fun Γ hRT => ?_)
  show G _ Γ _ _ _ _ _ _ σ [((0 : Nat), Value.ref (a 19)), ((1 : Nat), Value.ref (a 42))] 0 []
  unfold f_X9_copyOf__19_42
  refine g_aload_n (pc := 0) 1 dX9_copyOf_0 rfl rfl ?_
  refine g_get (pc := 1) 42 cN_42 rfl inlX9 0 (by decide) bw_4_14 rfl dX9_copyOf_1 ?_
  refine g_aload_n (pc := 4) 0 dX9_copyOf_4 rfl rfl ?_
  refine g_get (pc := 5) 19 cN_19 rfl inlX9 0 (by decide) bw_4_14 rfl dX9_copyOf_5 ?_
  refine g_cNv (pc := 8) (As := [Value.ref (a 43), Value.ref (a 20)]) (fun r2 h2 => k_X10_copy__43_20 hI h2) wk_X10_copy ws_X10_copy nst_RX9_42 (by decide) (by decide) rfl rfl (Nat.le_of_ble_eq_true rfl) dX9_copyOf_8 (fun r1 s2 => ?_)
  refine g_aload_n (pc := 11) 1 dX9_copyOf_11 rfl rfl ?_
  refine g_get (pc := 12) 42 cN_42 rfl inlX9 1 (by decide) bw_4_15 rfl dX9_copyOf_12 ?_
  refine g_aload_n (pc := 15) 0 dX9_copyOf_15 rfl rfl ?_
  refine g_get (pc := 16) 19 cN_19 rfl inlX9 1 (by decide) bw_4_15 rfl dX9_copyOf_16 ?_
  refine g_cNv (pc := 19) (As := [Value.ref (a 44), Value.ref (a 21)]) (fun r2 h2 => k_X10_copy__44_21 hI h2) wk_X10_copy ws_X10_copy nst_RX9_42 (by decide) (by decide) rfl rfl (Nat.le_of_ble_eq_true rfl) dX9_copyOf_19 (fun r3 s4 => ?_)
  refine g_aload_n (pc := 22) 0 dX9_copyOf_22 rfl rfl ?_
  refine g_aload_n (pc := 23) 1 dX9_copyOf_23 rfl rfl ?_
  refine g_get (pc := 24) 42 cN_42 rfl inlX9 2 (by decide) bw_4_16 rfl dX9_copyOf_24 ?_
  refine g_put (pc := 27) 19 (ty := .int) cN_19 rfl inlX9 tyX9_ok nmX9 2 (by decide) bw_4_16 rfl (by decide +kernel) rfl rfl (Nat.le_of_ble_eq_true rfl) cN_f19_2 dX9_copyOf_27 (fun s5 => ?_)
  exact g_vret (pc := 30) hRT dX9_copyOf_30
set_option maxRecDepth 100000 in
set_option maxHeartbeats 4000000 in
theorem k_X10_at__46 {l : Launch} {D : va_G} {a : Nat → Nat} {cI cS : ClassId} (hI : ∀ σ : St, va_D (AN a) (cN a cI cS σ)) {σ : St} {x1 : Int32} {r : Int32 × St} (h : f_X10_at__46 σ x1 = some r) : Kc (SN l D a cI cS) yX10_at cX10_at 2 (some .int) 0 [Value.ref (a 46), Value.int x1] σ r := by
  refine enter (own := RX10) (o := f_X10_at__46 σ x1) (plainFor_of_name (by decide +kernel)) rfl (Nat.le_of_ble_eq_true rfl) hI wk_X10_at.1 h (fun Γ hRT => ?_)
  show G _ Γ _ _ _ _ _ _ σ [((0 : Nat), Value.ref (a 46)), ((1 : Nat), Value.int x1)] 0 []
  unfold f_X10_at__46
  refine g_aload_n (pc := 0) 0 dX10_at_0 rfl rfl ?_
  refine g_ifnull (pc := 1) dX10_at_1 ?_
  refine g_jq0 (pc2 := 20) (lf := ([] : List (Nat × Value))) (sf := ([] : List Value)) (fun s3 => ?_) (fun k2 hk2 => ?_)
  · show G _ Γ _ _ _ _ _ _ s3 ([] : List (Nat × Value)) 20 ([] : List Value)
    refine g_iconst (pc := 20) (v := 0) dX10_at_20 (by decide) ?_
    exact g_iret (pc := 21) hRT dX10_at_21
  · refine g_iload_n (pc := 4) 1 dX10_at_4 rfl rfl ?_
    refine g_if_lt (pc := 5) (tgt := 20) dX10_at_5 (by decide) ?_ ?_
    · exact g_lv [] rfl (hk2 σ)
    · refine g_iload_n (pc := 8) 1 dX10_at_8 rfl rfl ?_
      refine g_aload_n (pc := 9) 0 dX10_at_9 rfl rfl ?_
      refine g_alen (pc := 10) 46 0 (v := 16) cN_46 rfl (show Int32.ofNat 16 = 16 by decide) dX10_at_10 ?_
      refine g_icmp_ge (pc := 11) (tgt := 20) dX10_at_11 (by decide) ?_ ?_
      · exact g_lv [] rfl (hk2 σ)
      · refine g_aload_n (pc := 14) 0 dX10_at_14 rfl rfl ?_
        refine g_iload_n (pc := 15) 1 dX10_at_15 rfl rfl ?_
        refine g_iald (pc := 16) 46 cN_46 rfl dX10_at_16 ?_
        refine g_goto (pc := 17) (tgt := 21) dX10_at_17 (by decide) ?_
        exact g_iret (pc := 21) hRT dX10_at_21
set_option maxRecDepth 100000 in
set_option maxHeartbeats 4000000 in
theorem k_X10_copy__46_20 {l : Launch} {D : va_G} {a : Nat → Nat} {cI cS : ClassId} (hI : ∀ σ : St, va_D (AN a) (cN a cI cS σ)) {σ : St} {r : Int32 × St} (h : f_X10_copy__46_20 σ = some r) : Kc (SN l D a cI cS) yX10_copy cX10_copy 3 none 1 [Value.ref (a 46), Value.ref (a 20)] σ r := by
  refine enter (own := RX10) (o := f_X10_copy__46_20 σ) (plainFor_of_name (by decide +kernel)) rfl (Nat.le_of_ble_eq_true rfl) hI wk_X10_copy.1 h (fun Γ hRT => ?_)
  show G _ Γ _ _ _ _ _ _ σ [((0 : Nat), Value.ref (a 46)), ((1 : Nat), Value.ref (a 20))] 0 []
  unfold f_X10_copy__46_20
  refine g_iconst (pc := 0) (v := 0) dX10_copy_0 (by decide) ?_
  refine g_istore_n (pc := 1) [1, 2, 0] (lv1 := [(0, Value.ref (a 46)), (1, Value.ref (a 20)), (2, Value.int (0 : Int32))]) dX10_copy_1 rfl (by decide) rfl ?_
  refine g_lq1 (pc := 2) (lf := fun x2 => [((0 : Nat), Value.ref (a 46)), ((1 : Nat), Value.ref (a 20)), ((2 : Nat), Value.int x2)]) (sf := fun x2 => ([] : List Value)) (fun k1 hk1 s3 x2 => ?_) 100000 σ _
  show G _ Γ _ _ _ _ _ _ s3 [((0 : Nat), Value.ref (a 46)), ((1 : Nat), Value.ref (a 20)), ((2 : Nat), Value.int x2)] 2 ([] : List Value)
  refine g_aload_n (pc := 2) 1 dX10_copy_2 rfl rfl ?_
  refine g_ifnull (pc := 3) dX10_copy_3 ?_
  refine g_iload_n (pc := 6) 2 dX10_copy_6 rfl rfl ?_
  refine g_aload_n (pc := 7) 1 dX10_copy_7 rfl rfl ?_
  refine g_alen (pc := 8) 20 0 (v := 16) cN_20 rfl (show Int32.ofNat 16 = 16 by decide) dX10_copy_8 ?_
  refine g_icmp_ge (pc := 9) (tgt := 26) dX10_copy_9 (by decide) ?_ ?_
  · exact g_vret (pc := 26) hRT dX10_copy_26
  · refine g_aload_n (pc := 12) 1 dX10_copy_12 rfl rfl ?_
    refine g_iload_n (pc := 13) 2 dX10_copy_13 rfl rfl ?_
    refine g_aload_n (pc := 14) 0 dX10_copy_14 rfl rfl ?_
    refine g_iload_n (pc := 15) 2 dX10_copy_15 rfl rfl ?_
    refine g_cSi (pc := 16) (As := [Value.ref (a 46), Value.int x2]) (fun r2 h2 => k_X10_at__46 hI h2) wk_X10_at ws_X10_at bw_24_10 (by decide) (by decide) rfl rfl (Nat.le_of_ble_eq_true rfl) dX10_copy_16 (fun r4 s5 => ?_)
    refine g_iast (pc := 19) 20 cN_20 rfl cN_s20 dX10_copy_19 (fun s6 => ?_)
    refine g_iinc (pc := 20) [1, 2, 0] 2 (n1 := 1) (lv1 := fun x7 => [(0, Value.ref (a 46)), (1, Value.ref (a 20)), (2, Value.int x7)]) dX10_copy_20 rfl (by decide) (by decide) (fun _ => rfl) (fun x7 => ?_)
    show G _ Γ _ _ _ _ _ _ _ [(0, Value.ref (a 46)), (1, Value.ref (a 20)), (2, Value.int x7)] (20 + 3) _
    refine g_goto (pc := 23) (tgt := 2) dX10_copy_23 (by decide) ?_
    exact hk1 s6 _
set_option maxRecDepth 100000 in
set_option maxHeartbeats 4000000 in
theorem k_X10_at__47 {l : Launch} {D : va_G} {a : Nat → Nat} {cI cS : ClassId} (hI : ∀ σ : St, va_D (AN a) (cN a cI cS σ)) {σ : St} {x1 : Int32} {r : Int32 × St} (h : f_X10_at__47 σ x1 = some r) : Kc (SN l D a cI cS) yX10_at cX10_at 2 (some .int) 0 [Value.ref (a 47), Value.int x1] σ r := by
  refine enter (own := RX10) (o := f_X10_at__47 σ x1) (plainFor_of_name (by decide +kernel)) rfl (Nat.le_of_ble_eq_true rfl) hI wk_X10_at.1 h (fun Γ hRT => ?_)
  show G _ Γ _ _ _ _ _ _ σ [((0 : Nat), Value.ref (a 47)), ((1 : Nat), Value.int x1)] 0 []
  unfold f_X10_at__47
  refine g_aload_n (pc := 0) 0 dX10_at_0 rfl rfl ?_
  refine g_ifnull (pc := 1) dX10_at_1 ?_
  refine g_jq0 (pc2 := 20) (lf := ([] : List (Nat × Value))) (sf := ([] : List Value)) (fun s3 => ?_) (fun k2 hk2 => ?_)
  · show G _ Γ _ _ _ _ _ _ s3 ([] : List (Nat × Value)) 20 ([] : List Value)
    refine g_iconst (pc := 20) (v := 0) dX10_at_20 (by decide) ?_
    exact g_iret (pc := 21) hRT dX10_at_21
  · refine g_iload_n (pc := 4) 1 dX10_at_4 rfl rfl ?_
    refine g_if_lt (pc := 5) (tgt := 20) dX10_at_5 (by decide) ?_ ?_
    · exact g_lv [] rfl (hk2 σ)
    · refine g_iload_n (pc := 8) 1 dX10_at_8 rfl rfl ?_
      refine g_aload_n (pc := 9) 0 dX10_at_9 rfl rfl ?_
      refine g_alen (pc := 10) 47 0 (v := 5) cN_47 rfl (show Int32.ofNat 5 = 5 by decide) dX10_at_10 ?_
      refine g_icmp_ge (pc := 11) (tgt := 20) dX10_at_11 (by decide) ?_ ?_
      · exact g_lv [] rfl (hk2 σ)
      · refine g_aload_n (pc := 14) 0 dX10_at_14 rfl rfl ?_
        refine g_iload_n (pc := 15) 1 dX10_at_15 rfl rfl ?_
        refine g_iald (pc := 16) 47 cN_47 rfl dX10_at_16 ?_
        refine g_goto (pc := 17) (tgt := 21) dX10_at_17 (by decide) ?_
        exact g_iret (pc := 21) hRT dX10_at_21
set_option maxRecDepth 100000 in
set_option maxHeartbeats 4000000 in
theorem k_X10_copy__47_21 {l : Launch} {D : va_G} {a : Nat → Nat} {cI cS : ClassId} (hI : ∀ σ : St, va_D (AN a) (cN a cI cS σ)) {σ : St} {r : Int32 × St} (h : f_X10_copy__47_21 σ = some r) : Kc (SN l D a cI cS) yX10_copy cX10_copy 3 none 1 [Value.ref (a 47), Value.ref (a 21)] σ r := by
  refine enter (own := RX10) (o := f_X10_copy__47_21 σ) (plainFor_of_name (by decide +kernel)) rfl (Nat.le_of_ble_eq_true rfl) hI wk_X10_copy.1 h (fun Γ hRT => ?_)
  show G _ Γ _ _ _ _ _ _ σ [((0 : Nat), Value.ref (a 47)), ((1 : Nat), Value.ref (a 21))] 0 []
  unfold f_X10_copy__47_21
  refine g_iconst (pc := 0) (v := 0) dX10_copy_0 (by decide) ?_
  refine g_istore_n (pc := 1) [1, 2, 0] (lv1 := [(0, Value.ref (a 47)), (1, Value.ref (a 21)), (2, Value.int (0 : Int32))]) dX10_copy_1 rfl (by decide) rfl ?_
  refine g_lq1 (pc := 2) (lf := fun x2 => [((0 : Nat), Value.ref (a 47)), ((1 : Nat), Value.ref (a 21)), ((2 : Nat), Value.int x2)]) (sf := fun x2 => ([] : List Value)) (fun k1 hk1 s3 x2 => ?_) 100000 σ _
  show G _ Γ _ _ _ _ _ _ s3 [((0 : Nat), Value.ref (a 47)), ((1 : Nat), Value.ref (a 21)), ((2 : Nat), Value.int x2)] 2 ([] : List Value)
  refine g_aload_n (pc := 2) 1 dX10_copy_2 rfl rfl ?_
  refine g_ifnull (pc := 3) dX10_copy_3 ?_
  refine g_iload_n (pc := 6) 2 dX10_copy_6 rfl rfl ?_
  refine g_aload_n (pc := 7) 1 dX10_copy_7 rfl rfl ?_
  refine g_alen (pc := 8) 21 0 (v := 5) cN_21 rfl (show Int32.ofNat 5 = 5 by decide) dX10_copy_8 ?_
  refine g_icmp_ge (pc := 9) (tgt := 26) dX10_copy_9 (by decide) ?_ ?_
  · exact g_vret (pc := 26) hRT dX10_copy_26
  · refine g_aload_n (pc := 12) 1 dX10_copy_12 rfl rfl ?_
    refine g_iload_n (pc := 13) 2 dX10_copy_13 rfl rfl ?_
    refine g_aload_n (pc := 14) 0 dX10_copy_14 rfl rfl ?_
    refine g_iload_n (pc := 15) 2 dX10_copy_15 rfl rfl ?_
    refine g_cSi (pc := 16) (As := [Value.ref (a 47), Value.int x2]) (fun r2 h2 => k_X10_at__47 hI h2) wk_X10_at ws_X10_at bw_24_10 (by decide) (by decide) rfl rfl (Nat.le_of_ble_eq_true rfl) dX10_copy_16 (fun r4 s5 => ?_)
    refine g_iast (pc := 19) 21 cN_21 rfl cN_s21 dX10_copy_19 (fun s6 => ?_)
    refine g_iinc (pc := 20) [1, 2, 0] 2 (n1 := 1) (lv1 := fun x7 => [(0, Value.ref (a 47)), (1, Value.ref (a 21)), (2, Value.int x7)]) dX10_copy_20 rfl (by decide) (by decide) (fun _ => rfl) (fun x7 => ?_)
    show G _ Γ _ _ _ _ _ _ _ [(0, Value.ref (a 47)), (1, Value.ref (a 21)), (2, Value.int x7)] (20 + 3) _
    refine g_goto (pc := 23) (tgt := 2) dX10_copy_23 (by decide) ?_
    exact hk1 s6 _
set_option maxRecDepth 100000 in
set_option maxHeartbeats 4000000 in
theorem k_X9_copyOf__19_45 {l : Launch} {D : va_G} {a : Nat → Nat} {cI cS : ClassId} (hI : ∀ σ : St, va_D (AN a) (cN a cI cS σ)) {σ : St} {r : Int32 × St} (h : f_X9_copyOf__19_45 σ = some r) : Kc (SN l D a cI cS) yX9_copyOf cX9_copyOf 2 none 2 [Value.ref (a 19), Value.ref (a 45)] σ r := by
  refine enter (own := RX9) (o := f_X9_copyOf__19_45 σ) (plainFor_of_name (by decide +kernel)) rfl (Nat.le_of_ble_eq_true rfl) hI wk_X9_copyOf.1 h (fun Γ hRT => ?_)
  show G _ Γ _ _ _ _ _ _ σ [((0 : Nat), Value.ref (a 19)), ((1 : Nat), Value.ref (a 45))] 0 []
  unfold f_X9_copyOf__19_45
  refine g_aload_n (pc := 0) 1 dX9_copyOf_0 rfl rfl ?_
  refine g_get (pc := 1) 45 cN_45 rfl inlX9 0 (by decide) bw_4_14 rfl dX9_copyOf_1 ?_
  refine g_aload_n (pc := 4) 0 dX9_copyOf_4 rfl rfl ?_
  refine g_get (pc := 5) 19 cN_19 rfl inlX9 0 (by decide) bw_4_14 rfl dX9_copyOf_5 ?_
  refine g_cNv (pc := 8) (As := [Value.ref (a 46), Value.ref (a 20)]) (fun r2 h2 => k_X10_copy__46_20 hI h2) wk_X10_copy ws_X10_copy nst_RX9_42 (by decide) (by decide) rfl rfl (Nat.le_of_ble_eq_true rfl) dX9_copyOf_8 (fun r1 s2 => ?_)
  refine g_aload_n (pc := 11) 1 dX9_copyOf_11 rfl rfl ?_
  refine g_get (pc := 12) 45 cN_45 rfl inlX9 1 (by decide) bw_4_15 rfl dX9_copyOf_12 ?_
  refine g_aload_n (pc := 15) 0 dX9_copyOf_15 rfl rfl ?_
  refine g_get (pc := 16) 19 cN_19 rfl inlX9 1 (by decide) bw_4_15 rfl dX9_copyOf_16 ?_
  refine g_cNv (pc := 19) (As := [Value.ref (a 47), Value.ref (a 21)]) (fun r2 h2 => k_X10_copy__47_21 hI h2) wk_X10_copy ws_X10_copy nst_RX9_42 (by decide) (by decide) rfl rfl (Nat.le_of_ble_eq_true rfl) dX9_copyOf_19 (fun r3 s4 => ?_)
  refine g_aload_n (pc := 22) 0 dX9_copyOf_22 rfl rfl ?_
  refine g_aload_n (pc := 23) 1 dX9_copyOf_23 rfl rfl ?_
  refine g_get (pc := 24) 45 cN_45 rfl inlX9 2 (by decide) bw_4_16 rfl dX9_copyOf_24 ?_
  refine g_put (pc := 27) 19 (ty := .int) cN_19 rfl inlX9 tyX9_ok nmX9 2 (by decide) bw_4_16 rfl (by decide +kernel) rfl rfl (Nat.le_of_ble_eq_true rfl) cN_f19_2 dX9_copyOf_27 (fun s5 => ?_)
  exact g_vret (pc := 30) hRT dX9_copyOf_30
set_option maxRecDepth 100000 in
set_option maxHeartbeats 4000000 in
theorem k_X5_popInto__22_19 {l : Launch} {D : va_G} {a : Nat → Nat} {cI cS : ClassId} (hI : ∀ σ : St, va_D (AN a) (cN a cI cS σ)) {σ : St} {r : Int32 × St} (h : f_X5_popInto__22_19 σ = some r) : Kc (SN l D a cI cS) yX5_popInto cX5_popInto 3 (some .boolean) 3 [Value.ref (a 22), Value.ref (a 19)] σ r := by
  refine enter (own := RX5) (o := f_X5_popInto__22_19 σ) (plainFor_of_name (by decide +kernel)) rfl (Nat.le_of_ble_eq_true rfl) hI wk_X5_popInto.1 h (fun Γ hRT => ?_)
  show G _ Γ _ _ _ _ _ _ σ [((0 : Nat), Value.ref (a 22)), ((1 : Nat), Value.ref (a 19))] 0 []
  unfold f_X5_popInto__22_19
  refine g_aload_n (pc := 0) 0 dX5_popInto_0 rfl rfl ?_
  refine g_get (pc := 1) 22 cN_22 rfl inlX5 2 (by decide) bw_4_22 rfl dX5_popInto_1 ?_
  refine g_if_ne (pc := 4) (tgt := 9) dX5_popInto_4 (by decide) ?_ ?_
  · refine g_aload_n (pc := 9) 0 dX5_popInto_9 rfl rfl ?_
    refine g_aload_n (pc := 10) 0 dX5_popInto_10 rfl rfl ?_
    refine g_get (pc := 11) 22 cN_22 rfl inlX5 2 (by decide) bw_4_22 rfl dX5_popInto_11 ?_
    refine g_iconst (pc := 14) (v := 1) dX5_popInto_14 (by decide) ?_
    refine g_isub (pc := 15) dX5_popInto_15 ?_
    refine g_cVr (pc := 16) 22 (As := [Value.int ((σ 22 2) - (1 : Int32))]) (fun r2 h2 => k_X5_placeOf__22 hI h2) wk_X5_placeOf wv_X5_placeOf bw_23_23 cN_22 rfl (by decide) (by decide) rfl rfl (Nat.le_of_ble_eq_true rfl) dX5_popInto_16 (fun r1 s2 => ?_)
    refine g_ite (fun e24_ => ?_) (fun e24_ => ?_)
    · refine g_eq (lv1 := [((0 : Nat), Value.ref (a 22)), ((1 : Nat), Value.ref (a 19))]) (st1 := [Value.ref (a 24)]) rfl (by subst e24_; first | rfl | (rw [pqv_24]; done) | (rw [pqv_24]; rfl)) ?_
      refine g_astore_n (pc := 19) [1, 2, 0] (lv1 := [(0, Value.ref (a 22)), (1, Value.ref (a 19)), (2, Value.ref (a 24))]) dX5_popInto_19 rfl (by decide) rfl ?_
      refine g_aload_n (pc := 20) 2 dX5_popInto_20 rfl rfl ?_
      refine g_ifnonnull (pc := 21) (tgt := 26) dX5_popInto_21 (by decide) ?_
      refine g_aload_n (pc := 26) 1 dX5_popInto_26 rfl rfl ?_
      refine g_aload_n (pc := 27) 2 dX5_popInto_27 rfl rfl ?_
      refine g_cVv (pc := 28) 19 (As := [Value.ref (a 24)]) (fun r2 h2 => k_X9_copyOf__19_24 hI h2) wk_X9_copyOf wv_X9_copyOf bw_24_4 cN_19 rfl (by decide) (by decide) rfl rfl (Nat.le_of_ble_eq_true rfl) dX5_popInto_28 (fun r3 s4 => ?_)
      refine g_aload_n (pc := 31) 0 dX5_popInto_31 rfl rfl ?_
      refine g_dup (pc := 32) dX5_popInto_32 rfl ?_
      refine g_get (pc := 33) 22 cN_22 rfl inlX5 2 (by decide) bw_4_22 rfl dX5_popInto_33 ?_
      refine g_iconst (pc := 36) (v := 1) dX5_popInto_36 (by decide) ?_
      refine g_isub (pc := 37) dX5_popInto_37 ?_
      refine g_put (pc := 38) 22 (ty := .int) cN_22 rfl inlX5 tyX5_ok nmX5 2 (by decide) bw_4_22 rfl (by decide +kernel) rfl rfl (Nat.le_of_ble_eq_true rfl) cN_f22_2 dX5_popInto_38 (fun s5 => ?_)
      refine g_iconst (pc := 41) (v := 1) dX5_popInto_41 (by decide) ?_
      exact g_zret1 (pc := 42) hRT (by decide) dX5_popInto_42
    · skip
      refine g_ite (fun e27_ => ?_) (fun e27_ => ?_)
      · refine g_eq (lv1 := [((0 : Nat), Value.ref (a 22)), ((1 : Nat), Value.ref (a 19))]) (st1 := [Value.ref (a 27)]) rfl (by subst e27_; first | rfl | (rw [pqv_27]; done) | (rw [pqv_27]; rfl)) ?_
        refine g_astore_n (pc := 19) [1, 2, 0] (lv1 := [(0, Value.ref (a 22)), (1, Value.ref (a 19)), (2, Value.ref (a 27))]) dX5_popInto_19 rfl (by decide) rfl ?_
        refine g_aload_n (pc := 20) 2 dX5_popInto_20 rfl rfl ?_
        refine g_ifnonnull (pc := 21) (tgt := 26) dX5_popInto_21 (by decide) ?_
        refine g_aload_n (pc := 26) 1 dX5_popInto_26 rfl rfl ?_
        refine g_aload_n (pc := 27) 2 dX5_popInto_27 rfl rfl ?_
        refine g_cVv (pc := 28) 19 (As := [Value.ref (a 27)]) (fun r2 h2 => k_X9_copyOf__19_27 hI h2) wk_X9_copyOf wv_X9_copyOf bw_24_4 cN_19 rfl (by decide) (by decide) rfl rfl (Nat.le_of_ble_eq_true rfl) dX5_popInto_28 (fun r6 s7 => ?_)
        refine g_aload_n (pc := 31) 0 dX5_popInto_31 rfl rfl ?_
        refine g_dup (pc := 32) dX5_popInto_32 rfl ?_
        refine g_get (pc := 33) 22 cN_22 rfl inlX5 2 (by decide) bw_4_22 rfl dX5_popInto_33 ?_
        refine g_iconst (pc := 36) (v := 1) dX5_popInto_36 (by decide) ?_
        refine g_isub (pc := 37) dX5_popInto_37 ?_
        refine g_put (pc := 38) 22 (ty := .int) cN_22 rfl inlX5 tyX5_ok nmX5 2 (by decide) bw_4_22 rfl (by decide +kernel) rfl rfl (Nat.le_of_ble_eq_true rfl) cN_f22_2 dX5_popInto_38 (fun s8 => ?_)
        refine g_iconst (pc := 41) (v := 1) dX5_popInto_41 (by decide) ?_
        exact g_zret1 (pc := 42) hRT (by decide) dX5_popInto_42
      · skip
        refine g_ite (fun e30_ => ?_) (fun e30_ => ?_)
        · refine g_eq (lv1 := [((0 : Nat), Value.ref (a 22)), ((1 : Nat), Value.ref (a 19))]) (st1 := [Value.ref (a 30)]) rfl (by subst e30_; first | rfl | (rw [pqv_30]; done) | (rw [pqv_30]; rfl)) ?_
          refine g_astore_n (pc := 19) [1, 2, 0] (lv1 := [(0, Value.ref (a 22)), (1, Value.ref (a 19)), (2, Value.ref (a 30))]) dX5_popInto_19 rfl (by decide) rfl ?_
          refine g_aload_n (pc := 20) 2 dX5_popInto_20 rfl rfl ?_
          refine g_ifnonnull (pc := 21) (tgt := 26) dX5_popInto_21 (by decide) ?_
          refine g_aload_n (pc := 26) 1 dX5_popInto_26 rfl rfl ?_
          refine g_aload_n (pc := 27) 2 dX5_popInto_27 rfl rfl ?_
          refine g_cVv (pc := 28) 19 (As := [Value.ref (a 30)]) (fun r2 h2 => k_X9_copyOf__19_30 hI h2) wk_X9_copyOf wv_X9_copyOf bw_24_4 cN_19 rfl (by decide) (by decide) rfl rfl (Nat.le_of_ble_eq_true rfl) dX5_popInto_28 (fun r9 s10 => ?_)
          refine g_aload_n (pc := 31) 0 dX5_popInto_31 rfl rfl ?_
          refine g_dup (pc := 32) dX5_popInto_32 rfl ?_
          refine g_get (pc := 33) 22 cN_22 rfl inlX5 2 (by decide) bw_4_22 rfl dX5_popInto_33 ?_
          refine g_iconst (pc := 36) (v := 1) dX5_popInto_36 (by decide) ?_
          refine g_isub (pc := 37) dX5_popInto_37 ?_
          refine g_put (pc := 38) 22 (ty := .int) cN_22 rfl inlX5 tyX5_ok nmX5 2 (by decide) bw_4_22 rfl (by decide +kernel) rfl rfl (Nat.le_of_ble_eq_true rfl) cN_f22_2 dX5_popInto_38 (fun s11 => ?_)
          refine g_iconst (pc := 41) (v := 1) dX5_popInto_41 (by decide) ?_
          exact g_zret1 (pc := 42) hRT (by decide) dX5_popInto_42
        · skip
          refine g_ite (fun e33_ => ?_) (fun e33_ => ?_)
          · refine g_eq (lv1 := [((0 : Nat), Value.ref (a 22)), ((1 : Nat), Value.ref (a 19))]) (st1 := [Value.ref (a 33)]) rfl (by subst e33_; first | rfl | (rw [pqv_33]; done) | (rw [pqv_33]; rfl)) ?_
            refine g_astore_n (pc := 19) [1, 2, 0] (lv1 := [(0, Value.ref (a 22)), (1, Value.ref (a 19)), (2, Value.ref (a 33))]) dX5_popInto_19 rfl (by decide) rfl ?_
            refine g_aload_n (pc := 20) 2 dX5_popInto_20 rfl rfl ?_
            refine g_ifnonnull (pc := 21) (tgt := 26) dX5_popInto_21 (by decide) ?_
            refine g_aload_n (pc := 26) 1 dX5_popInto_26 rfl rfl ?_
            refine g_aload_n (pc := 27) 2 dX5_popInto_27 rfl rfl ?_
            refine g_cVv (pc := 28) 19 (As := [Value.ref (a 33)]) (fun r2 h2 => k_X9_copyOf__19_33 hI h2) wk_X9_copyOf wv_X9_copyOf bw_24_4 cN_19 rfl (by decide) (by decide) rfl rfl (Nat.le_of_ble_eq_true rfl) dX5_popInto_28 (fun r12 s13 => ?_)
            refine g_aload_n (pc := 31) 0 dX5_popInto_31 rfl rfl ?_
            refine g_dup (pc := 32) dX5_popInto_32 rfl ?_
            refine g_get (pc := 33) 22 cN_22 rfl inlX5 2 (by decide) bw_4_22 rfl dX5_popInto_33 ?_
            refine g_iconst (pc := 36) (v := 1) dX5_popInto_36 (by decide) ?_
            refine g_isub (pc := 37) dX5_popInto_37 ?_
            refine g_put (pc := 38) 22 (ty := .int) cN_22 rfl inlX5 tyX5_ok nmX5 2 (by decide) bw_4_22 rfl (by decide +kernel) rfl rfl (Nat.le_of_ble_eq_true rfl) cN_f22_2 dX5_popInto_38 (fun s14 => ?_)
            refine g_iconst (pc := 41) (v := 1) dX5_popInto_41 (by decide) ?_
            exact g_zret1 (pc := 42) hRT (by decide) dX5_popInto_42
          · skip
            refine g_ite (fun e36_ => ?_) (fun e36_ => ?_)
            · refine g_eq (lv1 := [((0 : Nat), Value.ref (a 22)), ((1 : Nat), Value.ref (a 19))]) (st1 := [Value.ref (a 36)]) rfl (by subst e36_; first | rfl | (rw [pqv_36]; done) | (rw [pqv_36]; rfl)) ?_
              refine g_astore_n (pc := 19) [1, 2, 0] (lv1 := [(0, Value.ref (a 22)), (1, Value.ref (a 19)), (2, Value.ref (a 36))]) dX5_popInto_19 rfl (by decide) rfl ?_
              refine g_aload_n (pc := 20) 2 dX5_popInto_20 rfl rfl ?_
              refine g_ifnonnull (pc := 21) (tgt := 26) dX5_popInto_21 (by decide) ?_
              refine g_aload_n (pc := 26) 1 dX5_popInto_26 rfl rfl ?_
              refine g_aload_n (pc := 27) 2 dX5_popInto_27 rfl rfl ?_
              refine g_cVv (pc := 28) 19 (As := [Value.ref (a 36)]) (fun r2 h2 => k_X9_copyOf__19_36 hI h2) wk_X9_copyOf wv_X9_copyOf bw_24_4 cN_19 rfl (by decide) (by decide) rfl rfl (Nat.le_of_ble_eq_true rfl) dX5_popInto_28 (fun r15 s16 => ?_)
              refine g_aload_n (pc := 31) 0 dX5_popInto_31 rfl rfl ?_
              refine g_dup (pc := 32) dX5_popInto_32 rfl ?_
              refine g_get (pc := 33) 22 cN_22 rfl inlX5 2 (by decide) bw_4_22 rfl dX5_popInto_33 ?_
              refine g_iconst (pc := 36) (v := 1) dX5_popInto_36 (by decide) ?_
              refine g_isub (pc := 37) dX5_popInto_37 ?_
              refine g_put (pc := 38) 22 (ty := .int) cN_22 rfl inlX5 tyX5_ok nmX5 2 (by decide) bw_4_22 rfl (by decide +kernel) rfl rfl (Nat.le_of_ble_eq_true rfl) cN_f22_2 dX5_popInto_38 (fun s17 => ?_)
              refine g_iconst (pc := 41) (v := 1) dX5_popInto_41 (by decide) ?_
              exact g_zret1 (pc := 42) hRT (by decide) dX5_popInto_42
            · skip
              refine g_ite (fun e39_ => ?_) (fun e39_ => ?_)
              · refine g_eq (lv1 := [((0 : Nat), Value.ref (a 22)), ((1 : Nat), Value.ref (a 19))]) (st1 := [Value.ref (a 39)]) rfl (by subst e39_; first | rfl | (rw [pqv_39]; done) | (rw [pqv_39]; rfl)) ?_
                refine g_astore_n (pc := 19) [1, 2, 0] (lv1 := [(0, Value.ref (a 22)), (1, Value.ref (a 19)), (2, Value.ref (a 39))]) dX5_popInto_19 rfl (by decide) rfl ?_
                refine g_aload_n (pc := 20) 2 dX5_popInto_20 rfl rfl ?_
                refine g_ifnonnull (pc := 21) (tgt := 26) dX5_popInto_21 (by decide) ?_
                refine g_aload_n (pc := 26) 1 dX5_popInto_26 rfl rfl ?_
                refine g_aload_n (pc := 27) 2 dX5_popInto_27 rfl rfl ?_
                refine g_cVv (pc := 28) 19 (As := [Value.ref (a 39)]) (fun r2 h2 => k_X9_copyOf__19_39 hI h2) wk_X9_copyOf wv_X9_copyOf bw_24_4 cN_19 rfl (by decide) (by decide) rfl rfl (Nat.le_of_ble_eq_true rfl) dX5_popInto_28 (fun r18 s19 => ?_)
                refine g_aload_n (pc := 31) 0 dX5_popInto_31 rfl rfl ?_
                refine g_dup (pc := 32) dX5_popInto_32 rfl ?_
                refine g_get (pc := 33) 22 cN_22 rfl inlX5 2 (by decide) bw_4_22 rfl dX5_popInto_33 ?_
                refine g_iconst (pc := 36) (v := 1) dX5_popInto_36 (by decide) ?_
                refine g_isub (pc := 37) dX5_popInto_37 ?_
                refine g_put (pc := 38) 22 (ty := .int) cN_22 rfl inlX5 tyX5_ok nmX5 2 (by decide) bw_4_22 rfl (by decide +kernel) rfl rfl (Nat.le_of_ble_eq_true rfl) cN_f22_2 dX5_popInto_38 (fun s20 => ?_)
                refine g_iconst (pc := 41) (v := 1) dX5_popInto_41 (by decide) ?_
                exact g_zret1 (pc := 42) hRT (by decide) dX5_popInto_42
              · skip
                refine g_ite (fun e42_ => ?_) (fun e42_ => ?_)
                · refine g_eq (lv1 := [((0 : Nat), Value.ref (a 22)), ((1 : Nat), Value.ref (a 19))]) (st1 := [Value.ref (a 42)]) rfl (by subst e42_; first | rfl | (rw [pqv_42]; done) | (rw [pqv_42]; rfl)) ?_
                  refine g_astore_n (pc := 19) [1, 2, 0] (lv1 := [(0, Value.ref (a 22)), (1, Value.ref (a 19)), (2, Value.ref (a 42))]) dX5_popInto_19 rfl (by decide) rfl ?_
                  refine g_aload_n (pc := 20) 2 dX5_popInto_20 rfl rfl ?_
                  refine g_ifnonnull (pc := 21) (tgt := 26) dX5_popInto_21 (by decide) ?_
                  refine g_aload_n (pc := 26) 1 dX5_popInto_26 rfl rfl ?_
                  refine g_aload_n (pc := 27) 2 dX5_popInto_27 rfl rfl ?_
                  refine g_cVv (pc := 28) 19 (As := [Value.ref (a 42)]) (fun r2 h2 => k_X9_copyOf__19_42 hI h2) wk_X9_copyOf wv_X9_copyOf bw_24_4 cN_19 rfl (by decide) (by decide) rfl rfl (Nat.le_of_ble_eq_true rfl) dX5_popInto_28 (fun r21 s22 => ?_)
                  refine g_aload_n (pc := 31) 0 dX5_popInto_31 rfl rfl ?_
                  refine g_dup (pc := 32) dX5_popInto_32 rfl ?_
                  refine g_get (pc := 33) 22 cN_22 rfl inlX5 2 (by decide) bw_4_22 rfl dX5_popInto_33 ?_
                  refine g_iconst (pc := 36) (v := 1) dX5_popInto_36 (by decide) ?_
                  refine g_isub (pc := 37) dX5_popInto_37 ?_
                  refine g_put (pc := 38) 22 (ty := .int) cN_22 rfl inlX5 tyX5_ok nmX5 2 (by decide) bw_4_22 rfl (by decide +kernel) rfl rfl (Nat.le_of_ble_eq_true rfl) cN_f22_2 dX5_popInto_38 (fun s23 => ?_)
                  refine g_iconst (pc := 41) (v := 1) dX5_popInto_41 (by decide) ?_
                  exact g_zret1 (pc := 42) hRT (by decide) dX5_popInto_42
                · skip
                  refine g_ite (fun e45_ => ?_) (fun e45_ => ?_)
                  · refine g_eq (lv1 := [((0 : Nat), Value.ref (a 22)), ((1 : Nat), Value.ref (a 19))]) (st1 := [Value.ref (a 45)]) rfl (by subst e45_; first | rfl | (rw [pqv_45]; done) | (rw [pqv_45]; rfl)) ?_
                    refine g_astore_n (pc := 19) [1, 2, 0] (lv1 := [(0, Value.ref (a 22)), (1, Value.ref (a 19)), (2, Value.ref (a 45))]) dX5_popInto_19 rfl (by decide) rfl ?_
                    refine g_aload_n (pc := 20) 2 dX5_popInto_20 rfl rfl ?_
                    refine g_ifnonnull (pc := 21) (tgt := 26) dX5_popInto_21 (by decide) ?_
                    refine g_aload_n (pc := 26) 1 dX5_popInto_26 rfl rfl ?_
                    refine g_aload_n (pc := 27) 2 dX5_popInto_27 rfl rfl ?_
                    refine g_cVv (pc := 28) 19 (As := [Value.ref (a 45)]) (fun r2 h2 => k_X9_copyOf__19_45 hI h2) wk_X9_copyOf wv_X9_copyOf bw_24_4 cN_19 rfl (by decide) (by decide) rfl rfl (Nat.le_of_ble_eq_true rfl) dX5_popInto_28 (fun r24 s25 => ?_)
                    refine g_aload_n (pc := 31) 0 dX5_popInto_31 rfl rfl ?_
                    refine g_dup (pc := 32) dX5_popInto_32 rfl ?_
                    refine g_get (pc := 33) 22 cN_22 rfl inlX5 2 (by decide) bw_4_22 rfl dX5_popInto_33 ?_
                    refine g_iconst (pc := 36) (v := 1) dX5_popInto_36 (by decide) ?_
                    refine g_isub (pc := 37) dX5_popInto_37 ?_
                    refine g_put (pc := 38) 22 (ty := .int) cN_22 rfl inlX5 tyX5_ok nmX5 2 (by decide) bw_4_22 rfl (by decide +kernel) rfl rfl (Nat.le_of_ble_eq_true rfl) cN_f22_2 dX5_popInto_38 (fun s26 => ?_)
                    refine g_iconst (pc := 41) (v := 1) dX5_popInto_41 (by decide) ?_
                    exact g_zret1 (pc := 42) hRT (by decide) dX5_popInto_42
                  · skip
                    exact g_none
  · refine g_iconst (pc := 7) (v := 0) dX5_popInto_7 (by decide) ?_
    exact g_zret1 (pc := 8) hRT (by decide) dX5_popInto_8
set_option maxRecDepth 100000 in
set_option maxHeartbeats 4000000 in
theorem k_X5_size__22 {l : Launch} {D : va_G} {a : Nat → Nat} {cI cS : ClassId} (hI : ∀ σ : St, va_D (AN a) (cN a cI cS σ)) {σ : St} {r : Int32 × St} (h : f_X5_size__22 σ = some r) : Kc (SN l D a cI cS) yX5_size cX5_size 1 (some .int) 0 [Value.ref (a 22)] σ r := by
  refine enter (own := RX5) (o := f_X5_size__22 σ) (plainFor_of_name (by decide +kernel)) rfl (Nat.le_of_ble_eq_true rfl) hI wk_X5_size.1 h (fun Γ hRT => ?_)
  show G _ Γ _ _ _ _ _ _ σ [((0 : Nat), Value.ref (a 22))] 0 []
  unfold f_X5_size__22
  refine g_aload_n (pc := 0) 0 dX5_size_0 rfl rfl ?_
  refine g_get (pc := 1) 22 cN_22 rfl inlX5 2 (by decide) bw_4_22 rfl dX5_size_1 ?_
  exact g_iret (pc := 4) hRT dX5_size_4
set_option maxRecDepth 100000 in
set_option maxHeartbeats 4000000 in
theorem k_X10_undo__0 {l : Launch} {D : va_G} {a : Nat → Nat} {cI cS : ClassId} (hI : ∀ σ : St, va_D (AN a) (cN a cI cS σ)) {σ : St} {r : Int32 × St} (h : f_X10_undo__0 σ = some r) : Kc (SN l D a cI cS) yX10_undo cX10_undo 1 (some .int) 4 [Value.ref (a 0)] σ r := by
  refine enter (own := RX10) (o := f_X10_undo__0 σ) (plainFor_of_name (by decide +kernel)) rfl (Nat.le_of_ble_eq_true rfl) hI wk_X10_undo.1 h (fun Γ hRT => ?_)
  show G _ Γ _ _ _ _ _ _ σ [((0 : Nat), Value.ref (a 0))] 0 []
  unfold f_X10_undo__0
  refine g_aload_n (pc := 0) 0 dX10_undo_0 rfl rfl ?_
  refine g_get (pc := 1) 0 cN_0 rfl inlX10 5 (by decide) bw_2_8 rfl dX10_undo_1 ?_
  refine g_aload_n (pc := 4) 0 dX10_undo_4 rfl rfl ?_
  refine g_get (pc := 5) 0 cN_0 rfl inlX10 4 (by decide) bw_2_4 rfl dX10_undo_5 ?_
  refine g_cVz (pc := 8) 22 (As := [Value.ref (a 19)]) (fun r2 h2 => k_X5_popInto__22_19 hI h2) wk_X5_popInto wv_X5_popInto bw_29_10 cN_22 rfl (by decide) (by decide) rfl rfl (Nat.le_of_ble_eq_true rfl) dX10_undo_8 (fun r1 s2 => ?_)
  refine g_if_eq (pc := 11) (tgt := 24) dX10_undo_11 (by decide) ?_ ?_
  · refine g_bipush (pc := 24) (v := -2) dX10_undo_24 (by decide) ?_
    exact g_iret (pc := 26) hRT dX10_undo_26
  · refine g_aload_n (pc := 14) 0 dX10_undo_14 rfl rfl ?_
    refine g_get (pc := 15) 0 cN_0 rfl inlX10 5 (by decide) bw_2_8 rfl dX10_undo_15 ?_
    refine g_cVi (pc := 18) 22 (As := []) (fun r2 h2 => k_X5_size__22 hI h2) wk_X5_size wv_X5_size bw_29_14 cN_22 rfl (by decide) (by decide) rfl rfl (Nat.le_of_ble_eq_true rfl) dX10_undo_18 (fun r3 s4 => ?_)
    refine g_goto (pc := 21) (tgt := 26) dX10_undo_21 (by decide) ?_
    exact g_iret (pc := 26) hRT dX10_undo_26
set_option maxRecDepth 100000 in
set_option maxHeartbeats 4000000 in
theorem k_X1_hears__56 {l : Launch} {D : va_G} {a : Nat → Nat} {cI cS : ClassId} (hI : ∀ σ : St, va_D (AN a) (cN a cI cS σ)) {σ : St} {x1 x2 : Int32} {r : Int32 × St} (h : f_X1_hears__56 σ x1 x2 = some r) : Kc (SN l D a cI cS) yX1_hears cX1_hears 3 (some .boolean) 3 [Value.ref (a 56), Value.int x1, Value.int x2] σ r := by
  refine enter (own := RX1) (o := f_X1_hears__56 σ x1 x2) (plainFor_of_name (by decide +kernel)) rfl (Nat.le_of_ble_eq_true rfl) hI wk_X1_hears.1 h (fun Γ hRT => ?_)
  show G _ Γ _ _ _ _ _ _ σ [((0 : Nat), Value.ref (a 56)), ((1 : Nat), Value.int x1), ((2 : Nat), Value.int x2)] 0 []
  unfold f_X1_hears__56
  refine g_aload_n (pc := 0) 0 dX1_hears_0 rfl rfl ?_
  refine g_aload_n (pc := 1) 0 dX1_hears_1 rfl rfl ?_
  refine g_get (pc := 2) 56 cN_56 rfl inlX1 4 (by decide) bw_5_7 rfl dX1_hears_2 ?_
  refine g_iconst (pc := 5) (v := 0) dX1_hears_5 (by decide) ?_
  refine g_iload_n (pc := 6) 2 dX1_hears_6 rfl rfl ?_
  refine g_cVi (pc := 7) 56 (As := [Value.int (σ 56 4), Value.int (0 : Int32), Value.int x2]) (fun r2 h2 => k_X1_along__56 hI h2) wk_X1_along wv_X1_along bw_30_12 cN_56 rfl (by decide) (by decide) rfl rfl (Nat.le_of_ble_eq_true rfl) dX1_hears_7 (fun r3 s4 => ?_)
  refine g_iload_n (pc := 10) 1 dX1_hears_10 rfl rfl ?_
  refine g_cNz (pc := 11) (As := [Value.int r3, Value.int x1]) (fun r2 h2 => k_X10_holds hI h2) wk_X10_holds ws_X10_holds nst_RX1_102 (by decide) (by decide) rfl rfl (Nat.le_of_ble_eq_true rfl) dX1_hears_11 (fun r5 s6 => ?_)
  exact g_zret (pc := 14) hRT dX1_hears_14
set_option maxRecDepth 100000 in
set_option maxHeartbeats 4000000 in
theorem k_X3_knownBehind__59 {l : Launch} {D : va_G} {a : Nat → Nat} {cI cS : ClassId} (hI : ∀ σ : St, va_D (AN a) (cN a cI cS σ)) {σ : St} {x1 x2 : Int32} {r : Int32 × St} (h : f_X3_knownBehind__59 σ x1 x2 = some r) : Kc (SN l D a cI cS) yX3_knownBehind cX3_knownBehind 5 (some .int) 4 [Value.ref (a 59), Value.int x1, Value.int x2] σ r := by
  refine enter (own := RX3) (o := f_X3_knownBehind__59 σ x1 x2) (plainFor_of_name (by decide +kernel)) rfl (Nat.le_of_ble_eq_true rfl) hI wk_X3_knownBehind.1 h (fun Γ hRT => ?_)
  show G _ Γ _ _ _ _ _ _ σ [((0 : Nat), Value.ref (a 59)), ((1 : Nat), Value.int x1), ((2 : Nat), Value.int x2)] 0 []
  unfold f_X3_knownBehind__59
  refine g_iconst (pc := 0) (v := 0) dX3_knownBehind_0 (by decide) ?_
  refine g_istore_n (pc := 1) [1, 2, 3, 0] (lv1 := [(0, Value.ref (a 59)), (1, Value.int x1), (2, Value.int x2), (3, Value.int (0 : Int32))]) dX3_knownBehind_1 rfl (by decide) rfl ?_
  refine g_iconst (pc := 2) (v := 0) dX3_knownBehind_2 (by decide) ?_
  refine g_istore (pc := 3) [1, 2, 3, 4, 0] (lv1 := [(0, Value.ref (a 59)), (1, Value.int x1), (2, Value.int x2), (3, Value.int (0 : Int32)), (4, Value.int (0 : Int32))]) dX3_knownBehind_3 (by decide) rfl ?_
  refine g_lq2 (pc := 5) (lf := fun x4 x5 => [((0 : Nat), Value.ref (a 59)), ((1 : Nat), Value.int x1), ((2 : Nat), Value.int x2), ((3 : Nat), Value.int x4), ((4 : Nat), Value.int x5)]) (sf := fun x4 x5 => ([] : List Value)) (fun k3 hk3 s6 x4 x5 => ?_) 100000 σ _ _
  show G _ Γ _ _ _ _ _ _ s6 [((0 : Nat), Value.ref (a 59)), ((1 : Nat), Value.int x1), ((2 : Nat), Value.int x2), ((3 : Nat), Value.int x4), ((4 : Nat), Value.int x5)] 5 ([] : List Value)
  refine g_iload (pc := 5) 4 dX3_knownBehind_5 rfl ?_
  refine g_aload_n (pc := 7) 0 dX3_knownBehind_7 rfl rfl ?_
  refine g_get (pc := 8) 59 cN_59 rfl inlX3 0 (by decide) bw_5_21 rfl dX3_knownBehind_8 ?_
  refine g_cVi (pc := 11) 12 (As := []) (fun r2 h2 => k_X4_newsTold__12 hI h2) wk_X4_newsTold wv_X4_newsTold bw_30_6 cN_12 rfl (by decide) (by decide) rfl rfl (Nat.le_of_ble_eq_true rfl) dX3_knownBehind_11 (fun r7 s8 => ?_)
  refine g_icmp_ge (pc := 14) (tgt := 52) dX3_knownBehind_14 (by decide) ?_ ?_
  · refine g_iload_n (pc := 52) 3 dX3_knownBehind_52 rfl rfl ?_
    exact g_iret (pc := 53) hRT dX3_knownBehind_53
  · refine g_jq1 (pc2 := 46) (lf := fun x10 => [((0 : Nat), Value.ref (a 59)), ((1 : Nat), Value.int x1), ((2 : Nat), Value.int x2), ((3 : Nat), Value.int x10), ((4 : Nat), Value.int x5)]) (sf := fun x10 => ([] : List Value)) (fun s11 x10 => ?_) (fun k9 hk9 => ?_)
    · show G _ Γ _ _ _ _ _ _ s11 [((0 : Nat), Value.ref (a 59)), ((1 : Nat), Value.int x1), ((2 : Nat), Value.int x2), ((3 : Nat), Value.int x10), ((4 : Nat), Value.int x5)] 46 ([] : List Value)
      refine g_iinc (pc := 46) [1, 2, 3, 4, 0] 4 (n1 := 1) (lv1 := fun x12 => [(0, Value.ref (a 59)), (1, Value.int x1), (2, Value.int x2), (3, Value.int x10), (4, Value.int x12)]) dX3_knownBehind_46 rfl (by decide) (by decide) (fun _ => rfl) (fun x12 => ?_)
      show G _ Γ _ _ _ _ _ _ _ [(0, Value.ref (a 59)), (1, Value.int x1), (2, Value.int x2), (3, Value.int x10), (4, Value.int x12)] (46 + 3) _
      refine g_goto (pc := 49) (tgt := 5) dX3_knownBehind_49 (by decide) ?_
      exact hk3 s11 _ _
    · refine g_aload_n (pc := 17) 0 dX3_knownBehind_17 rfl rfl ?_
      refine g_get (pc := 18) 59 cN_59 rfl inlX3 2 (by decide) bw_5_23 rfl dX3_knownBehind_18 ?_
      refine g_iload (pc := 21) 4 dX3_knownBehind_21 rfl ?_
      refine g_cVv (pc := 23) 56 (As := [Value.int x5]) (fun r2 h2 => k_X1_pick__56 hI h2) wk_X1_pick wv_X1_pick bw_30_7 cN_56 rfl (by decide) (by decide) rfl rfl (Nat.le_of_ble_eq_true rfl) dX3_knownBehind_23 (fun r13 s14 => ?_)
      refine g_aload_n (pc := 26) 0 dX3_knownBehind_26 rfl rfl ?_
      refine g_get (pc := 27) 59 cN_59 rfl inlX3 2 (by decide) bw_5_23 rfl dX3_knownBehind_27 ?_
      refine g_iload_n (pc := 30) 2 dX3_knownBehind_30 rfl rfl ?_
      refine g_iload_n (pc := 31) 1 dX3_knownBehind_31 rfl rfl ?_
      refine g_cVz (pc := 32) 56 (As := [Value.int x2, Value.int x1]) (fun r2 h2 => k_X1_hears__56 hI h2) wk_X1_hears wv_X1_hears bw_30_8 cN_56 rfl (by decide) (by decide) rfl rfl (Nat.le_of_ble_eq_true rfl) dX3_knownBehind_32 (fun r15 s16 => ?_)
      refine g_if_eq (pc := 35) (tgt := 46) dX3_knownBehind_35 (by decide) ?_ ?_
      · exact hk9 s16 _
      · refine g_iload_n (pc := 38) 3 dX3_knownBehind_38 rfl rfl ?_
        refine g_iload (pc := 39) 4 dX3_knownBehind_39 rfl ?_
        refine g_cNi (pc := 41) (As := [Value.int x5]) (fun r2 h2 => k_X10_bit hI h2) wk_X10_bit ws_X10_bit nst_RX3_39 (by decide) (by decide) rfl rfl (Nat.le_of_ble_eq_true rfl) dX3_knownBehind_41 (fun r17 s18 => ?_)
        refine g_ior (pc := 44) dX3_knownBehind_44 ?_
        refine g_nm (fun x19 => ?_)
        refine g_istore_n (pc := 45) [1, 2, 3, 0, 4] (lv1 := [(0, Value.ref (a 59)), (1, Value.int x1), (2, Value.int x2), (3, Value.int x19), (4, Value.int x5)]) dX3_knownBehind_45 rfl (by decide) rfl ?_
        exact hk9 s18 _
set_option maxRecDepth 100000 in
set_option maxHeartbeats 4000000 in
theorem k_X10_behind__0 {l : Launch} {D : va_G} {a : Nat → Nat} {cI cS : ClassId} (hI : ∀ σ : St, va_D (AN a) (cN a cI cS σ)) {σ : St} {x1 x2 : Int32} {r : Int32 × St} (h : f_X10_behind__0 σ x1 x2 = some r) : Kc (SN l D a cI cS) yX10_behind cX10_behind 3 (some .int) 5 [Value.ref (a 0), Value.int x1, Value.int x2] σ r := by
  refine enter (own := RX10) (o := f_X10_behind__0 σ x1 x2) (plainFor_of_name (by decide +kernel)) rfl (Nat.le_of_ble_eq_true rfl) hI wk_X10_behind.1 h (fun Γ hRT => ?_)
  show G _ Γ _ _ _ _ _ _ σ [((0 : Nat), Value.ref (a 0)), ((1 : Nat), Value.int x1), ((2 : Nat), Value.int x2)] 0 []
  unfold f_X10_behind__0
  refine g_iload_n (pc := 0) 1 dX10_behind_0 rfl rfl ?_
  refine g_iconst (pc := 1) (v := 0) dX10_behind_1 (by decide) ?_
  refine g_bipush (pc := 2) (v := 48) dX10_behind_2 (by decide) ?_
  refine g_cSz (pc := 4) (As := [Value.int x1, Value.int (0 : Int32), Value.int (48 : Int32)]) (fun r2 h2 => k_X10_within hI h2) wk_X10_within ws_X10_within bw_12_4 (by decide) (by decide) rfl rfl (Nat.le_of_ble_eq_true rfl) dX10_behind_4 (fun r3 s4 => ?_)
  refine g_if_eq (pc := 7) (tgt := 21) dX10_behind_7 (by decide) ?_ ?_
  · refine g_iconst (pc := 21) (v := -1) dX10_behind_21 (by decide) ?_
    exact g_iret (pc := 22) hRT dX10_behind_22
  · refine g_aload_n (pc := 10) 0 dX10_behind_10 rfl rfl ?_
    refine g_get (pc := 11) 0 cN_0 rfl inlX10 3 (by decide) bw_2_0 rfl dX10_behind_11 ?_
    refine g_iload_n (pc := 14) 2 dX10_behind_14 rfl rfl ?_
    refine g_cVz (pc := 15) 12 (As := [Value.int x2]) (fun r2 h2 => k_X4_hasHouse__12 hI h2) wk_X4_hasHouse wv_X4_hasHouse bw_19_10 cN_12 rfl (by decide) (by decide) rfl rfl (Nat.le_of_ble_eq_true rfl) dX10_behind_15 (fun r5 s6 => ?_)
    refine g_if_ne (pc := 18) (tgt := 23) dX10_behind_18 (by decide) ?_ ?_
    · refine g_aload_n (pc := 23) 0 dX10_behind_23 rfl rfl ?_
      refine g_get (pc := 24) 0 cN_0 rfl inlX10 8 (by decide) bw_2_17 rfl dX10_behind_24 ?_
      refine g_iload_n (pc := 27) 1 dX10_behind_27 rfl rfl ?_
      refine g_iload_n (pc := 28) 2 dX10_behind_28 rfl rfl ?_
      refine g_cVi (pc := 29) 59 (As := [Value.int x1, Value.int x2]) (fun r2 h2 => k_X3_knownBehind__59 hI h2) wk_X3_knownBehind wv_X3_knownBehind bw_30_2 cN_59 rfl (by decide) (by decide) rfl rfl (Nat.le_of_ble_eq_true rfl) dX10_behind_29 (fun r7 s8 => ?_)
      exact g_iret (pc := 32) hRT dX10_behind_32
    · refine g_iconst (pc := 21) (v := -1) dX10_behind_21 (by decide) ?_
      exact g_iret (pc := 22) hRT dX10_behind_22
set_option maxRecDepth 100000 in
set_option maxHeartbeats 4000000 in
theorem k_X3_firstHeard__59 {l : Launch} {D : va_G} {a : Nat → Nat} {cI cS : ClassId} (hI : ∀ σ : St, va_D (AN a) (cN a cI cS σ)) {σ : St} {x1 x2 : Int32} {r : Int32 × St} (h : f_X3_firstHeard__59 σ x1 x2 = some r) : Kc (SN l D a cI cS) yX3_firstHeard cX3_firstHeard 5 (some .int) 4 [Value.ref (a 59), Value.int x1, Value.int x2] σ r := by
  refine enter (own := RX3) (o := f_X3_firstHeard__59 σ x1 x2) (plainFor_of_name (by decide +kernel)) rfl (Nat.le_of_ble_eq_true rfl) hI wk_X3_firstHeard.1 h (fun Γ hRT => ?_)
  show G _ Γ _ _ _ _ _ _ σ [((0 : Nat), Value.ref (a 59)), ((1 : Nat), Value.int x1), ((2 : Nat), Value.int x2)] 0 []
  unfold f_X3_firstHeard__59
  refine g_aload_n (pc := 0) 0 dX3_firstHeard_0 rfl rfl ?_
  refine g_get (pc := 1) 59 cN_59 rfl inlX3 2 (by decide) bw_5_23 rfl dX3_firstHeard_1 ?_
  refine g_iload_n (pc := 4) 2 dX3_firstHeard_4 rfl rfl ?_
  refine g_cVv (pc := 5) 56 (As := [Value.int x2]) (fun r2 h2 => k_X1_pick__56 hI h2) wk_X1_pick wv_X1_pick bw_30_7 cN_56 rfl (by decide) (by decide) rfl rfl (Nat.le_of_ble_eq_true rfl) dX3_firstHeard_5 (fun r3 s4 => ?_)
  refine g_aload_n (pc := 8) 0 dX3_firstHeard_8 rfl rfl ?_
  refine g_get (pc := 9) 59 cN_59 rfl inlX3 2 (by decide) bw_5_23 rfl dX3_firstHeard_9 ?_
  refine g_cVi (pc := 12) 56 (As := []) (fun r2 h2 => k_X1_whoKnows__56 hI h2) wk_X1_whoKnows wv_X1_whoKnows bw_31_1 cN_56 rfl (by decide) (by decide) rfl rfl (Nat.le_of_ble_eq_true rfl) dX3_firstHeard_12 (fun r5 s6 => ?_)
  refine g_istore_n (pc := 15) [1, 2, 3, 0] (lv1 := [(0, Value.ref (a 59)), (1, Value.int x1), (2, Value.int x2), (3, Value.int r5)]) dX3_firstHeard_15 rfl (by decide) rfl ?_
  refine g_iconst (pc := 16) (v := 0) dX3_firstHeard_16 (by decide) ?_
  refine g_istore (pc := 17) [1, 2, 3, 4, 0] (lv1 := [(0, Value.ref (a 59)), (1, Value.int x1), (2, Value.int x2), (3, Value.int r5), (4, Value.int (0 : Int32))]) dX3_firstHeard_17 (by decide) rfl ?_
  refine g_lv [0, 1, 3, 4] (lv' := [(0, Value.ref (a 59)), (1, Value.int x1), (3, Value.int r5), (4, Value.int (0 : Int32))]) rfl ?_
  refine g_lq2 (pc := 19) (lf := fun x8 x9 => [((0 : Nat), Value.ref (a 59)), ((1 : Nat), Value.int x1), ((3 : Nat), Value.int x8), ((4 : Nat), Value.int x9)]) (sf := fun x8 x9 => ([] : List Value)) (fun k7 hk7 s10 x8 x9 => ?_) 100000 s6 _ _
  show G _ Γ _ _ _ _ _ _ s10 [((0 : Nat), Value.ref (a 59)), ((1 : Nat), Value.int x1), ((3 : Nat), Value.int x8), ((4 : Nat), Value.int x9)] 19 ([] : List Value)
  refine g_iload (pc := 19) 3 dX3_firstHeard_19 rfl ?_
  refine g_bipush (pc := 21) (v := 48) dX3_firstHeard_21 (by decide) ?_
  refine g_icmp_gt (pc := 23) (tgt := 58) dX3_firstHeard_23 (by decide) ?_ ?_
  · refine g_bipush (pc := 58) (v := -4) dX3_firstHeard_58 (by decide) ?_
    exact g_iret (pc := 60) hRT dX3_firstHeard_60
  · refine g_iload_n (pc := 26) 2 dX3_firstHeard_26 rfl rfl ?_
    refine g_iload_n (pc := 27) 1 dX3_firstHeard_27 rfl rfl ?_
    refine g_cNz (pc := 28) (As := [Value.int x8, Value.int x1]) (fun r2 h2 => k_X10_holds hI h2) wk_X10_holds ws_X10_holds nst_RX3_46 (by decide) (by decide) rfl rfl (Nat.le_of_ble_eq_true rfl) dX3_firstHeard_28 (fun r11 s12 => ?_)
    refine g_if_eq (pc := 31) (tgt := 37) dX3_firstHeard_31 (by decide) ?_ ?_
    · refine g_aload_n (pc := 37) 0 dX3_firstHeard_37 rfl rfl ?_
      refine g_get (pc := 38) 59 cN_59 rfl inlX3 2 (by decide) bw_5_23 rfl dX3_firstHeard_38 ?_
      refine g_iload_n (pc := 41) 2 dX3_firstHeard_41 rfl rfl ?_
      refine g_iload (pc := 42) 3 dX3_firstHeard_42 rfl ?_
      refine g_iload (pc := 44) 3 dX3_firstHeard_44 rfl ?_
      refine g_iconst (pc := 46) (v := 1) dX3_firstHeard_46 (by decide) ?_
      refine g_iadd (pc := 47) dX3_firstHeard_47 ?_
      refine g_cVi (pc := 48) 56 (As := [Value.int x8, Value.int x9, Value.int (x9 + (1 : Int32))]) (fun r2 h2 => k_X1_along__56 hI h2) wk_X1_along wv_X1_along bw_31_2 cN_56 rfl (by decide) (by decide) rfl rfl (Nat.le_of_ble_eq_true rfl) dX3_firstHeard_48 (fun r13 s14 => ?_)
      refine g_istore_n (pc := 51) [1, 2, 0, 3] (lv1 := [(0, Value.ref (a 59)), (1, Value.int x1), (3, Value.int r13), (4, Value.int x9)]) dX3_firstHeard_51 rfl (by decide) rfl ?_
      refine g_iinc (pc := 52) [1, 2, 3, 0] 3 (n1 := 1) (lv1 := fun x15 => [(0, Value.ref (a 59)), (1, Value.int x1), (3, Value.int r13), (4, Value.int x15)]) dX3_firstHeard_52 rfl (by decide) (by decide) (fun _ => rfl) (fun x15 => ?_)
      show G _ Γ _ _ _ _ _ _ _ [(0, Value.ref (a 59)), (1, Value.int x1), (3, Value.int r13), (4, Value.int x15)] (52 + 3) _
      refine g_goto (pc := 55) (tgt := 19) dX3_firstHeard_55 (by decide) ?_
      exact hk7 s14 _ _
    · refine g_iload (pc := 34) 3 dX3_firstHeard_34 rfl ?_
      exact g_iret (pc := 36) hRT dX3_firstHeard_36
set_option maxRecDepth 100000 in
set_option maxHeartbeats 4000000 in
theorem k_X10_when__0 {l : Launch} {D : va_G} {a : Nat → Nat} {cI cS : ClassId} (hI : ∀ σ : St, va_D (AN a) (cN a cI cS σ)) {σ : St} {x1 x2 : Int32} {r : Int32 × St} (h : f_X10_when__0 σ x1 x2 = some r) : Kc (SN l D a cI cS) yX10_when cX10_when 3 (some .int) 5 [Value.ref (a 0), Value.int x1, Value.int x2] σ r := by
  refine enter (own := RX10) (o := f_X10_when__0 σ x1 x2) (plainFor_of_name (by decide +kernel)) rfl (Nat.le_of_ble_eq_true rfl) hI wk_X10_when.1 h (fun Γ hRT => ?_)
  show G _ Γ _ _ _ _ _ _ σ [((0 : Nat), Value.ref (a 0)), ((1 : Nat), Value.int x1), ((2 : Nat), Value.int x2)] 0 []
  unfold f_X10_when__0
  refine g_aload_n (pc := 0) 0 dX10_when_0 rfl rfl ?_
  refine g_get (pc := 1) 0 cN_0 rfl inlX10 3 (by decide) bw_2_0 rfl dX10_when_1 ?_
  refine g_iload_n (pc := 4) 1 dX10_when_4 rfl rfl ?_
  refine g_cVz (pc := 5) 12 (As := [Value.int x1]) (fun r2 h2 => k_X4_hasHouse__12 hI h2) wk_X4_hasHouse wv_X4_hasHouse bw_19_10 cN_12 rfl (by decide) (by decide) rfl rfl (Nat.le_of_ble_eq_true rfl) dX10_when_5 (fun r3 s4 => ?_)
  refine g_if_eq (pc := 8) (tgt := 22) dX10_when_8 (by decide) ?_ ?_
  · refine g_iconst (pc := 22) (v := -1) dX10_when_22 (by decide) ?_
    exact g_iret (pc := 23) hRT dX10_when_23
  · refine g_aload_n (pc := 11) 0 dX10_when_11 rfl rfl ?_
    refine g_get (pc := 12) 0 cN_0 rfl inlX10 3 (by decide) bw_2_0 rfl dX10_when_12 ?_
    refine g_iload_n (pc := 15) 2 dX10_when_15 rfl rfl ?_
    refine g_cVz (pc := 16) 12 (As := [Value.int x2]) (fun r2 h2 => k_X4_hasNews__12 hI h2) wk_X4_hasNews wv_X4_hasNews bw_21_6 cN_12 rfl (by decide) (by decide) rfl rfl (Nat.le_of_ble_eq_true rfl) dX10_when_16 (fun r5 s6 => ?_)
    refine g_if_ne (pc := 19) (tgt := 24) dX10_when_19 (by decide) ?_ ?_
    · refine g_aload_n (pc := 24) 0 dX10_when_24 rfl rfl ?_
      refine g_get (pc := 25) 0 cN_0 rfl inlX10 8 (by decide) bw_2_17 rfl dX10_when_25 ?_
      refine g_iload_n (pc := 28) 1 dX10_when_28 rfl rfl ?_
      refine g_iload_n (pc := 29) 2 dX10_when_29 rfl rfl ?_
      refine g_cVi (pc := 30) 59 (As := [Value.int x1, Value.int x2]) (fun r2 h2 => k_X3_firstHeard__59 hI h2) wk_X3_firstHeard wv_X3_firstHeard bw_30_21 cN_59 rfl (by decide) (by decide) rfl rfl (Nat.le_of_ble_eq_true rfl) dX10_when_30 (fun r7 s8 => ?_)
      exact g_iret (pc := 33) hRT dX10_when_33
    · refine g_iconst (pc := 22) (v := -1) dX10_when_22 (by decide) ?_
      exact g_iret (pc := 23) hRT dX10_when_23
set_option maxRecDepth 100000 in
set_option maxHeartbeats 4000000 in
theorem k_X3_latestHouse__59 {l : Launch} {D : va_G} {a : Nat → Nat} {cI cS : ClassId} (hI : ∀ σ : St, va_D (AN a) (cN a cI cS σ)) {σ : St} {x1 : Int32} {r : Int32 × St} (h : f_X3_latestHouse__59 σ x1 = some r) : Kc (SN l D a cI cS) yX3_latestHouse cX3_latestHouse 6 (some .int) 5 [Value.ref (a 59), Value.int x1] σ r := by
  refine enter (own := RX3) (o := f_X3_latestHouse__59 σ x1) (plainFor_of_name (by decide +kernel)) rfl (Nat.le_of_ble_eq_true rfl) hI wk_X3_latestHouse.1 h (fun Γ hRT => ?_)
  show G _ Γ _ _ _ _ _ _ σ [((0 : Nat), Value.ref (a 59)), ((1 : Nat), Value.int x1)] 0 []
  unfold f_X3_latestHouse__59
  refine g_bipush (pc := 0) (v := -4) dX3_latestHouse_0 (by decide) ?_
  refine g_istore_n (pc := 2) [1, 2, 0] (lv1 := [(0, Value.ref (a 59)), (1, Value.int x1), (2, Value.int (-4 : Int32))]) dX3_latestHouse_2 rfl (by decide) rfl ?_
  refine g_iconst (pc := 3) (v := 0) dX3_latestHouse_3 (by decide) ?_
  refine g_istore_n (pc := 4) [1, 2, 3, 0] (lv1 := [(0, Value.ref (a 59)), (1, Value.int x1), (2, Value.int (-4 : Int32)), (3, Value.int (0 : Int32))]) dX3_latestHouse_4 rfl (by decide) rfl ?_
  refine g_iconst (pc := 5) (v := 0) dX3_latestHouse_5 (by decide) ?_
  refine g_istore (pc := 6) [1, 2, 3, 4, 0] (lv1 := [(0, Value.ref (a 59)), (1, Value.int x1), (2, Value.int (-4 : Int32)), (3, Value.int (0 : Int32)), (4, Value.int (0 : Int32))]) dX3_latestHouse_6 (by decide) rfl ?_
  refine g_lq3 (pc := 8) (lf := fun x3 x4 x5 => [((0 : Nat), Value.ref (a 59)), ((1 : Nat), Value.int x1), ((2 : Nat), Value.int x3), ((3 : Nat), Value.int x4), ((4 : Nat), Value.int x5)]) (sf := fun x3 x4 x5 => ([] : List Value)) (fun k2 hk2 s6 x3 x4 x5 => ?_) 100000 σ _ _ _
  show G _ Γ _ _ _ _ _ _ s6 [((0 : Nat), Value.ref (a 59)), ((1 : Nat), Value.int x1), ((2 : Nat), Value.int x3), ((3 : Nat), Value.int x4), ((4 : Nat), Value.int x5)] 8 ([] : List Value)
  refine g_iload (pc := 8) 4 dX3_latestHouse_8 rfl ?_
  refine g_aload_n (pc := 10) 0 dX3_latestHouse_10 rfl rfl ?_
  refine g_get (pc := 11) 59 cN_59 rfl inlX3 0 (by decide) bw_5_21 rfl dX3_latestHouse_11 ?_
  refine g_cVi (pc := 14) 12 (As := []) (fun r2 h2 => k_X4_houses__12 hI h2) wk_X4_houses wv_X4_houses bw_31_23 cN_12 rfl (by decide) (by decide) rfl rfl (Nat.le_of_ble_eq_true rfl) dX3_latestHouse_14 (fun r7 s8 => ?_)
  refine g_icmp_ge (pc := 17) (tgt := 52) dX3_latestHouse_17 (by decide) ?_ ?_
  · refine g_iload_n (pc := 52) 2 dX3_latestHouse_52 rfl rfl ?_
    exact g_iret (pc := 53) hRT dX3_latestHouse_53
  · refine g_jq2 (pc2 := 46) (lf := fun x10 x11 => [((0 : Nat), Value.ref (a 59)), ((1 : Nat), Value.int x1), ((2 : Nat), Value.int x10), ((3 : Nat), Value.int x11), ((4 : Nat), Value.int x5)]) (sf := fun x10 x11 => ([] : List Value)) (fun s12 x10 x11 => ?_) (fun k9 hk9 => ?_)
    · show G _ Γ _ _ _ _ _ _ s12 [((0 : Nat), Value.ref (a 59)), ((1 : Nat), Value.int x1), ((2 : Nat), Value.int x10), ((3 : Nat), Value.int x11), ((4 : Nat), Value.int x5)] 46 ([] : List Value)
      refine g_iinc (pc := 46) [1, 2, 3, 4, 0] 4 (n1 := 1) (lv1 := fun x13 => [(0, Value.ref (a 59)), (1, Value.int x1), (2, Value.int x10), (3, Value.int x11), (4, Value.int x13)]) dX3_latestHouse_46 rfl (by decide) (by decide) (fun _ => rfl) (fun x13 => ?_)
      show G _ Γ _ _ _ _ _ _ _ [(0, Value.ref (a 59)), (1, Value.int x1), (2, Value.int x10), (3, Value.int x11), (4, Value.int x13)] (46 + 3) _
      refine g_goto (pc := 49) (tgt := 8) dX3_latestHouse_49 (by decide) ?_
      exact hk2 s12 _ _ _
    · refine g_aload_n (pc := 20) 0 dX3_latestHouse_20 rfl rfl ?_
      refine g_iload (pc := 21) 4 dX3_latestHouse_21 rfl ?_
      refine g_iload_n (pc := 23) 1 dX3_latestHouse_23 rfl rfl ?_
      refine g_cVi (pc := 24) 59 (As := [Value.int x5, Value.int x1]) (fun r2 h2 => k_X3_firstHeard__59 hI h2) wk_X3_firstHeard wv_X3_firstHeard bw_32_0 cN_59 rfl (by decide) (by decide) rfl rfl (Nat.le_of_ble_eq_true rfl) dX3_latestHouse_24 (fun r14 s15 => ?_)
      refine g_istore (pc := 27) [1, 2, 3, 4, 5, 0] (lv1 := [(0, Value.ref (a 59)), (1, Value.int x1), (2, Value.int x3), (3, Value.int x4), (4, Value.int x5), (5, Value.int r14)]) dX3_latestHouse_27 (by decide) rfl ?_
      refine g_iload (pc := 29) 5 dX3_latestHouse_29 rfl ?_
      refine g_if_le (pc := 31) (tgt := 46) dX3_latestHouse_31 (by decide) ?_ ?_
      · exact g_lv [0, 1, 2, 3, 4] rfl (hk9 s15 _ _)
      · refine g_iload (pc := 34) 5 dX3_latestHouse_34 rfl ?_
        refine g_iload_n (pc := 36) 3 dX3_latestHouse_36 rfl rfl ?_
        refine g_icmp_lt (pc := 37) (tgt := 46) dX3_latestHouse_37 (by decide) ?_ ?_
        · exact g_lv [0, 1, 2, 3, 4] rfl (hk9 s15 _ _)
        · refine g_iload (pc := 40) 4 dX3_latestHouse_40 rfl ?_
          refine g_istore_n (pc := 42) [1, 2, 0, 3, 4, 5] (lv1 := [(0, Value.ref (a 59)), (1, Value.int x1), (2, Value.int x5), (3, Value.int x4), (4, Value.int x5), (5, Value.int r14)]) dX3_latestHouse_42 rfl (by decide) rfl ?_
          refine g_iload (pc := 43) 5 dX3_latestHouse_43 rfl ?_
          refine g_istore_n (pc := 45) [1, 2, 3, 0, 4, 5] (lv1 := [(0, Value.ref (a 59)), (1, Value.int x1), (2, Value.int x5), (3, Value.int r14), (4, Value.int x5), (5, Value.int r14)]) dX3_latestHouse_45 rfl (by decide) rfl ?_
          exact g_lv [0, 1, 2, 3, 4] rfl (hk9 s15 _ _)
set_option maxRecDepth 100000 in
set_option maxHeartbeats 4000000 in
theorem k_X10_last__0 {l : Launch} {D : va_G} {a : Nat → Nat} {cI cS : ClassId} (hI : ∀ σ : St, va_D (AN a) (cN a cI cS σ)) {σ : St} {x1 x2 : Int32} {r : Int32 × St} (h : f_X10_last__0 σ x1 x2 = some r) : Kc (SN l D a cI cS) yX10_last cX10_last 4 (some .int) 6 [Value.ref (a 0), Value.int x1, Value.int x2] σ r := by
  refine enter (own := RX10) (o := f_X10_last__0 σ x1 x2) (plainFor_of_name (by decide +kernel)) rfl (Nat.le_of_ble_eq_true rfl) hI wk_X10_last.1 h (fun Γ hRT => ?_)
  show G _ Γ _ _ _ _ _ _ σ [((0 : Nat), Value.ref (a 0)), ((1 : Nat), Value.int x1), ((2 : Nat), Value.int x2)] 0 []
  unfold f_X10_last__0
  refine g_aload_n (pc := 0) 0 dX10_last_0 rfl rfl ?_
  refine g_get (pc := 1) 0 cN_0 rfl inlX10 3 (by decide) bw_2_0 rfl dX10_last_1 ?_
  refine g_iload_n (pc := 4) 1 dX10_last_4 rfl rfl ?_
  refine g_cVz (pc := 5) 12 (As := [Value.int x1]) (fun r2 h2 => k_X4_hasNews__12 hI h2) wk_X4_hasNews wv_X4_hasNews bw_21_6 cN_12 rfl (by decide) (by decide) rfl rfl (Nat.le_of_ble_eq_true rfl) dX10_last_5 (fun r3 s4 => ?_)
  refine g_if_eq (pc := 8) (tgt := 20) dX10_last_8 (by decide) ?_ ?_
  · refine g_iconst (pc := 20) (v := -1) dX10_last_20 (by decide) ?_
    exact g_iret (pc := 21) hRT dX10_last_21
  · refine g_iload_n (pc := 11) 2 dX10_last_11 rfl rfl ?_
    refine g_iconst (pc := 12) (v := 0) dX10_last_12 (by decide) ?_
    refine g_iconst (pc := 13) (v := 1) dX10_last_13 (by decide) ?_
    refine g_cSz (pc := 14) (As := [Value.int x2, Value.int (0 : Int32), Value.int (1 : Int32)]) (fun r2 h2 => k_X10_within hI h2) wk_X10_within ws_X10_within bw_12_4 (by decide) (by decide) rfl rfl (Nat.le_of_ble_eq_true rfl) dX10_last_14 (fun r5 s6 => ?_)
    refine g_if_ne (pc := 17) (tgt := 22) dX10_last_17 (by decide) ?_ ?_
    · refine g_aload_n (pc := 22) 0 dX10_last_22 rfl rfl ?_
      refine g_get (pc := 23) 0 cN_0 rfl inlX10 8 (by decide) bw_2_17 rfl dX10_last_23 ?_
      refine g_iload_n (pc := 26) 1 dX10_last_26 rfl rfl ?_
      refine g_cVi (pc := 27) 59 (As := [Value.int x1]) (fun r2 h2 => k_X3_latestHouse__59 hI h2) wk_X3_latestHouse wv_X3_latestHouse bw_31_19 cN_59 rfl (by decide) (by decide) rfl rfl (Nat.le_of_ble_eq_true rfl) dX10_last_27 (fun r7 s8 => ?_)
      refine g_istore_n (pc := 30) [1, 2, 3, 0] (lv1 := [(0, Value.ref (a 0)), (1, Value.int x1), (2, Value.int x2), (3, Value.int r7)]) dX10_last_30 rfl (by decide) rfl ?_
      refine g_iload_n (pc := 31) 3 dX10_last_31 rfl rfl ?_
      refine g_bipush (pc := 32) (v := -4) dX10_last_32 (by decide) ?_
      refine g_icmp_ne (pc := 34) (tgt := 40) dX10_last_34 (by decide) ?_ ?_
      · refine g_iload_n (pc := 40) 2 dX10_last_40 rfl rfl ?_
        refine g_if_ne (pc := 41) (tgt := 48) dX10_last_41 (by decide) ?_ ?_
        · refine g_aload_n (pc := 48) 0 dX10_last_48 rfl rfl ?_
          refine g_get (pc := 49) 0 cN_0 rfl inlX10 8 (by decide) bw_2_17 rfl dX10_last_49 ?_
          refine g_iload_n (pc := 52) 3 dX10_last_52 rfl rfl ?_
          refine g_iload_n (pc := 53) 1 dX10_last_53 rfl rfl ?_
          refine g_cVi (pc := 54) 59 (As := [Value.int r7, Value.int x1]) (fun r2 h2 => k_X3_firstHeard__59 hI h2) wk_X3_firstHeard wv_X3_firstHeard bw_30_21 cN_59 rfl (by decide) (by decide) rfl rfl (Nat.le_of_ble_eq_true rfl) dX10_last_54 (fun r9 s10 => ?_)
          exact g_iret (pc := 57) hRT dX10_last_57
        · refine g_iload_n (pc := 44) 3 dX10_last_44 rfl rfl ?_
          refine g_goto (pc := 45) (tgt := 57) dX10_last_45 (by decide) ?_
          exact g_iret (pc := 57) hRT dX10_last_57
      · refine g_bipush (pc := 37) (v := -4) dX10_last_37 (by decide) ?_
        exact g_iret (pc := 39) hRT dX10_last_39
    · refine g_iconst (pc := 20) (v := -1) dX10_last_20 (by decide) ?_
      exact g_iret (pc := 21) hRT dX10_last_21
set_option maxRecDepth 100000 in
set_option maxHeartbeats 4000000 in
theorem k_X4_allHouses__12 {l : Launch} {D : va_G} {a : Nat → Nat} {cI cS : ClassId} (hI : ∀ σ : St, va_D (AN a) (cN a cI cS σ)) {σ : St} {r : Int32 × St} (h : f_X4_allHouses__12 σ = some r) : Kc (SN l D a cI cS) yX4_allHouses cX4_allHouses 1 (some .int) 1 [Value.ref (a 12)] σ r := by
  refine enter (own := RX4) (o := f_X4_allHouses__12 σ) (plainFor_of_name (by decide +kernel)) rfl (Nat.le_of_ble_eq_true rfl) hI wk_X4_allHouses.1 h (fun Γ hRT => ?_)
  show G _ Γ _ _ _ _ _ _ σ [((0 : Nat), Value.ref (a 12))] 0 []
  unfold f_X4_allHouses__12
  refine g_iconst (pc := 0) (v := 1) dX4_allHouses_0 (by decide) ?_
  refine g_aload_n (pc := 1) 0 dX4_allHouses_1 rfl rfl ?_
  refine g_cVi (pc := 2) 12 (As := []) (fun r2 h2 => k_X4_houses__12 hI h2) wk_X4_houses wv_X4_houses bw_11_22 cN_12 rfl (by decide) (by decide) rfl rfl (Nat.le_of_ble_eq_true rfl) dX4_allHouses_2 (fun r1 s2 => ?_)
  refine g_ishl (pc := 5) dX4_allHouses_5 ?_
  refine g_iconst (pc := 6) (v := 1) dX4_allHouses_6 (by decide) ?_
  refine g_isub (pc := 7) dX4_allHouses_7 ?_
  exact g_iret (pc := 8) hRT dX4_allHouses_8
set_option maxRecDepth 100000 in
set_option maxHeartbeats 4000000 in
theorem k_X1_stuff__56 {l : Launch} {D : va_G} {a : Nat → Nat} {cI cS : ClassId} (hI : ∀ σ : St, va_D (AN a) (cN a cI cS σ)) {σ : St} {x1 : Int32} {r : Int32 × St} (h : f_X1_stuff__56 σ x1 = some r) : Kc (SN l D a cI cS) yX1_stuff cX1_stuff 3 none 3 [Value.ref (a 56), Value.int x1] σ r := by
  refine enter (own := RX1) (o := f_X1_stuff__56 σ x1) (plainFor_of_name (by decide +kernel)) rfl (Nat.le_of_ble_eq_true rfl) hI wk_X1_stuff.1 h (fun Γ hRT => ?_)
  show G _ Γ _ _ _ _ _ _ σ [((0 : Nat), Value.ref (a 56)), ((1 : Nat), Value.int x1)] 0 []
  unfold f_X1_stuff__56
  refine g_iconst (pc := 0) (v := 0) dX1_stuff_0 (by decide) ?_
  refine g_istore_n (pc := 1) [1, 2, 0] (lv1 := [(0, Value.ref (a 56)), (1, Value.int x1), (2, Value.int (0 : Int32))]) dX1_stuff_1 rfl (by decide) rfl ?_
  refine g_lq1 (pc := 2) (lf := fun x3 => [((0 : Nat), Value.ref (a 56)), ((1 : Nat), Value.int x1), ((2 : Nat), Value.int x3)]) (sf := fun x3 => ([] : List Value)) (fun k2 hk2 s4 x3 => ?_) 100000 σ _
  show G _ Γ _ _ _ _ _ _ s4 [((0 : Nat), Value.ref (a 56)), ((1 : Nat), Value.int x1), ((2 : Nat), Value.int x3)] 2 ([] : List Value)
  refine g_iload_n (pc := 2) 2 dX1_stuff_2 rfl rfl ?_
  refine g_aload_n (pc := 3) 0 dX1_stuff_3 rfl rfl ?_
  refine g_get (pc := 4) 56 cN_56 rfl inlX1 0 (by decide) bw_5_15 rfl dX1_stuff_4 ?_
  refine g_cVi (pc := 7) 12 (As := []) (fun r2 h2 => k_X4_houses__12 hI h2) wk_X4_houses wv_X4_houses bw_25_9 cN_12 rfl (by decide) (by decide) rfl rfl (Nat.le_of_ble_eq_true rfl) dX1_stuff_7 (fun r5 s6 => ?_)
  refine g_icmp_ge (pc := 10) (tgt := 33) dX1_stuff_10 (by decide) ?_ ?_
  · exact g_vret (pc := 33) hRT dX1_stuff_33
  · refine g_jq0 (pc2 := 27) (lf := [((0 : Nat), Value.ref (a 56)), ((1 : Nat), Value.int x1), ((2 : Nat), Value.int x3)]) (sf := ([] : List Value)) (fun s8 => ?_) (fun k7 hk7 => ?_)
    · show G _ Γ _ _ _ _ _ _ s8 [((0 : Nat), Value.ref (a 56)), ((1 : Nat), Value.int x1), ((2 : Nat), Value.int x3)] 27 ([] : List Value)
      refine g_iinc (pc := 27) [1, 2, 0] 2 (n1 := 1) (lv1 := fun x9 => [(0, Value.ref (a 56)), (1, Value.int x1), (2, Value.int x9)]) dX1_stuff_27 rfl (by decide) (by decide) (fun _ => rfl) (fun x9 => ?_)
      show G _ Γ _ _ _ _ _ _ _ [(0, Value.ref (a 56)), (1, Value.int x1), (2, Value.int x9)] (27 + 3) _
      refine g_goto (pc := 30) (tgt := 2) dX1_stuff_30 (by decide) ?_
      exact hk2 s8 _
    · refine g_iload_n (pc := 13) 1 dX1_stuff_13 rfl rfl ?_
      refine g_iload_n (pc := 14) 2 dX1_stuff_14 rfl rfl ?_
      refine g_cNz (pc := 15) (As := [Value.int x1, Value.int x3]) (fun r2 h2 => k_X10_holds hI h2) wk_X10_holds ws_X10_holds nst_RX1_102 (by decide) (by decide) rfl rfl (Nat.le_of_ble_eq_true rfl) dX1_stuff_15 (fun r10 s11 => ?_)
      refine g_if_eq (pc := 18) (tgt := 27) dX1_stuff_18 (by decide) ?_ ?_
      · exact hk7 s11
      · refine g_aload_n (pc := 21) 0 dX1_stuff_21 rfl rfl ?_
        refine g_iload_n (pc := 22) 2 dX1_stuff_22 rfl rfl ?_
        refine g_iconst (pc := 23) (v := 0) dX1_stuff_23 (by decide) ?_
        refine g_cVv (pc := 24) 56 (As := [Value.int x3, Value.int (0 : Int32)]) (fun r2 h2 => k_X1_reopen__56 hI h2) wk_X1_reopen wv_X1_reopen bw_25_13 cN_56 rfl (by decide) (by decide) rfl rfl (Nat.le_of_ble_eq_true rfl) dX1_stuff_24 (fun r12 s13 => ?_)
        exact hk7 s13
set_option maxRecDepth 100000 in
set_option maxHeartbeats 4000000 in
theorem k_X3_fewestStuffed__59 {l : Launch} {D : va_G} {a : Nat → Nat} {cI cS : ClassId} (hI : ∀ σ : St, va_D (AN a) (cN a cI cS σ)) {σ : St} {x1 x2 : Int32} {r : Int32 × St} (h : f_X3_fewestStuffed__59 σ x1 x2 = some r) : Kc (SN l D a cI cS) yX3_fewestStuffed cX3_fewestStuffed 7 (some .int) 4 [Value.ref (a 59), Value.int x1, Value.int x2] σ r := by
  refine enter (own := RX3) (o := f_X3_fewestStuffed__59 σ x1 x2) (plainFor_of_name (by decide +kernel)) rfl (Nat.le_of_ble_eq_true rfl) hI wk_X3_fewestStuffed.1 h (fun Γ hRT => ?_)
  show G _ Γ _ _ _ _ _ _ σ [((0 : Nat), Value.ref (a 59)), ((1 : Nat), Value.int x1), ((2 : Nat), Value.int x2)] 0 []
  unfold f_X3_fewestStuffed__59
  refine g_aload_n (pc := 0) 0 dX3_fewestStuffed_0 rfl rfl ?_
  refine g_get (pc := 1) 59 cN_59 rfl inlX3 1 (by decide) bw_5_22 rfl dX3_fewestStuffed_1 ?_
  refine g_iload_n (pc := 4) 2 dX3_fewestStuffed_4 rfl rfl ?_
  refine g_cVi (pc := 5) 19 (As := [Value.int x2]) (fun r2 h2 => k_X9_whoKnows__19 hI h2) wk_X9_whoKnows wv_X9_whoKnows bw_32_13 cN_19 rfl (by decide) (by decide) rfl rfl (Nat.le_of_ble_eq_true rfl) dX3_fewestStuffed_5 (fun r3 s4 => ?_)
  refine g_iload_n (pc := 8) 1 dX3_fewestStuffed_8 rfl rfl ?_
  refine g_cNz (pc := 9) (As := [Value.int r3, Value.int x1]) (fun r2 h2 => k_X10_holds hI h2) wk_X10_holds ws_X10_holds nst_RX3_46 (by decide) (by decide) rfl rfl (Nat.le_of_ble_eq_true rfl) dX3_fewestStuffed_9 (fun r5 s6 => ?_)
  refine g_if_eq (pc := 12) (tgt := 18) dX3_fewestStuffed_12 (by decide) ?_ ?_
  · refine g_bipush (pc := 18) (v := -4) dX3_fewestStuffed_18 (by decide) ?_
    refine g_istore_n (pc := 20) [1, 2, 3, 0] (lv1 := [(0, Value.ref (a 59)), (1, Value.int x1), (2, Value.int x2), (3, Value.int (-4 : Int32))]) dX3_fewestStuffed_20 rfl (by decide) rfl ?_
    refine g_iconst (pc := 21) (v := 4) dX3_fewestStuffed_21 (by decide) ?_
    refine g_istore (pc := 22) [1, 2, 3, 4, 0] (lv1 := [(0, Value.ref (a 59)), (1, Value.int x1), (2, Value.int x2), (3, Value.int (-4 : Int32)), (4, Value.int (4 : Int32))]) dX3_fewestStuffed_22 (by decide) rfl ?_
    refine g_aload_n (pc := 24) 0 dX3_fewestStuffed_24 rfl rfl ?_
    refine g_get (pc := 25) 59 cN_59 rfl inlX3 0 (by decide) bw_5_21 rfl dX3_fewestStuffed_25 ?_
    refine g_cVi (pc := 28) 12 (As := []) (fun r2 h2 => k_X4_allHouses__12 hI h2) wk_X4_allHouses wv_X4_allHouses bw_32_14 cN_12 rfl (by decide) (by decide) rfl rfl (Nat.le_of_ble_eq_true rfl) dX3_fewestStuffed_28 (fun r7 s8 => ?_)
    refine g_istore (pc := 31) [1, 2, 3, 4, 5, 0] (lv1 := [(0, Value.ref (a 59)), (1, Value.int x1), (2, Value.int x2), (3, Value.int (-4 : Int32)), (4, Value.int (4 : Int32)), (5, Value.int r7)]) dX3_fewestStuffed_31 (by decide) rfl ?_
    refine g_iconst (pc := 33) (v := 0) dX3_fewestStuffed_33 (by decide) ?_
    refine g_istore (pc := 34) [1, 2, 3, 4, 5, 6, 0] (lv1 := [(0, Value.ref (a 59)), (1, Value.int x1), (2, Value.int x2), (3, Value.int (-4 : Int32)), (4, Value.int (4 : Int32)), (5, Value.int r7), (6, Value.int (0 : Int32))]) dX3_fewestStuffed_34 (by decide) rfl ?_
    refine g_lq3 (pc := 36) (lf := fun x10 x11 x12 => [((0 : Nat), Value.ref (a 59)), ((1 : Nat), Value.int x1), ((2 : Nat), Value.int x2), ((3 : Nat), Value.int x10), ((4 : Nat), Value.int x11), ((5 : Nat), Value.int r7), ((6 : Nat), Value.int x12)]) (sf := fun x10 x11 x12 => ([] : List Value)) (fun k9 hk9 s13 x10 x11 x12 => ?_) 100000 s8 _ _ _
    show G _ Γ _ _ _ _ _ _ s13 [((0 : Nat), Value.ref (a 59)), ((1 : Nat), Value.int x1), ((2 : Nat), Value.int x2), ((3 : Nat), Value.int x10), ((4 : Nat), Value.int x11), ((5 : Nat), Value.int r7), ((6 : Nat), Value.int x12)] 36 ([] : List Value)
    refine g_iload (pc := 36) 6 dX3_fewestStuffed_36 rfl ?_
    refine g_iload (pc := 38) 5 dX3_fewestStuffed_38 rfl ?_
    refine g_icmp_gt (pc := 40) (tgt := 114) dX3_fewestStuffed_40 (by decide) ?_ ?_
    · refine g_iload_n (pc := 114) 3 dX3_fewestStuffed_114 rfl rfl ?_
      exact g_iret (pc := 115) hRT dX3_fewestStuffed_115
    · refine g_jq2 (pc2 := 108) (lf := fun x15 x16 => [((0 : Nat), Value.ref (a 59)), ((1 : Nat), Value.int x1), ((2 : Nat), Value.int x2), ((3 : Nat), Value.int x15), ((4 : Nat), Value.int x16), ((5 : Nat), Value.int r7), ((6 : Nat), Value.int x12)]) (sf := fun x15 x16 => ([] : List Value)) (fun s17 x15 x16 => ?_) (fun k14 hk14 => ?_)
      · show G _ Γ _ _ _ _ _ _ s17 [((0 : Nat), Value.ref (a 59)), ((1 : Nat), Value.int x1), ((2 : Nat), Value.int x2), ((3 : Nat), Value.int x15), ((4 : Nat), Value.int x16), ((5 : Nat), Value.int r7), ((6 : Nat), Value.int x12)] 108 ([] : List Value)
        refine g_iinc (pc := 108) [1, 2, 3, 4, 5, 6, 0] 6 (n1 := 1) (lv1 := fun x18 => [(0, Value.ref (a 59)), (1, Value.int x1), (2, Value.int x2), (3, Value.int x15), (4, Value.int x16), (5, Value.int r7), (6, Value.int x18)]) dX3_fewestStuffed_108 rfl (by decide) (by decide) (fun _ => rfl) (fun x18 => ?_)
        show G _ Γ _ _ _ _ _ _ _ [(0, Value.ref (a 59)), (1, Value.int x1), (2, Value.int x2), (3, Value.int x15), (4, Value.int x16), (5, Value.int r7), (6, Value.int x18)] (108 + 3) _
        refine g_goto (pc := 111) (tgt := 36) dX3_fewestStuffed_111 (by decide) ?_
        exact hk9 s17 _ _ _
      · refine g_iload (pc := 43) 6 dX3_fewestStuffed_43 rfl ?_
        refine g_cSi (pc := 45) (As := [Value.int x12]) (fun r2 h2 => k_J6_bitCount_0f7a4 hI h2) wk_J6_bitCount_0f7a4 ws_J6_bitCount_0f7a4 bw_32_18 (by decide) (by decide) rfl rfl (Nat.le_of_ble_eq_true rfl) dX3_fewestStuffed_45 (fun r19 s20 => ?_)
        refine g_iload (pc := 48) 4 dX3_fewestStuffed_48 rfl ?_
        refine g_icmp_ge (pc := 50) (tgt := 108) dX3_fewestStuffed_50 (by decide) ?_ ?_
        · exact hk14 s20 _ _
        · refine g_iload (pc := 53) 6 dX3_fewestStuffed_53 rfl ?_
          refine g_iload_n (pc := 55) 1 dX3_fewestStuffed_55 rfl rfl ?_
          refine g_cNz (pc := 56) (As := [Value.int x12, Value.int x1]) (fun r2 h2 => k_X10_holds hI h2) wk_X10_holds ws_X10_holds nst_RX3_46 (by decide) (by decide) rfl rfl (Nat.le_of_ble_eq_true rfl) dX3_fewestStuffed_56 (fun r21 s22 => ?_)
          refine g_if_eq (pc := 59) (tgt := 65) dX3_fewestStuffed_59 (by decide) ?_ ?_
          · refine g_aload_n (pc := 65) 0 dX3_fewestStuffed_65 rfl rfl ?_
            refine g_get (pc := 66) 59 cN_59 rfl inlX3 2 (by decide) bw_5_23 rfl dX3_fewestStuffed_66 ?_
            refine g_iload_n (pc := 69) 2 dX3_fewestStuffed_69 rfl rfl ?_
            refine g_cVv (pc := 70) 56 (As := [Value.int x2]) (fun r2 h2 => k_X1_pick__56 hI h2) wk_X1_pick wv_X1_pick bw_30_7 cN_56 rfl (by decide) (by decide) rfl rfl (Nat.le_of_ble_eq_true rfl) dX3_fewestStuffed_70 (fun r23 s24 => ?_)
            refine g_aload_n (pc := 73) 0 dX3_fewestStuffed_73 rfl rfl ?_
            refine g_get (pc := 74) 59 cN_59 rfl inlX3 2 (by decide) bw_5_23 rfl dX3_fewestStuffed_74 ?_
            refine g_iload (pc := 77) 6 dX3_fewestStuffed_77 rfl ?_
            refine g_cVv (pc := 79) 56 (As := [Value.int x12]) (fun r2 h2 => k_X1_stuff__56 hI h2) wk_X1_stuff wv_X1_stuff bw_32_19 cN_56 rfl (by decide) (by decide) rfl rfl (Nat.le_of_ble_eq_true rfl) dX3_fewestStuffed_79 (fun r25 s26 => ?_)
            refine g_aload_n (pc := 82) 0 dX3_fewestStuffed_82 rfl rfl ?_
            refine g_get (pc := 83) 59 cN_59 rfl inlX3 2 (by decide) bw_5_23 rfl dX3_fewestStuffed_83 ?_
            refine g_iload_n (pc := 86) 1 dX3_fewestStuffed_86 rfl rfl ?_
            refine g_bipush (pc := 87) (v := 48) dX3_fewestStuffed_87 (by decide) ?_
            refine g_cVz (pc := 89) 56 (As := [Value.int x1, Value.int (48 : Int32)]) (fun r2 h2 => k_X1_hears__56 hI h2) wk_X1_hears wv_X1_hears bw_30_8 cN_56 rfl (by decide) (by decide) rfl rfl (Nat.le_of_ble_eq_true rfl) dX3_fewestStuffed_89 (fun r27 s28 => ?_)
            refine g_if_eq (pc := 92) (tgt := 98) dX3_fewestStuffed_92 (by decide) ?_ ?_
            · refine g_iload (pc := 98) 6 dX3_fewestStuffed_98 rfl ?_
              refine g_istore_n (pc := 100) [1, 2, 3, 0, 4, 5, 6] (lv1 := [(0, Value.ref (a 59)), (1, Value.int x1), (2, Value.int x2), (3, Value.int x12), (4, Value.int x11), (5, Value.int r7), (6, Value.int x12)]) dX3_fewestStuffed_100 rfl (by decide) rfl ?_
              refine g_iload (pc := 101) 6 dX3_fewestStuffed_101 rfl ?_
              refine g_cSi (pc := 103) (As := [Value.int x12]) (fun r2 h2 => k_J6_bitCount_0f7a4 hI h2) wk_J6_bitCount_0f7a4 ws_J6_bitCount_0f7a4 bw_32_18 (by decide) (by decide) rfl rfl (Nat.le_of_ble_eq_true rfl) dX3_fewestStuffed_103 (fun r29 s30 => ?_)
              refine g_istore (pc := 106) [1, 2, 3, 4, 0, 5, 6] (lv1 := [(0, Value.ref (a 59)), (1, Value.int x1), (2, Value.int x2), (3, Value.int x12), (4, Value.int r29), (5, Value.int r7), (6, Value.int x12)]) dX3_fewestStuffed_106 (by decide) rfl ?_
              exact hk14 s30 _ _
            · refine g_goto (pc := 95) (tgt := 108) dX3_fewestStuffed_95 (by decide) ?_
              exact hk14 s28 _ _
          · refine g_goto (pc := 62) (tgt := 108) dX3_fewestStuffed_62 (by decide) ?_
            exact hk14 s22 _ _
  · refine g_bipush (pc := 15) (v := -4) dX3_fewestStuffed_15 (by decide) ?_
    exact g_iret (pc := 17) hRT dX3_fewestStuffed_17
set_option maxRecDepth 100000 in
set_option maxHeartbeats 4000000 in
theorem k_X10_cut__0 {l : Launch} {D : va_G} {a : Nat → Nat} {cI cS : ClassId} (hI : ∀ σ : St, va_D (AN a) (cN a cI cS σ)) {σ : St} {x1 x2 x3 : Int32} {r : Int32 × St} (h : f_X10_cut__0 σ x1 x2 x3 = some r) : Kc (SN l D a cI cS) yX10_cut cX10_cut 5 (some .int) 5 [Value.ref (a 0), Value.int x1, Value.int x2, Value.int x3] σ r := by
  refine enter (own := RX10) (o := f_X10_cut__0 σ x1 x2 x3) (plainFor_of_name (by decide +kernel)) rfl (Nat.le_of_ble_eq_true rfl) hI wk_X10_cut.1 h (fun Γ hRT => ?_)
  show G _ Γ _ _ _ _ _ _ σ [((0 : Nat), Value.ref (a 0)), ((1 : Nat), Value.int x1), ((2 : Nat), Value.int x2), ((3 : Nat), Value.int x3)] 0 []
  unfold f_X10_cut__0
  refine g_aload_n (pc := 0) 0 dX10_cut_0 rfl rfl ?_
  refine g_get (pc := 1) 0 cN_0 rfl inlX10 3 (by decide) bw_2_0 rfl dX10_cut_1 ?_
  refine g_iload_n (pc := 4) 1 dX10_cut_4 rfl rfl ?_
  refine g_cVz (pc := 5) 12 (As := [Value.int x1]) (fun r2 h2 => k_X4_hasHouse__12 hI h2) wk_X4_hasHouse wv_X4_hasHouse bw_19_10 cN_12 rfl (by decide) (by decide) rfl rfl (Nat.le_of_ble_eq_true rfl) dX10_cut_5 (fun r4 s5 => ?_)
  refine g_if_eq (pc := 8) (tgt := 31) dX10_cut_8 (by decide) ?_ ?_
  · refine g_iconst (pc := 31) (v := -1) dX10_cut_31 (by decide) ?_
    exact g_iret (pc := 32) hRT dX10_cut_32
  · refine g_aload_n (pc := 11) 0 dX10_cut_11 rfl rfl ?_
    refine g_get (pc := 12) 0 cN_0 rfl inlX10 3 (by decide) bw_2_0 rfl dX10_cut_12 ?_
    refine g_iload_n (pc := 15) 2 dX10_cut_15 rfl rfl ?_
    refine g_cVz (pc := 16) 12 (As := [Value.int x2]) (fun r2 h2 => k_X4_hasNews__12 hI h2) wk_X4_hasNews wv_X4_hasNews bw_21_6 cN_12 rfl (by decide) (by decide) rfl rfl (Nat.le_of_ble_eq_true rfl) dX10_cut_16 (fun r6 s7 => ?_)
    refine g_if_eq (pc := 19) (tgt := 31) dX10_cut_19 (by decide) ?_ ?_
    · refine g_iconst (pc := 31) (v := -1) dX10_cut_31 (by decide) ?_
      exact g_iret (pc := 32) hRT dX10_cut_32
    · refine g_iload_n (pc := 22) 3 dX10_cut_22 rfl rfl ?_
      refine g_iconst (pc := 23) (v := 0) dX10_cut_23 (by decide) ?_
      refine g_iconst (pc := 24) (v := 1) dX10_cut_24 (by decide) ?_
      refine g_cSz (pc := 25) (As := [Value.int x3, Value.int (0 : Int32), Value.int (1 : Int32)]) (fun r2 h2 => k_X10_within hI h2) wk_X10_within ws_X10_within bw_12_4 (by decide) (by decide) rfl rfl (Nat.le_of_ble_eq_true rfl) dX10_cut_25 (fun r8 s9 => ?_)
      refine g_if_ne (pc := 28) (tgt := 33) dX10_cut_28 (by decide) ?_ ?_
      · refine g_aload_n (pc := 33) 0 dX10_cut_33 rfl rfl ?_
        refine g_get (pc := 34) 0 cN_0 rfl inlX10 8 (by decide) bw_2_17 rfl dX10_cut_34 ?_
        refine g_iload_n (pc := 37) 1 dX10_cut_37 rfl rfl ?_
        refine g_iload_n (pc := 38) 2 dX10_cut_38 rfl rfl ?_
        refine g_cVi (pc := 39) 59 (As := [Value.int x1, Value.int x2]) (fun r2 h2 => k_X3_fewestStuffed__59 hI h2) wk_X3_fewestStuffed wv_X3_fewestStuffed bw_32_9 cN_59 rfl (by decide) (by decide) rfl rfl (Nat.le_of_ble_eq_true rfl) dX10_cut_39 (fun r10 s11 => ?_)
        refine g_istore (pc := 42) [1, 2, 3, 4, 0] (lv1 := [(0, Value.ref (a 0)), (1, Value.int x1), (2, Value.int x2), (3, Value.int x3), (4, Value.int r10)]) dX10_cut_42 (by decide) rfl ?_
        refine g_iload (pc := 44) 4 dX10_cut_44 rfl ?_
        refine g_bipush (pc := 46) (v := -4) dX10_cut_46 (by decide) ?_
        refine g_icmp_ne (pc := 48) (tgt := 54) dX10_cut_48 (by decide) ?_ ?_
        · refine g_iload_n (pc := 54) 3 dX10_cut_54 rfl rfl ?_
          refine g_if_ne (pc := 55) (tgt := 66) dX10_cut_55 (by decide) ?_ ?_
          · refine g_iload (pc := 66) 4 dX10_cut_66 rfl ?_
            exact g_iret (pc := 68) hRT dX10_cut_68
          · refine g_iload (pc := 58) 4 dX10_cut_58 rfl ?_
            refine g_cSi (pc := 60) (As := [Value.int r10]) (fun r2 h2 => k_J6_bitCount_0f7a4 hI h2) wk_J6_bitCount_0f7a4 ws_J6_bitCount_0f7a4 bw_21_17 (by decide) (by decide) rfl rfl (Nat.le_of_ble_eq_true rfl) dX10_cut_60 (fun r12 s13 => ?_)
            refine g_goto (pc := 63) (tgt := 68) dX10_cut_63 (by decide) ?_
            exact g_iret (pc := 68) hRT dX10_cut_68
        · refine g_bipush (pc := 51) (v := -4) dX10_cut_51 (by decide) ?_
          exact g_iret (pc := 53) hRT dX10_cut_53
      · refine g_iconst (pc := 31) (v := -1) dX10_cut_31 (by decide) ?_
        exact g_iret (pc := 32) hRT dX10_cut_32
set_option maxRecDepth 100000 in
set_option maxHeartbeats 4000000 in
theorem k_X4_hasHouses__12 {l : Launch} {D : va_G} {a : Nat → Nat} {cI cS : ClassId} (hI : ∀ σ : St, va_D (AN a) (cN a cI cS σ)) {σ : St} {x1 : Int32} {r : Int32 × St} (h : f_X4_hasHouses__12 σ x1 = some r) : Kc (SN l D a cI cS) yX4_hasHouses cX4_hasHouses 2 (some .boolean) 2 [Value.ref (a 12), Value.int x1] σ r := by
  refine enter (own := RX4) (o := f_X4_hasHouses__12 σ x1) (plainFor_of_name (by decide +kernel)) rfl (Nat.le_of_ble_eq_true rfl) hI wk_X4_hasHouses.1 h (fun Γ hRT => ?_)
  show G _ Γ _ _ _ _ _ _ σ [((0 : Nat), Value.ref (a 12)), ((1 : Nat), Value.int x1)] 0 []
  unfold f_X4_hasHouses__12
  refine g_iload_n (pc := 0) 1 dX4_hasHouses_0 rfl rfl ?_
  refine g_iconst (pc := 1) (v := 0) dX4_hasHouses_1 (by decide) ?_
  refine g_aload_n (pc := 2) 0 dX4_hasHouses_2 rfl rfl ?_
  refine g_cVi (pc := 3) 12 (As := []) (fun r2 h2 => k_X4_allHouses__12 hI h2) wk_X4_allHouses wv_X4_allHouses bw_33_15 cN_12 rfl (by decide) (by decide) rfl rfl (Nat.le_of_ble_eq_true rfl) dX4_hasHouses_3 (fun r2 s3 => ?_)
  refine g_cNz (pc := 6) (As := [Value.int x1, Value.int (0 : Int32), Value.int r2]) (fun r2 h2 => k_X10_within hI h2) wk_X10_within ws_X10_within nst_RX4_76 (by decide) (by decide) rfl rfl (Nat.le_of_ble_eq_true rfl) dX4_hasHouses_6 (fun r4 s5 => ?_)
  exact g_zret (pc := 9) hRT dX4_hasHouses_9
set_option maxRecDepth 100000 in
set_option maxHeartbeats 4000000 in
theorem k_X2_answer__60 {l : Launch} {D : va_G} {a : Nat → Nat} {cI cS : ClassId} (hI : ∀ σ : St, va_D (AN a) (cN a cI cS σ)) {σ : St} {x1 : Int32} {r : Int32 × St} (h : f_X2_answer__60 σ x1 = some r) : Kc (SN l D a cI cS) yX2_answer cX2_answer 2 (some .int) 0 [Value.ref (a 60), Value.int x1] σ r := by
  refine enter (own := RX2) (o := f_X2_answer__60 σ x1) (plainFor_of_name (by decide +kernel)) rfl (Nat.le_of_ble_eq_true rfl) hI wk_X2_answer.1 h (fun Γ hRT => ?_)
  show G _ Γ _ _ _ _ _ _ σ [((0 : Nat), Value.ref (a 60)), ((1 : Nat), Value.int x1)] 0 []
  unfold f_X2_answer__60
  refine g_iload_n (pc := 0) 1 dX2_answer_0 rfl rfl ?_
  refine g_iconst (pc := 1) (v := 1) dX2_answer_1 (by decide) ?_
  refine g_icmp_ne (pc := 2) (tgt := 10) dX2_answer_2 (by decide) ?_ ?_
  · refine g_iload_n (pc := 10) 1 dX2_answer_10 rfl rfl ?_
    refine g_iconst (pc := 11) (v := 2) dX2_answer_11 (by decide) ?_
    refine g_icmp_ne (pc := 12) (tgt := 22) dX2_answer_12 (by decide) ?_ ?_
    · refine g_aload_n (pc := 22) 0 dX2_answer_22 rfl rfl ?_
      refine g_get (pc := 23) 60 cN_60 rfl inlX2 6 (by decide) bw_6_7 rfl dX2_answer_23 ?_
      exact g_iret (pc := 26) hRT dX2_answer_26
    · refine g_aload_n (pc := 15) 0 dX2_answer_15 rfl rfl ?_
      refine g_get (pc := 16) 60 cN_60 rfl inlX2 8 (by decide) bw_6_9 rfl dX2_answer_16 ?_
      refine g_goto (pc := 19) (tgt := 26) dX2_answer_19 (by decide) ?_
      exact g_iret (pc := 26) hRT dX2_answer_26
  · refine g_aload_n (pc := 5) 0 dX2_answer_5 rfl rfl ?_
    refine g_get (pc := 6) 60 cN_60 rfl inlX2 7 (by decide) bw_6_8 rfl dX2_answer_6 ?_
    exact g_iret (pc := 9) hRT dX2_answer_9
set_option maxRecDepth 100000 in
set_option maxHeartbeats 4000000 in
theorem k_X2_found__60 {l : Launch} {D : va_G} {a : Nat → Nat} {cI cS : ClassId} (hI : ∀ σ : St, va_D (AN a) (cN a cI cS σ)) {σ : St} {x1 x2 x3 : Int32} {r : Int32 × St} (h : f_X2_found__60 σ x1 x2 x3 = some r) : Kc (SN l D a cI cS) yX2_found cX2_found 4 none 0 [Value.ref (a 60), Value.int x1, Value.int x2, Value.int x3] σ r := by
  refine enter (own := RX2) (o := f_X2_found__60 σ x1 x2 x3) (plainFor_of_name (by decide +kernel)) rfl (Nat.le_of_ble_eq_true rfl) hI wk_X2_found.1 h (fun Γ hRT => ?_)
  show G _ Γ _ _ _ _ _ _ σ [((0 : Nat), Value.ref (a 60)), ((1 : Nat), Value.int x1), ((2 : Nat), Value.int x2), ((3 : Nat), Value.int x3)] 0 []
  unfold f_X2_found__60
  refine g_aload_n (pc := 0) 0 dX2_found_0 rfl rfl ?_
  refine g_iload_n (pc := 1) 1 dX2_found_1 rfl rfl ?_
  refine g_put (pc := 2) 60 (ty := .int) cN_60 rfl inlX2 tyX2_ok nmX2 6 (by decide) bw_6_7 rfl (by decide +kernel) rfl rfl (Nat.le_of_ble_eq_true rfl) cN_f60_6 dX2_found_2 (fun s4 => ?_)
  refine g_aload_n (pc := 5) 0 dX2_found_5 rfl rfl ?_
  refine g_iload_n (pc := 6) 2 dX2_found_6 rfl rfl ?_
  refine g_put (pc := 7) 60 (ty := .int) cN_60 rfl inlX2 tyX2_ok nmX2 7 (by decide) bw_6_8 rfl (by decide +kernel) rfl rfl (Nat.le_of_ble_eq_true rfl) cN_f60_7 dX2_found_7 (fun s5 => ?_)
  refine g_aload_n (pc := 10) 0 dX2_found_10 rfl rfl ?_
  refine g_iload_n (pc := 11) 3 dX2_found_11 rfl rfl ?_
  refine g_put (pc := 12) 60 (ty := .int) cN_60 rfl inlX2 tyX2_ok nmX2 8 (by decide) bw_6_9 rfl (by decide +kernel) rfl rfl (Nat.le_of_ble_eq_true rfl) cN_f60_8 dX2_found_12 (fun s6 => ?_)
  exact g_vret (pc := 15) hRT dX2_found_15
set_option maxRecDepth 100000 in
set_option maxHeartbeats 4000000 in
theorem k_X2_pose__60 {l : Launch} {D : va_G} {a : Nat → Nat} {cI cS : ClassId} (hI : ∀ σ : St, va_D (AN a) (cN a cI cS σ)) {σ : St} {x1 x2 x3 x4 : Int32} {r : Int32 × St} (h : f_X2_pose__60 σ x1 x2 x3 x4 = some r) : Kc (SN l D a cI cS) yX2_pose cX2_pose 5 none 4 [Value.ref (a 60), Value.int x1, Value.int x2, Value.int x3, Value.int x4] σ r := by
  refine enter (own := RX2) (o := f_X2_pose__60 σ x1 x2 x3 x4) (plainFor_of_name (by decide +kernel)) rfl (Nat.le_of_ble_eq_true rfl) hI wk_X2_pose.1 h (fun Γ hRT => ?_)
  show G _ Γ _ _ _ _ _ _ σ [((0 : Nat), Value.ref (a 60)), ((1 : Nat), Value.int x1), ((2 : Nat), Value.int x2), ((3 : Nat), Value.int x3), ((4 : Nat), Value.int x4)] 0 []
  unfold f_X2_pose__60
  refine g_aload_n (pc := 0) 0 dX2_pose_0 rfl rfl ?_
  refine g_iload_n (pc := 1) 2 dX2_pose_1 rfl rfl ?_
  refine g_put (pc := 2) 60 (ty := .int) cN_60 rfl inlX2 tyX2_ok nmX2 3 (by decide) bw_6_4 rfl (by decide +kernel) rfl rfl (Nat.le_of_ble_eq_true rfl) cN_f60_3 dX2_pose_2 (fun s5 => ?_)
  refine g_aload_n (pc := 5) 0 dX2_pose_5 rfl rfl ?_
  refine g_iload_n (pc := 6) 3 dX2_pose_6 rfl rfl ?_
  refine g_put (pc := 7) 60 (ty := .int) cN_60 rfl inlX2 tyX2_ok nmX2 4 (by decide) bw_6_5 rfl (by decide +kernel) rfl rfl (Nat.le_of_ble_eq_true rfl) cN_f60_4 dX2_pose_7 (fun s6 => ?_)
  refine g_aload_n (pc := 10) 0 dX2_pose_10 rfl rfl ?_
  refine g_iload (pc := 11) 4 dX2_pose_11 rfl ?_
  refine g_put (pc := 13) 60 (ty := .int) cN_60 rfl inlX2 tyX2_ok nmX2 5 (by decide) bw_6_6 rfl (by decide +kernel) rfl rfl (Nat.le_of_ble_eq_true rfl) cN_f60_5 dX2_pose_13 (fun s7 => ?_)
  refine g_aload_n (pc := 16) 0 dX2_pose_16 rfl rfl ?_
  refine g_bipush (pc := 17) (v := -4) dX2_pose_17 (by decide) ?_
  refine g_bipush (pc := 19) (v := -4) dX2_pose_19 (by decide) ?_
  refine g_bipush (pc := 21) (v := -4) dX2_pose_21 (by decide) ?_
  refine g_cVv (pc := 23) 60 (As := [Value.int (-4 : Int32), Value.int (-4 : Int32), Value.int (-4 : Int32)]) (fun r2 h2 => k_X2_found__60 hI h2) wk_X2_found wv_X2_found bw_33_20 cN_60 rfl (by decide) (by decide) rfl rfl (Nat.le_of_ble_eq_true rfl) dX2_pose_23 (fun r8 s9 => ?_)
  refine g_aload_n (pc := 26) 0 dX2_pose_26 rfl rfl ?_
  refine g_get (pc := 27) 60 cN_60 rfl inlX2 2 (by decide) bw_6_12 rfl dX2_pose_27 ?_
  refine g_iload_n (pc := 30) 1 dX2_pose_30 rfl rfl ?_
  refine g_cVv (pc := 31) 56 (As := [Value.int x1]) (fun r2 h2 => k_X1_pick__56 hI h2) wk_X1_pick wv_X1_pick bw_34_0 cN_56 rfl (by decide) (by decide) rfl rfl (Nat.le_of_ble_eq_true rfl) dX2_pose_31 (fun r10 s11 => ?_)
  exact g_vret (pc := 34) hRT dX2_pose_34
set_option maxRecDepth 100000 in
set_option maxHeartbeats 4000000 in
theorem k_X2_isSo__60 {l : Launch} {D : va_G} {a : Nat → Nat} {cI cS : ClassId} (hI : ∀ σ : St, va_D (AN a) (cN a cI cS σ)) {σ : St} {x1 : Int32} {r : Int32 × St} (h : f_X2_isSo__60 σ x1 = some r) : Kc (SN l D a cI cS) yX2_isSo cX2_isSo 2 (some .boolean) 0 [Value.ref (a 60), Value.int x1] σ r := by
  refine enter (own := RX2) (o := f_X2_isSo__60 σ x1) (plainFor_of_name (by decide +kernel)) rfl (Nat.le_of_ble_eq_true rfl) hI wk_X2_isSo.1 h (fun Γ hRT => ?_)
  show G _ Γ _ _ _ _ _ _ σ [((0 : Nat), Value.ref (a 60)), ((1 : Nat), Value.int x1)] 0 []
  unfold f_X2_isSo__60
  refine g_jq0 (pc2 := 26) (lf := ([] : List (Nat × Value))) (sf := ([] : List Value)) (fun s3 => ?_) (fun k2 hk2 => ?_)
  · show G _ Γ _ _ _ _ _ _ s3 ([] : List (Nat × Value)) 26 ([] : List Value)
    refine g_iconst (pc := 26) (v := 0) dX2_isSo_26 (by decide) ?_
    exact g_zret1 (pc := 27) hRT (by decide) dX2_isSo_27
  · refine g_iload_n (pc := 0) 1 dX2_isSo_0 rfl rfl ?_
    refine g_aload_n (pc := 1) 0 dX2_isSo_1 rfl rfl ?_
    refine g_get (pc := 2) 60 cN_60 rfl inlX2 4 (by decide) bw_6_5 rfl dX2_isSo_2 ?_
    refine g_iand (pc := 5) dX2_isSo_5 ?_
    refine g_aload_n (pc := 6) 0 dX2_isSo_6 rfl rfl ?_
    refine g_get (pc := 7) 60 cN_60 rfl inlX2 4 (by decide) bw_6_5 rfl dX2_isSo_7 ?_
    refine g_icmp_ne (pc := 10) (tgt := 26) dX2_isSo_10 (by decide) ?_ ?_
    · exact g_lv [] rfl (hk2 σ)
    · refine g_iload_n (pc := 13) 1 dX2_isSo_13 rfl rfl ?_
      refine g_aload_n (pc := 14) 0 dX2_isSo_14 rfl rfl ?_
      refine g_get (pc := 15) 60 cN_60 rfl inlX2 5 (by decide) bw_6_6 rfl dX2_isSo_15 ?_
      refine g_iand (pc := 18) dX2_isSo_18 ?_
      refine g_if_ne (pc := 19) (tgt := 26) dX2_isSo_19 (by decide) ?_ ?_
      · exact g_lv [] rfl (hk2 σ)
      · refine g_iconst (pc := 22) (v := 1) dX2_isSo_22 (by decide) ?_
        refine g_goto (pc := 23) (tgt := 27) dX2_isSo_23 (by decide) ?_
        exact g_zret1 (pc := 27) hRT (by decide) dX2_isSo_27
set_option maxRecDepth 100000 in
set_option maxHeartbeats 4000000 in
theorem k_X2_isFoundByNone__60 {l : Launch} {D : va_G} {a : Nat → Nat} {cI cS : ClassId} (hI : ∀ σ : St, va_D (AN a) (cN a cI cS σ)) {σ : St} {r : Int32 × St} (h : f_X2_isFoundByNone__60 σ = some r) : Kc (SN l D a cI cS) yX2_isFoundByNone cX2_isFoundByNone 1 (some .boolean) 3 [Value.ref (a 60)] σ r := by
  refine enter (own := RX2) (o := f_X2_isFoundByNone__60 σ) (plainFor_of_name (by decide +kernel)) rfl (Nat.le_of_ble_eq_true rfl) hI wk_X2_isFoundByNone.1 h (fun Γ hRT => ?_)
  show G _ Γ _ _ _ _ _ _ σ [((0 : Nat), Value.ref (a 60))] 0 []
  unfold f_X2_isFoundByNone__60
  refine g_aload_n (pc := 0) 0 dX2_isFoundByNone_0 rfl rfl ?_
  refine g_aload_n (pc := 1) 0 dX2_isFoundByNone_1 rfl rfl ?_
  refine g_get (pc := 2) 60 cN_60 rfl inlX2 2 (by decide) bw_6_12 rfl dX2_isFoundByNone_2 ?_
  refine g_aload_n (pc := 5) 0 dX2_isFoundByNone_5 rfl rfl ?_
  refine g_get (pc := 6) 60 cN_60 rfl inlX2 2 (by decide) bw_6_12 rfl dX2_isFoundByNone_6 ?_
  refine g_cVi (pc := 9) 56 (As := []) (fun r2 h2 => k_X1_whoKnows__56 hI h2) wk_X1_whoKnows wv_X1_whoKnows bw_34_5 cN_56 rfl (by decide) (by decide) rfl rfl (Nat.le_of_ble_eq_true rfl) dX2_isFoundByNone_9 (fun r1 s2 => ?_)
  refine g_iconst (pc := 12) (v := 0) dX2_isFoundByNone_12 (by decide) ?_
  refine g_aload_n (pc := 13) 0 dX2_isFoundByNone_13 rfl rfl ?_
  refine g_get (pc := 14) 60 cN_60 rfl inlX2 3 (by decide) bw_6_4 rfl dX2_isFoundByNone_14 ?_
  refine g_cVi (pc := 17) 56 (As := [Value.int r1, Value.int (0 : Int32), Value.int (s2 60 3)]) (fun r2 h2 => k_X1_along__56 hI h2) wk_X1_along wv_X1_along bw_34_6 cN_56 rfl (by decide) (by decide) rfl rfl (Nat.le_of_ble_eq_true rfl) dX2_isFoundByNone_17 (fun r3 s4 => ?_)
  refine g_cVz (pc := 20) 60 (As := [Value.int r3]) (fun r2 h2 => k_X2_isSo__60 hI h2) wk_X2_isSo wv_X2_isSo bw_34_7 cN_60 rfl (by decide) (by decide) rfl rfl (Nat.le_of_ble_eq_true rfl) dX2_isFoundByNone_20 (fun r5 s6 => ?_)
  refine g_if_ne (pc := 23) (tgt := 28) dX2_isFoundByNone_23 (by decide) ?_ ?_
  · refine g_aload_n (pc := 28) 0 dX2_isFoundByNone_28 rfl rfl ?_
    refine g_iconst (pc := 29) (v := 0) dX2_isFoundByNone_29 (by decide) ?_
    refine g_bipush (pc := 30) (v := -4) dX2_isFoundByNone_30 (by decide) ?_
    refine g_bipush (pc := 32) (v := -4) dX2_isFoundByNone_32 (by decide) ?_
    refine g_cVv (pc := 34) 60 (As := [Value.int (0 : Int32), Value.int (-4 : Int32), Value.int (-4 : Int32)]) (fun r2 h2 => k_X2_found__60 hI h2) wk_X2_found wv_X2_found bw_33_20 cN_60 rfl (by decide) (by decide) rfl rfl (Nat.le_of_ble_eq_true rfl) dX2_isFoundByNone_34 (fun r7 s8 => ?_)
    refine g_iconst (pc := 37) (v := 1) dX2_isFoundByNone_37 (by decide) ?_
    exact g_zret1 (pc := 38) hRT (by decide) dX2_isFoundByNone_38
  · refine g_iconst (pc := 26) (v := 0) dX2_isFoundByNone_26 (by decide) ?_
    exact g_zret1 (pc := 27) hRT (by decide) dX2_isFoundByNone_27
set_option maxRecDepth 100000 in
set_option maxHeartbeats 4000000 in
theorem k_X1_isAnother__56 {l : Launch} {D : va_G} {a : Nat → Nat} {cI cS : ClassId} (hI : ∀ σ : St, va_D (AN a) (cN a cI cS σ)) {σ : St} {x1 x2 : Int32} {r : Int32 × St} (h : f_X1_isAnother__56 σ x1 x2 = some r) : Kc (SN l D a cI cS) yX1_isAnother cX1_isAnother 3 (some .boolean) 2 [Value.ref (a 56), Value.int x1, Value.int x2] σ r := by
  refine enter (own := RX1) (o := f_X1_isAnother__56 σ x1 x2) (plainFor_of_name (by decide +kernel)) rfl (Nat.le_of_ble_eq_true rfl) hI wk_X1_isAnother.1 h (fun Γ hRT => ?_)
  show G _ Γ _ _ _ _ _ _ σ [((0 : Nat), Value.ref (a 56)), ((1 : Nat), Value.int x1), ((2 : Nat), Value.int x2)] 0 []
  unfold f_X1_isAnother__56
  refine g_jq0 (pc2 := 39) (lf := ([] : List (Nat × Value))) (sf := ([] : List Value)) (fun s4 => ?_) (fun k3 hk3 => ?_)
  · show G _ Γ _ _ _ _ _ _ s4 ([] : List (Nat × Value)) 39 ([] : List Value)
    refine g_iconst (pc := 39) (v := 1) dX1_isAnother_39 (by decide) ?_
    refine g_goto (pc := 40) (tgt := 44) dX1_isAnother_40 (by decide) ?_
    exact g_zret1 (pc := 44) hRT (by decide) dX1_isAnother_44
  · refine g_iload_n (pc := 0) 2 dX1_isAnother_0 rfl rfl ?_
    refine g_iconst (pc := 1) (v := 1) dX1_isAnother_1 (by decide) ?_
    refine g_icmp_lt (pc := 2) (tgt := 39) dX1_isAnother_2 (by decide) ?_ ?_
    · exact g_lv [] rfl (hk3 σ)
    · refine g_aload_n (pc := 5) 0 dX1_isAnother_5 rfl rfl ?_
      refine g_iload_n (pc := 6) 1 dX1_isAnother_6 rfl rfl ?_
      refine g_iload_n (pc := 7) 2 dX1_isAnother_7 rfl rfl ?_
      refine g_cVz (pc := 8) 56 (As := [Value.int x1, Value.int x2]) (fun r2 h2 => k_X1_letsInFromTalkers__56 hI h2) wk_X1_letsInFromTalkers wv_X1_letsInFromTalkers bw_25_17 cN_56 rfl (by decide) (by decide) rfl rfl (Nat.le_of_ble_eq_true rfl) dX1_isAnother_8 (fun r5 s6 => ?_)
      refine g_aload_n (pc := 11) 0 dX1_isAnother_11 rfl rfl ?_
      refine g_iload_n (pc := 12) 1 dX1_isAnother_12 rfl rfl ?_
      refine g_iload_n (pc := 13) 2 dX1_isAnother_13 rfl rfl ?_
      refine g_iconst (pc := 14) (v := 1) dX1_isAnother_14 (by decide) ?_
      refine g_isub (pc := 15) dX1_isAnother_15 ?_
      refine g_cVz (pc := 16) 56 (As := [Value.int x1, Value.int (x2 - (1 : Int32))]) (fun r2 h2 => k_X1_letsInFromTalkers__56 hI h2) wk_X1_letsInFromTalkers wv_X1_letsInFromTalkers bw_25_17 cN_56 rfl (by decide) (by decide) rfl rfl (Nat.le_of_ble_eq_true rfl) dX1_isAnother_16 (fun r7 s8 => ?_)
      refine g_icmp_ne (pc := 19) (tgt := 39) dX1_isAnother_19 (by decide) ?_ ?_
      · exact g_lv [] rfl (hk3 s8)
      · refine g_aload_n (pc := 22) 0 dX1_isAnother_22 rfl rfl ?_
        refine g_iload_n (pc := 23) 1 dX1_isAnother_23 rfl rfl ?_
        refine g_iload_n (pc := 24) 2 dX1_isAnother_24 rfl rfl ?_
        refine g_cVz (pc := 25) 56 (As := [Value.int x1, Value.int x2]) (fun r2 h2 => k_X1_letsInFromGossips__56 hI h2) wk_X1_letsInFromGossips wv_X1_letsInFromGossips bw_25_21 cN_56 rfl (by decide) (by decide) rfl rfl (Nat.le_of_ble_eq_true rfl) dX1_isAnother_25 (fun r9 s10 => ?_)
        refine g_aload_n (pc := 28) 0 dX1_isAnother_28 rfl rfl ?_
        refine g_iload_n (pc := 29) 1 dX1_isAnother_29 rfl rfl ?_
        refine g_iload_n (pc := 30) 2 dX1_isAnother_30 rfl rfl ?_
        refine g_iconst (pc := 31) (v := 1) dX1_isAnother_31 (by decide) ?_
        refine g_isub (pc := 32) dX1_isAnother_32 ?_
        refine g_cVz (pc := 33) 56 (As := [Value.int x1, Value.int (x2 - (1 : Int32))]) (fun r2 h2 => k_X1_letsInFromGossips__56 hI h2) wk_X1_letsInFromGossips wv_X1_letsInFromGossips bw_25_21 cN_56 rfl (by decide) (by decide) rfl rfl (Nat.le_of_ble_eq_true rfl) dX1_isAnother_33 (fun r11 s12 => ?_)
        refine g_icmp_eq (pc := 36) (tgt := 43) dX1_isAnother_36 (by decide) ?_ ?_
        · refine g_iconst (pc := 43) (v := 0) dX1_isAnother_43 (by decide) ?_
          exact g_zret1 (pc := 44) hRT (by decide) dX1_isAnother_44
        · exact g_lv [] rfl (hk3 s12)
set_option maxRecDepth 100000 in
set_option maxHeartbeats 4000000 in
theorem k_X2_fittingWidth__60 {l : Launch} {D : va_G} {a : Nat → Nat} {cI cS : ClassId} (hI : ∀ σ : St, va_D (AN a) (cN a cI cS σ)) {σ : St} {x1 : Int32} {r : Int32 × St} (h : f_X2_fittingWidth__60 σ x1 = some r) : Kc (SN l D a cI cS) yX2_fittingWidth cX2_fittingWidth 4 (some .int) 3 [Value.ref (a 60), Value.int x1] σ r := by
  refine enter (own := RX2) (o := f_X2_fittingWidth__60 σ x1) (plainFor_of_name (by decide +kernel)) rfl (Nat.le_of_ble_eq_true rfl) hI wk_X2_fittingWidth.1 h (fun Γ hRT => ?_)
  show G _ Γ _ _ _ _ _ _ σ [((0 : Nat), Value.ref (a 60)), ((1 : Nat), Value.int x1)] 0 []
  unfold f_X2_fittingWidth__60
  refine g_bipush (pc := 0) (v := -4) dX2_fittingWidth_0 (by decide) ?_
  refine g_istore_n (pc := 2) [1, 2, 0] (lv1 := [(0, Value.ref (a 60)), (1, Value.int x1), (2, Value.int (-4 : Int32))]) dX2_fittingWidth_2 rfl (by decide) rfl ?_
  refine g_iconst (pc := 3) (v := 0) dX2_fittingWidth_3 (by decide) ?_
  refine g_istore_n (pc := 4) [1, 2, 3, 0] (lv1 := [(0, Value.ref (a 60)), (1, Value.int x1), (2, Value.int (-4 : Int32)), (3, Value.int (0 : Int32))]) dX2_fittingWidth_4 rfl (by decide) rfl ?_
  refine g_lq2 (pc := 5) (lf := fun x3 x4 => [((0 : Nat), Value.ref (a 60)), ((1 : Nat), Value.int x1), ((2 : Nat), Value.int x3), ((3 : Nat), Value.int x4)]) (sf := fun x3 x4 => ([] : List Value)) (fun k2 hk2 s5 x3 x4 => ?_) 100000 σ _ _
  show G _ Γ _ _ _ _ _ _ s5 [((0 : Nat), Value.ref (a 60)), ((1 : Nat), Value.int x1), ((2 : Nat), Value.int x3), ((3 : Nat), Value.int x4)] 5 ([] : List Value)
  refine g_jq0 (pc2 := 75) (lf := [((0 : Nat), Value.ref (a 60)), ((1 : Nat), Value.int x1), ((2 : Nat), Value.int x3)]) (sf := ([] : List Value)) (fun s7 => ?_) (fun k6 hk6 => ?_)
  · show G _ Γ _ _ _ _ _ _ s7 [((0 : Nat), Value.ref (a 60)), ((1 : Nat), Value.int x1), ((2 : Nat), Value.int x3)] 75 ([] : List Value)
    refine g_aload_n (pc := 75) 0 dX2_fittingWidth_75 rfl rfl ?_
    refine g_get (pc := 76) 60 cN_60 rfl inlX2 2 (by decide) bw_6_12 rfl dX2_fittingWidth_76 ?_
    refine g_iload_n (pc := 79) 1 dX2_fittingWidth_79 rfl rfl ?_
    refine g_aload_n (pc := 80) 0 dX2_fittingWidth_80 rfl rfl ?_
    refine g_get (pc := 81) 60 cN_60 rfl inlX2 1 (by decide) bw_6_11 rfl dX2_fittingWidth_81 ?_
    refine g_iload_n (pc := 84) 1 dX2_fittingWidth_84 rfl rfl ?_
    refine g_cVi (pc := 85) 19 (As := [Value.int x1]) (fun r2 h2 => k_X9_sashOf__19 hI h2) wk_X9_sashOf wv_X9_sashOf bw_35_1 cN_19 rfl (by decide) (by decide) rfl rfl (Nat.le_of_ble_eq_true rfl) dX2_fittingWidth_85 (fun r8 s9 => ?_)
    refine g_cVv (pc := 88) 56 (As := [Value.int x1, Value.int r8]) (fun r2 h2 => k_X1_reopen__56 hI h2) wk_X1_reopen wv_X1_reopen bw_35_0 cN_56 rfl (by decide) (by decide) rfl rfl (Nat.le_of_ble_eq_true rfl) dX2_fittingWidth_88 (fun r10 s11 => ?_)
    refine g_iload_n (pc := 91) 2 dX2_fittingWidth_91 rfl rfl ?_
    exact g_iret (pc := 92) hRT dX2_fittingWidth_92
  · refine g_iload_n (pc := 5) 3 dX2_fittingWidth_5 rfl rfl ?_
    refine g_bipush (pc := 6) (v := 6) dX2_fittingWidth_6 (by decide) ?_
    refine g_icmp_gt (pc := 8) (tgt := 75) dX2_fittingWidth_8 (by decide) ?_ ?_
    · exact g_lv [0, 1, 2] rfl (hk6 s5)
    · refine g_iload_n (pc := 11) 2 dX2_fittingWidth_11 rfl rfl ?_
      refine g_bipush (pc := 12) (v := -4) dX2_fittingWidth_12 (by decide) ?_
      refine g_icmp_ne (pc := 14) (tgt := 75) dX2_fittingWidth_14 (by decide) ?_ ?_
      · exact g_lv [0, 1, 2] rfl (hk6 s5)
      · refine g_jq1 (pc2 := 69) (lf := fun x13 => [((0 : Nat), Value.ref (a 60)), ((1 : Nat), Value.int x1), ((2 : Nat), Value.int x13), ((3 : Nat), Value.int x4)]) (sf := fun x13 => ([] : List Value)) (fun s14 x13 => ?_) (fun k12 hk12 => ?_)
        · show G _ Γ _ _ _ _ _ _ s14 [((0 : Nat), Value.ref (a 60)), ((1 : Nat), Value.int x1), ((2 : Nat), Value.int x13), ((3 : Nat), Value.int x4)] 69 ([] : List Value)
          refine g_iinc (pc := 69) [1, 2, 3, 0] 3 (n1 := 1) (lv1 := fun x15 => [(0, Value.ref (a 60)), (1, Value.int x1), (2, Value.int x13), (3, Value.int x15)]) dX2_fittingWidth_69 rfl (by decide) (by decide) (fun _ => rfl) (fun x15 => ?_)
          show G _ Γ _ _ _ _ _ _ _ [(0, Value.ref (a 60)), (1, Value.int x1), (2, Value.int x13), (3, Value.int x15)] (69 + 3) _
          refine g_goto (pc := 72) (tgt := 5) dX2_fittingWidth_72 (by decide) ?_
          exact hk2 s14 _ _
        · refine g_aload_n (pc := 17) 0 dX2_fittingWidth_17 rfl rfl ?_
          refine g_get (pc := 18) 60 cN_60 rfl inlX2 2 (by decide) bw_6_12 rfl dX2_fittingWidth_18 ?_
          refine g_iload_n (pc := 21) 1 dX2_fittingWidth_21 rfl rfl ?_
          refine g_iload_n (pc := 22) 3 dX2_fittingWidth_22 rfl rfl ?_
          refine g_cVz (pc := 23) 56 (As := [Value.int x1, Value.int x4]) (fun r2 h2 => k_X1_isAnother__56 hI h2) wk_X1_isAnother wv_X1_isAnother bw_34_20 cN_56 rfl (by decide) (by decide) rfl rfl (Nat.le_of_ble_eq_true rfl) dX2_fittingWidth_23 (fun r16 s17 => ?_)
          refine g_if_ne (pc := 26) (tgt := 32) dX2_fittingWidth_26 (by decide) ?_ ?_
          · refine g_aload_n (pc := 32) 0 dX2_fittingWidth_32 rfl rfl ?_
            refine g_get (pc := 33) 60 cN_60 rfl inlX2 2 (by decide) bw_6_12 rfl dX2_fittingWidth_33 ?_
            refine g_iload_n (pc := 36) 1 dX2_fittingWidth_36 rfl rfl ?_
            refine g_iload_n (pc := 37) 3 dX2_fittingWidth_37 rfl rfl ?_
            refine g_cVv (pc := 38) 56 (As := [Value.int x1, Value.int x4]) (fun r2 h2 => k_X1_reopen__56 hI h2) wk_X1_reopen wv_X1_reopen bw_35_0 cN_56 rfl (by decide) (by decide) rfl rfl (Nat.le_of_ble_eq_true rfl) dX2_fittingWidth_38 (fun r18 s19 => ?_)
            refine g_aload_n (pc := 41) 0 dX2_fittingWidth_41 rfl rfl ?_
            refine g_aload_n (pc := 42) 0 dX2_fittingWidth_42 rfl rfl ?_
            refine g_get (pc := 43) 60 cN_60 rfl inlX2 2 (by decide) bw_6_12 rfl dX2_fittingWidth_43 ?_
            refine g_aload_n (pc := 46) 0 dX2_fittingWidth_46 rfl rfl ?_
            refine g_get (pc := 47) 60 cN_60 rfl inlX2 2 (by decide) bw_6_12 rfl dX2_fittingWidth_47 ?_
            refine g_cVi (pc := 50) 56 (As := []) (fun r2 h2 => k_X1_whoKnows__56 hI h2) wk_X1_whoKnows wv_X1_whoKnows bw_34_5 cN_56 rfl (by decide) (by decide) rfl rfl (Nat.le_of_ble_eq_true rfl) dX2_fittingWidth_50 (fun r20 s21 => ?_)
            refine g_iconst (pc := 53) (v := 0) dX2_fittingWidth_53 (by decide) ?_
            refine g_aload_n (pc := 54) 0 dX2_fittingWidth_54 rfl rfl ?_
            refine g_get (pc := 55) 60 cN_60 rfl inlX2 3 (by decide) bw_6_4 rfl dX2_fittingWidth_55 ?_
            refine g_cVi (pc := 58) 56 (As := [Value.int r20, Value.int (0 : Int32), Value.int (s21 60 3)]) (fun r2 h2 => k_X1_along__56 hI h2) wk_X1_along wv_X1_along bw_34_6 cN_56 rfl (by decide) (by decide) rfl rfl (Nat.le_of_ble_eq_true rfl) dX2_fittingWidth_58 (fun r22 s23 => ?_)
            refine g_cVz (pc := 61) 60 (As := [Value.int r22]) (fun r2 h2 => k_X2_isSo__60 hI h2) wk_X2_isSo wv_X2_isSo bw_34_7 cN_60 rfl (by decide) (by decide) rfl rfl (Nat.le_of_ble_eq_true rfl) dX2_fittingWidth_61 (fun r24 s25 => ?_)
            refine g_if_eq (pc := 64) (tgt := 69) dX2_fittingWidth_64 (by decide) ?_ ?_
            · exact hk12 s25 _
            · refine g_iload_n (pc := 67) 3 dX2_fittingWidth_67 rfl rfl ?_
              refine g_istore_n (pc := 68) [1, 2, 0, 3] (lv1 := [(0, Value.ref (a 60)), (1, Value.int x1), (2, Value.int x4), (3, Value.int x4)]) dX2_fittingWidth_68 rfl (by decide) rfl ?_
              exact hk12 s25 _
          · refine g_goto (pc := 29) (tgt := 69) dX2_fittingWidth_29 (by decide) ?_
            exact hk12 s17 _
set_option maxRecDepth 100000 in
set_option maxHeartbeats 4000000 in
theorem k_X2_isFoundByOne__60 {l : Launch} {D : va_G} {a : Nat → Nat} {cI cS : ClassId} (hI : ∀ σ : St, va_D (AN a) (cN a cI cS σ)) {σ : St} {r : Int32 × St} (h : f_X2_isFoundByOne__60 σ = some r) : Kc (SN l D a cI cS) yX2_isFoundByOne cX2_isFoundByOne 3 (some .boolean) 4 [Value.ref (a 60)] σ r := by
  refine enter (own := RX2) (o := f_X2_isFoundByOne__60 σ) (plainFor_of_name (by decide +kernel)) rfl (Nat.le_of_ble_eq_true rfl) hI wk_X2_isFoundByOne.1 h (fun Γ hRT => ?_)
  show G _ Γ _ _ _ _ _ _ σ [((0 : Nat), Value.ref (a 60))] 0 []
  unfold f_X2_isFoundByOne__60
  refine g_iconst (pc := 0) (v := 0) dX2_isFoundByOne_0 (by decide) ?_
  refine g_istore_n (pc := 1) [1, 0] (lv1 := [(0, Value.ref (a 60)), (1, Value.int (0 : Int32))]) dX2_isFoundByOne_1 rfl (by decide) rfl ?_
  refine g_lq1 (pc := 2) (lf := fun x2 => [((0 : Nat), Value.ref (a 60)), ((1 : Nat), Value.int x2)]) (sf := fun x2 => ([] : List Value)) (fun k1 hk1 s3 x2 => ?_) 100000 σ _
  show G _ Γ _ _ _ _ _ _ s3 [((0 : Nat), Value.ref (a 60)), ((1 : Nat), Value.int x2)] 2 ([] : List Value)
  refine g_iload_n (pc := 2) 1 dX2_isFoundByOne_2 rfl rfl ?_
  refine g_aload_n (pc := 3) 0 dX2_isFoundByOne_3 rfl rfl ?_
  refine g_get (pc := 4) 60 cN_60 rfl inlX2 0 (by decide) bw_6_10 rfl dX2_isFoundByOne_4 ?_
  refine g_cVi (pc := 7) 12 (As := []) (fun r2 h2 => k_X4_houses__12 hI h2) wk_X4_houses wv_X4_houses bw_34_15 cN_12 rfl (by decide) (by decide) rfl rfl (Nat.le_of_ble_eq_true rfl) dX2_isFoundByOne_7 (fun r4 s5 => ?_)
  refine g_icmp_ge (pc := 10) (tgt := 46) dX2_isFoundByOne_10 (by decide) ?_ ?_
  · refine g_iconst (pc := 46) (v := 0) dX2_isFoundByOne_46 (by decide) ?_
    exact g_zret1 (pc := 47) hRT (by decide) dX2_isFoundByOne_47
  · refine g_aload_n (pc := 13) 0 dX2_isFoundByOne_13 rfl rfl ?_
    refine g_iload_n (pc := 14) 1 dX2_isFoundByOne_14 rfl rfl ?_
    refine g_cVi (pc := 15) 60 (As := [Value.int x2]) (fun r2 h2 => k_X2_fittingWidth__60 hI h2) wk_X2_fittingWidth wv_X2_fittingWidth bw_34_16 cN_60 rfl (by decide) (by decide) rfl rfl (Nat.le_of_ble_eq_true rfl) dX2_isFoundByOne_15 (fun r6 s7 => ?_)
    refine g_istore_n (pc := 18) [1, 2, 0] (lv1 := [(0, Value.ref (a 60)), (1, Value.int x2), (2, Value.int r6)]) dX2_isFoundByOne_18 rfl (by decide) rfl ?_
    refine g_iload_n (pc := 19) 2 dX2_isFoundByOne_19 rfl rfl ?_
    refine g_bipush (pc := 20) (v := -4) dX2_isFoundByOne_20 (by decide) ?_
    refine g_icmp_eq (pc := 22) (tgt := 40) dX2_isFoundByOne_22 (by decide) ?_ ?_
    · refine g_iinc (pc := 40) [1, 0, 2] 1 (n1 := 1) (lv1 := fun x8 => [(0, Value.ref (a 60)), (1, Value.int x8), (2, Value.int r6)]) dX2_isFoundByOne_40 rfl (by decide) (by decide) (fun _ => rfl) (fun x8 => ?_)
      show G _ Γ _ _ _ _ _ _ _ [(0, Value.ref (a 60)), (1, Value.int x8), (2, Value.int r6)] (40 + 3) _
      refine g_goto (pc := 43) (tgt := 2) dX2_isFoundByOne_43 (by decide) ?_
      exact g_lv [0, 1] rfl (hk1 s7 _)
    · refine g_aload_n (pc := 25) 0 dX2_isFoundByOne_25 rfl rfl ?_
      refine g_iconst (pc := 26) (v := 1) dX2_isFoundByOne_26 (by decide) ?_
      refine g_bipush (pc := 27) (v := 10) dX2_isFoundByOne_27 (by decide) ?_
      refine g_iload_n (pc := 29) 1 dX2_isFoundByOne_29 rfl rfl ?_
      refine g_imul (pc := 30) dX2_isFoundByOne_30 ?_
      refine g_iload_n (pc := 31) 2 dX2_isFoundByOne_31 rfl rfl ?_
      refine g_iadd (pc := 32) dX2_isFoundByOne_32 ?_
      refine g_bipush (pc := 33) (v := -4) dX2_isFoundByOne_33 (by decide) ?_
      refine g_cVv (pc := 35) 60 (As := [Value.int (1 : Int32), Value.int (((10 : Int32) * x2) + r6), Value.int (-4 : Int32)]) (fun r2 h2 => k_X2_found__60 hI h2) wk_X2_found wv_X2_found bw_33_20 cN_60 rfl (by decide) (by decide) rfl rfl (Nat.le_of_ble_eq_true rfl) dX2_isFoundByOne_35 (fun r9 s10 => ?_)
      refine g_iconst (pc := 38) (v := 1) dX2_isFoundByOne_38 (by decide) ?_
      exact g_zret1 (pc := 39) hRT (by decide) dX2_isFoundByOne_39
set_option maxRecDepth 100000 in
set_option maxHeartbeats 4000000 in
theorem k_X2_isFoundWith__60 {l : Launch} {D : va_G} {a : Nat → Nat} {cI cS : ClassId} (hI : ∀ σ : St, va_D (AN a) (cN a cI cS σ)) {σ : St} {x1 x2 : Int32} {r : Int32 × St} (h : f_X2_isFoundWith__60 σ x1 x2 = some r) : Kc (SN l D a cI cS) yX2_isFoundWith cX2_isFoundWith 5 (some .boolean) 4 [Value.ref (a 60), Value.int x1, Value.int x2] σ r := by
  refine enter (own := RX2) (o := f_X2_isFoundWith__60 σ x1 x2) (plainFor_of_name (by decide +kernel)) rfl (Nat.le_of_ble_eq_true rfl) hI wk_X2_isFoundWith.1 h (fun Γ hRT => ?_)
  show G _ Γ _ _ _ _ _ _ σ [((0 : Nat), Value.ref (a 60)), ((1 : Nat), Value.int x1), ((2 : Nat), Value.int x2)] 0 []
  unfold f_X2_isFoundWith__60
  refine g_iload_n (pc := 0) 1 dX2_isFoundWith_0 rfl rfl ?_
  refine g_iconst (pc := 1) (v := 1) dX2_isFoundWith_1 (by decide) ?_
  refine g_iadd (pc := 2) dX2_isFoundWith_2 ?_
  refine g_nm (fun x3 => ?_)
  refine g_istore_n (pc := 3) [1, 2, 3, 0] (lv1 := [(0, Value.ref (a 60)), (1, Value.int x1), (2, Value.int x2), (3, Value.int x3)]) dX2_isFoundWith_3 rfl (by decide) rfl ?_
  refine g_lq1 (pc := 4) (lf := fun x5 => [((0 : Nat), Value.ref (a 60)), ((1 : Nat), Value.int x1), ((2 : Nat), Value.int x2), ((3 : Nat), Value.int x5)]) (sf := fun x5 => ([] : List Value)) (fun k4 hk4 s6 x5 => ?_) 100000 σ _
  show G _ Γ _ _ _ _ _ _ s6 [((0 : Nat), Value.ref (a 60)), ((1 : Nat), Value.int x1), ((2 : Nat), Value.int x2), ((3 : Nat), Value.int x5)] 4 ([] : List Value)
  refine g_iload_n (pc := 4) 3 dX2_isFoundWith_4 rfl rfl ?_
  refine g_aload_n (pc := 5) 0 dX2_isFoundWith_5 rfl rfl ?_
  refine g_get (pc := 6) 60 cN_60 rfl inlX2 0 (by decide) bw_6_10 rfl dX2_isFoundWith_6 ?_
  refine g_cVi (pc := 9) 12 (As := []) (fun r2 h2 => k_X4_houses__12 hI h2) wk_X4_houses wv_X4_houses bw_34_15 cN_12 rfl (by decide) (by decide) rfl rfl (Nat.le_of_ble_eq_true rfl) dX2_isFoundWith_9 (fun r7 s8 => ?_)
  refine g_icmp_ge (pc := 12) (tgt := 55) dX2_isFoundWith_12 (by decide) ?_ ?_
  · refine g_iconst (pc := 55) (v := 0) dX2_isFoundWith_55 (by decide) ?_
    exact g_zret1 (pc := 56) hRT (by decide) dX2_isFoundWith_56
  · refine g_aload_n (pc := 15) 0 dX2_isFoundWith_15 rfl rfl ?_
    refine g_iload_n (pc := 16) 3 dX2_isFoundWith_16 rfl rfl ?_
    refine g_cVi (pc := 17) 60 (As := [Value.int x5]) (fun r2 h2 => k_X2_fittingWidth__60 hI h2) wk_X2_fittingWidth wv_X2_fittingWidth bw_34_16 cN_60 rfl (by decide) (by decide) rfl rfl (Nat.le_of_ble_eq_true rfl) dX2_isFoundWith_17 (fun r9 s10 => ?_)
    refine g_istore (pc := 20) [1, 2, 3, 4, 0] (lv1 := [(0, Value.ref (a 60)), (1, Value.int x1), (2, Value.int x2), (3, Value.int x5), (4, Value.int r9)]) dX2_isFoundWith_20 (by decide) rfl ?_
    refine g_iload (pc := 22) 4 dX2_isFoundWith_22 rfl ?_
    refine g_bipush (pc := 24) (v := -4) dX2_isFoundWith_24 (by decide) ?_
    refine g_icmp_eq (pc := 26) (tgt := 49) dX2_isFoundWith_26 (by decide) ?_ ?_
    · refine g_iinc (pc := 49) [1, 2, 3, 0, 4] 3 (n1 := 1) (lv1 := fun x11 => [(0, Value.ref (a 60)), (1, Value.int x1), (2, Value.int x2), (3, Value.int x11), (4, Value.int r9)]) dX2_isFoundWith_49 rfl (by decide) (by decide) (fun _ => rfl) (fun x11 => ?_)
      show G _ Γ _ _ _ _ _ _ _ [(0, Value.ref (a 60)), (1, Value.int x1), (2, Value.int x2), (3, Value.int x11), (4, Value.int r9)] (49 + 3) _
      refine g_goto (pc := 52) (tgt := 4) dX2_isFoundWith_52 (by decide) ?_
      exact g_lv [0, 1, 2, 3] rfl (hk4 s10 _)
    · refine g_aload_n (pc := 29) 0 dX2_isFoundWith_29 rfl rfl ?_
      refine g_iconst (pc := 30) (v := 2) dX2_isFoundWith_30 (by decide) ?_
      refine g_bipush (pc := 31) (v := 10) dX2_isFoundWith_31 (by decide) ?_
      refine g_iload_n (pc := 33) 1 dX2_isFoundWith_33 rfl rfl ?_
      refine g_imul (pc := 34) dX2_isFoundWith_34 ?_
      refine g_iload_n (pc := 35) 2 dX2_isFoundWith_35 rfl rfl ?_
      refine g_iadd (pc := 36) dX2_isFoundWith_36 ?_
      refine g_bipush (pc := 37) (v := 10) dX2_isFoundWith_37 (by decide) ?_
      refine g_iload_n (pc := 39) 3 dX2_isFoundWith_39 rfl rfl ?_
      refine g_imul (pc := 40) dX2_isFoundWith_40 ?_
      refine g_iload (pc := 41) 4 dX2_isFoundWith_41 rfl ?_
      refine g_iadd (pc := 43) dX2_isFoundWith_43 ?_
      refine g_cVv (pc := 44) 60 (As := [Value.int (2 : Int32), Value.int (((10 : Int32) * x1) + x2), Value.int (((10 : Int32) * x5) + r9)]) (fun r2 h2 => k_X2_found__60 hI h2) wk_X2_found wv_X2_found bw_33_20 cN_60 rfl (by decide) (by decide) rfl rfl (Nat.le_of_ble_eq_true rfl) dX2_isFoundWith_44 (fun r12 s13 => ?_)
      refine g_iconst (pc := 47) (v := 1) dX2_isFoundWith_47 (by decide) ?_
      exact g_zret1 (pc := 48) hRT (by decide) dX2_isFoundWith_48
set_option maxRecDepth 100000 in
set_option maxHeartbeats 4000000 in
theorem k_X2_findByTwo__60 {l : Launch} {D : va_G} {a : Nat → Nat} {cI cS : ClassId} (hI : ∀ σ : St, va_D (AN a) (cN a cI cS σ)) {σ : St} {r : Int32 × St} (h : f_X2_findByTwo__60 σ = some r) : Kc (SN l D a cI cS) yX2_findByTwo cX2_findByTwo 3 none 5 [Value.ref (a 60)] σ r := by
  refine enter (own := RX2) (o := f_X2_findByTwo__60 σ) (plainFor_of_name (by decide +kernel)) rfl (Nat.le_of_ble_eq_true rfl) hI wk_X2_findByTwo.1 h (fun Γ hRT => ?_)
  show G _ Γ _ _ _ _ _ _ σ [((0 : Nat), Value.ref (a 60))] 0 []
  unfold f_X2_findByTwo__60
  refine g_iconst (pc := 0) (v := 0) dX2_findByTwo_0 (by decide) ?_
  refine g_istore_n (pc := 1) [1, 0] (lv1 := [(0, Value.ref (a 60)), (1, Value.int (0 : Int32))]) dX2_findByTwo_1 rfl (by decide) rfl ?_
  refine g_lq1 (pc := 2) (lf := fun x2 => [((0 : Nat), Value.ref (a 60)), ((1 : Nat), Value.int x2)]) (sf := fun x2 => ([] : List Value)) (fun k1 hk1 s3 x2 => ?_) 100000 σ _
  show G _ Γ _ _ _ _ _ _ s3 [((0 : Nat), Value.ref (a 60)), ((1 : Nat), Value.int x2)] 2 ([] : List Value)
  refine g_iload_n (pc := 2) 1 dX2_findByTwo_2 rfl rfl ?_
  refine g_aload_n (pc := 3) 0 dX2_findByTwo_3 rfl rfl ?_
  refine g_get (pc := 4) 60 cN_60 rfl inlX2 0 (by decide) bw_6_10 rfl dX2_findByTwo_4 ?_
  refine g_cVi (pc := 7) 12 (As := []) (fun r2 h2 => k_X4_houses__12 hI h2) wk_X4_houses wv_X4_houses bw_34_15 cN_12 rfl (by decide) (by decide) rfl rfl (Nat.le_of_ble_eq_true rfl) dX2_findByTwo_7 (fun r4 s5 => ?_)
  refine g_icmp_ge (pc := 10) (tgt := 83) dX2_findByTwo_10 (by decide) ?_ ?_
  · exact g_vret (pc := 83) hRT dX2_findByTwo_83
  · refine g_iconst (pc := 13) (v := 0) dX2_findByTwo_13 (by decide) ?_
    refine g_istore_n (pc := 14) [1, 2, 0] (lv1 := [(0, Value.ref (a 60)), (1, Value.int x2), (2, Value.int (0 : Int32))]) dX2_findByTwo_14 rfl (by decide) rfl ?_
    refine g_lq1 (pc := 15) (lf := fun x7 => [((0 : Nat), Value.ref (a 60)), ((1 : Nat), Value.int x2), ((2 : Nat), Value.int x7)]) (sf := fun x7 => ([] : List Value)) (fun k6 hk6 s8 x7 => ?_) 100000 s5 _
    show G _ Γ _ _ _ _ _ _ s8 [((0 : Nat), Value.ref (a 60)), ((1 : Nat), Value.int x2), ((2 : Nat), Value.int x7)] 15 ([] : List Value)
    refine g_iload_n (pc := 15) 2 dX2_findByTwo_15 rfl rfl ?_
    refine g_bipush (pc := 16) (v := 6) dX2_findByTwo_16 (by decide) ?_
    refine g_icmp_gt (pc := 18) (tgt := 61) dX2_findByTwo_18 (by decide) ?_ ?_
    · refine g_aload_n (pc := 61) 0 dX2_findByTwo_61 rfl rfl ?_
      refine g_get (pc := 62) 60 cN_60 rfl inlX2 2 (by decide) bw_6_12 rfl dX2_findByTwo_62 ?_
      refine g_iload_n (pc := 65) 1 dX2_findByTwo_65 rfl rfl ?_
      refine g_aload_n (pc := 66) 0 dX2_findByTwo_66 rfl rfl ?_
      refine g_get (pc := 67) 60 cN_60 rfl inlX2 1 (by decide) bw_6_11 rfl dX2_findByTwo_67 ?_
      refine g_iload_n (pc := 70) 1 dX2_findByTwo_70 rfl rfl ?_
      refine g_cVi (pc := 71) 19 (As := [Value.int x2]) (fun r2 h2 => k_X9_sashOf__19 hI h2) wk_X9_sashOf wv_X9_sashOf bw_35_1 cN_19 rfl (by decide) (by decide) rfl rfl (Nat.le_of_ble_eq_true rfl) dX2_findByTwo_71 (fun r9 s10 => ?_)
      refine g_cVv (pc := 74) 56 (As := [Value.int x2, Value.int r9]) (fun r2 h2 => k_X1_reopen__56 hI h2) wk_X1_reopen wv_X1_reopen bw_35_0 cN_56 rfl (by decide) (by decide) rfl rfl (Nat.le_of_ble_eq_true rfl) dX2_findByTwo_74 (fun r11 s12 => ?_)
      refine g_iinc (pc := 77) [1, 0, 2] 1 (n1 := 1) (lv1 := fun x13 => [(0, Value.ref (a 60)), (1, Value.int x13), (2, Value.int x7)]) dX2_findByTwo_77 rfl (by decide) (by decide) (fun _ => rfl) (fun x13 => ?_)
      show G _ Γ _ _ _ _ _ _ _ [(0, Value.ref (a 60)), (1, Value.int x13), (2, Value.int x7)] (77 + 3) _
      refine g_goto (pc := 80) (tgt := 2) dX2_findByTwo_80 (by decide) ?_
      exact g_lv [0, 1] rfl (hk1 s12 _)
    · refine g_jq0 (pc2 := 55) (lf := [((0 : Nat), Value.ref (a 60)), ((1 : Nat), Value.int x2), ((2 : Nat), Value.int x7)]) (sf := ([] : List Value)) (fun s15 => ?_) (fun k14 hk14 => ?_)
      · show G _ Γ _ _ _ _ _ _ s15 [((0 : Nat), Value.ref (a 60)), ((1 : Nat), Value.int x2), ((2 : Nat), Value.int x7)] 55 ([] : List Value)
        refine g_iinc (pc := 55) [1, 2, 0] 2 (n1 := 1) (lv1 := fun x16 => [(0, Value.ref (a 60)), (1, Value.int x2), (2, Value.int x16)]) dX2_findByTwo_55 rfl (by decide) (by decide) (fun _ => rfl) (fun x16 => ?_)
        show G _ Γ _ _ _ _ _ _ _ [(0, Value.ref (a 60)), (1, Value.int x2), (2, Value.int x16)] (55 + 3) _
        refine g_goto (pc := 58) (tgt := 15) dX2_findByTwo_58 (by decide) ?_
        exact hk6 s15 _
      · refine g_aload_n (pc := 21) 0 dX2_findByTwo_21 rfl rfl ?_
        refine g_get (pc := 22) 60 cN_60 rfl inlX2 2 (by decide) bw_6_12 rfl dX2_findByTwo_22 ?_
        refine g_iload_n (pc := 25) 1 dX2_findByTwo_25 rfl rfl ?_
        refine g_iload_n (pc := 26) 2 dX2_findByTwo_26 rfl rfl ?_
        refine g_cVz (pc := 27) 56 (As := [Value.int x2, Value.int x7]) (fun r2 h2 => k_X1_isAnother__56 hI h2) wk_X1_isAnother wv_X1_isAnother bw_34_20 cN_56 rfl (by decide) (by decide) rfl rfl (Nat.le_of_ble_eq_true rfl) dX2_findByTwo_27 (fun r17 s18 => ?_)
        refine g_if_ne (pc := 30) (tgt := 36) dX2_findByTwo_30 (by decide) ?_ ?_
        · refine g_aload_n (pc := 36) 0 dX2_findByTwo_36 rfl rfl ?_
          refine g_get (pc := 37) 60 cN_60 rfl inlX2 2 (by decide) bw_6_12 rfl dX2_findByTwo_37 ?_
          refine g_iload_n (pc := 40) 1 dX2_findByTwo_40 rfl rfl ?_
          refine g_iload_n (pc := 41) 2 dX2_findByTwo_41 rfl rfl ?_
          refine g_cVv (pc := 42) 56 (As := [Value.int x2, Value.int x7]) (fun r2 h2 => k_X1_reopen__56 hI h2) wk_X1_reopen wv_X1_reopen bw_35_0 cN_56 rfl (by decide) (by decide) rfl rfl (Nat.le_of_ble_eq_true rfl) dX2_findByTwo_42 (fun r19 s20 => ?_)
          refine g_aload_n (pc := 45) 0 dX2_findByTwo_45 rfl rfl ?_
          refine g_iload_n (pc := 46) 1 dX2_findByTwo_46 rfl rfl ?_
          refine g_iload_n (pc := 47) 2 dX2_findByTwo_47 rfl rfl ?_
          refine g_cVz (pc := 48) 60 (As := [Value.int x2, Value.int x7]) (fun r2 h2 => k_X2_isFoundWith__60 hI h2) wk_X2_isFoundWith wv_X2_isFoundWith bw_35_6 cN_60 rfl (by decide) (by decide) rfl rfl (Nat.le_of_ble_eq_true rfl) dX2_findByTwo_48 (fun r21 s22 => ?_)
          refine g_if_eq (pc := 51) (tgt := 55) dX2_findByTwo_51 (by decide) ?_ ?_
          · exact hk14 s22
          · exact g_vret (pc := 54) hRT dX2_findByTwo_54
        · refine g_goto (pc := 33) (tgt := 55) dX2_findByTwo_33 (by decide) ?_
          exact hk14 s18
set_option maxRecDepth 100000 in
set_option maxHeartbeats 4000000 in
theorem k_X10_openings__0 {l : Launch} {D : va_G} {a : Nat → Nat} {cI cS : ClassId} (hI : ∀ σ : St, va_D (AN a) (cN a cI cS σ)) {σ : St} {x1 x2 x3 x4 x5 : Int32} {r : Int32 × St} (h : f_X10_openings__0 σ x1 x2 x3 x4 x5 = some r) : Kc (SN l D a cI cS) yX10_openings cX10_openings 6 (some .int) 6 [Value.ref (a 0), Value.int x1, Value.int x2, Value.int x3, Value.int x4, Value.int x5] σ r := by
  refine enter (own := RX10) (o := f_X10_openings__0 σ x1 x2 x3 x4 x5) (plainFor_of_name (by decide +kernel)) rfl (Nat.le_of_ble_eq_true rfl) hI wk_X10_openings.1 h (fun Γ hRT => ?_)
  show G _ Γ _ _ _ _ _ _ σ [((0 : Nat), Value.ref (a 0)), ((1 : Nat), Value.int x1), ((2 : Nat), Value.int x2), ((3 : Nat), Value.int x3), ((4 : Nat), Value.int x4), ((5 : Nat), Value.int x5)] 0 []
  unfold f_X10_openings__0
  refine g_aload_n (pc := 0) 0 dX10_openings_0 rfl rfl ?_
  refine g_get (pc := 1) 0 cN_0 rfl inlX10 3 (by decide) bw_2_0 rfl dX10_openings_1 ?_
  refine g_iload_n (pc := 4) 1 dX10_openings_4 rfl rfl ?_
  refine g_cVz (pc := 5) 12 (As := [Value.int x1]) (fun r2 h2 => k_X4_hasNews__12 hI h2) wk_X4_hasNews wv_X4_hasNews bw_21_6 cN_12 rfl (by decide) (by decide) rfl rfl (Nat.le_of_ble_eq_true rfl) dX10_openings_5 (fun r6 s7 => ?_)
  refine g_if_eq (pc := 8) (tgt := 31) dX10_openings_8 (by decide) ?_ ?_
  · refine g_iconst (pc := 31) (v := -1) dX10_openings_31 (by decide) ?_
    exact g_iret (pc := 32) hRT dX10_openings_32
  · refine g_iload_n (pc := 11) 2 dX10_openings_11 rfl rfl ?_
    refine g_iconst (pc := 12) (v := 1) dX10_openings_12 (by decide) ?_
    refine g_bipush (pc := 13) (v := 12) dX10_openings_13 (by decide) ?_
    refine g_cSz (pc := 15) (As := [Value.int x2, Value.int (1 : Int32), Value.int (12 : Int32)]) (fun r2 h2 => k_X10_within hI h2) wk_X10_within ws_X10_within bw_12_4 (by decide) (by decide) rfl rfl (Nat.le_of_ble_eq_true rfl) dX10_openings_15 (fun r8 s9 => ?_)
    refine g_if_eq (pc := 18) (tgt := 31) dX10_openings_18 (by decide) ?_ ?_
    · refine g_iconst (pc := 31) (v := -1) dX10_openings_31 (by decide) ?_
      exact g_iret (pc := 32) hRT dX10_openings_32
    · refine g_iload (pc := 21) 5 dX10_openings_21 rfl ?_
      refine g_iconst (pc := 23) (v := 0) dX10_openings_23 (by decide) ?_
      refine g_iconst (pc := 24) (v := 2) dX10_openings_24 (by decide) ?_
      refine g_cSz (pc := 25) (As := [Value.int x5, Value.int (0 : Int32), Value.int (2 : Int32)]) (fun r2 h2 => k_X10_within hI h2) wk_X10_within ws_X10_within bw_12_4 (by decide) (by decide) rfl rfl (Nat.le_of_ble_eq_true rfl) dX10_openings_25 (fun r10 s11 => ?_)
      refine g_if_ne (pc := 28) (tgt := 33) dX10_openings_28 (by decide) ?_ ?_
      · refine g_aload_n (pc := 33) 0 dX10_openings_33 rfl rfl ?_
        refine g_get (pc := 34) 0 cN_0 rfl inlX10 3 (by decide) bw_2_0 rfl dX10_openings_34 ?_
        refine g_iload_n (pc := 37) 3 dX10_openings_37 rfl rfl ?_
        refine g_cVz (pc := 38) 12 (As := [Value.int x3]) (fun r2 h2 => k_X4_hasHouses__12 hI h2) wk_X4_hasHouses wv_X4_hasHouses bw_33_11 cN_12 rfl (by decide) (by decide) rfl rfl (Nat.le_of_ble_eq_true rfl) dX10_openings_38 (fun r12 s13 => ?_)
        refine g_if_eq (pc := 41) (tgt := 63) dX10_openings_41 (by decide) ?_ ?_
        · refine g_iconst (pc := 63) (v := -1) dX10_openings_63 (by decide) ?_
          exact g_iret (pc := 64) hRT dX10_openings_64
        · refine g_aload_n (pc := 44) 0 dX10_openings_44 rfl rfl ?_
          refine g_get (pc := 45) 0 cN_0 rfl inlX10 3 (by decide) bw_2_0 rfl dX10_openings_45 ?_
          refine g_iload (pc := 48) 4 dX10_openings_48 rfl ?_
          refine g_cVz (pc := 50) 12 (As := [Value.int x4]) (fun r2 h2 => k_X4_hasHouses__12 hI h2) wk_X4_hasHouses wv_X4_hasHouses bw_33_11 cN_12 rfl (by decide) (by decide) rfl rfl (Nat.le_of_ble_eq_true rfl) dX10_openings_50 (fun r14 s15 => ?_)
          refine g_if_eq (pc := 53) (tgt := 63) dX10_openings_53 (by decide) ?_ ?_
          · refine g_iconst (pc := 63) (v := -1) dX10_openings_63 (by decide) ?_
            exact g_iret (pc := 64) hRT dX10_openings_64
          · refine g_iload_n (pc := 56) 3 dX10_openings_56 rfl rfl ?_
            refine g_iload (pc := 57) 4 dX10_openings_57 rfl ?_
            refine g_iand (pc := 59) dX10_openings_59 ?_
            refine g_if_eq (pc := 60) (tgt := 65) dX10_openings_60 (by decide) ?_ ?_
            · refine g_jq0 (pc2 := 104) (lf := [((0 : Nat), Value.ref (a 0)), ((5 : Nat), Value.int x5)]) (sf := ([] : List Value)) (fun s17 => ?_) (fun k16 hk16 => ?_)
              · show G _ Γ _ _ _ _ _ _ s17 [((0 : Nat), Value.ref (a 0)), ((5 : Nat), Value.int x5)] 104 ([] : List Value)
                refine g_aload_n (pc := 104) 0 dX10_openings_104 rfl rfl ?_
                refine g_get (pc := 105) 0 cN_0 rfl inlX10 9 (by decide) bw_2_21 rfl dX10_openings_105 ?_
                refine g_iload (pc := 108) 1 dX10_openings_108 rfl ?_
                refine g_cVi (pc := 110) 60 (As := [Value.int x5]) (fun r2 h2 => k_X2_answer__60 hI h2) wk_X2_answer wv_X2_answer bw_35_10 cN_60 rfl (by decide) (by decide) rfl rfl (Nat.le_of_ble_eq_true rfl) dX10_openings_110 (fun r18 s19 => ?_)
                exact g_iret (pc := 113) hRT dX10_openings_113
              · refine g_aload_n (pc := 65) 0 dX10_openings_65 rfl rfl ?_
                refine g_get (pc := 66) 0 cN_0 rfl inlX10 9 (by decide) bw_2_21 rfl dX10_openings_66 ?_
                refine g_iload_n (pc := 69) 1 dX10_openings_69 rfl rfl ?_
                refine g_iload_n (pc := 70) 2 dX10_openings_70 rfl rfl ?_
                refine g_iload_n (pc := 71) 3 dX10_openings_71 rfl rfl ?_
                refine g_iload (pc := 72) 4 dX10_openings_72 rfl ?_
                refine g_cVv (pc := 74) 60 (As := [Value.int x1, Value.int x2, Value.int x3, Value.int x4]) (fun r2 h2 => k_X2_pose__60 hI h2) wk_X2_pose wv_X2_pose bw_33_16 cN_60 rfl (by decide) (by decide) rfl rfl (Nat.le_of_ble_eq_true rfl) dX10_openings_74 (fun r20 s21 => ?_)
                refine g_aload_n (pc := 77) 0 dX10_openings_77 rfl rfl ?_
                refine g_get (pc := 78) 0 cN_0 rfl inlX10 9 (by decide) bw_2_21 rfl dX10_openings_78 ?_
                refine g_cVz (pc := 81) 60 (As := []) (fun r2 h2 => k_X2_isFoundByNone__60 hI h2) wk_X2_isFoundByNone wv_X2_isFoundByNone bw_34_1 cN_60 rfl (by decide) (by decide) rfl rfl (Nat.le_of_ble_eq_true rfl) dX10_openings_81 (fun r22 s23 => ?_)
                refine g_if_ne (pc := 84) (tgt := 104) dX10_openings_84 (by decide) ?_ ?_
                · exact g_lv [0, 5] rfl (hk16 s23)
                · refine g_aload_n (pc := 87) 0 dX10_openings_87 rfl rfl ?_
                  refine g_get (pc := 88) 0 cN_0 rfl inlX10 9 (by decide) bw_2_21 rfl dX10_openings_88 ?_
                  refine g_cVz (pc := 91) 60 (As := []) (fun r2 h2 => k_X2_isFoundByOne__60 hI h2) wk_X2_isFoundByOne wv_X2_isFoundByOne bw_34_11 cN_60 rfl (by decide) (by decide) rfl rfl (Nat.le_of_ble_eq_true rfl) dX10_openings_91 (fun r24 s25 => ?_)
                  refine g_if_ne (pc := 94) (tgt := 104) dX10_openings_94 (by decide) ?_ ?_
                  · exact g_lv [0, 5] rfl (hk16 s25)
                  · refine g_aload_n (pc := 97) 0 dX10_openings_97 rfl rfl ?_
                    refine g_get (pc := 98) 0 cN_0 rfl inlX10 9 (by decide) bw_2_21 rfl dX10_openings_98 ?_
                    refine g_cVv (pc := 101) 60 (As := []) (fun r2 h2 => k_X2_findByTwo__60 hI h2) wk_X2_findByTwo wv_X2_findByTwo bw_35_2 cN_60 rfl (by decide) (by decide) rfl rfl (Nat.le_of_ble_eq_true rfl) dX10_openings_101 (fun r26 s27 => ?_)
                    exact g_lv [0, 5] rfl (hk16 s27)
            · refine g_iconst (pc := 63) (v := -1) dX10_openings_63 (by decide) ?_
              exact g_iret (pc := 64) hRT dX10_openings_64
      · refine g_iconst (pc := 31) (v := -1) dX10_openings_31 (by decide) ?_
        exact g_iret (pc := 32) hRT dX10_openings_32
set_option maxRecDepth 100000 in
set_option maxHeartbeats 4000000 in
theorem k_X3_burden__59 {l : Launch} {D : va_G} {a : Nat → Nat} {cI cS : ClassId} (hI : ∀ σ : St, va_D (AN a) (cN a cI cS σ)) {σ : St} {x1 x2 : Int32} {r : Int32 × St} (h : f_X3_burden__59 σ x1 x2 = some r) : Kc (SN l D a cI cS) yX3_burden cX3_burden 5 (some .int) 4 [Value.ref (a 59), Value.int x1, Value.int x2] σ r := by
  refine enter (own := RX3) (o := f_X3_burden__59 σ x1 x2) (plainFor_of_name (by decide +kernel)) rfl (Nat.le_of_ble_eq_true rfl) hI wk_X3_burden.1 h (fun Γ hRT => ?_)
  show G _ Γ _ _ _ _ _ _ σ [((0 : Nat), Value.ref (a 59)), ((1 : Nat), Value.int x1), ((2 : Nat), Value.int x2)] 0 []
  unfold f_X3_burden__59
  refine g_iconst (pc := 0) (v := 0) dX3_burden_0 (by decide) ?_
  refine g_istore_n (pc := 1) [1, 2, 3, 0] (lv1 := [(0, Value.ref (a 59)), (1, Value.int x1), (2, Value.int x2), (3, Value.int (0 : Int32))]) dX3_burden_1 rfl (by decide) rfl ?_
  refine g_iconst (pc := 2) (v := 0) dX3_burden_2 (by decide) ?_
  refine g_istore (pc := 3) [1, 2, 3, 4, 0] (lv1 := [(0, Value.ref (a 59)), (1, Value.int x1), (2, Value.int x2), (3, Value.int (0 : Int32)), (4, Value.int (0 : Int32))]) dX3_burden_3 (by decide) rfl ?_
  refine g_lq2 (pc := 5) (lf := fun x4 x5 => [((0 : Nat), Value.ref (a 59)), ((1 : Nat), Value.int x1), ((2 : Nat), Value.int x2), ((3 : Nat), Value.int x4), ((4 : Nat), Value.int x5)]) (sf := fun x4 x5 => ([] : List Value)) (fun k3 hk3 s6 x4 x5 => ?_) 100000 σ _ _
  show G _ Γ _ _ _ _ _ _ s6 [((0 : Nat), Value.ref (a 59)), ((1 : Nat), Value.int x1), ((2 : Nat), Value.int x2), ((3 : Nat), Value.int x4), ((4 : Nat), Value.int x5)] 5 ([] : List Value)
  refine g_iload (pc := 5) 4 dX3_burden_5 rfl ?_
  refine g_aload_n (pc := 7) 0 dX3_burden_7 rfl rfl ?_
  refine g_get (pc := 8) 59 cN_59 rfl inlX3 0 (by decide) bw_5_21 rfl dX3_burden_8 ?_
  refine g_cVi (pc := 11) 12 (As := []) (fun r2 h2 => k_X4_newsTold__12 hI h2) wk_X4_newsTold wv_X4_newsTold bw_30_6 cN_12 rfl (by decide) (by decide) rfl rfl (Nat.le_of_ble_eq_true rfl) dX3_burden_11 (fun r7 s8 => ?_)
  refine g_icmp_ge (pc := 14) (tgt := 66) dX3_burden_14 (by decide) ?_ ?_
  · refine g_iload_n (pc := 66) 3 dX3_burden_66 rfl rfl ?_
    exact g_iret (pc := 67) hRT dX3_burden_67
  · refine g_jq1 (pc2 := 60) (lf := fun x10 => [((0 : Nat), Value.ref (a 59)), ((1 : Nat), Value.int x1), ((2 : Nat), Value.int x2), ((3 : Nat), Value.int x10), ((4 : Nat), Value.int x5)]) (sf := fun x10 => ([] : List Value)) (fun s11 x10 => ?_) (fun k9 hk9 => ?_)
    · show G _ Γ _ _ _ _ _ _ s11 [((0 : Nat), Value.ref (a 59)), ((1 : Nat), Value.int x1), ((2 : Nat), Value.int x2), ((3 : Nat), Value.int x10), ((4 : Nat), Value.int x5)] 60 ([] : List Value)
      refine g_iinc (pc := 60) [1, 2, 3, 4, 0] 4 (n1 := 1) (lv1 := fun x12 => [(0, Value.ref (a 59)), (1, Value.int x1), (2, Value.int x2), (3, Value.int x10), (4, Value.int x12)]) dX3_burden_60 rfl (by decide) (by decide) (fun _ => rfl) (fun x12 => ?_)
      show G _ Γ _ _ _ _ _ _ _ [(0, Value.ref (a 59)), (1, Value.int x1), (2, Value.int x2), (3, Value.int x10), (4, Value.int x12)] (60 + 3) _
      refine g_goto (pc := 63) (tgt := 5) dX3_burden_63 (by decide) ?_
      exact hk3 s11 _ _
    · refine g_aload_n (pc := 17) 0 dX3_burden_17 rfl rfl ?_
      refine g_get (pc := 18) 59 cN_59 rfl inlX3 2 (by decide) bw_5_23 rfl dX3_burden_18 ?_
      refine g_iload (pc := 21) 4 dX3_burden_21 rfl ?_
      refine g_cVv (pc := 23) 56 (As := [Value.int x5]) (fun r2 h2 => k_X1_pick__56 hI h2) wk_X1_pick wv_X1_pick bw_30_7 cN_56 rfl (by decide) (by decide) rfl rfl (Nat.le_of_ble_eq_true rfl) dX3_burden_23 (fun r13 s14 => ?_)
      refine g_aload_n (pc := 26) 0 dX3_burden_26 rfl rfl ?_
      refine g_get (pc := 27) 59 cN_59 rfl inlX3 2 (by decide) bw_5_23 rfl dX3_burden_27 ?_
      refine g_iload_n (pc := 30) 1 dX3_burden_30 rfl rfl ?_
      refine g_iload_n (pc := 31) 2 dX3_burden_31 rfl rfl ?_
      refine g_cVv (pc := 32) 56 (As := [Value.int x1, Value.int x2]) (fun r2 h2 => k_X1_reopen__56 hI h2) wk_X1_reopen wv_X1_reopen bw_36_16 cN_56 rfl (by decide) (by decide) rfl rfl (Nat.le_of_ble_eq_true rfl) dX3_burden_32 (fun r15 s16 => ?_)
      refine g_aload_n (pc := 35) 0 dX3_burden_35 rfl rfl ?_
      refine g_get (pc := 36) 59 cN_59 rfl inlX3 2 (by decide) bw_5_23 rfl dX3_burden_36 ?_
      refine g_iload_n (pc := 39) 1 dX3_burden_39 rfl rfl ?_
      refine g_bipush (pc := 40) (v := 48) dX3_burden_40 (by decide) ?_
      refine g_cVz (pc := 42) 56 (As := [Value.int x1, Value.int (48 : Int32)]) (fun r2 h2 => k_X1_hears__56 hI h2) wk_X1_hears wv_X1_hears bw_30_8 cN_56 rfl (by decide) (by decide) rfl rfl (Nat.le_of_ble_eq_true rfl) dX3_burden_42 (fun r17 s18 => ?_)
      refine g_if_eq (pc := 45) (tgt := 60) dX3_burden_45 (by decide) ?_ ?_
      · exact hk9 s18 _
      · refine g_iload_n (pc := 48) 3 dX3_burden_48 rfl rfl ?_
        refine g_aload_n (pc := 49) 0 dX3_burden_49 rfl rfl ?_
        refine g_get (pc := 50) 59 cN_59 rfl inlX3 0 (by decide) bw_5_21 rfl dX3_burden_50 ?_
        refine g_iload (pc := 53) 4 dX3_burden_53 rfl ?_
        refine g_cVi (pc := 55) 12 (As := [Value.int x5]) (fun r2 h2 => k_X4_weightOf__12 hI h2) wk_X4_weightOf wv_X4_weightOf bw_36_17 cN_12 rfl (by decide) (by decide) rfl rfl (Nat.le_of_ble_eq_true rfl) dX3_burden_55 (fun r19 s20 => ?_)
        refine g_iadd (pc := 58) dX3_burden_58 ?_
        refine g_nm (fun x21 => ?_)
        refine g_istore_n (pc := 59) [1, 2, 3, 0, 4] (lv1 := [(0, Value.ref (a 59)), (1, Value.int x1), (2, Value.int x2), (3, Value.int x21), (4, Value.int x5)]) dX3_burden_59 rfl (by decide) rfl ?_
        exact hk9 s20 _
