/-! the small constructors -/
def rB (q : Nat → Nat) (n : Nat) : Nat → Option Nat := fun k => if k < n then some (q (1 + 3 * k)) else none
theorem chain8 {a0 a1 a2 a3 a4 a5 a6 a7 : Nat} {g : Nat → Option Nat} (h0 : g 0 = some a0) (h1 : g 1 = some a1) (h2 : g 2 = some a2) (h3 : g 3 = some a3) (h4 : g 4 = some a4) (h5 : g 5 = some a5) (h6 : g 6 = some a6) (h7 : g 7 = some a7) (hn : ∀ k, 8 ≤ k → g k = none) : (va_up (va_up (va_up (va_up (va_up (va_up (va_up (va_up (fun _ => none) 0 (some a0)) 1 (some a1)) 2 (some a2)) 3 (some a3)) 4 (some a4)) 5 (some a5)) 6 (some a6)) 7 (some a7)) = g := by
  funext k
  simp only [va_up]
  by_cases e7 : k = 7
  · subst e7; simp [h7]
  by_cases e6 : k = 6
  · subst e6; simp [h6]
  by_cases e5 : k = 5
  · subst e5; simp [h5]
  by_cases e4 : k = 4
  · subst e4; simp [h4]
  by_cases e3 : k = 3
  · subst e3; simp [h3]
  by_cases e2 : k = 2
  · subst e2; simp [h2]
  by_cases e1 : k = 1
  · subst e1; simp [h1]
  by_cases e0 : k = 0
  · subst e0; simp [h0]
  rw [if_neg e7, if_neg e6, if_neg e5, if_neg e4, if_neg e3, if_neg e2, if_neg e1, if_neg e0, hn k (by omega)]
theorem chain2 {a0 a1 : Nat} {g : Nat → Option Nat} (h0 : g 0 = some a0) (h1 : g 1 = some a1) (hn : ∀ k, 2 ≤ k → g k = none) : (va_up (va_up (fun _ => none) 0 (some a0)) 1 (some a1)) = g := by
  funext k
  simp only [va_up]
  by_cases e1 : k = 1
  · subst e1; simp [h1]
  by_cases e0 : k = 0
  · subst e0; simp [h0]
  rw [if_neg e1, if_neg e0, hn k (by omega)]
set_option maxRecDepth 100000 in
set_option maxHeartbeats 4000000 in
theorem ki_X7_init {l : Launch} {D : va_G} {cI cS : ClassId} (h0 : Nat) : Ki l D cI cS yX7_init cX7_init 1 1 1 200 [Value.ref h0] [(h0, .inr (7, [.null, .int 0]))] (fun q => [(h0, .inr (7, [.ref (q 0), .int 0])), ((q 0), .inl (cI, 200, .inl (fun _ => 0)))]) := by
  refine enterI (own := RX7) (plainFor_of_name (by decide +kernel)) rfl rfl (Nat.le_of_ble_eq_true rfl) (fun Γ A => ?_)
  show GI _ _ _ _ _ _ _ _ _ _ _ _ _ _ _ _ [(0, Value.ref h0)] 0 []
  refine i_aload_n (pc := 0) 0 dX7_init_0 rfl rfl ?_
  refine i_obj (pc := 1) bw_3_8 bw_1_10 bw_1_11 dX7_init_1 (by decide) (Nat.le_of_ble_eq_true rfl) ?_
  refine i_aload_n (pc := 4) 0 dX7_init_4 rfl rfl ?_
  refine i_sipush (pc := 5) (v := 200) dX7_init_5 (by decide) ?_
  refine i_newa (pc := 8) (N := 200) bw_3_9 (by decide) (by decide) (by decide) (by decide) (by decide) dX7_init_8 (fun q1 => ?_)
  show GI _ _ _ _ _ _ _ _ _ _ _ _ _ [(h0, .inr (7, [.null, .int 0])), (q1, .inl (cI, 200, .inl (fun _ => 0)))] _ _ _ _ _
  refine i_putF (pc := 10) 0 (ty := .array .int) (ws1 := [(h0, .inr (7, [.ref q1, .int 0])), (q1, .inl (cI, 200, .inl (fun _ => 0)))]) rfl rfl inlX7 tyX7_ok nmX7 0 (by decide) bw_3_10 rfl rfl (by decide +kernel) rfl rfl (Nat.le_of_ble_eq_true rfl) rfl dX7_init_10 ?_
  refine i_aload_n (pc := 13) 0 dX7_init_13 rfl rfl ?_
  refine i_iconst (pc := 14) (v := 0) dX7_init_14 (by decide) ?_
  refine i_put (pc := 15) 0 (ty := .int) (ws1 := [(h0, .inr (7, [.ref q1, .int 0])), (q1, .inl (cI, 200, .inl (fun _ => 0)))]) rfl rfl inlX7 tyX7_ok nmX7 1 (by decide) bw_3_11 rfl (by decide +kernel) rfl rfl (Nat.le_of_ble_eq_true rfl) rfl dX7_init_15 ?_
  exact i_ret (pc := 18) (fun j => ([q1] : List Nat).getD j 0) rfl (by decide) (by decide) dX7_init_18
set_option maxRecDepth 100000 in
set_option maxHeartbeats 4000000 in
theorem ki_X6_init {l : Launch} {D : va_G} {cI cS : ClassId} (h0 : Nat) (h1 : Nat) : Ki l D cI cS yX6_init cX6_init 2 1 1 3 [Value.ref h0, Value.ref h1] [(h0, .inr (6, [.null, .null, .int 0]))] (fun q => [(h0, .inr (6, [.ref h1, .ref (q 0), .int 0])), ((q 0), .inl (cI, 3, .inl (fun _ => 0)))]) := by
  refine enterI (own := RX6) (plainFor_of_name (by decide +kernel)) rfl rfl (Nat.le_of_ble_eq_true rfl) (fun Γ A => ?_)
  show GI _ _ _ _ _ _ _ _ _ _ _ _ _ _ _ _ [(0, Value.ref h0), (1, Value.ref h1)] 0 []
  refine i_aload_n (pc := 0) 0 dX6_init_0 rfl rfl ?_
  refine i_obj (pc := 1) bw_3_15 bw_1_10 bw_1_11 dX6_init_1 (by decide) (Nat.le_of_ble_eq_true rfl) ?_
  refine i_aload_n (pc := 4) 0 dX6_init_4 rfl rfl ?_
  refine i_iconst (pc := 5) (v := 3) dX6_init_5 (by decide) ?_
  refine i_newa (pc := 6) (N := 3) bw_3_9 (by decide) (by decide) (by decide) (by decide) (by decide) dX6_init_6 (fun q1 => ?_)
  show GI _ _ _ _ _ _ _ _ _ _ _ _ _ [(h0, .inr (6, [.null, .null, .int 0])), (q1, .inl (cI, 3, .inl (fun _ => 0)))] _ _ _ _ _
  refine i_putF (pc := 8) 0 (ty := .array .int) (ws1 := [(h0, .inr (6, [.null, .ref q1, .int 0])), (q1, .inl (cI, 3, .inl (fun _ => 0)))]) rfl rfl inlX6 tyX6_ok nmX6 1 (by decide) bw_3_16 rfl rfl (by decide +kernel) rfl rfl (Nat.le_of_ble_eq_true rfl) rfl dX6_init_8 ?_
  refine i_aload_n (pc := 11) 0 dX6_init_11 rfl rfl ?_
  refine i_iconst (pc := 12) (v := 0) dX6_init_12 (by decide) ?_
  refine i_put (pc := 13) 0 (ty := .int) (ws1 := [(h0, .inr (6, [.null, .ref q1, .int 0])), (q1, .inl (cI, 3, .inl (fun _ => 0)))]) rfl rfl inlX6 tyX6_ok nmX6 2 (by decide) bw_3_17 rfl (by decide +kernel) rfl rfl (Nat.le_of_ble_eq_true rfl) rfl dX6_init_13 ?_
  refine i_aload_n (pc := 16) 0 dX6_init_16 rfl rfl ?_
  refine i_aload_n (pc := 17) 1 dX6_init_17 rfl rfl ?_
  refine i_putF (pc := 18) 0 (ty := .object "NewsDraughts$Sheet") (ws1 := [(h0, .inr (6, [.ref h1, .ref q1, .int 0])), (q1, .inl (cI, 3, .inl (fun _ => 0)))]) rfl rfl inlX6 tyX6_ok nmX6 0 (by decide) bw_3_18 rfl rfl (by decide +kernel) rfl rfl (Nat.le_of_ble_eq_true rfl) rfl dX6_init_18 ?_
  exact i_ret (pc := 21) (fun j => ([q1] : List Nat).getD j 0) rfl (by decide) (by decide) dX6_init_21
set_option maxRecDepth 100000 in
set_option maxHeartbeats 4000000 in
theorem ki_X4_init {l : Launch} {D : va_G} {cI cS : ClassId} (h0 : Nat) : Ki l D cI cS yX4_init cX4_init 1 1 6 55 [Value.ref h0] [(h0, .inr (4, [.null, .null, .null, .null, .null, .null, .int 0, .int 0, .int 0, .int 0, .int 0, .int 0, .int 0]))] (fun q => [(h0, .inr (4, [.ref (q 0), .ref (q 1), .ref (q 2), .ref (q 3), .ref (q 4), .ref (q 5), .int 0, .int 0, .int 0, .int 0, .int 0, .int 0, .int 1])), ((q 0), .inl (cI, 16, .inl (fun _ => 0))), ((q 1), .inl (cI, 16, .inl (fun _ => 0))), ((q 2), .inl (cI, 5, .inl (fun _ => 0))), ((q 3), .inl (cI, 5, .inl (fun _ => 0))), ((q 4), .inl (cI, 5, .inl (fun _ => 0))), ((q 5), .inl (cI, 8, .inl (fun _ => 0)))]) := by
  refine enterI (own := RX4) (plainFor_of_name (by decide +kernel)) rfl rfl (Nat.le_of_ble_eq_true rfl) (fun Γ A => ?_)
  show GI _ _ _ _ _ _ _ _ _ _ _ _ _ _ _ _ [(0, Value.ref h0)] 0 []
  refine i_aload_n (pc := 0) 0 dX4_init_0 rfl rfl ?_
  refine i_obj (pc := 1) bw_3_21 bw_1_10 bw_1_11 dX4_init_1 (by decide) (Nat.le_of_ble_eq_true rfl) ?_
  refine i_aload_n (pc := 4) 0 dX4_init_4 rfl rfl ?_
  refine i_bipush (pc := 5) (v := 16) dX4_init_5 (by decide) ?_
  refine i_newa (pc := 7) (N := 16) bw_3_9 (by decide) (by decide) (by decide) (by decide) (by decide) dX4_init_7 (fun q1 => ?_)
  show GI _ _ _ _ _ _ _ _ _ _ _ _ _ [(h0, .inr (4, [.null, .null, .null, .null, .null, .null, .int 0, .int 0, .int 0, .int 0, .int 0, .int 0, .int 0])), (q1, .inl (cI, 16, .inl (fun _ => 0)))] _ _ _ _ _
  refine i_putF (pc := 9) 0 (ty := .array .int) (ws1 := [(h0, .inr (4, [.ref q1, .null, .null, .null, .null, .null, .int 0, .int 0, .int 0, .int 0, .int 0, .int 0, .int 0])), (q1, .inl (cI, 16, .inl (fun _ => 0)))]) rfl rfl inlX4 tyX4_ok nmX4 0 (by decide) bw_3_22 rfl rfl (by decide +kernel) rfl rfl (Nat.le_of_ble_eq_true rfl) rfl dX4_init_9 ?_
  refine i_aload_n (pc := 12) 0 dX4_init_12 rfl rfl ?_
  refine i_bipush (pc := 13) (v := 16) dX4_init_13 (by decide) ?_
  refine i_newa (pc := 15) (N := 16) bw_3_9 (by decide) (by decide) (by decide) (by decide) (by decide) dX4_init_15 (fun q2 => ?_)
  show GI _ _ _ _ _ _ _ _ _ _ _ _ _ [(h0, .inr (4, [.ref q1, .null, .null, .null, .null, .null, .int 0, .int 0, .int 0, .int 0, .int 0, .int 0, .int 0])), (q1, .inl (cI, 16, .inl (fun _ => 0))), (q2, .inl (cI, 16, .inl (fun _ => 0)))] _ _ _ _ _
  refine i_putF (pc := 17) 0 (ty := .array .int) (ws1 := [(h0, .inr (4, [.ref q1, .ref q2, .null, .null, .null, .null, .int 0, .int 0, .int 0, .int 0, .int 0, .int 0, .int 0])), (q1, .inl (cI, 16, .inl (fun _ => 0))), (q2, .inl (cI, 16, .inl (fun _ => 0)))]) rfl rfl inlX4 tyX4_ok nmX4 1 (by decide) bw_3_23 rfl rfl (by decide +kernel) rfl rfl (Nat.le_of_ble_eq_true rfl) rfl dX4_init_17 ?_
  refine i_aload_n (pc := 20) 0 dX4_init_20 rfl rfl ?_
  refine i_iconst (pc := 21) (v := 5) dX4_init_21 (by decide) ?_
  refine i_newa (pc := 22) (N := 5) bw_3_9 (by decide) (by decide) (by decide) (by decide) (by decide) dX4_init_22 (fun q3 => ?_)
  show GI _ _ _ _ _ _ _ _ _ _ _ _ _ [(h0, .inr (4, [.ref q1, .ref q2, .null, .null, .null, .null, .int 0, .int 0, .int 0, .int 0, .int 0, .int 0, .int 0])), (q1, .inl (cI, 16, .inl (fun _ => 0))), (q2, .inl (cI, 16, .inl (fun _ => 0))), (q3, .inl (cI, 5, .inl (fun _ => 0)))] _ _ _ _ _
  refine i_putF (pc := 24) 0 (ty := .array .int) (ws1 := [(h0, .inr (4, [.ref q1, .ref q2, .ref q3, .null, .null, .null, .int 0, .int 0, .int 0, .int 0, .int 0, .int 0, .int 0])), (q1, .inl (cI, 16, .inl (fun _ => 0))), (q2, .inl (cI, 16, .inl (fun _ => 0))), (q3, .inl (cI, 5, .inl (fun _ => 0)))]) rfl rfl inlX4 tyX4_ok nmX4 2 (by decide) bw_4_0 rfl rfl (by decide +kernel) rfl rfl (Nat.le_of_ble_eq_true rfl) rfl dX4_init_24 ?_
  refine i_aload_n (pc := 27) 0 dX4_init_27 rfl rfl ?_
  refine i_iconst (pc := 28) (v := 5) dX4_init_28 (by decide) ?_
  refine i_newa (pc := 29) (N := 5) bw_3_9 (by decide) (by decide) (by decide) (by decide) (by decide) dX4_init_29 (fun q4 => ?_)
  show GI _ _ _ _ _ _ _ _ _ _ _ _ _ [(h0, .inr (4, [.ref q1, .ref q2, .ref q3, .null, .null, .null, .int 0, .int 0, .int 0, .int 0, .int 0, .int 0, .int 0])), (q1, .inl (cI, 16, .inl (fun _ => 0))), (q2, .inl (cI, 16, .inl (fun _ => 0))), (q3, .inl (cI, 5, .inl (fun _ => 0))), (q4, .inl (cI, 5, .inl (fun _ => 0)))] _ _ _ _ _
  refine i_putF (pc := 31) 0 (ty := .array .int) (ws1 := [(h0, .inr (4, [.ref q1, .ref q2, .ref q3, .ref q4, .null, .null, .int 0, .int 0, .int 0, .int 0, .int 0, .int 0, .int 0])), (q1, .inl (cI, 16, .inl (fun _ => 0))), (q2, .inl (cI, 16, .inl (fun _ => 0))), (q3, .inl (cI, 5, .inl (fun _ => 0))), (q4, .inl (cI, 5, .inl (fun _ => 0)))]) rfl rfl inlX4 tyX4_ok nmX4 3 (by decide) bw_4_1 rfl rfl (by decide +kernel) rfl rfl (Nat.le_of_ble_eq_true rfl) rfl dX4_init_31 ?_
  refine i_aload_n (pc := 34) 0 dX4_init_34 rfl rfl ?_
  refine i_iconst (pc := 35) (v := 5) dX4_init_35 (by decide) ?_
  refine i_newa (pc := 36) (N := 5) bw_3_9 (by decide) (by decide) (by decide) (by decide) (by decide) dX4_init_36 (fun q5 => ?_)
  show GI _ _ _ _ _ _ _ _ _ _ _ _ _ [(h0, .inr (4, [.ref q1, .ref q2, .ref q3, .ref q4, .null, .null, .int 0, .int 0, .int 0, .int 0, .int 0, .int 0, .int 0])), (q1, .inl (cI, 16, .inl (fun _ => 0))), (q2, .inl (cI, 16, .inl (fun _ => 0))), (q3, .inl (cI, 5, .inl (fun _ => 0))), (q4, .inl (cI, 5, .inl (fun _ => 0))), (q5, .inl (cI, 5, .inl (fun _ => 0)))] _ _ _ _ _
  refine i_putF (pc := 38) 0 (ty := .array .int) (ws1 := [(h0, .inr (4, [.ref q1, .ref q2, .ref q3, .ref q4, .ref q5, .null, .int 0, .int 0, .int 0, .int 0, .int 0, .int 0, .int 0])), (q1, .inl (cI, 16, .inl (fun _ => 0))), (q2, .inl (cI, 16, .inl (fun _ => 0))), (q3, .inl (cI, 5, .inl (fun _ => 0))), (q4, .inl (cI, 5, .inl (fun _ => 0))), (q5, .inl (cI, 5, .inl (fun _ => 0)))]) rfl rfl inlX4 tyX4_ok nmX4 4 (by decide) bw_4_2 rfl rfl (by decide +kernel) rfl rfl (Nat.le_of_ble_eq_true rfl) rfl dX4_init_38 ?_
  refine i_aload_n (pc := 41) 0 dX4_init_41 rfl rfl ?_
  refine i_bipush (pc := 42) (v := 8) dX4_init_42 (by decide) ?_
  refine i_newa (pc := 44) (N := 8) bw_3_9 (by decide) (by decide) (by decide) (by decide) (by decide) dX4_init_44 (fun q6 => ?_)
  show GI _ _ _ _ _ _ _ _ _ _ _ _ _ [(h0, .inr (4, [.ref q1, .ref q2, .ref q3, .ref q4, .ref q5, .null, .int 0, .int 0, .int 0, .int 0, .int 0, .int 0, .int 0])), (q1, .inl (cI, 16, .inl (fun _ => 0))), (q2, .inl (cI, 16, .inl (fun _ => 0))), (q3, .inl (cI, 5, .inl (fun _ => 0))), (q4, .inl (cI, 5, .inl (fun _ => 0))), (q5, .inl (cI, 5, .inl (fun _ => 0))), (q6, .inl (cI, 8, .inl (fun _ => 0)))] _ _ _ _ _
  refine i_putF (pc := 46) 0 (ty := .array .int) (ws1 := [(h0, .inr (4, [.ref q1, .ref q2, .ref q3, .ref q4, .ref q5, .ref q6, .int 0, .int 0, .int 0, .int 0, .int 0, .int 0, .int 0])), (q1, .inl (cI, 16, .inl (fun _ => 0))), (q2, .inl (cI, 16, .inl (fun _ => 0))), (q3, .inl (cI, 5, .inl (fun _ => 0))), (q4, .inl (cI, 5, .inl (fun _ => 0))), (q5, .inl (cI, 5, .inl (fun _ => 0))), (q6, .inl (cI, 8, .inl (fun _ => 0)))]) rfl rfl inlX4 tyX4_ok nmX4 5 (by decide) bw_4_3 rfl rfl (by decide +kernel) rfl rfl (Nat.le_of_ble_eq_true rfl) rfl dX4_init_46 ?_
  refine i_aload_n (pc := 49) 0 dX4_init_49 rfl rfl ?_
  refine i_iconst (pc := 50) (v := 0) dX4_init_50 (by decide) ?_
  refine i_put (pc := 51) 0 (ty := .int) (ws1 := [(h0, .inr (4, [.ref q1, .ref q2, .ref q3, .ref q4, .ref q5, .ref q6, .int 0, .int 0, .int 0, .int 0, .int 0, .int 0, .int 0])), (q1, .inl (cI, 16, .inl (fun _ => 0))), (q2, .inl (cI, 16, .inl (fun _ => 0))), (q3, .inl (cI, 5, .inl (fun _ => 0))), (q4, .inl (cI, 5, .inl (fun _ => 0))), (q5, .inl (cI, 5, .inl (fun _ => 0))), (q6, .inl (cI, 8, .inl (fun _ => 0)))]) rfl rfl inlX4 tyX4_ok nmX4 6 (by decide) bw_4_4 rfl (by decide +kernel) rfl rfl (Nat.le_of_ble_eq_true rfl) rfl dX4_init_51 ?_
  refine i_aload_n (pc := 54) 0 dX4_init_54 rfl rfl ?_
  refine i_iconst (pc := 55) (v := 0) dX4_init_55 (by decide) ?_
  refine i_put (pc := 56) 0 (ty := .int) (ws1 := [(h0, .inr (4, [.ref q1, .ref q2, .ref q3, .ref q4, .ref q5, .ref q6, .int 0, .int 0, .int 0, .int 0, .int 0, .int 0, .int 0])), (q1, .inl (cI, 16, .inl (fun _ => 0))), (q2, .inl (cI, 16, .inl (fun _ => 0))), (q3, .inl (cI, 5, .inl (fun _ => 0))), (q4, .inl (cI, 5, .inl (fun _ => 0))), (q5, .inl (cI, 5, .inl (fun _ => 0))), (q6, .inl (cI, 8, .inl (fun _ => 0)))]) rfl rfl inlX4 tyX4_ok nmX4 7 (by decide) bw_4_5 rfl (by decide +kernel) rfl rfl (Nat.le_of_ble_eq_true rfl) rfl dX4_init_56 ?_
  refine i_aload_n (pc := 59) 0 dX4_init_59 rfl rfl ?_
  refine i_iconst (pc := 60) (v := 0) dX4_init_60 (by decide) ?_
  refine i_put (pc := 61) 0 (ty := .int) (ws1 := [(h0, .inr (4, [.ref q1, .ref q2, .ref q3, .ref q4, .ref q5, .ref q6, .int 0, .int 0, .int 0, .int 0, .int 0, .int 0, .int 0])), (q1, .inl (cI, 16, .inl (fun _ => 0))), (q2, .inl (cI, 16, .inl (fun _ => 0))), (q3, .inl (cI, 5, .inl (fun _ => 0))), (q4, .inl (cI, 5, .inl (fun _ => 0))), (q5, .inl (cI, 5, .inl (fun _ => 0))), (q6, .inl (cI, 8, .inl (fun _ => 0)))]) rfl rfl inlX4 tyX4_ok nmX4 8 (by decide) bw_4_6 rfl (by decide +kernel) rfl rfl (Nat.le_of_ble_eq_true rfl) rfl dX4_init_61 ?_
  refine i_aload_n (pc := 64) 0 dX4_init_64 rfl rfl ?_
  refine i_iconst (pc := 65) (v := 0) dX4_init_65 (by decide) ?_
  refine i_put (pc := 66) 0 (ty := .int) (ws1 := [(h0, .inr (4, [.ref q1, .ref q2, .ref q3, .ref q4, .ref q5, .ref q6, .int 0, .int 0, .int 0, .int 0, .int 0, .int 0, .int 0])), (q1, .inl (cI, 16, .inl (fun _ => 0))), (q2, .inl (cI, 16, .inl (fun _ => 0))), (q3, .inl (cI, 5, .inl (fun _ => 0))), (q4, .inl (cI, 5, .inl (fun _ => 0))), (q5, .inl (cI, 5, .inl (fun _ => 0))), (q6, .inl (cI, 8, .inl (fun _ => 0)))]) rfl rfl inlX4 tyX4_ok nmX4 9 (by decide) bw_4_7 rfl (by decide +kernel) rfl rfl (Nat.le_of_ble_eq_true rfl) rfl dX4_init_66 ?_
  refine i_aload_n (pc := 69) 0 dX4_init_69 rfl rfl ?_
  refine i_iconst (pc := 70) (v := 0) dX4_init_70 (by decide) ?_
  refine i_put (pc := 71) 0 (ty := .int) (ws1 := [(h0, .inr (4, [.ref q1, .ref q2, .ref q3, .ref q4, .ref q5, .ref q6, .int 0, .int 0, .int 0, .int 0, .int 0, .int 0, .int 0])), (q1, .inl (cI, 16, .inl (fun _ => 0))), (q2, .inl (cI, 16, .inl (fun _ => 0))), (q3, .inl (cI, 5, .inl (fun _ => 0))), (q4, .inl (cI, 5, .inl (fun _ => 0))), (q5, .inl (cI, 5, .inl (fun _ => 0))), (q6, .inl (cI, 8, .inl (fun _ => 0)))]) rfl rfl inlX4 tyX4_ok nmX4 10 (by decide) bw_4_8 rfl (by decide +kernel) rfl rfl (Nat.le_of_ble_eq_true rfl) rfl dX4_init_71 ?_
  refine i_aload_n (pc := 74) 0 dX4_init_74 rfl rfl ?_
  refine i_iconst (pc := 75) (v := 0) dX4_init_75 (by decide) ?_
  refine i_put (pc := 76) 0 (ty := .int) (ws1 := [(h0, .inr (4, [.ref q1, .ref q2, .ref q3, .ref q4, .ref q5, .ref q6, .int 0, .int 0, .int 0, .int 0, .int 0, .int 0, .int 0])), (q1, .inl (cI, 16, .inl (fun _ => 0))), (q2, .inl (cI, 16, .inl (fun _ => 0))), (q3, .inl (cI, 5, .inl (fun _ => 0))), (q4, .inl (cI, 5, .inl (fun _ => 0))), (q5, .inl (cI, 5, .inl (fun _ => 0))), (q6, .inl (cI, 8, .inl (fun _ => 0)))]) rfl rfl inlX4 tyX4_ok nmX4 11 (by decide) bw_4_9 rfl (by decide +kernel) rfl rfl (Nat.le_of_ble_eq_true rfl) rfl dX4_init_76 ?_
  refine i_aload_n (pc := 79) 0 dX4_init_79 rfl rfl ?_
  refine i_iconst (pc := 80) (v := 1) dX4_init_80 (by decide) ?_
  refine i_put (pc := 81) 0 (ty := .boolean) (ws1 := [(h0, .inr (4, [.ref q1, .ref q2, .ref q3, .ref q4, .ref q5, .ref q6, .int 0, .int 0, .int 0, .int 0, .int 0, .int 0, .int 1])), (q1, .inl (cI, 16, .inl (fun _ => 0))), (q2, .inl (cI, 16, .inl (fun _ => 0))), (q3, .inl (cI, 5, .inl (fun _ => 0))), (q4, .inl (cI, 5, .inl (fun _ => 0))), (q5, .inl (cI, 5, .inl (fun _ => 0))), (q6, .inl (cI, 8, .inl (fun _ => 0)))]) rfl rfl inlX4 tyX4_ok nmX4 12 (by decide) bw_4_10 rfl (by decide +kernel) (by decide) (by decide) (Nat.le_of_ble_eq_true rfl) rfl dX4_init_81 ?_
  exact i_ret (pc := 84) (fun j => ([q1, q2, q3, q4, q5, q6] : List Nat).getD j 0) rfl (by decide) (by decide) dX4_init_84
set_option maxRecDepth 100000 in
set_option maxHeartbeats 4000000 in
theorem ki_X9_init {l : Launch} {D : va_G} {cI cS : ClassId} (h0 : Nat) : Ki l D cI cS yX9_init cX9_init 1 1 2 21 [Value.ref h0] [(h0, .inr (9, [.null, .null, .int 0]))] (fun q => [(h0, .inr (9, [.ref (q 0), .ref (q 1), .int 0])), ((q 0), .inl (cI, 16, .inl (fun _ => 0))), ((q 1), .inl (cI, 5, .inl (fun _ => 0)))]) := by
  refine enterI (own := RX9) (plainFor_of_name (by decide +kernel)) rfl rfl (Nat.le_of_ble_eq_true rfl) (fun Γ A => ?_)
  show GI _ _ _ _ _ _ _ _ _ _ _ _ _ _ _ _ [(0, Value.ref h0)] 0 []
  refine i_aload_n (pc := 0) 0 dX9_init_0 rfl rfl ?_
  refine i_obj (pc := 1) bw_4_13 bw_1_10 bw_1_11 dX9_init_1 (by decide) (Nat.le_of_ble_eq_true rfl) ?_
  refine i_aload_n (pc := 4) 0 dX9_init_4 rfl rfl ?_
  refine i_bipush (pc := 5) (v := 16) dX9_init_5 (by decide) ?_
  refine i_newa (pc := 7) (N := 16) bw_3_9 (by decide) (by decide) (by decide) (by decide) (by decide) dX9_init_7 (fun q1 => ?_)
  show GI _ _ _ _ _ _ _ _ _ _ _ _ _ [(h0, .inr (9, [.null, .null, .int 0])), (q1, .inl (cI, 16, .inl (fun _ => 0)))] _ _ _ _ _
  refine i_putF (pc := 9) 0 (ty := .array .int) (ws1 := [(h0, .inr (9, [.ref q1, .null, .int 0])), (q1, .inl (cI, 16, .inl (fun _ => 0)))]) rfl rfl inlX9 tyX9_ok nmX9 0 (by decide) bw_4_14 rfl rfl (by decide +kernel) rfl rfl (Nat.le_of_ble_eq_true rfl) rfl dX9_init_9 ?_
  refine i_aload_n (pc := 12) 0 dX9_init_12 rfl rfl ?_
  refine i_iconst (pc := 13) (v := 5) dX9_init_13 (by decide) ?_
  refine i_newa (pc := 14) (N := 5) bw_3_9 (by decide) (by decide) (by decide) (by decide) (by decide) dX9_init_14 (fun q2 => ?_)
  show GI _ _ _ _ _ _ _ _ _ _ _ _ _ [(h0, .inr (9, [.ref q1, .null, .int 0])), (q1, .inl (cI, 16, .inl (fun _ => 0))), (q2, .inl (cI, 5, .inl (fun _ => 0)))] _ _ _ _ _
  refine i_putF (pc := 16) 0 (ty := .array .int) (ws1 := [(h0, .inr (9, [.ref q1, .ref q2, .int 0])), (q1, .inl (cI, 16, .inl (fun _ => 0))), (q2, .inl (cI, 5, .inl (fun _ => 0)))]) rfl rfl inlX9 tyX9_ok nmX9 1 (by decide) bw_4_15 rfl rfl (by decide +kernel) rfl rfl (Nat.le_of_ble_eq_true rfl) rfl dX9_init_16 ?_
  refine i_aload_n (pc := 19) 0 dX9_init_19 rfl rfl ?_
  refine i_iconst (pc := 20) (v := 0) dX9_init_20 (by decide) ?_
  refine i_put (pc := 21) 0 (ty := .int) (ws1 := [(h0, .inr (9, [.ref q1, .ref q2, .int 0])), (q1, .inl (cI, 16, .inl (fun _ => 0))), (q2, .inl (cI, 5, .inl (fun _ => 0)))]) rfl rfl inlX9 tyX9_ok nmX9 2 (by decide) bw_4_16 rfl (by decide +kernel) rfl rfl (Nat.le_of_ble_eq_true rfl) rfl dX9_init_21 ?_
  exact i_ret (pc := 24) (fun j => ([q1, q2] : List Nat).getD j 0) rfl (by decide) (by decide) dX9_init_24
set_option maxRecDepth 100000 in
set_option maxHeartbeats 4000000 in
theorem ki_X1_init {l : Launch} {D : va_G} {cI cS : ClassId} (h0 : Nat) (h1 h2 : Nat) : Ki l D cI cS yX1_init cX1_init 3 1 2 32 [Value.ref h0, Value.ref h1, Value.ref h2] [(h0, .inr (1, [.null, .null, .null, .null, .int 0, .int 0, .int 0, .int 0, .int 0, .int 0, .int 0, .int 0]))] (fun q => [(h0, .inr (1, [.ref h1, .ref h2, .ref (q 0), .ref (q 1), .int 0, .int 0, .int 0, .int 0, .int 0, .int 0, .int 0, .int 0])), ((q 0), .inl (cI, 16, .inl (fun _ => 0))), ((q 1), .inl (cI, 16, .inl (fun _ => 0)))]) := by
  refine enterI (own := RX1) (plainFor_of_name (by decide +kernel)) rfl rfl (Nat.le_of_ble_eq_true rfl) (fun Γ A => ?_)
  show GI _ _ _ _ _ _ _ _ _ _ _ _ _ _ _ _ [(0, Value.ref h0), (1, Value.ref h1), (2, Value.ref h2)] 0 []
  refine i_aload_n (pc := 0) 0 dX1_init_0 rfl rfl ?_
  refine i_obj (pc := 1) bw_5_4 bw_1_10 bw_1_11 dX1_init_1 (by decide) (Nat.le_of_ble_eq_true rfl) ?_
  refine i_aload_n (pc := 4) 0 dX1_init_4 rfl rfl ?_
  refine i_bipush (pc := 5) (v := 16) dX1_init_5 (by decide) ?_
  refine i_newa (pc := 7) (N := 16) bw_3_9 (by decide) (by decide) (by decide) (by decide) (by decide) dX1_init_7 (fun q1 => ?_)
  show GI _ _ _ _ _ _ _ _ _ _ _ _ _ [(h0, .inr (1, [.null, .null, .null, .null, .int 0, .int 0, .int 0, .int 0, .int 0, .int 0, .int 0, .int 0])), (q1, .inl (cI, 16, .inl (fun _ => 0)))] _ _ _ _ _
  refine i_putF (pc := 9) 0 (ty := .array .int) (ws1 := [(h0, .inr (1, [.null, .null, .ref q1, .null, .int 0, .int 0, .int 0, .int 0, .int 0, .int 0, .int 0, .int 0])), (q1, .inl (cI, 16, .inl (fun _ => 0)))]) rfl rfl inlX1 tyX1_ok nmX1 2 (by decide) bw_5_5 rfl rfl (by decide +kernel) rfl rfl (Nat.le_of_ble_eq_true rfl) rfl dX1_init_9 ?_
  refine i_aload_n (pc := 12) 0 dX1_init_12 rfl rfl ?_
  refine i_bipush (pc := 13) (v := 16) dX1_init_13 (by decide) ?_
  refine i_newa (pc := 15) (N := 16) bw_3_9 (by decide) (by decide) (by decide) (by decide) (by decide) dX1_init_15 (fun q2 => ?_)
  show GI _ _ _ _ _ _ _ _ _ _ _ _ _ [(h0, .inr (1, [.null, .null, .ref q1, .null, .int 0, .int 0, .int 0, .int 0, .int 0, .int 0, .int 0, .int 0])), (q1, .inl (cI, 16, .inl (fun _ => 0))), (q2, .inl (cI, 16, .inl (fun _ => 0)))] _ _ _ _ _
  refine i_putF (pc := 17) 0 (ty := .array .int) (ws1 := [(h0, .inr (1, [.null, .null, .ref q1, .ref q2, .int 0, .int 0, .int 0, .int 0, .int 0, .int 0, .int 0, .int 0])), (q1, .inl (cI, 16, .inl (fun _ => 0))), (q2, .inl (cI, 16, .inl (fun _ => 0)))]) rfl rfl inlX1 tyX1_ok nmX1 3 (by decide) bw_5_6 rfl rfl (by decide +kernel) rfl rfl (Nat.le_of_ble_eq_true rfl) rfl dX1_init_17 ?_
  refine i_aload_n (pc := 20) 0 dX1_init_20 rfl rfl ?_
  refine i_iconst (pc := 21) (v := 0) dX1_init_21 (by decide) ?_
  refine i_put (pc := 22) 0 (ty := .int) (ws1 := [(h0, .inr (1, [.null, .null, .ref q1, .ref q2, .int 0, .int 0, .int 0, .int 0, .int 0, .int 0, .int 0, .int 0])), (q1, .inl (cI, 16, .inl (fun _ => 0))), (q2, .inl (cI, 16, .inl (fun _ => 0)))]) rfl rfl inlX1 tyX1_ok nmX1 4 (by decide) bw_5_7 rfl (by decide +kernel) rfl rfl (Nat.le_of_ble_eq_true rfl) rfl dX1_init_22 ?_
  refine i_aload_n (pc := 25) 0 dX1_init_25 rfl rfl ?_
  refine i_iconst (pc := 26) (v := 0) dX1_init_26 (by decide) ?_
  refine i_put (pc := 27) 0 (ty := .int) (ws1 := [(h0, .inr (1, [.null, .null, .ref q1, .ref q2, .int 0, .int 0, .int 0, .int 0, .int 0, .int 0, .int 0, .int 0])), (q1, .inl (cI, 16, .inl (fun _ => 0))), (q2, .inl (cI, 16, .inl (fun _ => 0)))]) rfl rfl inlX1 tyX1_ok nmX1 5 (by decide) bw_5_8 rfl (by decide +kernel) rfl rfl (Nat.le_of_ble_eq_true rfl) rfl dX1_init_27 ?_
  refine i_aload_n (pc := 30) 0 dX1_init_30 rfl rfl ?_
  refine i_iconst (pc := 31) (v := 0) dX1_init_31 (by decide) ?_
  refine i_put (pc := 32) 0 (ty := .int) (ws1 := [(h0, .inr (1, [.null, .null, .ref q1, .ref q2, .int 0, .int 0, .int 0, .int 0, .int 0, .int 0, .int 0, .int 0])), (q1, .inl (cI, 16, .inl (fun _ => 0))), (q2, .inl (cI, 16, .inl (fun _ => 0)))]) rfl rfl inlX1 tyX1_ok nmX1 6 (by decide) bw_5_9 rfl (by decide +kernel) rfl rfl (Nat.le_of_ble_eq_true rfl) rfl dX1_init_32 ?_
  refine i_aload_n (pc := 35) 0 dX1_init_35 rfl rfl ?_
  refine i_iconst (pc := 36) (v := 0) dX1_init_36 (by decide) ?_
  refine i_put (pc := 37) 0 (ty := .int) (ws1 := [(h0, .inr (1, [.null, .null, .ref q1, .ref q2, .int 0, .int 0, .int 0, .int 0, .int 0, .int 0, .int 0, .int 0])), (q1, .inl (cI, 16, .inl (fun _ => 0))), (q2, .inl (cI, 16, .inl (fun _ => 0)))]) rfl rfl inlX1 tyX1_ok nmX1 7 (by decide) bw_5_10 rfl (by decide +kernel) rfl rfl (Nat.le_of_ble_eq_true rfl) rfl dX1_init_37 ?_
  refine i_aload_n (pc := 40) 0 dX1_init_40 rfl rfl ?_
  refine i_iconst (pc := 41) (v := 0) dX1_init_41 (by decide) ?_
  refine i_put (pc := 42) 0 (ty := .int) (ws1 := [(h0, .inr (1, [.null, .null, .ref q1, .ref q2, .int 0, .int 0, .int 0, .int 0, .int 0, .int 0, .int 0, .int 0])), (q1, .inl (cI, 16, .inl (fun _ => 0))), (q2, .inl (cI, 16, .inl (fun _ => 0)))]) rfl rfl inlX1 tyX1_ok nmX1 8 (by decide) bw_5_11 rfl (by decide +kernel) rfl rfl (Nat.le_of_ble_eq_true rfl) rfl dX1_init_42 ?_
  refine i_aload_n (pc := 45) 0 dX1_init_45 rfl rfl ?_
  refine i_iconst (pc := 46) (v := 0) dX1_init_46 (by decide) ?_
  refine i_put (pc := 47) 0 (ty := .int) (ws1 := [(h0, .inr (1, [.null, .null, .ref q1, .ref q2, .int 0, .int 0, .int 0, .int 0, .int 0, .int 0, .int 0, .int 0])), (q1, .inl (cI, 16, .inl (fun _ => 0))), (q2, .inl (cI, 16, .inl (fun _ => 0)))]) rfl rfl inlX1 tyX1_ok nmX1 9 (by decide) bw_5_12 rfl (by decide +kernel) rfl rfl (Nat.le_of_ble_eq_true rfl) rfl dX1_init_47 ?_
  refine i_aload_n (pc := 50) 0 dX1_init_50 rfl rfl ?_
  refine i_iconst (pc := 51) (v := 0) dX1_init_51 (by decide) ?_
  refine i_put (pc := 52) 0 (ty := .int) (ws1 := [(h0, .inr (1, [.null, .null, .ref q1, .ref q2, .int 0, .int 0, .int 0, .int 0, .int 0, .int 0, .int 0, .int 0])), (q1, .inl (cI, 16, .inl (fun _ => 0))), (q2, .inl (cI, 16, .inl (fun _ => 0)))]) rfl rfl inlX1 tyX1_ok nmX1 10 (by decide) bw_5_13 rfl (by decide +kernel) rfl rfl (Nat.le_of_ble_eq_true rfl) rfl dX1_init_52 ?_
  refine i_aload_n (pc := 55) 0 dX1_init_55 rfl rfl ?_
  refine i_iconst (pc := 56) (v := 0) dX1_init_56 (by decide) ?_
  refine i_put (pc := 57) 0 (ty := .int) (ws1 := [(h0, .inr (1, [.null, .null, .ref q1, .ref q2, .int 0, .int 0, .int 0, .int 0, .int 0, .int 0, .int 0, .int 0])), (q1, .inl (cI, 16, .inl (fun _ => 0))), (q2, .inl (cI, 16, .inl (fun _ => 0)))]) rfl rfl inlX1 tyX1_ok nmX1 11 (by decide) bw_5_14 rfl (by decide +kernel) rfl rfl (Nat.le_of_ble_eq_true rfl) rfl dX1_init_57 ?_
  refine i_aload_n (pc := 60) 0 dX1_init_60 rfl rfl ?_
  refine i_aload_n (pc := 61) 1 dX1_init_61 rfl rfl ?_
  refine i_putF (pc := 62) 0 (ty := .object "NewsDraughts$Parish") (ws1 := [(h0, .inr (1, [.ref h1, .null, .ref q1, .ref q2, .int 0, .int 0, .int 0, .int 0, .int 0, .int 0, .int 0, .int 0])), (q1, .inl (cI, 16, .inl (fun _ => 0))), (q2, .inl (cI, 16, .inl (fun _ => 0)))]) rfl rfl inlX1 tyX1_ok nmX1 0 (by decide) bw_5_15 rfl rfl (by decide +kernel) rfl rfl (Nat.le_of_ble_eq_true rfl) rfl dX1_init_62 ?_
  refine i_aload_n (pc := 65) 0 dX1_init_65 rfl rfl ?_
  refine i_aload_n (pc := 66) 2 dX1_init_66 rfl rfl ?_
  refine i_putF (pc := 67) 0 (ty := .object "NewsDraughts$Standing") (ws1 := [(h0, .inr (1, [.ref h1, .ref h2, .ref q1, .ref q2, .int 0, .int 0, .int 0, .int 0, .int 0, .int 0, .int 0, .int 0])), (q1, .inl (cI, 16, .inl (fun _ => 0))), (q2, .inl (cI, 16, .inl (fun _ => 0)))]) rfl rfl inlX1 tyX1_ok nmX1 1 (by decide) bw_5_16 rfl rfl (by decide +kernel) rfl rfl (Nat.le_of_ble_eq_true rfl) rfl dX1_init_67 ?_
  exact i_ret (pc := 70) (fun j => ([q1, q2] : List Nat).getD j 0) rfl (by decide) (by decide) dX1_init_70
set_option maxRecDepth 100000 in
set_option maxHeartbeats 4000000 in
theorem ki_X3_init {l : Launch} {D : va_G} {cI cS : ClassId} (h0 : Nat) (h1 h2 h3 : Nat) : Ki l D cI cS yX3_init cX3_init 4 1 0 0 [Value.ref h0, Value.ref h1, Value.ref h2, Value.ref h3] [(h0, .inr (3, [.null, .null, .null]))] (fun q => [(h0, .inr (3, [.ref h1, .ref h2, .ref h3]))]) := by
  refine enterI (own := RX3) (plainFor_of_name (by decide +kernel)) rfl rfl (Nat.le_of_ble_eq_true rfl) (fun Γ A => ?_)
  show GI _ _ _ _ _ _ _ _ _ _ _ _ _ _ _ _ [(0, Value.ref h0), (1, Value.ref h1), (2, Value.ref h2), (3, Value.ref h3)] 0 []
  refine i_aload_n (pc := 0) 0 dX3_init_0 rfl rfl ?_
  refine i_obj (pc := 1) bw_5_20 bw_1_10 bw_1_11 dX3_init_1 (by decide) (Nat.le_of_ble_eq_true rfl) ?_
  refine i_aload_n (pc := 4) 0 dX3_init_4 rfl rfl ?_
  refine i_aload_n (pc := 5) 1 dX3_init_5 rfl rfl ?_
  refine i_putF (pc := 6) 0 (ty := .object "NewsDraughts$Parish") (ws1 := [(h0, .inr (3, [.ref h1, .null, .null]))]) rfl rfl inlX3 tyX3_ok nmX3 0 (by decide) bw_5_21 rfl rfl (by decide +kernel) rfl rfl (Nat.le_of_ble_eq_true rfl) rfl dX3_init_6 ?_
  refine i_aload_n (pc := 9) 0 dX3_init_9 rfl rfl ?_
  refine i_aload_n (pc := 10) 2 dX3_init_10 rfl rfl ?_
  refine i_putF (pc := 11) 0 (ty := .object "NewsDraughts$Standing") (ws1 := [(h0, .inr (3, [.ref h1, .ref h2, .null]))]) rfl rfl inlX3 tyX3_ok nmX3 1 (by decide) bw_5_22 rfl rfl (by decide +kernel) rfl rfl (Nat.le_of_ble_eq_true rfl) rfl dX3_init_11 ?_
  refine i_aload_n (pc := 14) 0 dX3_init_14 rfl rfl ?_
  refine i_aload_n (pc := 15) 3 dX3_init_15 rfl rfl ?_
  refine i_putF (pc := 16) 0 (ty := .object "NewsDraughts$Draught") (ws1 := [(h0, .inr (3, [.ref h1, .ref h2, .ref h3]))]) rfl rfl inlX3 tyX3_ok nmX3 2 (by decide) bw_5_23 rfl rfl (by decide +kernel) rfl rfl (Nat.le_of_ble_eq_true rfl) rfl dX3_init_16 ?_
  exact i_ret (pc := 19) (fun j => ([] : List Nat).getD j 0) rfl (by decide) (by decide) dX3_init_19
set_option maxRecDepth 100000 in
set_option maxHeartbeats 4000000 in
theorem ki_X2_init {l : Launch} {D : va_G} {cI cS : ClassId} (h0 : Nat) (h1 h2 h3 : Nat) : Ki l D cI cS yX2_init cX2_init 4 1 0 0 [Value.ref h0, Value.ref h1, Value.ref h2, Value.ref h3] [(h0, .inr (2, [.null, .null, .null, .int 0, .int 0, .int 0, .int 0, .int 0, .int 0]))] (fun q => [(h0, .inr (2, [.ref h1, .ref h2, .ref h3, .int 0, .int 0, .int 0, .int (-4), .int (-4), .int (-4)]))]) := by
  refine enterI (own := RX2) (plainFor_of_name (by decide +kernel)) rfl rfl (Nat.le_of_ble_eq_true rfl) (fun Γ A => ?_)
  show GI _ _ _ _ _ _ _ _ _ _ _ _ _ _ _ _ [(0, Value.ref h0), (1, Value.ref h1), (2, Value.ref h2), (3, Value.ref h3)] 0 []
  refine i_aload_n (pc := 0) 0 dX2_init_0 rfl rfl ?_
  refine i_obj (pc := 1) bw_6_3 bw_1_10 bw_1_11 dX2_init_1 (by decide) (Nat.le_of_ble_eq_true rfl) ?_
  refine i_aload_n (pc := 4) 0 dX2_init_4 rfl rfl ?_
  refine i_iconst (pc := 5) (v := 0) dX2_init_5 (by decide) ?_
  refine i_put (pc := 6) 0 (ty := .int) (ws1 := [(h0, .inr (2, [.null, .null, .null, .int 0, .int 0, .int 0, .int 0, .int 0, .int 0]))]) rfl rfl inlX2 tyX2_ok nmX2 3 (by decide) bw_6_4 rfl (by decide +kernel) rfl rfl (Nat.le_of_ble_eq_true rfl) rfl dX2_init_6 ?_
  refine i_aload_n (pc := 9) 0 dX2_init_9 rfl rfl ?_
  refine i_iconst (pc := 10) (v := 0) dX2_init_10 (by decide) ?_
  refine i_put (pc := 11) 0 (ty := .int) (ws1 := [(h0, .inr (2, [.null, .null, .null, .int 0, .int 0, .int 0, .int 0, .int 0, .int 0]))]) rfl rfl inlX2 tyX2_ok nmX2 4 (by decide) bw_6_5 rfl (by decide +kernel) rfl rfl (Nat.le_of_ble_eq_true rfl) rfl dX2_init_11 ?_
  refine i_aload_n (pc := 14) 0 dX2_init_14 rfl rfl ?_
  refine i_iconst (pc := 15) (v := 0) dX2_init_15 (by decide) ?_
  refine i_put (pc := 16) 0 (ty := .int) (ws1 := [(h0, .inr (2, [.null, .null, .null, .int 0, .int 0, .int 0, .int 0, .int 0, .int 0]))]) rfl rfl inlX2 tyX2_ok nmX2 5 (by decide) bw_6_6 rfl (by decide +kernel) rfl rfl (Nat.le_of_ble_eq_true rfl) rfl dX2_init_16 ?_
  refine i_aload_n (pc := 19) 0 dX2_init_19 rfl rfl ?_
  refine i_bipush (pc := 20) (v := -4) dX2_init_20 (by decide) ?_
  refine i_put (pc := 22) 0 (ty := .int) (ws1 := [(h0, .inr (2, [.null, .null, .null, .int 0, .int 0, .int 0, .int (-4), .int 0, .int 0]))]) rfl rfl inlX2 tyX2_ok nmX2 6 (by decide) bw_6_7 rfl (by decide +kernel) rfl rfl (Nat.le_of_ble_eq_true rfl) rfl dX2_init_22 ?_
  refine i_aload_n (pc := 25) 0 dX2_init_25 rfl rfl ?_
  refine i_bipush (pc := 26) (v := -4) dX2_init_26 (by decide) ?_
  refine i_put (pc := 28) 0 (ty := .int) (ws1 := [(h0, .inr (2, [.null, .null, .null, .int 0, .int 0, .int 0, .int (-4), .int (-4), .int 0]))]) rfl rfl inlX2 tyX2_ok nmX2 7 (by decide) bw_6_8 rfl (by decide +kernel) rfl rfl (Nat.le_of_ble_eq_true rfl) rfl dX2_init_28 ?_
  refine i_aload_n (pc := 31) 0 dX2_init_31 rfl rfl ?_
  refine i_bipush (pc := 32) (v := -4) dX2_init_32 (by decide) ?_
  refine i_put (pc := 34) 0 (ty := .int) (ws1 := [(h0, .inr (2, [.null, .null, .null, .int 0, .int 0, .int 0, .int (-4), .int (-4), .int (-4)]))]) rfl rfl inlX2 tyX2_ok nmX2 8 (by decide) bw_6_9 rfl (by decide +kernel) rfl rfl (Nat.le_of_ble_eq_true rfl) rfl dX2_init_34 ?_
  refine i_aload_n (pc := 37) 0 dX2_init_37 rfl rfl ?_
  refine i_aload_n (pc := 38) 1 dX2_init_38 rfl rfl ?_
  refine i_putF (pc := 39) 0 (ty := .object "NewsDraughts$Parish") (ws1 := [(h0, .inr (2, [.ref h1, .null, .null, .int 0, .int 0, .int 0, .int (-4), .int (-4), .int (-4)]))]) rfl rfl inlX2 tyX2_ok nmX2 0 (by decide) bw_6_10 rfl rfl (by decide +kernel) rfl rfl (Nat.le_of_ble_eq_true rfl) rfl dX2_init_39 ?_
  refine i_aload_n (pc := 42) 0 dX2_init_42 rfl rfl ?_
  refine i_aload_n (pc := 43) 2 dX2_init_43 rfl rfl ?_
  refine i_putF (pc := 44) 0 (ty := .object "NewsDraughts$Standing") (ws1 := [(h0, .inr (2, [.ref h1, .ref h2, .null, .int 0, .int 0, .int 0, .int (-4), .int (-4), .int (-4)]))]) rfl rfl inlX2 tyX2_ok nmX2 1 (by decide) bw_6_11 rfl rfl (by decide +kernel) rfl rfl (Nat.le_of_ble_eq_true rfl) rfl dX2_init_44 ?_
  refine i_aload_n (pc := 47) 0 dX2_init_47 rfl rfl ?_
  refine i_aload_n (pc := 48) 3 dX2_init_48 rfl rfl ?_
  refine i_putF (pc := 49) 0 (ty := .object "NewsDraughts$Draught") (ws1 := [(h0, .inr (2, [.ref h1, .ref h2, .ref h3, .int 0, .int 0, .int 0, .int (-4), .int (-4), .int (-4)]))]) rfl rfl inlX2 tyX2_ok nmX2 2 (by decide) bw_6_12 rfl rfl (by decide +kernel) rfl rfl (Nat.le_of_ble_eq_true rfl) rfl dX2_init_49 ?_
  exact i_ret (pc := 52) (fun j => ([] : List Nat).getD j 0) rfl (by decide) (by decide) dX2_init_52
set_option maxRecDepth 100000 in
set_option maxHeartbeats 4000000 in
theorem ki_X0_init {l : Launch} {D : va_G} {cI cS : ClassId} (h0 : Nat) (h1 h2 : Nat) : Ki l D cI cS yX0_init cX0_init 3 1 0 0 [Value.ref h0, Value.ref h1, Value.ref h2] [(h0, .inr (0, [.null, .null, .int 0, .int 0]))] (fun q => [(h0, .inr (0, [.ref h1, .ref h2, .int 0, .int 0]))]) := by
  refine enterI (own := RX0) (plainFor_of_name (by decide +kernel)) rfl rfl (Nat.le_of_ble_eq_true rfl) (fun Γ A => ?_)
  show GI _ _ _ _ _ _ _ _ _ _ _ _ _ _ _ _ [(0, Value.ref h0), (1, Value.ref h1), (2, Value.ref h2)] 0 []
  refine i_aload_n (pc := 0) 0 dX0_init_0 rfl rfl ?_
  refine i_obj (pc := 1) bw_6_16 bw_1_10 bw_1_11 dX0_init_1 (by decide) (Nat.le_of_ble_eq_true rfl) ?_
  refine i_aload_n (pc := 4) 0 dX0_init_4 rfl rfl ?_
  refine i_iconst (pc := 5) (v := 0) dX0_init_5 (by decide) ?_
  refine i_put (pc := 6) 0 (ty := .int) (ws1 := [(h0, .inr (0, [.null, .null, .int 0, .int 0]))]) rfl rfl inlX0 tyX0_ok nmX0 2 (by decide) bw_6_17 rfl (by decide +kernel) rfl rfl (Nat.le_of_ble_eq_true rfl) rfl dX0_init_6 ?_
  refine i_aload_n (pc := 9) 0 dX0_init_9 rfl rfl ?_
  refine i_iconst (pc := 10) (v := 0) dX0_init_10 (by decide) ?_
  refine i_put (pc := 11) 0 (ty := .int) (ws1 := [(h0, .inr (0, [.null, .null, .int 0, .int 0]))]) rfl rfl inlX0 tyX0_ok nmX0 3 (by decide) bw_6_18 rfl (by decide +kernel) rfl rfl (Nat.le_of_ble_eq_true rfl) rfl dX0_init_11 ?_
  refine i_aload_n (pc := 14) 0 dX0_init_14 rfl rfl ?_
  refine i_aload_n (pc := 15) 1 dX0_init_15 rfl rfl ?_
  refine i_putF (pc := 16) 0 (ty := .object "NewsDraughts$Parish") (ws1 := [(h0, .inr (0, [.ref h1, .null, .int 0, .int 0]))]) rfl rfl inlX0 tyX0_ok nmX0 0 (by decide) bw_6_19 rfl rfl (by decide +kernel) rfl rfl (Nat.le_of_ble_eq_true rfl) rfl dX0_init_16 ?_
  refine i_aload_n (pc := 19) 0 dX0_init_19 rfl rfl ?_
  refine i_aload_n (pc := 20) 2 dX0_init_20 rfl rfl ?_
  refine i_putF (pc := 21) 0 (ty := .object "NewsDraughts$Draught") (ws1 := [(h0, .inr (0, [.ref h1, .ref h2, .int 0, .int 0]))]) rfl rfl inlX0 tyX0_ok nmX0 1 (by decide) bw_6_20 rfl rfl (by decide +kernel) rfl rfl (Nat.le_of_ble_eq_true rfl) rfl dX0_init_21 ?_
  exact i_ret (pc := 24) (fun j => ([] : List Nat).getD j 0) rfl (by decide) (by decide) dX0_init_24
set_option maxRecDepth 100000 in
set_option maxHeartbeats 4000000 in
theorem ki_X8_init {l : Launch} {D : va_G} {cI cS : ClassId} (h0 : Nat) (h1 h2 : Nat) : Ki l D cI cS yX8_init cX8_init 3 1 4 24 [Value.ref h0, Value.ref h1, Value.ref h2] [(h0, .inr (8, [.null, .null, .null, .null, .null, .null, .int 0]))] (fun q => [(h0, .inr (8, [.ref h1, .ref h2, .ref (q 0), .ref (q 1), .ref (q 2), .ref (q 3), .int 0])), ((q 0), .inl (cI, 6, .inl (fun _ => 0))), ((q 1), .inl (cI, 6, .inl (fun _ => 0))), ((q 2), .inl (cI, 6, .inl (fun _ => 0))), ((q 3), .inl (cI, 6, .inl (fun _ => 0)))]) := by
  refine enterI (own := RX8) (plainFor_of_name (by decide +kernel)) rfl rfl (Nat.le_of_ble_eq_true rfl) (fun Γ A => ?_)
  show GI _ _ _ _ _ _ _ _ _ _ _ _ _ _ _ _ [(0, Value.ref h0), (1, Value.ref h1), (2, Value.ref h2)] 0 []
  refine i_aload_n (pc := 0) 0 dX8_init_0 rfl rfl ?_
  refine i_obj (pc := 1) bw_7_0 bw_1_10 bw_1_11 dX8_init_1 (by decide) (Nat.le_of_ble_eq_true rfl) ?_
  refine i_aload_n (pc := 4) 0 dX8_init_4 rfl rfl ?_
  refine i_bipush (pc := 5) (v := 6) dX8_init_5 (by decide) ?_
  refine i_newa (pc := 7) (N := 6) bw_3_9 (by decide) (by decide) (by decide) (by decide) (by decide) dX8_init_7 (fun q1 => ?_)
  show GI _ _ _ _ _ _ _ _ _ _ _ _ _ [(h0, .inr (8, [.null, .null, .null, .null, .null, .null, .int 0])), (q1, .inl (cI, 6, .inl (fun _ => 0)))] _ _ _ _ _
  refine i_putF (pc := 9) 0 (ty := .array .int) (ws1 := [(h0, .inr (8, [.null, .null, .ref q1, .null, .null, .null, .int 0])), (q1, .inl (cI, 6, .inl (fun _ => 0)))]) rfl rfl inlX8 tyX8_ok nmX8 2 (by decide) bw_7_1 rfl rfl (by decide +kernel) rfl rfl (Nat.le_of_ble_eq_true rfl) rfl dX8_init_9 ?_
  refine i_aload_n (pc := 12) 0 dX8_init_12 rfl rfl ?_
  refine i_bipush (pc := 13) (v := 6) dX8_init_13 (by decide) ?_
  refine i_newa (pc := 15) (N := 6) bw_3_9 (by decide) (by decide) (by decide) (by decide) (by decide) dX8_init_15 (fun q2 => ?_)
  show GI _ _ _ _ _ _ _ _ _ _ _ _ _ [(h0, .inr (8, [.null, .null, .ref q1, .null, .null, .null, .int 0])), (q1, .inl (cI, 6, .inl (fun _ => 0))), (q2, .inl (cI, 6, .inl (fun _ => 0)))] _ _ _ _ _
  refine i_putF (pc := 17) 0 (ty := .array .int) (ws1 := [(h0, .inr (8, [.null, .null, .ref q1, .ref q2, .null, .null, .int 0])), (q1, .inl (cI, 6, .inl (fun _ => 0))), (q2, .inl (cI, 6, .inl (fun _ => 0)))]) rfl rfl inlX8 tyX8_ok nmX8 3 (by decide) bw_7_2 rfl rfl (by decide +kernel) rfl rfl (Nat.le_of_ble_eq_true rfl) rfl dX8_init_17 ?_
  refine i_aload_n (pc := 20) 0 dX8_init_20 rfl rfl ?_
  refine i_bipush (pc := 21) (v := 6) dX8_init_21 (by decide) ?_
  refine i_newa (pc := 23) (N := 6) bw_3_9 (by decide) (by decide) (by decide) (by decide) (by decide) dX8_init_23 (fun q3 => ?_)
  show GI _ _ _ _ _ _ _ _ _ _ _ _ _ [(h0, .inr (8, [.null, .null, .ref q1, .ref q2, .null, .null, .int 0])), (q1, .inl (cI, 6, .inl (fun _ => 0))), (q2, .inl (cI, 6, .inl (fun _ => 0))), (q3, .inl (cI, 6, .inl (fun _ => 0)))] _ _ _ _ _
  refine i_putF (pc := 25) 0 (ty := .array .int) (ws1 := [(h0, .inr (8, [.null, .null, .ref q1, .ref q2, .ref q3, .null, .int 0])), (q1, .inl (cI, 6, .inl (fun _ => 0))), (q2, .inl (cI, 6, .inl (fun _ => 0))), (q3, .inl (cI, 6, .inl (fun _ => 0)))]) rfl rfl inlX8 tyX8_ok nmX8 4 (by decide) bw_7_3 rfl rfl (by decide +kernel) rfl rfl (Nat.le_of_ble_eq_true rfl) rfl dX8_init_25 ?_
  refine i_aload_n (pc := 28) 0 dX8_init_28 rfl rfl ?_
  refine i_bipush (pc := 29) (v := 6) dX8_init_29 (by decide) ?_
  refine i_newa (pc := 31) (N := 6) bw_3_9 (by decide) (by decide) (by decide) (by decide) (by decide) dX8_init_31 (fun q4 => ?_)
  show GI _ _ _ _ _ _ _ _ _ _ _ _ _ [(h0, .inr (8, [.null, .null, .ref q1, .ref q2, .ref q3, .null, .int 0])), (q1, .inl (cI, 6, .inl (fun _ => 0))), (q2, .inl (cI, 6, .inl (fun _ => 0))), (q3, .inl (cI, 6, .inl (fun _ => 0))), (q4, .inl (cI, 6, .inl (fun _ => 0)))] _ _ _ _ _
  refine i_putF (pc := 33) 0 (ty := .array .int) (ws1 := [(h0, .inr (8, [.null, .null, .ref q1, .ref q2, .ref q3, .ref q4, .int 0])), (q1, .inl (cI, 6, .inl (fun _ => 0))), (q2, .inl (cI, 6, .inl (fun _ => 0))), (q3, .inl (cI, 6, .inl (fun _ => 0))), (q4, .inl (cI, 6, .inl (fun _ => 0)))]) rfl rfl inlX8 tyX8_ok nmX8 5 (by decide) bw_7_4 rfl rfl (by decide +kernel) rfl rfl (Nat.le_of_ble_eq_true rfl) rfl dX8_init_33 ?_
  refine i_aload_n (pc := 36) 0 dX8_init_36 rfl rfl ?_
  refine i_iconst (pc := 37) (v := 0) dX8_init_37 (by decide) ?_
  refine i_put (pc := 38) 0 (ty := .int) (ws1 := [(h0, .inr (8, [.null, .null, .ref q1, .ref q2, .ref q3, .ref q4, .int 0])), (q1, .inl (cI, 6, .inl (fun _ => 0))), (q2, .inl (cI, 6, .inl (fun _ => 0))), (q3, .inl (cI, 6, .inl (fun _ => 0))), (q4, .inl (cI, 6, .inl (fun _ => 0)))]) rfl rfl inlX8 tyX8_ok nmX8 6 (by decide) bw_7_5 rfl (by decide +kernel) rfl rfl (Nat.le_of_ble_eq_true rfl) rfl dX8_init_38 ?_
  refine i_aload_n (pc := 41) 0 dX8_init_41 rfl rfl ?_
  refine i_aload_n (pc := 42) 1 dX8_init_42 rfl rfl ?_
  refine i_putF (pc := 43) 0 (ty := .object "NewsDraughts$Parish") (ws1 := [(h0, .inr (8, [.ref h1, .null, .ref q1, .ref q2, .ref q3, .ref q4, .int 0])), (q1, .inl (cI, 6, .inl (fun _ => 0))), (q2, .inl (cI, 6, .inl (fun _ => 0))), (q3, .inl (cI, 6, .inl (fun _ => 0))), (q4, .inl (cI, 6, .inl (fun _ => 0)))]) rfl rfl inlX8 tyX8_ok nmX8 0 (by decide) bw_7_6 rfl rfl (by decide +kernel) rfl rfl (Nat.le_of_ble_eq_true rfl) rfl dX8_init_43 ?_
  refine i_aload_n (pc := 46) 0 dX8_init_46 rfl rfl ?_
  refine i_aload_n (pc := 47) 2 dX8_init_47 rfl rfl ?_
  refine i_putF (pc := 48) 0 (ty := .object "NewsDraughts$Draught") (ws1 := [(h0, .inr (8, [.ref h1, .ref h2, .ref q1, .ref q2, .ref q3, .ref q4, .int 0])), (q1, .inl (cI, 6, .inl (fun _ => 0))), (q2, .inl (cI, 6, .inl (fun _ => 0))), (q3, .inl (cI, 6, .inl (fun _ => 0))), (q4, .inl (cI, 6, .inl (fun _ => 0)))]) rfl rfl inlX8 tyX8_ok nmX8 1 (by decide) bw_7_7 rfl rfl (by decide +kernel) rfl rfl (Nat.le_of_ble_eq_true rfl) rfl dX8_init_48 ?_
  exact i_ret (pc := 51) (fun j => ([q1, q2, q3, q4] : List Nat).getD j 0) rfl (by decide) (by decide) dX8_init_51
set_option maxRecDepth 100000 in
set_option maxHeartbeats 4000000 in
theorem ki_X5_init_8 {l : Launch} {D : va_G} {cI cS : ClassId} (h0 : Nat) : Ki l D cI cS yX5_init cX5_init 3 2 25 200 [Value.ref h0, Value.int 8] [(h0, .inr (5, [.null, .int 0, .int 0]))] (fun q => [(h0, .inr (5, [.ref (q 0), .int 0, .int 0])), ((q 0), .inl (cS, 8, .inr (.inr (.inr (.inr (rB q 8)))))), ((q 1), .inr (9, [.ref (q 2), .ref (q 3), .int 0])), ((q 2), .inl (cI, 16, .inl (fun _ => 0))), ((q 3), .inl (cI, 5, .inl (fun _ => 0))), ((q 4), .inr (9, [.ref (q 5), .ref (q 6), .int 0])), ((q 5), .inl (cI, 16, .inl (fun _ => 0))), ((q 6), .inl (cI, 5, .inl (fun _ => 0))), ((q 7), .inr (9, [.ref (q 8), .ref (q 9), .int 0])), ((q 8), .inl (cI, 16, .inl (fun _ => 0))), ((q 9), .inl (cI, 5, .inl (fun _ => 0))), ((q 10), .inr (9, [.ref (q 11), .ref (q 12), .int 0])), ((q 11), .inl (cI, 16, .inl (fun _ => 0))), ((q 12), .inl (cI, 5, .inl (fun _ => 0))), ((q 13), .inr (9, [.ref (q 14), .ref (q 15), .int 0])), ((q 14), .inl (cI, 16, .inl (fun _ => 0))), ((q 15), .inl (cI, 5, .inl (fun _ => 0))), ((q 16), .inr (9, [.ref (q 17), .ref (q 18), .int 0])), ((q 17), .inl (cI, 16, .inl (fun _ => 0))), ((q 18), .inl (cI, 5, .inl (fun _ => 0))), ((q 19), .inr (9, [.ref (q 20), .ref (q 21), .int 0])), ((q 20), .inl (cI, 16, .inl (fun _ => 0))), ((q 21), .inl (cI, 5, .inl (fun _ => 0))), ((q 22), .inr (9, [.ref (q 23), .ref (q 24), .int 0])), ((q 23), .inl (cI, 16, .inl (fun _ => 0))), ((q 24), .inl (cI, 5, .inl (fun _ => 0)))]) := by
  refine enterI (own := RX5) (plainFor_of_name (by decide +kernel)) rfl rfl (Nat.le_of_ble_eq_true rfl) (fun Γ A => ?_)
  show GI _ _ _ _ _ _ _ _ _ _ _ _ _ _ _ _ [(0, Value.ref h0), (1, Value.int 8)] 0 []
  refine i_aload_n (pc := 0) 0 dX5_init_0 rfl rfl ?_
  refine i_obj (pc := 1) bw_4_20 bw_1_10 bw_1_11 dX5_init_1 (by decide) (Nat.le_of_ble_eq_true rfl) ?_
  refine i_aload_n (pc := 4) 0 dX5_init_4 rfl rfl ?_
  refine i_iconst (pc := 5) (v := 0) dX5_init_5 (by decide) ?_
  refine i_put (pc := 6) 0 (ty := .int) (ws1 := [(h0, .inr (5, [.null, .int 0, .int 0]))]) rfl rfl inlX5 tyX5_ok nmX5 1 (by decide) bw_4_21 rfl (by decide +kernel) rfl rfl (Nat.le_of_ble_eq_true rfl) rfl dX5_init_6 ?_
  refine i_aload_n (pc := 9) 0 dX5_init_9 rfl rfl ?_
  refine i_iconst (pc := 10) (v := 0) dX5_init_10 (by decide) ?_
  refine i_put (pc := 11) 0 (ty := .int) (ws1 := [(h0, .inr (5, [.null, .int 0, .int 0]))]) rfl rfl inlX5 tyX5_ok nmX5 2 (by decide) bw_4_22 rfl (by decide +kernel) rfl rfl (Nat.le_of_ble_eq_true rfl) rfl dX5_init_11 ?_
  refine i_aload_n (pc := 14) 0 dX5_init_14 rfl rfl ?_
  refine i_iload_n (pc := 15) 1 dX5_init_15 rfl rfl ?_
  refine i_iconst (pc := 16) (v := 1) dX5_init_16 (by decide) ?_
  refine i_ge_t (pc := 17) (tgt := 24) dX5_init_17 (by decide) (by decide) ?_
  refine i_iload_n (pc := 24) 1 dX5_init_24 rfl rfl ?_
  refine i_newq (pc := 25) (N := 8) bw_4_23 (by decide) (by decide) (by decide) (by decide) (by decide) dX5_init_25 (fun q1 => ?_)
  show GI _ _ _ _ _ _ _ _ _ _ _ _ _ [(h0, .inr (5, [.null, .int 0, .int 0])), (q1, .inl (cS, 8, .inr (.inr (.inr (.inr (fun _ => none))))))] _ _ _ _ _
  refine i_putF (pc := 28) 0 (ty := .array (.object "NewsDraughts$Standing")) (ws1 := [(h0, .inr (5, [.ref q1, .int 0, .int 0])), (q1, .inl (cS, 8, .inr (.inr (.inr (.inr (fun _ => none))))))]) rfl rfl inlX5 tyX5_ok nmX5 0 (by decide) bw_5_0 rfl rfl (by decide +kernel) rfl rfl (Nat.le_of_ble_eq_true rfl) rfl dX5_init_28 ?_
  refine i_iconst (pc := 31) (v := 0) dX5_init_31 (by decide) ?_
  refine i_istore_n (pc := 32) [1, 2, 0] (lv1 := [(0, Value.ref h0), (1, Value.int 8), (2, Value.int 0)]) dX5_init_32 rfl (by decide) rfl ?_
  refine i_iload_n (pc := 33) 2 dX5_init_33 rfl rfl ?_
  refine i_aload_n (pc := 34) 0 dX5_init_34 rfl rfl ?_
  refine i_get (pc := 35) 0 rfl rfl inlX5 0 (by decide) bw_5_0 rfl dX5_init_35 ?_
  refine i_alen (pc := 38) 1 1 (v := 8) rfl rfl (show Int32.ofNat 8 = 8 by decide) dX5_init_38 ?_
  refine i_ge_f (pc := 39) (tgt := 61) dX5_init_39 (by decide) (by decide) ?_
  refine i_aload_n (pc := 42) 0 dX5_init_42 rfl rfl ?_
  refine i_get (pc := 43) 0 rfl rfl inlX5 0 (by decide) bw_5_0 rfl dX5_init_43 ?_
  refine i_iload_n (pc := 46) 2 dX5_init_46 rfl rfl ?_
  refine i_new (pc := 47) (ci := 9) (fs := [.null, .null, .int 0]) inlX9 tyX9_ok bw_4_23 bw_2_2 bw_2_3 rfl (fun j hj => by rcases (show j = 0 ∨ j = 1 ∨ j = 2 by omega) with rfl | rfl | rfl <;> rfl) (by decide) (by decide) dX5_init_47 (fun q2 => ?_)
  show GI _ _ _ _ _ _ _ _ _ _ _ _ _ [(h0, .inr (5, [.ref q1, .int 0, .int 0])), (q1, .inl (cS, 8, .inr (.inr (.inr (.inr (fun _ => none)))))), (q2, .inr (9, [.null, .null, .int 0]))] _ _ _ _ _
  refine i_dup (pc := 50) dX5_init_50 rfl ?_
  refine i_initN (pc := 51) (As := []) [(h0, .inr (5, [.ref q1, .int 0, .int 0])), (q1, .inl (cS, 8, .inr (.inr (.inr (.inr (fun _ => none))))))] [(q2, .inr (9, [.null, .null, .int 0]))] (ki_X9_init q2) rfl wk_X9_init bw_4_11 nst_RX5_22 rfl (by decide) (by decide) (by decide) (by decide) rfl rfl (Nat.le_of_ble_eq_true rfl) dX5_init_51 (fun q3 => ?_)
  show GI _ _ _ _ _ _ _ _ _ _ _ _ _ [(h0, .inr (5, [.ref q1, .int 0, .int 0])), (q1, .inl (cS, 8, .inr (.inr (.inr (.inr (fun _ => none)))))), (q2, .inr (9, [.ref (q3 0), .ref (q3 1), .int 0])), ((q3 0), .inl (cI, 16, .inl (fun _ => 0))), ((q3 1), .inl (cI, 5, .inl (fun _ => 0)))] _ _ _ _ _
  refine i_astq (pc := 54) 1 2 9 (j := 0) (ws1 := [(h0, .inr (5, [.ref q1, .int 0, .int 0])), (q1, .inl (cS, 8, .inr (.inr (.inr (.inr (va_up (fun _ => none) 0 (some q2))))))), (q2, .inr (9, [.ref (q3 0), .ref (q3 1), .int 0])), ((q3 0), .inl (cI, 16, .inl (fun _ => 0))), ((q3 1), .inl (cI, 5, .inl (fun _ => 0)))]) rfl rfl rfl rfl (by unfold vp_in; decide) (by decide) rfl dX5_init_54 ?_
  refine i_iinc (pc := 55) [1, 2, 0] 2 (v := 1) (lv1 := [(0, Value.ref h0), (1, Value.int 8), (2, Value.int 1)]) dX5_init_55 rfl (by decide) (by decide) rfl ?_
  refine i_goto (pc := 58) (tgt := 33) dX5_init_58 (by decide) ?_
  refine i_iload_n (pc := 33) 2 dX5_init_33 rfl rfl ?_
  refine i_aload_n (pc := 34) 0 dX5_init_34 rfl rfl ?_
  refine i_get (pc := 35) 0 rfl rfl inlX5 0 (by decide) bw_5_0 rfl dX5_init_35 ?_
  refine i_alen (pc := 38) 1 1 (v := 8) rfl rfl (show Int32.ofNat 8 = 8 by decide) dX5_init_38 ?_
  refine i_ge_f (pc := 39) (tgt := 61) dX5_init_39 (by decide) (by decide) ?_
  refine i_aload_n (pc := 42) 0 dX5_init_42 rfl rfl ?_
  refine i_get (pc := 43) 0 rfl rfl inlX5 0 (by decide) bw_5_0 rfl dX5_init_43 ?_
  refine i_iload_n (pc := 46) 2 dX5_init_46 rfl rfl ?_
  refine i_new (pc := 47) (ci := 9) (fs := [.null, .null, .int 0]) inlX9 tyX9_ok bw_4_23 bw_2_2 bw_2_3 rfl (fun j hj => by rcases (show j = 0 ∨ j = 1 ∨ j = 2 by omega) with rfl | rfl | rfl <;> rfl) (by decide) (by decide) dX5_init_47 (fun q4 => ?_)
  show GI _ _ _ _ _ _ _ _ _ _ _ _ _ [(h0, .inr (5, [.ref q1, .int 0, .int 0])), (q1, .inl (cS, 8, .inr (.inr (.inr (.inr (va_up (fun _ => none) 0 (some q2))))))), (q2, .inr (9, [.ref (q3 0), .ref (q3 1), .int 0])), ((q3 0), .inl (cI, 16, .inl (fun _ => 0))), ((q3 1), .inl (cI, 5, .inl (fun _ => 0))), (q4, .inr (9, [.null, .null, .int 0]))] _ _ _ _ _
  refine i_dup (pc := 50) dX5_init_50 rfl ?_
  refine i_initN (pc := 51) (As := []) [(h0, .inr (5, [.ref q1, .int 0, .int 0])), (q1, .inl (cS, 8, .inr (.inr (.inr (.inr (va_up (fun _ => none) 0 (some q2))))))), (q2, .inr (9, [.ref (q3 0), .ref (q3 1), .int 0])), ((q3 0), .inl (cI, 16, .inl (fun _ => 0))), ((q3 1), .inl (cI, 5, .inl (fun _ => 0)))] [(q4, .inr (9, [.null, .null, .int 0]))] (ki_X9_init q4) rfl wk_X9_init bw_4_11 nst_RX5_22 rfl (by decide) (by decide) (by decide) (by decide) rfl rfl (Nat.le_of_ble_eq_true rfl) dX5_init_51 (fun q5 => ?_)
  show GI _ _ _ _ _ _ _ _ _ _ _ _ _ [(h0, .inr (5, [.ref q1, .int 0, .int 0])), (q1, .inl (cS, 8, .inr (.inr (.inr (.inr (va_up (fun _ => none) 0 (some q2))))))), (q2, .inr (9, [.ref (q3 0), .ref (q3 1), .int 0])), ((q3 0), .inl (cI, 16, .inl (fun _ => 0))), ((q3 1), .inl (cI, 5, .inl (fun _ => 0))), (q4, .inr (9, [.ref (q5 0), .ref (q5 1), .int 0])), ((q5 0), .inl (cI, 16, .inl (fun _ => 0))), ((q5 1), .inl (cI, 5, .inl (fun _ => 0)))] _ _ _ _ _
  refine i_astq (pc := 54) 1 5 9 (j := 1) (ws1 := [(h0, .inr (5, [.ref q1, .int 0, .int 0])), (q1, .inl (cS, 8, .inr (.inr (.inr (.inr (va_up (va_up (fun _ => none) 0 (some q2)) 1 (some q4))))))), (q2, .inr (9, [.ref (q3 0), .ref (q3 1), .int 0])), ((q3 0), .inl (cI, 16, .inl (fun _ => 0))), ((q3 1), .inl (cI, 5, .inl (fun _ => 0))), (q4, .inr (9, [.ref (q5 0), .ref (q5 1), .int 0])), ((q5 0), .inl (cI, 16, .inl (fun _ => 0))), ((q5 1), .inl (cI, 5, .inl (fun _ => 0)))]) rfl rfl rfl rfl (by unfold vp_in; decide) (by decide) rfl dX5_init_54 ?_
  refine i_iinc (pc := 55) [1, 2, 0] 2 (v := 2) (lv1 := [(0, Value.ref h0), (1, Value.int 8), (2, Value.int 2)]) dX5_init_55 rfl (by decide) (by decide) rfl ?_
  refine i_goto (pc := 58) (tgt := 33) dX5_init_58 (by decide) ?_
  refine i_iload_n (pc := 33) 2 dX5_init_33 rfl rfl ?_
  refine i_aload_n (pc := 34) 0 dX5_init_34 rfl rfl ?_
  refine i_get (pc := 35) 0 rfl rfl inlX5 0 (by decide) bw_5_0 rfl dX5_init_35 ?_
  refine i_alen (pc := 38) 1 1 (v := 8) rfl rfl (show Int32.ofNat 8 = 8 by decide) dX5_init_38 ?_
  refine i_ge_f (pc := 39) (tgt := 61) dX5_init_39 (by decide) (by decide) ?_
  refine i_aload_n (pc := 42) 0 dX5_init_42 rfl rfl ?_
  refine i_get (pc := 43) 0 rfl rfl inlX5 0 (by decide) bw_5_0 rfl dX5_init_43 ?_
  refine i_iload_n (pc := 46) 2 dX5_init_46 rfl rfl ?_
  refine i_new (pc := 47) (ci := 9) (fs := [.null, .null, .int 0]) inlX9 tyX9_ok bw_4_23 bw_2_2 bw_2_3 rfl (fun j hj => by rcases (show j = 0 ∨ j = 1 ∨ j = 2 by omega) with rfl | rfl | rfl <;> rfl) (by decide) (by decide) dX5_init_47 (fun q6 => ?_)
  show GI _ _ _ _ _ _ _ _ _ _ _ _ _ [(h0, .inr (5, [.ref q1, .int 0, .int 0])), (q1, .inl (cS, 8, .inr (.inr (.inr (.inr (va_up (va_up (fun _ => none) 0 (some q2)) 1 (some q4))))))), (q2, .inr (9, [.ref (q3 0), .ref (q3 1), .int 0])), ((q3 0), .inl (cI, 16, .inl (fun _ => 0))), ((q3 1), .inl (cI, 5, .inl (fun _ => 0))), (q4, .inr (9, [.ref (q5 0), .ref (q5 1), .int 0])), ((q5 0), .inl (cI, 16, .inl (fun _ => 0))), ((q5 1), .inl (cI, 5, .inl (fun _ => 0))), (q6, .inr (9, [.null, .null, .int 0]))] _ _ _ _ _
  refine i_dup (pc := 50) dX5_init_50 rfl ?_
  refine i_initN (pc := 51) (As := []) [(h0, .inr (5, [.ref q1, .int 0, .int 0])), (q1, .inl (cS, 8, .inr (.inr (.inr (.inr (va_up (va_up (fun _ => none) 0 (some q2)) 1 (some q4))))))), (q2, .inr (9, [.ref (q3 0), .ref (q3 1), .int 0])), ((q3 0), .inl (cI, 16, .inl (fun _ => 0))), ((q3 1), .inl (cI, 5, .inl (fun _ => 0))), (q4, .inr (9, [.ref (q5 0), .ref (q5 1), .int 0])), ((q5 0), .inl (cI, 16, .inl (fun _ => 0))), ((q5 1), .inl (cI, 5, .inl (fun _ => 0)))] [(q6, .inr (9, [.null, .null, .int 0]))] (ki_X9_init q6) rfl wk_X9_init bw_4_11 nst_RX5_22 rfl (by decide) (by decide) (by decide) (by decide) rfl rfl (Nat.le_of_ble_eq_true rfl) dX5_init_51 (fun q7 => ?_)
  show GI _ _ _ _ _ _ _ _ _ _ _ _ _ [(h0, .inr (5, [.ref q1, .int 0, .int 0])), (q1, .inl (cS, 8, .inr (.inr (.inr (.inr (va_up (va_up (fun _ => none) 0 (some q2)) 1 (some q4))))))), (q2, .inr (9, [.ref (q3 0), .ref (q3 1), .int 0])), ((q3 0), .inl (cI, 16, .inl (fun _ => 0))), ((q3 1), .inl (cI, 5, .inl (fun _ => 0))), (q4, .inr (9, [.ref (q5 0), .ref (q5 1), .int 0])), ((q5 0), .inl (cI, 16, .inl (fun _ => 0))), ((q5 1), .inl (cI, 5, .inl (fun _ => 0))), (q6, .inr (9, [.ref (q7 0), .ref (q7 1), .int 0])), ((q7 0), .inl (cI, 16, .inl (fun _ => 0))), ((q7 1), .inl (cI, 5, .inl (fun _ => 0)))] _ _ _ _ _
  refine i_astq (pc := 54) 1 8 9 (j := 2) (ws1 := [(h0, .inr (5, [.ref q1, .int 0, .int 0])), (q1, .inl (cS, 8, .inr (.inr (.inr (.inr (va_up (va_up (va_up (fun _ => none) 0 (some q2)) 1 (some q4)) 2 (some q6))))))), (q2, .inr (9, [.ref (q3 0), .ref (q3 1), .int 0])), ((q3 0), .inl (cI, 16, .inl (fun _ => 0))), ((q3 1), .inl (cI, 5, .inl (fun _ => 0))), (q4, .inr (9, [.ref (q5 0), .ref (q5 1), .int 0])), ((q5 0), .inl (cI, 16, .inl (fun _ => 0))), ((q5 1), .inl (cI, 5, .inl (fun _ => 0))), (q6, .inr (9, [.ref (q7 0), .ref (q7 1), .int 0])), ((q7 0), .inl (cI, 16, .inl (fun _ => 0))), ((q7 1), .inl (cI, 5, .inl (fun _ => 0)))]) rfl rfl rfl rfl (by unfold vp_in; decide) (by decide) rfl dX5_init_54 ?_
  refine i_iinc (pc := 55) [1, 2, 0] 2 (v := 3) (lv1 := [(0, Value.ref h0), (1, Value.int 8), (2, Value.int 3)]) dX5_init_55 rfl (by decide) (by decide) rfl ?_
  refine i_goto (pc := 58) (tgt := 33) dX5_init_58 (by decide) ?_
  refine i_iload_n (pc := 33) 2 dX5_init_33 rfl rfl ?_
  refine i_aload_n (pc := 34) 0 dX5_init_34 rfl rfl ?_
  refine i_get (pc := 35) 0 rfl rfl inlX5 0 (by decide) bw_5_0 rfl dX5_init_35 ?_
  refine i_alen (pc := 38) 1 1 (v := 8) rfl rfl (show Int32.ofNat 8 = 8 by decide) dX5_init_38 ?_
  refine i_ge_f (pc := 39) (tgt := 61) dX5_init_39 (by decide) (by decide) ?_
  refine i_aload_n (pc := 42) 0 dX5_init_42 rfl rfl ?_
  refine i_get (pc := 43) 0 rfl rfl inlX5 0 (by decide) bw_5_0 rfl dX5_init_43 ?_
  refine i_iload_n (pc := 46) 2 dX5_init_46 rfl rfl ?_
  refine i_new (pc := 47) (ci := 9) (fs := [.null, .null, .int 0]) inlX9 tyX9_ok bw_4_23 bw_2_2 bw_2_3 rfl (fun j hj => by rcases (show j = 0 ∨ j = 1 ∨ j = 2 by omega) with rfl | rfl | rfl <;> rfl) (by decide) (by decide) dX5_init_47 (fun q8 => ?_)
  show GI _ _ _ _ _ _ _ _ _ _ _ _ _ [(h0, .inr (5, [.ref q1, .int 0, .int 0])), (q1, .inl (cS, 8, .inr (.inr (.inr (.inr (va_up (va_up (va_up (fun _ => none) 0 (some q2)) 1 (some q4)) 2 (some q6))))))), (q2, .inr (9, [.ref (q3 0), .ref (q3 1), .int 0])), ((q3 0), .inl (cI, 16, .inl (fun _ => 0))), ((q3 1), .inl (cI, 5, .inl (fun _ => 0))), (q4, .inr (9, [.ref (q5 0), .ref (q5 1), .int 0])), ((q5 0), .inl (cI, 16, .inl (fun _ => 0))), ((q5 1), .inl (cI, 5, .inl (fun _ => 0))), (q6, .inr (9, [.ref (q7 0), .ref (q7 1), .int 0])), ((q7 0), .inl (cI, 16, .inl (fun _ => 0))), ((q7 1), .inl (cI, 5, .inl (fun _ => 0))), (q8, .inr (9, [.null, .null, .int 0]))] _ _ _ _ _
  refine i_dup (pc := 50) dX5_init_50 rfl ?_
  refine i_initN (pc := 51) (As := []) [(h0, .inr (5, [.ref q1, .int 0, .int 0])), (q1, .inl (cS, 8, .inr (.inr (.inr (.inr (va_up (va_up (va_up (fun _ => none) 0 (some q2)) 1 (some q4)) 2 (some q6))))))), (q2, .inr (9, [.ref (q3 0), .ref (q3 1), .int 0])), ((q3 0), .inl (cI, 16, .inl (fun _ => 0))), ((q3 1), .inl (cI, 5, .inl (fun _ => 0))), (q4, .inr (9, [.ref (q5 0), .ref (q5 1), .int 0])), ((q5 0), .inl (cI, 16, .inl (fun _ => 0))), ((q5 1), .inl (cI, 5, .inl (fun _ => 0))), (q6, .inr (9, [.ref (q7 0), .ref (q7 1), .int 0])), ((q7 0), .inl (cI, 16, .inl (fun _ => 0))), ((q7 1), .inl (cI, 5, .inl (fun _ => 0)))] [(q8, .inr (9, [.null, .null, .int 0]))] (ki_X9_init q8) rfl wk_X9_init bw_4_11 nst_RX5_22 rfl (by decide) (by decide) (by decide) (by decide) rfl rfl (Nat.le_of_ble_eq_true rfl) dX5_init_51 (fun q9 => ?_)
  show GI _ _ _ _ _ _ _ _ _ _ _ _ _ [(h0, .inr (5, [.ref q1, .int 0, .int 0])), (q1, .inl (cS, 8, .inr (.inr (.inr (.inr (va_up (va_up (va_up (fun _ => none) 0 (some q2)) 1 (some q4)) 2 (some q6))))))), (q2, .inr (9, [.ref (q3 0), .ref (q3 1), .int 0])), ((q3 0), .inl (cI, 16, .inl (fun _ => 0))), ((q3 1), .inl (cI, 5, .inl (fun _ => 0))), (q4, .inr (9, [.ref (q5 0), .ref (q5 1), .int 0])), ((q5 0), .inl (cI, 16, .inl (fun _ => 0))), ((q5 1), .inl (cI, 5, .inl (fun _ => 0))), (q6, .inr (9, [.ref (q7 0), .ref (q7 1), .int 0])), ((q7 0), .inl (cI, 16, .inl (fun _ => 0))), ((q7 1), .inl (cI, 5, .inl (fun _ => 0))), (q8, .inr (9, [.ref (q9 0), .ref (q9 1), .int 0])), ((q9 0), .inl (cI, 16, .inl (fun _ => 0))), ((q9 1), .inl (cI, 5, .inl (fun _ => 0)))] _ _ _ _ _
  refine i_astq (pc := 54) 1 11 9 (j := 3) (ws1 := [(h0, .inr (5, [.ref q1, .int 0, .int 0])), (q1, .inl (cS, 8, .inr (.inr (.inr (.inr (va_up (va_up (va_up (va_up (fun _ => none) 0 (some q2)) 1 (some q4)) 2 (some q6)) 3 (some q8))))))), (q2, .inr (9, [.ref (q3 0), .ref (q3 1), .int 0])), ((q3 0), .inl (cI, 16, .inl (fun _ => 0))), ((q3 1), .inl (cI, 5, .inl (fun _ => 0))), (q4, .inr (9, [.ref (q5 0), .ref (q5 1), .int 0])), ((q5 0), .inl (cI, 16, .inl (fun _ => 0))), ((q5 1), .inl (cI, 5, .inl (fun _ => 0))), (q6, .inr (9, [.ref (q7 0), .ref (q7 1), .int 0])), ((q7 0), .inl (cI, 16, .inl (fun _ => 0))), ((q7 1), .inl (cI, 5, .inl (fun _ => 0))), (q8, .inr (9, [.ref (q9 0), .ref (q9 1), .int 0])), ((q9 0), .inl (cI, 16, .inl (fun _ => 0))), ((q9 1), .inl (cI, 5, .inl (fun _ => 0)))]) rfl rfl rfl rfl (by unfold vp_in; decide) (by decide) rfl dX5_init_54 ?_
  refine i_iinc (pc := 55) [1, 2, 0] 2 (v := 4) (lv1 := [(0, Value.ref h0), (1, Value.int 8), (2, Value.int 4)]) dX5_init_55 rfl (by decide) (by decide) rfl ?_
  refine i_goto (pc := 58) (tgt := 33) dX5_init_58 (by decide) ?_
  refine i_iload_n (pc := 33) 2 dX5_init_33 rfl rfl ?_
  refine i_aload_n (pc := 34) 0 dX5_init_34 rfl rfl ?_
  refine i_get (pc := 35) 0 rfl rfl inlX5 0 (by decide) bw_5_0 rfl dX5_init_35 ?_
  refine i_alen (pc := 38) 1 1 (v := 8) rfl rfl (show Int32.ofNat 8 = 8 by decide) dX5_init_38 ?_
  refine i_ge_f (pc := 39) (tgt := 61) dX5_init_39 (by decide) (by decide) ?_
  refine i_aload_n (pc := 42) 0 dX5_init_42 rfl rfl ?_
  refine i_get (pc := 43) 0 rfl rfl inlX5 0 (by decide) bw_5_0 rfl dX5_init_43 ?_
  refine i_iload_n (pc := 46) 2 dX5_init_46 rfl rfl ?_
  refine i_new (pc := 47) (ci := 9) (fs := [.null, .null, .int 0]) inlX9 tyX9_ok bw_4_23 bw_2_2 bw_2_3 rfl (fun j hj => by rcases (show j = 0 ∨ j = 1 ∨ j = 2 by omega) with rfl | rfl | rfl <;> rfl) (by decide) (by decide) dX5_init_47 (fun q10 => ?_)
  show GI _ _ _ _ _ _ _ _ _ _ _ _ _ [(h0, .inr (5, [.ref q1, .int 0, .int 0])), (q1, .inl (cS, 8, .inr (.inr (.inr (.inr (va_up (va_up (va_up (va_up (fun _ => none) 0 (some q2)) 1 (some q4)) 2 (some q6)) 3 (some q8))))))), (q2, .inr (9, [.ref (q3 0), .ref (q3 1), .int 0])), ((q3 0), .inl (cI, 16, .inl (fun _ => 0))), ((q3 1), .inl (cI, 5, .inl (fun _ => 0))), (q4, .inr (9, [.ref (q5 0), .ref (q5 1), .int 0])), ((q5 0), .inl (cI, 16, .inl (fun _ => 0))), ((q5 1), .inl (cI, 5, .inl (fun _ => 0))), (q6, .inr (9, [.ref (q7 0), .ref (q7 1), .int 0])), ((q7 0), .inl (cI, 16, .inl (fun _ => 0))), ((q7 1), .inl (cI, 5, .inl (fun _ => 0))), (q8, .inr (9, [.ref (q9 0), .ref (q9 1), .int 0])), ((q9 0), .inl (cI, 16, .inl (fun _ => 0))), ((q9 1), .inl (cI, 5, .inl (fun _ => 0))), (q10, .inr (9, [.null, .null, .int 0]))] _ _ _ _ _
  refine i_dup (pc := 50) dX5_init_50 rfl ?_
  refine i_initN (pc := 51) (As := []) [(h0, .inr (5, [.ref q1, .int 0, .int 0])), (q1, .inl (cS, 8, .inr (.inr (.inr (.inr (va_up (va_up (va_up (va_up (fun _ => none) 0 (some q2)) 1 (some q4)) 2 (some q6)) 3 (some q8))))))), (q2, .inr (9, [.ref (q3 0), .ref (q3 1), .int 0])), ((q3 0), .inl (cI, 16, .inl (fun _ => 0))), ((q3 1), .inl (cI, 5, .inl (fun _ => 0))), (q4, .inr (9, [.ref (q5 0), .ref (q5 1), .int 0])), ((q5 0), .inl (cI, 16, .inl (fun _ => 0))), ((q5 1), .inl (cI, 5, .inl (fun _ => 0))), (q6, .inr (9, [.ref (q7 0), .ref (q7 1), .int 0])), ((q7 0), .inl (cI, 16, .inl (fun _ => 0))), ((q7 1), .inl (cI, 5, .inl (fun _ => 0))), (q8, .inr (9, [.ref (q9 0), .ref (q9 1), .int 0])), ((q9 0), .inl (cI, 16, .inl (fun _ => 0))), ((q9 1), .inl (cI, 5, .inl (fun _ => 0)))] [(q10, .inr (9, [.null, .null, .int 0]))] (ki_X9_init q10) rfl wk_X9_init bw_4_11 nst_RX5_22 rfl (by decide) (by decide) (by decide) (by decide) rfl rfl (Nat.le_of_ble_eq_true rfl) dX5_init_51 (fun q11 => ?_)
  show GI _ _ _ _ _ _ _ _ _ _ _ _ _ [(h0, .inr (5, [.ref q1, .int 0, .int 0])), (q1, .inl (cS, 8, .inr (.inr (.inr (.inr (va_up (va_up (va_up (va_up (fun _ => none) 0 (some q2)) 1 (some q4)) 2 (some q6)) 3 (some q8))))))), (q2, .inr (9, [.ref (q3 0), .ref (q3 1), .int 0])), ((q3 0), .inl (cI, 16, .inl (fun _ => 0))), ((q3 1), .inl (cI, 5, .inl (fun _ => 0))), (q4, .inr (9, [.ref (q5 0), .ref (q5 1), .int 0])), ((q5 0), .inl (cI, 16, .inl (fun _ => 0))), ((q5 1), .inl (cI, 5, .inl (fun _ => 0))), (q6, .inr (9, [.ref (q7 0), .ref (q7 1), .int 0])), ((q7 0), .inl (cI, 16, .inl (fun _ => 0))), ((q7 1), .inl (cI, 5, .inl (fun _ => 0))), (q8, .inr (9, [.ref (q9 0), .ref (q9 1), .int 0])), ((q9 0), .inl (cI, 16, .inl (fun _ => 0))), ((q9 1), .inl (cI, 5, .inl (fun _ => 0))), (q10, .inr (9, [.ref (q11 0), .ref (q11 1), .int 0])), ((q11 0), .inl (cI, 16, .inl (fun _ => 0))), ((q11 1), .inl (cI, 5, .inl (fun _ => 0)))] _ _ _ _ _
  refine i_astq (pc := 54) 1 14 9 (j := 4) (ws1 := [(h0, .inr (5, [.ref q1, .int 0, .int 0])), (q1, .inl (cS, 8, .inr (.inr (.inr (.inr (va_up (va_up (va_up (va_up (va_up (fun _ => none) 0 (some q2)) 1 (some q4)) 2 (some q6)) 3 (some q8)) 4 (some q10))))))), (q2, .inr (9, [.ref (q3 0), .ref (q3 1), .int 0])), ((q3 0), .inl (cI, 16, .inl (fun _ => 0))), ((q3 1), .inl (cI, 5, .inl (fun _ => 0))), (q4, .inr (9, [.ref (q5 0), .ref (q5 1), .int 0])), ((q5 0), .inl (cI, 16, .inl (fun _ => 0))), ((q5 1), .inl (cI, 5, .inl (fun _ => 0))), (q6, .inr (9, [.ref (q7 0), .ref (q7 1), .int 0])), ((q7 0), .inl (cI, 16, .inl (fun _ => 0))), ((q7 1), .inl (cI, 5, .inl (fun _ => 0))), (q8, .inr (9, [.ref (q9 0), .ref (q9 1), .int 0])), ((q9 0), .inl (cI, 16, .inl (fun _ => 0))), ((q9 1), .inl (cI, 5, .inl (fun _ => 0))), (q10, .inr (9, [.ref (q11 0), .ref (q11 1), .int 0])), ((q11 0), .inl (cI, 16, .inl (fun _ => 0))), ((q11 1), .inl (cI, 5, .inl (fun _ => 0)))]) rfl rfl rfl rfl (by unfold vp_in; decide) (by decide) rfl dX5_init_54 ?_
  refine i_iinc (pc := 55) [1, 2, 0] 2 (v := 5) (lv1 := [(0, Value.ref h0), (1, Value.int 8), (2, Value.int 5)]) dX5_init_55 rfl (by decide) (by decide) rfl ?_
  refine i_goto (pc := 58) (tgt := 33) dX5_init_58 (by decide) ?_
  refine i_iload_n (pc := 33) 2 dX5_init_33 rfl rfl ?_
  refine i_aload_n (pc := 34) 0 dX5_init_34 rfl rfl ?_
  refine i_get (pc := 35) 0 rfl rfl inlX5 0 (by decide) bw_5_0 rfl dX5_init_35 ?_
  refine i_alen (pc := 38) 1 1 (v := 8) rfl rfl (show Int32.ofNat 8 = 8 by decide) dX5_init_38 ?_
  refine i_ge_f (pc := 39) (tgt := 61) dX5_init_39 (by decide) (by decide) ?_
  refine i_aload_n (pc := 42) 0 dX5_init_42 rfl rfl ?_
  refine i_get (pc := 43) 0 rfl rfl inlX5 0 (by decide) bw_5_0 rfl dX5_init_43 ?_
  refine i_iload_n (pc := 46) 2 dX5_init_46 rfl rfl ?_
  refine i_new (pc := 47) (ci := 9) (fs := [.null, .null, .int 0]) inlX9 tyX9_ok bw_4_23 bw_2_2 bw_2_3 rfl (fun j hj => by rcases (show j = 0 ∨ j = 1 ∨ j = 2 by omega) with rfl | rfl | rfl <;> rfl) (by decide) (by decide) dX5_init_47 (fun q12 => ?_)
  show GI _ _ _ _ _ _ _ _ _ _ _ _ _ [(h0, .inr (5, [.ref q1, .int 0, .int 0])), (q1, .inl (cS, 8, .inr (.inr (.inr (.inr (va_up (va_up (va_up (va_up (va_up (fun _ => none) 0 (some q2)) 1 (some q4)) 2 (some q6)) 3 (some q8)) 4 (some q10))))))), (q2, .inr (9, [.ref (q3 0), .ref (q3 1), .int 0])), ((q3 0), .inl (cI, 16, .inl (fun _ => 0))), ((q3 1), .inl (cI, 5, .inl (fun _ => 0))), (q4, .inr (9, [.ref (q5 0), .ref (q5 1), .int 0])), ((q5 0), .inl (cI, 16, .inl (fun _ => 0))), ((q5 1), .inl (cI, 5, .inl (fun _ => 0))), (q6, .inr (9, [.ref (q7 0), .ref (q7 1), .int 0])), ((q7 0), .inl (cI, 16, .inl (fun _ => 0))), ((q7 1), .inl (cI, 5, .inl (fun _ => 0))), (q8, .inr (9, [.ref (q9 0), .ref (q9 1), .int 0])), ((q9 0), .inl (cI, 16, .inl (fun _ => 0))), ((q9 1), .inl (cI, 5, .inl (fun _ => 0))), (q10, .inr (9, [.ref (q11 0), .ref (q11 1), .int 0])), ((q11 0), .inl (cI, 16, .inl (fun _ => 0))), ((q11 1), .inl (cI, 5, .inl (fun _ => 0))), (q12, .inr (9, [.null, .null, .int 0]))] _ _ _ _ _
  refine i_dup (pc := 50) dX5_init_50 rfl ?_
  refine i_initN (pc := 51) (As := []) [(h0, .inr (5, [.ref q1, .int 0, .int 0])), (q1, .inl (cS, 8, .inr (.inr (.inr (.inr (va_up (va_up (va_up (va_up (va_up (fun _ => none) 0 (some q2)) 1 (some q4)) 2 (some q6)) 3 (some q8)) 4 (some q10))))))), (q2, .inr (9, [.ref (q3 0), .ref (q3 1), .int 0])), ((q3 0), .inl (cI, 16, .inl (fun _ => 0))), ((q3 1), .inl (cI, 5, .inl (fun _ => 0))), (q4, .inr (9, [.ref (q5 0), .ref (q5 1), .int 0])), ((q5 0), .inl (cI, 16, .inl (fun _ => 0))), ((q5 1), .inl (cI, 5, .inl (fun _ => 0))), (q6, .inr (9, [.ref (q7 0), .ref (q7 1), .int 0])), ((q7 0), .inl (cI, 16, .inl (fun _ => 0))), ((q7 1), .inl (cI, 5, .inl (fun _ => 0))), (q8, .inr (9, [.ref (q9 0), .ref (q9 1), .int 0])), ((q9 0), .inl (cI, 16, .inl (fun _ => 0))), ((q9 1), .inl (cI, 5, .inl (fun _ => 0))), (q10, .inr (9, [.ref (q11 0), .ref (q11 1), .int 0])), ((q11 0), .inl (cI, 16, .inl (fun _ => 0))), ((q11 1), .inl (cI, 5, .inl (fun _ => 0)))] [(q12, .inr (9, [.null, .null, .int 0]))] (ki_X9_init q12) rfl wk_X9_init bw_4_11 nst_RX5_22 rfl (by decide) (by decide) (by decide) (by decide) rfl rfl (Nat.le_of_ble_eq_true rfl) dX5_init_51 (fun q13 => ?_)
  show GI _ _ _ _ _ _ _ _ _ _ _ _ _ [(h0, .inr (5, [.ref q1, .int 0, .int 0])), (q1, .inl (cS, 8, .inr (.inr (.inr (.inr (va_up (va_up (va_up (va_up (va_up (fun _ => none) 0 (some q2)) 1 (some q4)) 2 (some q6)) 3 (some q8)) 4 (some q10))))))), (q2, .inr (9, [.ref (q3 0), .ref (q3 1), .int 0])), ((q3 0), .inl (cI, 16, .inl (fun _ => 0))), ((q3 1), .inl (cI, 5, .inl (fun _ => 0))), (q4, .inr (9, [.ref (q5 0), .ref (q5 1), .int 0])), ((q5 0), .inl (cI, 16, .inl (fun _ => 0))), ((q5 1), .inl (cI, 5, .inl (fun _ => 0))), (q6, .inr (9, [.ref (q7 0), .ref (q7 1), .int 0])), ((q7 0), .inl (cI, 16, .inl (fun _ => 0))), ((q7 1), .inl (cI, 5, .inl (fun _ => 0))), (q8, .inr (9, [.ref (q9 0), .ref (q9 1), .int 0])), ((q9 0), .inl (cI, 16, .inl (fun _ => 0))), ((q9 1), .inl (cI, 5, .inl (fun _ => 0))), (q10, .inr (9, [.ref (q11 0), .ref (q11 1), .int 0])), ((q11 0), .inl (cI, 16, .inl (fun _ => 0))), ((q11 1), .inl (cI, 5, .inl (fun _ => 0))), (q12, .inr (9, [.ref (q13 0), .ref (q13 1), .int 0])), ((q13 0), .inl (cI, 16, .inl (fun _ => 0))), ((q13 1), .inl (cI, 5, .inl (fun _ => 0)))] _ _ _ _ _
  refine i_astq (pc := 54) 1 17 9 (j := 5) (ws1 := [(h0, .inr (5, [.ref q1, .int 0, .int 0])), (q1, .inl (cS, 8, .inr (.inr (.inr (.inr (va_up (va_up (va_up (va_up (va_up (va_up (fun _ => none) 0 (some q2)) 1 (some q4)) 2 (some q6)) 3 (some q8)) 4 (some q10)) 5 (some q12))))))), (q2, .inr (9, [.ref (q3 0), .ref (q3 1), .int 0])), ((q3 0), .inl (cI, 16, .inl (fun _ => 0))), ((q3 1), .inl (cI, 5, .inl (fun _ => 0))), (q4, .inr (9, [.ref (q5 0), .ref (q5 1), .int 0])), ((q5 0), .inl (cI, 16, .inl (fun _ => 0))), ((q5 1), .inl (cI, 5, .inl (fun _ => 0))), (q6, .inr (9, [.ref (q7 0), .ref (q7 1), .int 0])), ((q7 0), .inl (cI, 16, .inl (fun _ => 0))), ((q7 1), .inl (cI, 5, .inl (fun _ => 0))), (q8, .inr (9, [.ref (q9 0), .ref (q9 1), .int 0])), ((q9 0), .inl (cI, 16, .inl (fun _ => 0))), ((q9 1), .inl (cI, 5, .inl (fun _ => 0))), (q10, .inr (9, [.ref (q11 0), .ref (q11 1), .int 0])), ((q11 0), .inl (cI, 16, .inl (fun _ => 0))), ((q11 1), .inl (cI, 5, .inl (fun _ => 0))), (q12, .inr (9, [.ref (q13 0), .ref (q13 1), .int 0])), ((q13 0), .inl (cI, 16, .inl (fun _ => 0))), ((q13 1), .inl (cI, 5, .inl (fun _ => 0)))]) rfl rfl rfl rfl (by unfold vp_in; decide) (by decide) rfl dX5_init_54 ?_
  refine i_iinc (pc := 55) [1, 2, 0] 2 (v := 6) (lv1 := [(0, Value.ref h0), (1, Value.int 8), (2, Value.int 6)]) dX5_init_55 rfl (by decide) (by decide) rfl ?_
  refine i_goto (pc := 58) (tgt := 33) dX5_init_58 (by decide) ?_
  refine i_iload_n (pc := 33) 2 dX5_init_33 rfl rfl ?_
  refine i_aload_n (pc := 34) 0 dX5_init_34 rfl rfl ?_
  refine i_get (pc := 35) 0 rfl rfl inlX5 0 (by decide) bw_5_0 rfl dX5_init_35 ?_
  refine i_alen (pc := 38) 1 1 (v := 8) rfl rfl (show Int32.ofNat 8 = 8 by decide) dX5_init_38 ?_
  refine i_ge_f (pc := 39) (tgt := 61) dX5_init_39 (by decide) (by decide) ?_
  refine i_aload_n (pc := 42) 0 dX5_init_42 rfl rfl ?_
  refine i_get (pc := 43) 0 rfl rfl inlX5 0 (by decide) bw_5_0 rfl dX5_init_43 ?_
  refine i_iload_n (pc := 46) 2 dX5_init_46 rfl rfl ?_
  refine i_new (pc := 47) (ci := 9) (fs := [.null, .null, .int 0]) inlX9 tyX9_ok bw_4_23 bw_2_2 bw_2_3 rfl (fun j hj => by rcases (show j = 0 ∨ j = 1 ∨ j = 2 by omega) with rfl | rfl | rfl <;> rfl) (by decide) (by decide) dX5_init_47 (fun q14 => ?_)
  show GI _ _ _ _ _ _ _ _ _ _ _ _ _ [(h0, .inr (5, [.ref q1, .int 0, .int 0])), (q1, .inl (cS, 8, .inr (.inr (.inr (.inr (va_up (va_up (va_up (va_up (va_up (va_up (fun _ => none) 0 (some q2)) 1 (some q4)) 2 (some q6)) 3 (some q8)) 4 (some q10)) 5 (some q12))))))), (q2, .inr (9, [.ref (q3 0), .ref (q3 1), .int 0])), ((q3 0), .inl (cI, 16, .inl (fun _ => 0))), ((q3 1), .inl (cI, 5, .inl (fun _ => 0))), (q4, .inr (9, [.ref (q5 0), .ref (q5 1), .int 0])), ((q5 0), .inl (cI, 16, .inl (fun _ => 0))), ((q5 1), .inl (cI, 5, .inl (fun _ => 0))), (q6, .inr (9, [.ref (q7 0), .ref (q7 1), .int 0])), ((q7 0), .inl (cI, 16, .inl (fun _ => 0))), ((q7 1), .inl (cI, 5, .inl (fun _ => 0))), (q8, .inr (9, [.ref (q9 0), .ref (q9 1), .int 0])), ((q9 0), .inl (cI, 16, .inl (fun _ => 0))), ((q9 1), .inl (cI, 5, .inl (fun _ => 0))), (q10, .inr (9, [.ref (q11 0), .ref (q11 1), .int 0])), ((q11 0), .inl (cI, 16, .inl (fun _ => 0))), ((q11 1), .inl (cI, 5, .inl (fun _ => 0))), (q12, .inr (9, [.ref (q13 0), .ref (q13 1), .int 0])), ((q13 0), .inl (cI, 16, .inl (fun _ => 0))), ((q13 1), .inl (cI, 5, .inl (fun _ => 0))), (q14, .inr (9, [.null, .null, .int 0]))] _ _ _ _ _
  refine i_dup (pc := 50) dX5_init_50 rfl ?_
  refine i_initN (pc := 51) (As := []) [(h0, .inr (5, [.ref q1, .int 0, .int 0])), (q1, .inl (cS, 8, .inr (.inr (.inr (.inr (va_up (va_up (va_up (va_up (va_up (va_up (fun _ => none) 0 (some q2)) 1 (some q4)) 2 (some q6)) 3 (some q8)) 4 (some q10)) 5 (some q12))))))), (q2, .inr (9, [.ref (q3 0), .ref (q3 1), .int 0])), ((q3 0), .inl (cI, 16, .inl (fun _ => 0))), ((q3 1), .inl (cI, 5, .inl (fun _ => 0))), (q4, .inr (9, [.ref (q5 0), .ref (q5 1), .int 0])), ((q5 0), .inl (cI, 16, .inl (fun _ => 0))), ((q5 1), .inl (cI, 5, .inl (fun _ => 0))), (q6, .inr (9, [.ref (q7 0), .ref (q7 1), .int 0])), ((q7 0), .inl (cI, 16, .inl (fun _ => 0))), ((q7 1), .inl (cI, 5, .inl (fun _ => 0))), (q8, .inr (9, [.ref (q9 0), .ref (q9 1), .int 0])), ((q9 0), .inl (cI, 16, .inl (fun _ => 0))), ((q9 1), .inl (cI, 5, .inl (fun _ => 0))), (q10, .inr (9, [.ref (q11 0), .ref (q11 1), .int 0])), ((q11 0), .inl (cI, 16, .inl (fun _ => 0))), ((q11 1), .inl (cI, 5, .inl (fun _ => 0))), (q12, .inr (9, [.ref (q13 0), .ref (q13 1), .int 0])), ((q13 0), .inl (cI, 16, .inl (fun _ => 0))), ((q13 1), .inl (cI, 5, .inl (fun _ => 0)))] [(q14, .inr (9, [.null, .null, .int 0]))] (ki_X9_init q14) rfl wk_X9_init bw_4_11 nst_RX5_22 rfl (by decide) (by decide) (by decide) (by decide) rfl rfl (Nat.le_of_ble_eq_true rfl) dX5_init_51 (fun q15 => ?_)
  show GI _ _ _ _ _ _ _ _ _ _ _ _ _ [(h0, .inr (5, [.ref q1, .int 0, .int 0])), (q1, .inl (cS, 8, .inr (.inr (.inr (.inr (va_up (va_up (va_up (va_up (va_up (va_up (fun _ => none) 0 (some q2)) 1 (some q4)) 2 (some q6)) 3 (some q8)) 4 (some q10)) 5 (some q12))))))), (q2, .inr (9, [.ref (q3 0), .ref (q3 1), .int 0])), ((q3 0), .inl (cI, 16, .inl (fun _ => 0))), ((q3 1), .inl (cI, 5, .inl (fun _ => 0))), (q4, .inr (9, [.ref (q5 0), .ref (q5 1), .int 0])), ((q5 0), .inl (cI, 16, .inl (fun _ => 0))), ((q5 1), .inl (cI, 5, .inl (fun _ => 0))), (q6, .inr (9, [.ref (q7 0), .ref (q7 1), .int 0])), ((q7 0), .inl (cI, 16, .inl (fun _ => 0))), ((q7 1), .inl (cI, 5, .inl (fun _ => 0))), (q8, .inr (9, [.ref (q9 0), .ref (q9 1), .int 0])), ((q9 0), .inl (cI, 16, .inl (fun _ => 0))), ((q9 1), .inl (cI, 5, .inl (fun _ => 0))), (q10, .inr (9, [.ref (q11 0), .ref (q11 1), .int 0])), ((q11 0), .inl (cI, 16, .inl (fun _ => 0))), ((q11 1), .inl (cI, 5, .inl (fun _ => 0))), (q12, .inr (9, [.ref (q13 0), .ref (q13 1), .int 0])), ((q13 0), .inl (cI, 16, .inl (fun _ => 0))), ((q13 1), .inl (cI, 5, .inl (fun _ => 0))), (q14, .inr (9, [.ref (q15 0), .ref (q15 1), .int 0])), ((q15 0), .inl (cI, 16, .inl (fun _ => 0))), ((q15 1), .inl (cI, 5, .inl (fun _ => 0)))] _ _ _ _ _
  refine i_astq (pc := 54) 1 20 9 (j := 6) (ws1 := [(h0, .inr (5, [.ref q1, .int 0, .int 0])), (q1, .inl (cS, 8, .inr (.inr (.inr (.inr (va_up (va_up (va_up (va_up (va_up (va_up (va_up (fun _ => none) 0 (some q2)) 1 (some q4)) 2 (some q6)) 3 (some q8)) 4 (some q10)) 5 (some q12)) 6 (some q14))))))), (q2, .inr (9, [.ref (q3 0), .ref (q3 1), .int 0])), ((q3 0), .inl (cI, 16, .inl (fun _ => 0))), ((q3 1), .inl (cI, 5, .inl (fun _ => 0))), (q4, .inr (9, [.ref (q5 0), .ref (q5 1), .int 0])), ((q5 0), .inl (cI, 16, .inl (fun _ => 0))), ((q5 1), .inl (cI, 5, .inl (fun _ => 0))), (q6, .inr (9, [.ref (q7 0), .ref (q7 1), .int 0])), ((q7 0), .inl (cI, 16, .inl (fun _ => 0))), ((q7 1), .inl (cI, 5, .inl (fun _ => 0))), (q8, .inr (9, [.ref (q9 0), .ref (q9 1), .int 0])), ((q9 0), .inl (cI, 16, .inl (fun _ => 0))), ((q9 1), .inl (cI, 5, .inl (fun _ => 0))), (q10, .inr (9, [.ref (q11 0), .ref (q11 1), .int 0])), ((q11 0), .inl (cI, 16, .inl (fun _ => 0))), ((q11 1), .inl (cI, 5, .inl (fun _ => 0))), (q12, .inr (9, [.ref (q13 0), .ref (q13 1), .int 0])), ((q13 0), .inl (cI, 16, .inl (fun _ => 0))), ((q13 1), .inl (cI, 5, .inl (fun _ => 0))), (q14, .inr (9, [.ref (q15 0), .ref (q15 1), .int 0])), ((q15 0), .inl (cI, 16, .inl (fun _ => 0))), ((q15 1), .inl (cI, 5, .inl (fun _ => 0)))]) rfl rfl rfl rfl (by unfold vp_in; decide) (by decide) rfl dX5_init_54 ?_
  refine i_iinc (pc := 55) [1, 2, 0] 2 (v := 7) (lv1 := [(0, Value.ref h0), (1, Value.int 8), (2, Value.int 7)]) dX5_init_55 rfl (by decide) (by decide) rfl ?_
  refine i_goto (pc := 58) (tgt := 33) dX5_init_58 (by decide) ?_
  refine i_iload_n (pc := 33) 2 dX5_init_33 rfl rfl ?_
  refine i_aload_n (pc := 34) 0 dX5_init_34 rfl rfl ?_
  refine i_get (pc := 35) 0 rfl rfl inlX5 0 (by decide) bw_5_0 rfl dX5_init_35 ?_
  refine i_alen (pc := 38) 1 1 (v := 8) rfl rfl (show Int32.ofNat 8 = 8 by decide) dX5_init_38 ?_
  refine i_ge_f (pc := 39) (tgt := 61) dX5_init_39 (by decide) (by decide) ?_
  refine i_aload_n (pc := 42) 0 dX5_init_42 rfl rfl ?_
  refine i_get (pc := 43) 0 rfl rfl inlX5 0 (by decide) bw_5_0 rfl dX5_init_43 ?_
  refine i_iload_n (pc := 46) 2 dX5_init_46 rfl rfl ?_
  refine i_new (pc := 47) (ci := 9) (fs := [.null, .null, .int 0]) inlX9 tyX9_ok bw_4_23 bw_2_2 bw_2_3 rfl (fun j hj => by rcases (show j = 0 ∨ j = 1 ∨ j = 2 by omega) with rfl | rfl | rfl <;> rfl) (by decide) (by decide) dX5_init_47 (fun q16 => ?_)
  show GI _ _ _ _ _ _ _ _ _ _ _ _ _ [(h0, .inr (5, [.ref q1, .int 0, .int 0])), (q1, .inl (cS, 8, .inr (.inr (.inr (.inr (va_up (va_up (va_up (va_up (va_up (va_up (va_up (fun _ => none) 0 (some q2)) 1 (some q4)) 2 (some q6)) 3 (some q8)) 4 (some q10)) 5 (some q12)) 6 (some q14))))))), (q2, .inr (9, [.ref (q3 0), .ref (q3 1), .int 0])), ((q3 0), .inl (cI, 16, .inl (fun _ => 0))), ((q3 1), .inl (cI, 5, .inl (fun _ => 0))), (q4, .inr (9, [.ref (q5 0), .ref (q5 1), .int 0])), ((q5 0), .inl (cI, 16, .inl (fun _ => 0))), ((q5 1), .inl (cI, 5, .inl (fun _ => 0))), (q6, .inr (9, [.ref (q7 0), .ref (q7 1), .int 0])), ((q7 0), .inl (cI, 16, .inl (fun _ => 0))), ((q7 1), .inl (cI, 5, .inl (fun _ => 0))), (q8, .inr (9, [.ref (q9 0), .ref (q9 1), .int 0])), ((q9 0), .inl (cI, 16, .inl (fun _ => 0))), ((q9 1), .inl (cI, 5, .inl (fun _ => 0))), (q10, .inr (9, [.ref (q11 0), .ref (q11 1), .int 0])), ((q11 0), .inl (cI, 16, .inl (fun _ => 0))), ((q11 1), .inl (cI, 5, .inl (fun _ => 0))), (q12, .inr (9, [.ref (q13 0), .ref (q13 1), .int 0])), ((q13 0), .inl (cI, 16, .inl (fun _ => 0))), ((q13 1), .inl (cI, 5, .inl (fun _ => 0))), (q14, .inr (9, [.ref (q15 0), .ref (q15 1), .int 0])), ((q15 0), .inl (cI, 16, .inl (fun _ => 0))), ((q15 1), .inl (cI, 5, .inl (fun _ => 0))), (q16, .inr (9, [.null, .null, .int 0]))] _ _ _ _ _
  refine i_dup (pc := 50) dX5_init_50 rfl ?_
  refine i_initN (pc := 51) (As := []) [(h0, .inr (5, [.ref q1, .int 0, .int 0])), (q1, .inl (cS, 8, .inr (.inr (.inr (.inr (va_up (va_up (va_up (va_up (va_up (va_up (va_up (fun _ => none) 0 (some q2)) 1 (some q4)) 2 (some q6)) 3 (some q8)) 4 (some q10)) 5 (some q12)) 6 (some q14))))))), (q2, .inr (9, [.ref (q3 0), .ref (q3 1), .int 0])), ((q3 0), .inl (cI, 16, .inl (fun _ => 0))), ((q3 1), .inl (cI, 5, .inl (fun _ => 0))), (q4, .inr (9, [.ref (q5 0), .ref (q5 1), .int 0])), ((q5 0), .inl (cI, 16, .inl (fun _ => 0))), ((q5 1), .inl (cI, 5, .inl (fun _ => 0))), (q6, .inr (9, [.ref (q7 0), .ref (q7 1), .int 0])), ((q7 0), .inl (cI, 16, .inl (fun _ => 0))), ((q7 1), .inl (cI, 5, .inl (fun _ => 0))), (q8, .inr (9, [.ref (q9 0), .ref (q9 1), .int 0])), ((q9 0), .inl (cI, 16, .inl (fun _ => 0))), ((q9 1), .inl (cI, 5, .inl (fun _ => 0))), (q10, .inr (9, [.ref (q11 0), .ref (q11 1), .int 0])), ((q11 0), .inl (cI, 16, .inl (fun _ => 0))), ((q11 1), .inl (cI, 5, .inl (fun _ => 0))), (q12, .inr (9, [.ref (q13 0), .ref (q13 1), .int 0])), ((q13 0), .inl (cI, 16, .inl (fun _ => 0))), ((q13 1), .inl (cI, 5, .inl (fun _ => 0))), (q14, .inr (9, [.ref (q15 0), .ref (q15 1), .int 0])), ((q15 0), .inl (cI, 16, .inl (fun _ => 0))), ((q15 1), .inl (cI, 5, .inl (fun _ => 0)))] [(q16, .inr (9, [.null, .null, .int 0]))] (ki_X9_init q16) rfl wk_X9_init bw_4_11 nst_RX5_22 rfl (by decide) (by decide) (by decide) (by decide) rfl rfl (Nat.le_of_ble_eq_true rfl) dX5_init_51 (fun q17 => ?_)
  show GI _ _ _ _ _ _ _ _ _ _ _ _ _ [(h0, .inr (5, [.ref q1, .int 0, .int 0])), (q1, .inl (cS, 8, .inr (.inr (.inr (.inr (va_up (va_up (va_up (va_up (va_up (va_up (va_up (fun _ => none) 0 (some q2)) 1 (some q4)) 2 (some q6)) 3 (some q8)) 4 (some q10)) 5 (some q12)) 6 (some q14))))))), (q2, .inr (9, [.ref (q3 0), .ref (q3 1), .int 0])), ((q3 0), .inl (cI, 16, .inl (fun _ => 0))), ((q3 1), .inl (cI, 5, .inl (fun _ => 0))), (q4, .inr (9, [.ref (q5 0), .ref (q5 1), .int 0])), ((q5 0), .inl (cI, 16, .inl (fun _ => 0))), ((q5 1), .inl (cI, 5, .inl (fun _ => 0))), (q6, .inr (9, [.ref (q7 0), .ref (q7 1), .int 0])), ((q7 0), .inl (cI, 16, .inl (fun _ => 0))), ((q7 1), .inl (cI, 5, .inl (fun _ => 0))), (q8, .inr (9, [.ref (q9 0), .ref (q9 1), .int 0])), ((q9 0), .inl (cI, 16, .inl (fun _ => 0))), ((q9 1), .inl (cI, 5, .inl (fun _ => 0))), (q10, .inr (9, [.ref (q11 0), .ref (q11 1), .int 0])), ((q11 0), .inl (cI, 16, .inl (fun _ => 0))), ((q11 1), .inl (cI, 5, .inl (fun _ => 0))), (q12, .inr (9, [.ref (q13 0), .ref (q13 1), .int 0])), ((q13 0), .inl (cI, 16, .inl (fun _ => 0))), ((q13 1), .inl (cI, 5, .inl (fun _ => 0))), (q14, .inr (9, [.ref (q15 0), .ref (q15 1), .int 0])), ((q15 0), .inl (cI, 16, .inl (fun _ => 0))), ((q15 1), .inl (cI, 5, .inl (fun _ => 0))), (q16, .inr (9, [.ref (q17 0), .ref (q17 1), .int 0])), ((q17 0), .inl (cI, 16, .inl (fun _ => 0))), ((q17 1), .inl (cI, 5, .inl (fun _ => 0)))] _ _ _ _ _
  refine i_astq (pc := 54) 1 23 9 (j := 7) (ws1 := [(h0, .inr (5, [.ref q1, .int 0, .int 0])), (q1, .inl (cS, 8, .inr (.inr (.inr (.inr (va_up (va_up (va_up (va_up (va_up (va_up (va_up (va_up (fun _ => none) 0 (some q2)) 1 (some q4)) 2 (some q6)) 3 (some q8)) 4 (some q10)) 5 (some q12)) 6 (some q14)) 7 (some q16))))))), (q2, .inr (9, [.ref (q3 0), .ref (q3 1), .int 0])), ((q3 0), .inl (cI, 16, .inl (fun _ => 0))), ((q3 1), .inl (cI, 5, .inl (fun _ => 0))), (q4, .inr (9, [.ref (q5 0), .ref (q5 1), .int 0])), ((q5 0), .inl (cI, 16, .inl (fun _ => 0))), ((q5 1), .inl (cI, 5, .inl (fun _ => 0))), (q6, .inr (9, [.ref (q7 0), .ref (q7 1), .int 0])), ((q7 0), .inl (cI, 16, .inl (fun _ => 0))), ((q7 1), .inl (cI, 5, .inl (fun _ => 0))), (q8, .inr (9, [.ref (q9 0), .ref (q9 1), .int 0])), ((q9 0), .inl (cI, 16, .inl (fun _ => 0))), ((q9 1), .inl (cI, 5, .inl (fun _ => 0))), (q10, .inr (9, [.ref (q11 0), .ref (q11 1), .int 0])), ((q11 0), .inl (cI, 16, .inl (fun _ => 0))), ((q11 1), .inl (cI, 5, .inl (fun _ => 0))), (q12, .inr (9, [.ref (q13 0), .ref (q13 1), .int 0])), ((q13 0), .inl (cI, 16, .inl (fun _ => 0))), ((q13 1), .inl (cI, 5, .inl (fun _ => 0))), (q14, .inr (9, [.ref (q15 0), .ref (q15 1), .int 0])), ((q15 0), .inl (cI, 16, .inl (fun _ => 0))), ((q15 1), .inl (cI, 5, .inl (fun _ => 0))), (q16, .inr (9, [.ref (q17 0), .ref (q17 1), .int 0])), ((q17 0), .inl (cI, 16, .inl (fun _ => 0))), ((q17 1), .inl (cI, 5, .inl (fun _ => 0)))]) rfl rfl rfl rfl (by unfold vp_in; decide) (by decide) rfl dX5_init_54 ?_
  refine i_iinc (pc := 55) [1, 2, 0] 2 (v := 8) (lv1 := [(0, Value.ref h0), (1, Value.int 8), (2, Value.int 8)]) dX5_init_55 rfl (by decide) (by decide) rfl ?_
  refine i_goto (pc := 58) (tgt := 33) dX5_init_58 (by decide) ?_
  refine i_iload_n (pc := 33) 2 dX5_init_33 rfl rfl ?_
  refine i_aload_n (pc := 34) 0 dX5_init_34 rfl rfl ?_
  refine i_get (pc := 35) 0 rfl rfl inlX5 0 (by decide) bw_5_0 rfl dX5_init_35 ?_
  refine i_alen (pc := 38) 1 1 (v := 8) rfl rfl (show Int32.ofNat 8 = 8 by decide) dX5_init_38 ?_
  refine i_ge_t (pc := 39) (tgt := 61) dX5_init_39 (by decide) (by decide) ?_
  have e : (va_up (va_up (va_up (va_up (va_up (va_up (va_up (va_up (fun _ => none) 0 (some q2)) 1 (some q4)) 2 (some q6)) 3 (some q8)) 4 (some q10)) 5 (some q12)) 6 (some q14)) 7 (some q16)) = rB (fun j => ([q1, q2, (q3 0), (q3 1), q4, (q5 0), (q5 1), q6, (q7 0), (q7 1), q8, (q9 0), (q9 1), q10, (q11 0), (q11 1), q12, (q13 0), (q13 1), q14, (q15 0), (q15 1), q16, (q17 0), (q17 1)] : List Nat).getD j 0) 8 := chain8 rfl rfl rfl rfl rfl rfl rfl rfl (fun k hk => if_neg (by omega))
  exact i_ret (pc := 61) (fun j => ([q1, q2, (q3 0), (q3 1), q4, (q5 0), (q5 1), q6, (q7 0), (q7 1), q8, (q9 0), (q9 1), q10, (q11 0), (q11 1), q12, (q13 0), (q13 1), q14, (q15 0), (q15 1), q16, (q17 0), (q17 1)] : List Nat).getD j 0) (by rw [e]; rfl) (by decide) (by decide) dX5_init_61
set_option maxRecDepth 100000 in
set_option maxHeartbeats 4000000 in
theorem ki_X5_init_2 {l : Launch} {D : va_G} {cI cS : ClassId} (h0 : Nat) : Ki l D cI cS yX5_init cX5_init 3 2 7 50 [Value.ref h0, Value.int 2] [(h0, .inr (5, [.null, .int 0, .int 0]))] (fun q => [(h0, .inr (5, [.ref (q 0), .int 0, .int 0])), ((q 0), .inl (cS, 2, .inr (.inr (.inr (.inr (rB q 2)))))), ((q 1), .inr (9, [.ref (q 2), .ref (q 3), .int 0])), ((q 2), .inl (cI, 16, .inl (fun _ => 0))), ((q 3), .inl (cI, 5, .inl (fun _ => 0))), ((q 4), .inr (9, [.ref (q 5), .ref (q 6), .int 0])), ((q 5), .inl (cI, 16, .inl (fun _ => 0))), ((q 6), .inl (cI, 5, .inl (fun _ => 0)))]) := by
  refine enterI (own := RX5) (plainFor_of_name (by decide +kernel)) rfl rfl (Nat.le_of_ble_eq_true rfl) (fun Γ A => ?_)
  show GI _ _ _ _ _ _ _ _ _ _ _ _ _ _ _ _ [(0, Value.ref h0), (1, Value.int 2)] 0 []
  refine i_aload_n (pc := 0) 0 dX5_init_0 rfl rfl ?_
  refine i_obj (pc := 1) bw_4_20 bw_1_10 bw_1_11 dX5_init_1 (by decide) (Nat.le_of_ble_eq_true rfl) ?_
  refine i_aload_n (pc := 4) 0 dX5_init_4 rfl rfl ?_
  refine i_iconst (pc := 5) (v := 0) dX5_init_5 (by decide) ?_
  refine i_put (pc := 6) 0 (ty := .int) (ws1 := [(h0, .inr (5, [.null, .int 0, .int 0]))]) rfl rfl inlX5 tyX5_ok nmX5 1 (by decide) bw_4_21 rfl (by decide +kernel) rfl rfl (Nat.le_of_ble_eq_true rfl) rfl dX5_init_6 ?_
  refine i_aload_n (pc := 9) 0 dX5_init_9 rfl rfl ?_
  refine i_iconst (pc := 10) (v := 0) dX5_init_10 (by decide) ?_
  refine i_put (pc := 11) 0 (ty := .int) (ws1 := [(h0, .inr (5, [.null, .int 0, .int 0]))]) rfl rfl inlX5 tyX5_ok nmX5 2 (by decide) bw_4_22 rfl (by decide +kernel) rfl rfl (Nat.le_of_ble_eq_true rfl) rfl dX5_init_11 ?_
  refine i_aload_n (pc := 14) 0 dX5_init_14 rfl rfl ?_
  refine i_iload_n (pc := 15) 1 dX5_init_15 rfl rfl ?_
  refine i_iconst (pc := 16) (v := 1) dX5_init_16 (by decide) ?_
  refine i_ge_t (pc := 17) (tgt := 24) dX5_init_17 (by decide) (by decide) ?_
  refine i_iload_n (pc := 24) 1 dX5_init_24 rfl rfl ?_
  refine i_newq (pc := 25) (N := 2) bw_4_23 (by decide) (by decide) (by decide) (by decide) (by decide) dX5_init_25 (fun q1 => ?_)
  show GI _ _ _ _ _ _ _ _ _ _ _ _ _ [(h0, .inr (5, [.null, .int 0, .int 0])), (q1, .inl (cS, 2, .inr (.inr (.inr (.inr (fun _ => none))))))] _ _ _ _ _
  refine i_putF (pc := 28) 0 (ty := .array (.object "NewsDraughts$Standing")) (ws1 := [(h0, .inr (5, [.ref q1, .int 0, .int 0])), (q1, .inl (cS, 2, .inr (.inr (.inr (.inr (fun _ => none))))))]) rfl rfl inlX5 tyX5_ok nmX5 0 (by decide) bw_5_0 rfl rfl (by decide +kernel) rfl rfl (Nat.le_of_ble_eq_true rfl) rfl dX5_init_28 ?_
  refine i_iconst (pc := 31) (v := 0) dX5_init_31 (by decide) ?_
  refine i_istore_n (pc := 32) [1, 2, 0] (lv1 := [(0, Value.ref h0), (1, Value.int 2), (2, Value.int 0)]) dX5_init_32 rfl (by decide) rfl ?_
  refine i_iload_n (pc := 33) 2 dX5_init_33 rfl rfl ?_
  refine i_aload_n (pc := 34) 0 dX5_init_34 rfl rfl ?_
  refine i_get (pc := 35) 0 rfl rfl inlX5 0 (by decide) bw_5_0 rfl dX5_init_35 ?_
  refine i_alen (pc := 38) 1 1 (v := 2) rfl rfl (show Int32.ofNat 2 = 2 by decide) dX5_init_38 ?_
  refine i_ge_f (pc := 39) (tgt := 61) dX5_init_39 (by decide) (by decide) ?_
  refine i_aload_n (pc := 42) 0 dX5_init_42 rfl rfl ?_
  refine i_get (pc := 43) 0 rfl rfl inlX5 0 (by decide) bw_5_0 rfl dX5_init_43 ?_
  refine i_iload_n (pc := 46) 2 dX5_init_46 rfl rfl ?_
  refine i_new (pc := 47) (ci := 9) (fs := [.null, .null, .int 0]) inlX9 tyX9_ok bw_4_23 bw_2_2 bw_2_3 rfl (fun j hj => by rcases (show j = 0 ∨ j = 1 ∨ j = 2 by omega) with rfl | rfl | rfl <;> rfl) (by decide) (by decide) dX5_init_47 (fun q2 => ?_)
  show GI _ _ _ _ _ _ _ _ _ _ _ _ _ [(h0, .inr (5, [.ref q1, .int 0, .int 0])), (q1, .inl (cS, 2, .inr (.inr (.inr (.inr (fun _ => none)))))), (q2, .inr (9, [.null, .null, .int 0]))] _ _ _ _ _
  refine i_dup (pc := 50) dX5_init_50 rfl ?_
  refine i_initN (pc := 51) (As := []) [(h0, .inr (5, [.ref q1, .int 0, .int 0])), (q1, .inl (cS, 2, .inr (.inr (.inr (.inr (fun _ => none))))))] [(q2, .inr (9, [.null, .null, .int 0]))] (ki_X9_init q2) rfl wk_X9_init bw_4_11 nst_RX5_22 rfl (by decide) (by decide) (by decide) (by decide) rfl rfl (Nat.le_of_ble_eq_true rfl) dX5_init_51 (fun q3 => ?_)
  show GI _ _ _ _ _ _ _ _ _ _ _ _ _ [(h0, .inr (5, [.ref q1, .int 0, .int 0])), (q1, .inl (cS, 2, .inr (.inr (.inr (.inr (fun _ => none)))))), (q2, .inr (9, [.ref (q3 0), .ref (q3 1), .int 0])), ((q3 0), .inl (cI, 16, .inl (fun _ => 0))), ((q3 1), .inl (cI, 5, .inl (fun _ => 0)))] _ _ _ _ _
  refine i_astq (pc := 54) 1 2 9 (j := 0) (ws1 := [(h0, .inr (5, [.ref q1, .int 0, .int 0])), (q1, .inl (cS, 2, .inr (.inr (.inr (.inr (va_up (fun _ => none) 0 (some q2))))))), (q2, .inr (9, [.ref (q3 0), .ref (q3 1), .int 0])), ((q3 0), .inl (cI, 16, .inl (fun _ => 0))), ((q3 1), .inl (cI, 5, .inl (fun _ => 0)))]) rfl rfl rfl rfl (by unfold vp_in; decide) (by decide) rfl dX5_init_54 ?_
  refine i_iinc (pc := 55) [1, 2, 0] 2 (v := 1) (lv1 := [(0, Value.ref h0), (1, Value.int 2), (2, Value.int 1)]) dX5_init_55 rfl (by decide) (by decide) rfl ?_
  refine i_goto (pc := 58) (tgt := 33) dX5_init_58 (by decide) ?_
  refine i_iload_n (pc := 33) 2 dX5_init_33 rfl rfl ?_
  refine i_aload_n (pc := 34) 0 dX5_init_34 rfl rfl ?_
  refine i_get (pc := 35) 0 rfl rfl inlX5 0 (by decide) bw_5_0 rfl dX5_init_35 ?_
  refine i_alen (pc := 38) 1 1 (v := 2) rfl rfl (show Int32.ofNat 2 = 2 by decide) dX5_init_38 ?_
  refine i_ge_f (pc := 39) (tgt := 61) dX5_init_39 (by decide) (by decide) ?_
  refine i_aload_n (pc := 42) 0 dX5_init_42 rfl rfl ?_
  refine i_get (pc := 43) 0 rfl rfl inlX5 0 (by decide) bw_5_0 rfl dX5_init_43 ?_
  refine i_iload_n (pc := 46) 2 dX5_init_46 rfl rfl ?_
  refine i_new (pc := 47) (ci := 9) (fs := [.null, .null, .int 0]) inlX9 tyX9_ok bw_4_23 bw_2_2 bw_2_3 rfl (fun j hj => by rcases (show j = 0 ∨ j = 1 ∨ j = 2 by omega) with rfl | rfl | rfl <;> rfl) (by decide) (by decide) dX5_init_47 (fun q4 => ?_)
  show GI _ _ _ _ _ _ _ _ _ _ _ _ _ [(h0, .inr (5, [.ref q1, .int 0, .int 0])), (q1, .inl (cS, 2, .inr (.inr (.inr (.inr (va_up (fun _ => none) 0 (some q2))))))), (q2, .inr (9, [.ref (q3 0), .ref (q3 1), .int 0])), ((q3 0), .inl (cI, 16, .inl (fun _ => 0))), ((q3 1), .inl (cI, 5, .inl (fun _ => 0))), (q4, .inr (9, [.null, .null, .int 0]))] _ _ _ _ _
  refine i_dup (pc := 50) dX5_init_50 rfl ?_
  refine i_initN (pc := 51) (As := []) [(h0, .inr (5, [.ref q1, .int 0, .int 0])), (q1, .inl (cS, 2, .inr (.inr (.inr (.inr (va_up (fun _ => none) 0 (some q2))))))), (q2, .inr (9, [.ref (q3 0), .ref (q3 1), .int 0])), ((q3 0), .inl (cI, 16, .inl (fun _ => 0))), ((q3 1), .inl (cI, 5, .inl (fun _ => 0)))] [(q4, .inr (9, [.null, .null, .int 0]))] (ki_X9_init q4) rfl wk_X9_init bw_4_11 nst_RX5_22 rfl (by decide) (by decide) (by decide) (by decide) rfl rfl (Nat.le_of_ble_eq_true rfl) dX5_init_51 (fun q5 => ?_)
  show GI _ _ _ _ _ _ _ _ _ _ _ _ _ [(h0, .inr (5, [.ref q1, .int 0, .int 0])), (q1, .inl (cS, 2, .inr (.inr (.inr (.inr (va_up (fun _ => none) 0 (some q2))))))), (q2, .inr (9, [.ref (q3 0), .ref (q3 1), .int 0])), ((q3 0), .inl (cI, 16, .inl (fun _ => 0))), ((q3 1), .inl (cI, 5, .inl (fun _ => 0))), (q4, .inr (9, [.ref (q5 0), .ref (q5 1), .int 0])), ((q5 0), .inl (cI, 16, .inl (fun _ => 0))), ((q5 1), .inl (cI, 5, .inl (fun _ => 0)))] _ _ _ _ _
  refine i_astq (pc := 54) 1 5 9 (j := 1) (ws1 := [(h0, .inr (5, [.ref q1, .int 0, .int 0])), (q1, .inl (cS, 2, .inr (.inr (.inr (.inr (va_up (va_up (fun _ => none) 0 (some q2)) 1 (some q4))))))), (q2, .inr (9, [.ref (q3 0), .ref (q3 1), .int 0])), ((q3 0), .inl (cI, 16, .inl (fun _ => 0))), ((q3 1), .inl (cI, 5, .inl (fun _ => 0))), (q4, .inr (9, [.ref (q5 0), .ref (q5 1), .int 0])), ((q5 0), .inl (cI, 16, .inl (fun _ => 0))), ((q5 1), .inl (cI, 5, .inl (fun _ => 0)))]) rfl rfl rfl rfl (by unfold vp_in; decide) (by decide) rfl dX5_init_54 ?_
  refine i_iinc (pc := 55) [1, 2, 0] 2 (v := 2) (lv1 := [(0, Value.ref h0), (1, Value.int 2), (2, Value.int 2)]) dX5_init_55 rfl (by decide) (by decide) rfl ?_
  refine i_goto (pc := 58) (tgt := 33) dX5_init_58 (by decide) ?_
  refine i_iload_n (pc := 33) 2 dX5_init_33 rfl rfl ?_
  refine i_aload_n (pc := 34) 0 dX5_init_34 rfl rfl ?_
  refine i_get (pc := 35) 0 rfl rfl inlX5 0 (by decide) bw_5_0 rfl dX5_init_35 ?_
  refine i_alen (pc := 38) 1 1 (v := 2) rfl rfl (show Int32.ofNat 2 = 2 by decide) dX5_init_38 ?_
  refine i_ge_t (pc := 39) (tgt := 61) dX5_init_39 (by decide) (by decide) ?_
  have e : (va_up (va_up (fun _ => none) 0 (some q2)) 1 (some q4)) = rB (fun j => ([q1, q2, (q3 0), (q3 1), q4, (q5 0), (q5 1)] : List Nat).getD j 0) 2 := chain2 rfl rfl (fun k hk => if_neg (by omega))
  exact i_ret (pc := 61) (fun j => ([q1, q2, (q3 0), (q3 1), q4, (q5 0), (q5 1)] : List Nat).getD j 0) (by rw [e]; rfl) (by decide) (by decide) dX5_init_61
