/-! the check's constructor -/
def adr (h0 : Nat) (q : Nat → Nat) : Nat → Nat
  | 0 => h0
  | j + 1 => q j
def f_X11_tail (σ : St) : Ot :=
 bnd (f_X11_clearTold__0 σ) (fun r1 s2 =>
 bnd (f_X11_tellsHouse__0 s2 (1 : Int32) (1 : Int32) (3 : Int32)) (fun r3 s4 =>
 bnd (f_X11_tellsHouse__0 s4 (4 : Int32) (2 : Int32) (4 : Int32)) (fun r5 s6 =>
 bnd (f_X11_tellsHouse__0 s6 (6 : Int32) (3 : Int32) (5 : Int32)) (fun r7 s8 =>
 bnd (f_X11_tellsHouse__0 s8 (9 : Int32) (4 : Int32) (2 : Int32)) (fun r9 s10 =>
 bnd (f_X11_tellsHouse__0 s10 (10 : Int32) (0 : Int32) (0 : Int32)) (fun r11 s12 =>
 bnd (f_X11_tellsHouse__0 s12 (11 : Int32) (1 : Int32) (1 : Int32)) (fun r13 s14 =>
 bnd (f_X11_tellsNews__0 s14 (0 : Int32) (1 : Int32) (0 : Int32)) (fun r15 s16 =>
 bnd (f_X11_tellsNews__0 s16 (1 : Int32) (2 : Int32) (5 : Int32)) (fun r17 s18 =>
 bnd (f_X11_tellsNews__0 s18 (2 : Int32) (3 : Int32) (8 : Int32)) (fun r19 s20 =>
 gd ((0 : Int32)) 8 (nm (ps s20 13 ((0 : Int32)) ((2 : Int32))) (fun s21 =>
 gd ((1 : Int32)) 8 (nm (ps s21 13 ((1 : Int32)) ((3 : Int32))) (fun s22 =>
 gd ((2 : Int32)) 8 (nm (ps s22 13 ((2 : Int32)) ((0 : Int32))) (fun s23 =>
 gd ((3 : Int32)) 8 (nm (ps s23 13 ((3 : Int32)) ((1 : Int32))) (fun s24 =>
 nm (pf s24 0 26 (4 : Int32)) (fun s25 =>
 bnd (f_X11_settles__0 s25) (fun r26 s27 =>
 some ((0 : Int32), s27)))))))))))))))))))))
def tau0 : St := fun _ _ => 0
set_option maxRecDepth 100000 in
set_option maxHeartbeats 4000000 in
theorem ki_X11_init {l : Launch} {D : va_G} {cI cS : ClassId} {r : Int32 × St} (h : f_X11_tail tau0 = some r) (h0 : Nat) : Ki l D cI cS yX11_init cX11_init 1 2 14 585 [Value.ref h0] [(h0, .inr (11, [.int 0, .int 0, .int 0, .null, .int 0, .null, .int 0, .null, .null, .int 0, .null, .int 0, .null, .int 0, .null, .null, .int 0, .int 0, .null, .int 0, .int 0, .int 0, .null, .null, .int 0, .null, .int 0, .null, .null, .int 0, .int 0, .int 0]))] (fun q => cM (adr h0 q) cI r.2) := by
  refine enterI (own := RX11) (plainFor_of_name (by decide +kernel)) rfl rfl (Nat.le_of_ble_eq_true rfl) (fun Γ A => ?_)
  show GI _ _ _ _ _ _ _ _ _ _ _ _ _ _ _ _ [(0, Value.ref h0)] 0 []
  refine i_aload_n (pc := 0) 0 dX11_init_0 rfl rfl ?_
  refine i_obj (pc := 1) bw_14_0 bw_1_10 bw_1_11 dX11_init_1 (by decide) (Nat.le_of_ble_eq_true rfl) ?_
  refine i_aload_n (pc := 4) 0 dX11_init_4 rfl rfl ?_
  refine i_bipush (pc := 5) (v := 16) dX11_init_5 (by decide) ?_
  refine i_newa (pc := 7) (N := 16) bw_3_9 (by decide) (by decide) (by decide) (by decide) (by decide) dX11_init_7 (fun q1 => ?_)
  show GI _ _ _ _ _ _ _ _ _ _ _ _ _ [(h0, .inr (11, [.int 0, .int 0, .int 0, .null, .int 0, .null, .int 0, .null, .null, .int 0, .null, .int 0, .null, .int 0, .null, .null, .int 0, .int 0, .null, .int 0, .int 0, .int 0, .null, .null, .int 0, .null, .int 0, .null, .null, .int 0, .int 0, .int 0])), (q1, .inl (cI, 16, .inl (fun _ => 0)))] _ _ _ _ _
  refine i_putF (pc := 9) 0 (ty := .array .int) (ws1 := [(h0, .inr (11, [.int 0, .int 0, .int 0, .ref q1, .int 0, .null, .int 0, .null, .null, .int 0, .null, .int 0, .null, .int 0, .null, .null, .int 0, .int 0, .null, .int 0, .int 0, .int 0, .null, .null, .int 0, .null, .int 0, .null, .null, .int 0, .int 0, .int 0])), (q1, .inl (cI, 16, .inl (fun _ => 0)))]) rfl rfl inlX11 tyX11_ok nmX11 3 (by decide) bw_14_1 rfl rfl (by decide +kernel) rfl rfl (Nat.le_of_ble_eq_true rfl) rfl dX11_init_9 ?_
  refine i_aload_n (pc := 12) 0 dX11_init_12 rfl rfl ?_
  refine i_bipush (pc := 13) (v := 15) dX11_init_13 (by decide) ?_
  refine i_newa (pc := 15) (N := 15) bw_3_9 (by decide) (by decide) (by decide) (by decide) (by decide) dX11_init_15 (fun q2 => ?_)
  show GI _ _ _ _ _ _ _ _ _ _ _ _ _ [(h0, .inr (11, [.int 0, .int 0, .int 0, .ref q1, .int 0, .null, .int 0, .null, .null, .int 0, .null, .int 0, .null, .int 0, .null, .null, .int 0, .int 0, .null, .int 0, .int 0, .int 0, .null, .null, .int 0, .null, .int 0, .null, .null, .int 0, .int 0, .int 0])), (q1, .inl (cI, 16, .inl (fun _ => 0))), (q2, .inl (cI, 15, .inl (fun _ => 0)))] _ _ _ _ _
  refine i_putF (pc := 17) 0 (ty := .array .int) (ws1 := [(h0, .inr (11, [.int 0, .int 0, .int 0, .ref q1, .int 0, .ref q2, .int 0, .null, .null, .int 0, .null, .int 0, .null, .int 0, .null, .null, .int 0, .int 0, .null, .int 0, .int 0, .int 0, .null, .null, .int 0, .null, .int 0, .null, .null, .int 0, .int 0, .int 0])), (q1, .inl (cI, 16, .inl (fun _ => 0))), (q2, .inl (cI, 15, .inl (fun _ => 0)))]) rfl rfl inlX11 tyX11_ok nmX11 5 (by decide) bw_14_2 rfl rfl (by decide +kernel) rfl rfl (Nat.le_of_ble_eq_true rfl) rfl dX11_init_17 ?_
  refine i_aload_n (pc := 20) 0 dX11_init_20 rfl rfl ?_
  refine i_bipush (pc := 21) (v := 8) dX11_init_21 (by decide) ?_
  refine i_newa (pc := 23) (N := 8) bw_3_9 (by decide) (by decide) (by decide) (by decide) (by decide) dX11_init_23 (fun q3 => ?_)
  show GI _ _ _ _ _ _ _ _ _ _ _ _ _ [(h0, .inr (11, [.int 0, .int 0, .int 0, .ref q1, .int 0, .ref q2, .int 0, .null, .null, .int 0, .null, .int 0, .null, .int 0, .null, .null, .int 0, .int 0, .null, .int 0, .int 0, .int 0, .null, .null, .int 0, .null, .int 0, .null, .null, .int 0, .int 0, .int 0])), (q1, .inl (cI, 16, .inl (fun _ => 0))), (q2, .inl (cI, 15, .inl (fun _ => 0))), (q3, .inl (cI, 8, .inl (fun _ => 0)))] _ _ _ _ _
  refine i_putF (pc := 25) 0 (ty := .array .int) (ws1 := [(h0, .inr (11, [.int 0, .int 0, .int 0, .ref q1, .int 0, .ref q2, .int 0, .ref q3, .null, .int 0, .null, .int 0, .null, .int 0, .null, .null, .int 0, .int 0, .null, .int 0, .int 0, .int 0, .null, .null, .int 0, .null, .int 0, .null, .null, .int 0, .int 0, .int 0])), (q1, .inl (cI, 16, .inl (fun _ => 0))), (q2, .inl (cI, 15, .inl (fun _ => 0))), (q3, .inl (cI, 8, .inl (fun _ => 0)))]) rfl rfl inlX11 tyX11_ok nmX11 7 (by decide) bw_14_3 rfl rfl (by decide +kernel) rfl rfl (Nat.le_of_ble_eq_true rfl) rfl dX11_init_25 ?_
  refine i_aload_n (pc := 28) 0 dX11_init_28 rfl rfl ?_
  refine i_bipush (pc := 29) (v := 22) dX11_init_29 (by decide) ?_
  refine i_newa (pc := 31) (N := 22) bw_3_9 (by decide) (by decide) (by decide) (by decide) (by decide) dX11_init_31 (fun q4 => ?_)
  show GI _ _ _ _ _ _ _ _ _ _ _ _ _ [(h0, .inr (11, [.int 0, .int 0, .int 0, .ref q1, .int 0, .ref q2, .int 0, .ref q3, .null, .int 0, .null, .int 0, .null, .int 0, .null, .null, .int 0, .int 0, .null, .int 0, .int 0, .int 0, .null, .null, .int 0, .null, .int 0, .null, .null, .int 0, .int 0, .int 0])), (q1, .inl (cI, 16, .inl (fun _ => 0))), (q2, .inl (cI, 15, .inl (fun _ => 0))), (q3, .inl (cI, 8, .inl (fun _ => 0))), (q4, .inl (cI, 22, .inl (fun _ => 0)))] _ _ _ _ _
  refine i_putF (pc := 33) 0 (ty := .array .int) (ws1 := [(h0, .inr (11, [.int 0, .int 0, .int 0, .ref q1, .int 0, .ref q2, .int 0, .ref q3, .ref q4, .int 0, .null, .int 0, .null, .int 0, .null, .null, .int 0, .int 0, .null, .int 0, .int 0, .int 0, .null, .null, .int 0, .null, .int 0, .null, .null, .int 0, .int 0, .int 0])), (q1, .inl (cI, 16, .inl (fun _ => 0))), (q2, .inl (cI, 15, .inl (fun _ => 0))), (q3, .inl (cI, 8, .inl (fun _ => 0))), (q4, .inl (cI, 22, .inl (fun _ => 0)))]) rfl rfl inlX11 tyX11_ok nmX11 8 (by decide) bw_14_4 rfl rfl (by decide +kernel) rfl rfl (Nat.le_of_ble_eq_true rfl) rfl dX11_init_33 ?_
  refine i_aload_n (pc := 36) 0 dX11_init_36 rfl rfl ?_
  refine i_sipush (pc := 37) (v := 176) dX11_init_37 (by decide) ?_
  refine i_newa (pc := 40) (N := 176) bw_3_9 (by decide) (by decide) (by decide) (by decide) (by decide) dX11_init_40 (fun q5 => ?_)
  show GI _ _ _ _ _ _ _ _ _ _ _ _ _ [(h0, .inr (11, [.int 0, .int 0, .int 0, .ref q1, .int 0, .ref q2, .int 0, .ref q3, .ref q4, .int 0, .null, .int 0, .null, .int 0, .null, .null, .int 0, .int 0, .null, .int 0, .int 0, .int 0, .null, .null, .int 0, .null, .int 0, .null, .null, .int 0, .int 0, .int 0])), (q1, .inl (cI, 16, .inl (fun _ => 0))), (q2, .inl (cI, 15, .inl (fun _ => 0))), (q3, .inl (cI, 8, .inl (fun _ => 0))), (q4, .inl (cI, 22, .inl (fun _ => 0))), (q5, .inl (cI, 176, .inl (fun _ => 0)))] _ _ _ _ _
  refine i_putF (pc := 42) 0 (ty := .array .int) (ws1 := [(h0, .inr (11, [.int 0, .int 0, .int 0, .ref q1, .int 0, .ref q2, .int 0, .ref q3, .ref q4, .int 0, .ref q5, .int 0, .null, .int 0, .null, .null, .int 0, .int 0, .null, .int 0, .int 0, .int 0, .null, .null, .int 0, .null, .int 0, .null, .null, .int 0, .int 0, .int 0])), (q1, .inl (cI, 16, .inl (fun _ => 0))), (q2, .inl (cI, 15, .inl (fun _ => 0))), (q3, .inl (cI, 8, .inl (fun _ => 0))), (q4, .inl (cI, 22, .inl (fun _ => 0))), (q5, .inl (cI, 176, .inl (fun _ => 0)))]) rfl rfl inlX11 tyX11_ok nmX11 10 (by decide) bw_14_5 rfl rfl (by decide +kernel) rfl rfl (Nat.le_of_ble_eq_true rfl) rfl dX11_init_42 ?_
  refine i_aload_n (pc := 45) 0 dX11_init_45 rfl rfl ?_
  refine i_bipush (pc := 46) (v := 44) dX11_init_46 (by decide) ?_
  refine i_newa (pc := 48) (N := 44) bw_3_9 (by decide) (by decide) (by decide) (by decide) (by decide) dX11_init_48 (fun q6 => ?_)
  show GI _ _ _ _ _ _ _ _ _ _ _ _ _ [(h0, .inr (11, [.int 0, .int 0, .int 0, .ref q1, .int 0, .ref q2, .int 0, .ref q3, .ref q4, .int 0, .ref q5, .int 0, .null, .int 0, .null, .null, .int 0, .int 0, .null, .int 0, .int 0, .int 0, .null, .null, .int 0, .null, .int 0, .null, .null, .int 0, .int 0, .int 0])), (q1, .inl (cI, 16, .inl (fun _ => 0))), (q2, .inl (cI, 15, .inl (fun _ => 0))), (q3, .inl (cI, 8, .inl (fun _ => 0))), (q4, .inl (cI, 22, .inl (fun _ => 0))), (q5, .inl (cI, 176, .inl (fun _ => 0))), (q6, .inl (cI, 44, .inl (fun _ => 0)))] _ _ _ _ _
  refine i_putF (pc := 50) 0 (ty := .array .int) (ws1 := [(h0, .inr (11, [.int 0, .int 0, .int 0, .ref q1, .int 0, .ref q2, .int 0, .ref q3, .ref q4, .int 0, .ref q5, .int 0, .ref q6, .int 0, .null, .null, .int 0, .int 0, .null, .int 0, .int 0, .int 0, .null, .null, .int 0, .null, .int 0, .null, .null, .int 0, .int 0, .int 0])), (q1, .inl (cI, 16, .inl (fun _ => 0))), (q2, .inl (cI, 15, .inl (fun _ => 0))), (q3, .inl (cI, 8, .inl (fun _ => 0))), (q4, .inl (cI, 22, .inl (fun _ => 0))), (q5, .inl (cI, 176, .inl (fun _ => 0))), (q6, .inl (cI, 44, .inl (fun _ => 0)))]) rfl rfl inlX11 tyX11_ok nmX11 12 (by decide) bw_14_6 rfl rfl (by decide +kernel) rfl rfl (Nat.le_of_ble_eq_true rfl) rfl dX11_init_50 ?_
  refine i_aload_n (pc := 53) 0 dX11_init_53 rfl rfl ?_
  refine i_bipush (pc := 54) (v := 24) dX11_init_54 (by decide) ?_
  refine i_newa (pc := 56) (N := 24) bw_3_9 (by decide) (by decide) (by decide) (by decide) (by decide) dX11_init_56 (fun q7 => ?_)
  show GI _ _ _ _ _ _ _ _ _ _ _ _ _ [(h0, .inr (11, [.int 0, .int 0, .int 0, .ref q1, .int 0, .ref q2, .int 0, .ref q3, .ref q4, .int 0, .ref q5, .int 0, .ref q6, .int 0, .null, .null, .int 0, .int 0, .null, .int 0, .int 0, .int 0, .null, .null, .int 0, .null, .int 0, .null, .null, .int 0, .int 0, .int 0])), (q1, .inl (cI, 16, .inl (fun _ => 0))), (q2, .inl (cI, 15, .inl (fun _ => 0))), (q3, .inl (cI, 8, .inl (fun _ => 0))), (q4, .inl (cI, 22, .inl (fun _ => 0))), (q5, .inl (cI, 176, .inl (fun _ => 0))), (q6, .inl (cI, 44, .inl (fun _ => 0))), (q7, .inl (cI, 24, .inl (fun _ => 0)))] _ _ _ _ _
  refine i_putF (pc := 58) 0 (ty := .array .int) (ws1 := [(h0, .inr (11, [.int 0, .int 0, .int 0, .ref q1, .int 0, .ref q2, .int 0, .ref q3, .ref q4, .int 0, .ref q5, .int 0, .ref q6, .int 0, .ref q7, .null, .int 0, .int 0, .null, .int 0, .int 0, .int 0, .null, .null, .int 0, .null, .int 0, .null, .null, .int 0, .int 0, .int 0])), (q1, .inl (cI, 16, .inl (fun _ => 0))), (q2, .inl (cI, 15, .inl (fun _ => 0))), (q3, .inl (cI, 8, .inl (fun _ => 0))), (q4, .inl (cI, 22, .inl (fun _ => 0))), (q5, .inl (cI, 176, .inl (fun _ => 0))), (q6, .inl (cI, 44, .inl (fun _ => 0))), (q7, .inl (cI, 24, .inl (fun _ => 0)))]) rfl rfl inlX11 tyX11_ok nmX11 14 (by decide) bw_14_7 rfl rfl (by decide +kernel) rfl rfl (Nat.le_of_ble_eq_true rfl) rfl dX11_init_58 ?_
  refine i_aload_n (pc := 61) 0 dX11_init_61 rfl rfl ?_
  refine i_sipush (pc := 62) (v := 200) dX11_init_62 (by decide) ?_
  refine i_newa (pc := 65) (N := 200) bw_3_9 (by decide) (by decide) (by decide) (by decide) (by decide) dX11_init_65 (fun q8 => ?_)
  show GI _ _ _ _ _ _ _ _ _ _ _ _ _ [(h0, .inr (11, [.int 0, .int 0, .int 0, .ref q1, .int 0, .ref q2, .int 0, .ref q3, .ref q4, .int 0, .ref q5, .int 0, .ref q6, .int 0, .ref q7, .null, .int 0, .int 0, .null, .int 0, .int 0, .int 0, .null, .null, .int 0, .null, .int 0, .null, .null, .int 0, .int 0, .int 0])), (q1, .inl (cI, 16, .inl (fun _ => 0))), (q2, .inl (cI, 15, .inl (fun _ => 0))), (q3, .inl (cI, 8, .inl (fun _ => 0))), (q4, .inl (cI, 22, .inl (fun _ => 0))), (q5, .inl (cI, 176, .inl (fun _ => 0))), (q6, .inl (cI, 44, .inl (fun _ => 0))), (q7, .inl (cI, 24, .inl (fun _ => 0))), (q8, .inl (cI, 200, .inl (fun _ => 0)))] _ _ _ _ _
  refine i_putF (pc := 67) 0 (ty := .array .int) (ws1 := [(h0, .inr (11, [.int 0, .int 0, .int 0, .ref q1, .int 0, .ref q2, .int 0, .ref q3, .ref q4, .int 0, .ref q5, .int 0, .ref q6, .int 0, .ref q7, .ref q8, .int 0, .int 0, .null, .int 0, .int 0, .int 0, .null, .null, .int 0, .null, .int 0, .null, .null, .int 0, .int 0, .int 0])), (q1, .inl (cI, 16, .inl (fun _ => 0))), (q2, .inl (cI, 15, .inl (fun _ => 0))), (q3, .inl (cI, 8, .inl (fun _ => 0))), (q4, .inl (cI, 22, .inl (fun _ => 0))), (q5, .inl (cI, 176, .inl (fun _ => 0))), (q6, .inl (cI, 44, .inl (fun _ => 0))), (q7, .inl (cI, 24, .inl (fun _ => 0))), (q8, .inl (cI, 200, .inl (fun _ => 0)))]) rfl rfl inlX11 tyX11_ok nmX11 15 (by decide) bw_14_8 rfl rfl (by decide +kernel) rfl rfl (Nat.le_of_ble_eq_true rfl) rfl dX11_init_67 ?_
  refine i_aload_n (pc := 70) 0 dX11_init_70 rfl rfl ?_
  refine i_iconst (pc := 71) (v := 3) dX11_init_71 (by decide) ?_
  refine i_newa (pc := 72) (N := 3) bw_3_9 (by decide) (by decide) (by decide) (by decide) (by decide) dX11_init_72 (fun q9 => ?_)
  show GI _ _ _ _ _ _ _ _ _ _ _ _ _ [(h0, .inr (11, [.int 0, .int 0, .int 0, .ref q1, .int 0, .ref q2, .int 0, .ref q3, .ref q4, .int 0, .ref q5, .int 0, .ref q6, .int 0, .ref q7, .ref q8, .int 0, .int 0, .null, .int 0, .int 0, .int 0, .null, .null, .int 0, .null, .int 0, .null, .null, .int 0, .int 0, .int 0])), (q1, .inl (cI, 16, .inl (fun _ => 0))), (q2, .inl (cI, 15, .inl (fun _ => 0))), (q3, .inl (cI, 8, .inl (fun _ => 0))), (q4, .inl (cI, 22, .inl (fun _ => 0))), (q5, .inl (cI, 176, .inl (fun _ => 0))), (q6, .inl (cI, 44, .inl (fun _ => 0))), (q7, .inl (cI, 24, .inl (fun _ => 0))), (q8, .inl (cI, 200, .inl (fun _ => 0))), (q9, .inl (cI, 3, .inl (fun _ => 0)))] _ _ _ _ _
  refine i_putF (pc := 74) 0 (ty := .array .int) (ws1 := [(h0, .inr (11, [.int 0, .int 0, .int 0, .ref q1, .int 0, .ref q2, .int 0, .ref q3, .ref q4, .int 0, .ref q5, .int 0, .ref q6, .int 0, .ref q7, .ref q8, .int 0, .int 0, .ref q9, .int 0, .int 0, .int 0, .null, .null, .int 0, .null, .int 0, .null, .null, .int 0, .int 0, .int 0])), (q1, .inl (cI, 16, .inl (fun _ => 0))), (q2, .inl (cI, 15, .inl (fun _ => 0))), (q3, .inl (cI, 8, .inl (fun _ => 0))), (q4, .inl (cI, 22, .inl (fun _ => 0))), (q5, .inl (cI, 176, .inl (fun _ => 0))), (q6, .inl (cI, 44, .inl (fun _ => 0))), (q7, .inl (cI, 24, .inl (fun _ => 0))), (q8, .inl (cI, 200, .inl (fun _ => 0))), (q9, .inl (cI, 3, .inl (fun _ => 0)))]) rfl rfl inlX11 tyX11_ok nmX11 18 (by decide) bw_14_9 rfl rfl (by decide +kernel) rfl rfl (Nat.le_of_ble_eq_true rfl) rfl dX11_init_74 ?_
  refine i_aload_n (pc := 77) 0 dX11_init_77 rfl rfl ?_
  refine i_bipush (pc := 78) (v := 16) dX11_init_78 (by decide) ?_
  refine i_newa (pc := 80) (N := 16) bw_3_9 (by decide) (by decide) (by decide) (by decide) (by decide) dX11_init_80 (fun q10 => ?_)
  show GI _ _ _ _ _ _ _ _ _ _ _ _ _ [(h0, .inr (11, [.int 0, .int 0, .int 0, .ref q1, .int 0, .ref q2, .int 0, .ref q3, .ref q4, .int 0, .ref q5, .int 0, .ref q6, .int 0, .ref q7, .ref q8, .int 0, .int 0, .ref q9, .int 0, .int 0, .int 0, .null, .null, .int 0, .null, .int 0, .null, .null, .int 0, .int 0, .int 0])), (q1, .inl (cI, 16, .inl (fun _ => 0))), (q2, .inl (cI, 15, .inl (fun _ => 0))), (q3, .inl (cI, 8, .inl (fun _ => 0))), (q4, .inl (cI, 22, .inl (fun _ => 0))), (q5, .inl (cI, 176, .inl (fun _ => 0))), (q6, .inl (cI, 44, .inl (fun _ => 0))), (q7, .inl (cI, 24, .inl (fun _ => 0))), (q8, .inl (cI, 200, .inl (fun _ => 0))), (q9, .inl (cI, 3, .inl (fun _ => 0))), (q10, .inl (cI, 16, .inl (fun _ => 0)))] _ _ _ _ _
  refine i_putF (pc := 82) 0 (ty := .array .int) (ws1 := [(h0, .inr (11, [.int 0, .int 0, .int 0, .ref q1, .int 0, .ref q2, .int 0, .ref q3, .ref q4, .int 0, .ref q5, .int 0, .ref q6, .int 0, .ref q7, .ref q8, .int 0, .int 0, .ref q9, .int 0, .int 0, .int 0, .ref q10, .null, .int 0, .null, .int 0, .null, .null, .int 0, .int 0, .int 0])), (q1, .inl (cI, 16, .inl (fun _ => 0))), (q2, .inl (cI, 15, .inl (fun _ => 0))), (q3, .inl (cI, 8, .inl (fun _ => 0))), (q4, .inl (cI, 22, .inl (fun _ => 0))), (q5, .inl (cI, 176, .inl (fun _ => 0))), (q6, .inl (cI, 44, .inl (fun _ => 0))), (q7, .inl (cI, 24, .inl (fun _ => 0))), (q8, .inl (cI, 200, .inl (fun _ => 0))), (q9, .inl (cI, 3, .inl (fun _ => 0))), (q10, .inl (cI, 16, .inl (fun _ => 0)))]) rfl rfl inlX11 tyX11_ok nmX11 22 (by decide) bw_14_10 rfl rfl (by decide +kernel) rfl rfl (Nat.le_of_ble_eq_true rfl) rfl dX11_init_82 ?_
  refine i_aload_n (pc := 85) 0 dX11_init_85 rfl rfl ?_
  refine i_bipush (pc := 86) (v := 16) dX11_init_86 (by decide) ?_
  refine i_newa (pc := 88) (N := 16) bw_3_9 (by decide) (by decide) (by decide) (by decide) (by decide) dX11_init_88 (fun q11 => ?_)
  show GI _ _ _ _ _ _ _ _ _ _ _ _ _ [(h0, .inr (11, [.int 0, .int 0, .int 0, .ref q1, .int 0, .ref q2, .int 0, .ref q3, .ref q4, .int 0, .ref q5, .int 0, .ref q6, .int 0, .ref q7, .ref q8, .int 0, .int 0, .ref q9, .int 0, .int 0, .int 0, .ref q10, .null, .int 0, .null, .int 0, .null, .null, .int 0, .int 0, .int 0])), (q1, .inl (cI, 16, .inl (fun _ => 0))), (q2, .inl (cI, 15, .inl (fun _ => 0))), (q3, .inl (cI, 8, .inl (fun _ => 0))), (q4, .inl (cI, 22, .inl (fun _ => 0))), (q5, .inl (cI, 176, .inl (fun _ => 0))), (q6, .inl (cI, 44, .inl (fun _ => 0))), (q7, .inl (cI, 24, .inl (fun _ => 0))), (q8, .inl (cI, 200, .inl (fun _ => 0))), (q9, .inl (cI, 3, .inl (fun _ => 0))), (q10, .inl (cI, 16, .inl (fun _ => 0))), (q11, .inl (cI, 16, .inl (fun _ => 0)))] _ _ _ _ _
  refine i_putF (pc := 90) 0 (ty := .array .int) (ws1 := [(h0, .inr (11, [.int 0, .int 0, .int 0, .ref q1, .int 0, .ref q2, .int 0, .ref q3, .ref q4, .int 0, .ref q5, .int 0, .ref q6, .int 0, .ref q7, .ref q8, .int 0, .int 0, .ref q9, .int 0, .int 0, .int 0, .ref q10, .ref q11, .int 0, .null, .int 0, .null, .null, .int 0, .int 0, .int 0])), (q1, .inl (cI, 16, .inl (fun _ => 0))), (q2, .inl (cI, 15, .inl (fun _ => 0))), (q3, .inl (cI, 8, .inl (fun _ => 0))), (q4, .inl (cI, 22, .inl (fun _ => 0))), (q5, .inl (cI, 176, .inl (fun _ => 0))), (q6, .inl (cI, 44, .inl (fun _ => 0))), (q7, .inl (cI, 24, .inl (fun _ => 0))), (q8, .inl (cI, 200, .inl (fun _ => 0))), (q9, .inl (cI, 3, .inl (fun _ => 0))), (q10, .inl (cI, 16, .inl (fun _ => 0))), (q11, .inl (cI, 16, .inl (fun _ => 0)))]) rfl rfl inlX11 tyX11_ok nmX11 23 (by decide) bw_14_11 rfl rfl (by decide +kernel) rfl rfl (Nat.le_of_ble_eq_true rfl) rfl dX11_init_90 ?_
  refine i_aload_n (pc := 93) 0 dX11_init_93 rfl rfl ?_
  refine i_bipush (pc := 94) (v := 15) dX11_init_94 (by decide) ?_
  refine i_newa (pc := 96) (N := 15) bw_3_9 (by decide) (by decide) (by decide) (by decide) (by decide) dX11_init_96 (fun q12 => ?_)
  show GI _ _ _ _ _ _ _ _ _ _ _ _ _ [(h0, .inr (11, [.int 0, .int 0, .int 0, .ref q1, .int 0, .ref q2, .int 0, .ref q3, .ref q4, .int 0, .ref q5, .int 0, .ref q6, .int 0, .ref q7, .ref q8, .int 0, .int 0, .ref q9, .int 0, .int 0, .int 0, .ref q10, .ref q11, .int 0, .null, .int 0, .null, .null, .int 0, .int 0, .int 0])), (q1, .inl (cI, 16, .inl (fun _ => 0))), (q2, .inl (cI, 15, .inl (fun _ => 0))), (q3, .inl (cI, 8, .inl (fun _ => 0))), (q4, .inl (cI, 22, .inl (fun _ => 0))), (q5, .inl (cI, 176, .inl (fun _ => 0))), (q6, .inl (cI, 44, .inl (fun _ => 0))), (q7, .inl (cI, 24, .inl (fun _ => 0))), (q8, .inl (cI, 200, .inl (fun _ => 0))), (q9, .inl (cI, 3, .inl (fun _ => 0))), (q10, .inl (cI, 16, .inl (fun _ => 0))), (q11, .inl (cI, 16, .inl (fun _ => 0))), (q12, .inl (cI, 15, .inl (fun _ => 0)))] _ _ _ _ _
  refine i_putF (pc := 98) 0 (ty := .array .int) (ws1 := [(h0, .inr (11, [.int 0, .int 0, .int 0, .ref q1, .int 0, .ref q2, .int 0, .ref q3, .ref q4, .int 0, .ref q5, .int 0, .ref q6, .int 0, .ref q7, .ref q8, .int 0, .int 0, .ref q9, .int 0, .int 0, .int 0, .ref q10, .ref q11, .int 0, .ref q12, .int 0, .null, .null, .int 0, .int 0, .int 0])), (q1, .inl (cI, 16, .inl (fun _ => 0))), (q2, .inl (cI, 15, .inl (fun _ => 0))), (q3, .inl (cI, 8, .inl (fun _ => 0))), (q4, .inl (cI, 22, .inl (fun _ => 0))), (q5, .inl (cI, 176, .inl (fun _ => 0))), (q6, .inl (cI, 44, .inl (fun _ => 0))), (q7, .inl (cI, 24, .inl (fun _ => 0))), (q8, .inl (cI, 200, .inl (fun _ => 0))), (q9, .inl (cI, 3, .inl (fun _ => 0))), (q10, .inl (cI, 16, .inl (fun _ => 0))), (q11, .inl (cI, 16, .inl (fun _ => 0))), (q12, .inl (cI, 15, .inl (fun _ => 0)))]) rfl rfl inlX11 tyX11_ok nmX11 25 (by decide) bw_14_12 rfl rfl (by decide +kernel) rfl rfl (Nat.le_of_ble_eq_true rfl) rfl dX11_init_98 ?_
  refine i_aload_n (pc := 101) 0 dX11_init_101 rfl rfl ?_
  refine i_bipush (pc := 102) (v := 8) dX11_init_102 (by decide) ?_
  refine i_newa (pc := 104) (N := 8) bw_3_9 (by decide) (by decide) (by decide) (by decide) (by decide) dX11_init_104 (fun q13 => ?_)
  show GI _ _ _ _ _ _ _ _ _ _ _ _ _ [(h0, .inr (11, [.int 0, .int 0, .int 0, .ref q1, .int 0, .ref q2, .int 0, .ref q3, .ref q4, .int 0, .ref q5, .int 0, .ref q6, .int 0, .ref q7, .ref q8, .int 0, .int 0, .ref q9, .int 0, .int 0, .int 0, .ref q10, .ref q11, .int 0, .ref q12, .int 0, .null, .null, .int 0, .int 0, .int 0])), (q1, .inl (cI, 16, .inl (fun _ => 0))), (q2, .inl (cI, 15, .inl (fun _ => 0))), (q3, .inl (cI, 8, .inl (fun _ => 0))), (q4, .inl (cI, 22, .inl (fun _ => 0))), (q5, .inl (cI, 176, .inl (fun _ => 0))), (q6, .inl (cI, 44, .inl (fun _ => 0))), (q7, .inl (cI, 24, .inl (fun _ => 0))), (q8, .inl (cI, 200, .inl (fun _ => 0))), (q9, .inl (cI, 3, .inl (fun _ => 0))), (q10, .inl (cI, 16, .inl (fun _ => 0))), (q11, .inl (cI, 16, .inl (fun _ => 0))), (q12, .inl (cI, 15, .inl (fun _ => 0))), (q13, .inl (cI, 8, .inl (fun _ => 0)))] _ _ _ _ _
  refine i_putF (pc := 106) 0 (ty := .array .int) (ws1 := [(h0, .inr (11, [.int 0, .int 0, .int 0, .ref q1, .int 0, .ref q2, .int 0, .ref q3, .ref q4, .int 0, .ref q5, .int 0, .ref q6, .int 0, .ref q7, .ref q8, .int 0, .int 0, .ref q9, .int 0, .int 0, .int 0, .ref q10, .ref q11, .int 0, .ref q12, .int 0, .ref q13, .null, .int 0, .int 0, .int 0])), (q1, .inl (cI, 16, .inl (fun _ => 0))), (q2, .inl (cI, 15, .inl (fun _ => 0))), (q3, .inl (cI, 8, .inl (fun _ => 0))), (q4, .inl (cI, 22, .inl (fun _ => 0))), (q5, .inl (cI, 176, .inl (fun _ => 0))), (q6, .inl (cI, 44, .inl (fun _ => 0))), (q7, .inl (cI, 24, .inl (fun _ => 0))), (q8, .inl (cI, 200, .inl (fun _ => 0))), (q9, .inl (cI, 3, .inl (fun _ => 0))), (q10, .inl (cI, 16, .inl (fun _ => 0))), (q11, .inl (cI, 16, .inl (fun _ => 0))), (q12, .inl (cI, 15, .inl (fun _ => 0))), (q13, .inl (cI, 8, .inl (fun _ => 0)))]) rfl rfl inlX11 tyX11_ok nmX11 27 (by decide) bw_14_13 rfl rfl (by decide +kernel) rfl rfl (Nat.le_of_ble_eq_true rfl) rfl dX11_init_106 ?_
  refine i_aload_n (pc := 109) 0 dX11_init_109 rfl rfl ?_
  refine i_bipush (pc := 110) (v := 22) dX11_init_110 (by decide) ?_
  refine i_newa (pc := 112) (N := 22) bw_3_9 (by decide) (by decide) (by decide) (by decide) (by decide) dX11_init_112 (fun q14 => ?_)
  show GI _ _ _ _ _ _ _ _ _ _ _ _ _ [(h0, .inr (11, [.int 0, .int 0, .int 0, .ref q1, .int 0, .ref q2, .int 0, .ref q3, .ref q4, .int 0, .ref q5, .int 0, .ref q6, .int 0, .ref q7, .ref q8, .int 0, .int 0, .ref q9, .int 0, .int 0, .int 0, .ref q10, .ref q11, .int 0, .ref q12, .int 0, .ref q13, .null, .int 0, .int 0, .int 0])), (q1, .inl (cI, 16, .inl (fun _ => 0))), (q2, .inl (cI, 15, .inl (fun _ => 0))), (q3, .inl (cI, 8, .inl (fun _ => 0))), (q4, .inl (cI, 22, .inl (fun _ => 0))), (q5, .inl (cI, 176, .inl (fun _ => 0))), (q6, .inl (cI, 44, .inl (fun _ => 0))), (q7, .inl (cI, 24, .inl (fun _ => 0))), (q8, .inl (cI, 200, .inl (fun _ => 0))), (q9, .inl (cI, 3, .inl (fun _ => 0))), (q10, .inl (cI, 16, .inl (fun _ => 0))), (q11, .inl (cI, 16, .inl (fun _ => 0))), (q12, .inl (cI, 15, .inl (fun _ => 0))), (q13, .inl (cI, 8, .inl (fun _ => 0))), (q14, .inl (cI, 22, .inl (fun _ => 0)))] _ _ _ _ _
  refine i_putF (pc := 114) 0 (ty := .array .int) (ws1 := [(h0, .inr (11, [.int 0, .int 0, .int 0, .ref q1, .int 0, .ref q2, .int 0, .ref q3, .ref q4, .int 0, .ref q5, .int 0, .ref q6, .int 0, .ref q7, .ref q8, .int 0, .int 0, .ref q9, .int 0, .int 0, .int 0, .ref q10, .ref q11, .int 0, .ref q12, .int 0, .ref q13, .ref q14, .int 0, .int 0, .int 0])), (q1, .inl (cI, 16, .inl (fun _ => 0))), (q2, .inl (cI, 15, .inl (fun _ => 0))), (q3, .inl (cI, 8, .inl (fun _ => 0))), (q4, .inl (cI, 22, .inl (fun _ => 0))), (q5, .inl (cI, 176, .inl (fun _ => 0))), (q6, .inl (cI, 44, .inl (fun _ => 0))), (q7, .inl (cI, 24, .inl (fun _ => 0))), (q8, .inl (cI, 200, .inl (fun _ => 0))), (q9, .inl (cI, 3, .inl (fun _ => 0))), (q10, .inl (cI, 16, .inl (fun _ => 0))), (q11, .inl (cI, 16, .inl (fun _ => 0))), (q12, .inl (cI, 15, .inl (fun _ => 0))), (q13, .inl (cI, 8, .inl (fun _ => 0))), (q14, .inl (cI, 22, .inl (fun _ => 0)))]) rfl rfl inlX11 tyX11_ok nmX11 28 (by decide) bw_14_14 rfl rfl (by decide +kernel) rfl rfl (Nat.le_of_ble_eq_true rfl) rfl dX11_init_114 ?_
  refine i_toG (w := cM (fun j => ([h0, q1, q2, q3, q4, q5, q6, q7, q8, q9, q10, q11, q12, q13, q14] : List Nat).getD j 0) cI) (AA := AM (fun j => ([h0, q1, q2, q3, q4, q5, q6, q7, q8, q9, q10, q11, q12, q13, q14] : List Nat).getD j 0)) (a := fun j => ([h0, q1, q2, q3, q4, q5, q6, q7, q8, q9, q10, q11, q12, q13, q14] : List Nat).getD j 0) (tys2 := [(cI, .int)]) (σ := tau0) h rfl (fun U hK => hK.sub [0] rfl) (fun _ => rfl) (fun hD => cM_sub hD) (by decide) (by decide) ⟨fun j => ([q1, q2, q3, q4, q5, q6, q7, q8, q9, q10, q11, q12, q13, q14] : List Nat).getD j 0, rfl⟩ (fun hD Γ1 hRI _ _ => ?_)
  show G _ Γ1 _ _ _ _ _ _ _ [(0, Value.ref ((fun j => ([h0, q1, q2, q3, q4, q5, q6, q7, q8, q9, q10, q11, q12, q13, q14] : List Nat).getD j 0) 0))] 117 []
  generalize (fun j => ([h0, q1, q2, q3, q4, q5, q6, q7, q8, q9, q10, q11, q12, q13, q14] : List Nat).getD j 0) = a at hD hRI ⊢
  have hI : ∀ σ : St, va_D (AM a) (cM a cI σ) := cM_D (cM_inj hD)
  generalize tau0 = σ
  unfold f_X11_tail
  refine g_aload_n (pc := 117) 0 dX11_init_117 rfl rfl ?_
  refine g_cVv (pc := 118) 0 (As := []) (fun r2 h2 => k_X11_clearTold__0 hI h2) wk_X11_clearTold wv_X11_clearTold bw_14_16 cM_0 rfl (by decide) (by decide) rfl rfl (Nat.le_of_ble_eq_true rfl) dX11_init_118 (fun r1 s2 => ?_)
  refine g_aload_n (pc := 121) 0 dX11_init_121 rfl rfl ?_
  refine g_iconst (pc := 122) (v := 1) dX11_init_122 (by decide) ?_
  refine g_iconst (pc := 123) (v := 1) dX11_init_123 (by decide) ?_
  refine g_iconst (pc := 124) (v := 3) dX11_init_124 (by decide) ?_
  refine g_cVv (pc := 125) 0 (As := [Value.int (1 : Int32), Value.int (1 : Int32), Value.int (3 : Int32)]) (fun r2 h2 => k_X11_tellsHouse__0 hI h2) wk_X11_tellsHouse wv_X11_tellsHouse bw_15_0 cM_0 rfl (by decide) (by decide) rfl rfl (Nat.le_of_ble_eq_true rfl) dX11_init_125 (fun r3 s4 => ?_)
  refine g_aload_n (pc := 128) 0 dX11_init_128 rfl rfl ?_
  refine g_iconst (pc := 129) (v := 4) dX11_init_129 (by decide) ?_
  refine g_iconst (pc := 130) (v := 2) dX11_init_130 (by decide) ?_
  refine g_iconst (pc := 131) (v := 4) dX11_init_131 (by decide) ?_
  refine g_cVv (pc := 132) 0 (As := [Value.int (4 : Int32), Value.int (2 : Int32), Value.int (4 : Int32)]) (fun r2 h2 => k_X11_tellsHouse__0 hI h2) wk_X11_tellsHouse wv_X11_tellsHouse bw_15_0 cM_0 rfl (by decide) (by decide) rfl rfl (Nat.le_of_ble_eq_true rfl) dX11_init_132 (fun r5 s6 => ?_)
  refine g_aload_n (pc := 135) 0 dX11_init_135 rfl rfl ?_
  refine g_bipush (pc := 136) (v := 6) dX11_init_136 (by decide) ?_
  refine g_iconst (pc := 138) (v := 3) dX11_init_138 (by decide) ?_
  refine g_iconst (pc := 139) (v := 5) dX11_init_139 (by decide) ?_
  refine g_cVv (pc := 140) 0 (As := [Value.int (6 : Int32), Value.int (3 : Int32), Value.int (5 : Int32)]) (fun r2 h2 => k_X11_tellsHouse__0 hI h2) wk_X11_tellsHouse wv_X11_tellsHouse bw_15_0 cM_0 rfl (by decide) (by decide) rfl rfl (Nat.le_of_ble_eq_true rfl) dX11_init_140 (fun r7 s8 => ?_)
  refine g_aload_n (pc := 143) 0 dX11_init_143 rfl rfl ?_
  refine g_bipush (pc := 144) (v := 9) dX11_init_144 (by decide) ?_
  refine g_iconst (pc := 146) (v := 4) dX11_init_146 (by decide) ?_
  refine g_iconst (pc := 147) (v := 2) dX11_init_147 (by decide) ?_
  refine g_cVv (pc := 148) 0 (As := [Value.int (9 : Int32), Value.int (4 : Int32), Value.int (2 : Int32)]) (fun r2 h2 => k_X11_tellsHouse__0 hI h2) wk_X11_tellsHouse wv_X11_tellsHouse bw_15_0 cM_0 rfl (by decide) (by decide) rfl rfl (Nat.le_of_ble_eq_true rfl) dX11_init_148 (fun r9 s10 => ?_)
  refine g_aload_n (pc := 151) 0 dX11_init_151 rfl rfl ?_
  refine g_bipush (pc := 152) (v := 10) dX11_init_152 (by decide) ?_
  refine g_iconst (pc := 154) (v := 0) dX11_init_154 (by decide) ?_
  refine g_iconst (pc := 155) (v := 0) dX11_init_155 (by decide) ?_
  refine g_cVv (pc := 156) 0 (As := [Value.int (10 : Int32), Value.int (0 : Int32), Value.int (0 : Int32)]) (fun r2 h2 => k_X11_tellsHouse__0 hI h2) wk_X11_tellsHouse wv_X11_tellsHouse bw_15_0 cM_0 rfl (by decide) (by decide) rfl rfl (Nat.le_of_ble_eq_true rfl) dX11_init_156 (fun r11 s12 => ?_)
  refine g_aload_n (pc := 159) 0 dX11_init_159 rfl rfl ?_
  refine g_bipush (pc := 160) (v := 11) dX11_init_160 (by decide) ?_
  refine g_iconst (pc := 162) (v := 1) dX11_init_162 (by decide) ?_
  refine g_iconst (pc := 163) (v := 1) dX11_init_163 (by decide) ?_
  refine g_cVv (pc := 164) 0 (As := [Value.int (11 : Int32), Value.int (1 : Int32), Value.int (1 : Int32)]) (fun r2 h2 => k_X11_tellsHouse__0 hI h2) wk_X11_tellsHouse wv_X11_tellsHouse bw_15_0 cM_0 rfl (by decide) (by decide) rfl rfl (Nat.le_of_ble_eq_true rfl) dX11_init_164 (fun r13 s14 => ?_)
  refine g_aload_n (pc := 167) 0 dX11_init_167 rfl rfl ?_
  refine g_iconst (pc := 168) (v := 0) dX11_init_168 (by decide) ?_
  refine g_iconst (pc := 169) (v := 1) dX11_init_169 (by decide) ?_
  refine g_iconst (pc := 170) (v := 0) dX11_init_170 (by decide) ?_
  refine g_cVv (pc := 171) 0 (As := [Value.int (0 : Int32), Value.int (1 : Int32), Value.int (0 : Int32)]) (fun r2 h2 => k_X11_tellsNews__0 hI h2) wk_X11_tellsNews wv_X11_tellsNews bw_15_4 cM_0 rfl (by decide) (by decide) rfl rfl (Nat.le_of_ble_eq_true rfl) dX11_init_171 (fun r15 s16 => ?_)
  refine g_aload_n (pc := 174) 0 dX11_init_174 rfl rfl ?_
  refine g_iconst (pc := 175) (v := 1) dX11_init_175 (by decide) ?_
  refine g_iconst (pc := 176) (v := 2) dX11_init_176 (by decide) ?_
  refine g_iconst (pc := 177) (v := 5) dX11_init_177 (by decide) ?_
  refine g_cVv (pc := 178) 0 (As := [Value.int (1 : Int32), Value.int (2 : Int32), Value.int (5 : Int32)]) (fun r2 h2 => k_X11_tellsNews__0 hI h2) wk_X11_tellsNews wv_X11_tellsNews bw_15_4 cM_0 rfl (by decide) (by decide) rfl rfl (Nat.le_of_ble_eq_true rfl) dX11_init_178 (fun r17 s18 => ?_)
  refine g_aload_n (pc := 181) 0 dX11_init_181 rfl rfl ?_
  refine g_iconst (pc := 182) (v := 2) dX11_init_182 (by decide) ?_
  refine g_iconst (pc := 183) (v := 3) dX11_init_183 (by decide) ?_
  refine g_bipush (pc := 184) (v := 8) dX11_init_184 (by decide) ?_
  refine g_cVv (pc := 186) 0 (As := [Value.int (2 : Int32), Value.int (3 : Int32), Value.int (8 : Int32)]) (fun r2 h2 => k_X11_tellsNews__0 hI h2) wk_X11_tellsNews wv_X11_tellsNews bw_15_4 cM_0 rfl (by decide) (by decide) rfl rfl (Nat.le_of_ble_eq_true rfl) dX11_init_186 (fun r19 s20 => ?_)
  refine g_aload_n (pc := 189) 0 dX11_init_189 rfl rfl ?_
  refine g_get (pc := 190) 0 cM_0 rfl inlX11 27 (by decide) bw_14_13 rfl dX11_init_190 ?_
  refine g_iconst (pc := 193) (v := 0) dX11_init_193 (by decide) ?_
  refine g_iconst (pc := 194) (v := 2) dX11_init_194 (by decide) ?_
  refine g_iast (pc := 195) 13 cM_13 rfl cM_s13 dX11_init_195 (fun s21 => ?_)
  refine g_aload_n (pc := 196) 0 dX11_init_196 rfl rfl ?_
  refine g_get (pc := 197) 0 cM_0 rfl inlX11 27 (by decide) bw_14_13 rfl dX11_init_197 ?_
  refine g_iconst (pc := 200) (v := 1) dX11_init_200 (by decide) ?_
  refine g_iconst (pc := 201) (v := 3) dX11_init_201 (by decide) ?_
  refine g_iast (pc := 202) 13 cM_13 rfl cM_s13 dX11_init_202 (fun s22 => ?_)
  refine g_aload_n (pc := 203) 0 dX11_init_203 rfl rfl ?_
  refine g_get (pc := 204) 0 cM_0 rfl inlX11 27 (by decide) bw_14_13 rfl dX11_init_204 ?_
  refine g_iconst (pc := 207) (v := 2) dX11_init_207 (by decide) ?_
  refine g_iconst (pc := 208) (v := 0) dX11_init_208 (by decide) ?_
  refine g_iast (pc := 209) 13 cM_13 rfl cM_s13 dX11_init_209 (fun s23 => ?_)
  refine g_aload_n (pc := 210) 0 dX11_init_210 rfl rfl ?_
  refine g_get (pc := 211) 0 cM_0 rfl inlX11 27 (by decide) bw_14_13 rfl dX11_init_211 ?_
  refine g_iconst (pc := 214) (v := 3) dX11_init_214 (by decide) ?_
  refine g_iconst (pc := 215) (v := 1) dX11_init_215 (by decide) ?_
  refine g_iast (pc := 216) 13 cM_13 rfl cM_s13 dX11_init_216 (fun s24 => ?_)
  refine g_aload_n (pc := 217) 0 dX11_init_217 rfl rfl ?_
  refine g_iconst (pc := 218) (v := 4) dX11_init_218 (by decide) ?_
  refine g_put (pc := 219) 0 (ty := .int) cM_0 rfl inlX11 tyX11_ok nmX11 26 (by decide) bw_14_15 rfl (by decide +kernel) rfl rfl (Nat.le_of_ble_eq_true rfl) cM_f0_26 dX11_init_219 (fun s25 => ?_)
  refine g_aload_n (pc := 222) 0 dX11_init_222 rfl rfl ?_
  refine g_cVv (pc := 223) 0 (As := []) (fun r2 h2 => k_X11_settles__0 hI h2) wk_X11_settles wv_X11_settles bw_15_8 cM_0 rfl (by decide) (by decide) rfl rfl (Nat.le_of_ble_eq_true rfl) dX11_init_223 (fun r26 s27 => ?_)
  exact g_vretI (pc := 226) hRI dX11_init_226
