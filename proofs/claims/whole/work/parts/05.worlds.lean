/-! the two worlds: the system's cells (N), the check's (M) -/
def cM (a : Nat → Nat) (cI : ClassId) (σ : St) : va_W := [(a 0, .inr (11, [.int (σ 0 0), .int (σ 0 1), .int (σ 0 2), .ref (a 1), .int (σ 0 4), .ref (a 2), .int (σ 0 6), .ref (a 3), .ref (a 4), .int (σ 0 9), .ref (a 5), .int (σ 0 11), .ref (a 6), .int (σ 0 13), .ref (a 7), .ref (a 8), .int (σ 0 16), .int (σ 0 17), .ref (a 9), .int (σ 0 19), .int (σ 0 20), .int (σ 0 21), .ref (a 10), .ref (a 11), .int (σ 0 24), .ref (a 12), .int (σ 0 26), .ref (a 13), .ref (a 14), .int (σ 0 29), .int (σ 0 30), .int (σ 0 31)])), (a 1, .inl (cI, 16, .inl (σ 1))), (a 2, .inl (cI, 15, .inl (σ 2))), (a 3, .inl (cI, 8, .inl (σ 3))), (a 4, .inl (cI, 22, .inl (σ 4))), (a 5, .inl (cI, 176, .inl (σ 5))), (a 6, .inl (cI, 44, .inl (σ 6))), (a 7, .inl (cI, 24, .inl (σ 7))), (a 8, .inl (cI, 200, .inl (σ 8))), (a 9, .inl (cI, 3, .inl (σ 9))), (a 10, .inl (cI, 16, .inl (σ 10))), (a 11, .inl (cI, 16, .inl (σ 11))), (a 12, .inl (cI, 15, .inl (σ 12))), (a 13, .inl (cI, 8, .inl (σ 13))), (a 14, .inl (cI, 22, .inl (σ 14)))]
def AM (a : Nat → Nat) : Nat → Prop := fun q => ∃ p : Nat, p < 15 ∧ q = a p
abbrev SM (l : Launch) (D : va_G) (a : Nat → Nat) (cI : ClassId) : Gs := (l, D, [(cI, .int)], AM a, cM a cI, a)
theorem cM_0 {a : Nat → Nat} {cI : ClassId} {σ : St} : (cM a cI σ)[0]? = some (a 0, .inr (11, [.int (σ 0 0), .int (σ 0 1), .int (σ 0 2), .ref (a 1), .int (σ 0 4), .ref (a 2), .int (σ 0 6), .ref (a 3), .ref (a 4), .int (σ 0 9), .ref (a 5), .int (σ 0 11), .ref (a 6), .int (σ 0 13), .ref (a 7), .ref (a 8), .int (σ 0 16), .int (σ 0 17), .ref (a 9), .int (σ 0 19), .int (σ 0 20), .int (σ 0 21), .ref (a 10), .ref (a 11), .int (σ 0 24), .ref (a 12), .int (σ 0 26), .ref (a 13), .ref (a 14), .int (σ 0 29), .int (σ 0 30), .int (σ 0 31)])) := rfl
theorem cM_f0_0 {a : Nat → Nat} {cI : ClassId} {σ : St} {v : Int32} : (cM a cI σ).set 0 (a 0, .inr (11, ([.int (σ 0 0), .int (σ 0 1), .int (σ 0 2), .ref (a 1), .int (σ 0 4), .ref (a 2), .int (σ 0 6), .ref (a 3), .ref (a 4), .int (σ 0 9), .ref (a 5), .int (σ 0 11), .ref (a 6), .int (σ 0 13), .ref (a 7), .ref (a 8), .int (σ 0 16), .int (σ 0 17), .ref (a 9), .int (σ 0 19), .int (σ 0 20), .int (σ 0 21), .ref (a 10), .ref (a 11), .int (σ 0 24), .ref (a 12), .int (σ 0 26), .ref (a 13), .ref (a 14), .int (σ 0 29), .int (σ 0 30), .int (σ 0 31)] : List Value).set 0 (.int v))) = cM a cI (pf σ 0 0 v) := rfl
theorem cM_f0_1 {a : Nat → Nat} {cI : ClassId} {σ : St} {v : Int32} : (cM a cI σ).set 0 (a 0, .inr (11, ([.int (σ 0 0), .int (σ 0 1), .int (σ 0 2), .ref (a 1), .int (σ 0 4), .ref (a 2), .int (σ 0 6), .ref (a 3), .ref (a 4), .int (σ 0 9), .ref (a 5), .int (σ 0 11), .ref (a 6), .int (σ 0 13), .ref (a 7), .ref (a 8), .int (σ 0 16), .int (σ 0 17), .ref (a 9), .int (σ 0 19), .int (σ 0 20), .int (σ 0 21), .ref (a 10), .ref (a 11), .int (σ 0 24), .ref (a 12), .int (σ 0 26), .ref (a 13), .ref (a 14), .int (σ 0 29), .int (σ 0 30), .int (σ 0 31)] : List Value).set 1 (.int v))) = cM a cI (pf σ 0 1 v) := rfl
theorem cM_f0_2 {a : Nat → Nat} {cI : ClassId} {σ : St} {v : Int32} : (cM a cI σ).set 0 (a 0, .inr (11, ([.int (σ 0 0), .int (σ 0 1), .int (σ 0 2), .ref (a 1), .int (σ 0 4), .ref (a 2), .int (σ 0 6), .ref (a 3), .ref (a 4), .int (σ 0 9), .ref (a 5), .int (σ 0 11), .ref (a 6), .int (σ 0 13), .ref (a 7), .ref (a 8), .int (σ 0 16), .int (σ 0 17), .ref (a 9), .int (σ 0 19), .int (σ 0 20), .int (σ 0 21), .ref (a 10), .ref (a 11), .int (σ 0 24), .ref (a 12), .int (σ 0 26), .ref (a 13), .ref (a 14), .int (σ 0 29), .int (σ 0 30), .int (σ 0 31)] : List Value).set 2 (.int v))) = cM a cI (pf σ 0 2 v) := rfl
theorem cM_f0_4 {a : Nat → Nat} {cI : ClassId} {σ : St} {v : Int32} : (cM a cI σ).set 0 (a 0, .inr (11, ([.int (σ 0 0), .int (σ 0 1), .int (σ 0 2), .ref (a 1), .int (σ 0 4), .ref (a 2), .int (σ 0 6), .ref (a 3), .ref (a 4), .int (σ 0 9), .ref (a 5), .int (σ 0 11), .ref (a 6), .int (σ 0 13), .ref (a 7), .ref (a 8), .int (σ 0 16), .int (σ 0 17), .ref (a 9), .int (σ 0 19), .int (σ 0 20), .int (σ 0 21), .ref (a 10), .ref (a 11), .int (σ 0 24), .ref (a 12), .int (σ 0 26), .ref (a 13), .ref (a 14), .int (σ 0 29), .int (σ 0 30), .int (σ 0 31)] : List Value).set 4 (.int v))) = cM a cI (pf σ 0 4 v) := rfl
theorem cM_f0_6 {a : Nat → Nat} {cI : ClassId} {σ : St} {v : Int32} : (cM a cI σ).set 0 (a 0, .inr (11, ([.int (σ 0 0), .int (σ 0 1), .int (σ 0 2), .ref (a 1), .int (σ 0 4), .ref (a 2), .int (σ 0 6), .ref (a 3), .ref (a 4), .int (σ 0 9), .ref (a 5), .int (σ 0 11), .ref (a 6), .int (σ 0 13), .ref (a 7), .ref (a 8), .int (σ 0 16), .int (σ 0 17), .ref (a 9), .int (σ 0 19), .int (σ 0 20), .int (σ 0 21), .ref (a 10), .ref (a 11), .int (σ 0 24), .ref (a 12), .int (σ 0 26), .ref (a 13), .ref (a 14), .int (σ 0 29), .int (σ 0 30), .int (σ 0 31)] : List Value).set 6 (.int v))) = cM a cI (pf σ 0 6 v) := rfl
theorem cM_f0_9 {a : Nat → Nat} {cI : ClassId} {σ : St} {v : Int32} : (cM a cI σ).set 0 (a 0, .inr (11, ([.int (σ 0 0), .int (σ 0 1), .int (σ 0 2), .ref (a 1), .int (σ 0 4), .ref (a 2), .int (σ 0 6), .ref (a 3), .ref (a 4), .int (σ 0 9), .ref (a 5), .int (σ 0 11), .ref (a 6), .int (σ 0 13), .ref (a 7), .ref (a 8), .int (σ 0 16), .int (σ 0 17), .ref (a 9), .int (σ 0 19), .int (σ 0 20), .int (σ 0 21), .ref (a 10), .ref (a 11), .int (σ 0 24), .ref (a 12), .int (σ 0 26), .ref (a 13), .ref (a 14), .int (σ 0 29), .int (σ 0 30), .int (σ 0 31)] : List Value).set 9 (.int v))) = cM a cI (pf σ 0 9 v) := rfl
theorem cM_f0_11 {a : Nat → Nat} {cI : ClassId} {σ : St} {v : Int32} : (cM a cI σ).set 0 (a 0, .inr (11, ([.int (σ 0 0), .int (σ 0 1), .int (σ 0 2), .ref (a 1), .int (σ 0 4), .ref (a 2), .int (σ 0 6), .ref (a 3), .ref (a 4), .int (σ 0 9), .ref (a 5), .int (σ 0 11), .ref (a 6), .int (σ 0 13), .ref (a 7), .ref (a 8), .int (σ 0 16), .int (σ 0 17), .ref (a 9), .int (σ 0 19), .int (σ 0 20), .int (σ 0 21), .ref (a 10), .ref (a 11), .int (σ 0 24), .ref (a 12), .int (σ 0 26), .ref (a 13), .ref (a 14), .int (σ 0 29), .int (σ 0 30), .int (σ 0 31)] : List Value).set 11 (.int v))) = cM a cI (pf σ 0 11 v) := rfl
theorem cM_f0_13 {a : Nat → Nat} {cI : ClassId} {σ : St} {v : Int32} : (cM a cI σ).set 0 (a 0, .inr (11, ([.int (σ 0 0), .int (σ 0 1), .int (σ 0 2), .ref (a 1), .int (σ 0 4), .ref (a 2), .int (σ 0 6), .ref (a 3), .ref (a 4), .int (σ 0 9), .ref (a 5), .int (σ 0 11), .ref (a 6), .int (σ 0 13), .ref (a 7), .ref (a 8), .int (σ 0 16), .int (σ 0 17), .ref (a 9), .int (σ 0 19), .int (σ 0 20), .int (σ 0 21), .ref (a 10), .ref (a 11), .int (σ 0 24), .ref (a 12), .int (σ 0 26), .ref (a 13), .ref (a 14), .int (σ 0 29), .int (σ 0 30), .int (σ 0 31)] : List Value).set 13 (.int v))) = cM a cI (pf σ 0 13 v) := rfl
theorem cM_f0_16 {a : Nat → Nat} {cI : ClassId} {σ : St} {v : Int32} : (cM a cI σ).set 0 (a 0, .inr (11, ([.int (σ 0 0), .int (σ 0 1), .int (σ 0 2), .ref (a 1), .int (σ 0 4), .ref (a 2), .int (σ 0 6), .ref (a 3), .ref (a 4), .int (σ 0 9), .ref (a 5), .int (σ 0 11), .ref (a 6), .int (σ 0 13), .ref (a 7), .ref (a 8), .int (σ 0 16), .int (σ 0 17), .ref (a 9), .int (σ 0 19), .int (σ 0 20), .int (σ 0 21), .ref (a 10), .ref (a 11), .int (σ 0 24), .ref (a 12), .int (σ 0 26), .ref (a 13), .ref (a 14), .int (σ 0 29), .int (σ 0 30), .int (σ 0 31)] : List Value).set 16 (.int v))) = cM a cI (pf σ 0 16 v) := rfl
theorem cM_f0_17 {a : Nat → Nat} {cI : ClassId} {σ : St} {v : Int32} : (cM a cI σ).set 0 (a 0, .inr (11, ([.int (σ 0 0), .int (σ 0 1), .int (σ 0 2), .ref (a 1), .int (σ 0 4), .ref (a 2), .int (σ 0 6), .ref (a 3), .ref (a 4), .int (σ 0 9), .ref (a 5), .int (σ 0 11), .ref (a 6), .int (σ 0 13), .ref (a 7), .ref (a 8), .int (σ 0 16), .int (σ 0 17), .ref (a 9), .int (σ 0 19), .int (σ 0 20), .int (σ 0 21), .ref (a 10), .ref (a 11), .int (σ 0 24), .ref (a 12), .int (σ 0 26), .ref (a 13), .ref (a 14), .int (σ 0 29), .int (σ 0 30), .int (σ 0 31)] : List Value).set 17 (.int v))) = cM a cI (pf σ 0 17 v) := rfl
theorem cM_f0_19 {a : Nat → Nat} {cI : ClassId} {σ : St} {v : Int32} : (cM a cI σ).set 0 (a 0, .inr (11, ([.int (σ 0 0), .int (σ 0 1), .int (σ 0 2), .ref (a 1), .int (σ 0 4), .ref (a 2), .int (σ 0 6), .ref (a 3), .ref (a 4), .int (σ 0 9), .ref (a 5), .int (σ 0 11), .ref (a 6), .int (σ 0 13), .ref (a 7), .ref (a 8), .int (σ 0 16), .int (σ 0 17), .ref (a 9), .int (σ 0 19), .int (σ 0 20), .int (σ 0 21), .ref (a 10), .ref (a 11), .int (σ 0 24), .ref (a 12), .int (σ 0 26), .ref (a 13), .ref (a 14), .int (σ 0 29), .int (σ 0 30), .int (σ 0 31)] : List Value).set 19 (.int v))) = cM a cI (pf σ 0 19 v) := rfl
theorem cM_f0_20 {a : Nat → Nat} {cI : ClassId} {σ : St} {v : Int32} : (cM a cI σ).set 0 (a 0, .inr (11, ([.int (σ 0 0), .int (σ 0 1), .int (σ 0 2), .ref (a 1), .int (σ 0 4), .ref (a 2), .int (σ 0 6), .ref (a 3), .ref (a 4), .int (σ 0 9), .ref (a 5), .int (σ 0 11), .ref (a 6), .int (σ 0 13), .ref (a 7), .ref (a 8), .int (σ 0 16), .int (σ 0 17), .ref (a 9), .int (σ 0 19), .int (σ 0 20), .int (σ 0 21), .ref (a 10), .ref (a 11), .int (σ 0 24), .ref (a 12), .int (σ 0 26), .ref (a 13), .ref (a 14), .int (σ 0 29), .int (σ 0 30), .int (σ 0 31)] : List Value).set 20 (.int v))) = cM a cI (pf σ 0 20 v) := rfl
theorem cM_f0_21 {a : Nat → Nat} {cI : ClassId} {σ : St} {v : Int32} : (cM a cI σ).set 0 (a 0, .inr (11, ([.int (σ 0 0), .int (σ 0 1), .int (σ 0 2), .ref (a 1), .int (σ 0 4), .ref (a 2), .int (σ 0 6), .ref (a 3), .ref (a 4), .int (σ 0 9), .ref (a 5), .int (σ 0 11), .ref (a 6), .int (σ 0 13), .ref (a 7), .ref (a 8), .int (σ 0 16), .int (σ 0 17), .ref (a 9), .int (σ 0 19), .int (σ 0 20), .int (σ 0 21), .ref (a 10), .ref (a 11), .int (σ 0 24), .ref (a 12), .int (σ 0 26), .ref (a 13), .ref (a 14), .int (σ 0 29), .int (σ 0 30), .int (σ 0 31)] : List Value).set 21 (.int v))) = cM a cI (pf σ 0 21 v) := rfl
theorem cM_f0_24 {a : Nat → Nat} {cI : ClassId} {σ : St} {v : Int32} : (cM a cI σ).set 0 (a 0, .inr (11, ([.int (σ 0 0), .int (σ 0 1), .int (σ 0 2), .ref (a 1), .int (σ 0 4), .ref (a 2), .int (σ 0 6), .ref (a 3), .ref (a 4), .int (σ 0 9), .ref (a 5), .int (σ 0 11), .ref (a 6), .int (σ 0 13), .ref (a 7), .ref (a 8), .int (σ 0 16), .int (σ 0 17), .ref (a 9), .int (σ 0 19), .int (σ 0 20), .int (σ 0 21), .ref (a 10), .ref (a 11), .int (σ 0 24), .ref (a 12), .int (σ 0 26), .ref (a 13), .ref (a 14), .int (σ 0 29), .int (σ 0 30), .int (σ 0 31)] : List Value).set 24 (.int v))) = cM a cI (pf σ 0 24 v) := rfl
theorem cM_f0_26 {a : Nat → Nat} {cI : ClassId} {σ : St} {v : Int32} : (cM a cI σ).set 0 (a 0, .inr (11, ([.int (σ 0 0), .int (σ 0 1), .int (σ 0 2), .ref (a 1), .int (σ 0 4), .ref (a 2), .int (σ 0 6), .ref (a 3), .ref (a 4), .int (σ 0 9), .ref (a 5), .int (σ 0 11), .ref (a 6), .int (σ 0 13), .ref (a 7), .ref (a 8), .int (σ 0 16), .int (σ 0 17), .ref (a 9), .int (σ 0 19), .int (σ 0 20), .int (σ 0 21), .ref (a 10), .ref (a 11), .int (σ 0 24), .ref (a 12), .int (σ 0 26), .ref (a 13), .ref (a 14), .int (σ 0 29), .int (σ 0 30), .int (σ 0 31)] : List Value).set 26 (.int v))) = cM a cI (pf σ 0 26 v) := rfl
theorem cM_f0_29 {a : Nat → Nat} {cI : ClassId} {σ : St} {v : Int32} : (cM a cI σ).set 0 (a 0, .inr (11, ([.int (σ 0 0), .int (σ 0 1), .int (σ 0 2), .ref (a 1), .int (σ 0 4), .ref (a 2), .int (σ 0 6), .ref (a 3), .ref (a 4), .int (σ 0 9), .ref (a 5), .int (σ 0 11), .ref (a 6), .int (σ 0 13), .ref (a 7), .ref (a 8), .int (σ 0 16), .int (σ 0 17), .ref (a 9), .int (σ 0 19), .int (σ 0 20), .int (σ 0 21), .ref (a 10), .ref (a 11), .int (σ 0 24), .ref (a 12), .int (σ 0 26), .ref (a 13), .ref (a 14), .int (σ 0 29), .int (σ 0 30), .int (σ 0 31)] : List Value).set 29 (.int v))) = cM a cI (pf σ 0 29 v) := rfl
theorem cM_f0_30 {a : Nat → Nat} {cI : ClassId} {σ : St} {v : Int32} : (cM a cI σ).set 0 (a 0, .inr (11, ([.int (σ 0 0), .int (σ 0 1), .int (σ 0 2), .ref (a 1), .int (σ 0 4), .ref (a 2), .int (σ 0 6), .ref (a 3), .ref (a 4), .int (σ 0 9), .ref (a 5), .int (σ 0 11), .ref (a 6), .int (σ 0 13), .ref (a 7), .ref (a 8), .int (σ 0 16), .int (σ 0 17), .ref (a 9), .int (σ 0 19), .int (σ 0 20), .int (σ 0 21), .ref (a 10), .ref (a 11), .int (σ 0 24), .ref (a 12), .int (σ 0 26), .ref (a 13), .ref (a 14), .int (σ 0 29), .int (σ 0 30), .int (σ 0 31)] : List Value).set 30 (.int v))) = cM a cI (pf σ 0 30 v) := rfl
theorem cM_f0_31 {a : Nat → Nat} {cI : ClassId} {σ : St} {v : Int32} : (cM a cI σ).set 0 (a 0, .inr (11, ([.int (σ 0 0), .int (σ 0 1), .int (σ 0 2), .ref (a 1), .int (σ 0 4), .ref (a 2), .int (σ 0 6), .ref (a 3), .ref (a 4), .int (σ 0 9), .ref (a 5), .int (σ 0 11), .ref (a 6), .int (σ 0 13), .ref (a 7), .ref (a 8), .int (σ 0 16), .int (σ 0 17), .ref (a 9), .int (σ 0 19), .int (σ 0 20), .int (σ 0 21), .ref (a 10), .ref (a 11), .int (σ 0 24), .ref (a 12), .int (σ 0 26), .ref (a 13), .ref (a 14), .int (σ 0 29), .int (σ 0 30), .int (σ 0 31)] : List Value).set 31 (.int v))) = cM a cI (pf σ 0 31 v) := rfl
theorem cM_1 {a : Nat → Nat} {cI : ClassId} {σ : St} : (cM a cI σ)[1]? = some (a 1, .inl (cI, 16, .inl (σ 1))) := rfl
theorem cM_s1 {a : Nat → Nat} {cI : ClassId} {σ : St} {i x : Int32} : (cM a cI σ).set 1 (a 1, .inl (cI, 16, .inl (upd (σ 1) i.toNatClampNeg x))) = cM a cI (ps σ 1 i x) := rfl
theorem cM_2 {a : Nat → Nat} {cI : ClassId} {σ : St} : (cM a cI σ)[2]? = some (a 2, .inl (cI, 15, .inl (σ 2))) := rfl
theorem cM_s2 {a : Nat → Nat} {cI : ClassId} {σ : St} {i x : Int32} : (cM a cI σ).set 2 (a 2, .inl (cI, 15, .inl (upd (σ 2) i.toNatClampNeg x))) = cM a cI (ps σ 2 i x) := rfl
theorem cM_3 {a : Nat → Nat} {cI : ClassId} {σ : St} : (cM a cI σ)[3]? = some (a 3, .inl (cI, 8, .inl (σ 3))) := rfl
theorem cM_s3 {a : Nat → Nat} {cI : ClassId} {σ : St} {i x : Int32} : (cM a cI σ).set 3 (a 3, .inl (cI, 8, .inl (upd (σ 3) i.toNatClampNeg x))) = cM a cI (ps σ 3 i x) := rfl
theorem cM_4 {a : Nat → Nat} {cI : ClassId} {σ : St} : (cM a cI σ)[4]? = some (a 4, .inl (cI, 22, .inl (σ 4))) := rfl
theorem cM_s4 {a : Nat → Nat} {cI : ClassId} {σ : St} {i x : Int32} : (cM a cI σ).set 4 (a 4, .inl (cI, 22, .inl (upd (σ 4) i.toNatClampNeg x))) = cM a cI (ps σ 4 i x) := rfl
theorem cM_5 {a : Nat → Nat} {cI : ClassId} {σ : St} : (cM a cI σ)[5]? = some (a 5, .inl (cI, 176, .inl (σ 5))) := rfl
theorem cM_s5 {a : Nat → Nat} {cI : ClassId} {σ : St} {i x : Int32} : (cM a cI σ).set 5 (a 5, .inl (cI, 176, .inl (upd (σ 5) i.toNatClampNeg x))) = cM a cI (ps σ 5 i x) := rfl
theorem cM_6 {a : Nat → Nat} {cI : ClassId} {σ : St} : (cM a cI σ)[6]? = some (a 6, .inl (cI, 44, .inl (σ 6))) := rfl
theorem cM_s6 {a : Nat → Nat} {cI : ClassId} {σ : St} {i x : Int32} : (cM a cI σ).set 6 (a 6, .inl (cI, 44, .inl (upd (σ 6) i.toNatClampNeg x))) = cM a cI (ps σ 6 i x) := rfl
theorem cM_7 {a : Nat → Nat} {cI : ClassId} {σ : St} : (cM a cI σ)[7]? = some (a 7, .inl (cI, 24, .inl (σ 7))) := rfl
theorem cM_s7 {a : Nat → Nat} {cI : ClassId} {σ : St} {i x : Int32} : (cM a cI σ).set 7 (a 7, .inl (cI, 24, .inl (upd (σ 7) i.toNatClampNeg x))) = cM a cI (ps σ 7 i x) := rfl
theorem cM_8 {a : Nat → Nat} {cI : ClassId} {σ : St} : (cM a cI σ)[8]? = some (a 8, .inl (cI, 200, .inl (σ 8))) := rfl
theorem cM_s8 {a : Nat → Nat} {cI : ClassId} {σ : St} {i x : Int32} : (cM a cI σ).set 8 (a 8, .inl (cI, 200, .inl (upd (σ 8) i.toNatClampNeg x))) = cM a cI (ps σ 8 i x) := rfl
theorem cM_9 {a : Nat → Nat} {cI : ClassId} {σ : St} : (cM a cI σ)[9]? = some (a 9, .inl (cI, 3, .inl (σ 9))) := rfl
theorem cM_s9 {a : Nat → Nat} {cI : ClassId} {σ : St} {i x : Int32} : (cM a cI σ).set 9 (a 9, .inl (cI, 3, .inl (upd (σ 9) i.toNatClampNeg x))) = cM a cI (ps σ 9 i x) := rfl
theorem cM_10 {a : Nat → Nat} {cI : ClassId} {σ : St} : (cM a cI σ)[10]? = some (a 10, .inl (cI, 16, .inl (σ 10))) := rfl
theorem cM_s10 {a : Nat → Nat} {cI : ClassId} {σ : St} {i x : Int32} : (cM a cI σ).set 10 (a 10, .inl (cI, 16, .inl (upd (σ 10) i.toNatClampNeg x))) = cM a cI (ps σ 10 i x) := rfl
theorem cM_11 {a : Nat → Nat} {cI : ClassId} {σ : St} : (cM a cI σ)[11]? = some (a 11, .inl (cI, 16, .inl (σ 11))) := rfl
theorem cM_s11 {a : Nat → Nat} {cI : ClassId} {σ : St} {i x : Int32} : (cM a cI σ).set 11 (a 11, .inl (cI, 16, .inl (upd (σ 11) i.toNatClampNeg x))) = cM a cI (ps σ 11 i x) := rfl
theorem cM_12 {a : Nat → Nat} {cI : ClassId} {σ : St} : (cM a cI σ)[12]? = some (a 12, .inl (cI, 15, .inl (σ 12))) := rfl
theorem cM_s12 {a : Nat → Nat} {cI : ClassId} {σ : St} {i x : Int32} : (cM a cI σ).set 12 (a 12, .inl (cI, 15, .inl (upd (σ 12) i.toNatClampNeg x))) = cM a cI (ps σ 12 i x) := rfl
theorem cM_13 {a : Nat → Nat} {cI : ClassId} {σ : St} : (cM a cI σ)[13]? = some (a 13, .inl (cI, 8, .inl (σ 13))) := rfl
theorem cM_s13 {a : Nat → Nat} {cI : ClassId} {σ : St} {i x : Int32} : (cM a cI σ).set 13 (a 13, .inl (cI, 8, .inl (upd (σ 13) i.toNatClampNeg x))) = cM a cI (ps σ 13 i x) := rfl
theorem cM_14 {a : Nat → Nat} {cI : ClassId} {σ : St} : (cM a cI σ)[14]? = some (a 14, .inl (cI, 22, .inl (σ 14))) := rfl
theorem cM_s14 {a : Nat → Nat} {cI : ClassId} {σ : St} {i x : Int32} : (cM a cI σ).set 14 (a 14, .inl (cI, 22, .inl (upd (σ 14) i.toNatClampNeg x))) = cM a cI (ps σ 14 i x) := rfl
theorem cM_D {a : Nat → Nat} {cI : ClassId} (h : ∀ i j : Nat, i < 15 → j < 15 → a i = a j → i = j) (σ : St) : va_D (AM a) (cM a cI σ) := by
  have key : ∀ (k : Nat) (q : Nat × va_E), (cM a cI σ)[k]? = some q → k < 15 ∧ q.1 = a k := by
    intro k q hk
    have hm : ((cM a cI σ).map (fun q => q.1))[k]? = some q.1 := by rw [List.getElem?_map, hk]; rfl
    have he : (cM a cI σ).map (fun q => q.1) = (List.range 15).map a := rfl
    rw [he, List.getElem?_map] at hm
    by_cases hlt : k < 15
    · rw [List.getElem?_range hlt] at hm
      exact ⟨hlt, (Option.some.inj hm).symm⟩
    · rw [List.getElem?_eq_none (by simpa using hlt)] at hm
      cases hm
  refine ⟨fun i j x y hi hj hxy => ?_, fun k q hk => ⟨k, (key k q hk).1, (key k q hk).2⟩⟩
  obtain ⟨h1, h2⟩ := key i x hi
  obtain ⟨h3, h4⟩ := key j y hj
  exact h i j h1 h3 (by rw [← h2, ← h4, hxy])
theorem cM_D2 {a : Nat → Nat} {cI : ClassId} {σ : St} {k : Nat} {q : Nat × va_E} (hk : (cM a cI σ)[k]? = some q) : ∃ i : Nat, i < 15 ∧ q.1 = a i := by
    have hm : ((cM a cI σ).map (fun q => q.1))[k]? = some q.1 := by rw [List.getElem?_map, hk]; rfl
    have he : (cM a cI σ).map (fun q => q.1) = (List.range 15).map a := rfl
    rw [he, List.getElem?_map] at hm
    by_cases hlt : k < 15
    · rw [List.getElem?_range hlt] at hm
      exact ⟨k, hlt, (Option.some.inj hm).symm⟩
    · rw [List.getElem?_eq_none (by simpa using hlt)] at hm
      cases hm
theorem cM_at {a : Nat → Nat} {cI : ClassId} {σ : St} {k : Nat} (hk : k < 15) : ∃ e : va_E, (cM a cI σ)[k]? = some (a k, e) := by
    have he : (cM a cI σ).map (fun q => q.1) = (List.range 15).map a := rfl
    have hm : ((cM a cI σ).map (fun q => q.1))[k]? = some (a k) := by rw [he, List.getElem?_map, List.getElem?_range hk]; rfl
    rw [List.getElem?_map] at hm
    cases hq : (cM a cI σ)[k]? with
    | none => rw [hq] at hm; cases hm
    | some x => rw [hq] at hm; exact ⟨x.2, by rw [← Option.some.inj hm]⟩
theorem cM_inj {a : Nat → Nat} {cI : ClassId} {σ : St} {A : Nat → Prop} (h : va_D A (cM a cI σ)) : ∀ i j : Nat, i < 15 → j < 15 → a i = a j → i = j := fun i j hi hj e => by
    obtain ⟨x, hx⟩ := cM_at (cI := cI) (σ := σ) (a := a) hi
    obtain ⟨y, hy⟩ := cM_at (cI := cI) (σ := σ) (a := a) hj
    exact h.1 i j _ _ hx hy e
theorem cM_sub {a : Nat → Nat} {cI : ClassId} {σ : St} {A : Nat → Prop} (h : va_D A (cM a cI σ)) : ∀ q : Nat, AM a q → A q := fun q hq => by
    obtain ⟨k, hk, rfl⟩ := hq
    obtain ⟨x, hx⟩ := cM_at (cI := cI) (σ := σ) (a := a) hk
    exact h.2 k _ hx
def rA (a : Nat → Nat) (b n : Nat) : Nat → Option Nat := fun k => if k < n then some (a (b + 3 * k)) else none
def cN (a : Nat → Nat) (cI : ClassId) (cS : ClassId) (σ : St) : va_W := [(a 0, .inr (10, [.ref (a 1), .ref (a 3), .ref (a 5), .ref (a 12), .ref (a 19), .ref (a 22), .ref (a 48), .ref (a 56), .ref (a 59), .ref (a 60), .ref (a 61), .ref (a 62)])), (a 1, .inr (7, [.ref (a 2), .int (σ 1 1)])), (a 2, .inl (cI, 200, .inl (σ 2))), (a 3, .inr (6, [.ref (a 1), .ref (a 4), .int (σ 3 2)])), (a 4, .inl (cI, 3, .inl (σ 4))), (a 5, .inr (4, [.ref (a 6), .ref (a 7), .ref (a 8), .ref (a 9), .ref (a 10), .ref (a 11), .int (σ 5 6), .int (σ 5 7), .int (σ 5 8), .int (σ 5 9), .int (σ 5 10), .int (σ 5 11), .int (σ 5 12)])), (a 6, .inl (cI, 16, .inl (σ 6))), (a 7, .inl (cI, 16, .inl (σ 7))), (a 8, .inl (cI, 5, .inl (σ 8))), (a 9, .inl (cI, 5, .inl (σ 9))), (a 10, .inl (cI, 5, .inl (σ 10))), (a 11, .inl (cI, 8, .inl (σ 11))), (a 12, .inr (4, [.ref (a 13), .ref (a 14), .ref (a 15), .ref (a 16), .ref (a 17), .ref (a 18), .int (σ 12 6), .int (σ 12 7), .int (σ 12 8), .int (σ 12 9), .int (σ 12 10), .int (σ 12 11), .int (σ 12 12)])), (a 13, .inl (cI, 16, .inl (σ 13))), (a 14, .inl (cI, 16, .inl (σ 14))), (a 15, .inl (cI, 5, .inl (σ 15))), (a 16, .inl (cI, 5, .inl (σ 16))), (a 17, .inl (cI, 5, .inl (σ 17))), (a 18, .inl (cI, 8, .inl (σ 18))), (a 19, .inr (9, [.ref (a 20), .ref (a 21), .int (σ 19 2)])), (a 20, .inl (cI, 16, .inl (σ 20))), (a 21, .inl (cI, 5, .inl (σ 21))), (a 22, .inr (5, [.ref (a 23), .int (σ 22 1), .int (σ 22 2)])), (a 23, .inl (cS, 8, .inr (.inr (.inr (.inr (rA a 24 8)))))), (a 24, .inr (9, [.ref (a 25), .ref (a 26), .int (σ 24 2)])), (a 25, .inl (cI, 16, .inl (σ 25))), (a 26, .inl (cI, 5, .inl (σ 26))), (a 27, .inr (9, [.ref (a 28), .ref (a 29), .int (σ 27 2)])), (a 28, .inl (cI, 16, .inl (σ 28))), (a 29, .inl (cI, 5, .inl (σ 29))), (a 30, .inr (9, [.ref (a 31), .ref (a 32), .int (σ 30 2)])), (a 31, .inl (cI, 16, .inl (σ 31))), (a 32, .inl (cI, 5, .inl (σ 32))), (a 33, .inr (9, [.ref (a 34), .ref (a 35), .int (σ 33 2)])), (a 34, .inl (cI, 16, .inl (σ 34))), (a 35, .inl (cI, 5, .inl (σ 35))), (a 36, .inr (9, [.ref (a 37), .ref (a 38), .int (σ 36 2)])), (a 37, .inl (cI, 16, .inl (σ 37))), (a 38, .inl (cI, 5, .inl (σ 38))), (a 39, .inr (9, [.ref (a 40), .ref (a 41), .int (σ 39 2)])), (a 40, .inl (cI, 16, .inl (σ 40))), (a 41, .inl (cI, 5, .inl (σ 41))), (a 42, .inr (9, [.ref (a 43), .ref (a 44), .int (σ 42 2)])), (a 43, .inl (cI, 16, .inl (σ 43))), (a 44, .inl (cI, 5, .inl (σ 44))), (a 45, .inr (9, [.ref (a 46), .ref (a 47), .int (σ 45 2)])), (a 46, .inl (cI, 16, .inl (σ 46))), (a 47, .inl (cI, 5, .inl (σ 47))), (a 48, .inr (5, [.ref (a 49), .int (σ 48 1), .int (σ 48 2)])), (a 49, .inl (cS, 2, .inr (.inr (.inr (.inr (rA a 50 2)))))), (a 50, .inr (9, [.ref (a 51), .ref (a 52), .int (σ 50 2)])), (a 51, .inl (cI, 16, .inl (σ 51))), (a 52, .inl (cI, 5, .inl (σ 52))), (a 53, .inr (9, [.ref (a 54), .ref (a 55), .int (σ 53 2)])), (a 54, .inl (cI, 16, .inl (σ 54))), (a 55, .inl (cI, 5, .inl (σ 55))), (a 56, .inr (1, [.ref (a 12), .ref (a 19), .ref (a 57), .ref (a 58), .int (σ 56 4), .int (σ 56 5), .int (σ 56 6), .int (σ 56 7), .int (σ 56 8), .int (σ 56 9), .int (σ 56 10), .int (σ 56 11)])), (a 57, .inl (cI, 16, .inl (σ 57))), (a 58, .inl (cI, 16, .inl (σ 58))), (a 59, .inr (3, [.ref (a 12), .ref (a 19), .ref (a 56)])), (a 60, .inr (2, [.ref (a 12), .ref (a 19), .ref (a 56), .int (σ 60 3), .int (σ 60 4), .int (σ 60 5), .int (σ 60 6), .int (σ 60 7), .int (σ 60 8)])), (a 61, .inr (0, [.ref (a 12), .ref (a 56), .int (σ 61 2), .int (σ 61 3)])), (a 62, .inr (8, [.ref (a 12), .ref (a 56), .ref (a 63), .ref (a 64), .ref (a 65), .ref (a 66), .int (σ 62 6)])), (a 63, .inl (cI, 6, .inl (σ 63))), (a 64, .inl (cI, 6, .inl (σ 64))), (a 65, .inl (cI, 6, .inl (σ 65))), (a 66, .inl (cI, 6, .inl (σ 66)))]
def AN (a : Nat → Nat) : Nat → Prop := fun q => ∃ p : Nat, p < 67 ∧ q = a p
theorem pqv_24 {a : Nat → Nat} : va_rf (pq a 24) = Value.ref (a 24) := by rw [pq, if_neg (by decide)]; rfl
theorem pqv_27 {a : Nat → Nat} : va_rf (pq a 27) = Value.ref (a 27) := by rw [pq, if_neg (by decide)]; rfl
theorem pqv_30 {a : Nat → Nat} : va_rf (pq a 30) = Value.ref (a 30) := by rw [pq, if_neg (by decide)]; rfl
theorem pqv_33 {a : Nat → Nat} : va_rf (pq a 33) = Value.ref (a 33) := by rw [pq, if_neg (by decide)]; rfl
theorem pqv_36 {a : Nat → Nat} : va_rf (pq a 36) = Value.ref (a 36) := by rw [pq, if_neg (by decide)]; rfl
theorem pqv_39 {a : Nat → Nat} : va_rf (pq a 39) = Value.ref (a 39) := by rw [pq, if_neg (by decide)]; rfl
theorem pqv_42 {a : Nat → Nat} : va_rf (pq a 42) = Value.ref (a 42) := by rw [pq, if_neg (by decide)]; rfl
theorem pqv_45 {a : Nat → Nat} : va_rf (pq a 45) = Value.ref (a 45) := by rw [pq, if_neg (by decide)]; rfl
theorem pqv_50 {a : Nat → Nat} : va_rf (pq a 50) = Value.ref (a 50) := by rw [pq, if_neg (by decide)]; rfl
theorem pqv_53 {a : Nat → Nat} : va_rf (pq a 53) = Value.ref (a 53) := by rw [pq, if_neg (by decide)]; rfl
abbrev SN (l : Launch) (D : va_G) (a : Nat → Nat) (cI cS : ClassId) : Gs := (l, D, [(cI, .int), (cS, .object "NewsDraughts$Standing")], AN a, cN a cI cS, a)
theorem cN_0 {a : Nat → Nat} {cI cS : ClassId} {σ : St} : (cN a cI cS σ)[0]? = some (a 0, .inr (10, [.ref (a 1), .ref (a 3), .ref (a 5), .ref (a 12), .ref (a 19), .ref (a 22), .ref (a 48), .ref (a 56), .ref (a 59), .ref (a 60), .ref (a 61), .ref (a 62)])) := rfl
theorem cN_1 {a : Nat → Nat} {cI cS : ClassId} {σ : St} : (cN a cI cS σ)[1]? = some (a 1, .inr (7, [.ref (a 2), .int (σ 1 1)])) := rfl
theorem cN_f1_1 {a : Nat → Nat} {cI cS : ClassId} {σ : St} {v : Int32} : (cN a cI cS σ).set 1 (a 1, .inr (7, ([.ref (a 2), .int (σ 1 1)] : List Value).set 1 (.int v))) = cN a cI cS (pf σ 1 1 v) := rfl
theorem cN_2 {a : Nat → Nat} {cI cS : ClassId} {σ : St} : (cN a cI cS σ)[2]? = some (a 2, .inl (cI, 200, .inl (σ 2))) := rfl
theorem cN_s2 {a : Nat → Nat} {cI cS : ClassId} {σ : St} {i x : Int32} : (cN a cI cS σ).set 2 (a 2, .inl (cI, 200, .inl (upd (σ 2) i.toNatClampNeg x))) = cN a cI cS (ps σ 2 i x) := rfl
theorem cN_3 {a : Nat → Nat} {cI cS : ClassId} {σ : St} : (cN a cI cS σ)[3]? = some (a 3, .inr (6, [.ref (a 1), .ref (a 4), .int (σ 3 2)])) := rfl
theorem cN_f3_2 {a : Nat → Nat} {cI cS : ClassId} {σ : St} {v : Int32} : (cN a cI cS σ).set 3 (a 3, .inr (6, ([.ref (a 1), .ref (a 4), .int (σ 3 2)] : List Value).set 2 (.int v))) = cN a cI cS (pf σ 3 2 v) := rfl
theorem cN_4 {a : Nat → Nat} {cI cS : ClassId} {σ : St} : (cN a cI cS σ)[4]? = some (a 4, .inl (cI, 3, .inl (σ 4))) := rfl
theorem cN_s4 {a : Nat → Nat} {cI cS : ClassId} {σ : St} {i x : Int32} : (cN a cI cS σ).set 4 (a 4, .inl (cI, 3, .inl (upd (σ 4) i.toNatClampNeg x))) = cN a cI cS (ps σ 4 i x) := rfl
theorem cN_5 {a : Nat → Nat} {cI cS : ClassId} {σ : St} : (cN a cI cS σ)[5]? = some (a 5, .inr (4, [.ref (a 6), .ref (a 7), .ref (a 8), .ref (a 9), .ref (a 10), .ref (a 11), .int (σ 5 6), .int (σ 5 7), .int (σ 5 8), .int (σ 5 9), .int (σ 5 10), .int (σ 5 11), .int (σ 5 12)])) := rfl
theorem cN_f5_6 {a : Nat → Nat} {cI cS : ClassId} {σ : St} {v : Int32} : (cN a cI cS σ).set 5 (a 5, .inr (4, ([.ref (a 6), .ref (a 7), .ref (a 8), .ref (a 9), .ref (a 10), .ref (a 11), .int (σ 5 6), .int (σ 5 7), .int (σ 5 8), .int (σ 5 9), .int (σ 5 10), .int (σ 5 11), .int (σ 5 12)] : List Value).set 6 (.int v))) = cN a cI cS (pf σ 5 6 v) := rfl
theorem cN_f5_7 {a : Nat → Nat} {cI cS : ClassId} {σ : St} {v : Int32} : (cN a cI cS σ).set 5 (a 5, .inr (4, ([.ref (a 6), .ref (a 7), .ref (a 8), .ref (a 9), .ref (a 10), .ref (a 11), .int (σ 5 6), .int (σ 5 7), .int (σ 5 8), .int (σ 5 9), .int (σ 5 10), .int (σ 5 11), .int (σ 5 12)] : List Value).set 7 (.int v))) = cN a cI cS (pf σ 5 7 v) := rfl
theorem cN_f5_8 {a : Nat → Nat} {cI cS : ClassId} {σ : St} {v : Int32} : (cN a cI cS σ).set 5 (a 5, .inr (4, ([.ref (a 6), .ref (a 7), .ref (a 8), .ref (a 9), .ref (a 10), .ref (a 11), .int (σ 5 6), .int (σ 5 7), .int (σ 5 8), .int (σ 5 9), .int (σ 5 10), .int (σ 5 11), .int (σ 5 12)] : List Value).set 8 (.int v))) = cN a cI cS (pf σ 5 8 v) := rfl
theorem cN_f5_9 {a : Nat → Nat} {cI cS : ClassId} {σ : St} {v : Int32} : (cN a cI cS σ).set 5 (a 5, .inr (4, ([.ref (a 6), .ref (a 7), .ref (a 8), .ref (a 9), .ref (a 10), .ref (a 11), .int (σ 5 6), .int (σ 5 7), .int (σ 5 8), .int (σ 5 9), .int (σ 5 10), .int (σ 5 11), .int (σ 5 12)] : List Value).set 9 (.int v))) = cN a cI cS (pf σ 5 9 v) := rfl
theorem cN_f5_10 {a : Nat → Nat} {cI cS : ClassId} {σ : St} {v : Int32} : (cN a cI cS σ).set 5 (a 5, .inr (4, ([.ref (a 6), .ref (a 7), .ref (a 8), .ref (a 9), .ref (a 10), .ref (a 11), .int (σ 5 6), .int (σ 5 7), .int (σ 5 8), .int (σ 5 9), .int (σ 5 10), .int (σ 5 11), .int (σ 5 12)] : List Value).set 10 (.int v))) = cN a cI cS (pf σ 5 10 v) := rfl
theorem cN_f5_11 {a : Nat → Nat} {cI cS : ClassId} {σ : St} {v : Int32} : (cN a cI cS σ).set 5 (a 5, .inr (4, ([.ref (a 6), .ref (a 7), .ref (a 8), .ref (a 9), .ref (a 10), .ref (a 11), .int (σ 5 6), .int (σ 5 7), .int (σ 5 8), .int (σ 5 9), .int (σ 5 10), .int (σ 5 11), .int (σ 5 12)] : List Value).set 11 (.int v))) = cN a cI cS (pf σ 5 11 v) := rfl
theorem cN_f5_12 {a : Nat → Nat} {cI cS : ClassId} {σ : St} {v : Int32} : (cN a cI cS σ).set 5 (a 5, .inr (4, ([.ref (a 6), .ref (a 7), .ref (a 8), .ref (a 9), .ref (a 10), .ref (a 11), .int (σ 5 6), .int (σ 5 7), .int (σ 5 8), .int (σ 5 9), .int (σ 5 10), .int (σ 5 11), .int (σ 5 12)] : List Value).set 12 (.int v))) = cN a cI cS (pf σ 5 12 v) := rfl
theorem cN_6 {a : Nat → Nat} {cI cS : ClassId} {σ : St} : (cN a cI cS σ)[6]? = some (a 6, .inl (cI, 16, .inl (σ 6))) := rfl
theorem cN_s6 {a : Nat → Nat} {cI cS : ClassId} {σ : St} {i x : Int32} : (cN a cI cS σ).set 6 (a 6, .inl (cI, 16, .inl (upd (σ 6) i.toNatClampNeg x))) = cN a cI cS (ps σ 6 i x) := rfl
theorem cN_7 {a : Nat → Nat} {cI cS : ClassId} {σ : St} : (cN a cI cS σ)[7]? = some (a 7, .inl (cI, 16, .inl (σ 7))) := rfl
theorem cN_s7 {a : Nat → Nat} {cI cS : ClassId} {σ : St} {i x : Int32} : (cN a cI cS σ).set 7 (a 7, .inl (cI, 16, .inl (upd (σ 7) i.toNatClampNeg x))) = cN a cI cS (ps σ 7 i x) := rfl
theorem cN_8 {a : Nat → Nat} {cI cS : ClassId} {σ : St} : (cN a cI cS σ)[8]? = some (a 8, .inl (cI, 5, .inl (σ 8))) := rfl
theorem cN_s8 {a : Nat → Nat} {cI cS : ClassId} {σ : St} {i x : Int32} : (cN a cI cS σ).set 8 (a 8, .inl (cI, 5, .inl (upd (σ 8) i.toNatClampNeg x))) = cN a cI cS (ps σ 8 i x) := rfl
theorem cN_9 {a : Nat → Nat} {cI cS : ClassId} {σ : St} : (cN a cI cS σ)[9]? = some (a 9, .inl (cI, 5, .inl (σ 9))) := rfl
theorem cN_s9 {a : Nat → Nat} {cI cS : ClassId} {σ : St} {i x : Int32} : (cN a cI cS σ).set 9 (a 9, .inl (cI, 5, .inl (upd (σ 9) i.toNatClampNeg x))) = cN a cI cS (ps σ 9 i x) := rfl
theorem cN_10 {a : Nat → Nat} {cI cS : ClassId} {σ : St} : (cN a cI cS σ)[10]? = some (a 10, .inl (cI, 5, .inl (σ 10))) := rfl
theorem cN_s10 {a : Nat → Nat} {cI cS : ClassId} {σ : St} {i x : Int32} : (cN a cI cS σ).set 10 (a 10, .inl (cI, 5, .inl (upd (σ 10) i.toNatClampNeg x))) = cN a cI cS (ps σ 10 i x) := rfl
theorem cN_11 {a : Nat → Nat} {cI cS : ClassId} {σ : St} : (cN a cI cS σ)[11]? = some (a 11, .inl (cI, 8, .inl (σ 11))) := rfl
theorem cN_s11 {a : Nat → Nat} {cI cS : ClassId} {σ : St} {i x : Int32} : (cN a cI cS σ).set 11 (a 11, .inl (cI, 8, .inl (upd (σ 11) i.toNatClampNeg x))) = cN a cI cS (ps σ 11 i x) := rfl
theorem cN_12 {a : Nat → Nat} {cI cS : ClassId} {σ : St} : (cN a cI cS σ)[12]? = some (a 12, .inr (4, [.ref (a 13), .ref (a 14), .ref (a 15), .ref (a 16), .ref (a 17), .ref (a 18), .int (σ 12 6), .int (σ 12 7), .int (σ 12 8), .int (σ 12 9), .int (σ 12 10), .int (σ 12 11), .int (σ 12 12)])) := rfl
theorem cN_f12_6 {a : Nat → Nat} {cI cS : ClassId} {σ : St} {v : Int32} : (cN a cI cS σ).set 12 (a 12, .inr (4, ([.ref (a 13), .ref (a 14), .ref (a 15), .ref (a 16), .ref (a 17), .ref (a 18), .int (σ 12 6), .int (σ 12 7), .int (σ 12 8), .int (σ 12 9), .int (σ 12 10), .int (σ 12 11), .int (σ 12 12)] : List Value).set 6 (.int v))) = cN a cI cS (pf σ 12 6 v) := rfl
theorem cN_f12_7 {a : Nat → Nat} {cI cS : ClassId} {σ : St} {v : Int32} : (cN a cI cS σ).set 12 (a 12, .inr (4, ([.ref (a 13), .ref (a 14), .ref (a 15), .ref (a 16), .ref (a 17), .ref (a 18), .int (σ 12 6), .int (σ 12 7), .int (σ 12 8), .int (σ 12 9), .int (σ 12 10), .int (σ 12 11), .int (σ 12 12)] : List Value).set 7 (.int v))) = cN a cI cS (pf σ 12 7 v) := rfl
theorem cN_f12_8 {a : Nat → Nat} {cI cS : ClassId} {σ : St} {v : Int32} : (cN a cI cS σ).set 12 (a 12, .inr (4, ([.ref (a 13), .ref (a 14), .ref (a 15), .ref (a 16), .ref (a 17), .ref (a 18), .int (σ 12 6), .int (σ 12 7), .int (σ 12 8), .int (σ 12 9), .int (σ 12 10), .int (σ 12 11), .int (σ 12 12)] : List Value).set 8 (.int v))) = cN a cI cS (pf σ 12 8 v) := rfl
theorem cN_f12_9 {a : Nat → Nat} {cI cS : ClassId} {σ : St} {v : Int32} : (cN a cI cS σ).set 12 (a 12, .inr (4, ([.ref (a 13), .ref (a 14), .ref (a 15), .ref (a 16), .ref (a 17), .ref (a 18), .int (σ 12 6), .int (σ 12 7), .int (σ 12 8), .int (σ 12 9), .int (σ 12 10), .int (σ 12 11), .int (σ 12 12)] : List Value).set 9 (.int v))) = cN a cI cS (pf σ 12 9 v) := rfl
theorem cN_f12_10 {a : Nat → Nat} {cI cS : ClassId} {σ : St} {v : Int32} : (cN a cI cS σ).set 12 (a 12, .inr (4, ([.ref (a 13), .ref (a 14), .ref (a 15), .ref (a 16), .ref (a 17), .ref (a 18), .int (σ 12 6), .int (σ 12 7), .int (σ 12 8), .int (σ 12 9), .int (σ 12 10), .int (σ 12 11), .int (σ 12 12)] : List Value).set 10 (.int v))) = cN a cI cS (pf σ 12 10 v) := rfl
theorem cN_f12_11 {a : Nat → Nat} {cI cS : ClassId} {σ : St} {v : Int32} : (cN a cI cS σ).set 12 (a 12, .inr (4, ([.ref (a 13), .ref (a 14), .ref (a 15), .ref (a 16), .ref (a 17), .ref (a 18), .int (σ 12 6), .int (σ 12 7), .int (σ 12 8), .int (σ 12 9), .int (σ 12 10), .int (σ 12 11), .int (σ 12 12)] : List Value).set 11 (.int v))) = cN a cI cS (pf σ 12 11 v) := rfl
theorem cN_f12_12 {a : Nat → Nat} {cI cS : ClassId} {σ : St} {v : Int32} : (cN a cI cS σ).set 12 (a 12, .inr (4, ([.ref (a 13), .ref (a 14), .ref (a 15), .ref (a 16), .ref (a 17), .ref (a 18), .int (σ 12 6), .int (σ 12 7), .int (σ 12 8), .int (σ 12 9), .int (σ 12 10), .int (σ 12 11), .int (σ 12 12)] : List Value).set 12 (.int v))) = cN a cI cS (pf σ 12 12 v) := rfl
theorem cN_13 {a : Nat → Nat} {cI cS : ClassId} {σ : St} : (cN a cI cS σ)[13]? = some (a 13, .inl (cI, 16, .inl (σ 13))) := rfl
theorem cN_s13 {a : Nat → Nat} {cI cS : ClassId} {σ : St} {i x : Int32} : (cN a cI cS σ).set 13 (a 13, .inl (cI, 16, .inl (upd (σ 13) i.toNatClampNeg x))) = cN a cI cS (ps σ 13 i x) := rfl
theorem cN_14 {a : Nat → Nat} {cI cS : ClassId} {σ : St} : (cN a cI cS σ)[14]? = some (a 14, .inl (cI, 16, .inl (σ 14))) := rfl
theorem cN_s14 {a : Nat → Nat} {cI cS : ClassId} {σ : St} {i x : Int32} : (cN a cI cS σ).set 14 (a 14, .inl (cI, 16, .inl (upd (σ 14) i.toNatClampNeg x))) = cN a cI cS (ps σ 14 i x) := rfl
theorem cN_15 {a : Nat → Nat} {cI cS : ClassId} {σ : St} : (cN a cI cS σ)[15]? = some (a 15, .inl (cI, 5, .inl (σ 15))) := rfl
theorem cN_s15 {a : Nat → Nat} {cI cS : ClassId} {σ : St} {i x : Int32} : (cN a cI cS σ).set 15 (a 15, .inl (cI, 5, .inl (upd (σ 15) i.toNatClampNeg x))) = cN a cI cS (ps σ 15 i x) := rfl
theorem cN_16 {a : Nat → Nat} {cI cS : ClassId} {σ : St} : (cN a cI cS σ)[16]? = some (a 16, .inl (cI, 5, .inl (σ 16))) := rfl
theorem cN_s16 {a : Nat → Nat} {cI cS : ClassId} {σ : St} {i x : Int32} : (cN a cI cS σ).set 16 (a 16, .inl (cI, 5, .inl (upd (σ 16) i.toNatClampNeg x))) = cN a cI cS (ps σ 16 i x) := rfl
theorem cN_17 {a : Nat → Nat} {cI cS : ClassId} {σ : St} : (cN a cI cS σ)[17]? = some (a 17, .inl (cI, 5, .inl (σ 17))) := rfl
theorem cN_s17 {a : Nat → Nat} {cI cS : ClassId} {σ : St} {i x : Int32} : (cN a cI cS σ).set 17 (a 17, .inl (cI, 5, .inl (upd (σ 17) i.toNatClampNeg x))) = cN a cI cS (ps σ 17 i x) := rfl
theorem cN_18 {a : Nat → Nat} {cI cS : ClassId} {σ : St} : (cN a cI cS σ)[18]? = some (a 18, .inl (cI, 8, .inl (σ 18))) := rfl
theorem cN_s18 {a : Nat → Nat} {cI cS : ClassId} {σ : St} {i x : Int32} : (cN a cI cS σ).set 18 (a 18, .inl (cI, 8, .inl (upd (σ 18) i.toNatClampNeg x))) = cN a cI cS (ps σ 18 i x) := rfl
theorem cN_19 {a : Nat → Nat} {cI cS : ClassId} {σ : St} : (cN a cI cS σ)[19]? = some (a 19, .inr (9, [.ref (a 20), .ref (a 21), .int (σ 19 2)])) := rfl
theorem cN_f19_2 {a : Nat → Nat} {cI cS : ClassId} {σ : St} {v : Int32} : (cN a cI cS σ).set 19 (a 19, .inr (9, ([.ref (a 20), .ref (a 21), .int (σ 19 2)] : List Value).set 2 (.int v))) = cN a cI cS (pf σ 19 2 v) := rfl
theorem cN_20 {a : Nat → Nat} {cI cS : ClassId} {σ : St} : (cN a cI cS σ)[20]? = some (a 20, .inl (cI, 16, .inl (σ 20))) := rfl
theorem cN_s20 {a : Nat → Nat} {cI cS : ClassId} {σ : St} {i x : Int32} : (cN a cI cS σ).set 20 (a 20, .inl (cI, 16, .inl (upd (σ 20) i.toNatClampNeg x))) = cN a cI cS (ps σ 20 i x) := rfl
theorem cN_21 {a : Nat → Nat} {cI cS : ClassId} {σ : St} : (cN a cI cS σ)[21]? = some (a 21, .inl (cI, 5, .inl (σ 21))) := rfl
theorem cN_s21 {a : Nat → Nat} {cI cS : ClassId} {σ : St} {i x : Int32} : (cN a cI cS σ).set 21 (a 21, .inl (cI, 5, .inl (upd (σ 21) i.toNatClampNeg x))) = cN a cI cS (ps σ 21 i x) := rfl
theorem cN_22 {a : Nat → Nat} {cI cS : ClassId} {σ : St} : (cN a cI cS σ)[22]? = some (a 22, .inr (5, [.ref (a 23), .int (σ 22 1), .int (σ 22 2)])) := rfl
theorem cN_f22_1 {a : Nat → Nat} {cI cS : ClassId} {σ : St} {v : Int32} : (cN a cI cS σ).set 22 (a 22, .inr (5, ([.ref (a 23), .int (σ 22 1), .int (σ 22 2)] : List Value).set 1 (.int v))) = cN a cI cS (pf σ 22 1 v) := rfl
theorem cN_f22_2 {a : Nat → Nat} {cI cS : ClassId} {σ : St} {v : Int32} : (cN a cI cS σ).set 22 (a 22, .inr (5, ([.ref (a 23), .int (σ 22 1), .int (σ 22 2)] : List Value).set 2 (.int v))) = cN a cI cS (pf σ 22 2 v) := rfl
theorem cN_23 {a : Nat → Nat} {cI cS : ClassId} {σ : St} : (cN a cI cS σ)[23]? = some (a 23, .inl (cS, 8, .inr (.inr (.inr (.inr (rA a 24 8)))))) := rfl
theorem cN_24 {a : Nat → Nat} {cI cS : ClassId} {σ : St} : (cN a cI cS σ)[24]? = some (a 24, .inr (9, [.ref (a 25), .ref (a 26), .int (σ 24 2)])) := rfl
theorem cN_f24_2 {a : Nat → Nat} {cI cS : ClassId} {σ : St} {v : Int32} : (cN a cI cS σ).set 24 (a 24, .inr (9, ([.ref (a 25), .ref (a 26), .int (σ 24 2)] : List Value).set 2 (.int v))) = cN a cI cS (pf σ 24 2 v) := rfl
theorem cN_25 {a : Nat → Nat} {cI cS : ClassId} {σ : St} : (cN a cI cS σ)[25]? = some (a 25, .inl (cI, 16, .inl (σ 25))) := rfl
theorem cN_s25 {a : Nat → Nat} {cI cS : ClassId} {σ : St} {i x : Int32} : (cN a cI cS σ).set 25 (a 25, .inl (cI, 16, .inl (upd (σ 25) i.toNatClampNeg x))) = cN a cI cS (ps σ 25 i x) := rfl
theorem cN_26 {a : Nat → Nat} {cI cS : ClassId} {σ : St} : (cN a cI cS σ)[26]? = some (a 26, .inl (cI, 5, .inl (σ 26))) := rfl
theorem cN_s26 {a : Nat → Nat} {cI cS : ClassId} {σ : St} {i x : Int32} : (cN a cI cS σ).set 26 (a 26, .inl (cI, 5, .inl (upd (σ 26) i.toNatClampNeg x))) = cN a cI cS (ps σ 26 i x) := rfl
theorem cN_27 {a : Nat → Nat} {cI cS : ClassId} {σ : St} : (cN a cI cS σ)[27]? = some (a 27, .inr (9, [.ref (a 28), .ref (a 29), .int (σ 27 2)])) := rfl
theorem cN_f27_2 {a : Nat → Nat} {cI cS : ClassId} {σ : St} {v : Int32} : (cN a cI cS σ).set 27 (a 27, .inr (9, ([.ref (a 28), .ref (a 29), .int (σ 27 2)] : List Value).set 2 (.int v))) = cN a cI cS (pf σ 27 2 v) := rfl
theorem cN_28 {a : Nat → Nat} {cI cS : ClassId} {σ : St} : (cN a cI cS σ)[28]? = some (a 28, .inl (cI, 16, .inl (σ 28))) := rfl
theorem cN_s28 {a : Nat → Nat} {cI cS : ClassId} {σ : St} {i x : Int32} : (cN a cI cS σ).set 28 (a 28, .inl (cI, 16, .inl (upd (σ 28) i.toNatClampNeg x))) = cN a cI cS (ps σ 28 i x) := rfl
theorem cN_29 {a : Nat → Nat} {cI cS : ClassId} {σ : St} : (cN a cI cS σ)[29]? = some (a 29, .inl (cI, 5, .inl (σ 29))) := rfl
theorem cN_s29 {a : Nat → Nat} {cI cS : ClassId} {σ : St} {i x : Int32} : (cN a cI cS σ).set 29 (a 29, .inl (cI, 5, .inl (upd (σ 29) i.toNatClampNeg x))) = cN a cI cS (ps σ 29 i x) := rfl
theorem cN_30 {a : Nat → Nat} {cI cS : ClassId} {σ : St} : (cN a cI cS σ)[30]? = some (a 30, .inr (9, [.ref (a 31), .ref (a 32), .int (σ 30 2)])) := rfl
theorem cN_f30_2 {a : Nat → Nat} {cI cS : ClassId} {σ : St} {v : Int32} : (cN a cI cS σ).set 30 (a 30, .inr (9, ([.ref (a 31), .ref (a 32), .int (σ 30 2)] : List Value).set 2 (.int v))) = cN a cI cS (pf σ 30 2 v) := rfl
theorem cN_31 {a : Nat → Nat} {cI cS : ClassId} {σ : St} : (cN a cI cS σ)[31]? = some (a 31, .inl (cI, 16, .inl (σ 31))) := rfl
theorem cN_s31 {a : Nat → Nat} {cI cS : ClassId} {σ : St} {i x : Int32} : (cN a cI cS σ).set 31 (a 31, .inl (cI, 16, .inl (upd (σ 31) i.toNatClampNeg x))) = cN a cI cS (ps σ 31 i x) := rfl
theorem cN_32 {a : Nat → Nat} {cI cS : ClassId} {σ : St} : (cN a cI cS σ)[32]? = some (a 32, .inl (cI, 5, .inl (σ 32))) := rfl
theorem cN_s32 {a : Nat → Nat} {cI cS : ClassId} {σ : St} {i x : Int32} : (cN a cI cS σ).set 32 (a 32, .inl (cI, 5, .inl (upd (σ 32) i.toNatClampNeg x))) = cN a cI cS (ps σ 32 i x) := rfl
theorem cN_33 {a : Nat → Nat} {cI cS : ClassId} {σ : St} : (cN a cI cS σ)[33]? = some (a 33, .inr (9, [.ref (a 34), .ref (a 35), .int (σ 33 2)])) := rfl
theorem cN_f33_2 {a : Nat → Nat} {cI cS : ClassId} {σ : St} {v : Int32} : (cN a cI cS σ).set 33 (a 33, .inr (9, ([.ref (a 34), .ref (a 35), .int (σ 33 2)] : List Value).set 2 (.int v))) = cN a cI cS (pf σ 33 2 v) := rfl
theorem cN_34 {a : Nat → Nat} {cI cS : ClassId} {σ : St} : (cN a cI cS σ)[34]? = some (a 34, .inl (cI, 16, .inl (σ 34))) := rfl
theorem cN_s34 {a : Nat → Nat} {cI cS : ClassId} {σ : St} {i x : Int32} : (cN a cI cS σ).set 34 (a 34, .inl (cI, 16, .inl (upd (σ 34) i.toNatClampNeg x))) = cN a cI cS (ps σ 34 i x) := rfl
theorem cN_35 {a : Nat → Nat} {cI cS : ClassId} {σ : St} : (cN a cI cS σ)[35]? = some (a 35, .inl (cI, 5, .inl (σ 35))) := rfl
theorem cN_s35 {a : Nat → Nat} {cI cS : ClassId} {σ : St} {i x : Int32} : (cN a cI cS σ).set 35 (a 35, .inl (cI, 5, .inl (upd (σ 35) i.toNatClampNeg x))) = cN a cI cS (ps σ 35 i x) := rfl
theorem cN_36 {a : Nat → Nat} {cI cS : ClassId} {σ : St} : (cN a cI cS σ)[36]? = some (a 36, .inr (9, [.ref (a 37), .ref (a 38), .int (σ 36 2)])) := rfl
theorem cN_f36_2 {a : Nat → Nat} {cI cS : ClassId} {σ : St} {v : Int32} : (cN a cI cS σ).set 36 (a 36, .inr (9, ([.ref (a 37), .ref (a 38), .int (σ 36 2)] : List Value).set 2 (.int v))) = cN a cI cS (pf σ 36 2 v) := rfl
theorem cN_37 {a : Nat → Nat} {cI cS : ClassId} {σ : St} : (cN a cI cS σ)[37]? = some (a 37, .inl (cI, 16, .inl (σ 37))) := rfl
theorem cN_s37 {a : Nat → Nat} {cI cS : ClassId} {σ : St} {i x : Int32} : (cN a cI cS σ).set 37 (a 37, .inl (cI, 16, .inl (upd (σ 37) i.toNatClampNeg x))) = cN a cI cS (ps σ 37 i x) := rfl
theorem cN_38 {a : Nat → Nat} {cI cS : ClassId} {σ : St} : (cN a cI cS σ)[38]? = some (a 38, .inl (cI, 5, .inl (σ 38))) := rfl
theorem cN_s38 {a : Nat → Nat} {cI cS : ClassId} {σ : St} {i x : Int32} : (cN a cI cS σ).set 38 (a 38, .inl (cI, 5, .inl (upd (σ 38) i.toNatClampNeg x))) = cN a cI cS (ps σ 38 i x) := rfl
theorem cN_39 {a : Nat → Nat} {cI cS : ClassId} {σ : St} : (cN a cI cS σ)[39]? = some (a 39, .inr (9, [.ref (a 40), .ref (a 41), .int (σ 39 2)])) := rfl
theorem cN_f39_2 {a : Nat → Nat} {cI cS : ClassId} {σ : St} {v : Int32} : (cN a cI cS σ).set 39 (a 39, .inr (9, ([.ref (a 40), .ref (a 41), .int (σ 39 2)] : List Value).set 2 (.int v))) = cN a cI cS (pf σ 39 2 v) := rfl
theorem cN_40 {a : Nat → Nat} {cI cS : ClassId} {σ : St} : (cN a cI cS σ)[40]? = some (a 40, .inl (cI, 16, .inl (σ 40))) := rfl
theorem cN_s40 {a : Nat → Nat} {cI cS : ClassId} {σ : St} {i x : Int32} : (cN a cI cS σ).set 40 (a 40, .inl (cI, 16, .inl (upd (σ 40) i.toNatClampNeg x))) = cN a cI cS (ps σ 40 i x) := rfl
theorem cN_41 {a : Nat → Nat} {cI cS : ClassId} {σ : St} : (cN a cI cS σ)[41]? = some (a 41, .inl (cI, 5, .inl (σ 41))) := rfl
theorem cN_s41 {a : Nat → Nat} {cI cS : ClassId} {σ : St} {i x : Int32} : (cN a cI cS σ).set 41 (a 41, .inl (cI, 5, .inl (upd (σ 41) i.toNatClampNeg x))) = cN a cI cS (ps σ 41 i x) := rfl
theorem cN_42 {a : Nat → Nat} {cI cS : ClassId} {σ : St} : (cN a cI cS σ)[42]? = some (a 42, .inr (9, [.ref (a 43), .ref (a 44), .int (σ 42 2)])) := rfl
theorem cN_f42_2 {a : Nat → Nat} {cI cS : ClassId} {σ : St} {v : Int32} : (cN a cI cS σ).set 42 (a 42, .inr (9, ([.ref (a 43), .ref (a 44), .int (σ 42 2)] : List Value).set 2 (.int v))) = cN a cI cS (pf σ 42 2 v) := rfl
theorem cN_43 {a : Nat → Nat} {cI cS : ClassId} {σ : St} : (cN a cI cS σ)[43]? = some (a 43, .inl (cI, 16, .inl (σ 43))) := rfl
theorem cN_s43 {a : Nat → Nat} {cI cS : ClassId} {σ : St} {i x : Int32} : (cN a cI cS σ).set 43 (a 43, .inl (cI, 16, .inl (upd (σ 43) i.toNatClampNeg x))) = cN a cI cS (ps σ 43 i x) := rfl
theorem cN_44 {a : Nat → Nat} {cI cS : ClassId} {σ : St} : (cN a cI cS σ)[44]? = some (a 44, .inl (cI, 5, .inl (σ 44))) := rfl
theorem cN_s44 {a : Nat → Nat} {cI cS : ClassId} {σ : St} {i x : Int32} : (cN a cI cS σ).set 44 (a 44, .inl (cI, 5, .inl (upd (σ 44) i.toNatClampNeg x))) = cN a cI cS (ps σ 44 i x) := rfl
theorem cN_45 {a : Nat → Nat} {cI cS : ClassId} {σ : St} : (cN a cI cS σ)[45]? = some (a 45, .inr (9, [.ref (a 46), .ref (a 47), .int (σ 45 2)])) := rfl
theorem cN_f45_2 {a : Nat → Nat} {cI cS : ClassId} {σ : St} {v : Int32} : (cN a cI cS σ).set 45 (a 45, .inr (9, ([.ref (a 46), .ref (a 47), .int (σ 45 2)] : List Value).set 2 (.int v))) = cN a cI cS (pf σ 45 2 v) := rfl
theorem cN_46 {a : Nat → Nat} {cI cS : ClassId} {σ : St} : (cN a cI cS σ)[46]? = some (a 46, .inl (cI, 16, .inl (σ 46))) := rfl
theorem cN_s46 {a : Nat → Nat} {cI cS : ClassId} {σ : St} {i x : Int32} : (cN a cI cS σ).set 46 (a 46, .inl (cI, 16, .inl (upd (σ 46) i.toNatClampNeg x))) = cN a cI cS (ps σ 46 i x) := rfl
theorem cN_47 {a : Nat → Nat} {cI cS : ClassId} {σ : St} : (cN a cI cS σ)[47]? = some (a 47, .inl (cI, 5, .inl (σ 47))) := rfl
theorem cN_s47 {a : Nat → Nat} {cI cS : ClassId} {σ : St} {i x : Int32} : (cN a cI cS σ).set 47 (a 47, .inl (cI, 5, .inl (upd (σ 47) i.toNatClampNeg x))) = cN a cI cS (ps σ 47 i x) := rfl
theorem cN_48 {a : Nat → Nat} {cI cS : ClassId} {σ : St} : (cN a cI cS σ)[48]? = some (a 48, .inr (5, [.ref (a 49), .int (σ 48 1), .int (σ 48 2)])) := rfl
theorem cN_f48_1 {a : Nat → Nat} {cI cS : ClassId} {σ : St} {v : Int32} : (cN a cI cS σ).set 48 (a 48, .inr (5, ([.ref (a 49), .int (σ 48 1), .int (σ 48 2)] : List Value).set 1 (.int v))) = cN a cI cS (pf σ 48 1 v) := rfl
theorem cN_f48_2 {a : Nat → Nat} {cI cS : ClassId} {σ : St} {v : Int32} : (cN a cI cS σ).set 48 (a 48, .inr (5, ([.ref (a 49), .int (σ 48 1), .int (σ 48 2)] : List Value).set 2 (.int v))) = cN a cI cS (pf σ 48 2 v) := rfl
theorem cN_49 {a : Nat → Nat} {cI cS : ClassId} {σ : St} : (cN a cI cS σ)[49]? = some (a 49, .inl (cS, 2, .inr (.inr (.inr (.inr (rA a 50 2)))))) := rfl
theorem cN_50 {a : Nat → Nat} {cI cS : ClassId} {σ : St} : (cN a cI cS σ)[50]? = some (a 50, .inr (9, [.ref (a 51), .ref (a 52), .int (σ 50 2)])) := rfl
theorem cN_f50_2 {a : Nat → Nat} {cI cS : ClassId} {σ : St} {v : Int32} : (cN a cI cS σ).set 50 (a 50, .inr (9, ([.ref (a 51), .ref (a 52), .int (σ 50 2)] : List Value).set 2 (.int v))) = cN a cI cS (pf σ 50 2 v) := rfl
theorem cN_51 {a : Nat → Nat} {cI cS : ClassId} {σ : St} : (cN a cI cS σ)[51]? = some (a 51, .inl (cI, 16, .inl (σ 51))) := rfl
theorem cN_s51 {a : Nat → Nat} {cI cS : ClassId} {σ : St} {i x : Int32} : (cN a cI cS σ).set 51 (a 51, .inl (cI, 16, .inl (upd (σ 51) i.toNatClampNeg x))) = cN a cI cS (ps σ 51 i x) := rfl
theorem cN_52 {a : Nat → Nat} {cI cS : ClassId} {σ : St} : (cN a cI cS σ)[52]? = some (a 52, .inl (cI, 5, .inl (σ 52))) := rfl
theorem cN_s52 {a : Nat → Nat} {cI cS : ClassId} {σ : St} {i x : Int32} : (cN a cI cS σ).set 52 (a 52, .inl (cI, 5, .inl (upd (σ 52) i.toNatClampNeg x))) = cN a cI cS (ps σ 52 i x) := rfl
theorem cN_53 {a : Nat → Nat} {cI cS : ClassId} {σ : St} : (cN a cI cS σ)[53]? = some (a 53, .inr (9, [.ref (a 54), .ref (a 55), .int (σ 53 2)])) := rfl
theorem cN_f53_2 {a : Nat → Nat} {cI cS : ClassId} {σ : St} {v : Int32} : (cN a cI cS σ).set 53 (a 53, .inr (9, ([.ref (a 54), .ref (a 55), .int (σ 53 2)] : List Value).set 2 (.int v))) = cN a cI cS (pf σ 53 2 v) := rfl
theorem cN_54 {a : Nat → Nat} {cI cS : ClassId} {σ : St} : (cN a cI cS σ)[54]? = some (a 54, .inl (cI, 16, .inl (σ 54))) := rfl
theorem cN_s54 {a : Nat → Nat} {cI cS : ClassId} {σ : St} {i x : Int32} : (cN a cI cS σ).set 54 (a 54, .inl (cI, 16, .inl (upd (σ 54) i.toNatClampNeg x))) = cN a cI cS (ps σ 54 i x) := rfl
theorem cN_55 {a : Nat → Nat} {cI cS : ClassId} {σ : St} : (cN a cI cS σ)[55]? = some (a 55, .inl (cI, 5, .inl (σ 55))) := rfl
theorem cN_s55 {a : Nat → Nat} {cI cS : ClassId} {σ : St} {i x : Int32} : (cN a cI cS σ).set 55 (a 55, .inl (cI, 5, .inl (upd (σ 55) i.toNatClampNeg x))) = cN a cI cS (ps σ 55 i x) := rfl
theorem cN_56 {a : Nat → Nat} {cI cS : ClassId} {σ : St} : (cN a cI cS σ)[56]? = some (a 56, .inr (1, [.ref (a 12), .ref (a 19), .ref (a 57), .ref (a 58), .int (σ 56 4), .int (σ 56 5), .int (σ 56 6), .int (σ 56 7), .int (σ 56 8), .int (σ 56 9), .int (σ 56 10), .int (σ 56 11)])) := rfl
theorem cN_f56_4 {a : Nat → Nat} {cI cS : ClassId} {σ : St} {v : Int32} : (cN a cI cS σ).set 56 (a 56, .inr (1, ([.ref (a 12), .ref (a 19), .ref (a 57), .ref (a 58), .int (σ 56 4), .int (σ 56 5), .int (σ 56 6), .int (σ 56 7), .int (σ 56 8), .int (σ 56 9), .int (σ 56 10), .int (σ 56 11)] : List Value).set 4 (.int v))) = cN a cI cS (pf σ 56 4 v) := rfl
theorem cN_f56_5 {a : Nat → Nat} {cI cS : ClassId} {σ : St} {v : Int32} : (cN a cI cS σ).set 56 (a 56, .inr (1, ([.ref (a 12), .ref (a 19), .ref (a 57), .ref (a 58), .int (σ 56 4), .int (σ 56 5), .int (σ 56 6), .int (σ 56 7), .int (σ 56 8), .int (σ 56 9), .int (σ 56 10), .int (σ 56 11)] : List Value).set 5 (.int v))) = cN a cI cS (pf σ 56 5 v) := rfl
theorem cN_f56_6 {a : Nat → Nat} {cI cS : ClassId} {σ : St} {v : Int32} : (cN a cI cS σ).set 56 (a 56, .inr (1, ([.ref (a 12), .ref (a 19), .ref (a 57), .ref (a 58), .int (σ 56 4), .int (σ 56 5), .int (σ 56 6), .int (σ 56 7), .int (σ 56 8), .int (σ 56 9), .int (σ 56 10), .int (σ 56 11)] : List Value).set 6 (.int v))) = cN a cI cS (pf σ 56 6 v) := rfl
theorem cN_f56_7 {a : Nat → Nat} {cI cS : ClassId} {σ : St} {v : Int32} : (cN a cI cS σ).set 56 (a 56, .inr (1, ([.ref (a 12), .ref (a 19), .ref (a 57), .ref (a 58), .int (σ 56 4), .int (σ 56 5), .int (σ 56 6), .int (σ 56 7), .int (σ 56 8), .int (σ 56 9), .int (σ 56 10), .int (σ 56 11)] : List Value).set 7 (.int v))) = cN a cI cS (pf σ 56 7 v) := rfl
theorem cN_f56_8 {a : Nat → Nat} {cI cS : ClassId} {σ : St} {v : Int32} : (cN a cI cS σ).set 56 (a 56, .inr (1, ([.ref (a 12), .ref (a 19), .ref (a 57), .ref (a 58), .int (σ 56 4), .int (σ 56 5), .int (σ 56 6), .int (σ 56 7), .int (σ 56 8), .int (σ 56 9), .int (σ 56 10), .int (σ 56 11)] : List Value).set 8 (.int v))) = cN a cI cS (pf σ 56 8 v) := rfl
theorem cN_f56_9 {a : Nat → Nat} {cI cS : ClassId} {σ : St} {v : Int32} : (cN a cI cS σ).set 56 (a 56, .inr (1, ([.ref (a 12), .ref (a 19), .ref (a 57), .ref (a 58), .int (σ 56 4), .int (σ 56 5), .int (σ 56 6), .int (σ 56 7), .int (σ 56 8), .int (σ 56 9), .int (σ 56 10), .int (σ 56 11)] : List Value).set 9 (.int v))) = cN a cI cS (pf σ 56 9 v) := rfl
theorem cN_f56_10 {a : Nat → Nat} {cI cS : ClassId} {σ : St} {v : Int32} : (cN a cI cS σ).set 56 (a 56, .inr (1, ([.ref (a 12), .ref (a 19), .ref (a 57), .ref (a 58), .int (σ 56 4), .int (σ 56 5), .int (σ 56 6), .int (σ 56 7), .int (σ 56 8), .int (σ 56 9), .int (σ 56 10), .int (σ 56 11)] : List Value).set 10 (.int v))) = cN a cI cS (pf σ 56 10 v) := rfl
theorem cN_f56_11 {a : Nat → Nat} {cI cS : ClassId} {σ : St} {v : Int32} : (cN a cI cS σ).set 56 (a 56, .inr (1, ([.ref (a 12), .ref (a 19), .ref (a 57), .ref (a 58), .int (σ 56 4), .int (σ 56 5), .int (σ 56 6), .int (σ 56 7), .int (σ 56 8), .int (σ 56 9), .int (σ 56 10), .int (σ 56 11)] : List Value).set 11 (.int v))) = cN a cI cS (pf σ 56 11 v) := rfl
theorem cN_57 {a : Nat → Nat} {cI cS : ClassId} {σ : St} : (cN a cI cS σ)[57]? = some (a 57, .inl (cI, 16, .inl (σ 57))) := rfl
theorem cN_s57 {a : Nat → Nat} {cI cS : ClassId} {σ : St} {i x : Int32} : (cN a cI cS σ).set 57 (a 57, .inl (cI, 16, .inl (upd (σ 57) i.toNatClampNeg x))) = cN a cI cS (ps σ 57 i x) := rfl
theorem cN_58 {a : Nat → Nat} {cI cS : ClassId} {σ : St} : (cN a cI cS σ)[58]? = some (a 58, .inl (cI, 16, .inl (σ 58))) := rfl
theorem cN_s58 {a : Nat → Nat} {cI cS : ClassId} {σ : St} {i x : Int32} : (cN a cI cS σ).set 58 (a 58, .inl (cI, 16, .inl (upd (σ 58) i.toNatClampNeg x))) = cN a cI cS (ps σ 58 i x) := rfl
theorem cN_59 {a : Nat → Nat} {cI cS : ClassId} {σ : St} : (cN a cI cS σ)[59]? = some (a 59, .inr (3, [.ref (a 12), .ref (a 19), .ref (a 56)])) := rfl
theorem cN_60 {a : Nat → Nat} {cI cS : ClassId} {σ : St} : (cN a cI cS σ)[60]? = some (a 60, .inr (2, [.ref (a 12), .ref (a 19), .ref (a 56), .int (σ 60 3), .int (σ 60 4), .int (σ 60 5), .int (σ 60 6), .int (σ 60 7), .int (σ 60 8)])) := rfl
theorem cN_f60_3 {a : Nat → Nat} {cI cS : ClassId} {σ : St} {v : Int32} : (cN a cI cS σ).set 60 (a 60, .inr (2, ([.ref (a 12), .ref (a 19), .ref (a 56), .int (σ 60 3), .int (σ 60 4), .int (σ 60 5), .int (σ 60 6), .int (σ 60 7), .int (σ 60 8)] : List Value).set 3 (.int v))) = cN a cI cS (pf σ 60 3 v) := rfl
theorem cN_f60_4 {a : Nat → Nat} {cI cS : ClassId} {σ : St} {v : Int32} : (cN a cI cS σ).set 60 (a 60, .inr (2, ([.ref (a 12), .ref (a 19), .ref (a 56), .int (σ 60 3), .int (σ 60 4), .int (σ 60 5), .int (σ 60 6), .int (σ 60 7), .int (σ 60 8)] : List Value).set 4 (.int v))) = cN a cI cS (pf σ 60 4 v) := rfl
theorem cN_f60_5 {a : Nat → Nat} {cI cS : ClassId} {σ : St} {v : Int32} : (cN a cI cS σ).set 60 (a 60, .inr (2, ([.ref (a 12), .ref (a 19), .ref (a 56), .int (σ 60 3), .int (σ 60 4), .int (σ 60 5), .int (σ 60 6), .int (σ 60 7), .int (σ 60 8)] : List Value).set 5 (.int v))) = cN a cI cS (pf σ 60 5 v) := rfl
theorem cN_f60_6 {a : Nat → Nat} {cI cS : ClassId} {σ : St} {v : Int32} : (cN a cI cS σ).set 60 (a 60, .inr (2, ([.ref (a 12), .ref (a 19), .ref (a 56), .int (σ 60 3), .int (σ 60 4), .int (σ 60 5), .int (σ 60 6), .int (σ 60 7), .int (σ 60 8)] : List Value).set 6 (.int v))) = cN a cI cS (pf σ 60 6 v) := rfl
theorem cN_f60_7 {a : Nat → Nat} {cI cS : ClassId} {σ : St} {v : Int32} : (cN a cI cS σ).set 60 (a 60, .inr (2, ([.ref (a 12), .ref (a 19), .ref (a 56), .int (σ 60 3), .int (σ 60 4), .int (σ 60 5), .int (σ 60 6), .int (σ 60 7), .int (σ 60 8)] : List Value).set 7 (.int v))) = cN a cI cS (pf σ 60 7 v) := rfl
theorem cN_f60_8 {a : Nat → Nat} {cI cS : ClassId} {σ : St} {v : Int32} : (cN a cI cS σ).set 60 (a 60, .inr (2, ([.ref (a 12), .ref (a 19), .ref (a 56), .int (σ 60 3), .int (σ 60 4), .int (σ 60 5), .int (σ 60 6), .int (σ 60 7), .int (σ 60 8)] : List Value).set 8 (.int v))) = cN a cI cS (pf σ 60 8 v) := rfl
theorem cN_61 {a : Nat → Nat} {cI cS : ClassId} {σ : St} : (cN a cI cS σ)[61]? = some (a 61, .inr (0, [.ref (a 12), .ref (a 56), .int (σ 61 2), .int (σ 61 3)])) := rfl
theorem cN_f61_2 {a : Nat → Nat} {cI cS : ClassId} {σ : St} {v : Int32} : (cN a cI cS σ).set 61 (a 61, .inr (0, ([.ref (a 12), .ref (a 56), .int (σ 61 2), .int (σ 61 3)] : List Value).set 2 (.int v))) = cN a cI cS (pf σ 61 2 v) := rfl
theorem cN_f61_3 {a : Nat → Nat} {cI cS : ClassId} {σ : St} {v : Int32} : (cN a cI cS σ).set 61 (a 61, .inr (0, ([.ref (a 12), .ref (a 56), .int (σ 61 2), .int (σ 61 3)] : List Value).set 3 (.int v))) = cN a cI cS (pf σ 61 3 v) := rfl
theorem cN_62 {a : Nat → Nat} {cI cS : ClassId} {σ : St} : (cN a cI cS σ)[62]? = some (a 62, .inr (8, [.ref (a 12), .ref (a 56), .ref (a 63), .ref (a 64), .ref (a 65), .ref (a 66), .int (σ 62 6)])) := rfl
theorem cN_f62_6 {a : Nat → Nat} {cI cS : ClassId} {σ : St} {v : Int32} : (cN a cI cS σ).set 62 (a 62, .inr (8, ([.ref (a 12), .ref (a 56), .ref (a 63), .ref (a 64), .ref (a 65), .ref (a 66), .int (σ 62 6)] : List Value).set 6 (.int v))) = cN a cI cS (pf σ 62 6 v) := rfl
theorem cN_63 {a : Nat → Nat} {cI cS : ClassId} {σ : St} : (cN a cI cS σ)[63]? = some (a 63, .inl (cI, 6, .inl (σ 63))) := rfl
theorem cN_s63 {a : Nat → Nat} {cI cS : ClassId} {σ : St} {i x : Int32} : (cN a cI cS σ).set 63 (a 63, .inl (cI, 6, .inl (upd (σ 63) i.toNatClampNeg x))) = cN a cI cS (ps σ 63 i x) := rfl
theorem cN_64 {a : Nat → Nat} {cI cS : ClassId} {σ : St} : (cN a cI cS σ)[64]? = some (a 64, .inl (cI, 6, .inl (σ 64))) := rfl
theorem cN_s64 {a : Nat → Nat} {cI cS : ClassId} {σ : St} {i x : Int32} : (cN a cI cS σ).set 64 (a 64, .inl (cI, 6, .inl (upd (σ 64) i.toNatClampNeg x))) = cN a cI cS (ps σ 64 i x) := rfl
theorem cN_65 {a : Nat → Nat} {cI cS : ClassId} {σ : St} : (cN a cI cS σ)[65]? = some (a 65, .inl (cI, 6, .inl (σ 65))) := rfl
theorem cN_s65 {a : Nat → Nat} {cI cS : ClassId} {σ : St} {i x : Int32} : (cN a cI cS σ).set 65 (a 65, .inl (cI, 6, .inl (upd (σ 65) i.toNatClampNeg x))) = cN a cI cS (ps σ 65 i x) := rfl
theorem cN_66 {a : Nat → Nat} {cI cS : ClassId} {σ : St} : (cN a cI cS σ)[66]? = some (a 66, .inl (cI, 6, .inl (σ 66))) := rfl
theorem cN_s66 {a : Nat → Nat} {cI cS : ClassId} {σ : St} {i x : Int32} : (cN a cI cS σ).set 66 (a 66, .inl (cI, 6, .inl (upd (σ 66) i.toNatClampNeg x))) = cN a cI cS (ps σ 66 i x) := rfl
theorem cN_D {a : Nat → Nat} {cI cS : ClassId} (h : ∀ i j : Nat, i < 67 → j < 67 → a i = a j → i = j) (σ : St) : va_D (AN a) (cN a cI cS σ) := by
  have key : ∀ (k : Nat) (q : Nat × va_E), (cN a cI cS σ)[k]? = some q → k < 67 ∧ q.1 = a k := by
    intro k q hk
    have hm : ((cN a cI cS σ).map (fun q => q.1))[k]? = some q.1 := by rw [List.getElem?_map, hk]; rfl
    have he : (cN a cI cS σ).map (fun q => q.1) = (List.range 67).map a := rfl
    rw [he, List.getElem?_map] at hm
    by_cases hlt : k < 67
    · rw [List.getElem?_range hlt] at hm
      exact ⟨hlt, (Option.some.inj hm).symm⟩
    · rw [List.getElem?_eq_none (by simpa using hlt)] at hm
      cases hm
  refine ⟨fun i j x y hi hj hxy => ?_, fun k q hk => ⟨k, (key k q hk).1, (key k q hk).2⟩⟩
  obtain ⟨h1, h2⟩ := key i x hi
  obtain ⟨h3, h4⟩ := key j y hj
  exact h i j h1 h3 (by rw [← h2, ← h4, hxy])
theorem cN_D2 {a : Nat → Nat} {cI cS : ClassId} {σ : St} {k : Nat} {q : Nat × va_E} (hk : (cN a cI cS σ)[k]? = some q) : ∃ i : Nat, i < 67 ∧ q.1 = a i := by
    have hm : ((cN a cI cS σ).map (fun q => q.1))[k]? = some q.1 := by rw [List.getElem?_map, hk]; rfl
    have he : (cN a cI cS σ).map (fun q => q.1) = (List.range 67).map a := rfl
    rw [he, List.getElem?_map] at hm
    by_cases hlt : k < 67
    · rw [List.getElem?_range hlt] at hm
      exact ⟨k, hlt, (Option.some.inj hm).symm⟩
    · rw [List.getElem?_eq_none (by simpa using hlt)] at hm
      cases hm
theorem cN_at {a : Nat → Nat} {cI cS : ClassId} {σ : St} {k : Nat} (hk : k < 67) : ∃ e : va_E, (cN a cI cS σ)[k]? = some (a k, e) := by
    have he : (cN a cI cS σ).map (fun q => q.1) = (List.range 67).map a := rfl
    have hm : ((cN a cI cS σ).map (fun q => q.1))[k]? = some (a k) := by rw [he, List.getElem?_map, List.getElem?_range hk]; rfl
    rw [List.getElem?_map] at hm
    cases hq : (cN a cI cS σ)[k]? with
    | none => rw [hq] at hm; cases hm
    | some x => rw [hq] at hm; exact ⟨x.2, by rw [← Option.some.inj hm]⟩
theorem cN_inj {a : Nat → Nat} {cI cS : ClassId} {σ : St} {A : Nat → Prop} (h : va_D A (cN a cI cS σ)) : ∀ i j : Nat, i < 67 → j < 67 → a i = a j → i = j := fun i j hi hj e => by
    obtain ⟨x, hx⟩ := cN_at (cI := cI) (cS := cS) (σ := σ) (a := a) hi
    obtain ⟨y, hy⟩ := cN_at (cI := cI) (cS := cS) (σ := σ) (a := a) hj
    exact h.1 i j _ _ hx hy e
theorem cN_sub {a : Nat → Nat} {cI cS : ClassId} {σ : St} {A : Nat → Prop} (h : va_D A (cN a cI cS σ)) : ∀ q : Nat, AN a q → A q := fun q hq => by
    obtain ⟨k, hk, rfl⟩ := hq
    obtain ⟨x, hx⟩ := cN_at (cI := cI) (cS := cS) (σ := σ) (a := a) hk
    exact h.2 k _ hx
