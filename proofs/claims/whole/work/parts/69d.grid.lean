/-! the system: rows filled, a grid taken -/
theorem fl_6 {σ : St} {v : Int32} : ∃ σ', f_X10_fill__6 σ v = some (0, σ') ∧ (∀ p, p ≠ 6 → σ' p = σ p) ∧ ∀ j, j < 16 → σ' 6 j = v := by
  have hdef : f_X10_fill__6 σ v = lq1 (fun k2 s4 x3 => (if (16 : Int32) ≤ x3 then some ((0 : Int32), s4) else gd (x3) 16 (nm (ps s4 6 (x3) (v)) (fun s5 => nm (x3 + (1 : Int32)) (fun x6 => k2 s5 x6))))) 100000 σ (nI 0) := rfl
  rw [hdef]
  refine lq1_run (P := fun o => ∃ σ', o = some (0, σ') ∧ (∀ p, p ≠ 6 → σ' p = σ p) ∧ ∀ j, j < 16 → σ' 6 j = v) (fun i s x => x = nI i ∧ (∀ p, p ≠ 6 → s p = σ p) ∧ ∀ j, j < i → s 6 j = v) 16 ?_ 100000 0 σ (nI 0) (by decide) (by decide) ⟨rfl, fun _ _ => rfl, fun j hj => absurd hj (Nat.not_lt_zero j)⟩
  rintro i s x hi ⟨rfl, h1, h2⟩ k
  (try dsimp only)
  by_cases c : i < 16
  · refine Or.inl ⟨c, ps s 6 (nI i) v, nI (i + 1), ⟨rfl, fun p hp => by rw [ps_ne hp]; exact h1 p hp, fun j hj => ?_⟩, ?_⟩
    · by_cases e : j = i
      · subst e; exact ps_same (by omega)
      · rw [ps_nk (by omega) e]; exact h2 j (by omega)
    · rw [if_neg (show ¬ (16 : Int32) ≤ nI i from nI_ge (b := 16) c (by decide)), gd_nI c (by decide), nm_ok, nI_1, nm_ok]
  · have e : i = 16 := by omega
    subst e
    refine Or.inr ⟨s, if_pos (show (16 : Int32) ≤ nI 16 by decide), h1, h2⟩
theorem fl_7 {σ : St} {v : Int32} : ∃ σ', f_X10_fill__7 σ v = some (0, σ') ∧ (∀ p, p ≠ 7 → σ' p = σ p) ∧ ∀ j, j < 16 → σ' 7 j = v := by
  have hdef : f_X10_fill__7 σ v = lq1 (fun k2 s4 x3 => (if (16 : Int32) ≤ x3 then some ((0 : Int32), s4) else gd (x3) 16 (nm (ps s4 7 (x3) (v)) (fun s5 => nm (x3 + (1 : Int32)) (fun x6 => k2 s5 x6))))) 100000 σ (nI 0) := rfl
  rw [hdef]
  refine lq1_run (P := fun o => ∃ σ', o = some (0, σ') ∧ (∀ p, p ≠ 7 → σ' p = σ p) ∧ ∀ j, j < 16 → σ' 7 j = v) (fun i s x => x = nI i ∧ (∀ p, p ≠ 7 → s p = σ p) ∧ ∀ j, j < i → s 7 j = v) 16 ?_ 100000 0 σ (nI 0) (by decide) (by decide) ⟨rfl, fun _ _ => rfl, fun j hj => absurd hj (Nat.not_lt_zero j)⟩
  rintro i s x hi ⟨rfl, h1, h2⟩ k
  (try dsimp only)
  by_cases c : i < 16
  · refine Or.inl ⟨c, ps s 7 (nI i) v, nI (i + 1), ⟨rfl, fun p hp => by rw [ps_ne hp]; exact h1 p hp, fun j hj => ?_⟩, ?_⟩
    · by_cases e : j = i
      · subst e; exact ps_same (by omega)
      · rw [ps_nk (by omega) e]; exact h2 j (by omega)
    · rw [if_neg (show ¬ (16 : Int32) ≤ nI i from nI_ge (b := 16) c (by decide)), gd_nI c (by decide), nm_ok, nI_1, nm_ok]
  · have e : i = 16 := by omega
    subst e
    refine Or.inr ⟨s, if_pos (show (16 : Int32) ≤ nI 16 by decide), h1, h2⟩
theorem fl_11 {σ : St} {v : Int32} : ∃ σ', f_X10_fill__11 σ v = some (0, σ') ∧ (∀ p, p ≠ 11 → σ' p = σ p) ∧ ∀ j, j < 8 → σ' 11 j = v := by
  have hdef : f_X10_fill__11 σ v = lq1 (fun k2 s4 x3 => (if (8 : Int32) ≤ x3 then some ((0 : Int32), s4) else gd (x3) 8 (nm (ps s4 11 (x3) (v)) (fun s5 => nm (x3 + (1 : Int32)) (fun x6 => k2 s5 x6))))) 100000 σ (nI 0) := rfl
  rw [hdef]
  refine lq1_run (P := fun o => ∃ σ', o = some (0, σ') ∧ (∀ p, p ≠ 11 → σ' p = σ p) ∧ ∀ j, j < 8 → σ' 11 j = v) (fun i s x => x = nI i ∧ (∀ p, p ≠ 11 → s p = σ p) ∧ ∀ j, j < i → s 11 j = v) 8 ?_ 100000 0 σ (nI 0) (by decide) (by decide) ⟨rfl, fun _ _ => rfl, fun j hj => absurd hj (Nat.not_lt_zero j)⟩
  rintro i s x hi ⟨rfl, h1, h2⟩ k
  (try dsimp only)
  by_cases c : i < 8
  · refine Or.inl ⟨c, ps s 11 (nI i) v, nI (i + 1), ⟨rfl, fun p hp => by rw [ps_ne hp]; exact h1 p hp, fun j hj => ?_⟩, ?_⟩
    · by_cases e : j = i
      · subst e; exact ps_same (by omega)
      · rw [ps_nk (by omega) e]; exact h2 j (by omega)
    · rw [if_neg (show ¬ (8 : Int32) ≤ nI i from nI_ge (b := 8) c (by decide)), gd_nI c (by decide), nm_ok, nI_1, nm_ok]
  · have e : i = 8 := by omega
    subst e
    refine Or.inr ⟨s, if_pos (show (8 : Int32) ≤ nI 8 by decide), h1, h2⟩
theorem fl_13 {σ : St} {v : Int32} : ∃ σ', f_X10_fill__13 σ v = some (0, σ') ∧ (∀ p, p ≠ 13 → σ' p = σ p) ∧ ∀ j, j < 16 → σ' 13 j = v := by
  have hdef : f_X10_fill__13 σ v = lq1 (fun k2 s4 x3 => (if (16 : Int32) ≤ x3 then some ((0 : Int32), s4) else gd (x3) 16 (nm (ps s4 13 (x3) (v)) (fun s5 => nm (x3 + (1 : Int32)) (fun x6 => k2 s5 x6))))) 100000 σ (nI 0) := rfl
  rw [hdef]
  refine lq1_run (P := fun o => ∃ σ', o = some (0, σ') ∧ (∀ p, p ≠ 13 → σ' p = σ p) ∧ ∀ j, j < 16 → σ' 13 j = v) (fun i s x => x = nI i ∧ (∀ p, p ≠ 13 → s p = σ p) ∧ ∀ j, j < i → s 13 j = v) 16 ?_ 100000 0 σ (nI 0) (by decide) (by decide) ⟨rfl, fun _ _ => rfl, fun j hj => absurd hj (Nat.not_lt_zero j)⟩
  rintro i s x hi ⟨rfl, h1, h2⟩ k
  (try dsimp only)
  by_cases c : i < 16
  · refine Or.inl ⟨c, ps s 13 (nI i) v, nI (i + 1), ⟨rfl, fun p hp => by rw [ps_ne hp]; exact h1 p hp, fun j hj => ?_⟩, ?_⟩
    · by_cases e : j = i
      · subst e; exact ps_same (by omega)
      · rw [ps_nk (by omega) e]; exact h2 j (by omega)
    · rw [if_neg (show ¬ (16 : Int32) ≤ nI i from nI_ge (b := 16) c (by decide)), gd_nI c (by decide), nm_ok, nI_1, nm_ok]
  · have e : i = 16 := by omega
    subst e
    refine Or.inr ⟨s, if_pos (show (16 : Int32) ≤ nI 16 by decide), h1, h2⟩
theorem fl_14 {σ : St} {v : Int32} : ∃ σ', f_X10_fill__14 σ v = some (0, σ') ∧ (∀ p, p ≠ 14 → σ' p = σ p) ∧ ∀ j, j < 16 → σ' 14 j = v := by
  have hdef : f_X10_fill__14 σ v = lq1 (fun k2 s4 x3 => (if (16 : Int32) ≤ x3 then some ((0 : Int32), s4) else gd (x3) 16 (nm (ps s4 14 (x3) (v)) (fun s5 => nm (x3 + (1 : Int32)) (fun x6 => k2 s5 x6))))) 100000 σ (nI 0) := rfl
  rw [hdef]
  refine lq1_run (P := fun o => ∃ σ', o = some (0, σ') ∧ (∀ p, p ≠ 14 → σ' p = σ p) ∧ ∀ j, j < 16 → σ' 14 j = v) (fun i s x => x = nI i ∧ (∀ p, p ≠ 14 → s p = σ p) ∧ ∀ j, j < i → s 14 j = v) 16 ?_ 100000 0 σ (nI 0) (by decide) (by decide) ⟨rfl, fun _ _ => rfl, fun j hj => absurd hj (Nat.not_lt_zero j)⟩
  rintro i s x hi ⟨rfl, h1, h2⟩ k
  (try dsimp only)
  by_cases c : i < 16
  · refine Or.inl ⟨c, ps s 14 (nI i) v, nI (i + 1), ⟨rfl, fun p hp => by rw [ps_ne hp]; exact h1 p hp, fun j hj => ?_⟩, ?_⟩
    · by_cases e : j = i
      · subst e; exact ps_same (by omega)
      · rw [ps_nk (by omega) e]; exact h2 j (by omega)
    · rw [if_neg (show ¬ (16 : Int32) ≤ nI i from nI_ge (b := 16) c (by decide)), gd_nI c (by decide), nm_ok, nI_1, nm_ok]
  · have e : i = 16 := by omega
    subst e
    refine Or.inr ⟨s, if_pos (show (16 : Int32) ≤ nI 16 by decide), h1, h2⟩
theorem fl_18 {σ : St} {v : Int32} : ∃ σ', f_X10_fill__18 σ v = some (0, σ') ∧ (∀ p, p ≠ 18 → σ' p = σ p) ∧ ∀ j, j < 8 → σ' 18 j = v := by
  have hdef : f_X10_fill__18 σ v = lq1 (fun k2 s4 x3 => (if (8 : Int32) ≤ x3 then some ((0 : Int32), s4) else gd (x3) 8 (nm (ps s4 18 (x3) (v)) (fun s5 => nm (x3 + (1 : Int32)) (fun x6 => k2 s5 x6))))) 100000 σ (nI 0) := rfl
  rw [hdef]
  refine lq1_run (P := fun o => ∃ σ', o = some (0, σ') ∧ (∀ p, p ≠ 18 → σ' p = σ p) ∧ ∀ j, j < 8 → σ' 18 j = v) (fun i s x => x = nI i ∧ (∀ p, p ≠ 18 → s p = σ p) ∧ ∀ j, j < i → s 18 j = v) 8 ?_ 100000 0 σ (nI 0) (by decide) (by decide) ⟨rfl, fun _ _ => rfl, fun j hj => absurd hj (Nat.not_lt_zero j)⟩
  rintro i s x hi ⟨rfl, h1, h2⟩ k
  (try dsimp only)
  by_cases c : i < 8
  · refine Or.inl ⟨c, ps s 18 (nI i) v, nI (i + 1), ⟨rfl, fun p hp => by rw [ps_ne hp]; exact h1 p hp, fun j hj => ?_⟩, ?_⟩
    · by_cases e : j = i
      · subst e; exact ps_same (by omega)
      · rw [ps_nk (by omega) e]; exact h2 j (by omega)
    · rw [if_neg (show ¬ (8 : Int32) ≤ nI i from nI_ge (b := 8) c (by decide)), gd_nI c (by decide), nm_ok, nI_1, nm_ok]
  · have e : i = 8 := by omega
    subst e
    refine Or.inr ⟨s, if_pos (show (8 : Int32) ≤ nI 8 by decide), h1, h2⟩
theorem N_grid5 {σ : St} {a b : Nat} (ha : a ≤ 99) (hb : b ≤ 99) : ∃ σ', (∀ p, p ≠ 5 → σ' p = σ p) ∧ (∀ j, 10 ≤ j → σ' 5 j = σ 5 j) ∧ ((¬ ((1 ≤ a ∧ a ≤ 4) ∧ (1 ≤ b ∧ b ≤ 4)) ∧ f_X4_takeGrid__5 σ (nI a) (nI b) = some (0, σ')) ∨ (((1 ≤ a ∧ a ≤ 4) ∧ (1 ≤ b ∧ b ≤ 4)) ∧ f_X4_takeGrid__5 σ (nI a) (nI b) = some (1, σ') ∧ σ' 5 6 = nI a ∧ σ' 5 7 = nI b ∧ σ' 5 8 = nI (fcN a b) ∧ σ' 5 9 = nI (lcN a b))) := by
  have W1 : ∀ (s : St) (x : Nat), x ≤ 99 → (1 ≤ x ∧ x ≤ 4) → f_X10_within s (nI x) 1 4 = some (1, s) := fun s x hx h => N_within (nI_nlt (b := 1) h.1 (by omega)) (nI_nlt (a := 4) h.2 (by decide))
  have W0 : ∀ (s : St) (x : Nat), x ≤ 99 → ¬ (1 ≤ x ∧ x ≤ 4) → f_X10_within s (nI x) 1 4 = some (0, s) := fun s x hx h => by
    by_cases c : x < 1
    · exact N_within0 (Or.inl (nI_lt (b := 1) c (by decide)))
    · exact N_within0 (Or.inr ⟨nI_nlt (b := 1) (by omega) (by omega), nI_lt (a := 4) (by omega) (by omega)⟩)
  unfold f_X4_takeGrid__5
  by_cases ca : 1 ≤ a ∧ a ≤ 4
  · rw [W1 σ a ha ca, bnd_ok, if_neg n10]
    by_cases cb : 1 ≤ b ∧ b ≤ 4
    · rw [W1 σ b hb cb, bnd_ok, if_neg n10, nm_ok, nm_ok, nm_ok]
      have z6 : (pf (pf (pf σ 5 6 (nI a)) 5 7 (nI b)) 5 8 0) 5 6 = nI a := by rw [pf_nk (by decide), pf_nk (by decide), pf_same]
      have z7 : (pf (pf (pf σ 5 6 (nI a)) 5 7 (nI b)) 5 8 0) 5 7 = nI b := by rw [pf_nk (by decide), pf_same]
      have z8 : (pf (pf (pf σ 5 6 (nI a)) 5 7 (nI b)) 5 8 0) 5 8 = nI (orf (fun i => 2 ^ (i * b)) 0) := pf_same
      have zp : ∀ p, p ≠ 5 → (pf (pf (pf σ 5 6 (nI a)) 5 7 (nI b)) 5 8 0) p = σ p := fun p hp => by rw [pf_ne hp, pf_ne hp, pf_ne hp]
      have zj : ∀ j, 10 ≤ j → (pf (pf (pf σ 5 6 (nI a)) 5 7 (nI b)) 5 8 0) 5 j = σ 5 j := fun j hj => by rw [pf_nk (by omega), pf_nk (by omega), pf_nk (by omega)]
      generalize pf (pf (pf σ 5 6 (nI a)) 5 7 (nI b)) 5 8 0 = s0 at z6 z7 z8 zp zj
      refine lq1_run (P := fun o => ∃ σ', (∀ p, p ≠ 5 → σ' p = σ p) ∧ (∀ j, 10 ≤ j → σ' 5 j = σ 5 j) ∧ ((¬ ((1 ≤ a ∧ a ≤ 4) ∧ (1 ≤ b ∧ b ≤ 4)) ∧ o = some (0, σ')) ∨ (((1 ≤ a ∧ a ≤ 4) ∧ (1 ≤ b ∧ b ≤ 4)) ∧ o = some (1, σ') ∧ σ' 5 6 = nI a ∧ σ' 5 7 = nI b ∧ σ' 5 8 = nI (fcN a b) ∧ σ' 5 9 = nI (lcN a b)))) (fun i s x => x = nI i ∧ (∀ p, p ≠ 5 → s p = σ p) ∧ (∀ j, 10 ≤ j → s 5 j = σ 5 j) ∧ s 5 6 = nI a ∧ s 5 7 = nI b ∧ s 5 8 = nI (orf (fun i => 2 ^ (i * b)) i)) a ?_ 100000 0 s0 0 (by omega) (by omega) ⟨rfl, zp, zj, z6, z7, z8⟩
      rintro i s x hi ⟨rfl, h1, h2, h3, h4, h5⟩ k
      (try dsimp only)
      by_cases c : i < a
      · have hib : i * b < 16 := Nat.lt_of_le_of_lt (Nat.mul_le_mul (show i ≤ 3 by omega) cb.2) (by decide)
        refine Or.inl ⟨c, pf s 5 8 (nI (orf (fun i => 2 ^ (i * b)) (i + 1))), nI (i + 1), ⟨rfl, fun p hp => by rw [pf_ne hp]; exact h1 p hp, fun j hj => by rw [pf_nk (by omega)]; exact h2 j hj, by rw [pf_nk (by decide)]; exact h3, by rw [pf_nk (by decide)]; exact h4, pf_same⟩, ?_⟩
        rw [h3, if_neg (nI_ge c (by omega)), h4, pk_mul, N_bit hib, bnd_ok, h5, nx_or, nm_ok, nI_1, nm_ok]
        rfl
      · have e : i = a := by omega
        subst e
        obtain ⟨R, rfl⟩ : ∃ R, i = R + 1 := ⟨i - 1, by omega⟩
        obtain ⟨C, rfl⟩ : ∃ C, b = C + 1 := ⟨b - 1, by omega⟩
        obtain ⟨f1, f2⟩ := fc_or R (by omega) C (by omega)
        have hlt : fcN (R + 1) (C + 1) < 65536 := mkm_lt _ 16
        have hC8 : 2 ^ C ≤ 8 := Nat.pow_le_pow_right (n := 2) (i := C) (j := 3) (by decide) (by omega)
        have hmul : fcN (R + 1) (C + 1) * 2 ^ C < 2 ^ 32 := Nat.lt_of_le_of_lt (Nat.mul_le_mul (Nat.le_of_lt hlt) hC8) (by decide)
        have hsh : nI (fcN (R + 1) (C + 1)) <<< ((nI (C + 1) - 1) &&& 31) = nI (lcN (R + 1) (C + 1)) := by
          rw [show nI (C + 1) - 1 = nI C from pk_sub (a := C + 1) (b := 1) (by omega), pk_shlN _ C (s_l C (by omega)) hmul, f2]
        refine Or.inr ⟨pf s 5 9 (nI (lcN (R + 1) (C + 1))), fun p hp => by rw [pf_ne hp]; exact h1 p hp, fun j hj => by rw [pf_nk (by omega)]; exact h2 j hj, Or.inr ⟨⟨ca, cb⟩, ?_, by rw [pf_nk (by decide)]; exact h3, by rw [pf_nk (by decide)]; exact h4, ?_, pf_same⟩⟩
        · rw [h3, if_pos (nI_le (Nat.le_refl _) (by omega)), h5, f1, h4, hsh, nm_ok]
        · rw [pf_nk (by decide), h5, f1]
    · rw [W0 σ b hb cb, bnd_ok, if_pos rfl]
      exact ⟨σ, fun _ _ => rfl, fun _ _ => rfl, Or.inl ⟨fun z => cb z.2, rfl⟩⟩
  · rw [W0 σ a ha ca, bnd_ok, if_pos rfl]
    exact ⟨σ, fun _ _ => rfl, fun _ _ => rfl, Or.inl ⟨fun z => ca z.1, rfl⟩⟩
theorem N_grid12 {σ : St} {a b : Nat} (ha : a ≤ 99) (hb : b ≤ 99) : ∃ σ', (∀ p, p ≠ 12 → σ' p = σ p) ∧ (∀ j, 10 ≤ j → σ' 12 j = σ 12 j) ∧ ((¬ ((1 ≤ a ∧ a ≤ 4) ∧ (1 ≤ b ∧ b ≤ 4)) ∧ f_X4_takeGrid__12 σ (nI a) (nI b) = some (0, σ')) ∨ (((1 ≤ a ∧ a ≤ 4) ∧ (1 ≤ b ∧ b ≤ 4)) ∧ f_X4_takeGrid__12 σ (nI a) (nI b) = some (1, σ') ∧ σ' 12 6 = nI a ∧ σ' 12 7 = nI b ∧ σ' 12 8 = nI (fcN a b) ∧ σ' 12 9 = nI (lcN a b))) := by
  have W1 : ∀ (s : St) (x : Nat), x ≤ 99 → (1 ≤ x ∧ x ≤ 4) → f_X10_within s (nI x) 1 4 = some (1, s) := fun s x hx h => N_within (nI_nlt (b := 1) h.1 (by omega)) (nI_nlt (a := 4) h.2 (by decide))
  have W0 : ∀ (s : St) (x : Nat), x ≤ 99 → ¬ (1 ≤ x ∧ x ≤ 4) → f_X10_within s (nI x) 1 4 = some (0, s) := fun s x hx h => by
    by_cases c : x < 1
    · exact N_within0 (Or.inl (nI_lt (b := 1) c (by decide)))
    · exact N_within0 (Or.inr ⟨nI_nlt (b := 1) (by omega) (by omega), nI_lt (a := 4) (by omega) (by omega)⟩)
  unfold f_X4_takeGrid__12
  by_cases ca : 1 ≤ a ∧ a ≤ 4
  · rw [W1 σ a ha ca, bnd_ok, if_neg n10]
    by_cases cb : 1 ≤ b ∧ b ≤ 4
    · rw [W1 σ b hb cb, bnd_ok, if_neg n10, nm_ok, nm_ok, nm_ok]
      have z6 : (pf (pf (pf σ 12 6 (nI a)) 12 7 (nI b)) 12 8 0) 12 6 = nI a := by rw [pf_nk (by decide), pf_nk (by decide), pf_same]
      have z7 : (pf (pf (pf σ 12 6 (nI a)) 12 7 (nI b)) 12 8 0) 12 7 = nI b := by rw [pf_nk (by decide), pf_same]
      have z8 : (pf (pf (pf σ 12 6 (nI a)) 12 7 (nI b)) 12 8 0) 12 8 = nI (orf (fun i => 2 ^ (i * b)) 0) := pf_same
      have zp : ∀ p, p ≠ 12 → (pf (pf (pf σ 12 6 (nI a)) 12 7 (nI b)) 12 8 0) p = σ p := fun p hp => by rw [pf_ne hp, pf_ne hp, pf_ne hp]
      have zj : ∀ j, 10 ≤ j → (pf (pf (pf σ 12 6 (nI a)) 12 7 (nI b)) 12 8 0) 12 j = σ 12 j := fun j hj => by rw [pf_nk (by omega), pf_nk (by omega), pf_nk (by omega)]
      generalize pf (pf (pf σ 12 6 (nI a)) 12 7 (nI b)) 12 8 0 = s0 at z6 z7 z8 zp zj
      refine lq1_run (P := fun o => ∃ σ', (∀ p, p ≠ 12 → σ' p = σ p) ∧ (∀ j, 10 ≤ j → σ' 12 j = σ 12 j) ∧ ((¬ ((1 ≤ a ∧ a ≤ 4) ∧ (1 ≤ b ∧ b ≤ 4)) ∧ o = some (0, σ')) ∨ (((1 ≤ a ∧ a ≤ 4) ∧ (1 ≤ b ∧ b ≤ 4)) ∧ o = some (1, σ') ∧ σ' 12 6 = nI a ∧ σ' 12 7 = nI b ∧ σ' 12 8 = nI (fcN a b) ∧ σ' 12 9 = nI (lcN a b)))) (fun i s x => x = nI i ∧ (∀ p, p ≠ 12 → s p = σ p) ∧ (∀ j, 10 ≤ j → s 12 j = σ 12 j) ∧ s 12 6 = nI a ∧ s 12 7 = nI b ∧ s 12 8 = nI (orf (fun i => 2 ^ (i * b)) i)) a ?_ 100000 0 s0 0 (by omega) (by omega) ⟨rfl, zp, zj, z6, z7, z8⟩
      rintro i s x hi ⟨rfl, h1, h2, h3, h4, h5⟩ k
      (try dsimp only)
      by_cases c : i < a
      · have hib : i * b < 16 := Nat.lt_of_le_of_lt (Nat.mul_le_mul (show i ≤ 3 by omega) cb.2) (by decide)
        refine Or.inl ⟨c, pf s 12 8 (nI (orf (fun i => 2 ^ (i * b)) (i + 1))), nI (i + 1), ⟨rfl, fun p hp => by rw [pf_ne hp]; exact h1 p hp, fun j hj => by rw [pf_nk (by omega)]; exact h2 j hj, by rw [pf_nk (by decide)]; exact h3, by rw [pf_nk (by decide)]; exact h4, pf_same⟩, ?_⟩
        rw [h3, if_neg (nI_ge c (by omega)), h4, pk_mul, N_bit hib, bnd_ok, h5, nx_or, nm_ok, nI_1, nm_ok]
        rfl
      · have e : i = a := by omega
        subst e
        obtain ⟨R, rfl⟩ : ∃ R, i = R + 1 := ⟨i - 1, by omega⟩
        obtain ⟨C, rfl⟩ : ∃ C, b = C + 1 := ⟨b - 1, by omega⟩
        obtain ⟨f1, f2⟩ := fc_or R (by omega) C (by omega)
        have hlt : fcN (R + 1) (C + 1) < 65536 := mkm_lt _ 16
        have hC8 : 2 ^ C ≤ 8 := Nat.pow_le_pow_right (n := 2) (i := C) (j := 3) (by decide) (by omega)
        have hmul : fcN (R + 1) (C + 1) * 2 ^ C < 2 ^ 32 := Nat.lt_of_le_of_lt (Nat.mul_le_mul (Nat.le_of_lt hlt) hC8) (by decide)
        have hsh : nI (fcN (R + 1) (C + 1)) <<< ((nI (C + 1) - 1) &&& 31) = nI (lcN (R + 1) (C + 1)) := by
          rw [show nI (C + 1) - 1 = nI C from pk_sub (a := C + 1) (b := 1) (by omega), pk_shlN _ C (s_l C (by omega)) hmul, f2]
        refine Or.inr ⟨pf s 12 9 (nI (lcN (R + 1) (C + 1))), fun p hp => by rw [pf_ne hp]; exact h1 p hp, fun j hj => by rw [pf_nk (by omega)]; exact h2 j hj, Or.inr ⟨⟨ca, cb⟩, ?_, by rw [pf_nk (by decide)]; exact h3, by rw [pf_nk (by decide)]; exact h4, ?_, pf_same⟩⟩
        · rw [h3, if_pos (nI_le (Nat.le_refl _) (by omega)), h5, f1, h4, hsh, nm_ok]
        · rw [pf_nk (by decide), h5, f1]
    · rw [W0 σ b hb cb, bnd_ok, if_pos rfl]
      exact ⟨σ, fun _ _ => rfl, fun _ _ => rfl, Or.inl ⟨fun z => cb z.2, rfl⟩⟩
  · rw [W0 σ a ha ca, bnd_ok, if_pos rfl]
    exact ⟨σ, fun _ _ => rfl, fun _ _ => rfl, Or.inl ⟨fun z => ca z.1, rfl⟩⟩
