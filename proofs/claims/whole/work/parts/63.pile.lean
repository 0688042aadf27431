/-! piles -/
theorem N_placeOf22 {σ : St} {lw m : Nat} (h1 : σ 22 1 = nI lw) (hs : lw + m < 2 ^ 31) : f_X5_placeOf__22 σ (nI m) = some (nI (24 + 3 * ((lw + m) % 8)), σ) := by
  have hf : f_J9_floorMod_7cf53 σ (nI (lw + m)) (8 : Int32) = some (nI ((lw + m) % 8), σ) := N_floorMod (b := 8) hs (by decide) (by decide)
  have hm : (lw + m) % 8 < 8 := Nat.mod_lt _ (by decide)
  unfold f_X5_placeOf__22
  rw [if_neg (show ¬ (8 : Int32) = 0 by decide)]
  simp only [jq0, h1, nI_add, hf, bnd_ok]
  generalize (lw + m) % 8 = q at hm
  have : q = 0 ∨ q = 1 ∨ q = 2 ∨ q = 3 ∨ q = 4 ∨ q = 5 ∨ q = 6 ∨ q = 7 := by omega
  rcases this with e | e | e | e | e | e | e | e <;> subst e <;> rfl
theorem N_placeOf48 {σ : St} {lw m : Nat} (h1 : σ 48 1 = nI lw) (hs : lw + m < 2 ^ 31) : f_X5_placeOf__48 σ (nI m) = some (nI (50 + 3 * ((lw + m) % 2)), σ) := by
  have hf : f_J9_floorMod_7cf53 σ (nI (lw + m)) (2 : Int32) = some (nI ((lw + m) % 2), σ) := N_floorMod (b := 2) hs (by decide) (by decide)
  have hm : (lw + m) % 2 < 2 := Nat.mod_lt _ (by decide)
  unfold f_X5_placeOf__48
  rw [if_neg (show ¬ (2 : Int32) = 0 by decide)]
  simp only [jq0, h1, nI_add, hf, bnd_ok]
  generalize (lw + m) % 2 = q at hm
  have : q = 0 ∨ q = 1 := by omega
  rcases this with e | e <;> subst e <;> rfl
theorem N_push22 {σ : St} {lw m : Nat} (h1 : σ 22 1 = nI lw) (h2 : σ 22 2 = nI m) (hm : m ≤ 8) (hs : lw + m < 2 ^ 30) : ∃ σ', f_X5_push__22_19 σ = some (0, σ') ∧ (∀ p, p ≠ 22 → p ≠ 24 + 3 * ((lw + m) % 8) → p ≠ 24 + 3 * ((lw + m) % 8) + 1 → p ≠ 24 + 3 * ((lw + m) % 8) + 2 → σ' p = σ p) ∧ (∀ g, SNt σ 19 g → SNt σ' (24 + 3 * ((lw + m) % 8)) g) ∧ σ' 22 2 = nI (if m = 8 then 8 else m + 1) ∧ σ' 22 1 = nI (if m = 8 then lw + 1 else lw) := by
  have hq : (lw + m) % 8 < 8 := Nat.mod_lt _ (by decide)
  have hp := N_placeOf22 (m := m) h1 (by omega)
  unfold f_X5_push__22_19
  rw [h2, hp, bnd_ok]
  generalize (lw + m) % 8 = q at hq
  have fin : ∀ s1 : St, (∀ j, s1 22 j = σ 22 j) → ∃ σ', bnd (f_X5_isFull__22 s1) (fun r5 s6 => (if r5 = (0 : Int32) then nm (pf s6 22 2 (((s6 22 2) + (1 : Int32)))) (fun s7 => some ((0 : Int32), s7)) else nm (pf s6 22 1 (((s6 22 1) + (1 : Int32)))) (fun s8 => some ((0 : Int32), s8)))) = some (0, σ') ∧ (∀ p, p ≠ 22 → σ' p = s1 p) ∧ σ' 22 2 = nI (if m = 8 then 8 else m + 1) ∧ σ' 22 1 = nI (if m = 8 then lw + 1 else lw) := fun s1 hj => by
    have qm : (nI m = (8 : Int32)) = (m = 8) := nI_eqB (b := 8) (by omega) (by decide)
    unfold f_X5_isFull__22
    rw [hj 2, h2]
    simp only [qm]
    by_cases e : m = 8
    · simp only [e, if_true, bnd_ok, c10, if_false, nm_ok, hj 1, h1, nI_1]
      exact ⟨_, rfl, fun p hp => pf_ne hp, by rw [pf_nk (by decide), hj 2, h2, e], pf_same⟩
    · simp only [e, if_true, bnd_ok, c00, if_false, nm_ok, hj 2, h2, nI_1]
      exact ⟨_, rfl, fun p hp => pf_ne hp, pf_same, by rw [pf_nk (by decide), hj 1, h1]⟩
  have : q = 0 ∨ q = 1 ∨ q = 2 ∨ q = 3 ∨ q = 4 ∨ q = 5 ∨ q = 6 ∨ q = 7 := by omega
  rcases this with e | e | e | e | e | e | e | e
  · subst e
    obtain ⟨s1, g1, g2, g3⟩ := co_24_19 (σ := σ)
    obtain ⟨s2, f1, f2, f3, f4⟩ := fin s1 (fun j => by rw [g2 22 (by decide) (by decide) (by decide)])
    refine ⟨s2, ?_, fun p a b c d => (f2 p a).trans (g2 p b c d), fun g hg => (g3 g hg).same (f2 _ (by decide)) (f2 _ (by decide)) (f2 _ (by decide)), f3, f4⟩
    rw [if_pos (by decide), g1, bnd_ok]
    exact f1
  · subst e
    obtain ⟨s1, g1, g2, g3⟩ := co_27_19 (σ := σ)
    obtain ⟨s2, f1, f2, f3, f4⟩ := fin s1 (fun j => by rw [g2 22 (by decide) (by decide) (by decide)])
    refine ⟨s2, ?_, fun p a b c d => (f2 p a).trans (g2 p b c d), fun g hg => (g3 g hg).same (f2 _ (by decide)) (f2 _ (by decide)) (f2 _ (by decide)), f3, f4⟩
    rw [if_neg (by decide), if_pos (by decide), g1, bnd_ok]
    exact f1
  · subst e
    obtain ⟨s1, g1, g2, g3⟩ := co_30_19 (σ := σ)
    obtain ⟨s2, f1, f2, f3, f4⟩ := fin s1 (fun j => by rw [g2 22 (by decide) (by decide) (by decide)])
    refine ⟨s2, ?_, fun p a b c d => (f2 p a).trans (g2 p b c d), fun g hg => (g3 g hg).same (f2 _ (by decide)) (f2 _ (by decide)) (f2 _ (by decide)), f3, f4⟩
    rw [if_neg (by decide), if_neg (by decide), if_pos (by decide), g1, bnd_ok]
    exact f1
  · subst e
    obtain ⟨s1, g1, g2, g3⟩ := co_33_19 (σ := σ)
    obtain ⟨s2, f1, f2, f3, f4⟩ := fin s1 (fun j => by rw [g2 22 (by decide) (by decide) (by decide)])
    refine ⟨s2, ?_, fun p a b c d => (f2 p a).trans (g2 p b c d), fun g hg => (g3 g hg).same (f2 _ (by decide)) (f2 _ (by decide)) (f2 _ (by decide)), f3, f4⟩
    rw [if_neg (by decide), if_neg (by decide), if_neg (by decide), if_pos (by decide), g1, bnd_ok]
    exact f1
  · subst e
    obtain ⟨s1, g1, g2, g3⟩ := co_36_19 (σ := σ)
    obtain ⟨s2, f1, f2, f3, f4⟩ := fin s1 (fun j => by rw [g2 22 (by decide) (by decide) (by decide)])
    refine ⟨s2, ?_, fun p a b c d => (f2 p a).trans (g2 p b c d), fun g hg => (g3 g hg).same (f2 _ (by decide)) (f2 _ (by decide)) (f2 _ (by decide)), f3, f4⟩
    rw [if_neg (by decide), if_neg (by decide), if_neg (by decide), if_neg (by decide), if_pos (by decide), g1, bnd_ok]
    exact f1
  · subst e
    obtain ⟨s1, g1, g2, g3⟩ := co_39_19 (σ := σ)
    obtain ⟨s2, f1, f2, f3, f4⟩ := fin s1 (fun j => by rw [g2 22 (by decide) (by decide) (by decide)])
    refine ⟨s2, ?_, fun p a b c d => (f2 p a).trans (g2 p b c d), fun g hg => (g3 g hg).same (f2 _ (by decide)) (f2 _ (by decide)) (f2 _ (by decide)), f3, f4⟩
    rw [if_neg (by decide), if_neg (by decide), if_neg (by decide), if_neg (by decide), if_neg (by decide), if_pos (by decide), g1, bnd_ok]
    exact f1
  · subst e
    obtain ⟨s1, g1, g2, g3⟩ := co_42_19 (σ := σ)
    obtain ⟨s2, f1, f2, f3, f4⟩ := fin s1 (fun j => by rw [g2 22 (by decide) (by decide) (by decide)])
    refine ⟨s2, ?_, fun p a b c d => (f2 p a).trans (g2 p b c d), fun g hg => (g3 g hg).same (f2 _ (by decide)) (f2 _ (by decide)) (f2 _ (by decide)), f3, f4⟩
    rw [if_neg (by decide), if_neg (by decide), if_neg (by decide), if_neg (by decide), if_neg (by decide), if_neg (by decide), if_pos (by decide), g1, bnd_ok]
    exact f1
  · subst e
    obtain ⟨s1, g1, g2, g3⟩ := co_45_19 (σ := σ)
    obtain ⟨s2, f1, f2, f3, f4⟩ := fin s1 (fun j => by rw [g2 22 (by decide) (by decide) (by decide)])
    refine ⟨s2, ?_, fun p a b c d => (f2 p a).trans (g2 p b c d), fun g hg => (g3 g hg).same (f2 _ (by decide)) (f2 _ (by decide)) (f2 _ (by decide)), f3, f4⟩
    rw [if_neg (by decide), if_neg (by decide), if_neg (by decide), if_neg (by decide), if_neg (by decide), if_neg (by decide), if_neg (by decide), if_pos (by decide), g1, bnd_ok]
    exact f1
theorem N_push48 {σ : St} {lw m : Nat} (h1 : σ 48 1 = nI lw) (h2 : σ 48 2 = nI m) (hm : m ≤ 1) (hs : lw + m < 2 ^ 30) : ∃ σ', f_X5_push__48_19 σ = some (0, σ') ∧ (∀ p, p ≠ 48 → p ≠ 50 + 3 * ((lw + m) % 2) → p ≠ 50 + 3 * ((lw + m) % 2) + 1 → p ≠ 50 + 3 * ((lw + m) % 2) + 2 → σ' p = σ p) ∧ (∀ g, SNt σ 19 g → SNt σ' (50 + 3 * ((lw + m) % 2)) g) ∧ σ' 48 2 = nI (if m = 2 then 2 else m + 1) ∧ σ' 48 1 = nI (if m = 2 then lw + 1 else lw) := by
  have hq : (lw + m) % 2 < 2 := Nat.mod_lt _ (by decide)
  have hp := N_placeOf48 (m := m) h1 (by omega)
  unfold f_X5_push__48_19
  rw [h2, hp, bnd_ok]
  generalize (lw + m) % 2 = q at hq
  have fin : ∀ s1 : St, (∀ j, s1 48 j = σ 48 j) → ∃ σ', bnd (f_X5_isFull__48 s1) (fun r5 s6 => (if r5 = (0 : Int32) then nm (pf s6 48 2 (((s6 48 2) + (1 : Int32)))) (fun s7 => some ((0 : Int32), s7)) else nm (pf s6 48 1 (((s6 48 1) + (1 : Int32)))) (fun s8 => some ((0 : Int32), s8)))) = some (0, σ') ∧ (∀ p, p ≠ 48 → σ' p = s1 p) ∧ σ' 48 2 = nI (if m = 2 then 2 else m + 1) ∧ σ' 48 1 = nI (if m = 2 then lw + 1 else lw) := fun s1 hj => by
    have qm : (nI m = (2 : Int32)) = (m = 2) := nI_eqB (b := 2) (by omega) (by decide)
    unfold f_X5_isFull__48
    rw [hj 2, h2]
    simp only [qm]
    by_cases e : m = 2
    · simp only [e, if_true, bnd_ok, c10, if_false, nm_ok, hj 1, h1, nI_1]
      exact ⟨_, rfl, fun p hp => pf_ne hp, by rw [pf_nk (by decide), hj 2, h2, e], pf_same⟩
    · simp only [e, if_true, bnd_ok, c00, if_false, nm_ok, hj 2, h2, nI_1]
      exact ⟨_, rfl, fun p hp => pf_ne hp, pf_same, by rw [pf_nk (by decide), hj 1, h1]⟩
  have : q = 0 ∨ q = 1 := by omega
  rcases this with e | e
  · subst e
    obtain ⟨s1, g1, g2, g3⟩ := co_50_19 (σ := σ)
    obtain ⟨s2, f1, f2, f3, f4⟩ := fin s1 (fun j => by rw [g2 48 (by decide) (by decide) (by decide)])
    refine ⟨s2, ?_, fun p a b c d => (f2 p a).trans (g2 p b c d), fun g hg => (g3 g hg).same (f2 _ (by decide)) (f2 _ (by decide)) (f2 _ (by decide)), f3, f4⟩
    rw [if_pos (by decide), g1, bnd_ok]
    exact f1
  · subst e
    obtain ⟨s1, g1, g2, g3⟩ := co_53_19 (σ := σ)
    obtain ⟨s2, f1, f2, f3, f4⟩ := fin s1 (fun j => by rw [g2 48 (by decide) (by decide) (by decide)])
    refine ⟨s2, ?_, fun p a b c d => (f2 p a).trans (g2 p b c d), fun g hg => (g3 g hg).same (f2 _ (by decide)) (f2 _ (by decide)) (f2 _ (by decide)), f3, f4⟩
    rw [if_neg (by decide), if_pos (by decide), g1, bnd_ok]
    exact f1
theorem N_pop22 {σ : St} {lw m : Nat} (h1 : σ 22 1 = nI lw) (h2 : σ 22 2 = nI (m + 1)) (hs : lw + m < 2 ^ 30) : ∃ σ', f_X5_popInto__22_19 σ = some (1, σ') ∧ (∀ p, p ≠ 22 → p ≠ 19 → p ≠ 20 → p ≠ 21 → σ' p = σ p) ∧ (∀ g, SNt σ (24 + 3 * ((lw + m) % 8)) g → SNt σ' 19 g) ∧ σ' 22 2 = nI m ∧ σ' 22 1 = nI lw := by
  have hq : (lw + m) % 8 < 8 := Nat.mod_lt _ (by decide)
  have hp := N_placeOf22 (m := m) h1 (by omega)
  have h0 : ¬ σ 22 2 = 0 := by rw [h2]; exact nI_ne0 (by omega) (by omega)
  unfold f_X5_popInto__22_19
  rw [if_neg h0, h2, nI_pred, hp, bnd_ok]
  generalize (lw + m) % 8 = q at hq
  have : q = 0 ∨ q = 1 ∨ q = 2 ∨ q = 3 ∨ q = 4 ∨ q = 5 ∨ q = 6 ∨ q = 7 := by omega
  rcases this with e | e | e | e | e | e | e | e
  · subst e
    obtain ⟨s1, g1, g2, g3⟩ := co_19_24 (σ := σ)
    refine ⟨pf s1 22 2 (nI m), ?_, fun p a b c d => (pf_ne a).trans (g2 p b c d), fun g hg => (g3 g hg).same (pf_ne (by decide)) (pf_ne (by decide)) (pf_ne (by decide)), pf_same, ?_⟩
    · rw [if_pos (by decide), g1, bnd_ok, g2 22 (by decide) (by decide) (by decide), h2, nI_pred, nm_ok]
    · rw [pf_nk (by decide), g2 22 (by decide) (by decide) (by decide), h1]
  · subst e
    obtain ⟨s1, g1, g2, g3⟩ := co_19_27 (σ := σ)
    refine ⟨pf s1 22 2 (nI m), ?_, fun p a b c d => (pf_ne a).trans (g2 p b c d), fun g hg => (g3 g hg).same (pf_ne (by decide)) (pf_ne (by decide)) (pf_ne (by decide)), pf_same, ?_⟩
    · rw [if_neg (by decide), if_pos (by decide), g1, bnd_ok, g2 22 (by decide) (by decide) (by decide), h2, nI_pred, nm_ok]
    · rw [pf_nk (by decide), g2 22 (by decide) (by decide) (by decide), h1]
  · subst e
    obtain ⟨s1, g1, g2, g3⟩ := co_19_30 (σ := σ)
    refine ⟨pf s1 22 2 (nI m), ?_, fun p a b c d => (pf_ne a).trans (g2 p b c d), fun g hg => (g3 g hg).same (pf_ne (by decide)) (pf_ne (by decide)) (pf_ne (by decide)), pf_same, ?_⟩
    · rw [if_neg (by decide), if_neg (by decide), if_pos (by decide), g1, bnd_ok, g2 22 (by decide) (by decide) (by decide), h2, nI_pred, nm_ok]
    · rw [pf_nk (by decide), g2 22 (by decide) (by decide) (by decide), h1]
  · subst e
    obtain ⟨s1, g1, g2, g3⟩ := co_19_33 (σ := σ)
    refine ⟨pf s1 22 2 (nI m), ?_, fun p a b c d => (pf_ne a).trans (g2 p b c d), fun g hg => (g3 g hg).same (pf_ne (by decide)) (pf_ne (by decide)) (pf_ne (by decide)), pf_same, ?_⟩
    · rw [if_neg (by decide), if_neg (by decide), if_neg (by decide), if_pos (by decide), g1, bnd_ok, g2 22 (by decide) (by decide) (by decide), h2, nI_pred, nm_ok]
    · rw [pf_nk (by decide), g2 22 (by decide) (by decide) (by decide), h1]
  · subst e
    obtain ⟨s1, g1, g2, g3⟩ := co_19_36 (σ := σ)
    refine ⟨pf s1 22 2 (nI m), ?_, fun p a b c d => (pf_ne a).trans (g2 p b c d), fun g hg => (g3 g hg).same (pf_ne (by decide)) (pf_ne (by decide)) (pf_ne (by decide)), pf_same, ?_⟩
    · rw [if_neg (by decide), if_neg (by decide), if_neg (by decide), if_neg (by decide), if_pos (by decide), g1, bnd_ok, g2 22 (by decide) (by decide) (by decide), h2, nI_pred, nm_ok]
    · rw [pf_nk (by decide), g2 22 (by decide) (by decide) (by decide), h1]
  · subst e
    obtain ⟨s1, g1, g2, g3⟩ := co_19_39 (σ := σ)
    refine ⟨pf s1 22 2 (nI m), ?_, fun p a b c d => (pf_ne a).trans (g2 p b c d), fun g hg => (g3 g hg).same (pf_ne (by decide)) (pf_ne (by decide)) (pf_ne (by decide)), pf_same, ?_⟩
    · rw [if_neg (by decide), if_neg (by decide), if_neg (by decide), if_neg (by decide), if_neg (by decide), if_pos (by decide), g1, bnd_ok, g2 22 (by decide) (by decide) (by decide), h2, nI_pred, nm_ok]
    · rw [pf_nk (by decide), g2 22 (by decide) (by decide) (by decide), h1]
  · subst e
    obtain ⟨s1, g1, g2, g3⟩ := co_19_42 (σ := σ)
    refine ⟨pf s1 22 2 (nI m), ?_, fun p a b c d => (pf_ne a).trans (g2 p b c d), fun g hg => (g3 g hg).same (pf_ne (by decide)) (pf_ne (by decide)) (pf_ne (by decide)), pf_same, ?_⟩
    · rw [if_neg (by decide), if_neg (by decide), if_neg (by decide), if_neg (by decide), if_neg (by decide), if_neg (by decide), if_pos (by decide), g1, bnd_ok, g2 22 (by decide) (by decide) (by decide), h2, nI_pred, nm_ok]
    · rw [pf_nk (by decide), g2 22 (by decide) (by decide) (by decide), h1]
  · subst e
    obtain ⟨s1, g1, g2, g3⟩ := co_19_45 (σ := σ)
    refine ⟨pf s1 22 2 (nI m), ?_, fun p a b c d => (pf_ne a).trans (g2 p b c d), fun g hg => (g3 g hg).same (pf_ne (by decide)) (pf_ne (by decide)) (pf_ne (by decide)), pf_same, ?_⟩
    · rw [if_neg (by decide), if_neg (by decide), if_neg (by decide), if_neg (by decide), if_neg (by decide), if_neg (by decide), if_neg (by decide), if_pos (by decide), g1, bnd_ok, g2 22 (by decide) (by decide) (by decide), h2, nI_pred, nm_ok]
    · rw [pf_nk (by decide), g2 22 (by decide) (by decide) (by decide), h1]
theorem N_pop48 {σ : St} {lw m : Nat} (h1 : σ 48 1 = nI lw) (h2 : σ 48 2 = nI (m + 1)) (hs : lw + m < 2 ^ 30) : ∃ σ', f_X5_popInto__48_19 σ = some (1, σ') ∧ (∀ p, p ≠ 48 → p ≠ 19 → p ≠ 20 → p ≠ 21 → σ' p = σ p) ∧ (∀ g, SNt σ (50 + 3 * ((lw + m) % 2)) g → SNt σ' 19 g) ∧ σ' 48 2 = nI m ∧ σ' 48 1 = nI lw := by
  have hq : (lw + m) % 2 < 2 := Nat.mod_lt _ (by decide)
  have hp := N_placeOf48 (m := m) h1 (by omega)
  have h0 : ¬ σ 48 2 = 0 := by rw [h2]; exact nI_ne0 (by omega) (by omega)
  unfold f_X5_popInto__48_19
  rw [if_neg h0, h2, nI_pred, hp, bnd_ok]
  generalize (lw + m) % 2 = q at hq
  have : q = 0 ∨ q = 1 := by omega
  rcases this with e | e
  · subst e
    obtain ⟨s1, g1, g2, g3⟩ := co_19_50 (σ := σ)
    refine ⟨pf s1 48 2 (nI m), ?_, fun p a b c d => (pf_ne a).trans (g2 p b c d), fun g hg => (g3 g hg).same (pf_ne (by decide)) (pf_ne (by decide)) (pf_ne (by decide)), pf_same, ?_⟩
    · rw [if_pos (by decide), g1, bnd_ok, g2 48 (by decide) (by decide) (by decide), h2, nI_pred, nm_ok]
    · rw [pf_nk (by decide), g2 48 (by decide) (by decide) (by decide), h1]
  · subst e
    obtain ⟨s1, g1, g2, g3⟩ := co_19_53 (σ := σ)
    refine ⟨pf s1 48 2 (nI m), ?_, fun p a b c d => (pf_ne a).trans (g2 p b c d), fun g hg => (g3 g hg).same (pf_ne (by decide)) (pf_ne (by decide)) (pf_ne (by decide)), pf_same, ?_⟩
    · rw [if_neg (by decide), if_pos (by decide), g1, bnd_ok, g2 48 (by decide) (by decide) (by decide), h2, nI_pred, nm_ok]
    · rw [pf_nk (by decide), g2 48 (by decide) (by decide) (by decide), h1]
