/-! what calls leave as it is -/
def scrN (p : Nat) : Bool := decide (p = 3) || decide (p = 4) || (decide (5 ≤ p) && decide (p ≤ 11)) || decide (p = 14) || decide (p = 56) || decide (p = 57) || decide (p = 58) || decide (p = 60) || decide (p = 61)
def sameN (σ σ' : St) : Prop := ∀ p, scrN p = false → σ' p = σ p
def keepM (j : Nat) : Bool := decide (j = 0) || decide (j = 1) || decide (j = 2) || decide (j = 4) || decide (j = 6) || decide (j = 9) || decide (j = 11) || decide (j = 13) || decide (j = 16)
def sameM (τ τ' : St) : Prop := (∀ p, 1 ≤ p → p ≤ 8 → τ' p = τ p) ∧ ∀ j, keepM j = true → τ' 0 j = τ 0 j
theorem sameN.rf {σ : St} : sameN σ σ := fun _ _ => rfl
theorem sameM.rf {τ : St} : sameM τ τ := ⟨fun _ _ _ => rfl, fun _ _ => rfl⟩
theorem sameN.tr {a b c : St} (h : sameN a b) (h2 : sameN b c) : sameN a c := fun p hp => (h2 p hp).trans (h p hp)
theorem sameM.tr {a b c : St} (h : sameM a b) (h2 : sameM b c) : sameM a c := ⟨fun p h1 h3 => (h2.1 p h1 h3).trans (h.1 p h1 h3), fun j hj => (h2.2 j hj).trans (h.2 j hj)⟩
theorem SNt.same {σ σ' : St} {p : Nat} {g : Nat → Nat} (h : SNt σ p g) (h0 : σ' p = σ p) (h1 : σ' (p + 1) = σ (p + 1)) (h2 : σ' (p + 2) = σ (p + 2)) : SNt σ' p g := by
  unfold SNt; rw [h0, h1, h2]; exact h
theorem PN.same {σ σ' : St} {μ : Mu} (h : PN σ 12 μ) (hs : sameN σ σ') : PN σ' 12 μ := by
  unfold PN at h ⊢
  rw [hs 12 rfl, hs 13 rfl, hs 15 rfl, hs 16 rfl, hs 17 rfl, hs 18 rfl]; exact h
theorem RN.same {k : Nat} {σ σ' : St} {μ : Mu} (h : RN k σ μ) (hke : mke μ ≤ 2) (hs : sameN σ σ') : RN k σ' μ := by
  obtain ⟨h1, h2, h3, ⟨u1, lw, u2, u3, u4⟩, ⟨k1, k2, k3⟩, h6⟩ := h
  have hp : ∀ p, 15 ≤ p → p ≤ 55 → σ' p = σ p := fun p a b => hs p (by unfold scrN; simp; omega)
  refine ⟨?_, h2.same hs, h3.same (hp 19 (by decide) (by decide)) (hp 20 (by decide) (by decide)) (hp 21 (by decide) (by decide)), ⟨by rw [hp 22 (by decide) (by decide)]; exact u1, lw, u2, by rw [hp 22 (by decide) (by decide)]; exact u3, fun i hi => ?_⟩, ⟨by rw [hp 48 (by decide) (by decide)]; exact k1, by rw [hp 48 (by decide) (by decide)]; exact k2, fun i hi => ?_⟩, ?_⟩
  · unfold TN at h1 ⊢; rw [hs 1 rfl, hs 2 rfl]; exact h1
  · have hm : (lw + i) % 8 < 8 := Nat.mod_lt _ (by decide)
    exact (u4 i hi).same (hp _ (by omega) (by omega)) (hp _ (by omega) (by omega)) (hp _ (by omega) (by omega))
  · exact (k3 i hi).same (hp _ (by omega) (by omega)) (hp _ (by omega) (by omega)) (hp _ (by omega) (by omega))
  · unfold VN at h6 ⊢; rw [hs 62 rfl, hs 63 rfl, hs 64 rfl, hs 65 rfl, hs 66 rfl]; exact h6
theorem PM.same {τ τ' : St} {μ : Mu} (h : PM τ μ) (hs : sameM τ τ') : PM τ' μ := by
  unfold PM at h ⊢
  rw [hs.2 0 rfl, hs.2 1 rfl, hs.2 2 rfl, hs.2 4 rfl, hs.2 6 rfl, hs.1 1 (by decide) (by decide), hs.1 2 (by decide) (by decide), hs.1 3 (by decide) (by decide)]; exact h
theorem RM.same {τ τ' : St} {μ : Mu} (h : RM τ μ) (hs : sameM τ τ') : RM τ' μ := by
  obtain ⟨h1, h2, h3⟩ := h
  refine ⟨h1.same hs, ?_, ?_⟩
  · rw [hs.2 9 rfl, hs.2 11 rfl, hs.2 13 rfl, hs.2 16 rfl]; exact h2
  · rw [hs.1 4 (by decide) (by decide), hs.1 5 (by decide) (by decide), hs.1 6 (by decide) (by decide), hs.1 7 (by decide) (by decide), hs.1 8 (by decide) (by decide)]; exact h3
theorem Rel.mono {k : Nat} {σ τ : St} (h : Rel k σ τ) : Rel (k + 1) σ τ := by
  obtain ⟨μ, ⟨h1, h2, h3, h4, h5, h6, h7⟩, ⟨g1, g2, g3, ⟨u1, lw, u2, u3⟩, g5⟩, h9⟩ := h
  have key : ∀ g : Nat → Nat, ENT k μ g → ENT (k + 1) μ g := fun g q => ⟨by have := q.1; omega, q.2⟩
  exact ⟨μ, ⟨h1, key _ h2, h3, fun i hi => key _ (h4 i hi), h5, fun i hi => key _ (h6 i hi), h7⟩, ⟨g1, g2, g3, ⟨u1, lw, by omega, u3⟩, g5⟩, h9⟩
/-- a call that changes nothing that is told -/
theorem st_same {k : Nat} {σ τ : St} (h : Rel k σ τ) {oN oM : Ot} {r : Int32} {σ' τ' : St} (hN : oN = some (r, σ')) (hM : oM = some (r, τ')) (h1 : sameN σ σ') (h2 : sameM τ τ') : ST2 k oN oM := by
  obtain ⟨μ, a, b, c⟩ := h
  exact ⟨r, σ', τ', hN, hM, Rel.mono ⟨μ, a, b.same a.2.2.2.2.1 h1, c.same h2⟩⟩
