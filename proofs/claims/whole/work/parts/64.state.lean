/-! a related pair put together again -/
def muw (μ : Mu) (a ke se le : Nat) (f6 f8 f9 f10 f11 : Nat → Nat) : Mu := fun p =>
  if p = 0 then (fun j => if j = 5 then a else if j = 6 then ke else if j = 7 then se else if j = 8 then le else μ 0 j)
  else if p = 6 then f6 else if p = 8 then f8 else if p = 9 then f9 else if p = 10 then f10 else if p = 11 then f11 else μ p
def TNp (σ : St) (le : Nat) (f11 : Nat → Nat) : Prop := σ 1 1 = nI le ∧ ∀ i, i < le → σ 2 i = nI (f11 i)
def UNp (k : Nat) (σ : St) (a : Nat) (f8 : Nat → Nat) : Prop := σ 22 2 = nI a ∧ ∃ lw, lw ≤ k ∧ σ 22 1 = nI lw ∧ ∀ i, i < a → SNt σ (24 + 3 * ((lw + i) % 8)) (fun j => f8 (22 * i + j))
def KNp (σ : St) (ke : Nat) (f9 : Nat → Nat) : Prop := σ 48 2 = nI ke ∧ σ 48 1 = nI 0 ∧ ∀ i, i < ke → SNt σ (50 + 3 * i) (fun j => f9 (22 * i + j))
def VNp (σ : St) (se : Nat) (f10 : Nat → Nat) : Prop := σ 62 6 = nI se ∧ ∀ i, i < se → σ 63 i = nI (f10 (4 * i)) ∧ σ 64 i = nI (f10 (4 * i + 1)) ∧ σ 65 i = nI (f10 (4 * i + 2)) ∧ σ 66 i = nI (f10 (4 * i + 3))
def MPp (τ : St) (a ke se le : Nat) (f6 f8 f9 f10 f11 : Nat → Nat) : Prop := (τ 0 9 = nI a ∧ τ 0 11 = nI ke ∧ τ 0 13 = nI se ∧ τ 0 16 = nI le) ∧ (∀ j, j < 22 → τ 4 j = nI (f6 j)) ∧ (∀ j, j < 22 * a → τ 5 j = nI (f8 j)) ∧ (∀ j, j < 22 * ke → τ 6 j = nI (f9 j)) ∧ (∀ j, j < 4 * se → τ 7 j = nI (f10 j)) ∧ ∀ j, j < le → τ 8 j = nI (f11 j)
theorem Rel.mk' {k : Nat} {σ τ : St} {μ : Mu} {a ke se le : Nat} {f6 f8 f9 f10 f11 : Nat → Nat} (hw : WP μ) (h6 : ENT k μ f6) (ha : a ≤ 8) (h8 : ∀ i, i < a → ENT k μ (fun j => f8 (22 * i + j))) (hke : ke ≤ 2) (h9 : ∀ i, i < ke → ENT k μ (fun j => f9 (22 * i + j))) (hse : se ≤ 6) (h10 : ∀ i, i < se → f10 (4 * i) < mH μ ∧ f10 (4 * i + 1) < mn μ ∧ f10 (4 * i + 2) ≤ 30 ∧ f10 (4 * i + 3) ≤ 1) (hle : le ≤ 200) (h11 : ∀ i, i < le → 32 ≤ f11 i ∧ f11 i ≤ 126) (n1 : TNp σ le f11) (n2 : PN σ 12 μ) (n3 : SNt σ 19 f6) (n4 : UNp k σ a f8) (n5 : KNp σ ke f9) (n6 : VNp σ se f10) (m1 : PM τ μ) (m2 : MPp τ a ke se le f6 f8 f9 f10 f11) : Rel k σ τ :=
  ⟨muw μ a ke se le f6 f8 f9 f10 f11, ⟨hw, h6, ha, h8, hke, h9, hse, h10, hle, h11⟩, ⟨n1, n2, n3, n4, n5, n6⟩, m1, m2⟩
theorem RN.t {k : Nat} {σ : St} {μ : Mu} (h : RN k σ μ) : TNp σ (mle μ) (μ 11) := h.1
theorem RN.u {k : Nat} {σ : St} {μ : Mu} (h : RN k σ μ) : UNp k σ (mac μ) (μ 8) := h.2.2.2.1
theorem RN.k {k : Nat} {σ : St} {μ : Mu} (h : RN k σ μ) : KNp σ (mke μ) (μ 9) := h.2.2.2.2.1
theorem RN.v {k : Nat} {σ : St} {μ : Mu} (h : RN k σ μ) : VNp σ (mse μ) (μ 10) := h.2.2.2.2.2
theorem RM.m {τ : St} {μ : Mu} (h : RM τ μ) : MPp τ (mac μ) (mke μ) (mse μ) (mle μ) (μ 6) (μ 8) (μ 9) (μ 10) (μ 11) := h.2
theorem ENT.up {k : Nat} {μ : Mu} {g : Nat → Nat} (h : ENT k μ g) : ENT (k + 1) μ g := ⟨by have := h.1; omega, h.2⟩
theorem ENT.ext {k : Nat} {μ : Mu} {g g' : Nat → Nat} (h : ENT k μ g) (e : ∀ j, j < 22 → g j = g' j) : ENT k μ g' := ⟨by rw [← e 0 (by decide)]; exact h.1, fun h2 h3 => by rw [← e _ (by omega)]; exact h.2.1 h2 h3, fun n hn => by rw [← e _ (by omega)]; exact h.2.2 n hn⟩
theorem SNt.ext {σ : St} {p : Nat} {g g' : Nat → Nat} (h : SNt σ p g) (e : ∀ j, j < 22 → g j = g' j) : SNt σ p g' := ⟨by rw [← e 0 (by decide)]; exact h.1, fun h2 h3 => by rw [← e _ (by omega)]; exact h.2.1 h2 h3, fun n hn => by rw [← e _ (by omega)]; exact h.2.2 n hn⟩
theorem UNp.up {k : Nat} {σ : St} {a : Nat} {f8 : Nat → Nat} (h : UNp k σ a f8) : UNp (k + 1) σ a f8 := by
  obtain ⟨h1, lw, h2, h3⟩ := h
  exact ⟨h1, lw, by omega, h3⟩
/-- the pieces stand where only other places changed -/
theorem TNp.same {σ σ' : St} {le : Nat} {f : Nat → Nat} (h : TNp σ le f) (h1 : σ' 1 = σ 1) (h2 : σ' 2 = σ 2) : TNp σ' le f := by unfold TNp; rw [h1, h2]; exact h
theorem UNp.same {k : Nat} {σ σ' : St} {a : Nat} {f : Nat → Nat} (h : UNp k σ a f) (hs : ∀ p, 22 ≤ p → p ≤ 47 → σ' p = σ p) : UNp k σ' a f := by
  obtain ⟨h1, lw, h2, h3, h4⟩ := h
  refine ⟨by rw [hs 22 (by decide) (by decide)]; exact h1, lw, h2, by rw [hs 22 (by decide) (by decide)]; exact h3, fun i hi => ?_⟩
  have hm : (lw + i) % 8 < 8 := Nat.mod_lt _ (by decide)
  exact (h4 i hi).same (hs _ (by omega) (by omega)) (hs _ (by omega) (by omega)) (hs _ (by omega) (by omega))
theorem KNp.same {σ σ' : St} {a : Nat} {f : Nat → Nat} (h : KNp σ a f) (ha : a ≤ 2) (hs : ∀ p, 48 ≤ p → p ≤ 55 → σ' p = σ p) : KNp σ' a f := by
  obtain ⟨h1, h3, h4⟩ := h
  exact ⟨by rw [hs 48 (by decide) (by decide)]; exact h1, by rw [hs 48 (by decide) (by decide)]; exact h3, fun i hi => (h4 i hi).same (hs _ (by omega) (by omega)) (hs _ (by omega) (by omega)) (hs _ (by omega) (by omega))⟩
theorem VNp.same {σ σ' : St} {a : Nat} {f : Nat → Nat} (h : VNp σ a f) (hs : ∀ p, 62 ≤ p → p ≤ 66 → σ' p = σ p) : VNp σ' a f := by
  unfold VNp; rw [hs 62 (by decide) (by decide), hs 63 (by decide) (by decide), hs 64 (by decide) (by decide), hs 65 (by decide) (by decide), hs 66 (by decide) (by decide)]; exact h
theorem PN.eq {σ σ' : St} {μ : Mu} (h : PN σ 12 μ) (hs : ∀ p, 12 ≤ p → p ≤ 18 → p ≠ 14 → σ' p = σ p) : PN σ' 12 μ := by
  unfold PN at h ⊢
  rw [hs 12 (by decide) (by decide) (by decide), hs 13 (by decide) (by decide) (by decide), hs 15 (by decide) (by decide) (by decide), hs 16 (by decide) (by decide) (by decide), hs 17 (by decide) (by decide) (by decide), hs 18 (by decide) (by decide) (by decide)]; exact h
theorem PM.eq {τ τ' : St} {μ : Mu} (h : PM τ μ) (h0 : ∀ j, j = 0 ∨ j = 1 ∨ j = 2 ∨ j = 4 ∨ j = 6 → τ' 0 j = τ 0 j) (hs : ∀ p, 1 ≤ p → p ≤ 3 → τ' p = τ p) : PM τ' μ := by
  unfold PM at h ⊢
  rw [h0 0 (by omega), h0 1 (by omega), h0 2 (by omega), h0 4 (by omega), h0 6 (by omega), hs 1 (by decide) (by decide), hs 2 (by decide) (by decide), hs 3 (by decide) (by decide)]; exact h
/-! write, wipe, forget, see -/
theorem st_write {k : Nat} {σ τ : St} (h : Rel k σ τ) (hk : k < 64) (x1 : Int32) : ST2 k (f_X10_write__0 σ x1) (f_X11_write__0 τ x1) := by
  obtain ⟨μ, hf, hn, hm⟩ := id h
  obtain ⟨w1, w2, w3, w4, w5, w6, w7, w8, w9, w10⟩ := hf
  unfold f_X10_write__0 f_X11_write__0
  rcases both_in (A := 32) (B := 126) 32 126 (by decide) (by decide) rfl rfl σ τ x1 with ⟨a, a1, a2, rfl, aN, aM⟩ | ⟨aN, aM⟩
  rotate_left
  · exact st_bad h (r := -1) (by simp only [aN, bnd_ok, c00, if_true]) (by simp only [aM, bnd_ok, c00, if_true])
  rw [aN, aM, bnd_ok, bnd_ok, if_neg n10, if_neg n10]
  have hl : σ 1 1 = nI (mle μ) := hn.1.1
  have hl2 : τ 0 16 = nI (mle μ) := hm.2.1.2.2.2
  have q1 : (nI (mle μ) < (200 : Int32)) = (mle μ < 200) := propext (nI_ltI (b := 200) (by omega) (by decide))
  have q2 : (nI (mle μ) = (200 : Int32)) = (mle μ = 200) := nI_eqB (b := 200) (by omega) (by decide)
  unfold f_X7_add__1
  rw [hl, hl2]
  by_cases c : mle μ = 200
  · have c2 : ¬ mle μ < 200 := by omega
    simp only [q1, q2, if_pos c, if_neg c2, bnd_ok, c00, if_true]
    exact st_bad h rfl rfl
  · have c2 : mle μ < 200 := by omega
    simp only [q1, q2, if_neg c, if_pos c2, put_2 c2, bnd_ok, nm_ok, c10, if_false, f_X7_length__1, gd_nI c2 (show 200 < 2 ^ 31 by decide), pf_same]
    have e1 : ps σ 2 (nI (mle μ)) (nI a) 1 1 = nI (mle μ) := by rw [ps_ne (by decide)]; exact hl
    have e2 : ps τ 8 (nI (mle μ)) (nI a) 0 16 = nI (mle μ) := by rw [ps_ne (by decide)]; exact hl2
    rw [e1, e2, nI_1]
    refine ⟨_, _, _, rfl, rfl, ?_⟩
    obtain ⟨m2, m3, m4, m5, m6, m7⟩ := hm.m
    refine Rel.mk' (μ := μ) (a := mac μ) (ke := mke μ) (se := mse μ) (le := mle μ + 1) (f6 := μ 6) (f8 := μ 8) (f9 := μ 9) (f10 := μ 10) (f11 := fun j => if j = mle μ then a else μ 11 j) w1 w2.up w3 (fun i hi => (w4 i hi).up) w5 (fun i hi => (w6 i hi).up) w7 w8 (by omega) (fun i hi => ?_) ⟨pf_same, fun i hi => ?_⟩ ?_ ?_ ?_ ?_ ?_ ?_ ⟨⟨?_, ?_, ?_, pf_same⟩, fun j hj => ?_, fun j hj => ?_, fun j hj => ?_, fun j hj => ?_, fun j hj => ?_⟩
    · by_cases e : i = mle μ
      · simp only [e, if_true]; omega
      · simp only [e, if_false]; exact w10 i (by omega)
    · rw [pf_ne (by decide)]
      by_cases e : i = mle μ
      · subst e; rw [ps_same (by omega)]; simp
      · rw [ps_nk (by omega) e, hn.1.2 i (by omega)]; simp [e]
    · exact hn.2.1.eq (fun p h1 h2 _ => by rw [pf_ne (by omega), ps_ne (by omega)])
    · exact hn.2.2.1.same (by rw [pf_ne (by omega), ps_ne (by omega)]) (by rw [pf_ne (by omega), ps_ne (by omega)]) (by rw [pf_ne (by omega), ps_ne (by omega)])
    · exact hn.u.up.same (fun p h1 h2 => by rw [pf_ne (by omega), ps_ne (by omega)])
    · exact hn.k.same w5 (fun p h1 h2 => by rw [pf_ne (by omega), ps_ne (by omega)])
    · exact hn.v.same (fun p h1 h2 => by rw [pf_ne (by omega), ps_ne (by omega)])
    · exact hm.1.eq (fun j hj => by rw [pf_nk (by omega), ps_ne (by omega)]) (fun p h1 h2 => by rw [pf_ne (by omega), ps_ne (by omega)])
    · rw [pf_nk (by decide), ps_ne (by decide)]; exact m2.1
    · rw [pf_nk (by decide), ps_ne (by decide)]; exact m2.2.1
    · rw [pf_nk (by decide), ps_ne (by decide)]; exact m2.2.2.1
    · rw [pf_ne (by decide), ps_ne (by decide)]; exact m3 j hj
    · rw [pf_ne (by decide), ps_ne (by decide)]; exact m4 j hj
    · rw [pf_ne (by decide), ps_ne (by decide)]; exact m5 j hj
    · rw [pf_ne (by decide), ps_ne (by decide)]; exact m6 j hj
    · rw [pf_ne (by decide)]
      by_cases e : j = mle μ
      · subst e; rw [ps_same (by omega)]; simp
      · rw [ps_nk (by omega) e, m7 j (by omega)]; simp [e]
theorem st_wipe {k : Nat} {σ τ : St} (h : Rel k σ τ) (hk : k < 64) : ST2 k (f_X10_wipe__0 σ) (f_X11_wipe__0 τ) := by
  obtain ⟨μ, hf, hn, hm⟩ := id h
  obtain ⟨w1, w2, w3, w4, w5, w6, w7, w8, w9, w10⟩ := hf
  have hl : σ 1 1 = nI (mle μ) := hn.1.1
  have hl2 : τ 0 16 = nI (mle μ) := hm.2.1.2.2.2
  simp only [f_X10_wipe__0, f_X11_wipe__0, f_X7_length__1, f_X7_clear__1, bnd_ok, nm_ok, hl, hl2]
  refine ⟨_, _, _, rfl, rfl, ?_⟩
  obtain ⟨m2, m3, m4, m5, m6, m7⟩ := hm.m
  refine Rel.mk' (μ := μ) (a := mac μ) (ke := mke μ) (se := mse μ) (le := 0) (f6 := μ 6) (f8 := μ 8) (f9 := μ 9) (f10 := μ 10) (f11 := μ 11) w1 w2.up w3 (fun i hi => (w4 i hi).up) w5 (fun i hi => (w6 i hi).up) w7 w8 (by omega) (fun i hi => by omega) ⟨pf_same, fun i hi => by omega⟩ ?_ ?_ ?_ ?_ ?_ ?_ ⟨⟨?_, ?_, ?_, pf_same⟩, fun j hj => ?_, fun j hj => ?_, fun j hj => ?_, fun j hj => ?_, fun j hj => by omega⟩
  · exact hn.2.1.eq (fun p h1 h2 _ => by rw [pf_ne (by omega)])
  · exact hn.2.2.1.same (pf_ne (by omega)) (pf_ne (by omega)) (pf_ne (by omega))
  · exact hn.u.up.same (fun p h1 h2 => pf_ne (by omega))
  · exact hn.k.same w5 (fun p h1 h2 => pf_ne (by omega))
  · exact hn.v.same (fun p h1 h2 => pf_ne (by omega))
  · exact hm.1.eq (fun j hj => pf_nk (by omega)) (fun p h1 h2 => pf_ne (by omega))
  · rw [pf_nk (by decide)]; exact m2.1
  · rw [pf_nk (by decide)]; exact m2.2.1
  · rw [pf_nk (by decide)]; exact m2.2.2.1
  · rw [pf_ne (by decide)]; exact m3 j hj
  · rw [pf_ne (by decide)]; exact m4 j hj
  · rw [pf_ne (by decide)]; exact m5 j hj
  · rw [pf_ne (by decide)]; exact m6 j hj
theorem st_forget {k : Nat} {σ τ : St} (h : Rel k σ τ) (hk : k < 64) : ST2 k (f_X10_forget__0 σ) (f_X11_forget__0 τ) := by
  obtain ⟨μ, hf, hn, hm⟩ := id h
  obtain ⟨w1, w2, w3, w4, w5, w6, w7, w8, w9, w10⟩ := hf
  have hl : σ 62 6 = nI (mse μ) := hn.v.1
  have hl2 : τ 0 13 = nI (mse μ) := hm.2.1.2.2.1
  simp only [f_X10_forget__0, f_X11_forget__0, f_X8_size__62, f_X8_clear__62, bnd_ok, nm_ok, hl, hl2]
  refine ⟨_, _, _, rfl, rfl, ?_⟩
  obtain ⟨m2, m3, m4, m5, m6, m7⟩ := hm.m
  refine Rel.mk' (μ := μ) (a := mac μ) (ke := mke μ) (se := 0) (le := mle μ) (f6 := μ 6) (f8 := μ 8) (f9 := μ 9) (f10 := μ 10) (f11 := μ 11) w1 w2.up w3 (fun i hi => (w4 i hi).up) w5 (fun i hi => (w6 i hi).up) (by omega) (fun i hi => by omega) w9 w10 ?_ ?_ ?_ ?_ ?_ ⟨pf_same, fun i hi => by omega⟩ ?_ ⟨⟨?_, ?_, pf_same, ?_⟩, fun j hj => ?_, fun j hj => ?_, fun j hj => ?_, fun j hj => by omega, fun j hj => ?_⟩
  · exact hn.t.same (pf_ne (by omega)) (pf_ne (by omega))
  · exact hn.2.1.eq (fun p h1 h2 _ => pf_ne (by omega))
  · exact hn.2.2.1.same (pf_ne (by omega)) (pf_ne (by omega)) (pf_ne (by omega))
  · exact hn.u.up.same (fun p h1 h2 => pf_ne (by omega))
  · exact hn.k.same w5 (fun p h1 h2 => pf_ne (by omega))
  · exact hm.1.eq (fun j hj => pf_nk (by omega)) (fun p h1 h2 => pf_ne (by omega))
  · rw [pf_nk (by decide)]; exact m2.1
  · rw [pf_nk (by decide)]; exact m2.2.1
  · rw [pf_nk (by decide)]; exact m2.2.2.2
  · rw [pf_ne (by decide)]; exact m3 j hj
  · rw [pf_ne (by decide)]; exact m4 j hj
  · rw [pf_ne (by decide)]; exact m5 j hj
  · rw [pf_ne (by decide)]; exact m7 j hj
