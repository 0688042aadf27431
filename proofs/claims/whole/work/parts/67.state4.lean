/-! keep, back, undo, and what is remembered -/
def appF (f g : Nat → Nat) (m : Nat) : Nat → Nat := fun j => if j < 22 * m then f j else g (j - 22 * m)
theorem appL {f g : Nat → Nat} {m j : Nat} (h : j < 22 * m) : appF f g m j = f j := if_pos h
theorem appR {f g : Nat → Nat} {m j : Nat} : appF f g m (22 * m + j) = g j := by
  unfold appF; rw [if_neg (by omega)]; congr 1; omega
theorem st_keep {k : Nat} {σ τ : St} (h : Rel k σ τ) (hk : k < 64) : ST2 k (f_X10_keep__0 σ) (f_X11_keep__0 τ) := by
  obtain ⟨μ, hf, hn, hm⟩ := id h
  obtain ⟨w1, w2, w3, w4, w5, w6, w7, w8, w9, w10⟩ := hf
  obtain ⟨k1, k2, k3⟩ := hn.k
  obtain ⟨m2, m3, m4, m5, m6, m7⟩ := hm.m
  have q : (nI (mke μ) = (2 : Int32)) = (mke μ = 2) := nI_eqB (b := 2) (by omega) (by decide)
  unfold f_X10_keep__0 f_X11_keep__0 f_X5_isFull__48
  rw [k1, m2.2.1]
  by_cases c : mke μ = 2
  · simp only [q, if_pos c, bnd_ok, c10, if_false]
    exact st_bad h rfl rfl
  · have hm1 : mke μ ≤ 1 := by omega
    obtain ⟨s, e1, e2, e3, e4, e5⟩ := N_push48 (σ := σ) (lw := 0) (m := mke μ) k2 k1 hm1 (by omega)
    have hpl : 50 + 3 * ((0 + mke μ) % 2) = 50 + 3 * mke μ := by omega
    rw [hpl] at e2 e3
    obtain ⟨t, g1, g2, g3, g4⟩ := cp_6_4 (τ := τ) (a := 22 * mke μ) (b := 0) (n := 22) (by omega) (by decide)
    have g1' : f_X11_copies__6_4 τ (nI (22 * mke μ)) 0 22 = some (0, t) := g1
    have h22 : (22 : Int32) * nI (mke μ) = nI (22 * mke μ) := pk_mul 22 _
    have ht : t 0 11 = nI (mke μ) := by rw [g2 0 (by decide)]; exact m2.2.1
    rw [if_neg c] at e4 e5
    simp only [q, if_neg c, bnd_ok, c00, if_true, e1, h22, g1', nm_ok, ht, nI_1, f_X5_size__48, e4, pf_same]
    refine ⟨_, _, _, rfl, rfl, ?_⟩
    refine Rel.mk' (μ := μ) (a := mac μ) (ke := mke μ + 1) (se := mse μ) (le := mle μ) (f6 := μ 6) (f8 := μ 8) (f9 := appF (μ 9) (μ 6) (mke μ)) (f10 := μ 10) (f11 := μ 11) w1 w2.up w3 (fun i hi => (w4 i hi).up) (by omega) (fun i hi => ?_) w7 w8 w9 w10 ?_ ?_ ?_ ?_ ⟨e4, e5, fun i hi => ?_⟩ ?_ ?_ ⟨⟨?_, pf_same, ?_, ?_⟩, fun x hx => ?_, fun x hx => ?_, fun x hx => ?_, fun x hx => ?_, fun x hx => ?_⟩
    · by_cases e : i = mke μ
      · subst e; exact w2.up.ext (fun j _ => appR.symm)
      · exact (w6 i (by omega)).up.ext (fun j hj => (appL (by omega)).symm)
    · exact hn.t.same (e2 _ (by omega) (by omega) (by omega) (by omega)) (e2 _ (by omega) (by omega) (by omega) (by omega))
    · exact hn.2.1.eq (fun p h1 h2 _ => e2 _ (by omega) (by omega) (by omega) (by omega))
    · exact hn.2.2.1.same (e2 _ (by omega) (by omega) (by omega) (by omega)) (e2 _ (by omega) (by omega) (by omega) (by omega)) (e2 _ (by omega) (by omega) (by omega) (by omega))
    · exact hn.u.up.same (fun p h1 h2 => e2 _ (by omega) (by omega) (by omega) (by omega))
    · by_cases e : i = mke μ
      · subst e; exact (e3 _ hn.2.2.1).ext (fun j _ => appR.symm)
      · exact ((k3 i (by omega)).ext (fun j hj => (appL (by omega)).symm)).same (e2 _ (by omega) (by omega) (by omega) (by omega)) (e2 _ (by omega) (by omega) (by omega) (by omega)) (e2 _ (by omega) (by omega) (by omega) (by omega))
    · exact hn.v.same (fun p h1 h2 => e2 _ (by omega) (by omega) (by omega) (by omega))
    · exact hm.1.eq (fun x hx => by rw [pf_nk (by omega), g2 0 (by decide)]) (fun p h1 h2 => by rw [pf_ne (by omega), g2 p (by omega)])
    · rw [pf_nk (by decide), g2 0 (by decide)]; exact m2.1
    · rw [pf_nk (by decide), g2 0 (by decide)]; exact m2.2.2.1
    · rw [pf_nk (by decide), g2 0 (by decide)]; exact m2.2.2.2
    · rw [pf_ne (by decide), g2 _ (by decide)]; exact m3 x hx
    · rw [pf_ne (by decide), g2 _ (by decide)]; exact m4 x hx
    · rw [pf_ne (by decide)]
      rcases Nat.lt_or_ge x (22 * mke μ) with hx1 | hx1
      · rw [g4 x (Or.inl hx1), appL hx1]; exact m5 x hx1
      · have := g3 (x - 22 * mke μ) (by omega)
        rw [show 22 * mke μ + (x - 22 * mke μ) = x by omega, Nat.zero_add] at this
        rw [this, m3 _ (by omega)]
        unfold appF
        rw [if_neg (by omega)]
    · rw [pf_ne (by decide), g2 _ (by decide)]; exact m6 x hx
    · rw [pf_ne (by decide), g2 _ (by decide)]; exact m7 x hx
theorem st_back {k : Nat} {σ τ : St} (h : Rel k σ τ) (hk : k < 64) : ST2 k (f_X10_back__0 σ) (f_X11_back__0 τ) := by
  obtain ⟨μ, hf, hn, hm⟩ := id h
  obtain ⟨w1, w2, w3, w4, w5, w6, w7, w8, w9, w10⟩ := hf
  obtain ⟨k1, k2, k3⟩ := hn.k
  obtain ⟨m2, m3, m4, m5, m6, m7⟩ := hm.m
  unfold f_X10_back__0 f_X11_back__0
  rw [m2.2.1]
  rcases Nat.eq_zero_or_pos (mke μ) with c | c
  · rw [c] at k1
    rw [c, if_pos nI_0]
    refine st_bad h (r := -2) ?_ rfl
    unfold f_X5_popInto__48_19
    rw [k1, if_pos nI_0, bnd_ok, if_pos rfl]
  · obtain ⟨m, hmm⟩ : ∃ m, mke μ = m + 1 := ⟨mke μ - 1, by omega⟩
    rw [hmm] at k1 k3 m2 m5 w5 w6
    obtain ⟨s, e1, e2, e3, e4, e5⟩ := N_pop48 (σ := σ) (lw := 0) (m := m) k2 k1 (by omega)
    have hpl : 50 + 3 * ((0 + m) % 2) = 50 + 3 * m := by omega
    rw [hpl] at e3
    obtain ⟨t, g1, g2, g3, g4⟩ := cp_4_6 (τ := pf τ 0 11 (nI m)) (a := 0) (b := 22 * m) (n := 22) (by decide) (by omega)
    have g1' : f_X11_copies__4_6 (pf τ 0 11 (nI m)) 0 (nI (22 * m)) 22 = some (0, t) := g1
    have h22 : (22 : Int32) * nI m = nI (22 * m) := pk_mul 22 _
    have ht : t 0 11 = nI m := by rw [g2 0 (by decide), pf_same]
    have hpred : nI (m + 1) - 1 = nI m := nI_pred m
    rw [hmm, if_neg (nI_ne0 (by omega) (by omega)), hpred, nm_ok, pf_same, h22, g1', bnd_ok, nm_ok, e1, bnd_ok, if_neg n10]
    unfold f_X5_clear__22 f_X5_size__48
    rw [nm_ok, bnd_ok, bnd_ok]
    have r1 : (pf s 22 2 0) 48 2 = nI m := by rw [pf_ne (by decide), e4]
    have r2 : (pf t 0 9 0) 0 11 = nI m := by rw [pf_nk (by decide), ht]
    rw [r1, r2]
    refine ⟨nI m, _, _, rfl, rfl, ?_⟩
    refine Rel.mk' (μ := μ) (a := 0) (ke := m) (se := mse μ) (le := mle μ) (f6 := fun j => μ 9 (22 * m + j)) (f8 := μ 8) (f9 := μ 9) (f10 := μ 10) (f11 := μ 11) w1 (w6 m (by omega)).up (by omega) (fun i hi => by omega) (by omega) (fun i hi => (w6 i (by omega)).up) w7 w8 w9 w10 ?_ ?_ ?_ ⟨pf_same, ?_⟩ ⟨?_, ?_, fun i hi => ?_⟩ ?_ ?_ ⟨⟨pf_same, ?_, ?_, ?_⟩, fun x hx => ?_, fun x hx => by omega, fun x hx => ?_, fun x hx => ?_, fun x hx => ?_⟩
    · exact hn.t.same (by rw [pf_ne (by decide), e2 _ (by decide) (by decide) (by decide) (by decide)]) (by rw [pf_ne (by decide), e2 _ (by decide) (by decide) (by decide) (by decide)])
    · exact hn.2.1.eq (fun p h1 h2 _ => by rw [pf_ne (by omega), e2 _ (by omega) (by omega) (by omega) (by omega)])
    · exact (e3 _ (k3 m (by omega))).same (pf_ne (by decide)) (pf_ne (by decide)) (pf_ne (by decide))
    · obtain ⟨-, lw, l1, l2, -⟩ := hn.u
      exact ⟨lw, by omega, by rw [pf_nk (by decide), e2 _ (by decide) (by decide) (by decide) (by decide)]; exact l2, fun i hi => by omega⟩
    · rw [pf_ne (by decide)]; exact e4
    · rw [pf_ne (by decide)]; exact e5
    · exact (k3 i (by omega)).same (by rw [pf_ne (by omega), e2 _ (by omega) (by omega) (by omega) (by omega)]) (by rw [pf_ne (by omega), e2 _ (by omega) (by omega) (by omega) (by omega)]) (by rw [pf_ne (by omega), e2 _ (by omega) (by omega) (by omega) (by omega)])
    · exact hn.v.same (fun p h1 h2 => by rw [pf_ne (by omega), e2 _ (by omega) (by omega) (by omega) (by omega)])
    · exact hm.1.eq (fun x hx => by rw [pf_nk (by omega), g2 0 (by decide), pf_nk (by omega)]) (fun p h1 h2 => by rw [pf_ne (by omega), g2 p (by omega), pf_ne (by omega)])
    · rw [pf_nk (by decide)]; exact ht
    · rw [pf_nk (by decide), g2 0 (by decide), pf_nk (by decide)]; exact m2.2.2.1
    · rw [pf_nk (by decide), g2 0 (by decide), pf_nk (by decide)]; exact m2.2.2.2
    · rw [pf_ne (by decide)]
      have := g3 x hx
      rw [Nat.zero_add] at this
      rw [this, pf_ne (by decide)]
      exact m5 _ (by omega)
    · rw [pf_ne (by decide), g2 _ (by decide), pf_ne (by decide)]; exact m5 x (by omega)
    · rw [pf_ne (by decide), g2 _ (by decide), pf_ne (by decide)]; exact m6 x hx
    · rw [pf_ne (by decide), g2 _ (by decide), pf_ne (by decide)]; exact m7 x hx
theorem st_undo {k : Nat} {σ τ : St} (h : Rel k σ τ) (hk : k < 64) : ST2 k (f_X10_undo__0 σ) (f_X11_undo__0 τ) := by
  obtain ⟨μ, hf, hn, hm⟩ := id h
  obtain ⟨w1, w2, w3, w4, w5, w6, w7, w8, w9, w10⟩ := hf
  obtain ⟨k1, lw, l1, k2, k3⟩ := hn.u
  obtain ⟨m2, m3, m4, m5, m6, m7⟩ := hm.m
  unfold f_X10_undo__0 f_X11_undo__0
  rw [m2.1]
  rcases Nat.eq_zero_or_pos (mac μ) with c | c
  · rw [c] at k1
    rw [c, if_pos nI_0]
    refine st_bad h (r := -2) ?_ rfl
    unfold f_X5_popInto__22_19
    rw [k1, if_pos nI_0, bnd_ok, if_pos rfl]
  · obtain ⟨m, hmm⟩ : ∃ m, mac μ = m + 1 := ⟨mac μ - 1, by omega⟩
    rw [hmm] at k1 k3 m2 m4 w3 w4
    obtain ⟨s, e1, e2, e3, e4, e5⟩ := N_pop22 (σ := σ) (lw := lw) (m := m) k2 k1 (by omega)
    obtain ⟨t, g1, g2, g3, g4⟩ := cp_4_5 (τ := pf τ 0 9 (nI m)) (a := 0) (b := 22 * m) (n := 22) (by decide) (by omega)
    have g1' : f_X11_copies__4_5 (pf τ 0 9 (nI m)) 0 (nI (22 * m)) 22 = some (0, t) := g1
    have h22 : (22 : Int32) * nI m = nI (22 * m) := pk_mul 22 _
    have ht : t 0 9 = nI m := by rw [g2 0 (by decide), pf_same]
    have hpred : nI (m + 1) - 1 = nI m := nI_pred m
    rw [hmm, if_neg (nI_ne0 (by omega) (by omega)), hpred, nm_ok, pf_same, h22, g1', bnd_ok, e1, bnd_ok, if_neg n10]
    unfold f_X5_size__22
    rw [bnd_ok, e4, ht]
    refine ⟨nI m, _, _, rfl, rfl, ?_⟩
    refine Rel.mk' (μ := μ) (a := m) (ke := mke μ) (se := mse μ) (le := mle μ) (f6 := fun j => μ 8 (22 * m + j)) (f8 := μ 8) (f9 := μ 9) (f10 := μ 10) (f11 := μ 11) w1 (w4 m (by omega)).up (by omega) (fun i hi => (w4 i (by omega)).up) w5 (fun i hi => (w6 i hi).up) w7 w8 w9 w10 ?_ ?_ ?_ ⟨e4, lw, by omega, e5, fun i hi => ?_⟩ ?_ ?_ ?_ ⟨⟨ht, ?_, ?_, ?_⟩, fun x hx => ?_, fun x hx => ?_, fun x hx => ?_, fun x hx => ?_, fun x hx => ?_⟩
    · exact hn.t.same (e2 _ (by decide) (by decide) (by decide) (by decide)) (e2 _ (by decide) (by decide) (by decide) (by decide))
    · exact hn.2.1.eq (fun p h1 h2 _ => e2 _ (by omega) (by omega) (by omega) (by omega))
    · exact e3 _ (k3 m (by omega))
    · have hm8 : (lw + i) % 8 < 8 := Nat.mod_lt _ (by decide)
      exact (k3 i (by omega)).same (e2 _ (by omega) (by omega) (by omega) (by omega)) (e2 _ (by omega) (by omega) (by omega) (by omega)) (e2 _ (by omega) (by omega) (by omega) (by omega))
    · exact hn.k.same w5 (fun p h1 h2 => e2 _ (by omega) (by omega) (by omega) (by omega))
    · exact hn.v.same (fun p h1 h2 => e2 _ (by omega) (by omega) (by omega) (by omega))
    · exact hm.1.eq (fun x hx => by rw [g2 0 (by decide), pf_nk (by omega)]) (fun p h1 h2 => by rw [g2 p (by omega), pf_ne (by omega)])
    · rw [g2 0 (by decide), pf_nk (by decide)]; exact m2.2.1
    · rw [g2 0 (by decide), pf_nk (by decide)]; exact m2.2.2.1
    · rw [g2 0 (by decide), pf_nk (by decide)]; exact m2.2.2.2
    · have := g3 x hx
      rw [Nat.zero_add] at this
      rw [this, pf_ne (by decide)]
      exact m4 _ (by omega)
    · rw [g2 _ (by decide), pf_ne (by decide)]; exact m4 x (by omega)
    · rw [g2 _ (by decide), pf_ne (by decide)]; exact m5 x hx
    · rw [g2 _ (by decide), pf_ne (by decide)]; exact m6 x hx
    · rw [g2 _ (by decide), pf_ne (by decide)]; exact m7 x hx
/-- what is remembered -/
def rmF (f g : Nat → Nat) (m : Nat) : Nat → Nat := if m = 8 then appF (fun j => f (j + 22)) g 7 else appF f g m
def rmN (m : Nat) : Nat := if m = 8 then 8 else m + 1
theorem rm_last {f g : Nat → Nat} {m : Nat} (j : Nat) : rmF f g m (22 * (rmN m - 1) + j) = g j := by
  unfold rmF rmN
  by_cases e : m = 8
  · rw [if_pos e, if_pos e]; exact appR
  · rw [if_neg e, if_neg e]; exact appR
theorem rm_old {f g : Nat → Nat} {m i j : Nat} (hi : i + 1 < rmN m) (hj : j < 22) : rmF f g m (22 * i + j) = f (22 * (if m = 8 then i + 1 else i) + j) := by
  unfold rmN at hi
  unfold rmF
  by_cases e : m = 8
  · rw [if_pos e, if_pos e]
    rw [if_pos e] at hi
    rw [appL (by omega)]
    congr 1; omega
  · rw [if_neg e, if_neg e]
    rw [if_neg e] at hi
    rw [appL (by omega)]
theorem N_remember {k : Nat} {σ : St} {μ : Mu} (hn : RN k σ μ) (hk : k < 64) (hm8 : mac μ ≤ 8) : ∃ σ', f_X5_push__22_19 σ = some (0, σ') ∧ (∀ p, (p < 22 ∨ 47 < p) → σ' p = σ p) ∧ UNp (k + 1) σ' (rmN (mac μ)) (rmF (μ 8) (μ 6) (mac μ)) := by
  obtain ⟨k1, lw, l1, k2, k3⟩ := hn.u
  obtain ⟨s, e1, e2, e3, e4, e5⟩ := N_push22 (σ := σ) (lw := lw) (m := mac μ) k2 k1 hm8 (by omega)
  have hq : (lw + mac μ) % 8 < 8 := Nat.mod_lt _ (by decide)
  refine ⟨s, e1, fun p hp => e2 p (by omega) (by omega) (by omega) (by omega), e4, (if mac μ = 8 then lw + 1 else lw), by split <;> omega, e5, fun i hi => ?_⟩
  have hlast := fun j => rm_last (f := μ 8) (g := μ 6) (m := mac μ) j
  by_cases c : i + 1 = rmN (mac μ)
  · have hi2 : rmN (mac μ) - 1 = i := by omega
    rw [hi2] at hlast
    have hpl : ((if mac μ = 8 then lw + 1 else lw) + i) % 8 = (lw + mac μ) % 8 := by
      unfold rmN at c
      by_cases e : mac μ = 8
      · rw [if_pos e] at c ⊢; omega
      · rw [if_neg e] at c ⊢; congr 1; omega
    rw [hpl]
    exact (e3 _ hn.2.2.1).ext (fun j _ => (hlast j).symm)
  · have hi3 : i + 1 < rmN (mac μ) := by omega
    have hold : ∀ j, j < 22 → μ 8 (22 * (if mac μ = 8 then i + 1 else i) + j) = rmF (μ 8) (μ 6) (mac μ) (22 * i + j) := fun j hj => (rm_old hi3 hj).symm
    unfold rmN at hi3
    by_cases e : mac μ = 8
    · rw [if_pos e] at hi3 hold ⊢
      have := (k3 (i + 1) (by omega)).ext hold
      rw [show lw + (i + 1) = lw + 1 + i by omega] at this
      have hne : (lw + 1 + i) % 8 ≠ (lw + mac μ) % 8 := by omega
      have hlt : (lw + 1 + i) % 8 < 8 := Nat.mod_lt _ (by decide)
      exact this.same (e2 _ (by omega) (by omega) (by omega) (by omega)) (e2 _ (by omega) (by omega) (by omega) (by omega)) (e2 _ (by omega) (by omega) (by omega) (by omega))
    · rw [if_neg e] at hi3 hold ⊢
      have := (k3 i (by omega)).ext hold
      have hne : (lw + i) % 8 ≠ (lw + mac μ) % 8 := by omega
      have hlt : (lw + i) % 8 < 8 := Nat.mod_lt _ (by decide)
      exact this.same (e2 _ (by omega) (by omega) (by omega) (by omega)) (e2 _ (by omega) (by omega) (by omega) (by omega)) (e2 _ (by omega) (by omega) (by omega) (by omega))
theorem rm_ENT {k : Nat} {μ : Mu} (hf : WF k μ) : rmN (mac μ) ≤ 8 ∧ ∀ i, i < rmN (mac μ) → ENT k μ (fun j => rmF (μ 8) (μ 6) (mac μ) (22 * i + j)) := by
  obtain ⟨w1, w2, w3, w4, w5, w6, w7, w8, w9, w10⟩ := hf
  refine ⟨by unfold rmN; split <;> omega, fun i hi => ?_⟩
  by_cases c : i + 1 = rmN (mac μ)
  · have hlast := fun j => rm_last (f := μ 8) (g := μ 6) (m := mac μ) j
    rw [show rmN (mac μ) - 1 = i by omega] at hlast
    exact w2.ext (fun j _ => (hlast j).symm)
  · have hi3 : i + 1 < rmN (mac μ) := by omega
    have hlt : (if mac μ = 8 then i + 1 else i) < mac μ := by
      unfold rmN at hi3
      by_cases e : mac μ = 8
      · rw [if_pos e] at hi3 ⊢; omega
      · rw [if_neg e] at hi3 ⊢; omega
    exact (w4 _ hlt).ext (fun j hj => (rm_old hi3 hj).symm)
theorem M_remember {τ : St} {μ : Mu} (hm : RM τ μ) (hm8 : mac μ ≤ 8) : ∃ τ', f_X11_remembers__0 τ = some (0, τ') ∧ (∀ p, p ≠ 0 → p ≠ 5 → τ' p = τ p) ∧ (∀ j, j ≠ 9 → τ' 0 j = τ 0 j) ∧ τ' 0 9 = nI (rmN (mac μ)) ∧ ∀ j, j < 22 * rmN (mac μ) → τ' 5 j = nI (rmF (μ 8) (μ 6) (mac μ) j) := by
  obtain ⟨m2, m3, m4, m5, m6, m7⟩ := hm.m
  have q : (nI (mac μ) = (8 : Int32)) = (mac μ = 8) := nI_eqB (b := 8) (by omega) (by decide)
  -- from m full entries on
  have fin : ∀ (u : St) (m : Nat) (f : Nat → Nat), m ≤ 7 → (∀ p, p ≠ 0 → p ≠ 5 → u p = τ p) → (∀ j, j ≠ 9 → u 0 j = τ 0 j) → u 0 9 = nI m → (∀ j, j < 22 * m → u 5 j = nI (f j)) → ∃ τ', bnd (f_X11_copies__5_4 u (((22 : Int32) * (u 0 9))) (0 : Int32) (22 : Int32)) (fun r3 s4 => nm (pf s4 0 9 (((s4 0 9) + (1 : Int32)))) (fun s5 => some ((0 : Int32), s5))) = some (0, τ') ∧ (∀ p, p ≠ 0 → p ≠ 5 → τ' p = τ p) ∧ (∀ j, j ≠ 9 → τ' 0 j = τ 0 j) ∧ τ' 0 9 = nI (m + 1) ∧ ∀ j, j < 22 * (m + 1) → τ' 5 j = nI (appF f (μ 6) m j) := fun u m f hm7 h1 h2 h3 h4 => by
    obtain ⟨t, g1, g2, g3, g4⟩ := cp_5_4 (τ := u) (a := 22 * m) (b := 0) (n := 22) (by omega) (by decide)
    have g1' : f_X11_copies__5_4 u (nI (22 * m)) 0 22 = some (0, t) := g1
    have h22 : (22 : Int32) * nI m = nI (22 * m) := pk_mul 22 _
    refine ⟨pf t 0 9 (nI (m + 1)), ?_, fun p a b => ?_, fun j hj => ?_, pf_same, fun j hj => ?_⟩
    · rw [h3, h22, g1', bnd_ok, g2 0 (by decide), h3, nI_1, nm_ok]
    · rw [pf_ne a, g2 p b, h1 p a b]
    · rw [pf_nk hj, g2 0 (by decide), h2 j hj]
    · rw [pf_ne (by decide)]
      rcases Nat.lt_or_ge j (22 * m) with hj1 | hj1
      · rw [g4 j (Or.inl hj1), appL hj1]; exact h4 j hj1
      · have := g3 (j - 22 * m) (by omega)
        rw [show 22 * m + (j - 22 * m) = j by omega, Nat.zero_add] at this
        rw [this, h1 4 (by decide) (by decide), m3 _ (by omega)]
        unfold appF
        rw [if_neg (by omega)]
  unfold f_X11_remembers__0
  rw [show ∀ (A : St → Ot) (B : (St → Ot) → Ot), jq0 A B = B A from fun _ _ => rfl]
  rw [m2.1]
  by_cases c : mac μ = 8
  · rw [if_pos (by rw [q]; exact c)]
    have hR : rmN (mac μ) = 7 + 1 := by unfold rmN; rw [if_pos c]
    have hF : rmF (μ 8) (μ 6) (mac μ) = appF (fun j => μ 8 (j + 22)) (μ 6) 7 := by unfold rmF; rw [if_pos c]
    rw [hR, hF]
    refine lq1_run (P := fun o => ∃ τ', o = some (0, τ') ∧ (∀ p, p ≠ 0 → p ≠ 5 → τ' p = τ p) ∧ (∀ j, j ≠ 9 → τ' 0 j = τ 0 j) ∧ τ' 0 9 = nI (7 + 1) ∧ ∀ j, j < 22 * (7 + 1) → τ' 5 j = nI (appF (fun j => μ 8 (j + 22)) (μ 6) 7 j)) (fun i t y => y = nI i ∧ (∀ p, p ≠ 5 → t p = τ p) ∧ (∀ j, j < i → t 5 j = nI (μ 8 (j + 22))) ∧ ∀ j, i ≤ j → t 5 j = τ 5 j) 154 ?_ 100000 0 τ 0 (Nat.zero_le _) (by omega) ⟨rfl, fun _ _ => rfl, fun j hj => by omega, fun _ _ => rfl⟩
    rintro i t y hi ⟨rfl, h1, h2, h3⟩ k
    rcases Nat.lt_or_ge i 154 with hl | hl
    · have h154 : ¬ (154 : Int32) ≤ nI i := nI_ge (b := 154) hl (by decide)
      have e22 : nI i + (22 : Int32) = nI (i + 22) := nI_add i 22
      rw [if_neg h154, e22, gd_nI (show i + 22 < 176 by omega) (by decide), gd_nI (show i < 176 by omega) (by decide), nI_clamp (by omega), nm_ok, nm_ok, nI_1]
      refine Or.inl ⟨hl, _, _, ⟨rfl, fun p hp => (ps_ne hp).trans (h1 p hp), fun j hj => ?_, fun j hj => ?_⟩, rfl⟩
      · by_cases e : j = i
        · subst e
          rw [ps_same (by omega), h3 (j + 22) (by omega)]
          exact m4 _ (by omega)
        · rw [ps_nk (by omega) e]; exact h2 j (by omega)
      · rw [ps_nk (by omega) (by omega)]; exact h3 j (by omega)
    · have : i = 154 := by omega
      subst this
      have h9 : t 0 9 - 1 = nI 7 := by
        rw [h1 0 (by decide), m2.1, c]; decide
      rw [if_pos (show (154 : Int32) ≤ nI 154 by decide), nm_ok, h9]
      exact Or.inr (fin _ 7 _ (by decide) (fun p a b => by rw [pf_ne a, h1 p b]) (fun j hj => by rw [pf_nk hj, h1 0 (by decide)]) pf_same (fun j hj => by rw [pf_ne (by decide)]; exact h2 j (by omega)))
  · rw [if_neg (fun z => c (by rw [q] at z; exact z))]
    have hR : rmN (mac μ) = mac μ + 1 := by unfold rmN; rw [if_neg c]
    have hF : rmF (μ 8) (μ 6) (mac μ) = appF (μ 8) (μ 6) (mac μ) := by unfold rmF; rw [if_neg c]
    rw [hR, hF]
    exact fin τ (mac μ) _ (by omega) (fun _ _ _ => rfl) (fun _ _ => rfl) m2.1 m4
