/-! the text read -/
theorem NPr.eq {P : Nat} {σ σ' : St} {r : RP} (h : NPr P σ r) (hs : ∀ x, P ≤ x → x ≤ P + 6 → σ' x = σ x) : NPr P σ' r := by
  unfold NPr at h ⊢
  rw [hs P (by omega) (by omega), hs (P + 1) (by omega) (by omega), hs (P + 2) (by omega) (by omega), hs (P + 3) (by omega) (by omega), hs (P + 4) (by omega) (by omega), hs (P + 5) (by omega) (by omega), hs (P + 6) (by omega) (by omega)]; exact h
theorem itm_none {T : Nat → Nat} {le p : Nat} {r : RP} (h : rdN T le (p + 1) = none) : itm T le p r = none := by unfold itm; rw [h]
theorem prs_none {T : Nat → Nat} {le m p : Nat} {r : RP} (c : p < le) (h : itm T le p r = none) : prs T le (m + 1) p r = Sum.inl p := by
  rw [prs, if_pos c, h]
theorem prs_some {T : Nat → Nat} {le m p q : Nat} {r r' : RP} (c : p < le) (h : itm T le p r = some (q, r')) : prs T le (m + 1) p r = prs T le m q r' := by
  rw [prs, if_pos c, h]
theorem prs_end {T : Nat → Nat} {le m p : Nat} {r : RP} (c : le ≤ p) : prs T le m p r = Sum.inr r := by
  cases m with
  | zero => rfl
  | succ m => rw [prs, if_neg (by omega)]
theorem N_clear5 {σ : St} : ∃ σ', f_X4_clear__5 σ = some (0, σ') ∧ (∀ x, x < 5 ∨ 11 < x → σ' x = σ x) ∧ NPr 5 σ' rp0 := by
  obtain ⟨s1, a1, a2, a3⟩ := fl_6 (σ := σ) (v := 0)
  obtain ⟨s2, b1, b2, b3⟩ := fl_7 (σ := s1) (v := 2)
  obtain ⟨s3, c1, c2, c3⟩ := fl_11 (σ := s2) (v := 0)
  obtain ⟨s4, e1, e2, e3⟩ := N_grid5 (σ := pf (pf (pf s3 5 10 0) 5 11 0) 5 12 1) (a := 3) (b := 4) (by decide) (by decide)
  rcases e3 with ⟨e3, e4⟩ | ⟨e3, e4, e5, e6, e7, e8⟩
  · exact absurd ⟨⟨by decide, by decide⟩, ⟨by decide, by decide⟩⟩ e3
  have e4' : f_X4_takeGrid__5 (pf (pf (pf s3 5 10 0) 5 11 0) 5 12 1) 3 4 = some (1, s4) := e4
  have hdef : f_X4_clear__5 σ = some (0, s4) := by
    unfold f_X4_clear__5
    rw [a1, bnd_ok, b1, bnd_ok, c1, bnd_ok, nm_ok, nm_ok, nm_ok, e4', bnd_ok]
  have z10 : s4 5 10 = nI 0 := by rw [e2 10 (by decide), pf_nk (by decide), pf_nk (by decide), pf_same]; rfl
  have z11 : s4 5 11 = nI 0 := by rw [e2 11 (by decide), pf_nk (by decide), pf_same]; rfl
  have z12 : s4 5 12 = 1 := by rw [e2 12 (by decide), pf_same]
  have zK : ∀ h, h < 16 → s4 6 h = nI 0 := fun h hh => by
    rw [e1 6 (by decide), pf_ne (by decide), pf_ne (by decide), pf_ne (by decide), c2 6 (by decide), b2 6 (by decide), a3 h hh]; rfl
  have zS : ∀ h, h < 16 → s4 7 h = nI 2 := fun h hh => by
    rw [e1 7 (by decide), pf_ne (by decide), pf_ne (by decide), pf_ne (by decide), c2 7 (by decide), b3 h hh]; rfl
  have zW : ∀ i, i < 8 → s4 11 i = nI 0 := fun h hh => by
    rw [e1 11 (by decide), pf_ne (by decide), pf_ne (by decide), pf_ne (by decide), c3 h hh]; rfl
  exact ⟨s4, hdef, fun x hx => by rw [e1 x (by omega), pf_ne (by omega), pf_ne (by omega), pf_ne (by omega), c2 x (by omega), b2 x (by omega), a2 x (by omega)], ⟨e5, e6, e7, e8⟩, ⟨z10, z11, z12⟩, fun h hh => ⟨zK h hh, zS h hh⟩, fun n hh => absurd hh (Nat.not_lt_zero n), fun i hh => zW i hh⟩
/-- the text read, by the system -/
theorem N_read5 {σ : St} {T : Nat → Nat} {le : Nat} (h : TXN σ T le) (ht : TT T le) : ∃ σ', (∀ x, x ≠ 3 → x ≠ 4 → (x < 5 ∨ 11 < x) → σ' x = σ x) ∧ ((∃ p, p < le ∧ prs T le 200 0 rp0 = Sum.inl p ∧ f_X6_readInto__3_5 σ = some (nI p, σ')) ∨ ∃ r, prs T le 200 0 rp0 = Sum.inr r ∧ f_X6_readInto__3_5 σ = some (-4, σ') ∧ NPr 5 σ' r ∧ RPok r) := by
  obtain ⟨s1, a1, a2, a3⟩ := N_clear5 (σ := σ)
  unfold f_X6_readInto__3_5
  rw [a1, bnd_ok, nm_ok]
  have b1 : ∀ x, x ≠ 3 → x ≠ 4 → (x < 5 ∨ 11 < x) → (pf s1 3 2 0) x = σ x := fun x h3 h4 hx => by rw [pf_ne h3]; exact a2 x hx
  have b2 : (pf s1 3 2 0) 3 2 = nI 0 := pf_same
  have b3 : NPr 5 (pf s1 3 2 0) rp0 := a3.eq (fun x x1 x2 => pf_ne (by omega))
  generalize pf s1 3 2 0 = s2 at b1 b2 b3
  refine lq1_run (P := fun o => ∃ σ', (∀ x, x ≠ 3 → x ≠ 4 → (x < 5 ∨ 11 < x) → σ' x = σ x) ∧ ((∃ p, p < le ∧ prs T le 200 0 rp0 = Sum.inl p ∧ o = some (nI p, σ')) ∨ ∃ r, prs T le 200 0 rp0 = Sum.inr r ∧ o = some (-4, σ') ∧ NPr 5 σ' r ∧ RPok r)) (fun i s x => x = nI i ∧ (∀ x, x ≠ 3 → x ≠ 4 → (x < 5 ∨ 11 < x) → s x = σ x) ∧ ∃ p r, s 3 2 = nI p ∧ p ≤ le ∧ RPok r ∧ NPr 5 s r ∧ prs T le (200 - i) p r = prs T le 200 0 rp0) 200 ?_ 100000 0 s2 0 (by decide) (by decide) ⟨rfl, b1, 0, rp0, b2, Nat.zero_le _, rp0_ok, b3, rfl⟩
  rintro i s x hi ⟨rfl, h1, p, r, h3, hp, hr, hn, hpr⟩ k
  have hle := ht.1
  have hts : TXN s T le := h.eq (h1 1 (by decide) (by decide) (Or.inl (by decide))) (h1 2 (by decide) (by decide) (Or.inl (by decide)))
  (try dsimp only)
  by_cases c : i < 200
  · rw [if_neg (show ¬ (200 : Int32) ≤ nI i from nI_ge (b := 200) c (by decide))]
    unfold f_X7_length__1
    rw [hts.1, bnd_ok, h3]
    obtain ⟨m, hm⟩ : ∃ m, 200 - i = m + 1 := ⟨199 - i, by omega⟩
    have hm2 : 200 - (i + 1) = m := by omega
    rw [hm] at hpr
    by_cases c2 : p < le
    · rw [if_neg (nI_ge c2 (by omega)), nm_ok, nI_1, nm_ok]
      have t10 : TXN (pf s 3 2 (nI (p + 1))) T le := hts.eq (pf_ne (by decide)) (pf_ne (by decide))
      obtain ⟨s12, f1, f2⟩ := N_readNumbers t10 ht (p := p + 1) (by omega) pf_same
      rcases f2 with ⟨e1, e2⟩ | ⟨kk, q, a, b, cc, e1, e2, e3, e4, e5, e6⟩
      · rw [e2, bnd_ok, if_pos rfl]
        refine Or.inr ⟨s12, fun x x3 x4 hx => by rw [f1 x x3 x4, pf_ne x3]; exact h1 x x3 x4 hx, Or.inl ⟨p, c2, ?_, rfl⟩⟩
        rw [← hpr]; exact prs_none c2 (itm_none e1)
      · obtain ⟨k1, k2, -⟩ := rdN_q ht e1
        have t12 : TXN s12 T le := t10.fr f1
        have hL : f_X7_letterAt__1 s12 (nI p) = some (nI (T p), s12) := by rw [N_letter t12 ht (by omega)]; unfold Lt; rw [if_pos c2]
        have hk0 : ¬ nI kk = (0 : Int32) := fun z => by
          have z2 : kk = 0 := (nI_eq (a := kk) (b := 0) (by omega) (by decide)).mp z
          omega
        rw [e2, bnd_ok, if_neg hk0, hL, bnd_ok]
        have n12 : NPr 5 s12 r := hn.eq (fun x x1 x2 => by rw [f1 x (by omega) (by omega), pf_ne (by omega)])
        obtain ⟨s16, g1, g2⟩ := N_take5 ht c2 e1 hr n12 e4 e5 e6
        rcases g2 with ⟨g2, g3⟩ | ⟨r', g2, g3, g4⟩
        · rw [g3, bnd_ok, if_pos rfl]
          refine Or.inr ⟨s16, fun x x3 x4 hx => by rw [g1 x hx, f1 x x3 x4, pf_ne x3]; exact h1 x x3 x4 hx, Or.inl ⟨p, c2, ?_, rfl⟩⟩
          rw [← hpr]; exact prs_none c2 g2
        · rw [g3, bnd_ok, if_neg n10, nI_1, nm_ok]
          obtain ⟨o1, o2, o3⟩ := itm_ok ht hr g2
          refine Or.inl ⟨c, s16, nI (i + 1), ⟨rfl, fun x x3 x4 hx => by rw [g1 x hx, f1 x x3 x4, pf_ne x3]; exact h1 x x3 x4 hx, q, r', by rw [g1 3 (by decide)]; exact e3, o3, o1, g4, ?_⟩, rfl⟩
          rw [hm2, ← hpr]; exact (prs_some c2 g2).symm
    · rw [if_pos (nI_le (by omega) (by omega))]
      refine Or.inr ⟨s, h1, Or.inr ⟨r, ?_, rfl, hn, hr⟩⟩
      rw [← hpr]; exact prs_end (by omega)
  · have e : i = 200 := by omega
    subst e
    rw [if_pos (show (200 : Int32) ≤ nI 200 by decide)]
    refine Or.inr ⟨s, h1, Or.inr ⟨r, ?_, rfl, hn, hr⟩⟩
    rw [← hpr]; rfl
theorem N_clear12 {σ : St} : ∃ σ', f_X4_clear__12 σ = some (0, σ') ∧ (∀ x, x < 12 ∨ 18 < x → σ' x = σ x) ∧ NPr 12 σ' rp0 := by
  obtain ⟨s1, a1, a2, a3⟩ := fl_13 (σ := σ) (v := 0)
  obtain ⟨s2, b1, b2, b3⟩ := fl_14 (σ := s1) (v := 2)
  obtain ⟨s3, c1, c2, c3⟩ := fl_18 (σ := s2) (v := 0)
  obtain ⟨s4, e1, e2, e3⟩ := N_grid12 (σ := pf (pf (pf s3 12 10 0) 12 11 0) 12 12 1) (a := 3) (b := 4) (by decide) (by decide)
  rcases e3 with ⟨e3, e4⟩ | ⟨e3, e4, e5, e6, e7, e8⟩
  · exact absurd ⟨⟨by decide, by decide⟩, ⟨by decide, by decide⟩⟩ e3
  have e4' : f_X4_takeGrid__12 (pf (pf (pf s3 12 10 0) 12 11 0) 12 12 1) 3 4 = some (1, s4) := e4
  have hdef : f_X4_clear__12 σ = some (0, s4) := by
    unfold f_X4_clear__12
    rw [a1, bnd_ok, b1, bnd_ok, c1, bnd_ok, nm_ok, nm_ok, nm_ok, e4', bnd_ok]
  have z10 : s4 12 10 = nI 0 := by rw [e2 10 (by decide), pf_nk (by decide), pf_nk (by decide), pf_same]; rfl
  have z11 : s4 12 11 = nI 0 := by rw [e2 11 (by decide), pf_nk (by decide), pf_same]; rfl
  have z12 : s4 12 12 = 1 := by rw [e2 12 (by decide), pf_same]
  have zK : ∀ h, h < 16 → s4 13 h = nI 0 := fun h hh => by
    rw [e1 13 (by decide), pf_ne (by decide), pf_ne (by decide), pf_ne (by decide), c2 13 (by decide), b2 13 (by decide), a3 h hh]; rfl
  have zS : ∀ h, h < 16 → s4 14 h = nI 2 := fun h hh => by
    rw [e1 14 (by decide), pf_ne (by decide), pf_ne (by decide), pf_ne (by decide), c2 14 (by decide), b3 h hh]; rfl
  have zW : ∀ i, i < 8 → s4 18 i = nI 0 := fun h hh => by
    rw [e1 18 (by decide), pf_ne (by decide), pf_ne (by decide), pf_ne (by decide), c3 h hh]; rfl
  exact ⟨s4, hdef, fun x hx => by rw [e1 x (by omega), pf_ne (by omega), pf_ne (by omega), pf_ne (by omega), c2 x (by omega), b2 x (by omega), a2 x (by omega)], ⟨e5, e6, e7, e8⟩, ⟨z10, z11, z12⟩, fun h hh => ⟨zK h hh, zS h hh⟩, fun n hh => absurd hh (Nat.not_lt_zero n), fun i hh => zW i hh⟩
/-- the text read, by the system -/
theorem N_read12 {σ : St} {T : Nat → Nat} {le : Nat} (h : TXN σ T le) (ht : TT T le) : ∃ σ', (∀ x, x ≠ 3 → x ≠ 4 → (x < 12 ∨ 18 < x) → σ' x = σ x) ∧ ((∃ p, p < le ∧ prs T le 200 0 rp0 = Sum.inl p ∧ f_X6_readInto__3_12 σ = some (nI p, σ')) ∨ ∃ r, prs T le 200 0 rp0 = Sum.inr r ∧ f_X6_readInto__3_12 σ = some (-4, σ') ∧ NPr 12 σ' r ∧ RPok r) := by
  obtain ⟨s1, a1, a2, a3⟩ := N_clear12 (σ := σ)
  unfold f_X6_readInto__3_12
  rw [a1, bnd_ok, nm_ok]
  have b1 : ∀ x, x ≠ 3 → x ≠ 4 → (x < 12 ∨ 18 < x) → (pf s1 3 2 0) x = σ x := fun x h3 h4 hx => by rw [pf_ne h3]; exact a2 x hx
  have b2 : (pf s1 3 2 0) 3 2 = nI 0 := pf_same
  have b3 : NPr 12 (pf s1 3 2 0) rp0 := a3.eq (fun x x1 x2 => pf_ne (by omega))
  generalize pf s1 3 2 0 = s2 at b1 b2 b3
  refine lq1_run (P := fun o => ∃ σ', (∀ x, x ≠ 3 → x ≠ 4 → (x < 12 ∨ 18 < x) → σ' x = σ x) ∧ ((∃ p, p < le ∧ prs T le 200 0 rp0 = Sum.inl p ∧ o = some (nI p, σ')) ∨ ∃ r, prs T le 200 0 rp0 = Sum.inr r ∧ o = some (-4, σ') ∧ NPr 12 σ' r ∧ RPok r)) (fun i s x => x = nI i ∧ (∀ x, x ≠ 3 → x ≠ 4 → (x < 12 ∨ 18 < x) → s x = σ x) ∧ ∃ p r, s 3 2 = nI p ∧ p ≤ le ∧ RPok r ∧ NPr 12 s r ∧ prs T le (200 - i) p r = prs T le 200 0 rp0) 200 ?_ 100000 0 s2 0 (by decide) (by decide) ⟨rfl, b1, 0, rp0, b2, Nat.zero_le _, rp0_ok, b3, rfl⟩
  rintro i s x hi ⟨rfl, h1, p, r, h3, hp, hr, hn, hpr⟩ k
  have hle := ht.1
  have hts : TXN s T le := h.eq (h1 1 (by decide) (by decide) (Or.inl (by decide))) (h1 2 (by decide) (by decide) (Or.inl (by decide)))
  (try dsimp only)
  by_cases c : i < 200
  · rw [if_neg (show ¬ (200 : Int32) ≤ nI i from nI_ge (b := 200) c (by decide))]
    unfold f_X7_length__1
    rw [hts.1, bnd_ok, h3]
    obtain ⟨m, hm⟩ : ∃ m, 200 - i = m + 1 := ⟨199 - i, by omega⟩
    have hm2 : 200 - (i + 1) = m := by omega
    rw [hm] at hpr
    by_cases c2 : p < le
    · rw [if_neg (nI_ge c2 (by omega)), nm_ok, nI_1, nm_ok]
      have t10 : TXN (pf s 3 2 (nI (p + 1))) T le := hts.eq (pf_ne (by decide)) (pf_ne (by decide))
      obtain ⟨s12, f1, f2⟩ := N_readNumbers t10 ht (p := p + 1) (by omega) pf_same
      rcases f2 with ⟨e1, e2⟩ | ⟨kk, q, a, b, cc, e1, e2, e3, e4, e5, e6⟩
      · rw [e2, bnd_ok, if_pos rfl]
        refine Or.inr ⟨s12, fun x x3 x4 hx => by rw [f1 x x3 x4, pf_ne x3]; exact h1 x x3 x4 hx, Or.inl ⟨p, c2, ?_, rfl⟩⟩
        rw [← hpr]; exact prs_none c2 (itm_none e1)
      · obtain ⟨k1, k2, -⟩ := rdN_q ht e1
        have t12 : TXN s12 T le := t10.fr f1
        have hL : f_X7_letterAt__1 s12 (nI p) = some (nI (T p), s12) := by rw [N_letter t12 ht (by omega)]; unfold Lt; rw [if_pos c2]
        have hk0 : ¬ nI kk = (0 : Int32) := fun z => by
          have z2 : kk = 0 := (nI_eq (a := kk) (b := 0) (by omega) (by decide)).mp z
          omega
        rw [e2, bnd_ok, if_neg hk0, hL, bnd_ok]
        have n12 : NPr 12 s12 r := hn.eq (fun x x1 x2 => by rw [f1 x (by omega) (by omega), pf_ne (by omega)])
        obtain ⟨s16, g1, g2⟩ := N_take12 ht c2 e1 hr n12 e4 e5 e6
        rcases g2 with ⟨g2, g3⟩ | ⟨r', g2, g3, g4⟩
        · rw [g3, bnd_ok, if_pos rfl]
          refine Or.inr ⟨s16, fun x x3 x4 hx => by rw [g1 x hx, f1 x x3 x4, pf_ne x3]; exact h1 x x3 x4 hx, Or.inl ⟨p, c2, ?_, rfl⟩⟩
          rw [← hpr]; exact prs_none c2 g2
        · rw [g3, bnd_ok, if_neg n10, nI_1, nm_ok]
          obtain ⟨o1, o2, o3⟩ := itm_ok ht hr g2
          refine Or.inl ⟨c, s16, nI (i + 1), ⟨rfl, fun x x3 x4 hx => by rw [g1 x hx, f1 x x3 x4, pf_ne x3]; exact h1 x x3 x4 hx, q, r', by rw [g1 3 (by decide)]; exact e3, o3, o1, g4, ?_⟩, rfl⟩
          rw [hm2, ← hpr]; exact (prs_some c2 g2).symm
    · rw [if_pos (nI_le (by omega) (by omega))]
      refine Or.inr ⟨s, h1, Or.inr ⟨r, ?_, rfl, hn, hr⟩⟩
      rw [← hpr]; exact prs_end (by omega)
  · have e : i = 200 := by omega
    subst e
    rw [if_pos (show (200 : Int32) ≤ nI 200 by decide)]
    refine Or.inr ⟨s, h1, Or.inr ⟨r, ?_, rfl, hn, hr⟩⟩
    rw [← hpr]; rfl
/-- the text read, by the check -/
theorem M_clear {τ : St} : ∃ τ', f_X11_clearTold__0 τ = some (0, τ') ∧ sameM τ τ' ∧ τ' 0 17 = τ 0 17 ∧ MPr τ' rp0 := by
  unfold f_X11_clearTold__0
  rw [nm_ok, nm_ok, nm_ok]
  have b1 : sameM τ (pf (pf (pf τ 0 19 0) 0 20 3) 0 21 4) := (sameM.f0 rfl).tr ((sameM.f0 rfl).tr (sameM.f0 rfl))
  have b2 : (pf (pf (pf τ 0 19 0) 0 20 3) 0 21 4) 0 17 = τ 0 17 := by rw [pf_nk (by decide), pf_nk (by decide), pf_nk (by decide)]
  have b3 : (pf (pf (pf τ 0 19 0) 0 20 3) 0 21 4) 0 19 = 0 := by rw [pf_nk (by decide), pf_nk (by decide), pf_same]
  have b4 : (pf (pf (pf τ 0 19 0) 0 20 3) 0 21 4) 0 20 = 3 := by rw [pf_nk (by decide), pf_same]
  have b5 : (pf (pf (pf τ 0 19 0) 0 20 3) 0 21 4) 0 21 = 4 := pf_same
  generalize pf (pf (pf τ 0 19 0) 0 20 3) 0 21 4 = s0 at b1 b2 b3 b4 b5
  refine lq1_run (P := fun o => ∃ τ', o = some (0, τ') ∧ sameM τ τ' ∧ τ' 0 17 = τ 0 17 ∧ MPr τ' rp0) (fun i s x => x = nI i ∧ sameM τ s ∧ s 0 17 = τ 0 17 ∧ s 0 19 = 0 ∧ s 0 20 = 3 ∧ s 0 21 = 4 ∧ ∀ j, j < i → s 10 j = 0 ∧ s 11 j = 2) 16 ?_ 100000 0 s0 0 (by decide) (by decide) ⟨rfl, b1, b2, b3, b4, b5, fun j hj => absurd hj (Nat.not_lt_zero j)⟩
  rintro i s x hi ⟨rfl, h1, h2, h3, h4, h5, h6⟩ k
  (try dsimp only)
  by_cases c : i < 16
  · rw [if_neg (show ¬ (16 : Int32) ≤ nI i from nI_ge (b := 16) c (by decide)), gd_nI c (by decide), nm_ok, gd_nI c (by decide), nm_ok, nI_1, nm_ok]
    refine Or.inl ⟨c, ps (ps s 10 (nI i) 0) 11 (nI i) 2, nI (i + 1), ⟨rfl, h1.tr ((sameM.p9 (by decide)).tr (sameM.p9 (by decide))), ?_, ?_, ?_, ?_, fun j hj => ⟨?_, ?_⟩⟩, rfl⟩
    · rw [ps_ne (by decide), ps_ne (by decide)]; exact h2
    · rw [ps_ne (by decide), ps_ne (by decide)]; exact h3
    · rw [ps_ne (by decide), ps_ne (by decide)]; exact h4
    · rw [ps_ne (by decide), ps_ne (by decide)]; exact h5
    · rw [ps_ne (by decide)]
      by_cases e : j = i
      · subst e; exact ps_same (by omega)
      · rw [ps_nk (by omega) e]; exact (h6 j (by omega)).1
    · by_cases e : j = i
      · subst e; exact ps_same (by omega)
      · rw [ps_nk (by omega) e, ps_ne (by decide)]; exact (h6 j (by omega)).2
  · have e : i = 16 := by omega
    subst e
    rw [if_pos (show (16 : Int32) ≤ nI 16 by decide), nm_ok, nm_ok]
    have z19 : (pf (pf s 0 24 0) 0 26 0) 0 19 = 0 := by rw [pf_nk (by decide), pf_nk (by decide)]; exact h3
    have z20 : (pf (pf s 0 24 0) 0 26 0) 0 20 = nI 3 := by rw [pf_nk (by decide), pf_nk (by decide)]; exact h4
    have z21 : (pf (pf s 0 24 0) 0 26 0) 0 21 = nI 4 := by rw [pf_nk (by decide), pf_nk (by decide)]; exact h5
    have z24 : (pf (pf s 0 24 0) 0 26 0) 0 24 = nI 0 := by rw [pf_nk (by decide), pf_same]; rfl
    have z26 : (pf (pf s 0 24 0) 0 26 0) 0 26 = nI 0 := by rw [pf_same]; rfl
    have z10 : ∀ h, h < 16 → (pf (pf s 0 24 0) 0 26 0) 10 h = nI 0 := fun h hh => by rw [pf_ne (by decide), pf_ne (by decide)]; exact (h6 h hh).1
    have z11 : ∀ h, h < 16 → (pf (pf s 0 24 0) 0 26 0) 11 h = nI 2 := fun h hh => by rw [pf_ne (by decide), pf_ne (by decide)]; exact (h6 h hh).2
    exact Or.inr ⟨_, rfl, h1.tr ((sameM.f0 rfl).tr (sameM.f0 rfl)), by rw [pf_nk (by decide), pf_nk (by decide)]; exact h2, ⟨z19, z20, z21, z24, z26⟩, fun h hh => ⟨z10 h hh, z11 h hh⟩, fun n hn => absurd hn (Nat.not_lt_zero n), fun n hn => absurd hn (Nat.not_lt_zero n)⟩
theorem M_read {τ : St} {T : Nat → Nat} {le : Nat} (h : TXM τ T le) (ht : TT T le) : ∃ τ', sameM τ τ' ∧ ((∃ p, p < le ∧ prs T le 200 0 rp0 = Sum.inl p ∧ f_X11_fault__0 τ = some (nI p, τ')) ∨ ∃ r, prs T le 200 0 rp0 = Sum.inr r ∧ f_X11_fault__0 τ = some (-4, τ') ∧ MPr τ' r ∧ RPok r) := by
  obtain ⟨s1, a1, a2, a3, a4⟩ := M_clear (τ := pf τ 0 17 0)
  unfold f_X11_fault__0
  rw [nm_ok, a1, bnd_ok]
  have b1 : sameM τ s1 := sameM.tr (sameM.f0 rfl) a2
  have b2 : s1 0 17 = nI 0 := by rw [a3, pf_same]; rfl
  refine lq0_run (P := fun o => ∃ τ', sameM τ τ' ∧ ((∃ p, p < le ∧ prs T le 200 0 rp0 = Sum.inl p ∧ o = some (nI p, τ')) ∨ ∃ r, prs T le 200 0 rp0 = Sum.inr r ∧ o = some (-4, τ') ∧ MPr τ' r ∧ RPok r)) (fun i s => sameM τ s ∧ ∃ p r, i ≤ p ∧ p ≤ le ∧ s 0 17 = nI p ∧ RPok r ∧ MPr s r ∧ prs T le (200 - i) p r = prs T le 200 0 rp0) 200 ?_ 100000 0 s1 (by decide) (by decide) ⟨b1, 0, rp0, Nat.le_refl _, Nat.zero_le _, b2, rp0_ok, a4, rfl⟩
  rintro i s hi ⟨h1, p, r, hip, hp, h17, hr, hm, hpr⟩ k
  have hle := ht.1
  have hts : TXM s T le := h.eq (h1.2 16 rfl) (h1.1 8 (by decide) (by decide))
  (try dsimp only)
  rw [hts.1, h17]
  by_cases c2 : p < le
  · have c : i < 200 := by omega
    obtain ⟨m, hm1⟩ : ∃ m, 200 - i = m + 1 := ⟨199 - i, by omega⟩
    have hm2 : 200 - (i + 1) = m := by omega
    rw [hm1] at hpr
    rw [if_neg (nI_ge c2 (by omega)), nm_ok]
    obtain ⟨s8, g1, g2⟩ := M_item hts ht c2 h17 hr hm
    rcases g2 with ⟨g2, g3⟩ | ⟨q, r', g2, g3, g4, g5⟩
    · rw [g3, bnd_ok, if_pos rfl]
      refine Or.inr ⟨s8, h1.tr g1, Or.inl ⟨p, c2, ?_, rfl⟩⟩
      rw [← hpr]; exact prs_none c2 g2
    · rw [g3, bnd_ok, if_neg n10]
      obtain ⟨o1, o2, o3⟩ := itm_ok ht hr g2
      refine Or.inl ⟨c, s8, ⟨h1.tr g1, q, r', by omega, o3, g4, o1, g5, ?_⟩, rfl⟩
      rw [hm2, ← hpr]; exact (prs_some c2 g2).symm
  · rw [if_pos (nI_le (by omega) (by omega))]
    refine Or.inr ⟨s, h1, Or.inr ⟨r, ?_, rfl, hm, hr⟩⟩
    rw [← hpr]; exact prs_end (by omega)
theorem st_fault {k : Nat} {σ τ : St} (h : Rel k σ τ) (hk : k < 64) : ST2 k (f_X10_fault__0 σ) (f_X11_fault__0 τ) := by
  obtain ⟨μ, hf, hn, hm⟩ := id h
  obtain ⟨w1, w2, w3, w4, w5, w6, w7, w8, w9, w10⟩ := hf
  have ht : TT (μ 11) (mle μ) := ⟨w9, w10⟩
  have hN : TXN σ (μ 11) (mle μ) := hn.1
  have hM : TXM τ (μ 11) (mle μ) := ⟨hm.2.1.2.2.2, hm.2.2.2.2.2.2⟩
  obtain ⟨σ', a1, a2⟩ := N_read5 hN ht
  obtain ⟨τ', b1, b2⟩ := M_read hM ht
  have hs : sameN σ σ' := fun p hp => by
    unfold scrN at hp; simp at hp
    exact a1 p (by omega) (by omega) (by omega)
  have hu : ∀ r : Int32, f_X6_readInto__3_5 σ = some (r, σ') → f_X10_fault__0 σ = some (r, σ') := fun r e => by
    unfold f_X10_fault__0; rw [e]; rfl
  rcases a2 with ⟨p, p1, p2, p3⟩ | ⟨r, p2, p3, p4, p5⟩
  · rcases b2 with ⟨p', q1, q2, q3⟩ | ⟨r', q2, q3, q4, q5⟩
    · rw [p2] at q2
      injection q2 with q2
      subst q2
      exact st_same h (hu _ p3) q3 hs b1
    · rw [p2] at q2; exact absurd q2 (by simp)
  · rcases b2 with ⟨p', q1, q2, q3⟩ | ⟨r', q2, q3, q4, q5⟩
    · rw [p2] at q2; exact absurd q2 (by simp)
    · exact st_same h (hu _ p3) q3 hs b1
