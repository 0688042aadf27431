/-! a text laid -/
def stL (r : RP) : Nat → Nat := fun j => if j = 0 then 0 else if j < 17 then r.sa (j - 1) else if j < 17 + r.nn then 2 ^ r.nb (j - 17) else 0
def muL (r : RP) (le : Nat) (f11 : Nat → Nat) : Mu := fun p => if p = 0 then (fun j => if j = 0 then r.R else if j = 1 then r.C else if j = 2 then r.nn else if j = 3 then r.ww else if j = 8 then le else 0) else if p = 1 then r.kd else if p = 2 then r.nk else if p = 3 then r.nw else if p = 4 then r.nb else if p = 5 then (fun i => if i < r.ww then r.wi i else 0) else if p = 6 then stL r else if p = 11 then f11 else fun _ => 0
theorem stL0 {r : RP} : stL r 0 = 0 := rfl
theorem stL1 {r : RP} {h : Nat} (hh : h < 16) : stL r (1 + h) = r.sa h := by
  unfold stL
  rw [if_neg (by omega), if_pos (by omega), show 1 + h - 1 = h by omega]
theorem stL2 {r : RP} {n : Nat} : stL r (17 + n) = if n < r.nn then 2 ^ r.nb n else 0 := by
  unfold stL
  rw [if_neg (by omega), if_neg (by omega), show 17 + n - 17 = n by omega]
  by_cases c : n < r.nn
  · rw [if_pos (by omega), if_pos c]
  · rw [if_neg (by omega), if_neg c]
theorem WP_L {r : RP} {le : Nat} {f11 : Nat → Nat} (hr : RPok r) : WP (muL r le f11) := by
  obtain ⟨r1, r2, r3, r4, r5, r6, r7, r8, r9⟩ := hr
  refine ⟨r1, r2, r3, r4, fun h _ => r5 h, fun n hn => ?_, fun i hi => ?_, fun h0 => ?_⟩
  · exact r7 n hn
  · show (if i < r.ww then r.wi i else 0) ≤ 4
    by_cases c : i < r.ww
    · rw [if_pos c]; exact r8 i c
    · rw [if_neg c]; exact Nat.zero_le _
  · have h0' : r.ww = 0 := h0
    show (if 0 < r.ww then r.wi 0 else 0) = 0
    rw [if_neg (by omega)]
theorem WF_L {k : Nat} {r : RP} {le : Nat} {f11 : Nat → Nat} (hr : RPok r) (ht : TT f11 le) : WF k (muL r le f11) := by
  refine ⟨WP_L hr, ⟨Nat.zero_le _, fun h hh => ?_, fun n hn => ⟨?_, fun hm => ?_⟩⟩, Nat.zero_le _, fun i hi => absurd hi (Nat.not_lt_zero i), Nat.zero_le _, fun i hi => absurd hi (Nat.not_lt_zero i), Nat.zero_le _, fun i hi => absurd hi (Nat.not_lt_zero i), ht.1, ht.2⟩
  · show stL r (1 + h) ≤ 6
    rw [stL1 hh]; exact hr.2.2.2.2.2.1 h
  · show stL r (17 + n) < 2 ^ (r.R * r.C)
    rw [stL2]
    by_cases c : n < r.nn
    · rw [if_pos c]; exact Nat.pow_lt_pow_right (by decide) (hr.2.2.2.2.2.2.1 n c).2.2.2
    · rw [if_neg c]; exact Nat.two_pow_pos _
  · have hm' : r.nn ≤ n := hm
    show stL r (17 + n) = 0
    rw [stL2, if_neg (by omega)]
theorem N_hasNews12 {σ : St} {m i : Nat} (h10 : σ 12 10 = nI m) (hm : m < 2 ^ 31) (hi : i < 2 ^ 31) : f_X4_hasNews__12 σ (nI i) = some (if i < m then 1 else 0, σ) := by
  unfold f_X4_hasNews__12
  simp only [jq0, h10, if_neg (nI_pos hi)]
  by_cases c : i < m
  · rw [if_neg (nI_ge c hm), if_pos c]
  · rw [if_pos (nI_le (by omega) hi), if_neg c]
theorem N_begin {σ : St} {r : RP} (hr : RPok r) (h : NPr 12 σ r) : ∃ σ', f_X9_begin__19_12 σ = some (0, σ') ∧ (∀ p, p ≠ 19 → p ≠ 20 → p ≠ 21 → σ' p = σ p) ∧ SNt σ' 19 (stL r) := by
  obtain ⟨r1, r2, r3, r4, r5, r6, r7, r8, r9⟩ := hr
  have hRC : r.R * r.C ≤ 16 := Nat.le_trans (Nat.mul_le_mul r1.2 r2.2) (by decide)
  unfold f_X9_begin__19_12
  refine lq1_run (P := fun o => ∃ σ', o = some (0, σ') ∧ (∀ p, p ≠ 19 → p ≠ 20 → p ≠ 21 → σ' p = σ p) ∧ SNt σ' 19 (stL r)) (fun i s x => x = nI i ∧ (∀ p, p ≠ 20 → s p = σ p) ∧ ∀ j, j < i → s 20 j = nI (r.sa j)) 16 ?_ 100000 0 σ 0 (by decide) (by decide) ⟨rfl, fun _ _ => rfl, fun j hj => absurd hj (Nat.not_lt_zero j)⟩
  rintro i s x hi ⟨rfl, h1, h2⟩ k
  (try dsimp only)
  by_cases c : i < 16
  · have hs : s 14 i = nI (r.sa i) := by rw [h1 14 (by decide)]; exact (h.2.2.1 i c).2
    rw [if_neg (show ¬ (16 : Int32) ≤ nI i from nI_ge (b := 16) c (by decide))]
    unfold f_X4_sashOf__12
    rw [at_14 c, bnd_ok, bnd_ok, put_20 c, bnd_ok, hs, nI_1, nm_ok]
    refine Or.inl ⟨c, ps s 20 (nI i) (nI (r.sa i)), nI (i + 1), ⟨rfl, fun p hp => by rw [ps_ne hp]; exact h1 p hp, fun j hj => ?_⟩, rfl⟩
    by_cases e : j = i
    · subst e; exact ps_same (by omega)
    · rw [ps_nk (by omega) e]; exact h2 j (by omega)
  · have e : i = 16 := by omega
    subst e
    rw [if_pos (show (16 : Int32) ≤ nI 16 by decide)]
    refine Or.inr ?_
    refine lq1_run (P := fun o => ∃ σ', o = some (0, σ') ∧ (∀ p, p ≠ 19 → p ≠ 20 → p ≠ 21 → σ' p = σ p) ∧ SNt σ' 19 (stL r)) (fun i t x => x = nI i ∧ (∀ p, p ≠ 21 → t p = s p) ∧ ∀ j, j < i → t 21 j = nI (if j < r.nn then 2 ^ r.nb j else 0)) 5 ?_ 100000 0 s 0 (by decide) (by decide) ⟨rfl, fun _ _ => rfl, fun j hj => absurd hj (Nat.not_lt_zero j)⟩
    rintro i t x hi ⟨rfl, g1, g2⟩ k
    (try dsimp only)
    by_cases c : i < 5
    · have t10 : t 12 10 = nI r.nn := by rw [g1 12 (by decide), h1 12 (by decide)]; exact h.2.1.1
      rw [if_neg (show ¬ (5 : Int32) ≤ nI i from nI_ge (b := 5) c (by decide)), show ∀ (A : St → Int32 → Int32 → Ot) (B : (St → Int32 → Int32 → Ot) → Ot), jq2 A B = B A from fun _ _ => rfl]
      (try dsimp only)
      rw [N_hasNews12 t10 (by omega) (by omega), bnd_ok]
      by_cases cn : i < r.nn
      · have tb : t 17 i = nI (r.nb i) := by rw [g1 17 (by decide), h1 17 (by decide)]; exact (h.2.2.2.1 i cn).2.2
        have hb16 := (r7 i cn).2.2.2
        unfold f_X4_beginningOf__12
        rw [ite_i cn, if_neg n10, at_17 c, bnd_ok, bnd_ok, tb, N_bit (show r.nb i < 16 by omega), bnd_ok, put_21 c, bnd_ok, nI_1, nm_ok]
        refine Or.inl ⟨c, ps t 21 (nI i) (nI (2 ^ r.nb i)), nI (i + 1), ⟨rfl, fun p hp => by rw [ps_ne hp]; exact g1 p hp, fun j hj => ?_⟩, rfl⟩
        by_cases e : j = i
        · subst e; rw [ps_same (by omega), if_pos cn]
        · rw [ps_nk (by omega) e]; exact g2 j (by omega)
      · rw [ite_o cn, if_pos rfl, put_21 c, bnd_ok, nI_1, nm_ok]
        refine Or.inl ⟨c, ps t 21 (nI i) 0, nI (i + 1), ⟨rfl, fun p hp => by rw [ps_ne hp]; exact g1 p hp, fun j hj => ?_⟩, rfl⟩
        by_cases e : j = i
        · subst e; rw [ps_same (by omega), if_neg cn]; rfl
        · rw [ps_nk (by omega) e]; exact g2 j (by omega)
    · have e : i = 5 := by omega
      subst e
      rw [if_pos (show (5 : Int32) ≤ nI 5 by decide), nm_ok]
      refine Or.inr ⟨pf t 19 2 0, rfl, fun p p1 p2 p3 => by rw [pf_ne p1, g1 p p3, h1 p p2], pf_same, fun h hh => ?_, fun n hn => ?_⟩
      · show pf t 19 2 0 20 h = nI (stL r (1 + h))
        rw [stL1 hh, pf_ne (by decide), g1 20 (by decide)]; exact h2 h hh
      · show pf t 19 2 0 21 n = nI (stL r (17 + n))
        rw [stL2, pf_ne (by decide)]; exact g2 n hn
theorem N_layText {σ : St} {T : Nat → Nat} {le : Nat} (h : TXN σ T le) (ht : TT T le) : ∃ σ', ((sameN σ σ' ∧ f_X10_layText__0 σ = some (0, σ') ∧ ∀ r, prs T le 200 0 rp0 = Sum.inr r → r.nn = 0) ∨ ∃ r, prs T le 200 0 rp0 = Sum.inr r ∧ r.nn ≠ 0 ∧ RPok r ∧ f_X10_layText__0 σ = some (1, σ') ∧ (σ' 1 = σ 1 ∧ σ' 2 = σ 2) ∧ NPr 12 σ' r ∧ SNt σ' 19 (stL r) ∧ (σ' 22 2 = 0 ∧ σ' 22 1 = σ 22 1) ∧ (σ' 48 2 = 0 ∧ σ' 48 1 = σ 48 1) ∧ σ' 62 6 = 0) := by
  have hle := ht.1
  obtain ⟨s2, a1, a2⟩ := N_read5 h ht
  have hs : sameN σ s2 := fun p hp => by
    unfold scrN at hp; simp at hp
    exact a1 p (by omega) (by omega) (by omega)
  unfold f_X10_layText__0
  rcases a2 with ⟨p, p1, p2, p3⟩ | ⟨r, p2, p3, p4, p5⟩
  · have hp4 : ¬ nI p = (-4 : Int32) := fun e => absurd (show (-4 : Int32) < 0 by decide) (by rw [← e]; exact nI_pos (by omega))
    rw [p3, bnd_ok, if_neg hp4]
    exact ⟨s2, Or.inl ⟨hs, rfl, fun r e => by rw [p2] at e; exact absurd e (by simp)⟩⟩
  · have h10 : s2 5 10 = nI r.nn := p4.2.1.1
    have hn5 := p5.2.2.1
    unfold f_X4_newsTold__5
    rw [p3, bnd_ok, if_pos rfl, h10, bnd_ok]
    by_cases c : r.nn = 0
    · rw [if_pos (by rw [c]; rfl)]
      exact ⟨s2, Or.inl ⟨hs, rfl, fun r' e => by rw [p2] at e; injection e with e; rw [← e]; exact c⟩⟩
    · rw [if_neg (show ¬ nI r.nn = (0 : Int32) from fun z => c ((nI_eq (a := r.nn) (b := 0) (by omega) (by decide)).mp z))]
      have h2 : TXN s2 T le := h.eq (a1 1 (by decide) (by decide) (Or.inl (by decide))) (a1 2 (by decide) (by decide) (Or.inl (by decide)))
      obtain ⟨s6, b1, b2⟩ := N_read12 h2 ht
      rcases b2 with ⟨p', q1, q2, q3⟩ | ⟨r', q2, q3, q4, q5⟩
      · rw [p2] at q2; exact absurd q2 (by simp)
      · rw [p2] at q2
        injection q2 with q2
        subst q2
        obtain ⟨s8, d1, d2, d3⟩ := N_begin p5 q4
        unfold f_X5_clear__22 f_X5_clear__48 f_X8_clear__62
        rw [q3, bnd_ok, d1, bnd_ok, nm_ok, bnd_ok, nm_ok, bnd_ok, nm_ok, bnd_ok]
        have fr : ∀ x, x ≠ 22 → x ≠ 48 → x ≠ 62 → (pf (pf (pf s8 22 2 0) 48 2 0) 62 6 0) x = s8 x := fun x x1 x2 x3 => by rw [pf_ne x3, pf_ne x2, pf_ne x1]
        have f8 : ∀ x, x ≠ 3 → x ≠ 4 → (x < 5 ∨ 11 < x) → (x < 12 ∨ 21 < x) → s8 x = σ x := fun x x3 x4 y1 y2 => by
          rw [d2 x (by omega) (by omega) (by omega), b1 x x3 x4 (by omega), a1 x x3 x4 (by omega)]
        refine ⟨_, Or.inr ⟨r, p2, c, p5, rfl, ⟨?_, ?_⟩, ?_, ?_, ⟨?_, ?_⟩, ⟨?_, ?_⟩, pf_same⟩⟩
        · rw [fr 1 (by decide) (by decide) (by decide), f8 1 (by decide) (by decide) (by decide) (by decide)]
        · rw [fr 2 (by decide) (by decide) (by decide), f8 2 (by decide) (by decide) (by decide) (by decide)]
        · exact q4.eq (fun x x1 x2 => by rw [fr x (by omega) (by omega) (by omega), d2 x (by omega) (by omega) (by omega)])
        · exact d3.same (fr 19 (by decide) (by decide) (by decide)) (fr 20 (by decide) (by decide) (by decide)) (fr 21 (by decide) (by decide) (by decide))
        · rw [pf_ne (by decide), pf_ne (by decide), pf_same]
        · rw [pf_ne (by decide), pf_ne (by decide), pf_nk (by decide), f8 22 (by decide) (by decide) (by decide) (by decide)]
        · rw [pf_ne (by decide), pf_same]
        · rw [pf_ne (by decide), pf_nk (by decide), pf_ne (by decide), f8 48 (by decide) (by decide) (by decide) (by decide)]
theorem RN_L {k : Nat} {σ : St} {r : RP} {le : Nat} {f11 : Nat → Nat} (hr : RPok r) (hT : TXN σ f11 le) (h12 : NPr 12 σ r) (h19 : SNt σ 19 (stL r)) (hu : σ 22 2 = 0 ∧ ∃ lw, lw ≤ k ∧ σ 22 1 = nI lw) (hk : σ 48 2 = 0 ∧ σ 48 1 = 0) (hv : σ 62 6 = 0) : RN k σ (muL r le f11) := by
  obtain ⟨⟨g6, g7, g8, g9⟩, ⟨g10, g11, g12⟩, gh, gn, gw⟩ := h12
  obtain ⟨u1, lw, u2, u3⟩ := hu
  have h8 := hr.2.2.2.1
  refine ⟨hT, ⟨g6, g7, g8, g9, g10, g11, fun h hh => (gh h hh).1, fun n hn => gn n hn, fun i hi => ?_⟩, h19, ⟨u1, lw, u2, u3, fun i hi => absurd hi (Nat.not_lt_zero i)⟩, ⟨hk.1, hk.2, fun i hi => absurd hi (Nat.not_lt_zero i)⟩, hv, fun i hi => absurd hi (Nat.not_lt_zero i)⟩
  have hi' : i < (if r.ww = 0 then 1 else r.ww) := hi
  have hW : (if r.ww = 0 then 1 else r.ww) ≤ 8 := by
    by_cases c : r.ww = 0
    · rw [if_pos c]; decide
    · rw [if_neg c]; exact h8
  exact gw i (Nat.lt_of_lt_of_le hi' hW)
theorem jq1_run {P : Ot → Prop} {K : St → Int32 → Ot} {B : (St → Int32 → Ot) → Ot} (s : St) (w : Int32) (hB : ∀ K' : St → Int32 → Ot, B K' = K' s w) (h : P (K s w)) : P (jq1 K B) := by
  unfold jq1; rw [hB]; exact h
def MPq (τ : St) (r : RP) : Prop := (τ 0 20 = nI r.R ∧ τ 0 21 = nI r.C ∧ τ 0 24 = nI r.nn ∧ τ 0 26 = nI r.ww) ∧ (∀ h, h < 16 → τ 10 h = nI (r.kd h) ∧ τ 11 h = nI (r.sa h)) ∧ (∀ n, n < r.nn → τ 12 (3 * n) = nI (r.nk n) ∧ τ 12 (3 * n + 1) = nI (r.nw n) ∧ τ 12 (3 * n + 2) = nI (r.nb n)) ∧ ∀ i, i < r.ww → τ 13 i = nI (r.wi i)
theorem MPr.q {τ : St} {r : RP} (h : MPr τ r) : MPq τ r := ⟨h.1.2, h.2⟩
theorem M_settles {τ : St} {r : RP} (hr : RPok r) (h : MPq τ r) : ∃ τ', f_X11_settles__0 τ = some (0, τ') ∧ τ' 0 2 = nI (r.R * r.C) ∧ ∀ le f11, TXM τ f11 le → RM τ' (muL r le f11) := by
  obtain ⟨r1, r2, r3, r4, r5, r6, r7, r8, r9⟩ := hr
  have hRC : r.R * r.C ≤ 16 := Nat.le_trans (Nat.mul_le_mul r1.2 r2.2) (by decide)
  obtain ⟨⟨m2, m3, m4, m5⟩, m6, m7, m8⟩ := h
  have W : ∃ w, w = (if r.ww = 0 then 1 else r.ww) := ⟨_, rfl⟩
  obtain ⟨w, hw⟩ := W
  have hw8 : 1 ≤ w ∧ w ≤ 8 := by
    rw [hw]
    by_cases c : r.ww = 0
    · rw [if_pos c]; decide
    · rw [if_neg c]; omega
  -- the parish
  have t21 : (pf τ 0 0 (nI r.R)) 0 21 = nI r.C := by rw [pf_nk (by decide)]; exact m3
  have t0 : (pf (pf τ 0 0 (nI r.R)) 0 1 (nI r.C)) 0 0 = nI r.R := by rw [pf_nk (by decide), pf_same]
  have t1 : (pf (pf τ 0 0 (nI r.R)) 0 1 (nI r.C)) 0 1 = nI r.C := pf_same
  have a0 : (pf (pf (pf τ 0 0 (nI r.R)) 0 1 (nI r.C)) 0 2 (nI (r.R * r.C))) 0 0 = nI r.R := by rw [pf_nk (by decide)]; exact t0
  have a1 : (pf (pf (pf τ 0 0 (nI r.R)) 0 1 (nI r.C)) 0 2 (nI (r.R * r.C))) 0 1 = nI r.C := by rw [pf_nk (by decide)]; exact t1
  have a2 : (pf (pf (pf τ 0 0 (nI r.R)) 0 1 (nI r.C)) 0 2 (nI (r.R * r.C))) 0 2 = nI (r.R * r.C) := pf_same
  have aj : ∀ j, j ≠ 0 → j ≠ 1 → j ≠ 2 → (pf (pf (pf τ 0 0 (nI r.R)) 0 1 (nI r.C)) 0 2 (nI (r.R * r.C))) 0 j = τ 0 j := fun j j0 j1 j2 => by rw [pf_nk j2, pf_nk j1, pf_nk j0]
  have ap : ∀ p, p ≠ 0 → (pf (pf (pf τ 0 0 (nI r.R)) 0 1 (nI r.C)) 0 2 (nI (r.R * r.C))) p = τ p := fun p hp => by rw [pf_ne hp, pf_ne hp, pf_ne hp]
  obtain ⟨s25, hs25⟩ : ∃ s, s = pf (pf (pf τ 0 0 (nI r.R)) 0 1 (nI r.C)) 0 2 (nI (r.R * r.C)) := ⟨_, rfl⟩
  rw [← hs25] at a0 a1 a2 aj ap
  obtain ⟨s27, c1, c2, c3, -⟩ := cp_1_10 (τ := s25) (a := 0) (b := 0) (n := 16) (by decide) (by decide)
  have c1' : f_X11_copies__1_10 s25 0 0 16 = some (0, s27) := c1
  have c24 : s27 0 24 = nI r.nn := by rw [c2 0 (by decide), aj 24 (by decide) (by decide) (by decide)]; exact m4
  obtain ⟨s30, e1, e2, e3, -⟩ := cp_2_12 (τ := pf s27 0 4 (nI r.nn)) (a := 0) (b := 0) (n := 15) (by decide) (by decide)
  have e1' : f_X11_copies__2_12 (pf s27 0 4 (nI r.nn)) 0 0 15 = some (0, s30) := e1
  have p0 : ∀ j, j ≠ 0 → j ≠ 1 → j ≠ 2 → j ≠ 4 → s30 0 j = τ 0 j := fun j j0 j1 j2 j4 => by rw [e2 0 (by decide), pf_nk j4, c2 0 (by decide), aj j j0 j1 j2]
  have z0 : s30 0 0 = nI r.R := by rw [e2 0 (by decide), pf_nk (by decide), c2 0 (by decide)]; exact a0
  have z1 : s30 0 1 = nI r.C := by rw [e2 0 (by decide), pf_nk (by decide), c2 0 (by decide)]; exact a1
  have z2 : s30 0 2 = nI (r.R * r.C) := by rw [e2 0 (by decide), pf_nk (by decide), c2 0 (by decide)]; exact a2
  have z4 : s30 0 4 = nI r.nn := by rw [e2 0 (by decide), pf_same]
  have zp : ∀ p, p ≠ 0 → p ≠ 1 → p ≠ 2 → s30 p = τ p := fun p q0 q1 q2 => by rw [e2 p q2, pf_ne q0, c2 p q1, ap p q0]
  have zk : ∀ h, h < 16 → s30 1 h = nI (r.kd h) := fun h hh => by
    have := c3 h hh
    rw [Nat.zero_add] at this
    rw [e2 1 (by decide), pf_ne (by decide), this, ap 10 (by decide)]; exact (m6 h hh).1
  have zn : ∀ j, j < 15 → s30 2 j = τ 12 j := fun j hj => by
    have := e3 j hj
    rw [Nat.zero_add] at this
    rw [this, pf_ne (by decide), c2 12 (by decide), ap 12 (by decide)]
  have z26 : s30 0 26 = nI r.ww := by rw [p0 26 (by decide) (by decide) (by decide) (by decide)]; exact m5
  unfold f_X11_settles__0
  refine jq1_run (P := fun o => ∃ τ', o = some (0, τ') ∧ τ' 0 2 = nI (r.R * r.C) ∧ ∀ le f11, TXM τ f11 le → RM τ' (muL r le f11)) s30 (nI w) (fun k1 => ?_) ?_
  · rw [m2, nm_ok, t21, nm_ok, t0, t1, pk_mul, nm_ok, ← hs25, c1', bnd_ok, c24, nm_ok, e1', bnd_ok, z26, hw]
    by_cases c : r.ww = 0
    · rw [if_pos (by rw [c]; rfl), if_pos c]; rfl
    · rw [if_neg (show ¬ nI r.ww = (0 : Int32) from fun z => c ((nI_eq (a := r.ww) (b := 0) (by omega) (by decide)).mp z)), if_neg c]
  clear a0 a1 a2 aj ap c1 c2 c3 c1' c24 e1 e2 e3 e1' t0 t1 t21 hs25
  (try dsimp only)
  -- the winds
  obtain ⟨s7, g1, g2, g3, g4⟩ := cp_3_13 (τ := ps (pf s30 0 6 (nI w)) 3 0 0) (a := 0) (b := 0) (n := r.ww) (by omega) (by omega)
  have g1' : f_X11_copies__3_13 (ps (pf s30 0 6 (nI w)) 3 0 0) 0 0 (nI r.ww) = some (0, s7) := g1
  have y26 : (ps (pf s30 0 6 (nI w)) 3 0 0) 0 26 = nI r.ww := by rw [ps_ne (by decide), pf_nk (by decide)]; exact z26
  have gd0 : ∀ k : Ot, gd (0 : Int32) 8 k = k := fun k => gd_nI (j := 0) (by decide) (by decide)
  have q0 : ∀ j, j ≠ 6 → s7 0 j = s30 0 j := fun j hj => by rw [g2 0 (by decide), ps_ne (by decide), pf_nk hj]
  have q6 : s7 0 6 = nI w := by rw [g2 0 (by decide), ps_ne (by decide), pf_same]
  have qp : ∀ p, p ≠ 0 → p ≠ 3 → s7 p = s30 p := fun p h0 h3 => by rw [g2 p h3, ps_ne h3, pf_ne h0]
  have q3 : ∀ i, i < w → s7 3 i = nI (if i < r.ww then r.wi i else 0) := fun i hi => by
    by_cases c : i < r.ww
    · have := g3 i c
      rw [Nat.zero_add] at this
      rw [this, ps_ne (by decide), pf_ne (by decide), zp 13 (by decide) (by decide) (by decide), if_pos c]; exact m8 i c
    · have hi0 : i = 0 := by
        rw [hw] at hi
        by_cases c0 : r.ww = 0
        · rw [if_pos c0] at hi; omega
        · rw [if_neg c0] at hi; omega
      subst hi0
      rw [g4 0 (Or.inr (by omega)), if_neg c]
      exact ps_same (j := 0) (by decide)
  rw [nm_ok, gd0, nm_ok, y26, g1', bnd_ok]
  clear g1 g2 g3 g4 g1' y26 z26
  have P0 : ∀ j, j ≠ 0 → j ≠ 1 → j ≠ 2 → j ≠ 4 → j ≠ 6 → s7 0 j = τ 0 j := fun j j0 j1 j2 j4 j6 => by rw [q0 j j6, p0 j j0 j1 j2 j4]
  have Pp : ∀ p, p ≠ 0 → p ≠ 1 → p ≠ 2 → p ≠ 3 → s7 p = τ p := fun p p0 p1 p2 p3 => by rw [qp p p0 p3, zp p p0 p1 p2]
  have Z0 : s7 0 0 = nI r.R := by rw [q0 0 (by decide)]; exact z0
  have Z1 : s7 0 1 = nI r.C := by rw [q0 1 (by decide)]; exact z1
  have Z2 : s7 0 2 = nI (r.R * r.C) := by rw [q0 2 (by decide)]; exact z2
  have Z4 : s7 0 4 = nI r.nn := by rw [q0 4 (by decide)]; exact z4
  have ZK : ∀ h, h < 16 → s7 1 h = nI (r.kd h) := fun h hh => by rw [qp 1 (by decide) (by decide)]; exact zk h hh
  have ZN : ∀ j, j < 15 → s7 2 j = τ 12 j := fun j hj => by rw [qp 2 (by decide) (by decide)]; exact zn j hj
  clear p0 zp z0 z1 z2 z4 zk zn q0 qp
  -- how it stands
  refine lq1_run (P := fun o => ∃ τ', o = some (0, τ') ∧ τ' 0 2 = nI (r.R * r.C) ∧ ∀ le f11, TXM τ f11 le → RM τ' (muL r le f11)) (fun i s x => x = nI i ∧ (∀ p, p ≠ 4 → s p = s7 p) ∧ ∀ j, j < i → s 4 j = 0) 22 ?_ 100000 0 s7 0 (by decide) (by decide) ⟨rfl, fun _ _ => rfl, fun j hj => absurd hj (Nat.not_lt_zero j)⟩
  rintro i s x hi ⟨rfl, h1, h2⟩ k
  (try dsimp only)
  by_cases c : i < 22
  · rw [if_neg (show ¬ (22 : Int32) ≤ nI i from nI_ge (b := 22) c (by decide)), gd_nI c (by decide), nm_ok, nI_1, nm_ok]
    refine Or.inl ⟨c, ps s 4 (nI i) 0, nI (i + 1), ⟨rfl, fun p hp => by rw [ps_ne hp]; exact h1 p hp, fun j hj => ?_⟩, rfl⟩
    by_cases e : j = i
    · subst e; exact ps_same (by omega)
    · rw [ps_nk (by omega) e]; exact h2 j (by omega)
  have e : i = 22 := by omega
  subst e
  rw [if_pos (show (22 : Int32) ≤ nI 22 by decide)]
  refine Or.inr ?_
  obtain ⟨s12, c1, c2, c3, c4⟩ := cp_4_11 (τ := s) (a := 1) (b := 0) (n := 16) (by decide) (by decide)
  have c1' : f_X11_copies__4_11 s 1 0 16 = some (0, s12) := c1
  rw [c1', bnd_ok]
  have d0 : s12 4 0 = 0 := by rw [c4 0 (Or.inl (by decide))]; exact h2 0 (by decide)
  have dh : ∀ h, h < 16 → s12 4 (1 + h) = nI (r.sa h) := fun h hh => by
    have := c3 h hh
    rw [Nat.zero_add] at this
    rw [this, h1 11 (by decide), Pp 11 (by decide) (by decide) (by decide) (by decide)]; exact (m6 h hh).2
  have dn : ∀ n, n < 5 → s12 4 (17 + n) = 0 := fun n hn => by rw [c4 (17 + n) (Or.inr (by omega))]; exact h2 (17 + n) (by omega)
  have dp : ∀ p, p ≠ 4 → s12 p = s7 p := fun p hp => by rw [c2 p hp, h1 p hp]
  clear c1 c2 c3 c4 c1' h1 h2
  refine lq1_run (P := fun o => ∃ τ', o = some (0, τ') ∧ τ' 0 2 = nI (r.R * r.C) ∧ ∀ le f11, TXM τ f11 le → RM τ' (muL r le f11)) (fun i t x => x = nI i ∧ (∀ p, p ≠ 4 → t p = s7 p) ∧ t 4 0 = 0 ∧ (∀ h, h < 16 → t 4 (1 + h) = nI (r.sa h)) ∧ ∀ n, n < 5 → t 4 (17 + n) = nI (if n < i then 2 ^ r.nb n else 0)) r.nn ?_ 100000 0 s12 0 (by omega) (by omega) ⟨rfl, dp, d0, dh, fun n hn => by rw [if_neg (Nat.not_lt_zero n)]; exact dn n hn⟩
  rintro i t x hi ⟨rfl, f1, f2, f3, f4⟩ k
  (try dsimp only)
  have t04 : t 0 4 = nI r.nn := by rw [f1 0 (by decide)]; exact Z4
  rw [t04]
  by_cases c : i < r.nn
  · have hn := r7 i c
    have t2 : t 2 (3 * i + 2) = nI (r.nb i) := by rw [f1 2 (by decide), ZN (3 * i + 2) (by omega)]; exact (m7 i c).2.2
    have x3 : (3 : Int32) * nI i + 2 = nI (3 * i + 2) := by rw [show (3 : Int32) * nI i = nI (3 * i) from pk_mul 3 i]; exact nI_add _ 2
    have x17 : (17 : Int32) + nI i = nI (17 + i) := nI_add 17 i
    rw [if_neg (nI_ge c (by omega)), x3, x17, gd_nI (show 3 * i + 2 < 15 by omega) (by decide), gd_nI (show 17 + i < 22 by omega) (by decide), nI_clamp (by omega), t2, nx_bit (show r.nb i < 31 by omega), nm_ok, nI_1, nm_ok]
    refine Or.inl ⟨c, ps t 4 (nI (17 + i)) (nI (2 ^ r.nb i)), nI (i + 1), ⟨rfl, fun p hp => by rw [ps_ne hp]; exact f1 p hp, ?_, fun h hh => ?_, fun n hn => ?_⟩, rfl⟩
    · rw [ps_nk (by omega) (by omega)]; exact f2
    · rw [ps_nk (by omega) (by omega)]; exact f3 h hh
    · by_cases e : n = i
      · subst e; rw [ps_same (by omega), if_pos (by omega)]
      · rw [ps_nk (by omega) (by omega), f4 n hn]
        by_cases e2 : n < i
        · rw [if_pos e2, if_pos (by omega)]
        · rw [if_neg e2, if_neg (by omega)]
  have e : i = r.nn := by omega
  subst e
  rw [if_pos (nI_le (Nat.le_refl _) (by omega)), nm_ok, nm_ok, nm_ok]
  have F0 : ∀ j, j ≠ 9 → j ≠ 11 → j ≠ 13 → (pf (pf (pf t 0 9 0) 0 11 0) 0 13 0) 0 j = s7 0 j := fun j j9 j11 j13 => by rw [pf_nk j13, pf_nk j11, pf_nk j9, f1 0 (by decide)]
  have Fp : ∀ p, p ≠ 0 → (pf (pf (pf t 0 9 0) 0 11 0) 0 13 0) p = t p := fun p hp => by rw [pf_ne hp, pf_ne hp, pf_ne hp]
  have F9 : (pf (pf (pf t 0 9 0) 0 11 0) 0 13 0) 0 9 = nI 0 := by rw [pf_nk (by decide), pf_nk (by decide), pf_same]; rfl
  have F11 : (pf (pf (pf t 0 9 0) 0 11 0) 0 13 0) 0 11 = nI 0 := by rw [pf_nk (by decide), pf_same]; rfl
  have F13 : (pf (pf (pf t 0 9 0) 0 11 0) 0 13 0) 0 13 = nI 0 := by rw [pf_same]; rfl
  refine Or.inr ⟨_, rfl, by rw [F0 2 (by decide) (by decide) (by decide)]; exact Z2, fun le f11 hT => ?_⟩
  generalize pf (pf (pf t 0 9 0) 0 11 0) 0 13 0 = F at F0 Fp F9 F11 F13
  have x0 : F 0 0 = nI r.R := by rw [F0 0 (by decide) (by decide) (by decide)]; exact Z0
  have x1 : F 0 1 = nI r.C := by rw [F0 1 (by decide) (by decide) (by decide)]; exact Z1
  have x2 : F 0 2 = nI (r.R * r.C) := by rw [F0 2 (by decide) (by decide) (by decide)]; exact Z2
  have x4 : F 0 4 = nI r.nn := by rw [F0 4 (by decide) (by decide) (by decide)]; exact Z4
  have x6 : F 0 6 = nI (if r.ww = 0 then 1 else r.ww) := by rw [F0 6 (by decide) (by decide) (by decide), ← hw]; exact q6
  have x16 : F 0 16 = nI le := by rw [F0 16 (by decide) (by decide) (by decide), P0 16 (by decide) (by decide) (by decide) (by decide) (by decide)]; exact hT.1
  have xk : ∀ h, h < 16 → F 1 h = nI (r.kd h) := fun h hh => by rw [Fp 1 (by decide), f1 1 (by decide)]; exact ZK h hh
  have xn : ∀ n, n < r.nn → F 2 (3 * n) = nI (r.nk n) ∧ F 2 (3 * n + 1) = nI (r.nw n) ∧ F 2 (3 * n + 2) = nI (r.nb n) := fun n hn => by
    rw [Fp 2 (by decide), f1 2 (by decide), ZN (3 * n) (by omega), ZN (3 * n + 1) (by omega), ZN (3 * n + 2) (by omega)]; exact m7 n hn
  have xw : ∀ i, i < (if r.ww = 0 then 1 else r.ww) → F 3 i = nI (if i < r.ww then r.wi i else 0) := fun i hi => by
    rw [Fp 3 (by decide), f1 3 (by decide)]; exact q3 i (by rw [hw]; exact hi)
  have xs : ∀ j, j < 22 → F 4 j = nI (stL r j) := fun j hj => by
    rw [Fp 4 (by decide)]
    by_cases c0 : j = 0
    · subst c0; rw [stL0]; exact f2
    · by_cases c1 : j < 17
      · have hh := f3 (j - 1) (by omega)
        have hs := stL1 (r := r) (h := j - 1) (by omega)
        rw [show 1 + (j - 1) = j by omega] at hh hs
        rw [hh, hs]
      · have hh := f4 (j - 17) (by omega)
        have hs := stL2 (r := r) (n := j - 17)
        rw [show 17 + (j - 17) = j by omega] at hh hs
        rw [hh, hs]
  have xt : ∀ j, j < le → F 8 j = nI (f11 j) := fun j hj => by rw [Fp 8 (by decide), f1 8 (by decide), Pp 8 (by decide) (by decide) (by decide) (by decide)]; exact hT.2 j hj
  exact ⟨⟨x0, x1, x2, x4, x6, xk, xn, xw⟩, ⟨F9, F11, F13, x16⟩, xs, fun j hj => absurd hj (Nat.not_lt_zero j), fun j hj => absurd hj (Nat.not_lt_zero j), fun j hj => absurd hj (Nat.not_lt_zero j), xt⟩
theorem st_lay {k : Nat} {σ τ : St} (h : Rel k σ τ) (hk : k < 64) : ST2 k (f_X10_lay__0 σ) (f_X11_lay__0 τ) := by
  obtain ⟨μ, hf, hn, hm⟩ := id h
  obtain ⟨w1, w2, w3, w4, w5, w6, w7, w8, w9, w10⟩ := hf
  have ht : TT (μ 11) (mle μ) := ⟨w9, w10⟩
  have hN : TXN σ (μ 11) (mle μ) := hn.1
  have hM : TXM τ (μ 11) (mle μ) := ⟨hm.2.1.2.2.2, hm.2.2.2.2.2.2⟩
  obtain ⟨σ', a⟩ := N_layText hN ht
  obtain ⟨τ', b1, b2⟩ := M_read hM ht
  unfold f_X10_lay__0 f_X11_lay__0
  rcases a with ⟨a1, a2, a3⟩ | ⟨r, a1, a2, a3, a4, ⟨a5, a6⟩, a7, a8, ⟨a9, a10⟩, ⟨a11, a12⟩, a13⟩
  · rw [a2, bnd_ok, if_pos rfl]
    rcases b2 with ⟨p', q1, q2, q3⟩ | ⟨r', q2, q3, q4, q5⟩
    · have hp4 : ¬ nI p' = (-4 : Int32) := fun e => absurd (show (-4 : Int32) < 0 by decide) (by rw [← e]; exact nI_pos (by omega))
      rw [q3, bnd_ok, if_neg hp4]
      exact st_same h rfl rfl a1 b1
    · have h24 : τ' 0 24 = nI r'.nn := q4.1.2.2.2.1
      rw [q3, bnd_ok, if_pos rfl, h24, if_pos (by rw [a3 r' q2]; rfl)]
      exact st_same h rfl rfl a1 b1
  · rcases b2 with ⟨p', q1, q2, q3⟩ | ⟨r', q2, q3, q4, q5⟩
    · rw [a1] at q2; exact absurd q2 (by simp)
    · rw [a1] at q2
      injection q2 with q2
      subst q2
      have h24 : τ' 0 24 = nI r.nn := q4.1.2.2.2.1
      have hn5 := a3.2.2.1
      obtain ⟨τ2, e1, e2, e3⟩ := M_settles a3 q4.q
      have hM2 : TXM τ' (μ 11) (mle μ) := hM.eq (b1.2 16 rfl) (b1.1 8 (by decide) (by decide))
      rw [a4, bnd_ok, if_neg n10]
      rw [q3, bnd_ok, if_pos rfl, h24, if_neg (show ¬ nI r.nn = (0 : Int32) from fun z => a2 ((nI_eq (a := r.nn) (b := 0) (by omega) (by decide)).mp z)), e1, bnd_ok, e2]
      unfold f_X4_houses__12
      rw [a7.1.1, a7.1.2.1, pk_mul, bnd_ok]
      obtain ⟨u1, lw, u2, u3, u4⟩ := hn.2.2.2.1
      obtain ⟨k1, k2, k3⟩ := hn.2.2.2.2.1
      have k20 : σ 48 1 = 0 := k2
      exact ⟨nI (r.R * r.C), σ', τ2, rfl, rfl, muL r (mle μ) (μ 11), WF_L a3 ht, RN_L a3 (hN.eq a5 a6) a7 a8 ⟨a9, lw, by omega, by rw [a10]; exact u3⟩ ⟨a11, by rw [a12]; exact k20⟩ a13, e3 _ _ hM2⟩
