/-! THE TEXT: letters and numbers -/
def Lt (T : Nat → Nat) (le p : Nat) : Nat := if p < le then T p else 0
def isF (b : Nat) : Bool := decide (48 ≤ b) && decide (b ≤ 57)
def rdNum (T : Nat → Nat) (le p : Nat) : Option (Nat × Nat) :=
  if isF (Lt T le p) = true then (if isF (Lt T le (p + 1)) = true then some (10 * (Lt T le p - 48) + (Lt T le (p + 1) - 48), p + 2) else some (Lt T le p - 48, p + 1)) else none
def rdSt (T : Nat → Nat) (le p : Nat) : Option (Nat × Nat × Bool) := match rdNum T le p with
  | none => none
  | some (v, q) => if Lt T le q = 59 then some (v, q + 1, true) else if Lt T le q = 44 then some (v, q + 1, false) else none
def rdN (T : Nat → Nat) (le p : Nat) : Option (Nat × Nat × Nat × Nat × Nat) := match rdSt T le p with
  | none => none
  | some (a, p1, true) => some (1, p1, a, 0, 0)
  | some (a, p1, false) => match rdSt T le p1 with
    | none => none
    | some (b, p2, true) => some (2, p2, a, b, 0)
    | some (b, p2, false) => match rdSt T le p2 with
      | none => none
      | some (c, p3, true) => some (3, p3, a, b, c)
      | some (_, _, false) => none
def TT (T : Nat → Nat) (le : Nat) : Prop := le ≤ 200 ∧ ∀ i, i < le → 32 ≤ T i ∧ T i ≤ 126
theorem Lt_le {T : Nat → Nat} {le p : Nat} (h : TT T le) : Lt T le p ≤ 126 := by
  unfold Lt
  split
  · rename_i hp; exact (h.2 p hp).2
  · omega
theorem Lt_in {T : Nat → Nat} {le p : Nat} (h : Lt T le p ≠ 0) : p < le := by
  unfold Lt at h
  split at h
  · assumption
  · exact absurd rfl h
theorem rdNum_q {T : Nat → Nat} {le p v q : Nat} (h : TT T le) (e : rdNum T le p = some (v, q)) : v ≤ 99 ∧ p < q ∧ q ≤ p + 2 ∧ p < le := by
  unfold rdNum at e
  split at e
  · rename_i h1
    have hp : p < le := Lt_in (fun z => by rw [z] at h1; exact absurd h1 (by decide))
    unfold isF at h1
    simp at h1
    split at e
    · rename_i h2
      unfold isF at h2
      simp at h2
      injection e with e; injection e with e1 e2
      omega
    · injection e with e; injection e with e1 e2
      omega
  · exact absurd e (by simp)
theorem rdSt_q {T : Nat → Nat} {le p v q : Nat} {b : Bool} (h : TT T le) (e : rdSt T le p = some (v, q, b)) : v ≤ 99 ∧ p < q ∧ q ≤ p + 3 ∧ q ≤ le := by
  unfold rdSt at e
  cases hr : rdNum T le p with
  | none => rw [hr] at e; exact absurd e (by simp)
  | some r =>
    obtain ⟨v1, q1⟩ := r
    rw [hr] at e
    have := rdNum_q h hr
    simp only [] at e
    split at e
    · rename_i h1
      have := Lt_in (T := T) (le := le) (p := q1) (by omega)
      injection e with e; injection e with e1 e2; injection e2 with e2 e3
      omega
    · split at e
      · rename_i h1
        have := Lt_in (T := T) (le := le) (p := q1) (by omega)
        injection e with e; injection e with e1 e2; injection e2 with e2 e3
        omega
      · exact absurd e (by simp)
/-! the system reads -/
def TXN (σ : St) (T : Nat → Nat) (le : Nat) : Prop := σ 1 1 = nI le ∧ ∀ i, i < le → σ 2 i = nI (T i)
def frP (σ σ' : St) : Prop := ∀ p, p ≠ 3 → p ≠ 4 → σ' p = σ p
theorem frP.rf {σ : St} : frP σ σ := fun _ _ _ => rfl
theorem frP.tr {a b c : St} (h : frP a b) (h2 : frP b c) : frP a c := fun p x y => (h2 p x y).trans (h p x y)
theorem TXN.eq {σ σ' : St} {T : Nat → Nat} {le : Nat} (h : TXN σ T le) (h1 : σ' 1 = σ 1) (h2 : σ' 2 = σ 2) : TXN σ' T le := by unfold TXN; rw [h1, h2]; exact h
theorem TXN.fr {σ σ' : St} {T : Nat → Nat} {le : Nat} (h : TXN σ T le) (hf : frP σ σ') : TXN σ' T le := h.eq (hf 1 (by decide) (by decide)) (hf 2 (by decide) (by decide))
theorem N_letter {σ : St} {T : Nat → Nat} {le p : Nat} (h : TXN σ T le) (ht : TT T le) (hp : p < 2 ^ 30) : f_X7_letterAt__1 σ (nI p) = some (nI (Lt T le p), σ) := by
  have hle := ht.1
  unfold f_X7_letterAt__1 Lt
  rw [h.1]
  by_cases c : p < le
  · rw [if_neg (nI_ge c (by omega)), at_2 (show p < 200 by omega), bnd_ok, if_pos c, h.2 p c]
  · rw [if_pos (nI_le (by omega) (by omega)), if_neg c]; rfl
theorem N_fig {σ : St} {b : Nat} (hb : b < 2 ^ 31) : f_X6_isFigure σ (nI b) = some (if isF b = true then 1 else 0, σ) := by
  unfold f_X6_isFigure isF
  by_cases c : 48 ≤ b
  · by_cases d : b ≤ 57
    · have h1 : ¬ nI b < (48 : Int32) := nI_nlt (b := 48) c hb
      have h2 : ¬ (57 : Int32) < nI b := nI_nlt (a := 57) d (by decide)
      rw [N_within h1 h2, bnd_ok]; simp [c, d]; rfl
    · have h1 : ¬ nI b < (48 : Int32) := nI_nlt (b := 48) c hb
      have h2 : (57 : Int32) < nI b := nI_lt (a := 57) (by omega) hb
      rw [N_within0 (Or.inr ⟨h1, h2⟩), bnd_ok]; simp [d]; rfl
  · have h1 : nI b < (48 : Int32) := nI_lt (b := 48) (by omega) (by decide)
    rw [N_within0 (Or.inl h1), bnd_ok]; simp [c]; rfl
theorem N_readNumber {σ : St} {T : Nat → Nat} {le p : Nat} (h : TXN σ T le) (ht : TT T le) (hp : p < 1000) (h3 : σ 3 2 = nI p) : ∃ σ', frP σ σ' ∧ (∀ j, σ' 4 j = σ 4 j) ∧ ((rdNum T le p = none ∧ f_X6_readNumber__3 σ = some (-1, σ')) ∨ ∃ v q, rdNum T le p = some (v, q) ∧ f_X6_readNumber__3 σ = some (nI v, σ') ∧ σ' 3 2 = nI q) := by
  have hl1 := Lt_le ht (p := p)
  have hl2 := Lt_le ht (p := p + 1)
  have f1 : ∀ (s : St) (j : Nat) (v : Int32), frP s (pf s 3 j v) := fun s j v p a b => pf_ne a
  unfold f_X6_readNumber__3
  rw [h3, N_letter h ht (by omega), bnd_ok, N_fig (by omega), bnd_ok]
  by_cases c : isF (Lt T le p) = true
  · have e1 : (if isF (Lt T le p) = true then (1 : Int32) else 0) = 1 := if_pos c
    have hc := c
    unfold isF at hc
    simp at hc
    rw [e1, if_neg n10, h3, nI_1, nm_ok, pf_same, N_letter (h.fr (f1 _ _ _)) ht (by omega), bnd_ok, N_fig (by omega), bnd_ok]
    have d48 : nI (Lt T le p) - (48 : Int32) = nI (Lt T le p - 48) := pk_sub (b := 48) hc.1
    by_cases d : isF (Lt T le (p + 1)) = true
    · have e2 : (if isF (Lt T le (p + 1)) = true then (1 : Int32) else 0) = 1 := if_pos d
      have hd := d
      unfold isF at hd
      simp at hd
      have m10 : (10 : Int32) * nI (Lt T le p - 48) + nI (Lt T le (p + 1)) - (48 : Int32) = nI (10 * (Lt T le p - 48) + (Lt T le (p + 1) - 48)) := by
        rw [show (10 : Int32) * nI (Lt T le p - 48) = nI (10 * (Lt T le p - 48)) from pk_mul 10 _, nI_add]
        rw [show nI (10 * (Lt T le p - 48) + Lt T le (p + 1)) - (48 : Int32) = nI (10 * (Lt T le p - 48) + Lt T le (p + 1) - 48) from pk_sub (b := 48) (by omega)]
        congr 1; omega
      rw [e2, if_neg n10, pf_same, nI_1, nm_ok, d48, m10]
      refine ⟨_, (f1 _ _ _).tr (f1 _ _ _), fun j => by rw [pf_ne (by decide), pf_ne (by decide)], Or.inr ⟨_, p + 2, ?_, rfl, pf_same⟩⟩
      unfold rdNum
      rw [if_pos c, if_pos d]
    · have e2 : (if isF (Lt T le (p + 1)) = true then (1 : Int32) else 0) = 0 := if_neg d
      rw [e2, if_pos rfl, d48]
      refine ⟨_, f1 _ _ _, fun j => by rw [pf_ne (by decide)], Or.inr ⟨_, p + 1, ?_, rfl, pf_same⟩⟩
      unfold rdNum
      rw [if_pos c, if_neg d]
  · have e1 : (if isF (Lt T le p) = true then (1 : Int32) else 0) = 0 := if_neg c
    rw [e1, if_pos rfl]
    refine ⟨σ, frP.rf, fun _ => rfl, Or.inl ⟨?_, rfl⟩⟩
    unfold rdNum
    rw [if_neg c]
def rnN : (St → Int32 → Ot) → St → Int32 → Ot := fun k1 s3 x2 =>
 (if (3 : Int32) ≤ x2 then
 some ((0 : Int32), s3)
 else
 bnd (f_X6_readNumber__3 s3) (fun r4 s5 =>
 (if (0 : Int32) ≤ r4 then
 bnd (f_X10_put__4 s5 x2 r4) (fun r6 s7 =>
 bnd (f_X7_letterAt__1 s7 ((s7 3 2))) (fun r8 s9 =>
 nm (pf s9 3 2 (((s9 3 2) + (1 : Int32)))) (fun s10 =>
 (if r8 = (59 : Int32) then
 some ((x2 + (1 : Int32)), s10)
 else
 (if r8 = (44 : Int32) then
 nm (x2 + (1 : Int32)) (fun x11 =>
 k1 s10 x11)
 else
 some ((0 : Int32), s10))))))
 else
 some ((0 : Int32), s5))))
theorem lq1_s {b : (St → Int32 → Ot) → St → Int32 → Ot} {n : Nat} {s : St} {x : Int32} : lq1 b (n + 1) s x = b (lq1 b n) s x := rfl
/-- one number with what stands behind it -/
theorem N_numStep {σ : St} {T : Nat → Nat} {le p x n : Nat} (h : TXN σ T le) (ht : TT T le) (hp : p < 1000) (h3 : σ 3 2 = nI p) (hx : x < 3) : ∃ σ', frP σ σ' ∧ (∀ y, y ≠ x → σ' 4 y = σ 4 y) ∧ ((rdSt T le p = none ∧ lq1 rnN (n + 1) σ (nI x) = some (0, σ')) ∨ ∃ v q e, rdSt T le p = some (v, q, e) ∧ σ' 3 2 = nI q ∧ σ' 4 x = nI v ∧ lq1 rnN (n + 1) σ (nI x) = if e = true then some (nI (x + 1), σ') else lq1 rnN n σ' (nI (x + 1))) := by
  obtain ⟨s, a1, a2, a3⟩ := N_readNumber h ht hp h3
  have h3x : ¬ (3 : Int32) ≤ nI x := nI_ge (b := 3) hx (by decide)
  rw [lq1_s]
  unfold rnN
  rw [if_neg h3x]
  rcases a3 with ⟨b1, b2⟩ | ⟨v, q, b1, b2, b3⟩
  · rw [b2, bnd_ok, if_neg (show ¬ (0 : Int32) ≤ -1 by decide)]
    refine ⟨s, a1, fun y _ => a2 y, Or.inl ⟨?_, rfl⟩⟩
    unfold rdSt; rw [b1]
  · obtain ⟨v99, hpq, hq2, hpl⟩ := rdNum_q ht b1
    have hs7 : frP s (ps s 4 (nI x) (nI v)) := fun p a b => ps_ne b
    have q32 : (ps s 4 (nI x) (nI v)) 3 2 = nI q := by rw [ps_ne (by decide)]; exact b3
    have hlq := Lt_le ht (p := q)
    have hf : frP σ (pf (ps s 4 (nI x) (nI v)) 3 2 (nI (q + 1))) := (a1.tr hs7).tr (fun p a b => pf_ne a)
    have h4 : (pf (ps s 4 (nI x) (nI v)) 3 2 (nI (q + 1))) 4 x = nI v := by rw [pf_ne (by decide), ps_same (by omega)]
    have h4y : ∀ y, y ≠ x → (pf (ps s 4 (nI x) (nI v)) 3 2 (nI (q + 1))) 4 y = σ 4 y := fun y hy => by rw [pf_ne (by decide), ps_nk (by omega) hy, a2 y]
    have q59 : (nI (Lt T le q) = (59 : Int32)) = (Lt T le q = 59) := nI_eqB (b := 59) (by omega) (by decide)
    have q44 : (nI (Lt T le q) = (44 : Int32)) = (Lt T le q = 44) := nI_eqB (b := 44) (by omega) (by decide)
    rw [b2, bnd_ok, if_pos (nI_pos' (by omega)), put_4 hx, bnd_ok, q32, N_letter ((h.fr a1).fr hs7) ht (by omega), bnd_ok, q32, nI_1, nm_ok]
    refine ⟨_, hf, h4y, ?_⟩
    by_cases c : Lt T le q = 59
    · refine Or.inr ⟨v, q + 1, true, ?_, pf_same, h4, ?_⟩
      · unfold rdSt; rw [b1]; simp only []; rw [if_pos c]
      · rw [if_pos (by rw [q59]; exact c), nI_1]; rfl
    · rw [if_neg (fun z => c (by rw [q59] at z; exact z))]
      by_cases d : Lt T le q = 44
      · refine Or.inr ⟨v, q + 1, false, ?_, pf_same, h4, ?_⟩
        · unfold rdSt; rw [b1]; simp only []; rw [if_neg c, if_pos d]
        · rw [if_pos (by rw [q44]; exact d), nm_ok, nI_1]; rfl
      · refine Or.inl ⟨?_, ?_⟩
        · unfold rdSt; rw [b1]; simp only []; rw [if_neg c, if_neg d]
        · rw [if_neg (fun z => d (by rw [q44] at z; exact z))]
theorem N_readNumbers {σ : St} {T : Nat → Nat} {le p : Nat} (h : TXN σ T le) (ht : TT T le) (hp : p ≤ 300) (h3 : σ 3 2 = nI p) : ∃ σ', frP σ σ' ∧ ((rdN T le p = none ∧ f_X6_readNumbers__3 σ = some (0, σ')) ∨ ∃ k q a b c, rdN T le p = some (k, q, a, b, c) ∧ f_X6_readNumbers__3 σ = some (nI k, σ') ∧ σ' 3 2 = nI q ∧ σ' 4 0 = nI a ∧ (2 ≤ k → σ' 4 1 = nI b) ∧ (3 ≤ k → σ' 4 2 = nI c)) := by
  have hdef : f_X6_readNumbers__3 σ = lq1 rnN (99999 + 1) σ (nI 0) := rfl
  rw [hdef]
  obtain ⟨s1, a1, a2, a3⟩ := N_numStep (x := 0) (n := 99999) h ht (by omega) h3 (by decide)
  rcases a3 with ⟨b1, b2⟩ | ⟨v, q, e, b1, b2, b3, b4⟩
  · exact ⟨s1, a1, Or.inl ⟨by unfold rdN; rw [b1], b2⟩⟩
  obtain ⟨y1, y2, y3, y4⟩ := rdSt_q ht b1
  cases e with
  | true =>
    exact ⟨s1, a1, Or.inr ⟨1, q, v, 0, 0, by unfold rdN; rw [b1], b4, b2, b3, fun z => by omega, fun z => by omega⟩⟩
  | false =>
    have b4' : lq1 rnN (99999 + 1) σ (nI 0) = lq1 rnN (99998 + 1) s1 (nI 1) := b4
    rw [b4']
    obtain ⟨s2, c1, c2, c3⟩ := N_numStep (x := 1) (n := 99998) (h.fr a1) ht (by omega) b2 (by decide)
    rcases c3 with ⟨d1, d2⟩ | ⟨v2, q2, e2, d1, d2, d3, d4⟩
    · exact ⟨s2, a1.tr c1, Or.inl ⟨by unfold rdN; rw [b1]; simp only []; rw [d1], d2⟩⟩
    obtain ⟨z1, z2, z3, z4⟩ := rdSt_q ht d1
    have k0 : s2 4 0 = nI v := by rw [c2 0 (by decide)]; exact b3
    cases e2 with
    | true =>
      exact ⟨s2, a1.tr c1, Or.inr ⟨2, q2, v, v2, 0, by unfold rdN; rw [b1]; simp only []; rw [d1], d4, d2, k0, fun _ => d3, fun z => by omega⟩⟩
    | false =>
      have d4' : lq1 rnN (99998 + 1) s1 (nI 1) = lq1 rnN (99997 + 1) s2 (nI 2) := d4
      rw [d4']
      obtain ⟨s3, f1, f2, f3⟩ := N_numStep (x := 2) (n := 99997) ((h.fr a1).fr c1) ht (by omega) d2 (by decide)
      rcases f3 with ⟨g1, g2⟩ | ⟨v3, q3, e3, g1, g2, g3, g4⟩
      · exact ⟨s3, (a1.tr c1).tr f1, Or.inl ⟨by unfold rdN; rw [b1]; simp only []; rw [d1]; simp only []; rw [g1], g2⟩⟩
      cases e3 with
      | true =>
        exact ⟨s3, (a1.tr c1).tr f1, Or.inr ⟨3, q3, v, v2, v3, by unfold rdN; rw [b1]; simp only []; rw [d1]; simp only []; rw [g1], g4, g2, by rw [f2 0 (by decide)]; exact k0, fun _ => by rw [f2 1 (by decide)]; exact d3, fun _ => g3⟩⟩
      | false =>
        refine ⟨s3, (a1.tr c1).tr f1, Or.inl ⟨by unfold rdN; rw [b1]; simp only []; rw [d1]; simp only []; rw [g1], ?_⟩⟩
        have g4' : lq1 rnN (99997 + 1) s2 (nI 2) = lq1 rnN (99996 + 1) s3 (nI 3) := g4
        rw [g4', lq1_s]
        unfold rnN
        rw [if_pos (show (3 : Int32) ≤ nI 3 by decide)]
