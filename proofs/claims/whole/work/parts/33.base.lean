/-! general rows for the pure values -/
theorem bnd_ok {r : Int32} {s : St} {f : Int32 → St → Ot} : bnd (some (r, s)) f = f r s := rfl
theorem nm_ok {α β : Type} {e : α} {f : α → β} : nm e f = f e := rfl
theorem gd_ok {i : Int32} {n : Nat} {k : Ot} (h : vp_in i n) : gd i n k = k := by
  unfold gd inb
  have h1 : ¬ i < 0 := fun q => h (Or.inl q)
  have h2 : ¬ n ≤ i.toNatClampNeg := fun q => h (Or.inr q)
  simp [h1, h2]
theorem gd_nI {j n : Nat} {k : Ot} (h : j < n) (hn : n < 2 ^ 31) : gd (nI j) n k = k := gd_ok (vp_in_nI h hn)
theorem nz_ok {y : Int32} {k : Ot} (h : ¬ y = 0) : nz y k = k := if_neg h
theorem zg_0 {k : Ot} : zg 0 k = k := if_pos rfl
theorem zg_1 {k : Ot} : zg 1 k = k := rfl
theorem up_same {σ : St} {p : Nat} {f : Nat → Int32} : up σ p f p = f := by
  unfold up; rw [Nat.beq_refl]; rfl
theorem up_ne {σ : St} {p q : Nat} {f : Nat → Int32} (h : q ≠ p) : up σ p f q = σ q := by
  unfold up
  have : Nat.beq q p = false := by
    cases hb : Nat.beq q p with
    | false => rfl
    | true => exact absurd (Nat.eq_of_beq_eq_true hb) h
  rw [this]; rfl
theorem uf_same {f : Nat → Int32} {k : Nat} {v : Int32} : uf f k v k = v := by
  unfold uf; rw [Nat.beq_refl]; rfl
theorem uf_ne {f : Nat → Int32} {k j : Nat} {v : Int32} (h : j ≠ k) : uf f k v j = f j := by
  unfold uf
  have : Nat.beq j k = false := by
    cases hb : Nat.beq j k with
    | false => rfl
    | true => exact absurd (Nat.eq_of_beq_eq_true hb) h
  rw [this]; rfl
theorem pf_ne {σ : St} {p k q : Nat} {v : Int32} (h : q ≠ p) : pf σ p k v q = σ q := up_ne h
theorem pf_same {σ : St} {p k : Nat} {v : Int32} : pf σ p k v p k = v := by unfold pf; rw [up_same, uf_same]
theorem pf_nk {σ : St} {p k j : Nat} {v : Int32} (h : j ≠ k) : pf σ p k v p j = σ p j := by unfold pf; rw [up_same, uf_ne h]
theorem ps_ne {σ : St} {p q : Nat} {i v : Int32} (h : q ≠ p) : ps σ p i v q = σ q := up_ne h
theorem ps_same {σ : St} {p j : Nat} {v : Int32} (hj : j < 2 ^ 31) : ps σ p (nI j) v p j = v := by unfold ps; rw [up_same, nI_clamp hj]; exact pk_us
theorem ps_nk {σ : St} {p j k : Nat} {v : Int32} (hj : j < 2 ^ 31) (h : k ≠ j) : ps σ p (nI j) v p k = σ p k := by unfold ps; rw [up_same, nI_clamp hj]; exact pk_un h
theorem c10 : ((1 : Int32) = 0) = False := by decide
theorem c00 : ((0 : Int32) = 0) = True := by decide
/-- a valid number among a to b, or not -/
theorem in_or (a b : Nat) (hb : b < 2 ^ 31) (hab : a ≤ b) (x : Int32) : (∃ j : Nat, a ≤ j ∧ j ≤ b ∧ x = nI j ∧ ¬ x < nI a ∧ ¬ nI b < x) ∨ (x < nI a ∨ (¬ x < nI a ∧ nI b < x)) := by
  by_cases h1 : x < nI a
  · exact Or.inr (Or.inl h1)
  · by_cases h2 : nI b < x
    · exact Or.inr (Or.inr ⟨h1, h2⟩)
    · refine Or.inl ?_
      have h3 : ¬ x < 0 := fun q => h1 (by
        rw [Int32.lt_iff_toInt_lt] at q ⊢
        rw [nI_toInt (by omega)]
        have : (0 : Int32).toInt = 0 := by decide
        omega)
      obtain ⟨j, hj, rfl⟩ := nI_of h3
      refine ⟨j, ?_, ?_, rfl, h1, h2⟩
      · rcases Nat.lt_or_ge j a with q | q
        · exact absurd (nI_lt q (by omega)) h1
        · exact q
      · rcases Nat.lt_or_ge b j with q | q
        · exact absurd (nI_lt q hj) h2
        · exact q
theorem N_within {σ : St} {x a b : Int32} (h : ¬ x < a) (h2 : ¬ b < x) : f_X10_within σ x a b = some (1, σ) := by
  simp only [f_X10_within, jq0, if_neg h, if_neg h2]
theorem N_within0 {σ : St} {x a b : Int32} (h : x < a ∨ (¬ x < a ∧ b < x)) : f_X10_within σ x a b = some (0, σ) := by
  rcases h with h | ⟨h, h2⟩
  · simp only [f_X10_within, jq0, if_pos h]
  · simp only [f_X10_within, jq0, if_neg h, if_pos h2]
theorem M_in {σ : St} {x a b : Int32} (h : ¬ x < a) (h2 : ¬ b < x) : f_X11_in σ x a b = some (1, σ) := by
  simp only [f_X11_in, jq0, if_neg h, if_neg h2]
theorem M_in0 {σ : St} {x a b : Int32} (h : x < a ∨ (¬ x < a ∧ b < x)) : f_X11_in σ x a b = some (0, σ) := by
  rcases h with h | ⟨h, h2⟩
  · simp only [f_X11_in, jq0, if_pos h]
  · simp only [f_X11_in, jq0, if_neg h, if_pos h2]
theorem both_in (a b : Nat) (hb : b < 2 ^ 31) (hab : a ≤ b) {A B : Int32} (eA : A = nI a) (eB : B = nI b) (σ τ : St) (x : Int32) : (∃ j : Nat, a ≤ j ∧ j ≤ b ∧ x = nI j ∧ (∀ σ : St, f_X10_within σ x A B = some (1, σ)) ∧ ∀ τ : St, f_X11_in τ x A B = some (1, τ)) ∨ ((∀ σ : St, f_X10_within σ x A B = some (0, σ)) ∧ ∀ τ : St, f_X11_in τ x A B = some (0, τ)) := by
  subst eA; subst eB
  rcases in_or a b hb hab x with ⟨j, h1, h2, h3, h4, h5⟩ | h
  · exact Or.inl ⟨j, h1, h2, h3, fun _ => N_within h4 h5, fun _ => M_in h4 h5⟩
  · exact Or.inr ⟨fun _ => N_within0 h, fun _ => M_in0 h⟩
theorem ms_sub {a b : Nat} (h : b ≤ a) : nI a - nI b = nI (a - b) := pk_sub h
theorem mH_pos {μ : Mu} (hw : WP μ) : 1 ≤ mH μ ∧ mH μ ≤ 16 := by
  obtain ⟨⟨a, b⟩, ⟨c, d⟩, -⟩ := hw
  unfold mH
  exact ⟨Nat.mul_pos (by omega) (by omega), Nat.le_trans (Nat.mul_le_mul b d) (by decide)⟩
theorem N_houses {σ : St} {μ : Mu} (h : PN σ 12 μ) : f_X4_houses__12 σ = some (nI (mH μ), σ) := by
  unfold f_X4_houses__12
  rw [h.1, h.2.1, pk_mul]; rfl
theorem both_house {σ τ : St} {μ : Mu} (h : PN σ 12 μ) (h2 : PM τ μ) (hw : WP μ) (x : Int32) : (∃ j : Nat, j < mH μ ∧ x = nI j ∧ f_X4_hasHouse__12 σ x = some (1, σ) ∧ f_X11_isHouse__0 τ x = some (1, τ)) ∨ (f_X4_hasHouse__12 σ x = some (0, σ) ∧ f_X11_isHouse__0 τ x = some (0, τ)) := by
  have hp := mH_pos hw
  have e : τ 0 2 - 1 = nI (mH μ - 1) := by
    rw [h2.2.2.1]
    exact pk_sub (a := mH μ) (b := 1) hp.1
  have hN : ∀ y : Int32, f_X4_hasHouse__12 σ y = if y < 0 then some (0, σ) else if nI (mH μ) ≤ y then some (0, σ) else some (1, σ) := fun y => by
    simp only [f_X4_hasHouse__12, jq0, N_houses h, bnd_ok]
  have hM : ∀ y : Int32, f_X11_isHouse__0 τ y = bnd (f_X11_in τ y 0 (nI (mH μ - 1))) (fun r s => zg r (some (r, s))) := fun y => by
    unfold f_X11_isHouse__0; rw [e]
  rw [hN, hM]
  rcases in_or 0 (mH μ - 1) (by omega) (by omega) x with ⟨j, h1, h3, rfl, h4, h5⟩ | h3
  · rw [nI_0] at h4
    refine Or.inl ⟨j, by omega, rfl, ?_, ?_⟩
    · rw [if_neg h4, if_neg (nI_ge (by omega) (by omega))]
    · rw [M_in h4 h5]; rfl
  · rw [nI_0] at h3
    refine Or.inr ⟨?_, ?_⟩
    · rcases h3 with q | ⟨q, q2⟩
      · exact if_pos q
      · rw [if_neg q]
        refine if_pos ?_
        obtain ⟨j, hj, rfl⟩ := nI_of q
        refine nI_le ?_ hj
        rcases Nat.lt_or_ge (mH μ - 1) j with z | z
        · omega
        · exact absurd q2 (nI_nlt z (by omega))
    · rw [M_in0 h3]; rfl
theorem both_news {σ τ : St} {μ : Mu} (h : PN σ 12 μ) (h2 : PM τ μ) (hw : WP μ) (x : Int32) : (∃ j : Nat, j < mn μ ∧ x = nI j ∧ f_X4_hasNews__12 σ x = some (1, σ) ∧ f_X11_isNews__0 τ x = some (1, τ)) ∨ (f_X4_hasNews__12 σ x = some (0, σ) ∧ f_X11_isNews__0 τ x = some (0, τ)) := by
  have hn : mn μ ≤ 5 := hw.2.2.1
  have hN : ∀ y : Int32, f_X4_hasNews__12 σ y = if y < 0 then some (0, σ) else if nI (mn μ) ≤ y then some (0, σ) else some (1, σ) := fun y => by
    simp only [f_X4_hasNews__12, jq0, h.2.2.2.2.1]
  have hM : ∀ y : Int32, f_X11_isNews__0 τ y = bnd (f_X11_in τ y 0 (nI (mn μ) - 1)) (fun r s => zg r (some (r, s))) := fun y => by
    unfold f_X11_isNews__0; rw [h2.2.2.2.1]
  rw [hN, hM]
  by_cases h0 : x < 0
  · refine Or.inr ⟨if_pos h0, ?_⟩
    rw [M_in0 (Or.inl h0)]; rfl
  · obtain ⟨j, hj, rfl⟩ := nI_of h0
    rw [if_neg h0]
    by_cases hlt : j < mn μ
    · refine Or.inl ⟨j, hlt, rfl, if_neg (nI_ge hlt (by omega)), ?_⟩
      rw [show nI (mn μ) - 1 = nI (mn μ - 1) from pk_sub (a := mn μ) (b := 1) (by omega), M_in h0 (nI_nlt (by omega) (by omega))]; rfl
    · refine Or.inr ⟨if_pos (nI_le (by omega) hj), ?_⟩
      have h3 : nI (mn μ) - 1 < nI j := by
        rw [Int32.lt_iff_toInt_lt, show nI (mn μ) - 1 = nI (mn μ) - nI 1 from rfl, pk_sub_toInt (by omega) (by omega), nI_toInt hj]
        omega
      rw [M_in0 (Or.inr ⟨h0, h3⟩)]; rfl
theorem lq0_run {b : (St → Ot) → St → Ot} {P : Ot → Prop} (I : Nat → St → Prop) (N : Nat) (hs : ∀ (i : Nat) (s : St), i ≤ N → I i s → ∀ k : St → Ot, (i < N ∧ ∃ (t : St), I (i + 1) t ∧ b k s = k t) ∨ P (b k s)) : ∀ (n i : Nat) (s : St), i ≤ N → N < i + n → I i s → P (lq0 b n s) := by
  intro n
  induction n with
  | zero => intro i s h1 h2; omega
  | succ n ih =>
    intro i s h1 h2 h3
    show P (b (lq0 b n) s)
    rcases hs i s h1 h3 (lq0 b n) with ⟨hl, ⟨t, h4, h5⟩⟩ | h4
    · rw [h5]; exact ih (i + 1) t (by omega) (by omega) h4
    · exact h4
theorem lq1_run {b : (St → Int32 → Ot) → St → Int32 → Ot} {P : Ot → Prop} (I : Nat → St → Int32 → Prop) (N : Nat) (hs : ∀ (i : Nat) (s : St) (x1 : Int32), i ≤ N → I i s x1 → ∀ k : St → Int32 → Ot, (i < N ∧ ∃ (t : St) (y1 : Int32), I (i + 1) t y1 ∧ b k s x1 = k t y1) ∨ P (b k s x1)) : ∀ (n i : Nat) (s : St) (x1 : Int32), i ≤ N → N < i + n → I i s x1 → P (lq1 b n s x1) := by
  intro n
  induction n with
  | zero => intro i s x1 h1 h2; omega
  | succ n ih =>
    intro i s x1 h1 h2 h3
    show P (b (lq1 b n) s x1)
    rcases hs i s x1 h1 h3 (lq1 b n) with ⟨hl, ⟨t, y1, h4, h5⟩⟩ | h4
    · rw [h5]; exact ih (i + 1) t y1 (by omega) (by omega) h4
    · exact h4
theorem lq2_run {b : (St → Int32 → Int32 → Ot) → St → Int32 → Int32 → Ot} {P : Ot → Prop} (I : Nat → St → Int32 → Int32 → Prop) (N : Nat) (hs : ∀ (i : Nat) (s : St) (x1 x2 : Int32), i ≤ N → I i s x1 x2 → ∀ k : St → Int32 → Int32 → Ot, (i < N ∧ ∃ (t : St) (y1 y2 : Int32), I (i + 1) t y1 y2 ∧ b k s x1 x2 = k t y1 y2) ∨ P (b k s x1 x2)) : ∀ (n i : Nat) (s : St) (x1 x2 : Int32), i ≤ N → N < i + n → I i s x1 x2 → P (lq2 b n s x1 x2) := by
  intro n
  induction n with
  | zero => intro i s x1 x2 h1 h2; omega
  | succ n ih =>
    intro i s x1 x2 h1 h2 h3
    show P (b (lq2 b n) s x1 x2)
    rcases hs i s x1 x2 h1 h3 (lq2 b n) with ⟨hl, ⟨t, y1, y2, h4, h5⟩⟩ | h4
    · rw [h5]; exact ih (i + 1) t y1 y2 (by omega) (by omega) h4
    · exact h4
theorem lq3_run {b : (St → Int32 → Int32 → Int32 → Ot) → St → Int32 → Int32 → Int32 → Ot} {P : Ot → Prop} (I : Nat → St → Int32 → Int32 → Int32 → Prop) (N : Nat) (hs : ∀ (i : Nat) (s : St) (x1 x2 x3 : Int32), i ≤ N → I i s x1 x2 x3 → ∀ k : St → Int32 → Int32 → Int32 → Ot, (i < N ∧ ∃ (t : St) (y1 y2 y3 : Int32), I (i + 1) t y1 y2 y3 ∧ b k s x1 x2 x3 = k t y1 y2 y3) ∨ P (b k s x1 x2 x3)) : ∀ (n i : Nat) (s : St) (x1 x2 x3 : Int32), i ≤ N → N < i + n → I i s x1 x2 x3 → P (lq3 b n s x1 x2 x3) := by
  intro n
  induction n with
  | zero => intro i s x1 x2 x3 h1 h2; omega
  | succ n ih =>
    intro i s x1 x2 x3 h1 h2 h3
    show P (b (lq3 b n) s x1 x2 x3)
    rcases hs i s x1 x2 x3 h1 h3 (lq3 b n) with ⟨hl, ⟨t, y1, y2, y3, h4, h5⟩⟩ | h4
    · rw [h5]; exact ih (i + 1) t y1 y2 y3 (by omega) (by omega) h4
    · exact h4
theorem lq4_run {b : (St → Int32 → Int32 → Int32 → Int32 → Ot) → St → Int32 → Int32 → Int32 → Int32 → Ot} {P : Ot → Prop} (I : Nat → St → Int32 → Int32 → Int32 → Int32 → Prop) (N : Nat) (hs : ∀ (i : Nat) (s : St) (x1 x2 x3 x4 : Int32), i ≤ N → I i s x1 x2 x3 x4 → ∀ k : St → Int32 → Int32 → Int32 → Int32 → Ot, (i < N ∧ ∃ (t : St) (y1 y2 y3 y4 : Int32), I (i + 1) t y1 y2 y3 y4 ∧ b k s x1 x2 x3 x4 = k t y1 y2 y3 y4) ∨ P (b k s x1 x2 x3 x4)) : ∀ (n i : Nat) (s : St) (x1 x2 x3 x4 : Int32), i ≤ N → N < i + n → I i s x1 x2 x3 x4 → P (lq4 b n s x1 x2 x3 x4) := by
  intro n
  induction n with
  | zero => intro i s x1 x2 x3 x4 h1 h2; omega
  | succ n ih =>
    intro i s x1 x2 x3 x4 h1 h2 h3
    show P (b (lq4 b n) s x1 x2 x3 x4)
    rcases hs i s x1 x2 x3 x4 h1 h3 (lq4 b n) with ⟨hl, ⟨t, y1, y2, y3, y4, h4, h5⟩⟩ | h4
    · rw [h5]; exact ih (i + 1) t y1 y2 y3 y4 (by omega) (by omega) h4
    · exact h4
theorem lq5_run {b : (St → Int32 → Int32 → Int32 → Int32 → Int32 → Ot) → St → Int32 → Int32 → Int32 → Int32 → Int32 → Ot} {P : Ot → Prop} (I : Nat → St → Int32 → Int32 → Int32 → Int32 → Int32 → Prop) (N : Nat) (hs : ∀ (i : Nat) (s : St) (x1 x2 x3 x4 x5 : Int32), i ≤ N → I i s x1 x2 x3 x4 x5 → ∀ k : St → Int32 → Int32 → Int32 → Int32 → Int32 → Ot, (i < N ∧ ∃ (t : St) (y1 y2 y3 y4 y5 : Int32), I (i + 1) t y1 y2 y3 y4 y5 ∧ b k s x1 x2 x3 x4 x5 = k t y1 y2 y3 y4 y5) ∨ P (b k s x1 x2 x3 x4 x5)) : ∀ (n i : Nat) (s : St) (x1 x2 x3 x4 x5 : Int32), i ≤ N → N < i + n → I i s x1 x2 x3 x4 x5 → P (lq5 b n s x1 x2 x3 x4 x5) := by
  intro n
  induction n with
  | zero => intro i s x1 x2 x3 x4 x5 h1 h2; omega
  | succ n ih =>
    intro i s x1 x2 x3 x4 x5 h1 h2 h3
    show P (b (lq5 b n) s x1 x2 x3 x4 x5)
    rcases hs i s x1 x2 x3 x4 x5 h1 h3 (lq5 b n) with ⟨hl, ⟨t, y1, y2, y3, y4, y5, h4, h5⟩⟩ | h4
    · rw [h5]; exact ih (i + 1) t y1 y2 y3 y4 y5 (by omega) (by omega) h4
    · exact h4
