theorem ff_shift {p q : Nat → Bool} {a : Nat} : ∀ c i, (∀ j, i ≤ j → j < i + c → p (a + j) = q j) → ff p c (a + i) = (ff q c i).map (fun r => a + r)
  | 0, _, _ => rfl
  | c + 1, i, h => by
    show (if p (a + i) = true then some (a + i) else ff p c (a + i + 1)) = (if q i = true then some i else ff q c (i + 1)).map (fun r => a + r)
    rw [h i (by omega) (by omega)]
    by_cases e : q i = true
    · rw [if_pos e, if_pos e]; rfl
    · rw [if_neg e, if_neg e]
      exact ff_shift c (i + 1) (fun j h1 h2 => h j (by omega) (by omega))
theorem ff_none {p : Nat → Bool} : ∀ c i, (∀ j, i ≤ j → j < i + c → p j = false) → ff p c i = none
  | 0, _, _ => rfl
  | c + 1, i, h => by
    show (if p i = true then some i else ff p c (i + 1)) = none
    rw [h i (by omega) (by omega), if_neg (by decide)]
    exact ff_none c (i + 1) (fun j h1 h2 => h j (by omega) (by omega))
theorem ff_addN {p : Nat → Bool} : ∀ c d i, ff p c i = none → ff p (c + d) i = ff p d (i + c)
  | 0, d, i, _ => by rw [Nat.zero_add, Nat.add_zero]
  | c + 1, d, i, h => by
    have h' : (if p i = true then some i else ff p c (i + 1)) = none := h
    by_cases e : p i = true
    · rw [if_pos e] at h'; exact absurd h' (by simp)
    · rw [if_neg e] at h'
      rw [show c + 1 + d = (c + d) + 1 by omega]
      show (if p i = true then some i else ff p (c + d) (i + 1)) = _
      rw [if_neg e, ff_addN c d (i + 1) h', show i + 1 + c = i + (c + 1) by omega]
theorem ff_addS {p : Nat → Bool} {r : Nat} : ∀ c d i, ff p c i = some r → ff p (c + d) i = some r
  | 0, d, i, h => absurd h (by simp [ff])
  | c + 1, d, i, h => by
    have h' : (if p i = true then some i else ff p c (i + 1)) = some r := h
    rw [show c + 1 + d = (c + d) + 1 by omega]
    show (if p i = true then some i else ff p (c + d) (i + 1)) = _
    by_cases e : p i = true
    · rw [if_pos e] at h' ⊢; exact h'
    · rw [if_neg e] at h' ⊢
      exact ff_addS c d (i + 1) h'
def pqd (q : Nat → Nat → Bool) : Nat → Bool := fun a => decide (a % 10 ≤ 6) && q (a / 10) (a % 10)
theorem ff_blkN {q : Nat → Nat → Bool} {h c : Nat} (e : ff (q h) 7 0 = none) : ff (pqd q) (10 + c) (10 * h) = ff (pqd q) c (10 * (h + 1)) := by
  have e7 : ff (pqd q) 7 (10 * h + 0) = none := by
    rw [ff_shift (q := q h) 7 0 (fun j h1 h2 => by unfold pqd; rw [show (10 * h + j) / 10 = h by omega, show (10 * h + j) % 10 = j by omega]; simp; omega), e]; rfl
  have e10 : ff (pqd q) (7 + 3) (10 * h + 0) = none := by
    rw [ff_addN 7 3 _ e7]
    exact ff_none 3 _ (fun j h1 h2 => by unfold pqd; have : ¬ j % 10 ≤ 6 := by omega
                                         simp [this])
  rw [ff_addN 10 c (10 * h) e10]; rfl
theorem ff_blkS {q : Nat → Nat → Bool} {h c o : Nat} (e : ff (q h) 7 0 = some o) : ff (pqd q) (10 + c) (10 * h) = some (10 * h + o) := by
  have e7 : ff (pqd q) 7 (10 * h + 0) = some (10 * h + o) := by
    rw [ff_shift (q := q h) 7 0 (fun j h1 h2 => by unfold pqd; rw [show (10 * h + j) / 10 = h by omega, show (10 * h + j) % 10 = j by omega]; simp; omega), e]; rfl
  rw [show 10 + c = 7 + (3 + c) by omega]
  exact ff_addS 7 (3 + c) _ e7
def q1 (μ : Mu) (n m kw nw : Nat) (base : Nat → Nat) : Nat → Nat → Bool := fun h o => PS μ n m kw nw (up1 base h o)
theorem wI_0 {μ : Mu} {n m kw nw a : Nat} (hw : WP μ) : wI μ n m kw nw 0 a = if PS μ n m kw nw (SH μ) = true then some (10 * mH μ - 1) else none := by
  have hH := mH_pos hw
  unfold wI
  rw [show wF μ 0 a = 10 * mH μ - 1 from rfl, show 10 * mH μ - (10 * mH μ - 1) = 1 by omega]
  rfl
theorem wI_1 {μ : Mu} {n m kw nw a : Nat} (hw : WP μ) : wI μ n m kw nw 1 a = if PS μ n m kw nw (up1 (SH μ) (a / 10) (a % 10)) = true then some (10 * mH μ - 1) else none := by
  have hH := mH_pos hw
  unfold wI
  rw [show wF μ 1 a = 10 * mH μ - 1 from rfl, show 10 * mH μ - (10 * mH μ - 1) = 1 by omega]
  rfl
theorem wO_0 {μ : Mu} {n m kw nw : Nat} (hw : WP μ) : wO μ n m kw nw 0 = if PS μ n m kw nw (SH μ) = true then some 0 else none := by
  show (if ((decide (0 = 0) || decide (0 % 10 ≤ 6)) && (wI μ n m kw nw 0 0).isSome) = true then some 0 else none) = _
  rw [wI_0 hw]
  by_cases c : PS μ n m kw nw (SH μ) = true <;> simp [c]
theorem wO_1 {μ : Mu} {n m kw nw : Nat} (hw : WP μ) : wO μ n m kw nw 1 = ff (pqd (q1 μ n m kw nw (SH μ))) (10 * mH μ) 0 := by
  unfold wO
  rw [show wE μ 1 = 10 * mH μ from rfl]
  refine ff_ext _ _ (fun j _ _ => ?_)
  rw [wI_1 hw]
  unfold pqd q1
  by_cases c : PS μ n m kw nw (up1 (SH μ) (j / 10) (j % 10)) = true <;> simp [c]
theorem wI_2 {μ : Mu} {n m kw nw a : Nat} : wI μ n m kw nw 2 a = ff (pqd (q1 μ n m kw nw (up1 (SH μ) (a / 10) (a % 10)))) (10 * (mH μ - (a / 10 + 1))) (10 * (a / 10 + 1)) := by
  unfold wI
  rw [show wF μ 2 a = 10 * (a / 10 + 1) from rfl, show 10 * mH μ - 10 * (a / 10 + 1) = 10 * (mH μ - (a / 10 + 1)) by omega]
  refine ff_ext _ _ (fun j _ _ => ?_)
  show ((decide (2 < 2) || decide (j % 10 ≤ 6)) && PS μ n m kw nw (up1 (up1 (SH μ) (a / 10) (a % 10)) (j / 10) (j % 10))) = _
  unfold pqd q1
  simp
def q2 (μ : Mu) (n m kw nw : Nat) : Nat → Nat → Bool := fun h o => (ff (pqd (q1 μ n m kw nw (up1 (SH μ) h o))) (10 * (mH μ - (h + 1))) (10 * (h + 1))).isSome
theorem wO_2 {μ : Mu} {n m kw nw : Nat} : wO μ n m kw nw 2 = ff (pqd (q2 μ n m kw nw)) (10 * mH μ) 0 := by
  unfold wO
  rw [show wE μ 2 = 10 * mH μ from rfl]
  refine ff_ext _ _ (fun j _ _ => ?_)
  rw [wI_2]
  rfl
theorem ov4_ne {o : Nat} (h : o < 1000) : ¬ nI o = (-4 : Int32) := fun z => by
  have q := nI_pos (n := o) (by omega)
  rw [z] at q
  exact q (by decide)
theorem N_found {σ : St} {a b c : Int32} : f_X2_found__60 σ a b c = some (0, pf (pf (pf σ 60 6 a) 60 7 b) 60 8 c) := rfl
theorem sN60 {σ : St} {a b c : Int32} : sameN σ (pf (pf (pf σ 60 6 a) 60 7 b) 60 8 c) := fun p hp => by
  have : p ≠ 60 := fun e => by subst e; exact absurd hp (by decide)
  rw [pf_ne this, pf_ne this, pf_ne this]
theorem N_one {σ : St} {μ : Mu} (hq : QN σ μ) (hy : HY μ) {n m kw nw : Nat} (hn : n < mn μ) (hm12 : m ≤ 12) (hk : kw < 65536) (hz : ZN σ m kw nw) (hd : DR σ μ n (KW μ n) (SH μ)) : ∃ σ', f_X2_isFoundByOne__60 σ = some (if (wO μ n m kw nw 1).isSome = true then 1 else 0, σ') ∧ sameN σ σ' ∧ (wO μ n m kw nw 1 = none → frD σ σ' ∧ DR σ' μ n (KW μ n) (SH μ)) ∧ ∀ a, wO μ n m kw nw 1 = some a → σ' 60 6 = 1 ∧ σ' 60 7 = nI a ∧ σ' 60 8 = -4 := by
  have hH := mH_pos hy.1
  unfold f_X2_isFoundByOne__60
  refine lq1_run (P := fun o => ∃ σ', o = some (if (wO μ n m kw nw 1).isSome = true then 1 else 0, σ') ∧ sameN σ σ' ∧ (wO μ n m kw nw 1 = none → frD σ σ' ∧ DR σ' μ n (KW μ n) (SH μ)) ∧ ∀ a, wO μ n m kw nw 1 = some a → σ' 60 6 = 1 ∧ σ' 60 7 = nI a ∧ σ' 60 8 = -4) (fun i t y => y = nI i ∧ frD σ t ∧ DR t μ n (KW μ n) (SH μ) ∧ wO μ n m kw nw 1 = ff (pqd (q1 μ n m kw nw (SH μ))) (10 * (mH μ - i)) (10 * i)) (mH μ) ?_ 100000 0 σ 0 (Nat.zero_le _) (by omega) ⟨rfl, frD.rf, hd, wO_1 hy.1⟩
  rintro i t y hi ⟨rfl, hft, hdt, hw1⟩ k
  have hqt := hq.fr hft
  rcases Nat.lt_or_ge i (mH μ) with hl | hl
  · obtain ⟨v, c1, c2, c3⟩ := N_fit hqt hy hn hm12 hk (hz.fr hft) hdt hl rfl
    rw [N_houses hqt.1, bnd_ok, if_neg (nI_ge hl (show mH μ < 2 ^ 31 by omega)), c1, bnd_ok]
    rw [show 10 * (mH μ - i) = 10 + 10 * (mH μ - (i + 1)) by omega] at hw1
    have hfw : fwO μ n m kw nw (SH μ) i = ff (q1 μ n m kw nw (SH μ) i) 7 0 := rfl
    cases he : ff (q1 μ n m kw nw (SH μ) i) 7 0 with
    | none =>
      rw [hfw, he, show ov4 none = -4 from rfl, if_pos rfl, nm_ok, nI_1]
      rw [ff_blkN he] at hw1
      exact Or.inl ⟨hl, v, _, ⟨rfl, hft.tr c2, c3, hw1⟩, rfl⟩
    | some o =>
      have ho := ff_in 7 0 he
      rw [hfw, he, show ov4 (some o) = nI o from rfl, if_neg (ov4_ne (by omega)), N_found, bnd_ok]
      rw [ff_blkS he] at hw1
      refine Or.inr ⟨_, by rw [hw1]; rfl, (hft.tr c2).sm.tr sN60, fun q => by rw [hw1] at q; exact absurd q (by simp), fun a ha => ?_⟩
      rw [hw1] at ha
      injection ha with ha
      refine ⟨?_, ?_, pf_same⟩
      · rw [pf_nk (by decide), pf_nk (by decide), pf_same]
      · rw [pf_nk (by decide), pf_same, ← ha]
        show nI 10 * nI i + nI o = _
        rw [pk_mul, nI_add]
  · have : i = mH μ := by omega
    subst this
    rw [N_houses hqt.1, bnd_ok, if_pos (nI_le (Nat.le_refl _) (show mH μ < 2 ^ 31 by omega))]
    have hno : wO μ n m kw nw 1 = none := by rw [hw1, Nat.sub_self]; rfl
    exact Or.inr ⟨t, by rw [hno]; rfl, hft.sm, fun _ => ⟨hft, hdt⟩, fun a ha => by rw [hno] at ha; exact absurd ha (by simp)⟩
theorem N_with {σ : St} {μ : Mu} (hq : QN σ μ) (hy : HY μ) {n m kw nw l o : Nat} (hn : n < mn μ) (hm12 : m ≤ 12) (hk : kw < 65536) (hz : ZN σ m kw nw) (hl : l < mH μ) (ho : o ≤ 6) (hd : DR σ μ n (KW μ n) (up1 (SH μ) l o)) : ∃ σ', f_X2_isFoundWith__60 σ (nI l) (nI o) = some (if q2 μ n m kw nw l o = true then 1 else 0, σ') ∧ sameN σ σ' ∧ (q2 μ n m kw nw l o = false → frD σ σ' ∧ DR σ' μ n (KW μ n) (up1 (SH μ) l o)) ∧ (q2 μ n m kw nw l o = true → ∃ b, wI μ n m kw nw 2 (10 * l + o) = some b ∧ σ' 60 6 = 2 ∧ σ' 60 7 = nI (10 * l + o) ∧ σ' 60 8 = nI b) := by
  have hH := mH_pos hy.1
  have hwi : wI μ n m kw nw 2 (10 * l + o) = ff (pqd (q1 μ n m kw nw (up1 (SH μ) l o))) (10 * (mH μ - (l + 1))) (10 * (l + 1)) := by
    rw [wI_2, show (10 * l + o) / 10 = l by omega, show (10 * l + o) % 10 = o by omega]
  have hq2 : q2 μ n m kw nw l o = (wI μ n m kw nw 2 (10 * l + o)).isSome := by rw [hwi]; rfl
  unfold f_X2_isFoundWith__60
  rw [nm_ok, nI_1, hq2]
  refine lq1_run (P := fun z => ∃ σ', z = some (if (wI μ n m kw nw 2 (10 * l + o)).isSome = true then 1 else 0, σ') ∧ sameN σ σ' ∧ ((wI μ n m kw nw 2 (10 * l + o)).isSome = false → frD σ σ' ∧ DR σ' μ n (KW μ n) (up1 (SH μ) l o)) ∧ ((wI μ n m kw nw 2 (10 * l + o)).isSome = true → ∃ b, wI μ n m kw nw 2 (10 * l + o) = some b ∧ σ' 60 6 = 2 ∧ σ' 60 7 = nI (10 * l + o) ∧ σ' 60 8 = nI b)) (fun i t y => y = nI (l + 1 + i) ∧ frD σ t ∧ DR t μ n (KW μ n) (up1 (SH μ) l o) ∧ wI μ n m kw nw 2 (10 * l + o) = ff (pqd (q1 μ n m kw nw (up1 (SH μ) l o))) (10 * (mH μ - (l + 1 + i))) (10 * (l + 1 + i))) (mH μ - (l + 1)) ?_ 100000 0 σ _ (Nat.zero_le _) (by omega) ⟨rfl, frD.rf, hd, hwi⟩
  rintro i t y hi ⟨rfl, hft, hdt, hw1⟩ k
  have hqt := hq.fr hft
  rcases Nat.lt_or_ge i (mH μ - (l + 1)) with hil | hil
  · have hb : up1 (SH μ) l o (l + 1 + i) = SH μ (l + 1 + i) := by
      unfold up1; rw [if_neg (by omega)]
    obtain ⟨v, c1, c2, c3⟩ := N_fit hqt hy hn hm12 hk (hz.fr hft) hdt (show l + 1 + i < mH μ by omega) hb
    rw [N_houses hqt.1, bnd_ok, if_neg (nI_ge (show l + 1 + i < mH μ by omega) (show mH μ < 2 ^ 31 by omega)), c1, bnd_ok]
    rw [show 10 * (mH μ - (l + 1 + i)) = 10 + 10 * (mH μ - (l + 1 + i + 1)) by omega] at hw1
    have hfw : fwO μ n m kw nw (up1 (SH μ) l o) (l + 1 + i) = ff (q1 μ n m kw nw (up1 (SH μ) l o) (l + 1 + i)) 7 0 := rfl
    cases he : ff (q1 μ n m kw nw (up1 (SH μ) l o) (l + 1 + i)) 7 0 with
    | none =>
      rw [hfw, he, show ov4 none = -4 from rfl, if_pos rfl, nm_ok, nI_1]
      rw [ff_blkN he] at hw1
      exact Or.inl ⟨hil, v, _, ⟨by rw [Nat.add_assoc], hft.tr c2, c3, by rw [hw1, Nat.add_assoc]⟩, rfl⟩
    | some u =>
      have hu := ff_in 7 0 he
      rw [hfw, he, show ov4 (some u) = nI u from rfl, if_neg (ov4_ne (by omega)), N_found, bnd_ok]
      rw [ff_blkS he] at hw1
      refine Or.inr ⟨_, by rw [hw1]; rfl, (hft.tr c2).sm.tr sN60, fun q => by rw [hw1] at q; exact absurd q (by simp), fun _ => ⟨_, hw1, ?_, ?_, ?_⟩⟩
      · rw [pf_nk (by decide), pf_nk (by decide), pf_same]
      · rw [pf_nk (by decide), pf_same]
        show nI 10 * nI l + nI o = _
        rw [pk_mul, nI_add]
      · rw [pf_same]
        show nI 10 * nI (l + 1 + i) + nI u = _
        rw [pk_mul, nI_add]
  · have : i = mH μ - (l + 1) := by omega
    subst this
    rw [N_houses hqt.1, bnd_ok, if_pos (nI_le (show mH μ ≤ l + 1 + (mH μ - (l + 1)) by omega) (by omega))]
    have hno : wI μ n m kw nw 2 (10 * l + o) = none := by rw [hw1, show mH μ - (l + 1 + (mH μ - (l + 1))) = 0 by omega]; rfl
    exact Or.inr ⟨t, by rw [hno]; rfl, hft.sm, fun _ => ⟨hft, hdt⟩, fun q => by rw [hno] at q; exact absurd q (by decide)⟩
theorem N_two {σ : St} {μ : Mu} (hq : QN σ μ) (hy : HY μ) {n m kw nw : Nat} (hn : n < mn μ) (hm12 : m ≤ 12) (hk : kw < 65536) (hz : ZN σ m kw nw) (hd : DR σ μ n (KW μ n) (SH μ)) : ∃ σ', f_X2_findByTwo__60 σ = some (0, σ') ∧ sameN σ σ' ∧ (wO μ n m kw nw 2 = none → ∀ j, σ' 60 j = σ 60 j) ∧ ∀ a, wO μ n m kw nw 2 = some a → ∃ b, wI μ n m kw nw 2 a = some b ∧ σ' 60 6 = 2 ∧ σ' 60 7 = nI a ∧ σ' 60 8 = nI b := by
  have hH := mH_pos hy.1
  have hkn := hy.1.2.2.2.2.2.1 n hn
  unfold f_X2_findByTwo__60
  refine lq1_run (P := fun z => ∃ σ', z = some (0, σ') ∧ sameN σ σ' ∧ (wO μ n m kw nw 2 = none → ∀ j, σ' 60 j = σ 60 j) ∧ ∀ a, wO μ n m kw nw 2 = some a → ∃ b, wI μ n m kw nw 2 a = some b ∧ σ' 60 6 = 2 ∧ σ' 60 7 = nI a ∧ σ' 60 8 = nI b) (fun i t y => y = nI i ∧ frD σ t ∧ DR t μ n (KW μ n) (SH μ) ∧ wO μ n m kw nw 2 = ff (pqd (q2 μ n m kw nw)) (10 * (mH μ - i)) (10 * i)) (mH μ) ?_ 100000 0 σ 0 (Nat.zero_le _) (by omega) ⟨rfl, frD.rf, hd, wO_2⟩
  rintro i t y hi ⟨rfl, hft, hdt, hw1⟩ k
  have hqt := hq.fr hft
  rcases Nat.lt_or_ge i (mH μ) with hl | hl
  · have hnd : 1 ≤ nd μ n i ∧ nd μ n i ≤ 5 := by unfold nd; split <;> omega
    rw [N_houses hqt.1, bnd_ok, if_neg (nI_ge hl (show mH μ < 2 ^ 31 by omega))]
    rw [show 10 * (mH μ - i) = 10 + 10 * (mH μ - (i + 1)) by omega] at hw1
    refine lq1_run (P := fun o => (i < mH μ ∧ ∃ (t : St) (y1 : Int32), (y1 = nI (i + 1) ∧ frD σ t ∧ DR t μ n (KW μ n) (SH μ) ∧ wO μ n m kw nw 2 = ff (pqd (q2 μ n m kw nw)) (10 * (mH μ - (i + 1))) (10 * (i + 1))) ∧ o = k t y1) ∨ ∃ σ', o = some (0, σ') ∧ sameN σ σ' ∧ (wO μ n m kw nw 2 = none → ∀ j, σ' 60 j = σ 60 j) ∧ ∀ a, wO μ n m kw nw 2 = some a → ∃ b, wI μ n m kw nw 2 a = some b ∧ σ' 60 6 = 2 ∧ σ' 60 7 = nI a ∧ σ' 60 8 = nI b) (fun o t y => y = nI o ∧ frD σ t ∧ (∃ o0, DR t μ n (KW μ n) (up1 (SH μ) i o0)) ∧ (1 ≤ o → q2 μ n m kw nw i (o - 1) = false) ∧ ff (q2 μ n m kw nw i) 7 0 = ff (q2 μ n m kw nw i) (7 - o) o) 7 ?_ 100000 0 t 0 (Nat.zero_le _) (by omega) ⟨rfl, hft, ⟨SH μ i, by rw [up1_id]; exact hdt⟩, fun q => by omega, rfl⟩
    rintro o t y ho ⟨rfl, hft, ⟨o0, hdt⟩, hp1, hff⟩ k6
    have hqt := hq.fr hft
    rcases Nat.lt_or_ge o 7 with hol | hol
    · have h6 : ¬ (6 : Int32) < nI o := nI_nlt (b := o) (a := 6) (by omega) (by decide)
      have hff2 : ff (q2 μ n m kw nw i) 7 0 = if q2 μ n m kw nw i o = true then some o else ff (q2 μ n m kw nw i) (7 - (o + 1)) (o + 1) := by
        rw [hff, show 7 - o = (7 - (o + 1)) + 1 by omega]; rfl
      rw [if_neg h6]
      rw [show ∀ (A : St → Ot) (B : (St → Ot) → Ot), jq0 A B = B A from fun _ _ => rfl]
      dsimp only
      rw [N_isAnother (show i < 16 by omega) (hdt.2.2.2.2.2.2.2.2.2 i hl) hnd.1 hnd.2 (show o ≤ 6 by omega), bnd_ok]
      cases han : anB (nd μ n i) o with
      | false =>
        have t0 : (if false = true then (1 : Int32) else 0) = 0 := rfl
        rw [t0, if_pos rfl, nm_ok, nI_1]
        have hi1 : 1 ≤ o := by
          rcases Nat.eq_zero_or_pos o with q | q
          · subst q; simp [anB] at han
          · exact q
        have hps : q2 μ n m kw nw i o = false := by
          rw [← hp1 hi1]
          unfold q2
          have : ff (pqd (q1 μ n m kw nw (up1 (SH μ) i o))) (10 * (mH μ - (i + 1))) (10 * (i + 1)) = ff (pqd (q1 μ n m kw nw (up1 (SH μ) i (o - 1)))) (10 * (mH μ - (i + 1))) (10 * (i + 1)) := by
            refine ff_ext _ _ (fun j h1 h2 => ?_)
            unfold pqd q1 PS
            rw [alg_li hy.1 (sh := up1 (up1 (SH μ) i o) (j / 10) (j % 10)) (sh' := up1 (up1 (SH μ) i (o - 1)) (j / 10) (j % 10)) (fun g t ht => ?_)]
            have ea := an_li (base := SH μ) han g t
            rw [liB_tg, liB_tg] at ea ⊢
            by_cases e : t = j / 10
            · have x1 : up1 (up1 (SH μ) i o) (j / 10) (j % 10) t = j % 10 := by unfold up1; rw [if_pos e]
              have x2 : up1 (up1 (SH μ) i (o - 1)) (j / 10) (j % 10) t = j % 10 := by unfold up1; rw [if_pos e]
              rw [x1, x2]
            · have x1 : up1 (up1 (SH μ) i o) (j / 10) (j % 10) t = up1 (SH μ) i o t := if_neg e
              have x2 : up1 (up1 (SH μ) i (o - 1)) (j / 10) (j % 10) t = up1 (SH μ) i (o - 1) t := if_neg e
              rw [x1, x2]; exact ea
          rw [this]
        rw [hps, if_neg (by decide)] at hff2
        exact Or.inl ⟨hol, t, _, ⟨rfl, hft, ⟨o0, hdt⟩, fun _ => hps, hff2⟩, rfl⟩
      | true =>
        have t1 : (if true = true then (1 : Int32) else 0) = 1 := rfl
        obtain ⟨v, g1, g2, g3⟩ := N_reopen hy.1 hn hdt hl (show o ≤ 6 by omega)
        have g3' : DR v μ n (KW μ n) (up1 (SH μ) i o) := by
          have : (fun x => if x = i then o else up1 (SH μ) i o0 x) = up1 (SH μ) i o := up1_up1
          rw [this] at g3; exact g3
        obtain ⟨w, c1, c2, c3, c4⟩ := N_with (hqt.fr g2) hy hn hm12 hk ((hz.fr hft).fr g2) hl (show o ≤ 6 by omega) g3'
        rw [t1, if_neg n10, g1, bnd_ok, c1, bnd_ok]
        cases hp : q2 μ n m kw nw i o with
        | false =>
          have t0 : (if false = true then (1 : Int32) else 0) = 0 := rfl
          rw [t0, if_pos rfl, nm_ok, nI_1]
          rw [hp, if_neg (by decide)] at hff2
          obtain ⟨d1, d2⟩ := c3 hp
          exact Or.inl ⟨hol, w, _, ⟨rfl, (hft.tr g2).tr d1, ⟨o, d2⟩, fun _ => hp, hff2⟩, rfl⟩
        | true =>
          rw [t1, if_neg n10]
          rw [hp, if_pos rfl] at hff2
          rw [ff_blkS hff2] at hw1
          obtain ⟨b, b1, b2, b3, b4⟩ := c4 hp
          refine Or.inr (Or.inr ⟨w, rfl, (hft.tr g2).sm.tr c2, fun q => by rw [hw1] at q; exact absurd q (by simp), fun a ha => ?_⟩)
          rw [hw1] at ha
          injection ha with ha
          subst ha
          exact ⟨b, b1, b2, b3, b4⟩
    · have : o = 7 := by omega
      subst this
      have hno : ff (q2 μ n m kw nw i) 7 0 = none := hff
      rw [ff_blkN hno] at hw1
      have hsa : f_X9_sashOf__19 t (nI i) = some (nI (SH μ i), t) := by
        simp only [f_X9_sashOf__19, at_20 (show i < 16 by omega), bnd_ok]
        rw [hqt.2.2.1 i (by omega)]; rfl
      obtain ⟨v, g1, g2, g3⟩ := N_reopen hy.1 hn hdt hl (hy.2.2.1 i (by omega))
      have g3' : DR v μ n (KW μ n) (SH μ) := by
        have : (fun x => if x = i then SH μ i else up1 (SH μ) i o0 x) = up1 (SH μ) i (SH μ i) := up1_up1
        rw [this, up1_id] at g3; exact g3
      rw [if_pos (show (6 : Int32) < nI 7 by decide), hsa, bnd_ok, g1, bnd_ok, nm_ok, nI_1]
      exact Or.inr (Or.inl ⟨hl, v, _, ⟨rfl, hft.tr g2, g3', hw1⟩, rfl⟩)
  · have : i = mH μ := by omega
    subst this
    rw [N_houses hqt.1, bnd_ok, if_pos (nI_le (Nat.le_refl _) (show mH μ < 2 ^ 31 by omega))]
    have hno : wO μ n m kw nw 2 = none := by rw [hw1, Nat.sub_self]; rfl
    exact Or.inr ⟨t, rfl, hft.sm, fun _ j => by rw [hft 60 (by decide) (by decide) (by decide)], fun a ha => by rw [hno] at ha; exact absurd ha (by simp)⟩
