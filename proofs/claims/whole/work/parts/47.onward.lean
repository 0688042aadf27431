/-! the system: onward, along, hears -/
theorem wq00 : (nI 0 = (0 : Int32)) = True := by decide
theorem wq01 : (nI 0 = (1 : Int32)) = False := by decide
theorem wq02 : (nI 0 = (2 : Int32)) = False := by decide
theorem wq03 : (nI 0 = (3 : Int32)) = False := by decide
theorem wq04 : (nI 0 = (4 : Int32)) = False := by decide
theorem wq10 : (nI 1 = (0 : Int32)) = False := by decide
theorem wq11 : (nI 1 = (1 : Int32)) = True := by decide
theorem wq12 : (nI 1 = (2 : Int32)) = False := by decide
theorem wq13 : (nI 1 = (3 : Int32)) = False := by decide
theorem wq14 : (nI 1 = (4 : Int32)) = False := by decide
theorem wq20 : (nI 2 = (0 : Int32)) = False := by decide
theorem wq21 : (nI 2 = (1 : Int32)) = False := by decide
theorem wq22 : (nI 2 = (2 : Int32)) = True := by decide
theorem wq23 : (nI 2 = (3 : Int32)) = False := by decide
theorem wq24 : (nI 2 = (4 : Int32)) = False := by decide
theorem wq30 : (nI 3 = (0 : Int32)) = False := by decide
theorem wq31 : (nI 3 = (1 : Int32)) = False := by decide
theorem wq32 : (nI 3 = (2 : Int32)) = False := by decide
theorem wq33 : (nI 3 = (3 : Int32)) = True := by decide
theorem wq34 : (nI 3 = (4 : Int32)) = False := by decide
theorem wq40 : (nI 4 = (0 : Int32)) = False := by decide
theorem wq41 : (nI 4 = (1 : Int32)) = False := by decide
theorem wq42 : (nI 4 = (2 : Int32)) = False := by decide
theorem wq43 : (nI 4 = (3 : Int32)) = False := by decide
theorem wq44 : (nI 4 = (4 : Int32)) = True := by decide
theorem shr1 {A : Nat} (h : A < 2 ^ 32) : ((nI A).toUInt32 >>> ((1 : Int32).toUInt32 &&& Int32.toUInt32 31)).toInt32 = nI (A / 2 ^ 1) := pk_ushrN h 1 1 (by decide)
theorem shl1 {A : Nat} (h : A * 2 ^ 1 < 2 ^ 32) : nI A <<< ((1 : Int32) &&& 31) = nI (A * 2 ^ 1) := pk_shlN _ 1 (by decide) h
theorem N_onward {σ : St} {μ : Mu} (hw : WP μ) {n K X w : Nat} {sh : Nat → Nat} (hd : DR σ μ n K sh) (hX : X < 2 ^ mH μ) (hw4 : w ≤ 4) : f_X1_onward__56 σ (nI X) (nI w) = some (nI (nx μ n sh w X), σ) := by
  have hC := hw.2.1
  obtain ⟨-, d5, d6, d7, d8, d9, d10, d11, -, -⟩ := hd
  have hX16 := lt_16 hw hX
  have and32 : ∀ a b : Nat, a < 65536 → a &&& b < 65536 := fun a b h => Nat.lt_of_le_of_lt Nat.and_le_left h
  have hp : 2 ^ mC μ ≤ 16 := Nat.pow_le_pow_right (n := 2) (j := 4) (by omega) hC.2
  have hmul : ∀ a : Nat, a < 65536 → a * 2 ^ mC μ < 2 ^ 32 := fun a h => Nat.lt_of_lt_of_le (Nat.mul_lt_mul_of_lt_of_le h hp (by decide)) (by decide)
  have hsu := s_u (mC μ) (by omega)
  have hsl := s_l (mC μ) (by omega)
  have g := and32 X (mkm (kgB μ) 16) hX16
  have k := and32 X (mkm (ktB μ n) 16) hX16
  have g2 := fun b => and32 _ b g
  have k2 := fun b => and32 _ b k
  have r1 := pk_ushrN (n := X &&& mkm (kgB μ) 16) (by omega) (nI (mC μ)) (mC μ) hsu
  have r2 := pk_ushrN (n := X &&& mkm (ktB μ n) 16) (by omega) (nI (mC μ)) (mC μ) hsu
  have r3 := pk_shlN (nI (mC μ) &&& 31) (mC μ) hsl (hmul _ g)
  have r4 := pk_shlN (nI (mC μ) &&& 31) (mC μ) hsl (hmul _ k)
  have q1 := shr1 (A := X &&& mkm (kgB μ) 16 &&& (firstC μ ^^^ 4294967295)) (by have := g2 (firstC μ ^^^ 4294967295); omega)
  have q2 := shr1 (A := X &&& mkm (ktB μ n) 16 &&& (firstC μ ^^^ 4294967295)) (by have := k2 (firstC μ ^^^ 4294967295); omega)
  have q3 := shl1 (A := X &&& mkm (kgB μ) 16 &&& (lastC μ ^^^ 4294967295)) (by have := g2 (lastC μ ^^^ 4294967295); omega)
  have q4 := shl1 (A := X &&& mkm (ktB μ n) 16 &&& (lastC μ ^^^ 4294967295)) (by have := k2 (lastC μ ^^^ 4294967295); omega)
  have fin : ∀ E : Nat, (∀ t, E.testBit t = true ↔ (X.testBit t = true ∨ ((w = 0 ∨ w = 1) ∧ wayB μ n sh X t 1) ∨ ((w = 0 ∨ w = 2) ∧ wayB μ n sh X t 2) ∨ ((w = 0 ∨ w = 3) ∧ wayB μ n sh X t 3) ∨ ((w = 0 ∨ w = 4) ∧ wayB μ n sh X t 4))) → nI E = nI (nx μ n sh w X) := fun E h => by
    congr 1
    apply Nat.eq_of_testBit_eq
    intro t
    rw [Bool.eq_iff_iff, h t, nx_way]
  simp only [f_X1_onward__56, jq0, jq1, jq3, nm_ok, d5, d6, d7, d8, d9, d10, d11, m1_nI, nx_xor, nx_and, nx_or, r1, r2, r3, r4, q1, q2, q3, q4]
  have : w = 0 ∨ w = 1 ∨ w = 2 ∨ w = 3 ∨ w = 4 := by omega
  rcases this with e | e | e | e | e <;> subst e <;> simp only [wq00, wq01, wq02, wq03, wq04, wq10, wq11, wq12, wq13, wq14, wq20, wq21, wq22, wq23, wq24, wq30, wq31, wq32, wq33, wq34, wq40, wq41, wq42, wq43, wq44, if_true, if_false]
  · rw [← fin (mw4 μ n sh X (mw3 μ n sh X (mw2 μ n sh X (mw1 μ n sh X X)))) (fun t => by
      rw [mw4_tb hw, mw3_tb hw, mw2_tb hw, mw1_tb hw]; simp [or_assoc])]
    rfl
  · rw [← fin (mw1 μ n sh X X) (fun t => by rw [mw1_tb hw]; simp)]
    rfl
  · rw [← fin (mw2 μ n sh X X) (fun t => by rw [mw2_tb hw]; simp)]
    rfl
  · rw [← fin (mw3 μ n sh X X) (fun t => by rw [mw3_tb hw]; simp)]
    rfl
  · rw [← fin (mw4 μ n sh X X) (fun t => by rw [mw4_tb hw]; simp)]
    rfl
theorem N_floorMod {σ : St} {a b : Nat} (ha : a < 2 ^ 31) (hb0 : 0 < b) (hb : b < 2 ^ 31) : f_J9_floorMod_7cf53 σ (nI a) (nI b) = some (nI (a % b), σ) := by
  have hx : 0 ≤ nI a ^^^ nI b := by
    rw [nx_xor]
    exact nI_pos' (Nat.xor_lt_two_pow ha hb)
  simp only [f_J9_floorMod_7cf53, nz_ok (nI_ne0 hb0 hb), nm_ok, pk_rem ha hb0 hb, if_pos hx]
theorem N_windsInTurn {σ : St} {μ : Mu} (h : PN σ 12 μ) (hw : WP μ) : f_X4_windsInTurn__12 σ = some (nI (mW μ), σ) := by
  have h8 := hw.2.2.2.1
  unfold f_X4_windsInTurn__12 mW
  rw [h.2.2.2.2.2.1]
  by_cases e : mw μ = 0
  · rw [e, if_pos nI_0, if_pos rfl]; rfl
  · rw [if_neg (nI_ne0 (by omega) (by omega)), if_neg e]
theorem N_windOf {σ : St} {μ : Mu} (h : PN σ 12 μ) (hw : WP μ) {s : Nat} (hs : s < 2 ^ 31) : f_X4_windOf__12 σ (nI s) = some (nI (wnd μ s), σ) := by
  have hW := mW_pos hw
  have hm : s % mW μ < mW μ := Nat.mod_lt _ (by omega)
  simp only [f_X4_windOf__12, N_windsInTurn h hw, bnd_ok, if_neg (nI_nle (show 0 < mW μ by omega) (by omega)), N_floorMod hs (show 0 < mW μ by omega) (show mW μ < 2 ^ 31 by omega), at_18 (show s % mW μ < 8 by omega)]
  rw [h.2.2.2.2.2.2.2.2 _ hm]; rfl
/-- a whole turn without change: no change any more -/
theorem alg_still {μ : Mu} (hw : WP μ) {n s K : Nat} {sh : Nat → Nat} (h : ∀ i, i < mW μ → nx μ n sh (wnd μ (s + i)) K = K) : ∀ m, alg μ n sh s m K = K
  | 0 => rfl
  | m + 1 => by
    have hW := mW_pos hw
    show nx μ n sh (wnd μ (s + m)) (alg μ n sh s m K) = K
    rw [alg_still hw h m]
    have e : wnd μ (s + m) = wnd μ (s + m % mW μ) := by
      unfold wnd
      rw [Nat.add_mod, Nat.add_mod s (m % mW μ), Nat.mod_mod]
    rw [e]
    exact h _ (Nat.mod_lt _ (by omega))
theorem N_along {σ : St} {μ : Mu} (hw : WP μ) (hp : PN σ 12 μ) {n K X a b : Nat} {sh : Nat → Nat} (hd : DR σ μ n K sh) (hs : σ 19 2 = nI (μ 6 0)) (hs2 : μ 6 0 ≤ 100000) (hX : X < 2 ^ mH μ) (hab : a ≤ b) (hb : b ≤ 100) : f_X1_along__56 σ (nI X) (nI a) (nI b) = some (nI (alg μ n sh (μ 6 0 + a) (b - a) X), σ) := by
  have hW := mW_pos hw
  unfold f_X1_along__56
  rw [N_windsInTurn hp hw, bnd_ok]
  have hall : ∀ m, alg μ n sh (μ 6 0 + a) m X < 2 ^ mH μ := fun m => alg_lt hw hX m
  refine lq3_run (P := fun o => o = some (nI (alg μ n sh (μ 6 0 + a) (b - a) X), σ)) (fun i t x y z => t = σ ∧ x = nI (alg μ n sh (μ 6 0 + a) i X) ∧ z = nI (a + i) ∧ ∃ j, j ≤ i ∧ j ≤ mW μ ∧ y = nI j ∧ ∀ l, l < j → nx μ n sh (wnd μ (μ 6 0 + a + (i - 1 - l))) (alg μ n sh (μ 6 0 + a) i X) = alg μ n sh (μ 6 0 + a) i X) (b - a) ?_ 100000 0 σ (nI X) 0 (nI a) (Nat.zero_le _) (by omega) ⟨rfl, rfl, rfl, 0, Nat.le_refl _, Nat.zero_le _, nI_0.symm, fun l hl => absurd hl (Nat.not_lt_zero _)⟩
  rintro i t x y z hi ⟨rfl, rfl, rfl, j, hj, hj2, rfl, hst⟩ k
  rcases Nat.lt_or_ge i (b - a) with hl | hl
  · by_cases hfull : mW μ ≤ j
    · refine Or.inr ?_
      simp only [if_neg (nI_ge (show a + i < b by omega) (show b < 2 ^ 31 by omega)), if_pos (nI_le hfull (show j < 2 ^ 31 by omega))]
      have hjW : j = mW μ := by omega
      subst hjW
      have : alg μ n sh (μ 6 0 + a) (b - a) X = alg μ n sh (μ 6 0 + a) i X := by
        rw [show b - a = i + (b - a - i) by omega, alg_add]
        refine alg_still hw (fun l hl2 => ?_) _
        have e := hst (mW μ - 1 - l) (by omega)
        have e2 : wnd μ (μ 6 0 + a + i + l) = wnd μ (μ 6 0 + a + (i - 1 - (mW μ - 1 - l))) := by
          unfold wnd
          rw [show μ 6 0 + a + i + l = μ 6 0 + a + (i - 1 - (mW μ - 1 - l)) + mW μ by omega, Nat.add_mod_right]
        rw [e2]; exact e
      rw [this]
    · refine Or.inl ⟨hl, ?_⟩
      simp only [if_neg (nI_ge (show a + i < b by omega) (show b < 2 ^ 31 by omega)), if_neg (nI_ge (show j < mW μ by omega) (show mW μ < 2 ^ 31 by omega)), f_X9_stepsGone__19, bnd_ok, hs, nI_add, N_windOf hp hw (show μ 6 0 + (a + i) < 2 ^ 31 by omega), N_onward hw hd (hall i) (wnd_le hw _), jq2, nm_ok, nI_1]
      have e1 : nx μ n sh (wnd μ (μ 6 0 + (a + i))) (alg μ n sh (μ 6 0 + a) i X) = alg μ n sh (μ 6 0 + a) (i + 1) X := by rw [← Nat.add_assoc]; rfl
      rw [e1]
      by_cases c : alg μ n sh (μ 6 0 + a) (i + 1) X = alg μ n sh (μ 6 0 + a) i X
      · rw [if_pos (by rw [c])]
        refine ⟨t, _, _, _, ⟨rfl, rfl, rfl, j + 1, by omega, by omega, rfl, fun l hl2 => ?_⟩, rfl⟩
        rw [c]
        rcases Nat.lt_or_ge 0 l with h0 | h0
        · have := hst (l - 1) (by omega)
          rw [show i + 1 - 1 - l = i - 1 - (l - 1) by omega]; exact this
        · have : l = 0 := by omega
          subst this
          exact c
      · rw [if_neg (fun q => c ((nI_eq (by have := lt_16 hw (hall (i + 1)); omega) (by have := lt_16 hw (hall i); omega)).mp q))]
        exact ⟨t, _, _, _, ⟨rfl, rfl, rfl, 0, by omega, by omega, rfl, fun l hl2 => by omega⟩, rfl⟩
  · have : i = b - a := by omega
    subst this
    refine Or.inr ?_
    rw [if_pos (nI_le (show b ≤ a + (b - a) by omega) (show a + (b - a) < 2 ^ 31 by omega))]
