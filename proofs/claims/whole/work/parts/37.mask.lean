/-! masks -/
theorem mkm_lt (p : Nat → Bool) : ∀ n, mkm p n < 2 ^ n := by
  intro n
  induction n with
  | zero => exact Nat.one_pos
  | succ n ih =>
    show mkm p n + (if p n then 2 ^ n else 0) < 2 ^ (n + 1)
    rw [Nat.pow_succ]
    split <;> omega
theorem mkm_tb (p : Nat → Bool) (i : Nat) : ∀ n, (mkm p n).testBit i = (decide (i < n) && p i) := by
  intro n
  induction n with
  | zero => show Nat.testBit 0 i = _; simp
  | succ n ih =>
    show (mkm p n + (if p n then 2 ^ n else 0)).testBit i = _
    have hlt := mkm_lt p n
    by_cases hp : p n = true
    · rw [if_pos hp, Nat.add_comm]
      rcases Nat.lt_trichotomy i n with h | h | h
      · rw [Nat.testBit_two_pow_add_gt h, ih]
        simp [h, Nat.lt_succ_of_lt h]
      · subst h
        rw [Nat.testBit_two_pow_add_eq, ih]
        simp [hp]
      · rw [Nat.testBit_lt_two_pow (i := i)]
        · have : ¬ i < n + 1 := by omega
          simp [this]
        · have : 2 ^ (n + 1) ≤ 2 ^ i := Nat.pow_le_pow_right (by decide) h
          rw [Nat.pow_succ] at this
          omega
    · rw [if_neg hp, Nat.add_zero, ih]
      rcases Nat.lt_trichotomy i n with h | h | h
      · simp [h, Nat.lt_succ_of_lt h]
      · subst h; simp [hp]
      · have : ¬ i < n + 1 := by omega
        have h2 : ¬ i < n := by omega
        simp [this, h2]
theorem mkm_ext {p q : Nat → Bool} {n : Nat} (h : ∀ i, i < n → p i = q i) : mkm p n = mkm q n := by
  apply Nat.eq_of_testBit_eq
  intro i
  rw [mkm_tb, mkm_tb]
  by_cases hi : i < n
  · rw [h i hi]
  · simp [hi]
theorem eq_mkm {K : Nat} {p : Nat → Bool} {n : Nat} (hK : K < 2 ^ n) (h : ∀ i, i < n → K.testBit i = p i) : K = mkm p n := by
  apply Nat.eq_of_testBit_eq
  intro i
  rw [mkm_tb]
  by_cases hi : i < n
  · rw [h i hi]; simp [hi]
  · have : K < 2 ^ i := Nat.lt_of_lt_of_le hK (Nat.pow_le_pow_right (by decide) (by omega))
    rw [Nat.testBit_lt_two_pow this]; simp [hi]
theorem mk_lt16 (p : Nat → Bool) : mkm p 16 < 65536 := mkm_lt p 16
theorem nx_or (a b : Nat) : nI a ||| nI b = nI (a ||| b) := by
  apply Int32.toBitVec_inj.1
  show BitVec.ofNat 32 a ||| BitVec.ofNat 32 b = BitVec.ofNat 32 (a ||| b)
  apply BitVec.eq_of_getLsbD_eq
  intro i hi
  simp [hi]
theorem nx_bit {j : Nat} (h : j < 31) : (1 : Int32) <<< (nI j &&& 31) = nI (2 ^ j) := by
  have h2 : 1 * 2 ^ j < 2 ^ 32 := by
    rw [Nat.one_mul]
    exact Nat.pow_lt_pow_right (by decide) (by omega)
  rw [show (1 : Int32) = nI 1 from rfl, pk_shlN (n := 1) (nI j &&& 31) j (s_l j (by omega)) h2, Nat.one_mul]
theorem p2_16 {j : Nat} (h : j < 16) : 2 ^ j < 65536 := Nat.pow_lt_pow_right (a := 2) (m := j) (n := 16) (by omega) h
theorem N_bit {σ : St} {j : Nat} (h : j < 16) : f_X10_bit σ (nI j) = some (nI (2 ^ j), σ) := by
  have h2 : ¬ (16 : Int32) ≤ nI j := nI_ge (b := 16) h (by decide)
  simp only [f_X10_bit, jq0, if_neg (nI_pos (show j < 2 ^ 31 by omega)), if_neg h2, nx_bit (show j < 31 by omega)]
theorem and_p2 {K j : Nat} : (K &&& 2 ^ j = 0) ↔ K.testBit j = false := by
  constructor
  · intro h
    have h2 : (K &&& 2 ^ j).testBit j = K.testBit j := by rw [Nat.testBit_and, Nat.testBit_two_pow_self, Bool.and_true]
    rw [← h2, h, Nat.zero_testBit]
  · intro h
    apply Nat.eq_of_testBit_eq
    intro i
    rw [Nat.testBit_and, Nat.testBit_two_pow, Nat.zero_testBit]
    by_cases q : j = i
    · subst q; rw [h]; rfl
    · simp [q]
theorem N_holds {σ : St} {K j : Nat} (hK : K < 65536) (hj : j < 16) : f_X10_holds σ (nI K) (nI j) = some (if K.testBit j then 1 else 0, σ) := by
  simp only [f_X10_holds, N_bit hj, bnd_ok, nx_and]
  have h2 : K &&& 2 ^ j < 2 ^ 31 := Nat.lt_of_le_of_lt Nat.and_le_left (by omega)
  cases hb : K.testBit j with
  | false => rw [and_p2.mpr hb, if_pos nI_0]; rfl
  | true =>
    have : K &&& 2 ^ j ≠ 0 := fun q => by rw [and_p2.mp q] at hb; exact absurd hb (by decide)
    rw [if_neg (nI_ne0 (by omega) h2)]; rfl
theorem mk_or {p : Nat → Bool} {j : Nat} (hj : j < 16) : nI (mkm p 16) ||| nI (2 ^ j) = nI (mkm (fun x => p x || decide (x = j)) 16) := by
  rw [nx_or]
  congr 1
  apply eq_mkm
  · exact Nat.or_lt_two_pow (mkm_lt p 16) (p2_16 hj)
  · intro i hi
    rw [Nat.testBit_or, mkm_tb, Nat.testBit_two_pow]
    simp [hi, eq_comm]
theorem m1_nI : (-1 : Int32) = nI 4294967295 := by decide
theorem tb_m1 (i : Nat) : Nat.testBit 4294967295 i = decide (i < 32) := by
  rw [show 4294967295 = 2 ^ 32 - 1 from rfl, Nat.testBit_two_pow_sub_one]
theorem mk_andn {p : Nat → Bool} {j : Nat} (hj : j < 16) : nI (mkm p 16) &&& (nI (2 ^ j) ^^^ (-1 : Int32)) = nI (mkm (fun x => p x && !decide (x = j)) 16) := by
  rw [m1_nI, nx_xor, nx_and]
  congr 1
  apply eq_mkm
  · exact Nat.lt_of_le_of_lt Nat.and_le_left (mkm_lt p 16)
  · intro i hi
    rw [Nat.testBit_and, Nat.testBit_xor, mkm_tb, Nat.testBit_two_pow, tb_m1]
    have : i < 32 := by omega
    by_cases q : j = i
    · subst q; simp [hi, this]
    · have q2 : ¬ i = j := fun z => q z.symm
      simp [hi, this, q, q2]
theorem or_lt16 {a b : Nat} (ha : a < 65536) (hb : b < 65536) : a ||| b < 65536 := Nat.or_lt_two_pow (n := 16) ha hb
