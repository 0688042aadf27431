/-! how many bits a mask has: the JDK's way and the check's -/
def pcF (K : Nat) : Nat :=
  let x2 := K - (K / 2 &&& 1431655765)
  let x3 := (x2 &&& 858993459) + (x2 / 4 &&& 858993459)
  let x4 := (x3 + x3 / 16) &&& 252645135
  let x5 := x4 + x4 / 256
  let x6 := x5 + x5 / 65536
  x6 &&& 63
def pcn (K : Nat) : Nat → Nat
  | 0 => 0
  | n + 1 => pcn K n + K / 2 ^ n % 2
theorem pcn_le (K n : Nat) : pcn K n ≤ n := by
  induction n with
  | zero => exact Nat.le_refl 0
  | succ n ih => show pcn K n + K / 2 ^ n % 2 ≤ n + 1; omega
theorem pcA0 : ∀ b, b < 16 → ∀ c, c < 16 → ∀ d, d < 16 → pcF (4096 * 0 + 256 * b + 16 * c + d) = pcn (4096 * 0 + 256 * b + 16 * c + d) 16 := by decide +kernel
theorem pcA1 : ∀ b, b < 16 → ∀ c, c < 16 → ∀ d, d < 16 → pcF (4096 * 1 + 256 * b + 16 * c + d) = pcn (4096 * 1 + 256 * b + 16 * c + d) 16 := by decide +kernel
theorem pcA2 : ∀ b, b < 16 → ∀ c, c < 16 → ∀ d, d < 16 → pcF (4096 * 2 + 256 * b + 16 * c + d) = pcn (4096 * 2 + 256 * b + 16 * c + d) 16 := by decide +kernel
theorem pcA3 : ∀ b, b < 16 → ∀ c, c < 16 → ∀ d, d < 16 → pcF (4096 * 3 + 256 * b + 16 * c + d) = pcn (4096 * 3 + 256 * b + 16 * c + d) 16 := by decide +kernel
theorem pcA4 : ∀ b, b < 16 → ∀ c, c < 16 → ∀ d, d < 16 → pcF (4096 * 4 + 256 * b + 16 * c + d) = pcn (4096 * 4 + 256 * b + 16 * c + d) 16 := by decide +kernel
theorem pcA5 : ∀ b, b < 16 → ∀ c, c < 16 → ∀ d, d < 16 → pcF (4096 * 5 + 256 * b + 16 * c + d) = pcn (4096 * 5 + 256 * b + 16 * c + d) 16 := by decide +kernel
theorem pcA6 : ∀ b, b < 16 → ∀ c, c < 16 → ∀ d, d < 16 → pcF (4096 * 6 + 256 * b + 16 * c + d) = pcn (4096 * 6 + 256 * b + 16 * c + d) 16 := by decide +kernel
theorem pcA7 : ∀ b, b < 16 → ∀ c, c < 16 → ∀ d, d < 16 → pcF (4096 * 7 + 256 * b + 16 * c + d) = pcn (4096 * 7 + 256 * b + 16 * c + d) 16 := by decide +kernel
theorem pcA8 : ∀ b, b < 16 → ∀ c, c < 16 → ∀ d, d < 16 → pcF (4096 * 8 + 256 * b + 16 * c + d) = pcn (4096 * 8 + 256 * b + 16 * c + d) 16 := by decide +kernel
theorem pcA9 : ∀ b, b < 16 → ∀ c, c < 16 → ∀ d, d < 16 → pcF (4096 * 9 + 256 * b + 16 * c + d) = pcn (4096 * 9 + 256 * b + 16 * c + d) 16 := by decide +kernel
theorem pcA10 : ∀ b, b < 16 → ∀ c, c < 16 → ∀ d, d < 16 → pcF (4096 * 10 + 256 * b + 16 * c + d) = pcn (4096 * 10 + 256 * b + 16 * c + d) 16 := by decide +kernel
theorem pcA11 : ∀ b, b < 16 → ∀ c, c < 16 → ∀ d, d < 16 → pcF (4096 * 11 + 256 * b + 16 * c + d) = pcn (4096 * 11 + 256 * b + 16 * c + d) 16 := by decide +kernel
theorem pcA12 : ∀ b, b < 16 → ∀ c, c < 16 → ∀ d, d < 16 → pcF (4096 * 12 + 256 * b + 16 * c + d) = pcn (4096 * 12 + 256 * b + 16 * c + d) 16 := by decide +kernel
theorem pcA13 : ∀ b, b < 16 → ∀ c, c < 16 → ∀ d, d < 16 → pcF (4096 * 13 + 256 * b + 16 * c + d) = pcn (4096 * 13 + 256 * b + 16 * c + d) 16 := by decide +kernel
theorem pcA14 : ∀ b, b < 16 → ∀ c, c < 16 → ∀ d, d < 16 → pcF (4096 * 14 + 256 * b + 16 * c + d) = pcn (4096 * 14 + 256 * b + 16 * c + d) 16 := by decide +kernel
theorem pcA15 : ∀ b, b < 16 → ∀ c, c < 16 → ∀ d, d < 16 → pcF (4096 * 15 + 256 * b + 16 * c + d) = pcn (4096 * 15 + 256 * b + 16 * c + d) 16 := by decide +kernel
theorem pc_eq {K : Nat} (h : K < 65536) : pcF K = pcn K 16 := by
  have e : K = 4096 * (K / 4096) + 256 * (K / 256 % 16) + 16 * (K / 16 % 16) + K % 16 := by omega
  have h1 : K / 4096 < 16 := by omega
  have h2 : K / 256 % 16 < 16 := by omega
  have h3 : K / 16 % 16 < 16 := by omega
  have h4 : K % 16 < 16 := by omega
  generalize K / 256 % 16 = b at *
  generalize K / 16 % 16 = c at *
  generalize K % 16 = d at *
  generalize hA : K / 4096 = A at *
  subst e
  clear hA h
  match A, h1 with
  | 0, _ => exact pcA0 b h2 c h3 d h4
  | 1, _ => exact pcA1 b h2 c h3 d h4
  | 2, _ => exact pcA2 b h2 c h3 d h4
  | 3, _ => exact pcA3 b h2 c h3 d h4
  | 4, _ => exact pcA4 b h2 c h3 d h4
  | 5, _ => exact pcA5 b h2 c h3 d h4
  | 6, _ => exact pcA6 b h2 c h3 d h4
  | 7, _ => exact pcA7 b h2 c h3 d h4
  | 8, _ => exact pcA8 b h2 c h3 d h4
  | 9, _ => exact pcA9 b h2 c h3 d h4
  | 10, _ => exact pcA10 b h2 c h3 d h4
  | 11, _ => exact pcA11 b h2 c h3 d h4
  | 12, _ => exact pcA12 b h2 c h3 d h4
  | 13, _ => exact pcA13 b h2 c h3 d h4
  | 14, _ => exact pcA14 b h2 c h3 d h4
  | 15, _ => exact pcA15 b h2 c h3 d h4
  | A + 16, h1 => omega
theorem N_bitCount {σ : St} {K : Nat} (h : K < 65536) : f_J6_bitCount_0f7a4 σ (nI K) = some (nI (pcn K 16), σ) := by
  have hand : ∀ a b : Nat, a &&& b ≤ a := fun a b => Nat.and_le_left
  have hb : K / 2 &&& 1431655765 ≤ K := Nat.le_trans (hand _ _) (by omega)
  have r1 : ((nI K).toUInt32 >>> ((1 : Int32).toUInt32 &&& Int32.toUInt32 31)).toInt32 = nI (K / 2) := pk_ushrN (n := K) (by omega) 1 1 (by decide)
  have l1 : (1431655765 : Int32) = nI 1431655765 := rfl
  have l2 : (858993459 : Int32) = nI 858993459 := rfl
  have l3 : (252645135 : Int32) = nI 252645135 := rfl
  have l4 : (63 : Int32) = nI 63 := rfl
  rw [← pc_eq h]
  simp only [f_J6_bitCount_0f7a4, nm_ok]
  rw [r1, l1, nx_and, pk_sub hb]
  have hx2 : K - (K / 2 &&& 1431655765) < 65536 := by omega
  generalize e2 : K - (K / 2 &&& 1431655765) = x2 at hx2
  have r2 : ((nI x2).toUInt32 >>> ((2 : Int32).toUInt32 &&& Int32.toUInt32 31)).toInt32 = nI (x2 / 4) := pk_ushrN (n := x2) (by omega) 2 2 (by decide)
  rw [r2, l2, nx_and, nx_and, nI_add]
  have hx3 : (x2 &&& 858993459) + (x2 / 4 &&& 858993459) < 131072 := by
    have := hand x2 858993459
    have := hand (x2 / 4) 858993459
    omega
  generalize e3 : (x2 &&& 858993459) + (x2 / 4 &&& 858993459) = x3 at hx3
  have r3 : ((nI x3).toUInt32 >>> ((4 : Int32).toUInt32 &&& Int32.toUInt32 31)).toInt32 = nI (x3 / 16) := pk_ushrN (n := x3) (by omega) 4 4 (by decide)
  rw [r3, nI_add, l3, nx_and]
  have hx4 : (x3 + x3 / 16) &&& 252645135 < 262144 := by
    have := hand (x3 + x3 / 16) 252645135
    omega
  generalize e4 : (x3 + x3 / 16) &&& 252645135 = x4 at hx4
  have r4 : ((nI x4).toUInt32 >>> ((8 : Int32).toUInt32 &&& Int32.toUInt32 31)).toInt32 = nI (x4 / 256) := pk_ushrN (n := x4) (by omega) 8 8 (by decide)
  rw [r4, nI_add]
  generalize e5 : x4 + x4 / 256 = x5
  have hx5 : x5 < 1048576 := by omega
  have r5 : ((nI x5).toUInt32 >>> ((16 : Int32).toUInt32 &&& Int32.toUInt32 31)).toInt32 = nI (x5 / 65536) := pk_ushrN (n := x5) (by omega) 16 16 (by decide)
  rw [r5, nI_add, l4, nx_and]
  have e6 : pcF K = (x5 + x5 / 65536) &&& 63 := by
    unfold pcF
    simp only [e2, e3, e4, e5]
  rw [e6]
theorem bit_at {K j : Nat} (hK : K < 65536) (hj : j < 16) : (nI K >>> (nI j &&& 31)) &&& (1 : Int32) = nI (K / 2 ^ j % 2) := by
  rw [pk_shrN (by omega) (nI j &&& 31) j (s_l j (by omega)), show (1 : Int32) = nI 1 from rfl, nx_and, Nat.and_one_is_mod]
theorem M_has {τ : St} {K j : Nat} (hK : K < 65536) (hj : j < 16) : f_X11_has τ (nI K) (nI j) = some (if K.testBit j then 1 else 0, τ) := by
  unfold f_X11_has
  rw [bit_at hK hj, Nat.testBit_eq_decide_div_mod_eq, show (1 : Int32) = nI 1 from rfl]
  have h2 : K / 2 ^ j % 2 < 2 := Nat.mod_lt _ (by decide)
  by_cases h : K / 2 ^ j % 2 = 1
  · rw [h]; simp
  · rw [if_neg (fun q => h ((nI_eq (by omega) (by omega)).mp q))]; simp [h]
theorem M_bits {τ : St} {K : Nat} (hK : K < 65536) : f_X11_bits τ (nI K) = some (nI (pcn K 16), τ) := by
  unfold f_X11_bits
  refine lq2_run (P := fun o => o = some (nI (pcn K 16), τ)) (fun i s x y => s = τ ∧ x = nI (pcn K i) ∧ y = nI i) 16 ?_ 100000 0 τ 0 0 (by decide) (by decide) ⟨rfl, rfl, rfl⟩
  rintro i s x y hi ⟨rfl, rfl, rfl⟩ k
  rw [show (16 : Int32) = nI 16 from rfl]
  rcases Nat.lt_or_ge i 16 with hl | hl
  · refine Or.inl ⟨hl, s, nI (pcn K (i + 1)), nI (i + 1), ⟨rfl, rfl, rfl⟩, ?_⟩
    rw [if_neg (nI_ge hl (by decide)), bit_at hK hl, nI_add, nm_ok, nm_ok, show (1 : Int32) = nI 1 from rfl, nI_add]; rfl
  · have : i = 16 := by omega
    subst this
    exact Or.inr (by rw [if_pos (nI_le (Nat.le_refl _) (by decide))])
