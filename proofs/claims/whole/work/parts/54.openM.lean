/-! openings: the words, and the check -/
def ff (p : Nat → Bool) : Nat → Nat → Option Nat
  | 0, _ => none
  | c + 1, i => if p i = true then some i else ff p c (i + 1)
theorem ff_ext {p q : Nat → Bool} : ∀ c i, (∀ j, i ≤ j → j < i + c → p j = q j) → ff p c i = ff q c i
  | 0, _, _ => rfl
  | c + 1, i, h => by
    show (if p i = true then some i else ff p c (i + 1)) = (if q i = true then some i else ff q c (i + 1))
    rw [h i (by omega) (by omega), ff_ext c (i + 1) (fun j h1 h2 => h j (by omega) (by omega))]
theorem ff_in {p : Nat → Bool} : ∀ c i {r : Nat}, ff p c i = some r → i ≤ r ∧ r < i + c ∧ p r = true
  | 0, _, r, h => by exact absurd h (by simp [ff])
  | c + 1, i, r, h => by
    have h' : (if p i = true then some i else ff p c (i + 1)) = some r := h
    by_cases e : p i = true
    · rw [if_pos e] at h'; injection h' with h'; subst h'; exact ⟨by omega, by omega, e⟩
    · rw [if_neg e] at h'
      have := ff_in c (i + 1) h'
      exact ⟨by omega, by omega, this.2.2⟩
def soM (kw nw X : Nat) : Bool := decide (X &&& kw = kw) && decide (X &&& nw = 0)
def PS (μ : Mu) (n m kw nw : Nat) (sh : Nat → Nat) : Bool := soM kw nw (alg μ n sh (μ 6 0) m (KW μ n))
def ups (sh : Nat → Nat) (w : Option Nat) : Nat → Nat := match w with
  | none => sh
  | some a => fun x => if x = a / 10 then a % 10 else sh x
def ov (w : Option Nat) : Int32 := match w with
  | none => -1
  | some a => nI a
def okO (μ : Mu) (w : Option Nat) : Prop := ∀ a, w = some a → a / 10 < mH μ ∧ a % 10 ≤ 6
theorem ups_le {μ : Mu} {sh : Nat → Nat} {w : Option Nat} (h : ∀ x, x < 16 → sh x ≤ 6) (hw : okO μ w) : ∀ x, x < 16 → ups sh w x ≤ 6 := fun x hx => by
  cases w with
  | none => exact h x hx
  | some a =>
    show (if x = a / 10 then a % 10 else sh x) ≤ 6
    have := (hw a rfl).2
    split
    · exact this
    · exact h x hx
theorem and_16 {a b : Nat} (h : a < 65536) : a &&& b < 65536 := Nat.lt_of_le_of_lt Nat.and_le_left h
theorem M_isSoBy {τ : St} {μ : Mu} (hm : RM τ μ) (hy : HY μ) {n m kw nw : Nat} {A B : Option Nat} (hn : n < mn μ) (hm12 : m ≤ 12) (hk : kw < 65536) (hnw : nw < 65536) (hA : τ 0 30 = ov A) (hB : τ 0 31 = ov B) (okA : okO μ A) (okB : okO μ B) : ∃ τ', f_X11_isSoBy__0 τ (nI n) (nI m) (nI kw) (nI nw) = some (if PS μ n m kw nw (ups (ups (SH μ) A) B) = true then 1 else 0, τ') ∧ sameM τ τ' ∧ τ' 0 30 = ov A ∧ τ' 0 31 = ov B := by
  have hH := mH_pos hy.1
  have hn5 : mn μ ≤ 5 := hy.1.2.2.1
  obtain ⟨u, b1, b2, b3, b4, b5⟩ := NW_askOf hm hy hn
  have e17 : (17 : Int32) + nI n = nI (17 + n) := nI_add 17 n
  have t10 : ¬ (10 : Int32) = 0 := by decide
  have hle1 := ups_le (w := A) hy.2.2.1 okA
  have hle2 := ups_le (w := B) hle1 okB
  have fin : ∀ v : St, only14 u v → NWs v (μ 6 0) (ups (ups (SH μ) A) B) (KW μ) → ∃ τ', jq0 (fun s10 => some ((0 : Int32), s10)) (fun k9 => bnd (f_X11_goes__0 v (nI m)) (fun r11 s12 => gd (((17 : Int32) + nI n)) 22 ((if ((s12 14 (Int32.toNatClampNeg ((17 : Int32) + nI n))) &&& nI kw) = nI kw then gd (((17 : Int32) + nI n)) 22 ((if ((s12 14 (Int32.toNatClampNeg ((17 : Int32) + nI n))) &&& nI nw) = (0 : Int32) then some ((1 : Int32), s12) else k9 s12)) else k9 s12)))) = some (if PS μ n m kw nw (ups (ups (SH μ) A) B) = true then 1 else 0, τ') ∧ sameM τ τ' ∧ τ' 0 30 = ov A ∧ τ' 0 31 = ov B := fun v h1 h2 => by
    obtain ⟨w, c1, c2, c3⟩ := M_goes (b3.o14 h1) hy.1 h2 (b4.o14 h1) (fun n hn => KWl hy hn) hle2 (by have := hy.2.1; omega) (show m ≤ 60 by omega)
    have hk2 : akn μ (ups (ups (SH μ) A) B) (μ 6 0) n m (KW μ) n = alg μ n (ups (ups (SH μ) A) B) (μ 6 0) m (KW μ n) := by
      unfold akn isOn; rw [if_pos ⟨hn, by simp⟩]
    have hX := lt_16 hy.1 (alg_lt hy.1 (KWl hy hn) (n := n) (s := μ 6 0) (sh := ups (ups (SH μ) A) B) m)
    refine ⟨w, ?_, b2.sm.tr (h1.sm.tr c2.sm), ?_, ?_⟩
    · rw [show ∀ (A : St → Ot) (B : (St → Ot) → Ot), jq0 A B = B A from fun _ _ => rfl]
      rw [c1, bnd_ok, e17, gd_nI (show 17 + n < 22 by omega) (show 22 < 2 ^ 31 by decide), nI_clamp (show 17 + n < 2 ^ 31 by omega), c3.2.2 n (by omega), hk2, nx_and, nx_and, gd_nI (show 17 + n < 22 by omega) (show 22 < 2 ^ 31 by decide)]
      unfold PS soM
      generalize alg μ n (ups (ups (SH μ) A) B) (μ 6 0) m (KW μ n) = X at hX
      have q1 : (nI (X &&& kw) = nI kw) = (X &&& kw = kw) := nI_eqB (by have := and_16 (b := kw) hX; omega) (by omega)
      have q2 : (nI (X &&& nw) = (0 : Int32)) = (X &&& nw = 0) := nI_eqB (b := 0) (by have := and_16 (b := nw) hX; omega) (by decide)
      simp only [q1, q2]
      by_cases c : X &&& kw = kw <;> by_cases d : X &&& nw = 0 <;> simp [c, d]
    · rw [c2.z, h1.z, b2.2 30 (by decide)]; exact hA
    · rw [c2.z, h1.z, b2.2 31 (by decide)]; exact hB
  have mid : ∀ v : St, only14 u v → NWs v (μ 6 0) (ups (SH μ) A) (KW μ) → ∃ τ', jq0 (fun s8 => jq0 (fun s10 => some ((0 : Int32), s10)) (fun k9 => bnd (f_X11_goes__0 s8 (nI m)) (fun r11 s12 => gd (((17 : Int32) + nI n)) 22 ((if ((s12 14 (Int32.toNatClampNeg ((17 : Int32) + nI n))) &&& nI kw) = nI kw then gd (((17 : Int32) + nI n)) 22 ((if ((s12 14 (Int32.toNatClampNeg ((17 : Int32) + nI n))) &&& nI nw) = (0 : Int32) then some ((1 : Int32), s12) else k9 s12)) else k9 s12))))) (fun k7 => (if (v 0 31) < (0 : Int32) then k7 v else nz ((10 : Int32)) (nz ((10 : Int32)) (gd (((1 : Int32) + ((v 0 31) / (10 : Int32)))) 22 (nm (ps v 14 (((1 : Int32) + ((v 0 31) / (10 : Int32)))) (((v 0 31) - (v 0 31) / (10 : Int32) * (10 : Int32)))) (fun s13 => k7 s13)))))) = some (if PS μ n m kw nw (ups (ups (SH μ) A) B) = true then 1 else 0, τ') ∧ sameM τ τ' ∧ τ' 0 30 = ov A ∧ τ' 0 31 = ov B := fun v h1 h2 => by
    have hv31 : v 0 31 = ov B := by rw [h1.z, b2.2 31 (by decide)]; exact hB
    rw [show ∀ (A : St → Ot) (B : (St → Ot) → Ot), jq0 A B = B A from fun _ _ => rfl]
    rw [hv31]
    cases B with
    | none => rw [if_pos (show ov none < 0 by decide)]; exact fin v h1 h2
    | some b =>
      have hb := okB b rfl
      have hb2 : b < 160 := by omega
      have d1 : nI b / (10 : Int32) = nI (b / 10) := pk_div (d := 10) (by omega) (by decide) (by decide)
      have d2 : nI b - nI b / (10 : Int32) * (10 : Int32) = nI (b % 10) := pk_rem (d := 10) (by omega) (by decide) (by decide)
      have d3 : (1 : Int32) + nI (b / 10) = nI (1 + b / 10) := nI_add 1 _
      show ∃ τ', (if nI b < (0 : Int32) then _ else _) = _ ∧ _
      rw [if_neg (nI_pos (by omega)), nz_ok t10, nz_ok t10]
      show ∃ τ', gd ((1 : Int32) + nI b / (10 : Int32)) 22 (nm (ps v 14 ((1 : Int32) + nI b / (10 : Int32)) (nI b - nI b / (10 : Int32) * (10 : Int32))) _) = _ ∧ _
      rw [d2, d1, d3, gd_nI (show 1 + b / 10 < 22 by omega) (by decide), nm_ok]
      exact fin _ (h1.tr only14.ps) (h2.setS (n := b / 10) (v := b % 10) (by omega))
  unfold f_X11_isSoBy__0
  rw [show ∀ (A : St → Ot) (B : (St → Ot) → Ot), jq0 A B = B A from fun _ _ => rfl]
  rw [b1, bnd_ok]
  have hu30 : u 0 30 = ov A := by rw [b2.2 30 (by decide)]; exact hA
  rw [hu30]
  cases A with
  | none => rw [if_pos (show ov none < 0 by decide)]; exact mid u only14.rf b5
  | some b =>
    have hb := okA b rfl
    have hb2 : b < 160 := by omega
    have d1 : nI b / (10 : Int32) = nI (b / 10) := pk_div (d := 10) (by omega) (by decide) (by decide)
    have d2 : nI b - nI b / (10 : Int32) * (10 : Int32) = nI (b % 10) := pk_rem (d := 10) (by omega) (by decide) (by decide)
    have d3 : (1 : Int32) + nI (b / 10) = nI (1 + b / 10) := nI_add 1 _
    show ∃ τ', (if nI b < (0 : Int32) then _ else _) = _ ∧ _
    rw [if_neg (nI_pos (by omega)), nz_ok t10, nz_ok t10]
    show ∃ τ', gd ((1 : Int32) + nI b / (10 : Int32)) 22 (nm (ps u 14 ((1 : Int32) + nI b / (10 : Int32)) (nI b - nI b / (10 : Int32) * (10 : Int32))) _) = _ ∧ _
    rw [d2, d1, d3, gd_nI (show 1 + b / 10 < 22 by omega) (by decide), nm_ok]
    exact mid _ only14.ps (b5.setS (n := b / 10) (v := b % 10) (by omega))
def wA (many a : Nat) : Option Nat := if many = 0 then none else some a
def wB (many b : Nat) : Option Nat := if many < 2 then none else some b
def wF (μ : Mu) (many a : Nat) : Nat := if many = 2 then 10 * (a / 10 + 1) else 10 * mH μ - 1
def wI (μ : Mu) (n m kw nw many a : Nat) : Option Nat := ff (fun b => (decide (many < 2) || decide (b % 10 ≤ 6)) && PS μ n m kw nw (ups (ups (SH μ) (wA many a)) (wB many b))) (10 * mH μ - wF μ many a) (wF μ many a)
def wE (μ : Mu) (many : Nat) : Nat := if many = 0 then 1 else 10 * mH μ
def wO (μ : Mu) (n m kw nw many : Nat) : Option Nat := ff (fun a => (decide (many = 0) || decide (a % 10 ≤ 6)) && (wI μ n m kw nw many a).isSome) (wE μ many) 0
