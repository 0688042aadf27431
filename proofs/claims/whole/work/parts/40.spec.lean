/-! HOW A PIECE OF NEWS GOES ON, in numbers -/
def loB (μ : Mu) (n h : Nat) : Bool := !decide (μ 1 h = 3) && (!decide (μ 1 h = 4) || !decide (μ 2 n = 2))
def nd (μ : Mu) (n t : Nat) : Nat := μ 3 n + (if μ 1 t = 2 then 1 else 0)
def liB (μ : Mu) (n : Nat) (sh : Nat → Nat) (h t : Nat) : Bool := decide (0 < sh t) && decide (nd μ n t ≤ sh t + (if μ 1 h = 1 then 1 else 0))
def bsd (μ : Mu) (h d : Nat) : Option Nat :=
  if d = 1 then (if mC μ ≤ h then some (h - mC μ) else none)
  else if d = 2 then (if h % mC μ + 1 < mC μ then some (h + 1) else none)
  else if d = 3 then (if h + mC μ < mH μ then some (h + mC μ) else none)
  else (if h % mC μ = 0 then none else some (h - 1))
def gbw (μ : Mu) (n : Nat) (sh : Nat → Nat) (K h d acc : Nat) : Nat :=
  match bsd μ h d with
  | none => acc
  | some t => if K.testBit t then acc else if liB μ n sh h t then acc ||| 2 ^ t else acc
def gbd (μ : Mu) (n : Nat) (sh : Nat → Nat) (w K h : Nat) : Nat → Nat → Nat
  | 0, acc => acc
  | i + 1, acc => if w = 0 ∨ w = i + 1 then gbw μ n sh K h (i + 1) (gbd μ n sh w K h i acc) else gbd μ n sh w K h i acc
def gbh (μ : Mu) (n : Nat) (sh : Nat → Nat) (w K : Nat) : Nat → Nat
  | 0 => K
  | h + 1 => if K.testBit h = true ∧ loB μ n h = true then gbd μ n sh w K h 4 (gbh μ n sh w K h) else gbh μ n sh w K h
def nx (μ : Mu) (n : Nat) (sh : Nat → Nat) (w K : Nat) : Nat := gbh μ n sh w K (mH μ)
theorem bsd_lt {μ : Mu} (hw : WP μ) {h d t : Nat} (hh : h < mH μ) (e : bsd μ h d = some t) : t < mH μ := by
  have hC := hw.2.1
  have hd := Nat.div_add_mod h (mC μ)
  have hR : h / mC μ < mR μ := by
    rw [Nat.div_lt_iff_lt_mul (by omega)]; exact hh
  have hm : mC μ * (h / mC μ + 1) ≤ mH μ := by
    unfold mH
    rw [Nat.mul_comm (mR μ)]
    exact Nat.mul_le_mul (Nat.le_refl _) hR
  rw [Nat.mul_add, Nat.mul_one] at hm
  unfold bsd at e
  split at e
  · split at e
    · injection e with e; omega
    · exact absurd e (by simp)
  · split at e
    · split at e
      · injection e with e
        omega
      · exact absurd e (by simp)
    · split at e
      · split at e
        · injection e with e; omega
        · exact absurd e (by simp)
      · split at e
        · exact absurd e (by simp)
        · injection e with e; omega
theorem gbw_tb {μ : Mu} {n K h d acc t : Nat} {sh : Nat → Nat} (hacc : K.testBit t = true → acc.testBit t = true) : (gbw μ n sh K h d acc).testBit t = true ↔ (acc.testBit t = true ∨ (bsd μ h d = some t ∧ liB μ n sh h t = true)) := by
  unfold gbw
  cases hb : bsd μ h d with
  | none => simp
  | some u =>
    simp only []
    by_cases h1 : K.testBit u = true
    · rw [if_pos h1]
      refine ⟨Or.inl, fun q => ?_⟩
      rcases q with q | ⟨q, -⟩
      · exact q
      · injection q with q; subst q; exact hacc h1
    · rw [if_neg h1]
      by_cases h2 : liB μ n sh h u = true
      · rw [if_pos h2, Nat.testBit_or, Nat.testBit_two_pow]
        by_cases q : u = t
        · subst q; simp [h2]
        · simp [q]
      · rw [if_neg h2]
        refine ⟨Or.inl, fun q => ?_⟩
        rcases q with q | ⟨q, q2⟩
        · exact q
        · injection q with q; subst q; exact absurd q2 h2
theorem gbd_tb {μ : Mu} {n w K h acc t : Nat} {sh : Nat → Nat} (hacc : K.testBit t = true → acc.testBit t = true) : ∀ i, (gbd μ n sh w K h i acc).testBit t = true ↔ (acc.testBit t = true ∨ ∃ d, 1 ≤ d ∧ d ≤ i ∧ (w = 0 ∨ w = d) ∧ bsd μ h d = some t ∧ liB μ n sh h t = true) := by
  intro i
  induction i with
  | zero =>
    show acc.testBit t = true ↔ _
    refine ⟨Or.inl, fun q => ?_⟩
    rcases q with q | ⟨d, h1, h2, -⟩
    · exact q
    · omega
  | succ i ih =>
    show (if w = 0 ∨ w = i + 1 then gbw μ n sh K h (i + 1) (gbd μ n sh w K h i acc) else gbd μ n sh w K h i acc).testBit t = true ↔ _
    by_cases hc : w = 0 ∨ w = i + 1
    · rw [if_pos hc, gbw_tb (fun q => ih.mpr (Or.inl (hacc q))), ih]
      constructor
      · rintro ((q | ⟨d, h1, h2, h3⟩) | q)
        · exact Or.inl q
        · exact Or.inr ⟨d, h1, by omega, h3⟩
        · exact Or.inr ⟨i + 1, by omega, by omega, hc, q⟩
      · rintro (q | ⟨d, h1, h2, h3, h4⟩)
        · exact Or.inl (Or.inl q)
        · by_cases e : d = i + 1
          · subst e; exact Or.inr h4
          · exact Or.inl (Or.inr ⟨d, h1, by omega, h3, h4⟩)
    · rw [if_neg hc, ih]
      constructor
      · rintro (q | ⟨d, h1, h2, h3⟩)
        · exact Or.inl q
        · exact Or.inr ⟨d, h1, by omega, h3⟩
      · rintro (q | ⟨d, h1, h2, h3, h4⟩)
        · exact Or.inl q
        · by_cases e : d = i + 1
          · subst e; exact absurd h3 hc
          · exact Or.inr ⟨d, h1, by omega, h3, h4⟩
theorem gbh_tb {μ : Mu} {n w K t : Nat} {sh : Nat → Nat} : ∀ i, (gbh μ n sh w K i).testBit t = true ↔ (K.testBit t = true ∨ ∃ h d, h < i ∧ 1 ≤ d ∧ d ≤ 4 ∧ (w = 0 ∨ w = d) ∧ K.testBit h = true ∧ loB μ n h = true ∧ bsd μ h d = some t ∧ liB μ n sh h t = true) := by
  intro i
  induction i with
  | zero =>
    show K.testBit t = true ↔ _
    refine ⟨Or.inl, fun q => ?_⟩
    rcases q with q | ⟨h, d, h1, -⟩
    · exact q
    · omega
  | succ i ih =>
    show (if K.testBit i = true ∧ loB μ n i = true then gbd μ n sh w K i 4 (gbh μ n sh w K i) else gbh μ n sh w K i).testBit t = true ↔ _
    by_cases hc : K.testBit i = true ∧ loB μ n i = true
    · rw [if_pos hc, gbd_tb (fun q => ih.mpr (Or.inl q)), ih]
      constructor
      · rintro ((q | ⟨h, d, h1, h2⟩) | ⟨d, h1, h2, h3, h4, h5⟩)
        · exact Or.inl q
        · exact Or.inr ⟨h, d, by omega, h2⟩
        · exact Or.inr ⟨i, d, by omega, h1, h2, h3, hc.1, hc.2, h4, h5⟩
      · rintro (q | ⟨h, d, h1, h2, h3, h4, h5, h6, h7⟩)
        · exact Or.inl (Or.inl q)
        · by_cases e : h = i
          · subst e; exact Or.inr ⟨d, h2, h3, h4, h7⟩
          · exact Or.inl (Or.inr ⟨h, d, by omega, h2, h3, h4, h5, h6, h7⟩)
    · rw [if_neg hc, ih]
      constructor
      · rintro (q | ⟨h, d, h1, h2⟩)
        · exact Or.inl q
        · exact Or.inr ⟨h, d, by omega, h2⟩
      · rintro (q | ⟨h, d, h1, h2, h3, h4, h5, h6, h7⟩)
        · exact Or.inl q
        · by_cases e : h = i
          · subst e; exact absurd ⟨h5, h6⟩ hc
          · exact Or.inr ⟨h, d, by omega, h2, h3, h4, h5, h6, h7⟩
theorem gbh_0 {μ : Mu} {n w : Nat} {sh : Nat → Nat} (i : Nat) : gbh μ n sh w 0 i = 0 := by
  induction i with
  | zero => rfl
  | succ i ih =>
    show (if Nat.testBit 0 i = true ∧ loB μ n i = true then gbd μ n sh w 0 i 4 (gbh μ n sh w 0 i) else gbh μ n sh w 0 i) = 0
    rw [Nat.zero_testBit, if_neg (fun q => absurd q.1 (by decide)), ih]
theorem tb_ge {K i m : Nat} (hK : K < 2 ^ m) (hi : m ≤ i) : K.testBit i = false := Nat.testBit_lt_two_pow (Nat.lt_of_lt_of_le hK (Nat.pow_le_pow_right (by decide) hi))
theorem tb_lt {K i m : Nat} (hK : K < 2 ^ m) (h : K.testBit i = true) : i < m := by
  rcases Nat.lt_or_ge i m with q | q
  · exact q
  · rw [tb_ge hK q] at h; exact absurd h (by decide)
theorem gbh_lt {μ : Mu} (hw : WP μ) {n w K : Nat} {sh : Nat → Nat} (hK : K < 2 ^ mH μ) (i : Nat) (hi : i ≤ mH μ) : gbh μ n sh w K i < 2 ^ mH μ := by
  apply Nat.lt_pow_two_of_testBit
  intro t ht
  cases hb : (gbh μ n sh w K i).testBit t with
  | false => rfl
  | true =>
    rcases (gbh_tb i).mp hb with q | ⟨h, d, h1, h2, h3, h4, h5, h6, h7, h8⟩
    · have := tb_lt hK q; omega
    · have := bsd_lt hw (show h < mH μ by omega) h7; omega
theorem nx_lt {μ : Mu} (hw : WP μ) {n w K : Nat} {sh : Nat → Nat} (hK : K < 2 ^ mH μ) : nx μ n sh w K < 2 ^ mH μ := gbh_lt hw hK _ (Nat.le_refl _)
theorem nx_tb {μ : Mu} {n w K t : Nat} {sh : Nat → Nat} : (nx μ n sh w K).testBit t = true ↔ (K.testBit t = true ∨ ∃ h d, h < mH μ ∧ 1 ≤ d ∧ d ≤ 4 ∧ (w = 0 ∨ w = d) ∧ K.testBit h = true ∧ loB μ n h = true ∧ bsd μ h d = some t ∧ liB μ n sh h t = true) := gbh_tb _
theorem nx_mono {μ : Mu} {n w K t : Nat} {sh : Nat → Nat} (h : K.testBit t = true) : (nx μ n sh w K).testBit t = true := nx_tb.mpr (Or.inl h)
/-- only the widths of houses of the parish matter -/
theorem nx_sh {μ : Mu} (hw : WP μ) {n w K : Nat} {sh sh' : Nat → Nat} (h : ∀ t, t < mH μ → sh t = sh' t) : nx μ n sh w K = nx μ n sh' w K := by
  apply Nat.eq_of_testBit_eq
  intro t
  rw [Bool.eq_iff_iff, nx_tb, nx_tb]
  have key : ∀ (a b : Nat → Nat), (∀ t, t < mH μ → a t = b t) → (K.testBit t = true ∨ ∃ h d, h < mH μ ∧ 1 ≤ d ∧ d ≤ 4 ∧ (w = 0 ∨ w = d) ∧ K.testBit h = true ∧ loB μ n h = true ∧ bsd μ h d = some t ∧ liB μ n a h t = true) → (K.testBit t = true ∨ ∃ h d, h < mH μ ∧ 1 ≤ d ∧ d ≤ 4 ∧ (w = 0 ∨ w = d) ∧ K.testBit h = true ∧ loB μ n h = true ∧ bsd μ h d = some t ∧ liB μ n b h t = true) := by
    rintro a b hab (q | ⟨h, d, h1, h2, h3, h4, h5, h6, h7, h8⟩)
    · exact Or.inl q
    · refine Or.inr ⟨h, d, h1, h2, h3, h4, h5, h6, h7, ?_⟩
      unfold liB at h8 ⊢
      rw [← hab t (bsd_lt hw h1 h7)]; exact h8
  exact ⟨key sh sh' h, key sh' sh (fun t ht => (h t ht).symm)⟩
/-- the wind of a step -/
def wnd (μ : Mu) (s : Nat) : Nat := μ 5 (s % mW μ)
theorem mW_pos {μ : Mu} (hw : WP μ) : 1 ≤ mW μ ∧ mW μ ≤ 8 := by
  unfold mW
  have := hw.2.2.2.1
  split <;> omega
theorem wnd_le {μ : Mu} (hw : WP μ) (s : Nat) : wnd μ s ≤ 4 := hw.2.2.2.2.2.2.1 _ (Nat.mod_lt _ (mW_pos hw).1)
/-- m steps from step s -/
def alg (μ : Mu) (n : Nat) (sh : Nat → Nat) (s : Nat) : Nat → Nat → Nat
  | 0, K => K
  | m + 1, K => nx μ n sh (wnd μ (s + m)) (alg μ n sh s m K)
theorem alg_lt {μ : Mu} (hw : WP μ) {n s K : Nat} {sh : Nat → Nat} (hK : K < 2 ^ mH μ) : ∀ m, alg μ n sh s m K < 2 ^ mH μ
  | 0 => hK
  | m + 1 => nx_lt hw (alg_lt hw hK m)
theorem alg_mono {μ : Mu} {n s K t : Nat} {sh : Nat → Nat} (h : K.testBit t = true) : ∀ m, (alg μ n sh s m K).testBit t = true
  | 0 => h
  | m + 1 => nx_mono (alg_mono h m)
theorem alg_add {μ : Mu} {n s K a : Nat} {sh : Nat → Nat} : ∀ b, alg μ n sh s (a + b) K = alg μ n sh (s + a) b (alg μ n sh s a K)
  | 0 => rfl
  | b + 1 => by
    show nx μ n sh (wnd μ (s + (a + b))) (alg μ n sh s (a + b) K) = nx μ n sh (wnd μ (s + a + b)) _
    rw [alg_add b, Nat.add_assoc]
theorem alg_sh {μ : Mu} (hw : WP μ) {n s K : Nat} {sh sh' : Nat → Nat} (h : ∀ t, t < mH μ → sh t = sh' t) : ∀ m, alg μ n sh s m K = alg μ n sh' s m K
  | 0 => rfl
  | m + 1 => by
    show nx μ n sh _ (alg μ n sh s m K) = nx μ n sh' _ (alg μ n sh' s m K)
    rw [alg_sh hw h m, nx_sh hw h]
theorem alg_one {μ : Mu} {n s K : Nat} {sh : Nat → Nat} : alg μ n sh s 1 K = nx μ n sh (wnd μ s) K := rfl
/-- when a house first hears, from step k on -/
def fhr (μ : Mu) (n : Nat) (sh : Nat → Nat) (s h : Nat) : Nat → Nat → Nat → Int32
  | 0, _, _ => -4
  | f + 1, k, K => if K.testBit h then nI k else fhr μ n sh s h f (k + 1) (nx μ n sh (wnd μ (s + k)) K)
theorem lt_16 {μ : Mu} (hw : WP μ) {K : Nat} (h : K < 2 ^ mH μ) : K < 65536 := Nat.lt_of_lt_of_le h (Nat.pow_le_pow_right (n := 2) (i := mH μ) (j := 16) (by omega) (mH_pos hw).2)
