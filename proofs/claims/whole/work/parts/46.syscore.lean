/-! THE SYSTEM'S OWN WAY: masks -/
def kgB (μ : Mu) (h : Nat) : Bool := decide (h < mH μ) && decide (μ 1 h = 1)
def ktB (μ : Mu) (n h : Nat) : Bool := decide (h < mH μ) && (!decide (μ 1 h = 1) && loB μ n h)
def ogB (μ : Mu) (n : Nat) (sh : Nat → Nat) (t : Nat) : Bool := decide (t < mH μ) && (decide (0 < sh t) && decide (nd μ n t ≤ sh t + 1))
def otB (μ : Mu) (n : Nat) (sh : Nat → Nat) (t : Nat) : Bool := decide (t < mH μ) && (decide (0 < sh t) && decide (nd μ n t ≤ sh t))
def DR (σ : St) (μ : Mu) (n K : Nat) (sh : Nat → Nat) : Prop := σ 56 4 = nI K ∧ σ 56 5 = nI (mkm (kgB μ) 16) ∧ σ 56 6 = nI (mkm (ktB μ n) 16) ∧ σ 56 7 = nI (mkm (ogB μ n sh) 16) ∧ σ 56 8 = nI (mkm (otB μ n sh) 16) ∧ σ 56 9 = nI (mC μ) ∧ σ 56 10 = nI (firstC μ) ∧ σ 56 11 = nI (lastC μ) ∧ (∀ h, h < mH μ → σ 57 h = nI (sh h)) ∧ ∀ h, h < mH μ → σ 58 h = nI (nd μ n h)
theorem gt_iff {μ : Mu} {n h t : Nat} {sh : Nat → Nat} {X : Nat} : ((X.testBit h = true ∧ kgB μ h = true ∧ ogB μ n sh t = true) ∨ (X.testBit h = true ∧ ktB μ n h = true ∧ otB μ n sh t = true)) ↔ (h < mH μ ∧ t < mH μ ∧ X.testBit h = true ∧ loB μ n h = true ∧ liB μ n sh h t = true) := by
  unfold kgB ktB ogB otB liB
  by_cases e : μ 1 h = 1
  · have hl : loB μ n h = true := by unfold loB; simp [e]
    simp only [e, hl, decide_true, Bool.and_true, Bool.not_true, Bool.false_and, Bool.and_false, if_true, Bool.and_eq_true, decide_eq_true_eq]
    constructor
    · rintro (⟨a, b, c, d, f⟩ | ⟨a, b, c⟩)
      · exact ⟨b, c, a, trivial, d, f⟩
      · exact absurd b (by decide)
    · rintro ⟨a, b, c, d, f, g⟩
      exact Or.inl ⟨c, a, b, f, g⟩
  · simp only [e, decide_false, Bool.and_false, Bool.not_false, Bool.true_and, if_false, Nat.add_zero, Bool.and_eq_true, decide_eq_true_eq]
    constructor
    · rintro (⟨a, b, c⟩ | ⟨a, ⟨b, b2⟩, c, d, f⟩)
      · exact absurd b (by decide)
      · exact ⟨b, c, a, b2, d, f⟩
    · rintro ⟨a, b, c, d, f, g⟩
      exact Or.inr ⟨c, ⟨a, d⟩, b, f, g⟩
/-- one way, in bits -/
def wayB (μ : Mu) (n : Nat) (sh : Nat → Nat) (X t : Nat) (d : Nat) : Prop := ∃ h, h < mH μ ∧ X.testBit h = true ∧ loB μ n h = true ∧ bsd μ h d = some t ∧ liB μ n sh h t = true
theorem lastC_tb {μ : Mu} (h : Nat) : (lastC μ).testBit h = (decide (h < 16) && (decide (h < mH μ) && decide (h % mC μ + 1 = mC μ))) := mkm_tb _ _ _
theorem firstC_tb {μ : Mu} (h : Nat) : (firstC μ).testBit h = (decide (h < 16) && (decide (h < mH μ) && decide (h % mC μ = 0))) := mkm_tb _ _ _
theorem kg16 {μ : Mu} (hw : WP μ) {h : Nat} : (mkm (kgB μ) 16).testBit h = kgB μ h := by
  rw [mkm_tb]
  by_cases e : h < 16
  · simp [e]
  · have := mH_pos hw
    have h2 : ¬ h < mH μ := by omega
    simp [e, kgB, h2]
theorem kt16 {μ : Mu} {n : Nat} (hw : WP μ) {h : Nat} : (mkm (ktB μ n) 16).testBit h = ktB μ n h := by
  rw [mkm_tb]
  by_cases e : h < 16
  · simp [e]
  · have := mH_pos hw
    have h2 : ¬ h < mH μ := by omega
    simp [e, ktB, h2]
theorem og16 {μ : Mu} {n : Nat} {sh : Nat → Nat} (hw : WP μ) {h : Nat} : (mkm (ogB μ n sh) 16).testBit h = ogB μ n sh h := by
  rw [mkm_tb]
  by_cases e : h < 16
  · simp [e]
  · have := mH_pos hw
    have h2 : ¬ h < mH μ := by omega
    simp [e, ogB, h2]
theorem ot16 {μ : Mu} {n : Nat} {sh : Nat → Nat} (hw : WP μ) {h : Nat} : (mkm (otB μ n sh) 16).testBit h = otB μ n sh h := by
  rw [mkm_tb]
  by_cases e : h < 16
  · simp [e]
  · have := mH_pos hw
    have h2 : ¬ h < mH μ := by omega
    simp [e, otB, h2]
/-- what is blown by talkers and gossips from h to t -/
def gtP (μ : Mu) (n : Nat) (sh : Nat → Nat) (X h t : Nat) : Prop := (X.testBit h = true ∧ kgB μ h = true ∧ ogB μ n sh t = true) ∨ (X.testBit h = true ∧ ktB μ n h = true ∧ otB μ n sh t = true)
theorem gtP_lt {μ : Mu} {n X h t : Nat} {sh : Nat → Nat} (q : gtP μ n sh X h t) : h < mH μ ∧ t < mH μ := by
  have := gt_iff.mp q
  exact ⟨this.1, this.2.1⟩
theorem way1 {μ : Mu} (hw : WP μ) {n X t : Nat} {sh : Nat → Nat} : gtP μ n sh X (t + mC μ) t ↔ wayB μ n sh X t 1 := by
  constructor
  · intro q
    obtain ⟨a, b, c, d, e⟩ := gt_iff.mp q
    refine ⟨t + mC μ, a, c, d, ?_, e⟩
    unfold bsd
    rw [if_pos rfl, if_pos (by omega)]
    congr 1; omega
  · rintro ⟨h, a, c, d, f, e⟩
    have ht := bsd_lt hw a f
    unfold bsd at f
    rw [if_pos rfl] at f
    split at f
    · injection f with f
      have : h = t + mC μ := by omega
      subst this
      exact gt_iff.mpr ⟨a, ht, c, d, e⟩
    · exact absurd f (by simp)
theorem way2 {μ : Mu} (hw : WP μ) {n X t : Nat} {sh : Nat → Nat} : (1 ≤ t ∧ ¬ (lastC μ).testBit (t - 1) = true ∧ gtP μ n sh X (t - 1) t) ↔ wayB μ n sh X t 2 := by
  have hH := mH_pos hw
  have hC := hw.2.1
  constructor
  · rintro ⟨h1, h2, q⟩
    obtain ⟨a, b, c, d, e⟩ := gt_iff.mp q
    rw [lastC_tb] at h2
    have h3 : (t - 1) % mC μ < mC μ := Nat.mod_lt _ (by omega)
    have h4 : ¬ (t - 1) % mC μ + 1 = mC μ := fun z => h2 (by simp [z, a]; omega)
    refine ⟨t - 1, a, c, d, ?_, e⟩
    unfold bsd
    rw [if_neg (by decide), if_pos rfl, if_pos (by omega)]
    congr 1; omega
  · rintro ⟨h, a, c, d, f, e⟩
    have ht := bsd_lt hw a f
    unfold bsd at f
    rw [if_neg (by decide), if_pos rfl] at f
    split at f
    · injection f with f
      have : h = t - 1 := by omega
      subst this
      refine ⟨by omega, ?_, gt_iff.mpr ⟨a, ht, c, d, e⟩⟩
      rw [lastC_tb]
      simp; omega
    · exact absurd f (by simp)
theorem way3 {μ : Mu} (hw : WP μ) {n X t : Nat} {sh : Nat → Nat} : (mC μ ≤ t ∧ gtP μ n sh X (t - mC μ) t) ↔ wayB μ n sh X t 3 := by
  constructor
  · rintro ⟨h1, q⟩
    obtain ⟨a, b, c, d, e⟩ := gt_iff.mp q
    refine ⟨t - mC μ, a, c, d, ?_, e⟩
    unfold bsd
    rw [if_neg (by decide), if_neg (by decide), if_pos rfl, if_pos (by omega)]
    congr 1; omega
  · rintro ⟨h, a, c, d, f, e⟩
    have ht := bsd_lt hw a f
    unfold bsd at f
    rw [if_neg (by decide), if_neg (by decide), if_pos rfl] at f
    split at f
    · injection f with f
      have : h = t - mC μ := by omega
      subst this
      exact ⟨by omega, gt_iff.mpr ⟨a, ht, c, d, e⟩⟩
    · exact absurd f (by simp)
theorem way4 {μ : Mu} (hw : WP μ) {n X t : Nat} {sh : Nat → Nat} : (¬ (firstC μ).testBit (t + 1) = true ∧ gtP μ n sh X (t + 1) t) ↔ wayB μ n sh X t 4 := by
  have hH := mH_pos hw
  constructor
  · rintro ⟨h2, q⟩
    obtain ⟨a, b, c, d, e⟩ := gt_iff.mp q
    rw [firstC_tb] at h2
    have h4 : ¬ (t + 1) % mC μ = 0 := fun z => h2 (by simp [z, a]; omega)
    refine ⟨t + 1, a, c, d, ?_, e⟩
    unfold bsd
    rw [if_neg (by decide), if_neg (by decide), if_neg (by decide), if_neg h4]
    congr 1
  · rintro ⟨h, a, c, d, f, e⟩
    have ht := bsd_lt hw a f
    unfold bsd at f
    rw [if_neg (by decide), if_neg (by decide), if_neg (by decide)] at f
    split at f
    · exact absurd f (by simp)
    · rename_i hm
      injection f with f
      have h0 : h ≠ 0 := fun z => hm (by subst z; exact Nat.zero_mod _)
      have : h = t + 1 := by omega
      subst this
      refine ⟨?_, gt_iff.mpr ⟨a, ht, c, d, e⟩⟩
      rw [firstC_tb]
      simp [hm]
theorem nx_way {μ : Mu} {n w X t : Nat} {sh : Nat → Nat} : (nx μ n sh w X).testBit t = true ↔ (X.testBit t = true ∨ ((w = 0 ∨ w = 1) ∧ wayB μ n sh X t 1) ∨ ((w = 0 ∨ w = 2) ∧ wayB μ n sh X t 2) ∨ ((w = 0 ∨ w = 3) ∧ wayB μ n sh X t 3) ∨ ((w = 0 ∨ w = 4) ∧ wayB μ n sh X t 4)) := by
  rw [nx_tb]
  constructor
  · rintro (q | ⟨h, d, h1, h2, h3, h4, h5⟩)
    · exact Or.inl q
    · have : d = 1 ∨ d = 2 ∨ d = 3 ∨ d = 4 := by omega
      rcases this with e | e | e | e <;> subst e
      · exact Or.inr (Or.inl ⟨h4, h, h1, h5⟩)
      · exact Or.inr (Or.inr (Or.inl ⟨h4, h, h1, h5⟩))
      · exact Or.inr (Or.inr (Or.inr (Or.inl ⟨h4, h, h1, h5⟩)))
      · exact Or.inr (Or.inr (Or.inr (Or.inr ⟨h4, h, h1, h5⟩)))
  · rintro (q | ⟨h4, h, h1, h5⟩ | ⟨h4, h, h1, h5⟩ | ⟨h4, h, h1, h5⟩ | ⟨h4, h, h1, h5⟩)
    · exact Or.inl q
    · exact Or.inr ⟨h, 1, h1, by decide, by decide, h4, h5⟩
    · exact Or.inr ⟨h, 2, h1, by decide, by decide, h4, h5⟩
    · exact Or.inr ⟨h, 3, h1, by decide, by decide, h4, h5⟩
    · exact Or.inr ⟨h, 4, h1, by decide, by decide, h4, h5⟩
/-- the masks' own values -/
def mw1 (μ : Mu) (n : Nat) (sh : Nat → Nat) (X Y : Nat) : Nat := Y ||| ((X &&& mkm (kgB μ) 16) / 2 ^ mC μ &&& mkm (ogB μ n sh) 16) ||| ((X &&& mkm (ktB μ n) 16) / 2 ^ mC μ &&& mkm (otB μ n sh) 16)
def mw2 (μ : Mu) (n : Nat) (sh : Nat → Nat) (X Y : Nat) : Nat := Y ||| ((X &&& mkm (kgB μ) 16 &&& (lastC μ ^^^ 4294967295)) * 2 ^ 1 &&& mkm (ogB μ n sh) 16) ||| ((X &&& mkm (ktB μ n) 16 &&& (lastC μ ^^^ 4294967295)) * 2 ^ 1 &&& mkm (otB μ n sh) 16)
def mw3 (μ : Mu) (n : Nat) (sh : Nat → Nat) (X Y : Nat) : Nat := Y ||| ((X &&& mkm (kgB μ) 16) * 2 ^ mC μ &&& mkm (ogB μ n sh) 16) ||| ((X &&& mkm (ktB μ n) 16) * 2 ^ mC μ &&& mkm (otB μ n sh) 16)
def mw4 (μ : Mu) (n : Nat) (sh : Nat → Nat) (X Y : Nat) : Nat := Y ||| ((X &&& mkm (kgB μ) 16 &&& (firstC μ ^^^ 4294967295)) / 2 ^ 1 &&& mkm (ogB μ n sh) 16) ||| ((X &&& mkm (ktB μ n) 16 &&& (firstC μ ^^^ 4294967295)) / 2 ^ 1 &&& mkm (otB μ n sh) 16)
theorem mw1_tb {μ : Mu} (hw : WP μ) {n X Y t : Nat} {sh : Nat → Nat} : (mw1 μ n sh X Y).testBit t = true ↔ (Y.testBit t = true ∨ wayB μ n sh X t 1) := by
  rw [← way1 hw]
  unfold mw1 gtP
  simp only [Nat.testBit_or, Nat.testBit_and, Nat.testBit_div_two_pow, kg16 hw, kt16 hw, og16 hw, ot16 hw, Bool.or_eq_true, Bool.and_eq_true, or_assoc, and_assoc]
theorem mw2_tb {μ : Mu} (hw : WP μ) {n X Y t : Nat} {sh : Nat → Nat} : (mw2 μ n sh X Y).testBit t = true ↔ (Y.testBit t = true ∨ wayB μ n sh X t 2) := by
  rw [← way2 hw]
  have hH := mH_pos hw
  unfold mw2
  simp only [Nat.testBit_or, Nat.testBit_and, Nat.testBit_xor, Nat.testBit_mul_two_pow, tb_m1, kg16 hw, kt16 hw, og16 hw, ot16 hw, Bool.or_eq_true, Bool.and_eq_true, or_assoc, and_assoc, decide_eq_true_eq]
  constructor
  · rintro (q | ⟨h1, h2, h3, h4, h5⟩ | ⟨h1, h2, h3, h4, h5⟩)
    · exact Or.inl q
    · have : t - 1 < mH μ := by unfold kgB at h3; simp at h3; exact h3.1
      have h32 : t - 1 < 32 := by omega
      refine Or.inr ⟨h1, ?_, Or.inl ⟨h2, h3, h5⟩⟩
      simp [h32] at h4
      simp [h4]
    · have : t - 1 < mH μ := by unfold ktB at h3; simp at h3; exact h3.1
      have h32 : t - 1 < 32 := by omega
      refine Or.inr ⟨h1, ?_, Or.inr ⟨h2, h3, h5⟩⟩
      simp [h32] at h4
      simp [h4]
  · rintro (q | ⟨h1, h2, q⟩)
    · exact Or.inl q
    · have := (gtP_lt q).1
      have h32 : t - 1 < 32 := by omega
      have h4 : ((lastC μ).testBit (t - 1) ^^ decide (t - 1 < 32)) = true := by
        simp only [Bool.not_eq_true] at h2
        rw [h2]; simp [h32]
      rcases q with ⟨a, b, c⟩ | ⟨a, b, c⟩
      · exact Or.inr (Or.inl ⟨h1, a, b, h4, c⟩)
      · exact Or.inr (Or.inr ⟨h1, a, b, h4, c⟩)
theorem mw3_tb {μ : Mu} (hw : WP μ) {n X Y t : Nat} {sh : Nat → Nat} : (mw3 μ n sh X Y).testBit t = true ↔ (Y.testBit t = true ∨ wayB μ n sh X t 3) := by
  rw [← way3 hw]
  unfold mw3 gtP
  simp only [Nat.testBit_or, Nat.testBit_and, Nat.testBit_mul_two_pow, kg16 hw, kt16 hw, og16 hw, ot16 hw, Bool.or_eq_true, Bool.and_eq_true, or_assoc, and_assoc, decide_eq_true_eq, and_or_left]
theorem mw4_tb {μ : Mu} (hw : WP μ) {n X Y t : Nat} {sh : Nat → Nat} : (mw4 μ n sh X Y).testBit t = true ↔ (Y.testBit t = true ∨ wayB μ n sh X t 4) := by
  rw [← way4 hw]
  have hH := mH_pos hw
  unfold mw4
  simp only [Nat.testBit_or, Nat.testBit_and, Nat.testBit_xor, Nat.testBit_div_two_pow, tb_m1, kg16 hw, kt16 hw, og16 hw, ot16 hw, Bool.or_eq_true, Bool.and_eq_true, or_assoc, and_assoc, decide_eq_true_eq]
  constructor
  · rintro (q | ⟨h2, h3, h4, h5⟩ | ⟨h2, h3, h4, h5⟩)
    · exact Or.inl q
    · have : t + 1 < mH μ := by unfold kgB at h3; simp at h3; exact h3.1
      have h32 : t + 1 < 32 := by omega
      refine Or.inr ⟨?_, Or.inl ⟨h2, h3, h5⟩⟩
      simp [h32] at h4
      simp [h4]
    · have : t + 1 < mH μ := by unfold ktB at h3; simp at h3; exact h3.1
      have h32 : t + 1 < 32 := by omega
      refine Or.inr ⟨?_, Or.inr ⟨h2, h3, h5⟩⟩
      simp [h32] at h4
      simp [h4]
  · rintro (q | ⟨h2, q⟩)
    · exact Or.inl q
    · have := (gtP_lt q).1
      have h32 : t + 1 < 32 := by omega
      have h4 : ((firstC μ).testBit (t + 1) ^^ decide (t + 1 < 32)) = true := by
        simp only [Bool.not_eq_true] at h2
        rw [h2]; simp [h32]
      rcases q with ⟨a, b, c⟩ | ⟨a, b, c⟩
      · exact Or.inr (Or.inl ⟨a, b, h4, c⟩)
      · exact Or.inr (Or.inr ⟨a, b, h4, c⟩)
