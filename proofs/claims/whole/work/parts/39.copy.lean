/-! copying -/
theorem cp_3_13 {τ : St} {a b n : Nat} (ha : a + n ≤ 8) (hb : b + n ≤ 8) : ∃ τ', f_X11_copies__3_13 τ (nI a) (nI b) (nI n) = some (0, τ') ∧ (∀ p, p ≠ 3 → τ' p = τ p) ∧ (∀ j, j < n → τ' 3 (a + j) = τ 13 (b + j)) ∧ ∀ j, (j < a ∨ a + n ≤ j) → τ' 3 j = τ 3 j := by
  unfold f_X11_copies__3_13
  refine lq1_run (P := fun o => ∃ τ', o = some (0, τ') ∧ (∀ p, p ≠ 3 → τ' p = τ p) ∧ (∀ j, j < n → τ' 3 (a + j) = τ 13 (b + j)) ∧ ∀ j, (j < a ∨ a + n ≤ j) → τ' 3 j = τ 3 j) (fun i t y => y = nI i ∧ (∀ p, p ≠ 3 → t p = τ p) ∧ (∀ j, j < i → t 3 (a + j) = τ 13 (b + j)) ∧ ∀ j, (j < a ∨ a + i ≤ j) → t 3 j = τ 3 j) n ?_ 100000 0 τ 0 (Nat.zero_le _) (by omega) ⟨rfl, fun _ _ => rfl, fun j hj => by omega, fun _ _ => rfl⟩
  rintro i t y hi ⟨rfl, h1, h2, h3⟩ k
  rcases Nat.lt_or_ge i n with hl | hl
  · refine Or.inl ⟨hl, ps t 3 (nI (a + i)) (t 13 (b + i)), nI (i + 1), ⟨rfl, fun p hp => (ps_ne hp).trans (h1 p hp), fun j hj => ?_, fun j hj => ?_⟩, ?_⟩
    · by_cases e : j = i
      · subst e; rw [ps_same (by omega), h1 13 (by decide)]
      · rw [ps_nk (by omega) (by omega)]; exact h2 j (by omega)
    · rw [ps_nk (by omega) (by omega)]; exact h3 j (by omega)
    · simp only [if_neg (nI_ge hl (show n < 2 ^ 31 by omega)), nI_add, gd_nI (show b + i < 8 by omega) (show 8 < 2 ^ 31 by decide), gd_nI (show a + i < 8 by omega) (show 8 < 2 ^ 31 by decide), nm_ok, nI_1, nI_clamp (show b + i < 2 ^ 31 by omega)]
  · have : i = n := by omega
    subst this
    exact Or.inr ⟨t, by simp only [if_pos (nI_le (Nat.le_refl i) (show i < 2 ^ 31 by omega))], h1, h2, h3⟩
theorem cp_4_11 {τ : St} {a b n : Nat} (ha : a + n ≤ 22) (hb : b + n ≤ 16) : ∃ τ', f_X11_copies__4_11 τ (nI a) (nI b) (nI n) = some (0, τ') ∧ (∀ p, p ≠ 4 → τ' p = τ p) ∧ (∀ j, j < n → τ' 4 (a + j) = τ 11 (b + j)) ∧ ∀ j, (j < a ∨ a + n ≤ j) → τ' 4 j = τ 4 j := by
  unfold f_X11_copies__4_11
  refine lq1_run (P := fun o => ∃ τ', o = some (0, τ') ∧ (∀ p, p ≠ 4 → τ' p = τ p) ∧ (∀ j, j < n → τ' 4 (a + j) = τ 11 (b + j)) ∧ ∀ j, (j < a ∨ a + n ≤ j) → τ' 4 j = τ 4 j) (fun i t y => y = nI i ∧ (∀ p, p ≠ 4 → t p = τ p) ∧ (∀ j, j < i → t 4 (a + j) = τ 11 (b + j)) ∧ ∀ j, (j < a ∨ a + i ≤ j) → t 4 j = τ 4 j) n ?_ 100000 0 τ 0 (Nat.zero_le _) (by omega) ⟨rfl, fun _ _ => rfl, fun j hj => by omega, fun _ _ => rfl⟩
  rintro i t y hi ⟨rfl, h1, h2, h3⟩ k
  rcases Nat.lt_or_ge i n with hl | hl
  · refine Or.inl ⟨hl, ps t 4 (nI (a + i)) (t 11 (b + i)), nI (i + 1), ⟨rfl, fun p hp => (ps_ne hp).trans (h1 p hp), fun j hj => ?_, fun j hj => ?_⟩, ?_⟩
    · by_cases e : j = i
      · subst e; rw [ps_same (by omega), h1 11 (by decide)]
      · rw [ps_nk (by omega) (by omega)]; exact h2 j (by omega)
    · rw [ps_nk (by omega) (by omega)]; exact h3 j (by omega)
    · simp only [if_neg (nI_ge hl (show n < 2 ^ 31 by omega)), nI_add, gd_nI (show b + i < 16 by omega) (show 16 < 2 ^ 31 by decide), gd_nI (show a + i < 22 by omega) (show 22 < 2 ^ 31 by decide), nm_ok, nI_1, nI_clamp (show b + i < 2 ^ 31 by omega)]
  · have : i = n := by omega
    subst this
    exact Or.inr ⟨t, by simp only [if_pos (nI_le (Nat.le_refl i) (show i < 2 ^ 31 by omega))], h1, h2, h3⟩
theorem cp_1_10 {τ : St} {a b n : Nat} (ha : a + n ≤ 16) (hb : b + n ≤ 16) : ∃ τ', f_X11_copies__1_10 τ (nI a) (nI b) (nI n) = some (0, τ') ∧ (∀ p, p ≠ 1 → τ' p = τ p) ∧ (∀ j, j < n → τ' 1 (a + j) = τ 10 (b + j)) ∧ ∀ j, (j < a ∨ a + n ≤ j) → τ' 1 j = τ 1 j := by
  unfold f_X11_copies__1_10
  refine lq1_run (P := fun o => ∃ τ', o = some (0, τ') ∧ (∀ p, p ≠ 1 → τ' p = τ p) ∧ (∀ j, j < n → τ' 1 (a + j) = τ 10 (b + j)) ∧ ∀ j, (j < a ∨ a + n ≤ j) → τ' 1 j = τ 1 j) (fun i t y => y = nI i ∧ (∀ p, p ≠ 1 → t p = τ p) ∧ (∀ j, j < i → t 1 (a + j) = τ 10 (b + j)) ∧ ∀ j, (j < a ∨ a + i ≤ j) → t 1 j = τ 1 j) n ?_ 100000 0 τ 0 (Nat.zero_le _) (by omega) ⟨rfl, fun _ _ => rfl, fun j hj => by omega, fun _ _ => rfl⟩
  rintro i t y hi ⟨rfl, h1, h2, h3⟩ k
  rcases Nat.lt_or_ge i n with hl | hl
  · refine Or.inl ⟨hl, ps t 1 (nI (a + i)) (t 10 (b + i)), nI (i + 1), ⟨rfl, fun p hp => (ps_ne hp).trans (h1 p hp), fun j hj => ?_, fun j hj => ?_⟩, ?_⟩
    · by_cases e : j = i
      · subst e; rw [ps_same (by omega), h1 10 (by decide)]
      · rw [ps_nk (by omega) (by omega)]; exact h2 j (by omega)
    · rw [ps_nk (by omega) (by omega)]; exact h3 j (by omega)
    · simp only [if_neg (nI_ge hl (show n < 2 ^ 31 by omega)), nI_add, gd_nI (show b + i < 16 by omega) (show 16 < 2 ^ 31 by decide), gd_nI (show a + i < 16 by omega) (show 16 < 2 ^ 31 by decide), nm_ok, nI_1, nI_clamp (show b + i < 2 ^ 31 by omega)]
  · have : i = n := by omega
    subst this
    exact Or.inr ⟨t, by simp only [if_pos (nI_le (Nat.le_refl i) (show i < 2 ^ 31 by omega))], h1, h2, h3⟩
theorem cp_2_12 {τ : St} {a b n : Nat} (ha : a + n ≤ 15) (hb : b + n ≤ 15) : ∃ τ', f_X11_copies__2_12 τ (nI a) (nI b) (nI n) = some (0, τ') ∧ (∀ p, p ≠ 2 → τ' p = τ p) ∧ (∀ j, j < n → τ' 2 (a + j) = τ 12 (b + j)) ∧ ∀ j, (j < a ∨ a + n ≤ j) → τ' 2 j = τ 2 j := by
  unfold f_X11_copies__2_12
  refine lq1_run (P := fun o => ∃ τ', o = some (0, τ') ∧ (∀ p, p ≠ 2 → τ' p = τ p) ∧ (∀ j, j < n → τ' 2 (a + j) = τ 12 (b + j)) ∧ ∀ j, (j < a ∨ a + n ≤ j) → τ' 2 j = τ 2 j) (fun i t y => y = nI i ∧ (∀ p, p ≠ 2 → t p = τ p) ∧ (∀ j, j < i → t 2 (a + j) = τ 12 (b + j)) ∧ ∀ j, (j < a ∨ a + i ≤ j) → t 2 j = τ 2 j) n ?_ 100000 0 τ 0 (Nat.zero_le _) (by omega) ⟨rfl, fun _ _ => rfl, fun j hj => by omega, fun _ _ => rfl⟩
  rintro i t y hi ⟨rfl, h1, h2, h3⟩ k
  rcases Nat.lt_or_ge i n with hl | hl
  · refine Or.inl ⟨hl, ps t 2 (nI (a + i)) (t 12 (b + i)), nI (i + 1), ⟨rfl, fun p hp => (ps_ne hp).trans (h1 p hp), fun j hj => ?_, fun j hj => ?_⟩, ?_⟩
    · by_cases e : j = i
      · subst e; rw [ps_same (by omega), h1 12 (by decide)]
      · rw [ps_nk (by omega) (by omega)]; exact h2 j (by omega)
    · rw [ps_nk (by omega) (by omega)]; exact h3 j (by omega)
    · simp only [if_neg (nI_ge hl (show n < 2 ^ 31 by omega)), nI_add, gd_nI (show b + i < 15 by omega) (show 15 < 2 ^ 31 by decide), gd_nI (show a + i < 15 by omega) (show 15 < 2 ^ 31 by decide), nm_ok, nI_1, nI_clamp (show b + i < 2 ^ 31 by omega)]
  · have : i = n := by omega
    subst this
    exact Or.inr ⟨t, by simp only [if_pos (nI_le (Nat.le_refl i) (show i < 2 ^ 31 by omega))], h1, h2, h3⟩
theorem cp_14_4 {τ : St} {a b n : Nat} (ha : a + n ≤ 22) (hb : b + n ≤ 22) : ∃ τ', f_X11_copies__14_4 τ (nI a) (nI b) (nI n) = some (0, τ') ∧ (∀ p, p ≠ 14 → τ' p = τ p) ∧ (∀ j, j < n → τ' 14 (a + j) = τ 4 (b + j)) ∧ ∀ j, (j < a ∨ a + n ≤ j) → τ' 14 j = τ 14 j := by
  unfold f_X11_copies__14_4
  refine lq1_run (P := fun o => ∃ τ', o = some (0, τ') ∧ (∀ p, p ≠ 14 → τ' p = τ p) ∧ (∀ j, j < n → τ' 14 (a + j) = τ 4 (b + j)) ∧ ∀ j, (j < a ∨ a + n ≤ j) → τ' 14 j = τ 14 j) (fun i t y => y = nI i ∧ (∀ p, p ≠ 14 → t p = τ p) ∧ (∀ j, j < i → t 14 (a + j) = τ 4 (b + j)) ∧ ∀ j, (j < a ∨ a + i ≤ j) → t 14 j = τ 14 j) n ?_ 100000 0 τ 0 (Nat.zero_le _) (by omega) ⟨rfl, fun _ _ => rfl, fun j hj => by omega, fun _ _ => rfl⟩
  rintro i t y hi ⟨rfl, h1, h2, h3⟩ k
  rcases Nat.lt_or_ge i n with hl | hl
  · refine Or.inl ⟨hl, ps t 14 (nI (a + i)) (t 4 (b + i)), nI (i + 1), ⟨rfl, fun p hp => (ps_ne hp).trans (h1 p hp), fun j hj => ?_, fun j hj => ?_⟩, ?_⟩
    · by_cases e : j = i
      · subst e; rw [ps_same (by omega), h1 4 (by decide)]
      · rw [ps_nk (by omega) (by omega)]; exact h2 j (by omega)
    · rw [ps_nk (by omega) (by omega)]; exact h3 j (by omega)
    · simp only [if_neg (nI_ge hl (show n < 2 ^ 31 by omega)), nI_add, gd_nI (show b + i < 22 by omega) (show 22 < 2 ^ 31 by decide), gd_nI (show a + i < 22 by omega) (show 22 < 2 ^ 31 by decide), nm_ok, nI_1, nI_clamp (show b + i < 2 ^ 31 by omega)]
  · have : i = n := by omega
    subst this
    exact Or.inr ⟨t, by simp only [if_pos (nI_le (Nat.le_refl i) (show i < 2 ^ 31 by omega))], h1, h2, h3⟩
theorem cp_5_4 {τ : St} {a b n : Nat} (ha : a + n ≤ 176) (hb : b + n ≤ 22) : ∃ τ', f_X11_copies__5_4 τ (nI a) (nI b) (nI n) = some (0, τ') ∧ (∀ p, p ≠ 5 → τ' p = τ p) ∧ (∀ j, j < n → τ' 5 (a + j) = τ 4 (b + j)) ∧ ∀ j, (j < a ∨ a + n ≤ j) → τ' 5 j = τ 5 j := by
  unfold f_X11_copies__5_4
  refine lq1_run (P := fun o => ∃ τ', o = some (0, τ') ∧ (∀ p, p ≠ 5 → τ' p = τ p) ∧ (∀ j, j < n → τ' 5 (a + j) = τ 4 (b + j)) ∧ ∀ j, (j < a ∨ a + n ≤ j) → τ' 5 j = τ 5 j) (fun i t y => y = nI i ∧ (∀ p, p ≠ 5 → t p = τ p) ∧ (∀ j, j < i → t 5 (a + j) = τ 4 (b + j)) ∧ ∀ j, (j < a ∨ a + i ≤ j) → t 5 j = τ 5 j) n ?_ 100000 0 τ 0 (Nat.zero_le _) (by omega) ⟨rfl, fun _ _ => rfl, fun j hj => by omega, fun _ _ => rfl⟩
  rintro i t y hi ⟨rfl, h1, h2, h3⟩ k
  rcases Nat.lt_or_ge i n with hl | hl
  · refine Or.inl ⟨hl, ps t 5 (nI (a + i)) (t 4 (b + i)), nI (i + 1), ⟨rfl, fun p hp => (ps_ne hp).trans (h1 p hp), fun j hj => ?_, fun j hj => ?_⟩, ?_⟩
    · by_cases e : j = i
      · subst e; rw [ps_same (by omega), h1 4 (by decide)]
      · rw [ps_nk (by omega) (by omega)]; exact h2 j (by omega)
    · rw [ps_nk (by omega) (by omega)]; exact h3 j (by omega)
    · simp only [if_neg (nI_ge hl (show n < 2 ^ 31 by omega)), nI_add, gd_nI (show b + i < 22 by omega) (show 22 < 2 ^ 31 by decide), gd_nI (show a + i < 176 by omega) (show 176 < 2 ^ 31 by decide), nm_ok, nI_1, nI_clamp (show b + i < 2 ^ 31 by omega)]
  · have : i = n := by omega
    subst this
    exact Or.inr ⟨t, by simp only [if_pos (nI_le (Nat.le_refl i) (show i < 2 ^ 31 by omega))], h1, h2, h3⟩
theorem cp_4_14 {τ : St} {a b n : Nat} (ha : a + n ≤ 22) (hb : b + n ≤ 22) : ∃ τ', f_X11_copies__4_14 τ (nI a) (nI b) (nI n) = some (0, τ') ∧ (∀ p, p ≠ 4 → τ' p = τ p) ∧ (∀ j, j < n → τ' 4 (a + j) = τ 14 (b + j)) ∧ ∀ j, (j < a ∨ a + n ≤ j) → τ' 4 j = τ 4 j := by
  unfold f_X11_copies__4_14
  refine lq1_run (P := fun o => ∃ τ', o = some (0, τ') ∧ (∀ p, p ≠ 4 → τ' p = τ p) ∧ (∀ j, j < n → τ' 4 (a + j) = τ 14 (b + j)) ∧ ∀ j, (j < a ∨ a + n ≤ j) → τ' 4 j = τ 4 j) (fun i t y => y = nI i ∧ (∀ p, p ≠ 4 → t p = τ p) ∧ (∀ j, j < i → t 4 (a + j) = τ 14 (b + j)) ∧ ∀ j, (j < a ∨ a + i ≤ j) → t 4 j = τ 4 j) n ?_ 100000 0 τ 0 (Nat.zero_le _) (by omega) ⟨rfl, fun _ _ => rfl, fun j hj => by omega, fun _ _ => rfl⟩
  rintro i t y hi ⟨rfl, h1, h2, h3⟩ k
  rcases Nat.lt_or_ge i n with hl | hl
  · refine Or.inl ⟨hl, ps t 4 (nI (a + i)) (t 14 (b + i)), nI (i + 1), ⟨rfl, fun p hp => (ps_ne hp).trans (h1 p hp), fun j hj => ?_, fun j hj => ?_⟩, ?_⟩
    · by_cases e : j = i
      · subst e; rw [ps_same (by omega), h1 14 (by decide)]
      · rw [ps_nk (by omega) (by omega)]; exact h2 j (by omega)
    · rw [ps_nk (by omega) (by omega)]; exact h3 j (by omega)
    · simp only [if_neg (nI_ge hl (show n < 2 ^ 31 by omega)), nI_add, gd_nI (show b + i < 22 by omega) (show 22 < 2 ^ 31 by decide), gd_nI (show a + i < 22 by omega) (show 22 < 2 ^ 31 by decide), nm_ok, nI_1, nI_clamp (show b + i < 2 ^ 31 by omega)]
  · have : i = n := by omega
    subst this
    exact Or.inr ⟨t, by simp only [if_pos (nI_le (Nat.le_refl i) (show i < 2 ^ 31 by omega))], h1, h2, h3⟩
theorem cp_4_5 {τ : St} {a b n : Nat} (ha : a + n ≤ 22) (hb : b + n ≤ 176) : ∃ τ', f_X11_copies__4_5 τ (nI a) (nI b) (nI n) = some (0, τ') ∧ (∀ p, p ≠ 4 → τ' p = τ p) ∧ (∀ j, j < n → τ' 4 (a + j) = τ 5 (b + j)) ∧ ∀ j, (j < a ∨ a + n ≤ j) → τ' 4 j = τ 4 j := by
  unfold f_X11_copies__4_5
  refine lq1_run (P := fun o => ∃ τ', o = some (0, τ') ∧ (∀ p, p ≠ 4 → τ' p = τ p) ∧ (∀ j, j < n → τ' 4 (a + j) = τ 5 (b + j)) ∧ ∀ j, (j < a ∨ a + n ≤ j) → τ' 4 j = τ 4 j) (fun i t y => y = nI i ∧ (∀ p, p ≠ 4 → t p = τ p) ∧ (∀ j, j < i → t 4 (a + j) = τ 5 (b + j)) ∧ ∀ j, (j < a ∨ a + i ≤ j) → t 4 j = τ 4 j) n ?_ 100000 0 τ 0 (Nat.zero_le _) (by omega) ⟨rfl, fun _ _ => rfl, fun j hj => by omega, fun _ _ => rfl⟩
  rintro i t y hi ⟨rfl, h1, h2, h3⟩ k
  rcases Nat.lt_or_ge i n with hl | hl
  · refine Or.inl ⟨hl, ps t 4 (nI (a + i)) (t 5 (b + i)), nI (i + 1), ⟨rfl, fun p hp => (ps_ne hp).trans (h1 p hp), fun j hj => ?_, fun j hj => ?_⟩, ?_⟩
    · by_cases e : j = i
      · subst e; rw [ps_same (by omega), h1 5 (by decide)]
      · rw [ps_nk (by omega) (by omega)]; exact h2 j (by omega)
    · rw [ps_nk (by omega) (by omega)]; exact h3 j (by omega)
    · simp only [if_neg (nI_ge hl (show n < 2 ^ 31 by omega)), nI_add, gd_nI (show b + i < 176 by omega) (show 176 < 2 ^ 31 by decide), gd_nI (show a + i < 22 by omega) (show 22 < 2 ^ 31 by decide), nm_ok, nI_1, nI_clamp (show b + i < 2 ^ 31 by omega)]
  · have : i = n := by omega
    subst this
    exact Or.inr ⟨t, by simp only [if_pos (nI_le (Nat.le_refl i) (show i < 2 ^ 31 by omega))], h1, h2, h3⟩
theorem cp_6_4 {τ : St} {a b n : Nat} (ha : a + n ≤ 44) (hb : b + n ≤ 22) : ∃ τ', f_X11_copies__6_4 τ (nI a) (nI b) (nI n) = some (0, τ') ∧ (∀ p, p ≠ 6 → τ' p = τ p) ∧ (∀ j, j < n → τ' 6 (a + j) = τ 4 (b + j)) ∧ ∀ j, (j < a ∨ a + n ≤ j) → τ' 6 j = τ 6 j := by
  unfold f_X11_copies__6_4
  refine lq1_run (P := fun o => ∃ τ', o = some (0, τ') ∧ (∀ p, p ≠ 6 → τ' p = τ p) ∧ (∀ j, j < n → τ' 6 (a + j) = τ 4 (b + j)) ∧ ∀ j, (j < a ∨ a + n ≤ j) → τ' 6 j = τ 6 j) (fun i t y => y = nI i ∧ (∀ p, p ≠ 6 → t p = τ p) ∧ (∀ j, j < i → t 6 (a + j) = τ 4 (b + j)) ∧ ∀ j, (j < a ∨ a + i ≤ j) → t 6 j = τ 6 j) n ?_ 100000 0 τ 0 (Nat.zero_le _) (by omega) ⟨rfl, fun _ _ => rfl, fun j hj => by omega, fun _ _ => rfl⟩
  rintro i t y hi ⟨rfl, h1, h2, h3⟩ k
  rcases Nat.lt_or_ge i n with hl | hl
  · refine Or.inl ⟨hl, ps t 6 (nI (a + i)) (t 4 (b + i)), nI (i + 1), ⟨rfl, fun p hp => (ps_ne hp).trans (h1 p hp), fun j hj => ?_, fun j hj => ?_⟩, ?_⟩
    · by_cases e : j = i
      · subst e; rw [ps_same (by omega), h1 4 (by decide)]
      · rw [ps_nk (by omega) (by omega)]; exact h2 j (by omega)
    · rw [ps_nk (by omega) (by omega)]; exact h3 j (by omega)
    · simp only [if_neg (nI_ge hl (show n < 2 ^ 31 by omega)), nI_add, gd_nI (show b + i < 22 by omega) (show 22 < 2 ^ 31 by decide), gd_nI (show a + i < 44 by omega) (show 44 < 2 ^ 31 by decide), nm_ok, nI_1, nI_clamp (show b + i < 2 ^ 31 by omega)]
  · have : i = n := by omega
    subst this
    exact Or.inr ⟨t, by simp only [if_pos (nI_le (Nat.le_refl i) (show i < 2 ^ 31 by omega))], h1, h2, h3⟩
theorem cp_4_6 {τ : St} {a b n : Nat} (ha : a + n ≤ 22) (hb : b + n ≤ 44) : ∃ τ', f_X11_copies__4_6 τ (nI a) (nI b) (nI n) = some (0, τ') ∧ (∀ p, p ≠ 4 → τ' p = τ p) ∧ (∀ j, j < n → τ' 4 (a + j) = τ 6 (b + j)) ∧ ∀ j, (j < a ∨ a + n ≤ j) → τ' 4 j = τ 4 j := by
  unfold f_X11_copies__4_6
  refine lq1_run (P := fun o => ∃ τ', o = some (0, τ') ∧ (∀ p, p ≠ 4 → τ' p = τ p) ∧ (∀ j, j < n → τ' 4 (a + j) = τ 6 (b + j)) ∧ ∀ j, (j < a ∨ a + n ≤ j) → τ' 4 j = τ 4 j) (fun i t y => y = nI i ∧ (∀ p, p ≠ 4 → t p = τ p) ∧ (∀ j, j < i → t 4 (a + j) = τ 6 (b + j)) ∧ ∀ j, (j < a ∨ a + i ≤ j) → t 4 j = τ 4 j) n ?_ 100000 0 τ 0 (Nat.zero_le _) (by omega) ⟨rfl, fun _ _ => rfl, fun j hj => by omega, fun _ _ => rfl⟩
  rintro i t y hi ⟨rfl, h1, h2, h3⟩ k
  rcases Nat.lt_or_ge i n with hl | hl
  · refine Or.inl ⟨hl, ps t 4 (nI (a + i)) (t 6 (b + i)), nI (i + 1), ⟨rfl, fun p hp => (ps_ne hp).trans (h1 p hp), fun j hj => ?_, fun j hj => ?_⟩, ?_⟩
    · by_cases e : j = i
      · subst e; rw [ps_same (by omega), h1 6 (by decide)]
      · rw [ps_nk (by omega) (by omega)]; exact h2 j (by omega)
    · rw [ps_nk (by omega) (by omega)]; exact h3 j (by omega)
    · simp only [if_neg (nI_ge hl (show n < 2 ^ 31 by omega)), nI_add, gd_nI (show b + i < 44 by omega) (show 44 < 2 ^ 31 by decide), gd_nI (show a + i < 22 by omega) (show 22 < 2 ^ 31 by decide), nm_ok, nI_1, nI_clamp (show b + i < 2 ^ 31 by omega)]
  · have : i = n := by omega
    subst this
    exact Or.inr ⟨t, by simp only [if_pos (nI_le (Nat.le_refl i) (show i < 2 ^ 31 by omega))], h1, h2, h3⟩
theorem cy_20_25 {σ : St} : ∃ σ', f_X10_copy__20_25 σ = some (0, σ') ∧ (∀ p, p ≠ 25 → σ' p = σ p) ∧ ∀ j, j < 16 → σ' 25 j = σ 20 j := by
  unfold f_X10_copy__20_25
  refine lq1_run (P := fun o => ∃ σ', o = some (0, σ') ∧ (∀ p, p ≠ 25 → σ' p = σ p) ∧ ∀ j, j < 16 → σ' 25 j = σ 20 j) (fun i t y => y = nI i ∧ (∀ p, p ≠ 25 → t p = σ p) ∧ ∀ j, j < i → t 25 j = σ 20 j) 16 ?_ 100000 0 σ 0 (Nat.zero_le _) (by omega) ⟨rfl, fun _ _ => rfl, fun j hj => by omega⟩
  rintro i t y hi ⟨rfl, h1, h2⟩ k
  rcases Nat.lt_or_ge i 16 with hl | hl
  · refine Or.inl ⟨hl, ps t 25 (nI i) (t 20 i), nI (i + 1), ⟨rfl, fun p hp => (ps_ne hp).trans (h1 p hp), fun j hj => ?_⟩, ?_⟩
    · by_cases e : j = i
      · subst e; rw [ps_same (by omega), h1 20 (by decide)]
      · rw [ps_nk (by omega) (by omega)]; exact h2 j (by omega)
    · have h5 : ¬ (16 : Int32) ≤ nI i := nI_ge (b := 16) hl (by decide)
      simp only [if_neg h5, at_20 (show i < 16 by omega), bnd_ok, gd_nI (show i < 16 by omega) (show 16 < 2 ^ 31 by decide), nm_ok, nI_1]
  · have : i = 16 := by omega
    subst this
    exact Or.inr ⟨t, by rw [if_pos (show (16 : Int32) ≤ nI 16 by decide)], h1, h2⟩
theorem cy_21_26 {σ : St} : ∃ σ', f_X10_copy__21_26 σ = some (0, σ') ∧ (∀ p, p ≠ 26 → σ' p = σ p) ∧ ∀ j, j < 5 → σ' 26 j = σ 21 j := by
  unfold f_X10_copy__21_26
  refine lq1_run (P := fun o => ∃ σ', o = some (0, σ') ∧ (∀ p, p ≠ 26 → σ' p = σ p) ∧ ∀ j, j < 5 → σ' 26 j = σ 21 j) (fun i t y => y = nI i ∧ (∀ p, p ≠ 26 → t p = σ p) ∧ ∀ j, j < i → t 26 j = σ 21 j) 5 ?_ 100000 0 σ 0 (Nat.zero_le _) (by omega) ⟨rfl, fun _ _ => rfl, fun j hj => by omega⟩
  rintro i t y hi ⟨rfl, h1, h2⟩ k
  rcases Nat.lt_or_ge i 5 with hl | hl
  · refine Or.inl ⟨hl, ps t 26 (nI i) (t 21 i), nI (i + 1), ⟨rfl, fun p hp => (ps_ne hp).trans (h1 p hp), fun j hj => ?_⟩, ?_⟩
    · by_cases e : j = i
      · subst e; rw [ps_same (by omega), h1 21 (by decide)]
      · rw [ps_nk (by omega) (by omega)]; exact h2 j (by omega)
    · have h5 : ¬ (5 : Int32) ≤ nI i := nI_ge (b := 5) hl (by decide)
      simp only [if_neg h5, at_21 (show i < 5 by omega), bnd_ok, gd_nI (show i < 5 by omega) (show 5 < 2 ^ 31 by decide), nm_ok, nI_1]
  · have : i = 5 := by omega
    subst this
    exact Or.inr ⟨t, by rw [if_pos (show (5 : Int32) ≤ nI 5 by decide)], h1, h2⟩
theorem cy_20_28 {σ : St} : ∃ σ', f_X10_copy__20_28 σ = some (0, σ') ∧ (∀ p, p ≠ 28 → σ' p = σ p) ∧ ∀ j, j < 16 → σ' 28 j = σ 20 j := by
  unfold f_X10_copy__20_28
  refine lq1_run (P := fun o => ∃ σ', o = some (0, σ') ∧ (∀ p, p ≠ 28 → σ' p = σ p) ∧ ∀ j, j < 16 → σ' 28 j = σ 20 j) (fun i t y => y = nI i ∧ (∀ p, p ≠ 28 → t p = σ p) ∧ ∀ j, j < i → t 28 j = σ 20 j) 16 ?_ 100000 0 σ 0 (Nat.zero_le _) (by omega) ⟨rfl, fun _ _ => rfl, fun j hj => by omega⟩
  rintro i t y hi ⟨rfl, h1, h2⟩ k
  rcases Nat.lt_or_ge i 16 with hl | hl
  · refine Or.inl ⟨hl, ps t 28 (nI i) (t 20 i), nI (i + 1), ⟨rfl, fun p hp => (ps_ne hp).trans (h1 p hp), fun j hj => ?_⟩, ?_⟩
    · by_cases e : j = i
      · subst e; rw [ps_same (by omega), h1 20 (by decide)]
      · rw [ps_nk (by omega) (by omega)]; exact h2 j (by omega)
    · have h5 : ¬ (16 : Int32) ≤ nI i := nI_ge (b := 16) hl (by decide)
      simp only [if_neg h5, at_20 (show i < 16 by omega), bnd_ok, gd_nI (show i < 16 by omega) (show 16 < 2 ^ 31 by decide), nm_ok, nI_1]
  · have : i = 16 := by omega
    subst this
    exact Or.inr ⟨t, by rw [if_pos (show (16 : Int32) ≤ nI 16 by decide)], h1, h2⟩
theorem cy_21_29 {σ : St} : ∃ σ', f_X10_copy__21_29 σ = some (0, σ') ∧ (∀ p, p ≠ 29 → σ' p = σ p) ∧ ∀ j, j < 5 → σ' 29 j = σ 21 j := by
  unfold f_X10_copy__21_29
  refine lq1_run (P := fun o => ∃ σ', o = some (0, σ') ∧ (∀ p, p ≠ 29 → σ' p = σ p) ∧ ∀ j, j < 5 → σ' 29 j = σ 21 j) (fun i t y => y = nI i ∧ (∀ p, p ≠ 29 → t p = σ p) ∧ ∀ j, j < i → t 29 j = σ 21 j) 5 ?_ 100000 0 σ 0 (Nat.zero_le _) (by omega) ⟨rfl, fun _ _ => rfl, fun j hj => by omega⟩
  rintro i t y hi ⟨rfl, h1, h2⟩ k
  rcases Nat.lt_or_ge i 5 with hl | hl
  · refine Or.inl ⟨hl, ps t 29 (nI i) (t 21 i), nI (i + 1), ⟨rfl, fun p hp => (ps_ne hp).trans (h1 p hp), fun j hj => ?_⟩, ?_⟩
    · by_cases e : j = i
      · subst e; rw [ps_same (by omega), h1 21 (by decide)]
      · rw [ps_nk (by omega) (by omega)]; exact h2 j (by omega)
    · have h5 : ¬ (5 : Int32) ≤ nI i := nI_ge (b := 5) hl (by decide)
      simp only [if_neg h5, at_21 (show i < 5 by omega), bnd_ok, gd_nI (show i < 5 by omega) (show 5 < 2 ^ 31 by decide), nm_ok, nI_1]
  · have : i = 5 := by omega
    subst this
    exact Or.inr ⟨t, by rw [if_pos (show (5 : Int32) ≤ nI 5 by decide)], h1, h2⟩
theorem cy_20_31 {σ : St} : ∃ σ', f_X10_copy__20_31 σ = some (0, σ') ∧ (∀ p, p ≠ 31 → σ' p = σ p) ∧ ∀ j, j < 16 → σ' 31 j = σ 20 j := by
  unfold f_X10_copy__20_31
  refine lq1_run (P := fun o => ∃ σ', o = some (0, σ') ∧ (∀ p, p ≠ 31 → σ' p = σ p) ∧ ∀ j, j < 16 → σ' 31 j = σ 20 j) (fun i t y => y = nI i ∧ (∀ p, p ≠ 31 → t p = σ p) ∧ ∀ j, j < i → t 31 j = σ 20 j) 16 ?_ 100000 0 σ 0 (Nat.zero_le _) (by omega) ⟨rfl, fun _ _ => rfl, fun j hj => by omega⟩
  rintro i t y hi ⟨rfl, h1, h2⟩ k
  rcases Nat.lt_or_ge i 16 with hl | hl
  · refine Or.inl ⟨hl, ps t 31 (nI i) (t 20 i), nI (i + 1), ⟨rfl, fun p hp => (ps_ne hp).trans (h1 p hp), fun j hj => ?_⟩, ?_⟩
    · by_cases e : j = i
      · subst e; rw [ps_same (by omega), h1 20 (by decide)]
      · rw [ps_nk (by omega) (by omega)]; exact h2 j (by omega)
    · have h5 : ¬ (16 : Int32) ≤ nI i := nI_ge (b := 16) hl (by decide)
      simp only [if_neg h5, at_20 (show i < 16 by omega), bnd_ok, gd_nI (show i < 16 by omega) (show 16 < 2 ^ 31 by decide), nm_ok, nI_1]
  · have : i = 16 := by omega
    subst this
    exact Or.inr ⟨t, by rw [if_pos (show (16 : Int32) ≤ nI 16 by decide)], h1, h2⟩
theorem cy_21_32 {σ : St} : ∃ σ', f_X10_copy__21_32 σ = some (0, σ') ∧ (∀ p, p ≠ 32 → σ' p = σ p) ∧ ∀ j, j < 5 → σ' 32 j = σ 21 j := by
  unfold f_X10_copy__21_32
  refine lq1_run (P := fun o => ∃ σ', o = some (0, σ') ∧ (∀ p, p ≠ 32 → σ' p = σ p) ∧ ∀ j, j < 5 → σ' 32 j = σ 21 j) (fun i t y => y = nI i ∧ (∀ p, p ≠ 32 → t p = σ p) ∧ ∀ j, j < i → t 32 j = σ 21 j) 5 ?_ 100000 0 σ 0 (Nat.zero_le _) (by omega) ⟨rfl, fun _ _ => rfl, fun j hj => by omega⟩
  rintro i t y hi ⟨rfl, h1, h2⟩ k
  rcases Nat.lt_or_ge i 5 with hl | hl
  · refine Or.inl ⟨hl, ps t 32 (nI i) (t 21 i), nI (i + 1), ⟨rfl, fun p hp => (ps_ne hp).trans (h1 p hp), fun j hj => ?_⟩, ?_⟩
    · by_cases e : j = i
      · subst e; rw [ps_same (by omega), h1 21 (by decide)]
      · rw [ps_nk (by omega) (by omega)]; exact h2 j (by omega)
    · have h5 : ¬ (5 : Int32) ≤ nI i := nI_ge (b := 5) hl (by decide)
      simp only [if_neg h5, at_21 (show i < 5 by omega), bnd_ok, gd_nI (show i < 5 by omega) (show 5 < 2 ^ 31 by decide), nm_ok, nI_1]
  · have : i = 5 := by omega
    subst this
    exact Or.inr ⟨t, by rw [if_pos (show (5 : Int32) ≤ nI 5 by decide)], h1, h2⟩
theorem cy_20_34 {σ : St} : ∃ σ', f_X10_copy__20_34 σ = some (0, σ') ∧ (∀ p, p ≠ 34 → σ' p = σ p) ∧ ∀ j, j < 16 → σ' 34 j = σ 20 j := by
  unfold f_X10_copy__20_34
  refine lq1_run (P := fun o => ∃ σ', o = some (0, σ') ∧ (∀ p, p ≠ 34 → σ' p = σ p) ∧ ∀ j, j < 16 → σ' 34 j = σ 20 j) (fun i t y => y = nI i ∧ (∀ p, p ≠ 34 → t p = σ p) ∧ ∀ j, j < i → t 34 j = σ 20 j) 16 ?_ 100000 0 σ 0 (Nat.zero_le _) (by omega) ⟨rfl, fun _ _ => rfl, fun j hj => by omega⟩
  rintro i t y hi ⟨rfl, h1, h2⟩ k
  rcases Nat.lt_or_ge i 16 with hl | hl
  · refine Or.inl ⟨hl, ps t 34 (nI i) (t 20 i), nI (i + 1), ⟨rfl, fun p hp => (ps_ne hp).trans (h1 p hp), fun j hj => ?_⟩, ?_⟩
    · by_cases e : j = i
      · subst e; rw [ps_same (by omega), h1 20 (by decide)]
      · rw [ps_nk (by omega) (by omega)]; exact h2 j (by omega)
    · have h5 : ¬ (16 : Int32) ≤ nI i := nI_ge (b := 16) hl (by decide)
      simp only [if_neg h5, at_20 (show i < 16 by omega), bnd_ok, gd_nI (show i < 16 by omega) (show 16 < 2 ^ 31 by decide), nm_ok, nI_1]
  · have : i = 16 := by omega
    subst this
    exact Or.inr ⟨t, by rw [if_pos (show (16 : Int32) ≤ nI 16 by decide)], h1, h2⟩
theorem cy_21_35 {σ : St} : ∃ σ', f_X10_copy__21_35 σ = some (0, σ') ∧ (∀ p, p ≠ 35 → σ' p = σ p) ∧ ∀ j, j < 5 → σ' 35 j = σ 21 j := by
  unfold f_X10_copy__21_35
  refine lq1_run (P := fun o => ∃ σ', o = some (0, σ') ∧ (∀ p, p ≠ 35 → σ' p = σ p) ∧ ∀ j, j < 5 → σ' 35 j = σ 21 j) (fun i t y => y = nI i ∧ (∀ p, p ≠ 35 → t p = σ p) ∧ ∀ j, j < i → t 35 j = σ 21 j) 5 ?_ 100000 0 σ 0 (Nat.zero_le _) (by omega) ⟨rfl, fun _ _ => rfl, fun j hj => by omega⟩
  rintro i t y hi ⟨rfl, h1, h2⟩ k
  rcases Nat.lt_or_ge i 5 with hl | hl
  · refine Or.inl ⟨hl, ps t 35 (nI i) (t 21 i), nI (i + 1), ⟨rfl, fun p hp => (ps_ne hp).trans (h1 p hp), fun j hj => ?_⟩, ?_⟩
    · by_cases e : j = i
      · subst e; rw [ps_same (by omega), h1 21 (by decide)]
      · rw [ps_nk (by omega) (by omega)]; exact h2 j (by omega)
    · have h5 : ¬ (5 : Int32) ≤ nI i := nI_ge (b := 5) hl (by decide)
      simp only [if_neg h5, at_21 (show i < 5 by omega), bnd_ok, gd_nI (show i < 5 by omega) (show 5 < 2 ^ 31 by decide), nm_ok, nI_1]
  · have : i = 5 := by omega
    subst this
    exact Or.inr ⟨t, by rw [if_pos (show (5 : Int32) ≤ nI 5 by decide)], h1, h2⟩
theorem cy_20_37 {σ : St} : ∃ σ', f_X10_copy__20_37 σ = some (0, σ') ∧ (∀ p, p ≠ 37 → σ' p = σ p) ∧ ∀ j, j < 16 → σ' 37 j = σ 20 j := by
  unfold f_X10_copy__20_37
  refine lq1_run (P := fun o => ∃ σ', o = some (0, σ') ∧ (∀ p, p ≠ 37 → σ' p = σ p) ∧ ∀ j, j < 16 → σ' 37 j = σ 20 j) (fun i t y => y = nI i ∧ (∀ p, p ≠ 37 → t p = σ p) ∧ ∀ j, j < i → t 37 j = σ 20 j) 16 ?_ 100000 0 σ 0 (Nat.zero_le _) (by omega) ⟨rfl, fun _ _ => rfl, fun j hj => by omega⟩
  rintro i t y hi ⟨rfl, h1, h2⟩ k
  rcases Nat.lt_or_ge i 16 with hl | hl
  · refine Or.inl ⟨hl, ps t 37 (nI i) (t 20 i), nI (i + 1), ⟨rfl, fun p hp => (ps_ne hp).trans (h1 p hp), fun j hj => ?_⟩, ?_⟩
    · by_cases e : j = i
      · subst e; rw [ps_same (by omega), h1 20 (by decide)]
      · rw [ps_nk (by omega) (by omega)]; exact h2 j (by omega)
    · have h5 : ¬ (16 : Int32) ≤ nI i := nI_ge (b := 16) hl (by decide)
      simp only [if_neg h5, at_20 (show i < 16 by omega), bnd_ok, gd_nI (show i < 16 by omega) (show 16 < 2 ^ 31 by decide), nm_ok, nI_1]
  · have : i = 16 := by omega
    subst this
    exact Or.inr ⟨t, by rw [if_pos (show (16 : Int32) ≤ nI 16 by decide)], h1, h2⟩
theorem cy_21_38 {σ : St} : ∃ σ', f_X10_copy__21_38 σ = some (0, σ') ∧ (∀ p, p ≠ 38 → σ' p = σ p) ∧ ∀ j, j < 5 → σ' 38 j = σ 21 j := by
  unfold f_X10_copy__21_38
  refine lq1_run (P := fun o => ∃ σ', o = some (0, σ') ∧ (∀ p, p ≠ 38 → σ' p = σ p) ∧ ∀ j, j < 5 → σ' 38 j = σ 21 j) (fun i t y => y = nI i ∧ (∀ p, p ≠ 38 → t p = σ p) ∧ ∀ j, j < i → t 38 j = σ 21 j) 5 ?_ 100000 0 σ 0 (Nat.zero_le _) (by omega) ⟨rfl, fun _ _ => rfl, fun j hj => by omega⟩
  rintro i t y hi ⟨rfl, h1, h2⟩ k
  rcases Nat.lt_or_ge i 5 with hl | hl
  · refine Or.inl ⟨hl, ps t 38 (nI i) (t 21 i), nI (i + 1), ⟨rfl, fun p hp => (ps_ne hp).trans (h1 p hp), fun j hj => ?_⟩, ?_⟩
    · by_cases e : j = i
      · subst e; rw [ps_same (by omega), h1 21 (by decide)]
      · rw [ps_nk (by omega) (by omega)]; exact h2 j (by omega)
    · have h5 : ¬ (5 : Int32) ≤ nI i := nI_ge (b := 5) hl (by decide)
      simp only [if_neg h5, at_21 (show i < 5 by omega), bnd_ok, gd_nI (show i < 5 by omega) (show 5 < 2 ^ 31 by decide), nm_ok, nI_1]
  · have : i = 5 := by omega
    subst this
    exact Or.inr ⟨t, by rw [if_pos (show (5 : Int32) ≤ nI 5 by decide)], h1, h2⟩
theorem cy_20_40 {σ : St} : ∃ σ', f_X10_copy__20_40 σ = some (0, σ') ∧ (∀ p, p ≠ 40 → σ' p = σ p) ∧ ∀ j, j < 16 → σ' 40 j = σ 20 j := by
  unfold f_X10_copy__20_40
  refine lq1_run (P := fun o => ∃ σ', o = some (0, σ') ∧ (∀ p, p ≠ 40 → σ' p = σ p) ∧ ∀ j, j < 16 → σ' 40 j = σ 20 j) (fun i t y => y = nI i ∧ (∀ p, p ≠ 40 → t p = σ p) ∧ ∀ j, j < i → t 40 j = σ 20 j) 16 ?_ 100000 0 σ 0 (Nat.zero_le _) (by omega) ⟨rfl, fun _ _ => rfl, fun j hj => by omega⟩
  rintro i t y hi ⟨rfl, h1, h2⟩ k
  rcases Nat.lt_or_ge i 16 with hl | hl
  · refine Or.inl ⟨hl, ps t 40 (nI i) (t 20 i), nI (i + 1), ⟨rfl, fun p hp => (ps_ne hp).trans (h1 p hp), fun j hj => ?_⟩, ?_⟩
    · by_cases e : j = i
      · subst e; rw [ps_same (by omega), h1 20 (by decide)]
      · rw [ps_nk (by omega) (by omega)]; exact h2 j (by omega)
    · have h5 : ¬ (16 : Int32) ≤ nI i := nI_ge (b := 16) hl (by decide)
      simp only [if_neg h5, at_20 (show i < 16 by omega), bnd_ok, gd_nI (show i < 16 by omega) (show 16 < 2 ^ 31 by decide), nm_ok, nI_1]
  · have : i = 16 := by omega
    subst this
    exact Or.inr ⟨t, by rw [if_pos (show (16 : Int32) ≤ nI 16 by decide)], h1, h2⟩
theorem cy_21_41 {σ : St} : ∃ σ', f_X10_copy__21_41 σ = some (0, σ') ∧ (∀ p, p ≠ 41 → σ' p = σ p) ∧ ∀ j, j < 5 → σ' 41 j = σ 21 j := by
  unfold f_X10_copy__21_41
  refine lq1_run (P := fun o => ∃ σ', o = some (0, σ') ∧ (∀ p, p ≠ 41 → σ' p = σ p) ∧ ∀ j, j < 5 → σ' 41 j = σ 21 j) (fun i t y => y = nI i ∧ (∀ p, p ≠ 41 → t p = σ p) ∧ ∀ j, j < i → t 41 j = σ 21 j) 5 ?_ 100000 0 σ 0 (Nat.zero_le _) (by omega) ⟨rfl, fun _ _ => rfl, fun j hj => by omega⟩
  rintro i t y hi ⟨rfl, h1, h2⟩ k
  rcases Nat.lt_or_ge i 5 with hl | hl
  · refine Or.inl ⟨hl, ps t 41 (nI i) (t 21 i), nI (i + 1), ⟨rfl, fun p hp => (ps_ne hp).trans (h1 p hp), fun j hj => ?_⟩, ?_⟩
    · by_cases e : j = i
      · subst e; rw [ps_same (by omega), h1 21 (by decide)]
      · rw [ps_nk (by omega) (by omega)]; exact h2 j (by omega)
    · have h5 : ¬ (5 : Int32) ≤ nI i := nI_ge (b := 5) hl (by decide)
      simp only [if_neg h5, at_21 (show i < 5 by omega), bnd_ok, gd_nI (show i < 5 by omega) (show 5 < 2 ^ 31 by decide), nm_ok, nI_1]
  · have : i = 5 := by omega
    subst this
    exact Or.inr ⟨t, by rw [if_pos (show (5 : Int32) ≤ nI 5 by decide)], h1, h2⟩
theorem cy_20_43 {σ : St} : ∃ σ', f_X10_copy__20_43 σ = some (0, σ') ∧ (∀ p, p ≠ 43 → σ' p = σ p) ∧ ∀ j, j < 16 → σ' 43 j = σ 20 j := by
  unfold f_X10_copy__20_43
  refine lq1_run (P := fun o => ∃ σ', o = some (0, σ') ∧ (∀ p, p ≠ 43 → σ' p = σ p) ∧ ∀ j, j < 16 → σ' 43 j = σ 20 j) (fun i t y => y = nI i ∧ (∀ p, p ≠ 43 → t p = σ p) ∧ ∀ j, j < i → t 43 j = σ 20 j) 16 ?_ 100000 0 σ 0 (Nat.zero_le _) (by omega) ⟨rfl, fun _ _ => rfl, fun j hj => by omega⟩
  rintro i t y hi ⟨rfl, h1, h2⟩ k
  rcases Nat.lt_or_ge i 16 with hl | hl
  · refine Or.inl ⟨hl, ps t 43 (nI i) (t 20 i), nI (i + 1), ⟨rfl, fun p hp => (ps_ne hp).trans (h1 p hp), fun j hj => ?_⟩, ?_⟩
    · by_cases e : j = i
      · subst e; rw [ps_same (by omega), h1 20 (by decide)]
      · rw [ps_nk (by omega) (by omega)]; exact h2 j (by omega)
    · have h5 : ¬ (16 : Int32) ≤ nI i := nI_ge (b := 16) hl (by decide)
      simp only [if_neg h5, at_20 (show i < 16 by omega), bnd_ok, gd_nI (show i < 16 by omega) (show 16 < 2 ^ 31 by decide), nm_ok, nI_1]
  · have : i = 16 := by omega
    subst this
    exact Or.inr ⟨t, by rw [if_pos (show (16 : Int32) ≤ nI 16 by decide)], h1, h2⟩
theorem cy_21_44 {σ : St} : ∃ σ', f_X10_copy__21_44 σ = some (0, σ') ∧ (∀ p, p ≠ 44 → σ' p = σ p) ∧ ∀ j, j < 5 → σ' 44 j = σ 21 j := by
  unfold f_X10_copy__21_44
  refine lq1_run (P := fun o => ∃ σ', o = some (0, σ') ∧ (∀ p, p ≠ 44 → σ' p = σ p) ∧ ∀ j, j < 5 → σ' 44 j = σ 21 j) (fun i t y => y = nI i ∧ (∀ p, p ≠ 44 → t p = σ p) ∧ ∀ j, j < i → t 44 j = σ 21 j) 5 ?_ 100000 0 σ 0 (Nat.zero_le _) (by omega) ⟨rfl, fun _ _ => rfl, fun j hj => by omega⟩
  rintro i t y hi ⟨rfl, h1, h2⟩ k
  rcases Nat.lt_or_ge i 5 with hl | hl
  · refine Or.inl ⟨hl, ps t 44 (nI i) (t 21 i), nI (i + 1), ⟨rfl, fun p hp => (ps_ne hp).trans (h1 p hp), fun j hj => ?_⟩, ?_⟩
    · by_cases e : j = i
      · subst e; rw [ps_same (by omega), h1 21 (by decide)]
      · rw [ps_nk (by omega) (by omega)]; exact h2 j (by omega)
    · have h5 : ¬ (5 : Int32) ≤ nI i := nI_ge (b := 5) hl (by decide)
      simp only [if_neg h5, at_21 (show i < 5 by omega), bnd_ok, gd_nI (show i < 5 by omega) (show 5 < 2 ^ 31 by decide), nm_ok, nI_1]
  · have : i = 5 := by omega
    subst this
    exact Or.inr ⟨t, by rw [if_pos (show (5 : Int32) ≤ nI 5 by decide)], h1, h2⟩
theorem cy_20_46 {σ : St} : ∃ σ', f_X10_copy__20_46 σ = some (0, σ') ∧ (∀ p, p ≠ 46 → σ' p = σ p) ∧ ∀ j, j < 16 → σ' 46 j = σ 20 j := by
  unfold f_X10_copy__20_46
  refine lq1_run (P := fun o => ∃ σ', o = some (0, σ') ∧ (∀ p, p ≠ 46 → σ' p = σ p) ∧ ∀ j, j < 16 → σ' 46 j = σ 20 j) (fun i t y => y = nI i ∧ (∀ p, p ≠ 46 → t p = σ p) ∧ ∀ j, j < i → t 46 j = σ 20 j) 16 ?_ 100000 0 σ 0 (Nat.zero_le _) (by omega) ⟨rfl, fun _ _ => rfl, fun j hj => by omega⟩
  rintro i t y hi ⟨rfl, h1, h2⟩ k
  rcases Nat.lt_or_ge i 16 with hl | hl
  · refine Or.inl ⟨hl, ps t 46 (nI i) (t 20 i), nI (i + 1), ⟨rfl, fun p hp => (ps_ne hp).trans (h1 p hp), fun j hj => ?_⟩, ?_⟩
    · by_cases e : j = i
      · subst e; rw [ps_same (by omega), h1 20 (by decide)]
      · rw [ps_nk (by omega) (by omega)]; exact h2 j (by omega)
    · have h5 : ¬ (16 : Int32) ≤ nI i := nI_ge (b := 16) hl (by decide)
      simp only [if_neg h5, at_20 (show i < 16 by omega), bnd_ok, gd_nI (show i < 16 by omega) (show 16 < 2 ^ 31 by decide), nm_ok, nI_1]
  · have : i = 16 := by omega
    subst this
    exact Or.inr ⟨t, by rw [if_pos (show (16 : Int32) ≤ nI 16 by decide)], h1, h2⟩
theorem cy_21_47 {σ : St} : ∃ σ', f_X10_copy__21_47 σ = some (0, σ') ∧ (∀ p, p ≠ 47 → σ' p = σ p) ∧ ∀ j, j < 5 → σ' 47 j = σ 21 j := by
  unfold f_X10_copy__21_47
  refine lq1_run (P := fun o => ∃ σ', o = some (0, σ') ∧ (∀ p, p ≠ 47 → σ' p = σ p) ∧ ∀ j, j < 5 → σ' 47 j = σ 21 j) (fun i t y => y = nI i ∧ (∀ p, p ≠ 47 → t p = σ p) ∧ ∀ j, j < i → t 47 j = σ 21 j) 5 ?_ 100000 0 σ 0 (Nat.zero_le _) (by omega) ⟨rfl, fun _ _ => rfl, fun j hj => by omega⟩
  rintro i t y hi ⟨rfl, h1, h2⟩ k
  rcases Nat.lt_or_ge i 5 with hl | hl
  · refine Or.inl ⟨hl, ps t 47 (nI i) (t 21 i), nI (i + 1), ⟨rfl, fun p hp => (ps_ne hp).trans (h1 p hp), fun j hj => ?_⟩, ?_⟩
    · by_cases e : j = i
      · subst e; rw [ps_same (by omega), h1 21 (by decide)]
      · rw [ps_nk (by omega) (by omega)]; exact h2 j (by omega)
    · have h5 : ¬ (5 : Int32) ≤ nI i := nI_ge (b := 5) hl (by decide)
      simp only [if_neg h5, at_21 (show i < 5 by omega), bnd_ok, gd_nI (show i < 5 by omega) (show 5 < 2 ^ 31 by decide), nm_ok, nI_1]
  · have : i = 5 := by omega
    subst this
    exact Or.inr ⟨t, by rw [if_pos (show (5 : Int32) ≤ nI 5 by decide)], h1, h2⟩
theorem cy_25_20 {σ : St} : ∃ σ', f_X10_copy__25_20 σ = some (0, σ') ∧ (∀ p, p ≠ 20 → σ' p = σ p) ∧ ∀ j, j < 16 → σ' 20 j = σ 25 j := by
  unfold f_X10_copy__25_20
  refine lq1_run (P := fun o => ∃ σ', o = some (0, σ') ∧ (∀ p, p ≠ 20 → σ' p = σ p) ∧ ∀ j, j < 16 → σ' 20 j = σ 25 j) (fun i t y => y = nI i ∧ (∀ p, p ≠ 20 → t p = σ p) ∧ ∀ j, j < i → t 20 j = σ 25 j) 16 ?_ 100000 0 σ 0 (Nat.zero_le _) (by omega) ⟨rfl, fun _ _ => rfl, fun j hj => by omega⟩
  rintro i t y hi ⟨rfl, h1, h2⟩ k
  rcases Nat.lt_or_ge i 16 with hl | hl
  · refine Or.inl ⟨hl, ps t 20 (nI i) (t 25 i), nI (i + 1), ⟨rfl, fun p hp => (ps_ne hp).trans (h1 p hp), fun j hj => ?_⟩, ?_⟩
    · by_cases e : j = i
      · subst e; rw [ps_same (by omega), h1 25 (by decide)]
      · rw [ps_nk (by omega) (by omega)]; exact h2 j (by omega)
    · have h5 : ¬ (16 : Int32) ≤ nI i := nI_ge (b := 16) hl (by decide)
      simp only [if_neg h5, at_25 (show i < 16 by omega), bnd_ok, gd_nI (show i < 16 by omega) (show 16 < 2 ^ 31 by decide), nm_ok, nI_1]
  · have : i = 16 := by omega
    subst this
    exact Or.inr ⟨t, by rw [if_pos (show (16 : Int32) ≤ nI 16 by decide)], h1, h2⟩
theorem cy_26_21 {σ : St} : ∃ σ', f_X10_copy__26_21 σ = some (0, σ') ∧ (∀ p, p ≠ 21 → σ' p = σ p) ∧ ∀ j, j < 5 → σ' 21 j = σ 26 j := by
  unfold f_X10_copy__26_21
  refine lq1_run (P := fun o => ∃ σ', o = some (0, σ') ∧ (∀ p, p ≠ 21 → σ' p = σ p) ∧ ∀ j, j < 5 → σ' 21 j = σ 26 j) (fun i t y => y = nI i ∧ (∀ p, p ≠ 21 → t p = σ p) ∧ ∀ j, j < i → t 21 j = σ 26 j) 5 ?_ 100000 0 σ 0 (Nat.zero_le _) (by omega) ⟨rfl, fun _ _ => rfl, fun j hj => by omega⟩
  rintro i t y hi ⟨rfl, h1, h2⟩ k
  rcases Nat.lt_or_ge i 5 with hl | hl
  · refine Or.inl ⟨hl, ps t 21 (nI i) (t 26 i), nI (i + 1), ⟨rfl, fun p hp => (ps_ne hp).trans (h1 p hp), fun j hj => ?_⟩, ?_⟩
    · by_cases e : j = i
      · subst e; rw [ps_same (by omega), h1 26 (by decide)]
      · rw [ps_nk (by omega) (by omega)]; exact h2 j (by omega)
    · have h5 : ¬ (5 : Int32) ≤ nI i := nI_ge (b := 5) hl (by decide)
      simp only [if_neg h5, at_26 (show i < 5 by omega), bnd_ok, gd_nI (show i < 5 by omega) (show 5 < 2 ^ 31 by decide), nm_ok, nI_1]
  · have : i = 5 := by omega
    subst this
    exact Or.inr ⟨t, by rw [if_pos (show (5 : Int32) ≤ nI 5 by decide)], h1, h2⟩
theorem cy_28_20 {σ : St} : ∃ σ', f_X10_copy__28_20 σ = some (0, σ') ∧ (∀ p, p ≠ 20 → σ' p = σ p) ∧ ∀ j, j < 16 → σ' 20 j = σ 28 j := by
  unfold f_X10_copy__28_20
  refine lq1_run (P := fun o => ∃ σ', o = some (0, σ') ∧ (∀ p, p ≠ 20 → σ' p = σ p) ∧ ∀ j, j < 16 → σ' 20 j = σ 28 j) (fun i t y => y = nI i ∧ (∀ p, p ≠ 20 → t p = σ p) ∧ ∀ j, j < i → t 20 j = σ 28 j) 16 ?_ 100000 0 σ 0 (Nat.zero_le _) (by omega) ⟨rfl, fun _ _ => rfl, fun j hj => by omega⟩
  rintro i t y hi ⟨rfl, h1, h2⟩ k
  rcases Nat.lt_or_ge i 16 with hl | hl
  · refine Or.inl ⟨hl, ps t 20 (nI i) (t 28 i), nI (i + 1), ⟨rfl, fun p hp => (ps_ne hp).trans (h1 p hp), fun j hj => ?_⟩, ?_⟩
    · by_cases e : j = i
      · subst e; rw [ps_same (by omega), h1 28 (by decide)]
      · rw [ps_nk (by omega) (by omega)]; exact h2 j (by omega)
    · have h5 : ¬ (16 : Int32) ≤ nI i := nI_ge (b := 16) hl (by decide)
      simp only [if_neg h5, at_28 (show i < 16 by omega), bnd_ok, gd_nI (show i < 16 by omega) (show 16 < 2 ^ 31 by decide), nm_ok, nI_1]
  · have : i = 16 := by omega
    subst this
    exact Or.inr ⟨t, by rw [if_pos (show (16 : Int32) ≤ nI 16 by decide)], h1, h2⟩
theorem cy_29_21 {σ : St} : ∃ σ', f_X10_copy__29_21 σ = some (0, σ') ∧ (∀ p, p ≠ 21 → σ' p = σ p) ∧ ∀ j, j < 5 → σ' 21 j = σ 29 j := by
  unfold f_X10_copy__29_21
  refine lq1_run (P := fun o => ∃ σ', o = some (0, σ') ∧ (∀ p, p ≠ 21 → σ' p = σ p) ∧ ∀ j, j < 5 → σ' 21 j = σ 29 j) (fun i t y => y = nI i ∧ (∀ p, p ≠ 21 → t p = σ p) ∧ ∀ j, j < i → t 21 j = σ 29 j) 5 ?_ 100000 0 σ 0 (Nat.zero_le _) (by omega) ⟨rfl, fun _ _ => rfl, fun j hj => by omega⟩
  rintro i t y hi ⟨rfl, h1, h2⟩ k
  rcases Nat.lt_or_ge i 5 with hl | hl
  · refine Or.inl ⟨hl, ps t 21 (nI i) (t 29 i), nI (i + 1), ⟨rfl, fun p hp => (ps_ne hp).trans (h1 p hp), fun j hj => ?_⟩, ?_⟩
    · by_cases e : j = i
      · subst e; rw [ps_same (by omega), h1 29 (by decide)]
      · rw [ps_nk (by omega) (by omega)]; exact h2 j (by omega)
    · have h5 : ¬ (5 : Int32) ≤ nI i := nI_ge (b := 5) hl (by decide)
      simp only [if_neg h5, at_29 (show i < 5 by omega), bnd_ok, gd_nI (show i < 5 by omega) (show 5 < 2 ^ 31 by decide), nm_ok, nI_1]
  · have : i = 5 := by omega
    subst this
    exact Or.inr ⟨t, by rw [if_pos (show (5 : Int32) ≤ nI 5 by decide)], h1, h2⟩
theorem cy_31_20 {σ : St} : ∃ σ', f_X10_copy__31_20 σ = some (0, σ') ∧ (∀ p, p ≠ 20 → σ' p = σ p) ∧ ∀ j, j < 16 → σ' 20 j = σ 31 j := by
  unfold f_X10_copy__31_20
  refine lq1_run (P := fun o => ∃ σ', o = some (0, σ') ∧ (∀ p, p ≠ 20 → σ' p = σ p) ∧ ∀ j, j < 16 → σ' 20 j = σ 31 j) (fun i t y => y = nI i ∧ (∀ p, p ≠ 20 → t p = σ p) ∧ ∀ j, j < i → t 20 j = σ 31 j) 16 ?_ 100000 0 σ 0 (Nat.zero_le _) (by omega) ⟨rfl, fun _ _ => rfl, fun j hj => by omega⟩
  rintro i t y hi ⟨rfl, h1, h2⟩ k
  rcases Nat.lt_or_ge i 16 with hl | hl
  · refine Or.inl ⟨hl, ps t 20 (nI i) (t 31 i), nI (i + 1), ⟨rfl, fun p hp => (ps_ne hp).trans (h1 p hp), fun j hj => ?_⟩, ?_⟩
    · by_cases e : j = i
      · subst e; rw [ps_same (by omega), h1 31 (by decide)]
      · rw [ps_nk (by omega) (by omega)]; exact h2 j (by omega)
    · have h5 : ¬ (16 : Int32) ≤ nI i := nI_ge (b := 16) hl (by decide)
      simp only [if_neg h5, at_31 (show i < 16 by omega), bnd_ok, gd_nI (show i < 16 by omega) (show 16 < 2 ^ 31 by decide), nm_ok, nI_1]
  · have : i = 16 := by omega
    subst this
    exact Or.inr ⟨t, by rw [if_pos (show (16 : Int32) ≤ nI 16 by decide)], h1, h2⟩
theorem cy_32_21 {σ : St} : ∃ σ', f_X10_copy__32_21 σ = some (0, σ') ∧ (∀ p, p ≠ 21 → σ' p = σ p) ∧ ∀ j, j < 5 → σ' 21 j = σ 32 j := by
  unfold f_X10_copy__32_21
  refine lq1_run (P := fun o => ∃ σ', o = some (0, σ') ∧ (∀ p, p ≠ 21 → σ' p = σ p) ∧ ∀ j, j < 5 → σ' 21 j = σ 32 j) (fun i t y => y = nI i ∧ (∀ p, p ≠ 21 → t p = σ p) ∧ ∀ j, j < i → t 21 j = σ 32 j) 5 ?_ 100000 0 σ 0 (Nat.zero_le _) (by omega) ⟨rfl, fun _ _ => rfl, fun j hj => by omega⟩
  rintro i t y hi ⟨rfl, h1, h2⟩ k
  rcases Nat.lt_or_ge i 5 with hl | hl
  · refine Or.inl ⟨hl, ps t 21 (nI i) (t 32 i), nI (i + 1), ⟨rfl, fun p hp => (ps_ne hp).trans (h1 p hp), fun j hj => ?_⟩, ?_⟩
    · by_cases e : j = i
      · subst e; rw [ps_same (by omega), h1 32 (by decide)]
      · rw [ps_nk (by omega) (by omega)]; exact h2 j (by omega)
    · have h5 : ¬ (5 : Int32) ≤ nI i := nI_ge (b := 5) hl (by decide)
      simp only [if_neg h5, at_32 (show i < 5 by omega), bnd_ok, gd_nI (show i < 5 by omega) (show 5 < 2 ^ 31 by decide), nm_ok, nI_1]
  · have : i = 5 := by omega
    subst this
    exact Or.inr ⟨t, by rw [if_pos (show (5 : Int32) ≤ nI 5 by decide)], h1, h2⟩
theorem cy_34_20 {σ : St} : ∃ σ', f_X10_copy__34_20 σ = some (0, σ') ∧ (∀ p, p ≠ 20 → σ' p = σ p) ∧ ∀ j, j < 16 → σ' 20 j = σ 34 j := by
  unfold f_X10_copy__34_20
  refine lq1_run (P := fun o => ∃ σ', o = some (0, σ') ∧ (∀ p, p ≠ 20 → σ' p = σ p) ∧ ∀ j, j < 16 → σ' 20 j = σ 34 j) (fun i t y => y = nI i ∧ (∀ p, p ≠ 20 → t p = σ p) ∧ ∀ j, j < i → t 20 j = σ 34 j) 16 ?_ 100000 0 σ 0 (Nat.zero_le _) (by omega) ⟨rfl, fun _ _ => rfl, fun j hj => by omega⟩
  rintro i t y hi ⟨rfl, h1, h2⟩ k
  rcases Nat.lt_or_ge i 16 with hl | hl
  · refine Or.inl ⟨hl, ps t 20 (nI i) (t 34 i), nI (i + 1), ⟨rfl, fun p hp => (ps_ne hp).trans (h1 p hp), fun j hj => ?_⟩, ?_⟩
    · by_cases e : j = i
      · subst e; rw [ps_same (by omega), h1 34 (by decide)]
      · rw [ps_nk (by omega) (by omega)]; exact h2 j (by omega)
    · have h5 : ¬ (16 : Int32) ≤ nI i := nI_ge (b := 16) hl (by decide)
      simp only [if_neg h5, at_34 (show i < 16 by omega), bnd_ok, gd_nI (show i < 16 by omega) (show 16 < 2 ^ 31 by decide), nm_ok, nI_1]
  · have : i = 16 := by omega
    subst this
    exact Or.inr ⟨t, by rw [if_pos (show (16 : Int32) ≤ nI 16 by decide)], h1, h2⟩
theorem cy_35_21 {σ : St} : ∃ σ', f_X10_copy__35_21 σ = some (0, σ') ∧ (∀ p, p ≠ 21 → σ' p = σ p) ∧ ∀ j, j < 5 → σ' 21 j = σ 35 j := by
  unfold f_X10_copy__35_21
  refine lq1_run (P := fun o => ∃ σ', o = some (0, σ') ∧ (∀ p, p ≠ 21 → σ' p = σ p) ∧ ∀ j, j < 5 → σ' 21 j = σ 35 j) (fun i t y => y = nI i ∧ (∀ p, p ≠ 21 → t p = σ p) ∧ ∀ j, j < i → t 21 j = σ 35 j) 5 ?_ 100000 0 σ 0 (Nat.zero_le _) (by omega) ⟨rfl, fun _ _ => rfl, fun j hj => by omega⟩
  rintro i t y hi ⟨rfl, h1, h2⟩ k
  rcases Nat.lt_or_ge i 5 with hl | hl
  · refine Or.inl ⟨hl, ps t 21 (nI i) (t 35 i), nI (i + 1), ⟨rfl, fun p hp => (ps_ne hp).trans (h1 p hp), fun j hj => ?_⟩, ?_⟩
    · by_cases e : j = i
      · subst e; rw [ps_same (by omega), h1 35 (by decide)]
      · rw [ps_nk (by omega) (by omega)]; exact h2 j (by omega)
    · have h5 : ¬ (5 : Int32) ≤ nI i := nI_ge (b := 5) hl (by decide)
      simp only [if_neg h5, at_35 (show i < 5 by omega), bnd_ok, gd_nI (show i < 5 by omega) (show 5 < 2 ^ 31 by decide), nm_ok, nI_1]
  · have : i = 5 := by omega
    subst this
    exact Or.inr ⟨t, by rw [if_pos (show (5 : Int32) ≤ nI 5 by decide)], h1, h2⟩
theorem cy_37_20 {σ : St} : ∃ σ', f_X10_copy__37_20 σ = some (0, σ') ∧ (∀ p, p ≠ 20 → σ' p = σ p) ∧ ∀ j, j < 16 → σ' 20 j = σ 37 j := by
  unfold f_X10_copy__37_20
  refine lq1_run (P := fun o => ∃ σ', o = some (0, σ') ∧ (∀ p, p ≠ 20 → σ' p = σ p) ∧ ∀ j, j < 16 → σ' 20 j = σ 37 j) (fun i t y => y = nI i ∧ (∀ p, p ≠ 20 → t p = σ p) ∧ ∀ j, j < i → t 20 j = σ 37 j) 16 ?_ 100000 0 σ 0 (Nat.zero_le _) (by omega) ⟨rfl, fun _ _ => rfl, fun j hj => by omega⟩
  rintro i t y hi ⟨rfl, h1, h2⟩ k
  rcases Nat.lt_or_ge i 16 with hl | hl
  · refine Or.inl ⟨hl, ps t 20 (nI i) (t 37 i), nI (i + 1), ⟨rfl, fun p hp => (ps_ne hp).trans (h1 p hp), fun j hj => ?_⟩, ?_⟩
    · by_cases e : j = i
      · subst e; rw [ps_same (by omega), h1 37 (by decide)]
      · rw [ps_nk (by omega) (by omega)]; exact h2 j (by omega)
    · have h5 : ¬ (16 : Int32) ≤ nI i := nI_ge (b := 16) hl (by decide)
      simp only [if_neg h5, at_37 (show i < 16 by omega), bnd_ok, gd_nI (show i < 16 by omega) (show 16 < 2 ^ 31 by decide), nm_ok, nI_1]
  · have : i = 16 := by omega
    subst this
    exact Or.inr ⟨t, by rw [if_pos (show (16 : Int32) ≤ nI 16 by decide)], h1, h2⟩
theorem cy_38_21 {σ : St} : ∃ σ', f_X10_copy__38_21 σ = some (0, σ') ∧ (∀ p, p ≠ 21 → σ' p = σ p) ∧ ∀ j, j < 5 → σ' 21 j = σ 38 j := by
  unfold f_X10_copy__38_21
  refine lq1_run (P := fun o => ∃ σ', o = some (0, σ') ∧ (∀ p, p ≠ 21 → σ' p = σ p) ∧ ∀ j, j < 5 → σ' 21 j = σ 38 j) (fun i t y => y = nI i ∧ (∀ p, p ≠ 21 → t p = σ p) ∧ ∀ j, j < i → t 21 j = σ 38 j) 5 ?_ 100000 0 σ 0 (Nat.zero_le _) (by omega) ⟨rfl, fun _ _ => rfl, fun j hj => by omega⟩
  rintro i t y hi ⟨rfl, h1, h2⟩ k
  rcases Nat.lt_or_ge i 5 with hl | hl
  · refine Or.inl ⟨hl, ps t 21 (nI i) (t 38 i), nI (i + 1), ⟨rfl, fun p hp => (ps_ne hp).trans (h1 p hp), fun j hj => ?_⟩, ?_⟩
    · by_cases e : j = i
      · subst e; rw [ps_same (by omega), h1 38 (by decide)]
      · rw [ps_nk (by omega) (by omega)]; exact h2 j (by omega)
    · have h5 : ¬ (5 : Int32) ≤ nI i := nI_ge (b := 5) hl (by decide)
      simp only [if_neg h5, at_38 (show i < 5 by omega), bnd_ok, gd_nI (show i < 5 by omega) (show 5 < 2 ^ 31 by decide), nm_ok, nI_1]
  · have : i = 5 := by omega
    subst this
    exact Or.inr ⟨t, by rw [if_pos (show (5 : Int32) ≤ nI 5 by decide)], h1, h2⟩
theorem cy_40_20 {σ : St} : ∃ σ', f_X10_copy__40_20 σ = some (0, σ') ∧ (∀ p, p ≠ 20 → σ' p = σ p) ∧ ∀ j, j < 16 → σ' 20 j = σ 40 j := by
  unfold f_X10_copy__40_20
  refine lq1_run (P := fun o => ∃ σ', o = some (0, σ') ∧ (∀ p, p ≠ 20 → σ' p = σ p) ∧ ∀ j, j < 16 → σ' 20 j = σ 40 j) (fun i t y => y = nI i ∧ (∀ p, p ≠ 20 → t p = σ p) ∧ ∀ j, j < i → t 20 j = σ 40 j) 16 ?_ 100000 0 σ 0 (Nat.zero_le _) (by omega) ⟨rfl, fun _ _ => rfl, fun j hj => by omega⟩
  rintro i t y hi ⟨rfl, h1, h2⟩ k
  rcases Nat.lt_or_ge i 16 with hl | hl
  · refine Or.inl ⟨hl, ps t 20 (nI i) (t 40 i), nI (i + 1), ⟨rfl, fun p hp => (ps_ne hp).trans (h1 p hp), fun j hj => ?_⟩, ?_⟩
    · by_cases e : j = i
      · subst e; rw [ps_same (by omega), h1 40 (by decide)]
      · rw [ps_nk (by omega) (by omega)]; exact h2 j (by omega)
    · have h5 : ¬ (16 : Int32) ≤ nI i := nI_ge (b := 16) hl (by decide)
      simp only [if_neg h5, at_40 (show i < 16 by omega), bnd_ok, gd_nI (show i < 16 by omega) (show 16 < 2 ^ 31 by decide), nm_ok, nI_1]
  · have : i = 16 := by omega
    subst this
    exact Or.inr ⟨t, by rw [if_pos (show (16 : Int32) ≤ nI 16 by decide)], h1, h2⟩
theorem cy_41_21 {σ : St} : ∃ σ', f_X10_copy__41_21 σ = some (0, σ') ∧ (∀ p, p ≠ 21 → σ' p = σ p) ∧ ∀ j, j < 5 → σ' 21 j = σ 41 j := by
  unfold f_X10_copy__41_21
  refine lq1_run (P := fun o => ∃ σ', o = some (0, σ') ∧ (∀ p, p ≠ 21 → σ' p = σ p) ∧ ∀ j, j < 5 → σ' 21 j = σ 41 j) (fun i t y => y = nI i ∧ (∀ p, p ≠ 21 → t p = σ p) ∧ ∀ j, j < i → t 21 j = σ 41 j) 5 ?_ 100000 0 σ 0 (Nat.zero_le _) (by omega) ⟨rfl, fun _ _ => rfl, fun j hj => by omega⟩
  rintro i t y hi ⟨rfl, h1, h2⟩ k
  rcases Nat.lt_or_ge i 5 with hl | hl
  · refine Or.inl ⟨hl, ps t 21 (nI i) (t 41 i), nI (i + 1), ⟨rfl, fun p hp => (ps_ne hp).trans (h1 p hp), fun j hj => ?_⟩, ?_⟩
    · by_cases e : j = i
      · subst e; rw [ps_same (by omega), h1 41 (by decide)]
      · rw [ps_nk (by omega) (by omega)]; exact h2 j (by omega)
    · have h5 : ¬ (5 : Int32) ≤ nI i := nI_ge (b := 5) hl (by decide)
      simp only [if_neg h5, at_41 (show i < 5 by omega), bnd_ok, gd_nI (show i < 5 by omega) (show 5 < 2 ^ 31 by decide), nm_ok, nI_1]
  · have : i = 5 := by omega
    subst this
    exact Or.inr ⟨t, by rw [if_pos (show (5 : Int32) ≤ nI 5 by decide)], h1, h2⟩
theorem cy_43_20 {σ : St} : ∃ σ', f_X10_copy__43_20 σ = some (0, σ') ∧ (∀ p, p ≠ 20 → σ' p = σ p) ∧ ∀ j, j < 16 → σ' 20 j = σ 43 j := by
  unfold f_X10_copy__43_20
  refine lq1_run (P := fun o => ∃ σ', o = some (0, σ') ∧ (∀ p, p ≠ 20 → σ' p = σ p) ∧ ∀ j, j < 16 → σ' 20 j = σ 43 j) (fun i t y => y = nI i ∧ (∀ p, p ≠ 20 → t p = σ p) ∧ ∀ j, j < i → t 20 j = σ 43 j) 16 ?_ 100000 0 σ 0 (Nat.zero_le _) (by omega) ⟨rfl, fun _ _ => rfl, fun j hj => by omega⟩
  rintro i t y hi ⟨rfl, h1, h2⟩ k
  rcases Nat.lt_or_ge i 16 with hl | hl
  · refine Or.inl ⟨hl, ps t 20 (nI i) (t 43 i), nI (i + 1), ⟨rfl, fun p hp => (ps_ne hp).trans (h1 p hp), fun j hj => ?_⟩, ?_⟩
    · by_cases e : j = i
      · subst e; rw [ps_same (by omega), h1 43 (by decide)]
      · rw [ps_nk (by omega) (by omega)]; exact h2 j (by omega)
    · have h5 : ¬ (16 : Int32) ≤ nI i := nI_ge (b := 16) hl (by decide)
      simp only [if_neg h5, at_43 (show i < 16 by omega), bnd_ok, gd_nI (show i < 16 by omega) (show 16 < 2 ^ 31 by decide), nm_ok, nI_1]
  · have : i = 16 := by omega
    subst this
    exact Or.inr ⟨t, by rw [if_pos (show (16 : Int32) ≤ nI 16 by decide)], h1, h2⟩
theorem cy_44_21 {σ : St} : ∃ σ', f_X10_copy__44_21 σ = some (0, σ') ∧ (∀ p, p ≠ 21 → σ' p = σ p) ∧ ∀ j, j < 5 → σ' 21 j = σ 44 j := by
  unfold f_X10_copy__44_21
  refine lq1_run (P := fun o => ∃ σ', o = some (0, σ') ∧ (∀ p, p ≠ 21 → σ' p = σ p) ∧ ∀ j, j < 5 → σ' 21 j = σ 44 j) (fun i t y => y = nI i ∧ (∀ p, p ≠ 21 → t p = σ p) ∧ ∀ j, j < i → t 21 j = σ 44 j) 5 ?_ 100000 0 σ 0 (Nat.zero_le _) (by omega) ⟨rfl, fun _ _ => rfl, fun j hj => by omega⟩
  rintro i t y hi ⟨rfl, h1, h2⟩ k
  rcases Nat.lt_or_ge i 5 with hl | hl
  · refine Or.inl ⟨hl, ps t 21 (nI i) (t 44 i), nI (i + 1), ⟨rfl, fun p hp => (ps_ne hp).trans (h1 p hp), fun j hj => ?_⟩, ?_⟩
    · by_cases e : j = i
      · subst e; rw [ps_same (by omega), h1 44 (by decide)]
      · rw [ps_nk (by omega) (by omega)]; exact h2 j (by omega)
    · have h5 : ¬ (5 : Int32) ≤ nI i := nI_ge (b := 5) hl (by decide)
      simp only [if_neg h5, at_44 (show i < 5 by omega), bnd_ok, gd_nI (show i < 5 by omega) (show 5 < 2 ^ 31 by decide), nm_ok, nI_1]
  · have : i = 5 := by omega
    subst this
    exact Or.inr ⟨t, by rw [if_pos (show (5 : Int32) ≤ nI 5 by decide)], h1, h2⟩
theorem cy_46_20 {σ : St} : ∃ σ', f_X10_copy__46_20 σ = some (0, σ') ∧ (∀ p, p ≠ 20 → σ' p = σ p) ∧ ∀ j, j < 16 → σ' 20 j = σ 46 j := by
  unfold f_X10_copy__46_20
  refine lq1_run (P := fun o => ∃ σ', o = some (0, σ') ∧ (∀ p, p ≠ 20 → σ' p = σ p) ∧ ∀ j, j < 16 → σ' 20 j = σ 46 j) (fun i t y => y = nI i ∧ (∀ p, p ≠ 20 → t p = σ p) ∧ ∀ j, j < i → t 20 j = σ 46 j) 16 ?_ 100000 0 σ 0 (Nat.zero_le _) (by omega) ⟨rfl, fun _ _ => rfl, fun j hj => by omega⟩
  rintro i t y hi ⟨rfl, h1, h2⟩ k
  rcases Nat.lt_or_ge i 16 with hl | hl
  · refine Or.inl ⟨hl, ps t 20 (nI i) (t 46 i), nI (i + 1), ⟨rfl, fun p hp => (ps_ne hp).trans (h1 p hp), fun j hj => ?_⟩, ?_⟩
    · by_cases e : j = i
      · subst e; rw [ps_same (by omega), h1 46 (by decide)]
      · rw [ps_nk (by omega) (by omega)]; exact h2 j (by omega)
    · have h5 : ¬ (16 : Int32) ≤ nI i := nI_ge (b := 16) hl (by decide)
      simp only [if_neg h5, at_46 (show i < 16 by omega), bnd_ok, gd_nI (show i < 16 by omega) (show 16 < 2 ^ 31 by decide), nm_ok, nI_1]
  · have : i = 16 := by omega
    subst this
    exact Or.inr ⟨t, by rw [if_pos (show (16 : Int32) ≤ nI 16 by decide)], h1, h2⟩
theorem cy_47_21 {σ : St} : ∃ σ', f_X10_copy__47_21 σ = some (0, σ') ∧ (∀ p, p ≠ 21 → σ' p = σ p) ∧ ∀ j, j < 5 → σ' 21 j = σ 47 j := by
  unfold f_X10_copy__47_21
  refine lq1_run (P := fun o => ∃ σ', o = some (0, σ') ∧ (∀ p, p ≠ 21 → σ' p = σ p) ∧ ∀ j, j < 5 → σ' 21 j = σ 47 j) (fun i t y => y = nI i ∧ (∀ p, p ≠ 21 → t p = σ p) ∧ ∀ j, j < i → t 21 j = σ 47 j) 5 ?_ 100000 0 σ 0 (Nat.zero_le _) (by omega) ⟨rfl, fun _ _ => rfl, fun j hj => by omega⟩
  rintro i t y hi ⟨rfl, h1, h2⟩ k
  rcases Nat.lt_or_ge i 5 with hl | hl
  · refine Or.inl ⟨hl, ps t 21 (nI i) (t 47 i), nI (i + 1), ⟨rfl, fun p hp => (ps_ne hp).trans (h1 p hp), fun j hj => ?_⟩, ?_⟩
    · by_cases e : j = i
      · subst e; rw [ps_same (by omega), h1 47 (by decide)]
      · rw [ps_nk (by omega) (by omega)]; exact h2 j (by omega)
    · have h5 : ¬ (5 : Int32) ≤ nI i := nI_ge (b := 5) hl (by decide)
      simp only [if_neg h5, at_47 (show i < 5 by omega), bnd_ok, gd_nI (show i < 5 by omega) (show 5 < 2 ^ 31 by decide), nm_ok, nI_1]
  · have : i = 5 := by omega
    subst this
    exact Or.inr ⟨t, by rw [if_pos (show (5 : Int32) ≤ nI 5 by decide)], h1, h2⟩
theorem cy_20_51 {σ : St} : ∃ σ', f_X10_copy__20_51 σ = some (0, σ') ∧ (∀ p, p ≠ 51 → σ' p = σ p) ∧ ∀ j, j < 16 → σ' 51 j = σ 20 j := by
  unfold f_X10_copy__20_51
  refine lq1_run (P := fun o => ∃ σ', o = some (0, σ') ∧ (∀ p, p ≠ 51 → σ' p = σ p) ∧ ∀ j, j < 16 → σ' 51 j = σ 20 j) (fun i t y => y = nI i ∧ (∀ p, p ≠ 51 → t p = σ p) ∧ ∀ j, j < i → t 51 j = σ 20 j) 16 ?_ 100000 0 σ 0 (Nat.zero_le _) (by omega) ⟨rfl, fun _ _ => rfl, fun j hj => by omega⟩
  rintro i t y hi ⟨rfl, h1, h2⟩ k
  rcases Nat.lt_or_ge i 16 with hl | hl
  · refine Or.inl ⟨hl, ps t 51 (nI i) (t 20 i), nI (i + 1), ⟨rfl, fun p hp => (ps_ne hp).trans (h1 p hp), fun j hj => ?_⟩, ?_⟩
    · by_cases e : j = i
      · subst e; rw [ps_same (by omega), h1 20 (by decide)]
      · rw [ps_nk (by omega) (by omega)]; exact h2 j (by omega)
    · have h5 : ¬ (16 : Int32) ≤ nI i := nI_ge (b := 16) hl (by decide)
      simp only [if_neg h5, at_20 (show i < 16 by omega), bnd_ok, gd_nI (show i < 16 by omega) (show 16 < 2 ^ 31 by decide), nm_ok, nI_1]
  · have : i = 16 := by omega
    subst this
    exact Or.inr ⟨t, by rw [if_pos (show (16 : Int32) ≤ nI 16 by decide)], h1, h2⟩
theorem cy_21_52 {σ : St} : ∃ σ', f_X10_copy__21_52 σ = some (0, σ') ∧ (∀ p, p ≠ 52 → σ' p = σ p) ∧ ∀ j, j < 5 → σ' 52 j = σ 21 j := by
  unfold f_X10_copy__21_52
  refine lq1_run (P := fun o => ∃ σ', o = some (0, σ') ∧ (∀ p, p ≠ 52 → σ' p = σ p) ∧ ∀ j, j < 5 → σ' 52 j = σ 21 j) (fun i t y => y = nI i ∧ (∀ p, p ≠ 52 → t p = σ p) ∧ ∀ j, j < i → t 52 j = σ 21 j) 5 ?_ 100000 0 σ 0 (Nat.zero_le _) (by omega) ⟨rfl, fun _ _ => rfl, fun j hj => by omega⟩
  rintro i t y hi ⟨rfl, h1, h2⟩ k
  rcases Nat.lt_or_ge i 5 with hl | hl
  · refine Or.inl ⟨hl, ps t 52 (nI i) (t 21 i), nI (i + 1), ⟨rfl, fun p hp => (ps_ne hp).trans (h1 p hp), fun j hj => ?_⟩, ?_⟩
    · by_cases e : j = i
      · subst e; rw [ps_same (by omega), h1 21 (by decide)]
      · rw [ps_nk (by omega) (by omega)]; exact h2 j (by omega)
    · have h5 : ¬ (5 : Int32) ≤ nI i := nI_ge (b := 5) hl (by decide)
      simp only [if_neg h5, at_21 (show i < 5 by omega), bnd_ok, gd_nI (show i < 5 by omega) (show 5 < 2 ^ 31 by decide), nm_ok, nI_1]
  · have : i = 5 := by omega
    subst this
    exact Or.inr ⟨t, by rw [if_pos (show (5 : Int32) ≤ nI 5 by decide)], h1, h2⟩
theorem cy_20_54 {σ : St} : ∃ σ', f_X10_copy__20_54 σ = some (0, σ') ∧ (∀ p, p ≠ 54 → σ' p = σ p) ∧ ∀ j, j < 16 → σ' 54 j = σ 20 j := by
  unfold f_X10_copy__20_54
  refine lq1_run (P := fun o => ∃ σ', o = some (0, σ') ∧ (∀ p, p ≠ 54 → σ' p = σ p) ∧ ∀ j, j < 16 → σ' 54 j = σ 20 j) (fun i t y => y = nI i ∧ (∀ p, p ≠ 54 → t p = σ p) ∧ ∀ j, j < i → t 54 j = σ 20 j) 16 ?_ 100000 0 σ 0 (Nat.zero_le _) (by omega) ⟨rfl, fun _ _ => rfl, fun j hj => by omega⟩
  rintro i t y hi ⟨rfl, h1, h2⟩ k
  rcases Nat.lt_or_ge i 16 with hl | hl
  · refine Or.inl ⟨hl, ps t 54 (nI i) (t 20 i), nI (i + 1), ⟨rfl, fun p hp => (ps_ne hp).trans (h1 p hp), fun j hj => ?_⟩, ?_⟩
    · by_cases e : j = i
      · subst e; rw [ps_same (by omega), h1 20 (by decide)]
      · rw [ps_nk (by omega) (by omega)]; exact h2 j (by omega)
    · have h5 : ¬ (16 : Int32) ≤ nI i := nI_ge (b := 16) hl (by decide)
      simp only [if_neg h5, at_20 (show i < 16 by omega), bnd_ok, gd_nI (show i < 16 by omega) (show 16 < 2 ^ 31 by decide), nm_ok, nI_1]
  · have : i = 16 := by omega
    subst this
    exact Or.inr ⟨t, by rw [if_pos (show (16 : Int32) ≤ nI 16 by decide)], h1, h2⟩
theorem cy_21_55 {σ : St} : ∃ σ', f_X10_copy__21_55 σ = some (0, σ') ∧ (∀ p, p ≠ 55 → σ' p = σ p) ∧ ∀ j, j < 5 → σ' 55 j = σ 21 j := by
  unfold f_X10_copy__21_55
  refine lq1_run (P := fun o => ∃ σ', o = some (0, σ') ∧ (∀ p, p ≠ 55 → σ' p = σ p) ∧ ∀ j, j < 5 → σ' 55 j = σ 21 j) (fun i t y => y = nI i ∧ (∀ p, p ≠ 55 → t p = σ p) ∧ ∀ j, j < i → t 55 j = σ 21 j) 5 ?_ 100000 0 σ 0 (Nat.zero_le _) (by omega) ⟨rfl, fun _ _ => rfl, fun j hj => by omega⟩
  rintro i t y hi ⟨rfl, h1, h2⟩ k
  rcases Nat.lt_or_ge i 5 with hl | hl
  · refine Or.inl ⟨hl, ps t 55 (nI i) (t 21 i), nI (i + 1), ⟨rfl, fun p hp => (ps_ne hp).trans (h1 p hp), fun j hj => ?_⟩, ?_⟩
    · by_cases e : j = i
      · subst e; rw [ps_same (by omega), h1 21 (by decide)]
      · rw [ps_nk (by omega) (by omega)]; exact h2 j (by omega)
    · have h5 : ¬ (5 : Int32) ≤ nI i := nI_ge (b := 5) hl (by decide)
      simp only [if_neg h5, at_21 (show i < 5 by omega), bnd_ok, gd_nI (show i < 5 by omega) (show 5 < 2 ^ 31 by decide), nm_ok, nI_1]
  · have : i = 5 := by omega
    subst this
    exact Or.inr ⟨t, by rw [if_pos (show (5 : Int32) ≤ nI 5 by decide)], h1, h2⟩
theorem cy_51_20 {σ : St} : ∃ σ', f_X10_copy__51_20 σ = some (0, σ') ∧ (∀ p, p ≠ 20 → σ' p = σ p) ∧ ∀ j, j < 16 → σ' 20 j = σ 51 j := by
  unfold f_X10_copy__51_20
  refine lq1_run (P := fun o => ∃ σ', o = some (0, σ') ∧ (∀ p, p ≠ 20 → σ' p = σ p) ∧ ∀ j, j < 16 → σ' 20 j = σ 51 j) (fun i t y => y = nI i ∧ (∀ p, p ≠ 20 → t p = σ p) ∧ ∀ j, j < i → t 20 j = σ 51 j) 16 ?_ 100000 0 σ 0 (Nat.zero_le _) (by omega) ⟨rfl, fun _ _ => rfl, fun j hj => by omega⟩
  rintro i t y hi ⟨rfl, h1, h2⟩ k
  rcases Nat.lt_or_ge i 16 with hl | hl
  · refine Or.inl ⟨hl, ps t 20 (nI i) (t 51 i), nI (i + 1), ⟨rfl, fun p hp => (ps_ne hp).trans (h1 p hp), fun j hj => ?_⟩, ?_⟩
    · by_cases e : j = i
      · subst e; rw [ps_same (by omega), h1 51 (by decide)]
      · rw [ps_nk (by omega) (by omega)]; exact h2 j (by omega)
    · have h5 : ¬ (16 : Int32) ≤ nI i := nI_ge (b := 16) hl (by decide)
      simp only [if_neg h5, at_51 (show i < 16 by omega), bnd_ok, gd_nI (show i < 16 by omega) (show 16 < 2 ^ 31 by decide), nm_ok, nI_1]
  · have : i = 16 := by omega
    subst this
    exact Or.inr ⟨t, by rw [if_pos (show (16 : Int32) ≤ nI 16 by decide)], h1, h2⟩
theorem cy_52_21 {σ : St} : ∃ σ', f_X10_copy__52_21 σ = some (0, σ') ∧ (∀ p, p ≠ 21 → σ' p = σ p) ∧ ∀ j, j < 5 → σ' 21 j = σ 52 j := by
  unfold f_X10_copy__52_21
  refine lq1_run (P := fun o => ∃ σ', o = some (0, σ') ∧ (∀ p, p ≠ 21 → σ' p = σ p) ∧ ∀ j, j < 5 → σ' 21 j = σ 52 j) (fun i t y => y = nI i ∧ (∀ p, p ≠ 21 → t p = σ p) ∧ ∀ j, j < i → t 21 j = σ 52 j) 5 ?_ 100000 0 σ 0 (Nat.zero_le _) (by omega) ⟨rfl, fun _ _ => rfl, fun j hj => by omega⟩
  rintro i t y hi ⟨rfl, h1, h2⟩ k
  rcases Nat.lt_or_ge i 5 with hl | hl
  · refine Or.inl ⟨hl, ps t 21 (nI i) (t 52 i), nI (i + 1), ⟨rfl, fun p hp => (ps_ne hp).trans (h1 p hp), fun j hj => ?_⟩, ?_⟩
    · by_cases e : j = i
      · subst e; rw [ps_same (by omega), h1 52 (by decide)]
      · rw [ps_nk (by omega) (by omega)]; exact h2 j (by omega)
    · have h5 : ¬ (5 : Int32) ≤ nI i := nI_ge (b := 5) hl (by decide)
      simp only [if_neg h5, at_52 (show i < 5 by omega), bnd_ok, gd_nI (show i < 5 by omega) (show 5 < 2 ^ 31 by decide), nm_ok, nI_1]
  · have : i = 5 := by omega
    subst this
    exact Or.inr ⟨t, by rw [if_pos (show (5 : Int32) ≤ nI 5 by decide)], h1, h2⟩
theorem cy_54_20 {σ : St} : ∃ σ', f_X10_copy__54_20 σ = some (0, σ') ∧ (∀ p, p ≠ 20 → σ' p = σ p) ∧ ∀ j, j < 16 → σ' 20 j = σ 54 j := by
  unfold f_X10_copy__54_20
  refine lq1_run (P := fun o => ∃ σ', o = some (0, σ') ∧ (∀ p, p ≠ 20 → σ' p = σ p) ∧ ∀ j, j < 16 → σ' 20 j = σ 54 j) (fun i t y => y = nI i ∧ (∀ p, p ≠ 20 → t p = σ p) ∧ ∀ j, j < i → t 20 j = σ 54 j) 16 ?_ 100000 0 σ 0 (Nat.zero_le _) (by omega) ⟨rfl, fun _ _ => rfl, fun j hj => by omega⟩
  rintro i t y hi ⟨rfl, h1, h2⟩ k
  rcases Nat.lt_or_ge i 16 with hl | hl
  · refine Or.inl ⟨hl, ps t 20 (nI i) (t 54 i), nI (i + 1), ⟨rfl, fun p hp => (ps_ne hp).trans (h1 p hp), fun j hj => ?_⟩, ?_⟩
    · by_cases e : j = i
      · subst e; rw [ps_same (by omega), h1 54 (by decide)]
      · rw [ps_nk (by omega) (by omega)]; exact h2 j (by omega)
    · have h5 : ¬ (16 : Int32) ≤ nI i := nI_ge (b := 16) hl (by decide)
      simp only [if_neg h5, at_54 (show i < 16 by omega), bnd_ok, gd_nI (show i < 16 by omega) (show 16 < 2 ^ 31 by decide), nm_ok, nI_1]
  · have : i = 16 := by omega
    subst this
    exact Or.inr ⟨t, by rw [if_pos (show (16 : Int32) ≤ nI 16 by decide)], h1, h2⟩
theorem cy_55_21 {σ : St} : ∃ σ', f_X10_copy__55_21 σ = some (0, σ') ∧ (∀ p, p ≠ 21 → σ' p = σ p) ∧ ∀ j, j < 5 → σ' 21 j = σ 55 j := by
  unfold f_X10_copy__55_21
  refine lq1_run (P := fun o => ∃ σ', o = some (0, σ') ∧ (∀ p, p ≠ 21 → σ' p = σ p) ∧ ∀ j, j < 5 → σ' 21 j = σ 55 j) (fun i t y => y = nI i ∧ (∀ p, p ≠ 21 → t p = σ p) ∧ ∀ j, j < i → t 21 j = σ 55 j) 5 ?_ 100000 0 σ 0 (Nat.zero_le _) (by omega) ⟨rfl, fun _ _ => rfl, fun j hj => by omega⟩
  rintro i t y hi ⟨rfl, h1, h2⟩ k
  rcases Nat.lt_or_ge i 5 with hl | hl
  · refine Or.inl ⟨hl, ps t 21 (nI i) (t 55 i), nI (i + 1), ⟨rfl, fun p hp => (ps_ne hp).trans (h1 p hp), fun j hj => ?_⟩, ?_⟩
    · by_cases e : j = i
      · subst e; rw [ps_same (by omega), h1 55 (by decide)]
      · rw [ps_nk (by omega) (by omega)]; exact h2 j (by omega)
    · have h5 : ¬ (5 : Int32) ≤ nI i := nI_ge (b := 5) hl (by decide)
      simp only [if_neg h5, at_55 (show i < 5 by omega), bnd_ok, gd_nI (show i < 5 by omega) (show 5 < 2 ^ 31 by decide), nm_ok, nI_1]
  · have : i = 5 := by omega
    subst this
    exact Or.inr ⟨t, by rw [if_pos (show (5 : Int32) ≤ nI 5 by decide)], h1, h2⟩
theorem co_24_19 {σ : St} : ∃ σ', f_X9_copyOf__24_19 σ = some (0, σ') ∧ (∀ p, p ≠ 24 → p ≠ 25 → p ≠ 26 → σ' p = σ p) ∧ ∀ g, SNt σ 19 g → SNt σ' 24 g := by
  obtain ⟨s1, e1, h1, g1⟩ := cy_20_25 (σ := σ)
  obtain ⟨s2, e2, h2, g2⟩ := cy_21_26 (σ := s1)
  refine ⟨pf s2 24 2 (s2 19 2), by simp only [f_X9_copyOf__24_19, e1, e2, bnd_ok, nm_ok], fun p a b c => ?_, fun g hg => ⟨?_, fun h hh => ?_, fun n hn => ?_⟩⟩
  · rw [pf_ne a, h2 p c, h1 p b]
  · rw [pf_same, h2 19 (by decide), h1 19 (by decide)]; exact hg.1
  · rw [pf_ne (by decide), h2 25 (by decide), g1 h hh]; exact hg.2.1 h hh
  · rw [pf_ne (by decide), g2 n hn, h1 21 (by decide)]; exact hg.2.2 n hn
theorem co_27_19 {σ : St} : ∃ σ', f_X9_copyOf__27_19 σ = some (0, σ') ∧ (∀ p, p ≠ 27 → p ≠ 28 → p ≠ 29 → σ' p = σ p) ∧ ∀ g, SNt σ 19 g → SNt σ' 27 g := by
  obtain ⟨s1, e1, h1, g1⟩ := cy_20_28 (σ := σ)
  obtain ⟨s2, e2, h2, g2⟩ := cy_21_29 (σ := s1)
  refine ⟨pf s2 27 2 (s2 19 2), by simp only [f_X9_copyOf__27_19, e1, e2, bnd_ok, nm_ok], fun p a b c => ?_, fun g hg => ⟨?_, fun h hh => ?_, fun n hn => ?_⟩⟩
  · rw [pf_ne a, h2 p c, h1 p b]
  · rw [pf_same, h2 19 (by decide), h1 19 (by decide)]; exact hg.1
  · rw [pf_ne (by decide), h2 28 (by decide), g1 h hh]; exact hg.2.1 h hh
  · rw [pf_ne (by decide), g2 n hn, h1 21 (by decide)]; exact hg.2.2 n hn
theorem co_30_19 {σ : St} : ∃ σ', f_X9_copyOf__30_19 σ = some (0, σ') ∧ (∀ p, p ≠ 30 → p ≠ 31 → p ≠ 32 → σ' p = σ p) ∧ ∀ g, SNt σ 19 g → SNt σ' 30 g := by
  obtain ⟨s1, e1, h1, g1⟩ := cy_20_31 (σ := σ)
  obtain ⟨s2, e2, h2, g2⟩ := cy_21_32 (σ := s1)
  refine ⟨pf s2 30 2 (s2 19 2), by simp only [f_X9_copyOf__30_19, e1, e2, bnd_ok, nm_ok], fun p a b c => ?_, fun g hg => ⟨?_, fun h hh => ?_, fun n hn => ?_⟩⟩
  · rw [pf_ne a, h2 p c, h1 p b]
  · rw [pf_same, h2 19 (by decide), h1 19 (by decide)]; exact hg.1
  · rw [pf_ne (by decide), h2 31 (by decide), g1 h hh]; exact hg.2.1 h hh
  · rw [pf_ne (by decide), g2 n hn, h1 21 (by decide)]; exact hg.2.2 n hn
theorem co_33_19 {σ : St} : ∃ σ', f_X9_copyOf__33_19 σ = some (0, σ') ∧ (∀ p, p ≠ 33 → p ≠ 34 → p ≠ 35 → σ' p = σ p) ∧ ∀ g, SNt σ 19 g → SNt σ' 33 g := by
  obtain ⟨s1, e1, h1, g1⟩ := cy_20_34 (σ := σ)
  obtain ⟨s2, e2, h2, g2⟩ := cy_21_35 (σ := s1)
  refine ⟨pf s2 33 2 (s2 19 2), by simp only [f_X9_copyOf__33_19, e1, e2, bnd_ok, nm_ok], fun p a b c => ?_, fun g hg => ⟨?_, fun h hh => ?_, fun n hn => ?_⟩⟩
  · rw [pf_ne a, h2 p c, h1 p b]
  · rw [pf_same, h2 19 (by decide), h1 19 (by decide)]; exact hg.1
  · rw [pf_ne (by decide), h2 34 (by decide), g1 h hh]; exact hg.2.1 h hh
  · rw [pf_ne (by decide), g2 n hn, h1 21 (by decide)]; exact hg.2.2 n hn
theorem co_36_19 {σ : St} : ∃ σ', f_X9_copyOf__36_19 σ = some (0, σ') ∧ (∀ p, p ≠ 36 → p ≠ 37 → p ≠ 38 → σ' p = σ p) ∧ ∀ g, SNt σ 19 g → SNt σ' 36 g := by
  obtain ⟨s1, e1, h1, g1⟩ := cy_20_37 (σ := σ)
  obtain ⟨s2, e2, h2, g2⟩ := cy_21_38 (σ := s1)
  refine ⟨pf s2 36 2 (s2 19 2), by simp only [f_X9_copyOf__36_19, e1, e2, bnd_ok, nm_ok], fun p a b c => ?_, fun g hg => ⟨?_, fun h hh => ?_, fun n hn => ?_⟩⟩
  · rw [pf_ne a, h2 p c, h1 p b]
  · rw [pf_same, h2 19 (by decide), h1 19 (by decide)]; exact hg.1
  · rw [pf_ne (by decide), h2 37 (by decide), g1 h hh]; exact hg.2.1 h hh
  · rw [pf_ne (by decide), g2 n hn, h1 21 (by decide)]; exact hg.2.2 n hn
theorem co_39_19 {σ : St} : ∃ σ', f_X9_copyOf__39_19 σ = some (0, σ') ∧ (∀ p, p ≠ 39 → p ≠ 40 → p ≠ 41 → σ' p = σ p) ∧ ∀ g, SNt σ 19 g → SNt σ' 39 g := by
  obtain ⟨s1, e1, h1, g1⟩ := cy_20_40 (σ := σ)
  obtain ⟨s2, e2, h2, g2⟩ := cy_21_41 (σ := s1)
  refine ⟨pf s2 39 2 (s2 19 2), by simp only [f_X9_copyOf__39_19, e1, e2, bnd_ok, nm_ok], fun p a b c => ?_, fun g hg => ⟨?_, fun h hh => ?_, fun n hn => ?_⟩⟩
  · rw [pf_ne a, h2 p c, h1 p b]
  · rw [pf_same, h2 19 (by decide), h1 19 (by decide)]; exact hg.1
  · rw [pf_ne (by decide), h2 40 (by decide), g1 h hh]; exact hg.2.1 h hh
  · rw [pf_ne (by decide), g2 n hn, h1 21 (by decide)]; exact hg.2.2 n hn
theorem co_42_19 {σ : St} : ∃ σ', f_X9_copyOf__42_19 σ = some (0, σ') ∧ (∀ p, p ≠ 42 → p ≠ 43 → p ≠ 44 → σ' p = σ p) ∧ ∀ g, SNt σ 19 g → SNt σ' 42 g := by
  obtain ⟨s1, e1, h1, g1⟩ := cy_20_43 (σ := σ)
  obtain ⟨s2, e2, h2, g2⟩ := cy_21_44 (σ := s1)
  refine ⟨pf s2 42 2 (s2 19 2), by simp only [f_X9_copyOf__42_19, e1, e2, bnd_ok, nm_ok], fun p a b c => ?_, fun g hg => ⟨?_, fun h hh => ?_, fun n hn => ?_⟩⟩
  · rw [pf_ne a, h2 p c, h1 p b]
  · rw [pf_same, h2 19 (by decide), h1 19 (by decide)]; exact hg.1
  · rw [pf_ne (by decide), h2 43 (by decide), g1 h hh]; exact hg.2.1 h hh
  · rw [pf_ne (by decide), g2 n hn, h1 21 (by decide)]; exact hg.2.2 n hn
theorem co_45_19 {σ : St} : ∃ σ', f_X9_copyOf__45_19 σ = some (0, σ') ∧ (∀ p, p ≠ 45 → p ≠ 46 → p ≠ 47 → σ' p = σ p) ∧ ∀ g, SNt σ 19 g → SNt σ' 45 g := by
  obtain ⟨s1, e1, h1, g1⟩ := cy_20_46 (σ := σ)
  obtain ⟨s2, e2, h2, g2⟩ := cy_21_47 (σ := s1)
  refine ⟨pf s2 45 2 (s2 19 2), by simp only [f_X9_copyOf__45_19, e1, e2, bnd_ok, nm_ok], fun p a b c => ?_, fun g hg => ⟨?_, fun h hh => ?_, fun n hn => ?_⟩⟩
  · rw [pf_ne a, h2 p c, h1 p b]
  · rw [pf_same, h2 19 (by decide), h1 19 (by decide)]; exact hg.1
  · rw [pf_ne (by decide), h2 46 (by decide), g1 h hh]; exact hg.2.1 h hh
  · rw [pf_ne (by decide), g2 n hn, h1 21 (by decide)]; exact hg.2.2 n hn
theorem co_19_24 {σ : St} : ∃ σ', f_X9_copyOf__19_24 σ = some (0, σ') ∧ (∀ p, p ≠ 19 → p ≠ 20 → p ≠ 21 → σ' p = σ p) ∧ ∀ g, SNt σ 24 g → SNt σ' 19 g := by
  obtain ⟨s1, e1, h1, g1⟩ := cy_25_20 (σ := σ)
  obtain ⟨s2, e2, h2, g2⟩ := cy_26_21 (σ := s1)
  refine ⟨pf s2 19 2 (s2 24 2), by simp only [f_X9_copyOf__19_24, e1, e2, bnd_ok, nm_ok], fun p a b c => ?_, fun g hg => ⟨?_, fun h hh => ?_, fun n hn => ?_⟩⟩
  · rw [pf_ne a, h2 p c, h1 p b]
  · rw [pf_same, h2 24 (by decide), h1 24 (by decide)]; exact hg.1
  · rw [pf_ne (by decide), h2 20 (by decide), g1 h hh]; exact hg.2.1 h hh
  · rw [pf_ne (by decide), g2 n hn, h1 26 (by decide)]; exact hg.2.2 n hn
theorem co_19_27 {σ : St} : ∃ σ', f_X9_copyOf__19_27 σ = some (0, σ') ∧ (∀ p, p ≠ 19 → p ≠ 20 → p ≠ 21 → σ' p = σ p) ∧ ∀ g, SNt σ 27 g → SNt σ' 19 g := by
  obtain ⟨s1, e1, h1, g1⟩ := cy_28_20 (σ := σ)
  obtain ⟨s2, e2, h2, g2⟩ := cy_29_21 (σ := s1)
  refine ⟨pf s2 19 2 (s2 27 2), by simp only [f_X9_copyOf__19_27, e1, e2, bnd_ok, nm_ok], fun p a b c => ?_, fun g hg => ⟨?_, fun h hh => ?_, fun n hn => ?_⟩⟩
  · rw [pf_ne a, h2 p c, h1 p b]
  · rw [pf_same, h2 27 (by decide), h1 27 (by decide)]; exact hg.1
  · rw [pf_ne (by decide), h2 20 (by decide), g1 h hh]; exact hg.2.1 h hh
  · rw [pf_ne (by decide), g2 n hn, h1 29 (by decide)]; exact hg.2.2 n hn
theorem co_19_30 {σ : St} : ∃ σ', f_X9_copyOf__19_30 σ = some (0, σ') ∧ (∀ p, p ≠ 19 → p ≠ 20 → p ≠ 21 → σ' p = σ p) ∧ ∀ g, SNt σ 30 g → SNt σ' 19 g := by
  obtain ⟨s1, e1, h1, g1⟩ := cy_31_20 (σ := σ)
  obtain ⟨s2, e2, h2, g2⟩ := cy_32_21 (σ := s1)
  refine ⟨pf s2 19 2 (s2 30 2), by simp only [f_X9_copyOf__19_30, e1, e2, bnd_ok, nm_ok], fun p a b c => ?_, fun g hg => ⟨?_, fun h hh => ?_, fun n hn => ?_⟩⟩
  · rw [pf_ne a, h2 p c, h1 p b]
  · rw [pf_same, h2 30 (by decide), h1 30 (by decide)]; exact hg.1
  · rw [pf_ne (by decide), h2 20 (by decide), g1 h hh]; exact hg.2.1 h hh
  · rw [pf_ne (by decide), g2 n hn, h1 32 (by decide)]; exact hg.2.2 n hn
theorem co_19_33 {σ : St} : ∃ σ', f_X9_copyOf__19_33 σ = some (0, σ') ∧ (∀ p, p ≠ 19 → p ≠ 20 → p ≠ 21 → σ' p = σ p) ∧ ∀ g, SNt σ 33 g → SNt σ' 19 g := by
  obtain ⟨s1, e1, h1, g1⟩ := cy_34_20 (σ := σ)
  obtain ⟨s2, e2, h2, g2⟩ := cy_35_21 (σ := s1)
  refine ⟨pf s2 19 2 (s2 33 2), by simp only [f_X9_copyOf__19_33, e1, e2, bnd_ok, nm_ok], fun p a b c => ?_, fun g hg => ⟨?_, fun h hh => ?_, fun n hn => ?_⟩⟩
  · rw [pf_ne a, h2 p c, h1 p b]
  · rw [pf_same, h2 33 (by decide), h1 33 (by decide)]; exact hg.1
  · rw [pf_ne (by decide), h2 20 (by decide), g1 h hh]; exact hg.2.1 h hh
  · rw [pf_ne (by decide), g2 n hn, h1 35 (by decide)]; exact hg.2.2 n hn
theorem co_19_36 {σ : St} : ∃ σ', f_X9_copyOf__19_36 σ = some (0, σ') ∧ (∀ p, p ≠ 19 → p ≠ 20 → p ≠ 21 → σ' p = σ p) ∧ ∀ g, SNt σ 36 g → SNt σ' 19 g := by
  obtain ⟨s1, e1, h1, g1⟩ := cy_37_20 (σ := σ)
  obtain ⟨s2, e2, h2, g2⟩ := cy_38_21 (σ := s1)
  refine ⟨pf s2 19 2 (s2 36 2), by simp only [f_X9_copyOf__19_36, e1, e2, bnd_ok, nm_ok], fun p a b c => ?_, fun g hg => ⟨?_, fun h hh => ?_, fun n hn => ?_⟩⟩
  · rw [pf_ne a, h2 p c, h1 p b]
  · rw [pf_same, h2 36 (by decide), h1 36 (by decide)]; exact hg.1
  · rw [pf_ne (by decide), h2 20 (by decide), g1 h hh]; exact hg.2.1 h hh
  · rw [pf_ne (by decide), g2 n hn, h1 38 (by decide)]; exact hg.2.2 n hn
theorem co_19_39 {σ : St} : ∃ σ', f_X9_copyOf__19_39 σ = some (0, σ') ∧ (∀ p, p ≠ 19 → p ≠ 20 → p ≠ 21 → σ' p = σ p) ∧ ∀ g, SNt σ 39 g → SNt σ' 19 g := by
  obtain ⟨s1, e1, h1, g1⟩ := cy_40_20 (σ := σ)
  obtain ⟨s2, e2, h2, g2⟩ := cy_41_21 (σ := s1)
  refine ⟨pf s2 19 2 (s2 39 2), by simp only [f_X9_copyOf__19_39, e1, e2, bnd_ok, nm_ok], fun p a b c => ?_, fun g hg => ⟨?_, fun h hh => ?_, fun n hn => ?_⟩⟩
  · rw [pf_ne a, h2 p c, h1 p b]
  · rw [pf_same, h2 39 (by decide), h1 39 (by decide)]; exact hg.1
  · rw [pf_ne (by decide), h2 20 (by decide), g1 h hh]; exact hg.2.1 h hh
  · rw [pf_ne (by decide), g2 n hn, h1 41 (by decide)]; exact hg.2.2 n hn
theorem co_19_42 {σ : St} : ∃ σ', f_X9_copyOf__19_42 σ = some (0, σ') ∧ (∀ p, p ≠ 19 → p ≠ 20 → p ≠ 21 → σ' p = σ p) ∧ ∀ g, SNt σ 42 g → SNt σ' 19 g := by
  obtain ⟨s1, e1, h1, g1⟩ := cy_43_20 (σ := σ)
  obtain ⟨s2, e2, h2, g2⟩ := cy_44_21 (σ := s1)
  refine ⟨pf s2 19 2 (s2 42 2), by simp only [f_X9_copyOf__19_42, e1, e2, bnd_ok, nm_ok], fun p a b c => ?_, fun g hg => ⟨?_, fun h hh => ?_, fun n hn => ?_⟩⟩
  · rw [pf_ne a, h2 p c, h1 p b]
  · rw [pf_same, h2 42 (by decide), h1 42 (by decide)]; exact hg.1
  · rw [pf_ne (by decide), h2 20 (by decide), g1 h hh]; exact hg.2.1 h hh
  · rw [pf_ne (by decide), g2 n hn, h1 44 (by decide)]; exact hg.2.2 n hn
theorem co_19_45 {σ : St} : ∃ σ', f_X9_copyOf__19_45 σ = some (0, σ') ∧ (∀ p, p ≠ 19 → p ≠ 20 → p ≠ 21 → σ' p = σ p) ∧ ∀ g, SNt σ 45 g → SNt σ' 19 g := by
  obtain ⟨s1, e1, h1, g1⟩ := cy_46_20 (σ := σ)
  obtain ⟨s2, e2, h2, g2⟩ := cy_47_21 (σ := s1)
  refine ⟨pf s2 19 2 (s2 45 2), by simp only [f_X9_copyOf__19_45, e1, e2, bnd_ok, nm_ok], fun p a b c => ?_, fun g hg => ⟨?_, fun h hh => ?_, fun n hn => ?_⟩⟩
  · rw [pf_ne a, h2 p c, h1 p b]
  · rw [pf_same, h2 45 (by decide), h1 45 (by decide)]; exact hg.1
  · rw [pf_ne (by decide), h2 20 (by decide), g1 h hh]; exact hg.2.1 h hh
  · rw [pf_ne (by decide), g2 n hn, h1 47 (by decide)]; exact hg.2.2 n hn
theorem co_50_19 {σ : St} : ∃ σ', f_X9_copyOf__50_19 σ = some (0, σ') ∧ (∀ p, p ≠ 50 → p ≠ 51 → p ≠ 52 → σ' p = σ p) ∧ ∀ g, SNt σ 19 g → SNt σ' 50 g := by
  obtain ⟨s1, e1, h1, g1⟩ := cy_20_51 (σ := σ)
  obtain ⟨s2, e2, h2, g2⟩ := cy_21_52 (σ := s1)
  refine ⟨pf s2 50 2 (s2 19 2), by simp only [f_X9_copyOf__50_19, e1, e2, bnd_ok, nm_ok], fun p a b c => ?_, fun g hg => ⟨?_, fun h hh => ?_, fun n hn => ?_⟩⟩
  · rw [pf_ne a, h2 p c, h1 p b]
  · rw [pf_same, h2 19 (by decide), h1 19 (by decide)]; exact hg.1
  · rw [pf_ne (by decide), h2 51 (by decide), g1 h hh]; exact hg.2.1 h hh
  · rw [pf_ne (by decide), g2 n hn, h1 21 (by decide)]; exact hg.2.2 n hn
theorem co_53_19 {σ : St} : ∃ σ', f_X9_copyOf__53_19 σ = some (0, σ') ∧ (∀ p, p ≠ 53 → p ≠ 54 → p ≠ 55 → σ' p = σ p) ∧ ∀ g, SNt σ 19 g → SNt σ' 53 g := by
  obtain ⟨s1, e1, h1, g1⟩ := cy_20_54 (σ := σ)
  obtain ⟨s2, e2, h2, g2⟩ := cy_21_55 (σ := s1)
  refine ⟨pf s2 53 2 (s2 19 2), by simp only [f_X9_copyOf__53_19, e1, e2, bnd_ok, nm_ok], fun p a b c => ?_, fun g hg => ⟨?_, fun h hh => ?_, fun n hn => ?_⟩⟩
  · rw [pf_ne a, h2 p c, h1 p b]
  · rw [pf_same, h2 19 (by decide), h1 19 (by decide)]; exact hg.1
  · rw [pf_ne (by decide), h2 54 (by decide), g1 h hh]; exact hg.2.1 h hh
  · rw [pf_ne (by decide), g2 n hn, h1 21 (by decide)]; exact hg.2.2 n hn
theorem co_19_50 {σ : St} : ∃ σ', f_X9_copyOf__19_50 σ = some (0, σ') ∧ (∀ p, p ≠ 19 → p ≠ 20 → p ≠ 21 → σ' p = σ p) ∧ ∀ g, SNt σ 50 g → SNt σ' 19 g := by
  obtain ⟨s1, e1, h1, g1⟩ := cy_51_20 (σ := σ)
  obtain ⟨s2, e2, h2, g2⟩ := cy_52_21 (σ := s1)
  refine ⟨pf s2 19 2 (s2 50 2), by simp only [f_X9_copyOf__19_50, e1, e2, bnd_ok, nm_ok], fun p a b c => ?_, fun g hg => ⟨?_, fun h hh => ?_, fun n hn => ?_⟩⟩
  · rw [pf_ne a, h2 p c, h1 p b]
  · rw [pf_same, h2 50 (by decide), h1 50 (by decide)]; exact hg.1
  · rw [pf_ne (by decide), h2 20 (by decide), g1 h hh]; exact hg.2.1 h hh
  · rw [pf_ne (by decide), g2 n hn, h1 52 (by decide)]; exact hg.2.2 n hn
theorem co_19_53 {σ : St} : ∃ σ', f_X9_copyOf__19_53 σ = some (0, σ') ∧ (∀ p, p ≠ 19 → p ≠ 20 → p ≠ 21 → σ' p = σ p) ∧ ∀ g, SNt σ 53 g → SNt σ' 19 g := by
  obtain ⟨s1, e1, h1, g1⟩ := cy_54_20 (σ := σ)
  obtain ⟨s2, e2, h2, g2⟩ := cy_55_21 (σ := s1)
  refine ⟨pf s2 19 2 (s2 53 2), by simp only [f_X9_copyOf__19_53, e1, e2, bnd_ok, nm_ok], fun p a b c => ?_, fun g hg => ⟨?_, fun h hh => ?_, fun n hn => ?_⟩⟩
  · rw [pf_ne a, h2 p c, h1 p b]
  · rw [pf_same, h2 53 (by decide), h1 53 (by decide)]; exact hg.1
  · rw [pf_ne (by decide), h2 20 (by decide), g1 h hh]; exact hg.2.1 h hh
  · rw [pf_ne (by decide), g2 n hn, h1 55 (by decide)]; exact hg.2.2 n hn
