/-! THE CHECK'S OWN WAY -/
def only14 (τ τ' : St) : Prop := ∀ p, p ≠ 14 → τ' p = τ p
theorem only14.rf {τ : St} : only14 τ τ := fun _ _ => rfl
theorem only14.tr {a b c : St} (h : only14 a b) (h2 : only14 b c) : only14 a c := fun p hp => (h2 p hp).trans (h p hp)
theorem only14.sm {a b : St} (h : only14 a b) : sameM a b := ⟨fun p h1 h2 => h p (by omega), fun j _ => congrFun (h 0 (by decide)) j⟩
def NWs (τ : St) (s : Nat) (sh kn : Nat → Nat) : Prop := τ 14 0 = nI s ∧ (∀ h, h < 16 → τ 14 (1 + h) = nI (sh h)) ∧ ∀ n, n < 5 → τ 14 (17 + n) = nI (kn n)
def ONL (τ : St) (on : Nat) : Prop := τ 0 29 = if on < 5 then nI on else -4
def isOn (on n : Nat) : Bool := decide (5 ≤ on) || decide (n = on)
theorem M_windOf {τ : St} {μ : Mu} (h : PM τ μ) (hw : WP μ) {s : Nat} (hs : s < 2 ^ 31) : f_X11_windOf__0 τ (nI s) = some (nI (wnd μ s), τ) := by
  have hW := mW_pos hw
  have hm : s % mW μ < mW μ := Nat.mod_lt _ (by omega)
  unfold f_X11_windOf__0
  rw [h.2.2.2.2.1, nz_ok (nI_ne0 (by omega) (by omega)), pk_rem hs (by omega) (by omega), gd_nI (by omega) (by decide), nI_clamp (by omega), h.2.2.2.2.2.2.2 _ hm]
  rfl
def bvv (R C x d : Int32) : Int32 :=
  if (x / C + (if d = 3 then 1 else if d = 1 then -1 else 0)) < 0 ∨ R - 1 < (x / C + (if d = 3 then 1 else if d = 1 then -1 else 0)) ∨ ((x - x / C * C) + (if d = 2 then 1 else if d = 4 then -1 else 0)) < 0 ∨ C - 1 < ((x - x / C * C) + (if d = 2 then 1 else if d = 4 then -1 else 0)) then -4
  else (x / C + (if d = 3 then 1 else if d = 1 then -1 else 0)) * C + ((x - x / C * C) + (if d = 2 then 1 else if d = 4 then -1 else 0))
theorem M_beside0 {τ : St} {x d : Int32} (h : ¬ τ 0 1 = 0) : f_X11_beside__0 τ x d = some (bvv (τ 0 0) (τ 0 1) x d, τ) := by
  have key : ∀ a b : Int32, (bnd (f_X11_in τ a 0 (τ 0 0 - 1)) (fun r15 s16 => if r15 = (0 : Int32) then some ((-4 : Int32), s16) else bnd (f_X11_in s16 b (0 : Int32) (s16 0 1 - (1 : Int32))) (fun r17 s18 => if r17 = (0 : Int32) then some ((-4 : Int32), s18) else some (a * s18 0 1 + b, s18)))) = some (if a < 0 ∨ τ 0 0 - 1 < a ∨ b < 0 ∨ τ 0 1 - 1 < b then -4 else a * τ 0 1 + b, τ) := by
    intro a b
    by_cases h1 : a < 0
    · rw [M_in0 (Or.inl h1), if_pos (Or.inl h1)]; rfl
    by_cases h2 : τ 0 0 - 1 < a
    · rw [M_in0 (Or.inr ⟨h1, h2⟩), if_pos (Or.inr (Or.inl h2))]; rfl
    rw [M_in h1 h2, bnd_ok, if_neg (show ¬ (1 : Int32) = 0 by decide)]
    by_cases h3 : b < 0
    · rw [M_in0 (Or.inl h3), if_pos (Or.inr (Or.inr (Or.inl h3)))]; rfl
    by_cases h4 : τ 0 1 - 1 < b
    · rw [M_in0 (Or.inr ⟨h3, h4⟩), if_pos (Or.inr (Or.inr (Or.inr h4)))]; rfl
    rw [M_in h3 h4, bnd_ok, if_neg (show ¬ (1 : Int32) = 0 by decide), if_neg]
    rintro (q | q | q | q)
    · exact h1 q
    · exact h2 q
    · exact h3 q
    · exact h4 q
  unfold f_X11_beside__0 bvv
  simp only [jq0, jq2, jq3, nm_ok, nz_ok h, key]
  by_cases h3 : d = 3
  · subst h3; rfl
  by_cases h1 : d = 1
  · subst h1; rfl
  by_cases h2 : d = 2
  · subst h2; rfl
  by_cases h4 : d = 4
  · subst h4; rfl
  simp only [if_neg h3, if_neg h1, if_neg h2, if_neg h4]
def bsdC (R C h d : Nat) : Int32 :=
  if d = 1 then (if C ≤ h then nI (h - C) else -4)
  else if d = 2 then (if h % C + 1 < C then nI (h + 1) else -4)
  else if d = 3 then (if h + C < R * C then nI (h + C) else -4)
  else (if h % C = 0 then -4 else nI (h - 1))
theorem bvv_all : ∀ R, R < 4 → ∀ C, C < 4 → ∀ h, h < 16 → ∀ d, d < 4 → h < (R + 1) * (C + 1) → bvv (nI (R + 1)) (nI (C + 1)) (nI h) (nI (d + 1)) = bsdC (R + 1) (C + 1) h (d + 1) := by decide +kernel
theorem M_beside {τ : St} {μ : Mu} (hp : PM τ μ) (hw : WP μ) {h d : Nat} (hh : h < mH μ) (h1 : 1 ≤ d) (h4 : d ≤ 4) : f_X11_beside__0 τ (nI h) (nI d) = some ((match bsd μ h d with | none => -4 | some t => nI t), τ) := by
  have hb := mH_pos hw
  have hR := hw.1
  have hC := hw.2.1
  rw [M_beside0 (by rw [hp.2.1]; exact nI_ne0 (by omega) (by omega)), hp.1, hp.2.1]
  have := bvv_all (mR μ - 1) (by omega) (mC μ - 1) (by omega) h (by omega) (d - 1) (by omega) (by rw [Nat.sub_add_cancel hR.1, Nat.sub_add_cancel hC.1]; exact hh)
  rw [Nat.sub_add_cancel hR.1, Nat.sub_add_cancel hC.1, Nat.sub_add_cancel h1] at this
  rw [this]
  unfold bsdC bsd mH
  congr 2
  split
  · split <;> rfl
  · split
    · split <;> rfl
    · split
      · split <;> rfl
      · split <;> rfl
