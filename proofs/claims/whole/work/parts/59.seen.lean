/-! what was seen: began, blew -/
def allB (p : Nat → Bool) : Nat → Bool
  | 0 => true
  | n + 1 => allB p n && p n
theorem allB_iff {p : Nat → Bool} : ∀ n, allB p n = true ↔ ∀ i, i < n → p i = true
  | 0 => ⟨fun _ i hi => by omega, fun _ => rfl⟩
  | n + 1 => by
    show (allB p n && p n) = true ↔ _
    rw [Bool.and_eq_true, allB_iff n]
    constructor
    · rintro ⟨a, b⟩ i hi
      by_cases e : i = n
      · subst e; exact b
      · exact a i (by omega)
    · intro a
      exact ⟨fun i hi => a i (by omega), a n (by omega)⟩
def u0 (μ : Mu) (i : Nat) : Nat := μ 10 (4 * i)
def u1 (μ : Mu) (i : Nat) : Nat := μ 10 (4 * i + 1)
def u2 (μ : Mu) (i : Nat) : Nat := μ 10 (4 * i + 2)
def u3 (μ : Mu) (i : Nat) : Nat := μ 10 (4 * i + 3)
def SE (μ : Mu) : Prop := mse μ ≤ 6 ∧ ∀ i, i < mse μ → u0 μ i < mH μ ∧ u1 μ i < mn μ ∧ u2 μ i ≤ 30 ∧ u3 μ i ≤ 1
theorem SE.of {k : Nat} {μ : Mu} (h : WF k μ) : SE μ := ⟨h.2.2.2.2.2.2.1, h.2.2.2.2.2.2.2.1⟩
/-- does the sighting hold, who knows being K -/
def sgB (μ : Mu) (i K : Nat) : Bool := K.testBit (u0 μ i) == decide (u3 μ i = 1)
theorem VN.same {σ σ' : St} {μ : Mu} (h : VN σ μ) (hs : sameN σ σ') : VN σ' μ := by
  unfold VN at h ⊢
  rw [hs 62 rfl, hs 63 rfl, hs 64 rfl, hs 65 rfl, hs 66 rfl]; exact h
theorem N_isSo8 {σ : St} {μ : Mu} (hv : VN σ μ) (hy : HY μ) (hse : SE μ) {i K : Nat} (hi : i < mse μ) (hK : K < 2 ^ mH μ) : f_X8_isSo__62 σ (nI i) (nI K) = some (if sgB μ i K = true then 1 else 0, σ) := by
  have hH := mH_pos hy.1
  have h6 := hse.1
  obtain ⟨s0, s1, s2, s3⟩ := hse.2 i hi
  obtain ⟨v0, v1, v2, v3⟩ := hv.2 i hi
  have q : (nI (u3 μ i) = (1 : Int32)) = (u3 μ i = 1) := nI_eqB (b := 1) (by omega) (by decide)
  have v0' : σ 63 i = nI (u0 μ i) := v0
  have v3' : σ 66 i = nI (u3 μ i) := v3
  simp only [f_X8_isSo__62, jq2, at_63 (show i < 6 by omega), at_66 (show i < 6 by omega), bnd_ok, v0', v3', N_holds (lt_16 hy.1 hK) (show u0 μ i < 16 by omega), q]
  unfold sgB
  by_cases c : u3 μ i = 1 <;> cases K.testBit (u0 μ i) <;> simp [c]
/-- the news at step t, a first wind told or not -/
def kf (μ : Mu) (kn : Nat → Nat) (wd : Option Nat) (m : Nat) : Nat → Nat
  | 0 => kn m
  | t + 1 => nx μ m (SH μ) (match t, wd with
    | 0, some w => w
    | _, _ => wnd μ (μ 6 0 + t)) (kf μ kn wd m t)
theorem kf_none {μ : Mu} {kn : Nat → Nat} {m : Nat} : ∀ t, kf μ kn none m t = alg μ m (SH μ) (μ 6 0) t (kn m)
  | 0 => rfl
  | t + 1 => by
    have ih := kf_none (μ := μ) (kn := kn) (m := m) t
    cases t with
    | zero => rfl
    | succ t => show nx μ m (SH μ) (wnd μ (μ 6 0 + (t + 1))) (kf μ kn none m (t + 1)) = _; rw [ih]; rfl
theorem kf_some {μ : Mu} {kn : Nat → Nat} {m w : Nat} : ∀ t, kf μ kn (some w) m (t + 1) = alg μ m (SH μ) (μ 6 0 + 1) t (nx μ m (SH μ) w (kn m))
  | 0 => rfl
  | t + 1 => by
    show nx μ m (SH μ) (wnd μ (μ 6 0 + (t + 1))) (kf μ kn (some w) m (t + 1)) = nx μ m (SH μ) (wnd μ (μ 6 0 + 1 + t)) (alg μ m (SH μ) (μ 6 0 + 1) t (nx μ m (SH μ) w (kn m)))
    rw [kf_some t, show μ 6 0 + (t + 1) = μ 6 0 + 1 + t by omega]
theorem kf_lt {μ : Mu} (hw : WP μ) {kn : Nat → Nat} {wd : Option Nat} {m : Nat} (h : kn m < 2 ^ mH μ) : ∀ t, kf μ kn wd m t < 2 ^ mH μ
  | 0 => h
  | t + 1 => nx_lt hw (kf_lt hw h t)
def nnB (μ : Mu) (on : Option Nat) (k : Nat) : Bool := match on with
  | none => true
  | some n => decide (u1 μ k = n)
def cdB (μ : Mu) (on : Option Nat) (kn : Nat → Nat) (t k : Nat) : Bool := !(decide (u2 μ k = t) && nnB μ on k) || sgB μ k (kn (u1 μ k))
theorem M_isSo {τ : St} {μ : Mu} (hm : RM τ μ) (hy : HY μ) (hse : SE μ) {s t : Nat} {sh kn : Nat → Nat} {on : Option Nat} (hN : NWs τ s sh kn) (hk : ∀ n, n < mn μ → kn n < 2 ^ mH μ) (hon : ∀ n, on = some n → n < 5) (ht : t ≤ 30) : f_X11_isSo__0 τ (ov on) (nI t) = some (if allB (cdB μ on kn t) (mse μ) = true then 1 else 0, τ) := by
  have hH := mH_pos hy.1
  have hn5 : mn μ ≤ 5 := hy.1.2.2.1
  have h6 := hse.1
  have hms : τ 0 13 = nI (mse μ) := hm.2.1.2.2.1
  have hv := hm.2.2.2.2.2.1
  unfold f_X11_isSo__0
  refine lq2_run (P := fun o => o = some (if allB (cdB μ on kn t) (mse μ) = true then 1 else 0, τ)) (fun i u x y => u = τ ∧ x = (if allB (cdB μ on kn t) i = true then 1 else 0) ∧ y = nI i) (mse μ) ?_ 100000 0 τ 1 0 (Nat.zero_le _) (by omega) ⟨rfl, rfl, rfl⟩
  rintro i u x y hi ⟨rfl, rfl, rfl⟩ k
  rcases Nat.lt_or_ge i (mse μ) with hl | hl
  · obtain ⟨s0, s1, s2, s3⟩ := hse.2 i hl
    have w0 : u 7 (4 * i) = nI (u0 μ i) := hv _ (by omega)
    have w1 : u 7 (4 * i + 1) = nI (u1 μ i) := hv _ (by omega)
    have w2 : u 7 (4 * i + 2) = nI (u2 μ i) := hv _ (by omega)
    have w3 : u 7 (4 * i + 3) = nI (u3 μ i) := hv _ (by omega)
    have e0 : (4 : Int32) * nI i = nI (4 * i) := pk_mul 4 i
    have e1 : nI (4 * i) + 1 = nI (4 * i + 1) := nI_add _ 1
    have e2 : nI (4 * i) + 2 = nI (4 * i + 2) := nI_add _ 2
    have e3 : nI (4 * i) + 3 = nI (4 * i + 3) := nI_add _ 3
    have e17 : (17 : Int32) + nI (u1 μ i) = nI (17 + u1 μ i) := nI_add 17 _
    have q2 : (nI (u2 μ i) = nI t) = (u2 μ i = t) := nI_eqB (by omega) (by omega)
    have q3 : (nI (u3 μ i) = (1 : Int32)) = (u3 μ i = 1) := nI_eqB (b := 1) (by omega) (by decide)
    have hc : ∀ A B : Ot, (if ov on < 0 then A else (if nI (u1 μ i) = ov on then A else B)) = if nnB μ on i = true then A else B := fun A B => by
      cases on with
      | none => rw [if_pos (show ov none < 0 by decide)]; rfl
      | some n =>
        have := hon n rfl
        show (if nI n < 0 then A else (if nI (u1 μ i) = nI n then A else B)) = if decide (u1 μ i = n) = true then A else B
        rw [if_neg (nI_pos (by omega))]
        by_cases e : u1 μ i = n
        · rw [if_pos (by rw [e]), if_pos (by simp [e])]
        · rw [if_neg (fun q => e ((nI_eq (by omega) (by omega)).mp q)), if_neg (by simp [e])]
    refine Or.inl ⟨hl, u, _, _, ⟨rfl, rfl, rfl⟩, ?_⟩
    have hsuc : allB (cdB μ on kn t) (i + 1) = (allB (cdB μ on kn t) i && cdB μ on kn t i) := rfl
    rw [hsuc]
    simp only [hms, if_neg (nI_ge hl (show mse μ < 2 ^ 31 by omega)), jq0, jq1, jq2, e0, e1, e2, e3, gd_nI (show 4 * i < 24 by omega) (show 24 < 2 ^ 31 by decide), gd_nI (show 4 * i + 1 < 24 by omega) (show 24 < 2 ^ 31 by decide), gd_nI (show 4 * i + 2 < 24 by omega) (show 24 < 2 ^ 31 by decide), gd_nI (show 4 * i + 3 < 24 by omega) (show 24 < 2 ^ 31 by decide), nI_clamp (show 4 * i < 2 ^ 31 by omega), nI_clamp (show 4 * i + 1 < 2 ^ 31 by omega), nI_clamp (show 4 * i + 2 < 2 ^ 31 by omega), nI_clamp (show 4 * i + 3 < 2 ^ 31 by omega), w0, w1, w2, w3, e17, gd_nI (show 17 + u1 μ i < 22 by omega) (show 22 < 2 ^ 31 by decide), nI_clamp (show 17 + u1 μ i < 2 ^ 31 by omega), hN.2.2 (u1 μ i) (by omega), M_has (lt_16 hy.1 (hk _ s1)) (show u0 μ i < 16 by omega), bnd_ok, nm_ok, nI_1, q2, q3, hc]
    unfold cdB sgB
    by_cases a : u2 μ i = t
    · by_cases b : nnB μ on i = true
      · by_cases c : u3 μ i = 1 <;> cases (kn (u1 μ i)).testBit (u0 μ i) <;> cases allB (fun k => !(decide (u2 μ k = t) && nnB μ on k) || (kn (u1 μ k)).testBit (u0 μ k) == decide (u3 μ k = 1)) i <;> simp [a, b, c]
      · simp only [Bool.not_eq_true] at b
        simp [a, b]
    · simp [a]
  · have : i = mse μ := by omega
    subst this
    simp only [hms, if_pos (nI_le (Nat.le_refl (mse μ)) (show mse μ < 2 ^ 31 by omega))]
    refine Or.inr ?_
    split <;> rfl
