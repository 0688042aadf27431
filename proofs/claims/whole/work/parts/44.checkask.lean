/-! the check: as it is, steps, who knows -/
def frA (τ τ' : St) : Prop := (∀ p, p ≠ 14 → p ≠ 0 → τ' p = τ p) ∧ ∀ j, j ≠ 29 → τ' 0 j = τ 0 j
theorem frA.rf {τ : St} : frA τ τ := ⟨fun _ _ _ => rfl, fun _ _ => rfl⟩
theorem frA.tr {a b c : St} (h : frA a b) (h2 : frA b c) : frA a c := ⟨fun p h1 h3 => (h2.1 p h1 h3).trans (h.1 p h1 h3), fun j hj => (h2.2 j hj).trans (h.2 j hj)⟩
theorem frA.sm {a b : St} (h : frA a b) : sameM a b := ⟨fun p h1 h2 => h.1 p (by omega) (by omega), fun j hj => h.2 j (fun e => by subst e; exact absurd hj (by decide))⟩
theorem only14.fr {a b : St} (h : only14 a b) : frA a b := ⟨fun p h1 _ => h p h1, fun j _ => h.z j⟩
def SH (μ : Mu) : Nat → Nat := fun h => μ 6 (1 + h)
def KW (μ : Mu) : Nat → Nat := fun n => μ 6 (17 + n)
theorem M_asItIs {τ : St} {μ : Mu} (h : RM τ μ) : ∃ τ', f_X11_asItIs__0 τ = some (0, τ') ∧ frA τ τ' ∧ ONL τ' 9 ∧ NWs τ' (μ 6 0) (SH μ) (KW μ) := by
  obtain ⟨t, e, h1, h2, h3⟩ := cp_14_4 (τ := τ) (a := 0) (b := 0) (n := 22) (by decide) (by decide)
  have hs := h.2.2.1
  have e2 : f_X11_copies__14_4 τ 0 0 22 = some (0, t) := e
  refine ⟨pf t 0 29 (-4), by simp only [f_X11_asItIs__0, e2, bnd_ok, nm_ok], ⟨fun p a b => ?_, fun j hj => ?_⟩, pf_same, ?_, fun x hx => ?_, fun x hx => ?_⟩
  · rw [pf_ne b, h1 p a]
  · rw [pf_nk hj, h1 0 (by decide)]
  · rw [pf_ne (by decide), ← hs 0 (by decide)]; exact h2 0 (by decide)
  · rw [pf_ne (by decide)]
    have := h2 (1 + x) (by omega)
    rw [Nat.zero_add] at this
    rw [this]; exact hs _ (by omega)
  · rw [pf_ne (by decide)]
    have := h2 (17 + x) (by omega)
    rw [Nat.zero_add] at this
    rw [this]; exact hs _ (by omega)
theorem M_asItIsOf {τ : St} {μ : Mu} (h : RM τ μ) {n : Nat} (hn : n < 5) : ∃ τ', f_X11_asItIsOf__0 τ (nI n) = some (0, τ') ∧ frA τ τ' ∧ ONL τ' n ∧ NWs τ' (μ 6 0) (SH μ) (KW μ) := by
  obtain ⟨t, e, h1, h2, h3⟩ := M_asItIs h
  refine ⟨pf t 0 29 (nI n), by simp only [f_X11_asItIsOf__0, e, bnd_ok, nm_ok], ⟨fun p a b => ?_, fun j hj => ?_⟩, ?_, ?_, ?_⟩
  · rw [pf_ne b, h1.1 p a b]
  · rw [pf_nk hj, h1.2 j hj]
  · unfold ONL; rw [pf_same, if_pos hn]
  · rw [pf_ne (by decide)]; exact h3.1
  · rw [pf_ne (by decide)]; exact h3.2
theorem NWs.upd {τ τ' : St} {s : Nat} {sh kn : Nat → Nat} (h : NWs τ s sh kn) (e : τ' 14 = τ 14) : NWs τ' s sh kn := by unfold NWs; rw [e]; exact h
/-- how the news stand after m steps -/
def akn (μ : Mu) (sh : Nat → Nat) (s on m : Nat) (kn : Nat → Nat) : Nat → Nat := fun n => if n < mn μ ∧ isOn on n = true then alg μ n sh s m (kn n) else kn n
theorem ONL.o14 {τ τ' : St} {on : Nat} (h : ONL τ on) (ho : only14 τ τ') : ONL τ' on := (ho.z 29).trans h
theorem M_goes {τ : St} {μ : Mu} (hp : PM τ μ) (hw : WP μ) {s on m : Nat} {sh kn : Nat → Nat} (hN : NWs τ s sh kn) (ho : ONL τ on) (hk : ∀ n, n < mn μ → kn n < 2 ^ mH μ) (hsh : ∀ t, t < 16 → sh t ≤ 6) (hs : s ≤ 100000) (hm : m ≤ 60) : ∃ τ', f_X11_goes__0 τ (nI m) = some (0, τ') ∧ only14 τ τ' ∧ NWs τ' (s + m) sh (akn μ sh s on m kn) := by
  unfold f_X11_goes__0
  refine lq1_run (P := fun o => ∃ τ', o = some (0, τ') ∧ only14 τ τ' ∧ NWs τ' (s + m) sh (akn μ sh s on m kn)) (fun i t y => y = nI i ∧ only14 τ t ∧ NWs t (s + i) sh (akn μ sh s on i kn)) m ?_ 100000 0 τ 0 (Nat.zero_le _) (by omega) ⟨rfl, only14.rf, hN.ext (fun _ _ => rfl) (fun x _ => by unfold akn; split <;> rfl)⟩
  rintro i t y hi ⟨rfl, h1, h2⟩ k
  rcases Nat.lt_or_ge i m with hl | hl
  · have hk2 : ∀ n, n < mn μ → akn μ sh s on i kn n < 2 ^ mH μ := fun n hn => by
      unfold akn
      split
      · exact alg_lt hw (hk n hn) i
      · exact hk n hn
    obtain ⟨t2, e2, h3, h4⟩ := M_goesBy (hp.o14 h1) hw h2 (ho.o14 h1) hk2 hsh (wnd_le hw (s + i))
    refine Or.inl ⟨hl, t2, nI (i + 1), ⟨rfl, h1.tr h3, h4.ext (fun _ _ => rfl) (fun x _ => ?_)⟩, ?_⟩
    · unfold gkn akn
      by_cases c : x < mn μ ∧ isOn on x = true
      · simp only [if_pos c]; rfl
      · simp only [if_neg c]
    · have e0 : Int32.toNatClampNeg (0 : Int32) = 0 := by decide
      have hg : ∀ k : Ot, gd 0 22 k = k := fun k => gd_nI (j := 0) (by decide) (by decide)
      simp only [if_neg (nI_ge hl (show m < 2 ^ 31 by omega)), hg, e0, h2.1, M_windOf (hp.o14 h1) hw (show s + i < 2 ^ 31 by omega), bnd_ok, e2, nm_ok, nI_1]
  · have : i = m := by omega
    subst this
    exact Or.inr ⟨t, by simp only [if_pos (nI_le (Nat.le_refl i) (show i < 2 ^ 31 by omega))], h1, h2⟩
theorem mkm_succ (p : Nat → Bool) (n : Nat) : mkm p (n + 1) = mkm p n + (if p n then 2 ^ n else 0) := rfl
theorem mkm_or (p : Nat → Bool) (n : Nat) : mkm p n ||| (if p n then 2 ^ n else 0) = mkm p (n + 1) := by
  apply Nat.eq_of_testBit_eq
  intro i
  rw [Nat.testBit_or, mkm_tb, mkm_tb]
  by_cases h : p n = true
  · rw [if_pos h, Nat.testBit_two_pow]
    by_cases e : n = i
    · subst e; simp [h]
    · by_cases q : i < n
      · simp [q, e, Nat.lt_succ_of_lt q]
      · have : ¬ i < n + 1 := by omega
        simp [q, e, this]
  · rw [if_neg h, Nat.zero_testBit]
    by_cases e : i = n
    · subst e; simp [h]
    · by_cases q : i < n
      · simp [q, Nat.lt_succ_of_lt q]
      · have : ¬ i < n + 1 := by omega
        simp [q, this]
theorem M_known {τ : St} {μ : Mu} (hp : PM τ μ) (hw : WP μ) {s h : Nat} {sh kn : Nat → Nat} (hN : NWs τ s sh kn) (hk : ∀ n, n < mn μ → kn n < 2 ^ mH μ) (hh : h < 16) : f_X11_known__0 τ (nI h) = some (nI (mkm (fun n => (kn n).testBit h) (mn μ)), τ) := by
  have hn5 : mn μ ≤ 5 := hw.2.2.1
  have hmt : τ 0 4 = nI (mn μ) := hp.2.2.2.1
  unfold f_X11_known__0
  refine lq2_run (P := fun o => o = some (nI (mkm (fun n => (kn n).testBit h) (mn μ)), τ)) (fun i t x y => t = τ ∧ x = nI (mkm (fun n => (kn n).testBit h) i) ∧ y = nI i) (mn μ) ?_ 100000 0 τ 0 0 (Nat.zero_le _) (by omega) ⟨rfl, rfl, rfl⟩
  rintro i t x y hi ⟨rfl, rfl, rfl⟩ k
  rcases Nat.lt_or_ge i (mn μ) with hl | hl
  · refine Or.inl ⟨hl, t, _, _, ⟨rfl, rfl, rfl⟩, ?_⟩
    have e17 : (17 : Int32) + nI i = nI (17 + i) := nI_add 17 i
    simp only [hmt, if_neg (nI_ge hl (show mn μ < 2 ^ 31 by omega)), jq2, e17, gd_nI (show 17 + i < 22 by omega) (show 22 < 2 ^ 31 by decide), nI_clamp (show 17 + i < 2 ^ 31 by omega), hN.2.2 i (by omega), M_has (lt_16 hw (hk i hl)) hh, bnd_ok, nm_ok, nI_1]
    rw [← mkm_or]
    by_cases c : (kn i).testBit h = true
    · simp only [c, if_true, c10, if_false, nx_bit (show i < 31 by omega), nx_or]
    · simp only [c, if_true, c00]
      rw [show (0 : Int32) = nI 0 from rfl, nx_or]
      rfl
  · have : i = mn μ := by omega
    subst this
    exact Or.inr (by simp only [hmt, if_pos (nI_le (Nat.le_refl (mn μ)) (show mn μ < 2 ^ 31 by omega))])
theorem M_goes1 {τ : St} {μ : Mu} (hp : PM τ μ) (hw : WP μ) {s on : Nat} {sh kn : Nat → Nat} (hN : NWs τ s sh kn) (ho : ONL τ on) (hk : ∀ n, n < mn μ → kn n < 2 ^ mH μ) (hsh : ∀ t, t < 16 → sh t ≤ 6) (hs : s ≤ 100000) : ∃ τ', f_X11_goes__0 τ 1 = some (0, τ') ∧ only14 τ τ' ∧ NWs τ' (s + 1) sh (akn μ sh s on 1 kn) := M_goes hp hw hN ho hk hsh hs (by decide)
theorem M_knowsBehind {τ : St} {μ : Mu} (hp : PM τ μ) (hw : WP μ) {s h n : Nat} {sh kn : Nat → Nat} (hN : NWs τ s sh kn) (ho : ONL τ n) (hk : ∀ n, n < mn μ → kn n < 2 ^ mH μ) (hsh : ∀ t, t < 16 → sh t ≤ 6) (hs : s ≤ 90000) (hh : h < 16) (hn : n < mn μ) : ∃ τ', f_X11_knowsBehind__0 τ (nI h) (nI n) = some (fhr μ n sh s h 49 0 (kn n), τ') ∧ only14 τ τ' := by
  have hn5 : mn μ ≤ 5 := hw.2.2.1
  unfold f_X11_knowsBehind__0
  refine lq1_run (P := fun o => ∃ τ', o = some (fhr μ n sh s h 49 0 (kn n), τ') ∧ only14 τ τ') (fun i t y => y = nI i ∧ only14 τ t ∧ ∃ kn', NWs t (s + i) sh kn' ∧ (∀ n, n < mn μ → kn' n < 2 ^ mH μ) ∧ fhr μ n sh s h 49 0 (kn n) = fhr μ n sh s h (49 - i) i (kn' n)) 49 ?_ 100000 0 τ 0 (Nat.zero_le _) (by omega) ⟨rfl, only14.rf, kn, hN, hk, rfl⟩
  rintro i t y hi ⟨rfl, h1, kn', h2, hk', h3⟩ k
  rcases Nat.lt_or_ge i 49 with hl | hl
  · have e17 : (17 : Int32) + nI n = nI (17 + n) := nI_add 17 n
    have h48 : ¬ (48 : Int32) < nI i := nI_nlt (b := i) (a := 48) (by omega) (by decide)
    have hf : 49 - i = (48 - i) + 1 := by omega
    rw [h3, hf, fhr]
    simp only [if_neg h48, e17, gd_nI (show 17 + n < 22 by omega) (show 22 < 2 ^ 31 by decide), nI_clamp (show 17 + n < 2 ^ 31 by omega), h2.2.2 n (by omega), M_has (lt_16 hw (hk' n hn)) hh, bnd_ok]
    by_cases c : (kn' n).testBit h = true
    · simp only [c, if_true, c10, if_false]
      exact Or.inr ⟨t, rfl, h1⟩
    · obtain ⟨t2, e2, h4, h5⟩ := M_goes1 (hp.o14 h1) hw h2 (ho.o14 h1) hk' hsh (show s + i ≤ 100000 by omega)
      simp only [c, if_true, c00, e2, bnd_ok, nm_ok, nI_1]
      refine Or.inl ⟨hl, t2, _, ⟨rfl, h1.tr h4, _, h5, fun m hm => ?_, ?_⟩, rfl⟩
      · unfold akn
        split
        · exact alg_lt hw (hk' m hm) 1
        · exact hk' m hm
      · have e : akn μ sh (s + i) n 1 kn' n = nx μ n sh (wnd μ (s + i)) (kn' n) := by
          unfold akn isOn
          rw [if_pos ⟨hn, by simp⟩]; rfl
        rw [e, show 49 - (i + 1) = 48 - i by omega]
        rfl
  · have : i = 49 := by omega
    subst this
    refine Or.inr ⟨t, ?_, h1⟩
    rw [if_pos (show (48 : Int32) < nI 49 by decide), h3]
    rfl
