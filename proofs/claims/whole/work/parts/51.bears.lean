/-! bears -/
def sumw (μ : Mu) (p : Nat → Bool) : Nat → Nat
  | 0 => 0
  | i + 1 => sumw μ p i + (if p i = true then μ 3 i else 0)
theorem sumw_le {μ : Mu} (hw : WP μ) {p : Nat → Bool} : ∀ i, i ≤ mn μ → sumw μ p i ≤ 4 * i
  | 0, _ => Nat.le_refl _
  | i + 1, h => by
    have h1 := sumw_le hw (p := p) i (by omega)
    have h2 := (hw.2.2.2.2.2.1 i (by omega)).2.2.1
    show sumw μ p i + (if p i = true then μ 3 i else 0) ≤ _
    split <;> omega
theorem sumw_ext {μ : Mu} {p q : Nat → Bool} : ∀ i, (∀ n, n < i → p n = q n) → sumw μ p i = sumw μ q i
  | 0, _ => rfl
  | i + 1, h => by
    show sumw μ p i + (if p i = true then μ 3 i else 0) = sumw μ q i + (if q i = true then μ 3 i else 0)
    rw [sumw_ext i (fun n hn => h n (by omega)), h i (by omega)]
def hv (μ : Mu) (h o n : Nat) : Bool := (alg μ n (fun x => if x = h then o else SH μ x) (μ 6 0) 48 (KW μ n)).testBit h
theorem N_burden {σ : St} {μ : Mu} (hq : QN σ μ) (hy : HY μ) {h o : Nat} (hh : h < mH μ) (ho : o ≤ 6) : ∃ σ', f_X3_burden__59 σ (nI h) (nI o) = some (nI (sumw μ (hv μ h o) (mn μ)), σ') ∧ frD σ σ' := by
  have hn5 : mn μ ≤ 5 := hy.1.2.2.1
  have hH := mH_pos hy.1
  unfold f_X3_burden__59
  refine lq2_run (P := fun z => ∃ σ', z = some (nI (sumw μ (hv μ h o) (mn μ)), σ') ∧ frD σ σ') (fun i t x y => frD σ t ∧ x = nI (sumw μ (hv μ h o) i) ∧ y = nI i) (mn μ) ?_ 100000 0 σ 0 0 (Nat.zero_le _) (by omega) ⟨frD.rf, rfl, rfl⟩
  rintro i t x y hi ⟨hf, rfl, rfl⟩ k
  have hqt := hq.fr hf
  rcases Nat.lt_or_ge i (mn μ) with hl | hl
  · obtain ⟨u, e1, e2, e3⟩ := Q_pick hqt hy hl
    obtain ⟨v, g1, g2, g3⟩ := N_reopen hy.1 hl e3 hh ho
    have hqv := (hqt.fr e2).fr g2
    have hh48 : f_X1_hears__56 v (nI h) 48 = some (if hv μ h o i = true then 1 else 0, v) := Q_hears hqv hy g3 (KWl hy hl) (show 48 ≤ 100 by decide) (show h < 16 by omega)
    have hwt : f_X4_weightOf__12 v (nI i) = some (nI (μ 3 i), v) := by
      simp only [f_X4_weightOf__12, at_16 (show i < 5 by omega), bnd_ok]
      rw [(hqv.1.2.2.2.2.2.2.2.1 i hl).2.1]
    refine Or.inl ⟨hl, v, _, _, ⟨(hf.tr e2).tr g2, rfl, rfl⟩, ?_⟩
    simp only [newsTold12 hqt.1, bnd_ok, if_neg (nI_ge hl (show mn μ < 2 ^ 31 by omega)), jq1, e1, g1, hh48, hwt, nm_ok, nI_1]
    have e : sumw μ (hv μ h o) (i + 1) = sumw μ (hv μ h o) i + (if hv μ h o i = true then μ 3 i else 0) := rfl
    rw [e]
    by_cases c : hv μ h o i = true
    · simp only [c, if_true, c10, if_false, nI_add]
    · simp only [c, if_true, c00, Bool.false_eq_true, if_false, Nat.add_zero]
  · have : i = mn μ := by omega
    subst this
    exact Or.inr ⟨t, by simp only [newsTold12 hqt.1, bnd_ok, if_pos (nI_le (Nat.le_refl (mn μ)) (show mn μ < 2 ^ 31 by omega))], hf⟩
theorem M_heavy {τ : St} {μ : Mu} (hp : PM τ μ) (hw : WP μ) {p : Nat → Bool} : f_X11_heavy__0 τ (nI (mkm p (mn μ))) = some (nI (sumw μ p (mn μ)), τ) := by
  have hn5 : mn μ ≤ 5 := hw.2.2.1
  have hmt : τ 0 4 = nI (mn μ) := hp.2.2.2.1
  have hml : mkm p (mn μ) < 65536 := Nat.lt_of_lt_of_le (mkm_lt p _) (Nat.pow_le_pow_right (n := 2) (j := 16) (by omega) (by omega))
  unfold f_X11_heavy__0
  refine lq2_run (P := fun o => o = some (nI (sumw μ p (mn μ)), τ)) (fun i t x y => t = τ ∧ x = nI (sumw μ p i) ∧ y = nI i) (mn μ) ?_ 100000 0 τ 0 0 (Nat.zero_le _) (by omega) ⟨rfl, rfl, rfl⟩
  rintro i t x y hi ⟨rfl, rfl, rfl⟩ k
  rcases Nat.lt_or_ge i (mn μ) with hl | hl
  · refine Or.inl ⟨hl, t, _, _, ⟨rfl, rfl, rfl⟩, ?_⟩
    have e31 : (3 : Int32) * nI i + 1 = nI (3 * i + 1) := by rw [show (3 : Int32) * nI i = nI (3 * i) from pk_mul 3 i]; exact nI_add _ 1
    have htb : (mkm p (mn μ)).testBit i = p i := by rw [mkm_tb]; simp [hl]
    simp only [hmt, if_neg (nI_ge hl (show mn μ < 2 ^ 31 by omega)), jq2, M_has hml (show i < 16 by omega), htb, bnd_ok, e31, gd_nI (show 3 * i + 1 < 15 by omega) (show 15 < 2 ^ 31 by decide), nI_clamp (show 3 * i + 1 < 2 ^ 31 by omega), (hp.2.2.2.2.2.2.1 i hl).2.1, nm_ok, nI_1]
    have e : sumw μ p (i + 1) = sumw μ p i + (if p i = true then μ 3 i else 0) := rfl
    rw [e]
    by_cases c : p i = true
    · simp only [c, if_true, c10, if_false, nI_add]
    · simp only [c, if_true, c00, Bool.false_eq_true, if_false, Nat.add_zero]
      rw [show (0 : Int32) = nI 0 from rfl, nI_add, Nat.add_zero]
  · have : i = mn μ := by omega
    subst this
    exact Or.inr (by simp only [hmt, if_pos (nI_le (Nat.le_refl (mn μ)) (show mn μ < 2 ^ 31 by omega))])
def brn (μ : Mu) (h v : Nat) : Nat → Int32
  | 0 => -4
  | m + 1 => if sumw μ (hv μ h m) (mn μ) ≤ v then nI m else brn μ h v m
theorem st_bears {k : Nat} {σ τ : St} (h : Rel k σ τ) (hk : k < 64) (x1 x2 : Int32) : ST2 k (f_X10_bears__0 σ x1 x2) (f_X11_bears__0 τ x1 x2) := by
  obtain ⟨μ, hf, hn, hm⟩ := id h
  have hy := HY.of hf hk
  have hq := QN.of hn
  have hH := mH_pos hy.1
  have hn5 : mn μ ≤ 5 := hy.1.2.2.1
  unfold f_X10_bears__0 f_X11_bears__0
  rcases both_house hq.1 hm.1 hy.1 x1 with ⟨g, g1, rfl, gN, gM⟩ | ⟨gN, gM⟩
  rotate_left
  · exact st_bad h (r := -1) (by simp only [gN, bnd_ok, c00, if_true]) (by simp only [gM, bnd_ok, c00, if_true])
  rw [gN, gM, bnd_ok, bnd_ok, if_neg n10, if_neg n10]
  rcases both_in (A := 0) (B := 20) 0 20 (by decide) (by decide) rfl rfl σ τ x2 with ⟨v, h1, h2, rfl, hN, hM⟩ | ⟨hN, hM⟩
  rotate_left
  · exact st_bad h (r := -1) (by simp only [hN, bnd_ok, c00, if_true]) (by simp only [hM, bnd_ok, c00, if_true])
  rw [hN, hM, bnd_ok, bnd_ok, if_neg n10, if_neg n10]
  have m1p : ∀ m, nI (m + 1) + (-1) = nI m := pk_m1
  have cmp : ∀ (m : Nat) (A B : Ot), (if nI v < nI (sumw μ (hv μ g m) (mn μ)) then A else B) = if sumw μ (hv μ g m) (mn μ) ≤ v then B else A := fun m A B => by
    have hl := sumw_le hy.1 (p := hv μ g m) (mn μ) (Nat.le_refl _)
    by_cases c : sumw μ (hv μ g m) (mn μ) ≤ v
    · rw [if_pos c, if_neg (nI_nlt c (by omega))]
    · rw [if_neg c, if_pos (nI_lt (by omega) (by omega))]
  have LN : ∃ σ', f_X3_widestBorne__59 σ (nI g) (nI v) = some (brn μ g v 7, σ') ∧ frD σ σ' := by
    unfold f_X3_widestBorne__59
    refine lq1_run (P := fun o => ∃ σ', o = some (brn μ g v 7, σ') ∧ frD σ σ') (fun i t y => frD σ t ∧ y = nI (7 - i) + (-1) ∧ brn μ g v 7 = brn μ g v (7 - i)) 7 ?_ 100000 0 σ 6 (Nat.zero_le _) (by omega) ⟨frD.rf, by decide, rfl⟩
    rintro i t y hi ⟨hft, rfl, hb⟩ k
    rcases Nat.lt_or_ge i 7 with hl | hl
    · obtain ⟨u, e1, e2⟩ := N_burden (hq.fr hft) hy g1 (show 6 - i ≤ 6 by omega)
      rw [hb, show 7 - i = (6 - i) + 1 by omega, m1p, if_neg (nI_pos (by omega)), e1, bnd_ok, cmp, brn, nm_ok]
      by_cases c : sumw μ (hv μ g (6 - i)) (mn μ) ≤ v
      · rw [if_pos c, if_pos c]
        exact Or.inr ⟨u, rfl, hft.tr e2⟩
      · rw [if_neg c, if_neg c]
        exact Or.inl ⟨hl, u, _, ⟨hft.tr e2, by rw [show 7 - (i + 1) = 6 - i by omega], by rw [show 7 - (i + 1) = 6 - i by omega]⟩, rfl⟩
    · have : i = 7 := by omega
      subst this
      exact Or.inr ⟨t, by rw [hb]; rfl, hft⟩
  obtain ⟨σ', a1, a2⟩ := LN
  rw [a1, bnd_ok]
  suffices hMl : ∀ oM, (∃ τ', oM = some (brn μ g v 7, τ') ∧ sameM τ τ') → ST2 k (some (brn μ g v 7, σ')) oM by
    refine hMl _ ?_
    refine lq1_run (P := fun o => ∃ τ', o = some (brn μ g v 7, τ') ∧ sameM τ τ') (fun i t y => sameM τ t ∧ y = nI (7 - i) + (-1) ∧ brn μ g v 7 = brn μ g v (7 - i)) 7 ?_ 100000 0 τ 6 (Nat.zero_le _) (by omega) ⟨sameM.rf, by decide, rfl⟩
    rintro i t y hi ⟨hft, rfl, hb⟩ k
    have hmt := hm.same hft
    rcases Nat.lt_or_ge i 7 with hl | hl
    · obtain ⟨u, b1, b2, b3, b4, b5⟩ := NW_ask hmt hy
      have e1g : (1 : Int32) + nI g = nI (1 + g) := nI_add 1 g
      have nw := b5.setS (n := g) (v := 6 - i) (show g < 16 by omega)
      have on := ONL.o14 b4 (only14.ps (τ := u) (i := nI (1 + g)) (v := nI (6 - i)))
      have hsh : ∀ x, x < 16 → (fun m => if m = g then 6 - i else SH μ m) x ≤ 6 := fun x hx => by
        by_cases e : x = g
        · simp only [e, if_true]; omega
        · simp only [e, if_false]; exact hy.2.2.1 x hx
      obtain ⟨w, c1, c2, c3⟩ := M_goes (b3.o14 (only14.ps (i := nI (1 + g)) (v := nI (6 - i)))) hy.1 nw on (fun n hn => KWl hy hn) hsh (by have := hy.2.1; omega) (show 48 ≤ 60 by decide)
      have c1' : f_X11_goes__0 (ps u 14 (nI (1 + g)) (nI (6 - i))) 48 = some (0, w) := c1
      have hpw := (b3.o14 (only14.ps (i := nI (1 + g)) (v := nI (6 - i)))).o14 c2
      have kk : ∀ n, n < mn μ → akn μ (fun m => if m = g then 6 - i else SH μ m) (μ 6 0) 9 48 (KW μ) n = alg μ n (fun m => if m = g then 6 - i else SH μ m) (μ 6 0) 48 (KW μ n) := fun n hn => by
        unfold akn; rw [if_pos ⟨hn, rfl⟩]
      have d1 := M_known (h := g) hpw hy.1 c3 (fun n hn => by rw [kk n hn]; exact alg_lt hy.1 (KWl hy hn) _) (by omega)
      rw [mkm_ext (q := hv μ g (6 - i)) (fun n hn => by rw [kk n hn]; rfl)] at d1
      have d2 := M_heavy hpw hy.1 (p := hv μ g (6 - i))
      rw [hb, show 7 - i = (6 - i) + 1 by omega, m1p, if_neg (nI_pos (by omega)), b1, bnd_ok]
      simp only [e1g, gd_nI (show 1 + g < 22 by omega) (show 22 < 2 ^ 31 by decide), nm_ok, c1', bnd_ok, d1, d2, cmp, brn]
      by_cases c : sumw μ (hv μ g (6 - i)) (mn μ) ≤ v
      · rw [if_pos c, if_pos c]
        exact Or.inr ⟨w, rfl, hft.tr (b2.sm.tr (only14.ps.sm.tr c2.sm))⟩
      · rw [if_neg c, if_neg c]
        exact Or.inl ⟨hl, w, _, ⟨hft.tr (b2.sm.tr (only14.ps.sm.tr c2.sm)), by rw [show 7 - (i + 1) = 6 - i by omega], by rw [show 7 - (i + 1) = 6 - i by omega]⟩, rfl⟩
    · have : i = 7 := by omega
      subst this
      exact Or.inr ⟨t, by rw [hb]; rfl, hft⟩
  rintro oM ⟨τ', b1, b2⟩
  exact st_same h rfl b1 a2.sm b2
