/-! gusts -/
def wyw (c k : Nat) : Nat := 1 + c / 2 ^ (2 * k) % 4
def gwy (μ : Mu) (n c : Nat) : Nat → Nat
  | 0 => KW μ n
  | k + 1 => nx μ n (SH μ) (wyw c k) (gwy μ n c k)
def gct (μ : Mu) (h n s : Nat) : Nat → Nat
  | 0 => 0
  | i + 1 => gct μ h n s i + (if (gwy μ n i s).testBit h = true then 1 else 0)
theorem gct_le {μ : Mu} {h n s : Nat} : ∀ i, gct μ h n s i ≤ i
  | 0 => Nat.le_refl _
  | i + 1 => by
    have := gct_le (μ := μ) (h := h) (n := n) (s := s) i
    show gct μ h n s i + (if (gwy μ n i s).testBit h = true then 1 else 0) ≤ i + 1
    split <;> omega
theorem gwy_lt {μ : Mu} (hy : HY μ) {n c : Nat} (hn : n < mn μ) : ∀ k, gwy μ n c k < 2 ^ mH μ
  | 0 => KWl hy hn
  | k + 1 => nx_lt hy.1 (gwy_lt hy hn k)
theorem wyw_le (c k : Nat) : wyw c k ≤ 4 := by unfold wyw; omega
theorem wy_I {c k : Nat} (hc : c < 2 ^ 31) (hk : 2 * k < 31) : (1 : Int32) + ((nI c >>> (((2 : Int32) * nI k) &&& 31)) &&& (3 : Int32)) = nI (wyw c k) := by
  have e2 : (2 : Int32) * nI k = nI (2 * k) := pk_mul 2 k
  have hd : c / 2 ^ (2 * k) ≤ c := Nat.div_le_self _ _
  rw [e2, pk_shrN hc (nI (2 * k) &&& 31) (2 * k) (s_l (2 * k) (by omega)), pk_andN (n := c / 2 ^ (2 * k)) (by omega) 2 (by decide)]
  exact nI_add 1 _
theorem ways_I {s : Nat} (hs : s ≤ 4) : (1 : Int32) <<< (((2 : Int32) * nI s) &&& 31) = nI (2 ^ (2 * s)) := by
  have e2 : (2 : Int32) * nI s = nI (2 * s) := pk_mul 2 s
  rw [e2, nx_bit (by omega)]
theorem p4_le {s : Nat} (hs : s ≤ 4) : 1 ≤ 2 ^ (2 * s) ∧ 2 ^ (2 * s) ≤ 256 := ⟨Nat.one_le_two_pow, Nat.pow_le_pow_right (n := 2) (j := 8) (by omega) (by omega)⟩
theorem N_gustsR {σ : St} {μ : Mu} (hq : QN σ μ) (hy : HY μ) {h n s : Nat} (hh : h < mH μ) (hn : n < mn μ) (hs : s ≤ 4) : ∃ σ', f_X0_gustsThatReach__61 σ (nI h) (nI n) (nI s) = some (nI (gct μ h n s (2 ^ (2 * s))), σ') ∧ frD σ σ' := by
  have hH := mH_pos hy.1
  have hp := p4_le hs
  obtain ⟨v, e1, e2, e3⟩ := Q_pick hq hy hn
  unfold f_X0_gustsThatReach__61
  rw [e1, bnd_ok]
  refine lq2_run (P := fun o => ∃ σ', o = some (nI (gct μ h n s (2 ^ (2 * s))), σ') ∧ frD σ σ') (fun i t x y => t = v ∧ x = nI (gct μ h n s i) ∧ y = nI i) (2 ^ (2 * s)) ?_ 100000 0 v 0 0 (Nat.zero_le _) (by omega) ⟨rfl, rfl, rfl⟩
  rintro i t x y hi ⟨rfl, rfl, rfl⟩ k
  unfold f_X0_waysOf
  rw [ways_I hs, bnd_ok]
  rcases Nat.lt_or_ge i (2 ^ (2 * s)) with hl | hl
  · rw [if_neg (nI_ge hl (by omega))]
    unfold f_X1_whoKnows__56
    rw [bnd_ok, e3.1]
    refine Or.inl ⟨hl, ?_⟩
    refine lq2_run (P := fun o => ∃ (t' : St) (y1 y2 : Int32), (t' = t ∧ y1 = nI (gct μ h n s (i + 1)) ∧ y2 = nI (i + 1)) ∧ o = k t' y1 y2) (fun j u x y => u = t ∧ x = nI (gwy μ n i j) ∧ y = nI j) s ?_ 100000 0 t _ 0 (Nat.zero_le _) (by omega) ⟨rfl, rfl, rfl⟩
    rintro j u x y hj ⟨rfl, rfl, rfl⟩ k2
    have hg := gwy_lt hy hn (c := i) j
    rcases Nat.lt_or_ge j s with hjl | hjl
    · rw [if_neg (nI_ge hjl (by omega)), wy_I (by omega) (by omega), N_onward hy.1 e3 hg (wyw_le i j), bnd_ok, nm_ok, nI_1]
      exact Or.inl ⟨hjl, u, _, _, ⟨rfl, rfl, rfl⟩, rfl⟩
    · have : j = s := by omega
      subst this
      rw [if_pos (nI_le (Nat.le_refl _) (by omega))]
      refine Or.inr ?_
      have hsuc : gct μ h n j (i + 1) = gct μ h n j i + (if (gwy μ n i j).testBit h = true then 1 else 0) := rfl
      simp only [jq1, N_holds (lt_16 hy.1 hg) (show h < 16 by omega), bnd_ok, nm_ok, nI_1, hsuc]
      by_cases c : (gwy μ n i j).testBit h = true
      · simp only [c, if_true, c10, if_false]
        exact ⟨u, _, _, ⟨rfl, rfl, rfl⟩, rfl⟩
      · simp only [c, Bool.false_eq_true, if_false, c00, if_true]
        exact ⟨u, _, _, ⟨rfl, rfl, rfl⟩, rfl⟩
  · have : i = 2 ^ (2 * s) := by omega
    subst this
    rw [if_pos (nI_le (Nat.le_refl _) (by omega))]
    exact Or.inr ⟨t, rfl, e2⟩
def lowt : Nat → Nat → Nat → Nat × Nat
  | 0, a, b => (a, b)
  | f + 1, a, b => if a % 2 = 0 then lowt f (a / 2) (b / 2) else (a, b)
theorem low_all : ∀ s, s < 5 → ∀ a, a < 257 → a ≤ 2 ^ (2 * s) → lowt (2 * s) a (2 ^ (2 * s)) = (a / Nat.gcd a (2 ^ (2 * s)), 2 ^ (2 * s) / Nat.gcd a (2 ^ (2 * s))) := by decide +kernel
theorem N_low {σ : St} {a s p : Nat} (ha : a ≤ 256) (hs : s ≤ 4) (hp : p ≤ 1) : f_X0_inLowestTerms__61 σ (nI a) (nI s) (nI p) = some (nI (if p = 0 then (lowt (2 * s) a (2 ^ (2 * s))).1 else (lowt (2 * s) a (2 ^ (2 * s))).2), σ) := by
  have h4 := p4_le hs
  have e2 : (2 : Int32) * nI s = nI (2 * s) := pk_mul 2 s
  have t2 : ¬ (2 : Int32) = 0 := by decide
  have qp : (nI p = (0 : Int32)) = (p = 0) := nI_eqB (b := 0) (by omega) (by decide)
  have fin : ∀ x y : Nat, ((if nI p = (0 : Int32) then some (nI x, σ) else some (nI y, σ)) : Ot) = some (nI (if p = 0 then x else y), σ) := fun x y => by
    simp only [qp]; split <;> rfl
  unfold f_X0_inLowestTerms__61 f_X0_waysOf
  rw [ways_I hs, bnd_ok]
  refine lq3_run (P := fun o => o = some (nI (if p = 0 then (lowt (2 * s) a (2 ^ (2 * s))).1 else (lowt (2 * s) a (2 ^ (2 * s))).2), σ)) (fun i t x y z => t = σ ∧ z = nI i ∧ ∃ a' b', a' ≤ 256 ∧ b' ≤ 256 ∧ x = nI a' ∧ y = nI b' ∧ lowt (2 * s) a (2 ^ (2 * s)) = lowt (2 * s - i) a' b') (2 * s) ?_ 100000 0 σ _ _ 0 (Nat.zero_le _) (by omega) ⟨rfl, rfl, a, _, ha, h4.2, rfl, rfl, rfl⟩
  rintro i t x y z hi ⟨rfl, rfl, a', b', ha', hb', rfl, rfl, hlo⟩ k
  rw [e2]
  rw [show ∀ (A : St → Ot) (B : (St → Ot) → Ot), jq0 A B = B A from fun _ _ => rfl]
  dsimp only
  rcases Nat.lt_or_ge i (2 * s) with hl | hl
  · have hr : nI a' - nI a' / (2 : Int32) * (2 : Int32) = nI (a' % 2) := pk_rem (d := 2) (by omega) (by decide) (by decide)
    have hd1 : nI a' / (2 : Int32) = nI (a' / 2) := pk_div (d := 2) (by omega) (by decide) (by decide)
    have hd2 : nI b' / (2 : Int32) = nI (b' / 2) := pk_div (d := 2) (by omega) (by decide) (by decide)
    have hlo2 : lowt (2 * s) a (2 ^ (2 * s)) = if a' % 2 = 0 then lowt (2 * s - (i + 1)) (a' / 2) (b' / 2) else (a', b') := by
      rw [hlo, show 2 * s - i = (2 * s - (i + 1)) + 1 by omega]; rfl
    rw [if_neg (nI_ge hl (by omega)), nz_ok t2, hr]
    by_cases c : a' % 2 = 0
    · rw [c, if_pos nI_0, nz_ok t2, nm_ok, nz_ok t2, nm_ok, nm_ok, hd1, hd2, nI_1]
      rw [if_pos c] at hlo2
      exact Or.inl ⟨hl, t, _, _, _, ⟨rfl, rfl, _, _, by omega, by omega, rfl, rfl, hlo2⟩, rfl⟩
    · rw [if_neg (nI_ne0 (by omega) (by omega)), fin]
      rw [if_neg c] at hlo2
      exact Or.inr (by rw [hlo2])
  · have : i = 2 * s := by omega
    subst this
    rw [if_pos (nI_le (Nat.le_refl _) (by omega)), fin]
    rw [Nat.sub_self] at hlo
    exact Or.inr (by rw [hlo]; rfl)
theorem st_gusts {k : Nat} {σ τ : St} (h : Rel k σ τ) (hk : k < 64) (x1 x2 x3 x4 : Int32) : ST2 k (f_X10_gusts__0 σ x1 x2 x3 x4) (f_X11_gusts__0 τ x1 x2 x3 x4) := by
  obtain ⟨μ, hf, hn, hm⟩ := id h
  have hy := HY.of hf hk
  have hq := QN.of hn
  have hH := mH_pos hy.1
  have hn5 : mn μ ≤ 5 := hy.1.2.2.1
  unfold f_X10_gusts__0 f_X11_gusts__0
  rcases both_house hq.1 hm.1 hy.1 x1 with ⟨g, g1, rfl, gN, gM⟩ | ⟨gN, gM⟩
  rotate_left
  · exact st_bad h (r := -1) (by simp only [gN, bnd_ok, c00, if_true]) (by simp only [gM, bnd_ok, c00, if_true])
  rw [gN, gM, bnd_ok, bnd_ok, if_neg n10, if_neg n10]
  rcases both_news hq.1 hm.1 hy.1 x2 with ⟨j, j1, rfl, jN, jM⟩ | ⟨jN, jM⟩
  rotate_left
  · exact st_bad h (r := -1) (by simp only [jN, bnd_ok, c00, if_true]) (by simp only [jM, bnd_ok, c00, if_true])
  rw [jN, jM, bnd_ok, bnd_ok, if_neg n10, if_neg n10]
  rcases both_in (A := 0) (B := 4) 0 4 (by decide) (by decide) rfl rfl σ τ x3 with ⟨s, m1, m2, rfl, mN, mM⟩ | ⟨mN, mM⟩
  rotate_left
  · exact st_bad h (r := -1) (by simp only [mN, bnd_ok, c00, if_true]) (by simp only [mM, bnd_ok, c00, if_true])
  rw [mN, mM, bnd_ok, bnd_ok, if_neg n10, if_neg n10]
  rcases both_in (A := 0) (B := 1) 0 1 (by decide) (by decide) rfl rfl σ τ x4 with ⟨p, h1, h2, rfl, hN, hM⟩ | ⟨hN, hM⟩
  rotate_left
  · exact st_bad h (r := -1) (by simp only [hN, bnd_ok, c00, if_true]) (by simp only [hM, bnd_ok, c00, if_true])
  rw [hN, hM, bnd_ok, bnd_ok, if_neg n10, if_neg n10]
  have hp := p4_le m2
  have hgl := gct_le (μ := μ) (h := g) (n := j) (s := s) (2 ^ (2 * s))
  have hlow := low_all s (by omega) (gct μ g j s (2 ^ (2 * s))) (by omega) hgl
  obtain ⟨σ', a1, a2⟩ := N_gustsR hq hy g1 j1 m2
  rw [a1, bnd_ok, N_low (by omega) m2 h2, bnd_ok, hlow]
  have hgp : 1 ≤ Nat.gcd (gct μ g j s (2 ^ (2 * s))) (2 ^ (2 * s)) := Nat.gcd_pos_of_pos_right _ (by omega)
  have hgpl : Nat.gcd (gct μ g j s (2 ^ (2 * s))) (2 ^ (2 * s)) ≤ 2 ^ (2 * s) := Nat.gcd_le_right _ (by omega)
  rw [ways_I m2, nm_ok]
  suffices hMl : ∀ oM, (∃ τ', oM = some (nI (if p = 0 then gct μ g j s (2 ^ (2 * s)) / Nat.gcd (gct μ g j s (2 ^ (2 * s))) (2 ^ (2 * s)) else 2 ^ (2 * s) / Nat.gcd (gct μ g j s (2 ^ (2 * s))) (2 ^ (2 * s))), τ') ∧ sameM τ τ') → ST2 k _ oM by
    refine hMl _ ?_
    refine lq2_run (P := fun o => ∃ τ', o = some (nI (if p = 0 then gct μ g j s (2 ^ (2 * s)) / Nat.gcd (gct μ g j s (2 ^ (2 * s))) (2 ^ (2 * s)) else 2 ^ (2 * s) / Nat.gcd (gct μ g j s (2 ^ (2 * s))) (2 ^ (2 * s))), τ') ∧ sameM τ τ') (fun i t x y => sameM τ t ∧ x = nI (gct μ g j s i) ∧ y = nI i) (2 ^ (2 * s)) ?_ 100000 0 τ 0 0 (Nat.zero_le _) (by omega) ⟨sameM.rf, rfl, rfl⟩
    rintro i t x y hi ⟨hft, rfl, rfl⟩ k1
    have hmt := hm.same hft
    rcases Nat.lt_or_ge i (2 ^ (2 * s)) with hl | hl
    · obtain ⟨u, b1, b2, b3, b4, b5⟩ := NW_askOf hmt hy j1
      rw [if_neg (nI_ge hl (by omega)), b1, bnd_ok]
      refine Or.inl ⟨hl, ?_⟩
      refine lq1_run (P := fun o => ∃ (t' : St) (y1 y2 : Int32), (sameM τ t' ∧ y1 = nI (gct μ g j s (i + 1)) ∧ y2 = nI (i + 1)) ∧ o = k1 t' y1 y2) (fun z v y => y = nI z ∧ only14 u v ∧ NWs v (μ 6 0 + z) (SH μ) (fun m => if m = j then gwy μ j i z else KW μ m)) s ?_ 100000 0 u 0 (Nat.zero_le _) (by omega) ⟨rfl, only14.rf, b5.ext (fun _ _ => rfl) (fun m _ => by by_cases e : m = j <;> simp [e, gwy])⟩
      rintro z v y hz ⟨rfl, hov, hNv⟩ k2
      have hpv := b3.o14 hov
      have hg := gwy_lt hy j1 (c := i) z
      rcases Nat.lt_or_ge z s with hzl | hzl
      · obtain ⟨v2, c1, c2, c3⟩ := M_goesBy hpv hy.1 hNv (b4.o14 hov) (fun m hm => by
          by_cases e : m = j
          · simp only [e, if_true]; exact hg
          · simp only [e, if_false]; exact KWl hy hm) hy.2.2.1 (wyw_le i z)
        rw [if_neg (nI_ge hzl (by omega)), wy_I (by omega) (by omega), c1, bnd_ok, nm_ok, nI_1]
        refine Or.inl ⟨hzl, v2, _, ⟨rfl, hov.tr c2, c3.ext (fun _ _ => rfl) (fun m hm => ?_)⟩, rfl⟩
        unfold gkn isOn
        by_cases e : m = j
        · subst e; simp [j1, gwy]
        · have h5 : ¬ 5 ≤ j := by omega
          simp [e, h5]
      · have : z = s := by omega
        subst this
        have e17 : (17 : Int32) + nI j = nI (17 + j) := nI_add 17 j
        have hvj : v 14 (17 + j) = nI (gwy μ j i z) := by rw [hNv.2.2 j (by omega)]; simp
        rw [if_pos (nI_le (Nat.le_refl _) (by omega))]
        refine Or.inr ?_
        have hsuc : gct μ g j z (i + 1) = gct μ g j z i + (if (gwy μ j i z).testBit g = true then 1 else 0) := rfl
        simp only [jq2, e17, gd_nI (show 17 + j < 22 by omega) (show 22 < 2 ^ 31 by decide), nI_clamp (show 17 + j < 2 ^ 31 by omega), hvj, M_has (lt_16 hy.1 hg) (show g < 16 by omega), bnd_ok, nm_ok, nI_1, hsuc]
        have hso := hft.tr (b2.sm.tr hov.sm)
        by_cases c : (gwy μ j i z).testBit g = true
        · simp only [c, if_true, c10, if_false]
          exact ⟨v, _, _, ⟨hso, rfl, rfl⟩, rfl⟩
        · simp only [c, Bool.false_eq_true, if_false, c00, if_true]
          exact ⟨v, _, _, ⟨hso, nI_add _ 0, rfl⟩, rfl⟩
    · have : i = 2 ^ (2 * s) := by omega
      subst this
      rw [if_pos (nI_le (Nat.le_refl _) (by omega))]
      refine Or.inr ?_
      refine lq2_run (P := fun o => ∃ τ', o = some (nI (if p = 0 then gct μ g j s (2 ^ (2 * s)) / Nat.gcd (gct μ g j s (2 ^ (2 * s))) (2 ^ (2 * s)) else 2 ^ (2 * s) / Nat.gcd (gct μ g j s (2 ^ (2 * s))) (2 ^ (2 * s))), τ') ∧ sameM τ τ') (fun i u x y => u = t ∧ ∃ a b, a ≤ 256 ∧ b ≤ 256 ∧ x = nI a ∧ y = nI b ∧ b + i ≤ 2 ^ (2 * s) ∧ Nat.gcd a b = Nat.gcd (gct μ g j s (2 ^ (2 * s))) (2 ^ (2 * s))) (2 ^ (2 * s)) ?_ 100000 0 t _ _ (Nat.zero_le _) (by omega) ⟨rfl, _, _, by omega, hp.2, rfl, rfl, by omega, rfl⟩
      rintro i u x y hi ⟨rfl, a, b, ha, hb, rfl, rfl, hbi, hgc⟩ k3
      by_cases hb0 : b = 0
      · subst hb0
        rw [Nat.gcd_zero_right] at hgc
        have qp : (nI p = (0 : Int32)) = (p = 0) := nI_eqB (b := 0) (by omega) (by decide)
        have d1 := pk_div (a := gct μ g j s (2 ^ (2 * s))) (d := a) (by omega) (by omega) (by omega)
        have d2 := pk_div (a := 2 ^ (2 * s)) (d := a) (by omega) (by omega) (by omega)
        refine Or.inr ⟨u, ?_, hft⟩
        rw [if_pos (show nI 0 ≤ (0 : Int32) by decide), nz_ok (nI_ne0 (by omega) (by omega)), nz_ok (nI_ne0 (by omega) (by omega)), d1, d2, ← hgc]
        simp only [qp]
        split <;> rfl
      · have hm1 : a % b < b := Nat.mod_lt _ (by omega)
        rw [if_neg (nI_nle (by omega) (by omega)), nz_ok (nI_ne0 (by omega) (by omega)), pk_rem (by omega) (by omega) (by omega), nm_ok]
        exact Or.inl ⟨by omega, u, _, _, ⟨rfl, b, a % b, hb, by omega, rfl, rfl, by omega, by rw [← hgc, Nat.gcd_comm a b, Nat.gcd_rec b a, Nat.gcd_comm]⟩, rfl⟩
  rintro oM ⟨τ', b1, b2⟩
  exact st_same h rfl b1 a2.sm b2
