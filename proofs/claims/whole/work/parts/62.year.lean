/-! year -/
def dr (a i : Nat) : Nat := (7919 * a + 6151 * i + 1) * (7919 * a + 6151 * i + 1) % 65521 / 2
theorem dr_lt (a i : Nat) : dr a i < 32761 := by
  unfold dr
  have := Nat.mod_lt ((7919 * a + 6151 * i + 1) * (7919 * a + 6151 * i + 1)) (show 65521 > 0 by decide)
  omega
theorem y_I {a i : Nat} (ha : a ≤ 9999) (hi : i ≤ 60) : (((7919 : Int64) * (Int32.toInt64 (nI a))) + ((6151 : Int64) * (Int32.toInt64 (nI i)))) + (1 : Int64) = lN (7919 * a + 6151 * i + 1) := by
  rw [nI_l (show a < 2 ^ 31 by omega), nI_l (show i < 2 ^ 31 by omega)]
  show (lN 7919 * lN a + lN 6151 * lN i) + 1 = _
  rw [lN_mul, lN_mul, lN_add, lN_1]
theorem d_I {y : Nat} (hy : y < 100000000) : Int64.toInt32 (((lN y * lN y) - (lN y * lN y) / (65521 : Int64) * (65521 : Int64)) / (2 : Int64)) = nI (y * y % 65521 / 2) := by
  have hyy : y * y < 2 ^ 63 := Nat.lt_of_le_of_lt (Nat.mul_le_mul (Nat.le_of_lt hy) (Nat.le_of_lt hy)) (by decide)
  have hm := Nat.mod_lt (y * y) (show 65521 > 0 by decide)
  show ((lN y * lN y - lN y * lN y / lN 65521 * lN 65521) / lN 2).toInt32 = _
  rw [lN_mul, pk_lRem hyy (by decide) (by decide), pk_lDiv (by omega) (by decide) (by decide), lN_i]
def dH (μ : Mu) (a i : Nat) : Nat := dr a i % mH μ
def dO (a i : Nat) : Nat := dr a i / 16 % 7
def ysh (μ : Mu) (a : Nat) : Nat → Nat → Nat
  | 0 => SH μ
  | i + 1 => fun x => if x = dH μ a i then dO a i else ysh μ a i x
def ygo (μ : Mu) (a n : Nat) : Nat → Nat
  | 0 => KW μ n
  | i + 1 => nx μ n (ysh μ a (i + 1)) (wnd μ (μ 6 0 + i)) (ygo μ a n i)
theorem ysh_le {μ : Mu} (hy : HY μ) {a : Nat} : ∀ i x, x < 16 → ysh μ a i x ≤ 6
  | 0, x, hx => hy.2.2.1 x hx
  | i + 1, x, hx => by
    show (if x = dH μ a i then dO a i else ysh μ a i x) ≤ 6
    split
    · unfold dO; omega
    · exact ysh_le hy i x hx
theorem ygo_lt {μ : Mu} (hy : HY μ) {a n : Nat} (hn : n < mn μ) : ∀ i, ygo μ a n i < 2 ^ mH μ
  | 0 => KWl hy hn
  | i + 1 => nx_lt hy.1 (ygo_lt hy hn i)
theorem ygo_mono {μ : Mu} {a n t : Nat} (h : (KW μ n).testBit t = true) : ∀ i, (ygo μ a n i).testBit t = true
  | 0 => h
  | i + 1 => nx_mono (ygo_mono h i)
theorem pcn_mono {K K' : Nat} : ∀ n, (∀ i, i < n → K.testBit i = true → K'.testBit i = true) → pcn K n ≤ pcn K' n
  | 0, _ => Nat.le_refl _
  | n + 1, h => by
    have h1 := pcn_mono n (fun i hi => h i (by omega))
    have h2 := h n (by omega)
    show pcn K n + K / 2 ^ n % 2 ≤ pcn K' n + K' / 2 ^ n % 2
    rw [Nat.testBit_eq_decide_div_mod_eq, Nat.testBit_eq_decide_div_mod_eq, decide_eq_true_eq, decide_eq_true_eq] at h2
    have a1 : K / 2 ^ n % 2 < 2 := Nat.mod_lt _ (by decide)
    have a2 : K' / 2 ^ n % 2 < 2 := Nat.mod_lt _ (by decide)
    omega
def orf (f : Nat → Nat) : Nat → Nat
  | 0 => 0
  | n + 1 => orf f n ||| f n
theorem orf_lt {f : Nat → Nat} : ∀ n, (∀ i, i < n → f i < 65536) → orf f n < 65536
  | 0, _ => (by decide : 0 < 65536)
  | n + 1, h => or_lt16 (orf_lt n (fun i hi => h i (by omega))) (h n (by omega))
def smf (f : Nat → Nat) : Nat → Nat
  | 0 => 0
  | n + 1 => smf f n + f n
theorem smf_le {f : Nat → Nat} {c : Nat} : ∀ n, (∀ i, i < n → f i ≤ c) → smf f n ≤ c * n
  | 0, _ => Nat.zero_le _
  | n + 1, h => by
    have h1 := smf_le (c := c) n (fun i hi => h i (by omega))
    have h2 := h n (by omega)
    show smf f n + f n ≤ c * (n + 1)
    rw [Nat.mul_add, Nat.mul_one]; omega
theorem N_draw {σ : St} {a i : Nat} (ha : a ≤ 9999) (hi : i ≤ 60) : f_X0_draw σ (nI a) (nI i) = some (nI (dr a i), σ) := by
  unfold f_X0_draw
  rw [y_I ha hi, nm_ok]
  have t1 : ¬ (65521 : Int64) = 0 := by decide
  have t2 : ¬ (2 : Int64) = 0 := by decide
  unfold nzl
  rw [if_neg t1, if_neg t2, d_I (by omega)]
  rfl
theorem dO_I {a i : Nat} : (nI (dr a i) / (16 : Int32)) - (nI (dr a i) / (16 : Int32)) / (7 : Int32) * (7 : Int32) = nI (dO a i) := by
  have h := dr_lt a i
  have h1 : nI (dr a i) / (16 : Int32) = nI (dr a i / 16) := pk_div (d := 16) (by omega) (by decide) (by decide)
  rw [h1]
  exact pk_rem (d := 7) (by omega) (by decide) (by decide)
theorem N_openBy {σ : St} {μ : Mu} (hq : QN σ μ) (hy : HY μ) {n a i K : Nat} {sh : Nat → Nat} (hn : n < mn μ) (hd : DR σ μ n K sh) : ∃ σ', f_X0_openByDraw__61 σ (nI (dr a i)) = some (0, σ') ∧ frD σ σ' ∧ DR σ' μ n K (fun x => if x = dH μ a i then dO a i else sh x) := by
  have hH := mH_pos hy.1
  have h := dr_lt a i
  have t16 : ¬ (16 : Int32) = 0 := by decide
  have t7 : ¬ (7 : Int32) = 0 := by decide
  have hdl : dH μ a i < mH μ := Nat.mod_lt _ (by omega)
  have hol : dO a i ≤ 6 := by unfold dO; omega
  obtain ⟨v, e1, e2, e3⟩ := N_reopen hy.1 hn hd hdl hol
  have hr : nI (dr a i) - nI (dr a i) / nI (mH μ) * nI (mH μ) = nI (dH μ a i) := pk_rem (by omega) (by omega) (by omega)
  refine ⟨v, ?_, e2, e3⟩
  unfold f_X0_openByDraw__61
  rw [N_houses hq.1, bnd_ok, if_neg (nI_nle (by omega) (by omega)), nz_ok (nI_ne0 (by omega) (by omega)), nz_ok t16, nz_ok t7, hr, dO_I, e1, bnd_ok]
def ygs (μ : Mu) (a m n : Nat) : Nat := pcn (ygo μ a n m) 16 - pcn (KW μ n) 16
theorem N_runYear {σ : St} {μ : Mu} (hq : QN σ μ) (hy : HY μ) {a m : Nat} (ha : a ≤ 9999) (hm : m ≤ 60) : ∃ σ', f_X0_runYear__61 σ (nI a) (nI m) = some (0, σ') ∧ sameN σ σ' ∧ σ' 61 2 = nI (pcn (orf (fun n => ygo μ a n m) (mn μ)) 16) ∧ σ' 61 3 = nI (smf (ygs μ a m) (mn μ)) := by
  have hH := mH_pos hy.1
  have hn5 : mn μ ≤ 5 := hy.1.2.2.1
  have s61 : ∀ (s : St) (j : Nat) (v : Int32), sameN s (pf s 61 j v) := fun s j v p hp => pf_ne (fun e => by subst e; exact absurd hp (by decide))
  unfold f_X0_runYear__61
  rw [nm_ok]
  refine lq2_run (P := fun o => ∃ σ', o = some (0, σ') ∧ sameN σ σ' ∧ σ' 61 2 = nI (pcn (orf (fun n => ygo μ a n m) (mn μ)) 16) ∧ σ' 61 3 = nI (smf (ygs μ a m) (mn μ))) (fun i t x y => sameN σ t ∧ x = nI (orf (fun n => ygo μ a n m) i) ∧ y = nI i ∧ t 61 3 = nI (smf (ygs μ a m) i)) (mn μ) ?_ 100000 0 _ 0 0 (Nat.zero_le _) (by omega) ⟨s61 _ _ _, rfl, rfl, pf_same⟩
  rintro i t x y hi ⟨hft, rfl, rfl, h3⟩ k
  have hqt := hq.same hft
  rcases Nat.lt_or_ge i (mn μ) with hl | hl
  · obtain ⟨v, e1, e2, e3⟩ := Q_pick hqt hy hl
    have hqv := hqt.fr e2
    rw [newsTold12 hqt.1, bnd_ok, if_neg (nI_ge hl (by omega)), e1, bnd_ok]
    unfold f_X1_whoKnows__56
    rw [bnd_ok, e3.1]
    refine Or.inl ⟨hl, ?_⟩
    refine lq2_run (P := fun o => ∃ (t' : St) (y1 y2 : Int32), (sameN σ t' ∧ y1 = nI (orf (fun n => ygo μ a n m) (i + 1)) ∧ y2 = nI (i + 1) ∧ t' 61 3 = nI (smf (ygs μ a m) (i + 1))) ∧ o = k t' y1 y2) (fun z u x y => frD v u ∧ x = nI (ygo μ a i z) ∧ y = nI z ∧ DR u μ i (KW μ i) (ysh μ a z)) m ?_ 100000 0 v _ 0 (Nat.zero_le _) (by omega) ⟨frD.rf, rfl, rfl, e3⟩
    rintro z u x y hz ⟨hfu, rfl, rfl, hdu⟩ k2
    have hqu := hqv.fr hfu
    have hgl := ygo_lt hy (a := a) hl z
    rcases Nat.lt_or_ge z m with hzl | hzl
    · obtain ⟨w, g1, g2, g3⟩ := N_openBy (a := a) (i := z) hqu hy hl hdu
      have hal := N_along hy.1 (hqu.fr g2).1 g3 (hqu.fr g2).2.1 (by have := hy.2.1; omega) hgl (Nat.le_succ z) (show z + 1 ≤ 100 by omega)
      rw [show z.succ - z = 1 by omega, alg_one] at hal
      rw [if_neg (nI_ge hzl (by omega)), N_draw ha (by omega), bnd_ok, g1, bnd_ok, nI_1, hal, bnd_ok, nm_ok]
      exact Or.inl ⟨hzl, w, _, _, ⟨hfu.tr g2, rfl, rfl, g3⟩, rfl⟩
    · have : z = m := by omega
      subst this
      have g61 : u 61 3 = nI (smf (ygs μ a z) i) := by rw [hfu 61 (by decide) (by decide) (by decide), e2 61 (by decide) (by decide) (by decide)]; exact h3
      have hmono : pcn (KW μ i) 16 ≤ pcn (ygo μ a i z) 16 := pcn_mono 16 (fun b _ hb => ygo_mono hb z)
      rw [if_pos (nI_le (Nat.le_refl _) (by omega)), nm_ok, N_bitCount (lt_16 hy.1 hgl), bnd_ok, bnd_ok, hdu.1, N_bitCount (lt_16 hy.1 (KWl hy hl)), bnd_ok, nm_ok, nm_ok, g61, pk_sub hmono, nI_add, nI_1, nx_or]
      exact Or.inr ⟨_, _, _, ⟨hft.tr ((e2.tr hfu).sm.tr (s61 _ _ _)), rfl, rfl, pf_same⟩, rfl⟩
  · have : i = mn μ := by omega
    subst this
    have ho := orf_lt (f := fun n => ygo μ a n m) (mn μ) (fun i hi => lt_16 hy.1 (ygo_lt hy hi m))
    rw [newsTold12 hqt.1, bnd_ok, if_pos (nI_le (Nat.le_refl _) (by omega)), N_bitCount ho, bnd_ok, nm_ok]
    exact Or.inr ⟨_, rfl, hft.tr (s61 _ _ _), pf_same, by rw [pf_nk (by decide)]; exact h3⟩
theorem M_knowers {τ : St} {μ : Mu} (hp : PM τ μ) (hw : WP μ) {s : Nat} {sh kn : Nat → Nat} (hN : NWs τ s sh kn) (hk : ∀ n, n < mn μ → kn n < 2 ^ mH μ) : f_X11_knowers__0 τ = some (nI (pcn (orf kn (mn μ)) 16), τ) := by
  have hn5 : mn μ ≤ 5 := hw.2.2.1
  have hmt : τ 0 4 = nI (mn μ) := hp.2.2.2.1
  have ho := orf_lt (f := kn) (mn μ) (fun i hi => lt_16 hw (hk i hi))
  unfold f_X11_knowers__0
  refine lq2_run (P := fun o => o = some (nI (pcn (orf kn (mn μ)) 16), τ)) (fun i t x y => t = τ ∧ x = nI (orf kn i) ∧ y = nI i) (mn μ) ?_ 100000 0 τ 0 0 (Nat.zero_le _) (by omega) ⟨rfl, rfl, rfl⟩
  rintro i t x y hi ⟨rfl, rfl, rfl⟩ k
  rw [hmt]
  rcases Nat.lt_or_ge i (mn μ) with hl | hl
  · have e17 : (17 : Int32) + nI i = nI (17 + i) := nI_add 17 i
    rw [if_neg (nI_ge hl (by omega)), e17, gd_nI (show 17 + i < 22 by omega) (by decide), nI_clamp (show 17 + i < 2 ^ 31 by omega), hN.2.2 i (by omega), nx_or, nm_ok, nm_ok, nI_1]
    exact Or.inl ⟨hl, t, _, _, ⟨rfl, rfl, rfl⟩, rfl⟩
  · have : i = mn μ := by omega
    subst this
    rw [if_pos (nI_le (Nat.le_refl _) (by omega)), M_bits ho, bnd_ok]
    exact Or.inr rfl
theorem M_allKnown {τ : St} {μ : Mu} (hp : PM τ μ) (hw : WP μ) {s : Nat} {sh kn : Nat → Nat} (hN : NWs τ s sh kn) (hk : ∀ n, n < mn μ → kn n < 2 ^ mH μ) : f_X11_allKnown__0 τ = some (nI (smf (fun n => pcn (kn n) 16) (mn μ)), τ) := by
  have hn5 : mn μ ≤ 5 := hw.2.2.1
  have hmt : τ 0 4 = nI (mn μ) := hp.2.2.2.1
  unfold f_X11_allKnown__0
  refine lq2_run (P := fun o => o = some (nI (smf (fun n => pcn (kn n) 16) (mn μ)), τ)) (fun i t x y => t = τ ∧ x = nI (smf (fun n => pcn (kn n) 16) i) ∧ y = nI i) (mn μ) ?_ 100000 0 τ 0 0 (Nat.zero_le _) (by omega) ⟨rfl, rfl, rfl⟩
  rintro i t x y hi ⟨rfl, rfl, rfl⟩ k
  rw [hmt]
  rcases Nat.lt_or_ge i (mn μ) with hl | hl
  · have e17 : (17 : Int32) + nI i = nI (17 + i) := nI_add 17 i
    rw [if_neg (nI_ge hl (by omega)), e17, gd_nI (show 17 + i < 22 by omega) (by decide), nI_clamp (show 17 + i < 2 ^ 31 by omega), hN.2.2 i (by omega), M_bits (lt_16 hw (hk i hl)), bnd_ok, nI_add, nm_ok, nm_ok, nI_1]
    exact Or.inl ⟨hl, t, _, _, ⟨rfl, rfl, rfl⟩, rfl⟩
  · have : i = mn μ := by omega
    subst this
    rw [if_pos (nI_le (Nat.le_refl _) (by omega))]
    exact Or.inr rfl
theorem orf_ext {f g : Nat → Nat} : ∀ n, (∀ i, i < n → f i = g i) → orf f n = orf g n
  | 0, _ => rfl
  | n + 1, h => by
    show orf f n ||| f n = orf g n ||| g n
    rw [orf_ext n (fun i hi => h i (by omega)), h n (by omega)]
theorem smf_sub {f g : Nat → Nat} : ∀ n, (∀ i, i < n → g i ≤ f i) → smf g n ≤ smf f n ∧ smf f n - smf g n = smf (fun i => f i - g i) n
  | 0, _ => ⟨Nat.le_refl _, rfl⟩
  | n + 1, h => by
    obtain ⟨h1, h2⟩ := smf_sub (f := f) (g := g) n (fun i hi => h i (by omega))
    have h3 := h n (by omega)
    show smf g n + g n ≤ smf f n + f n ∧ (smf f n + f n) - (smf g n + g n) = smf (fun i => f i - g i) n + (f n - g n)
    omega
theorem smf_ext {f g : Nat → Nat} : ∀ n, (∀ i, i < n → f i = g i) → smf f n = smf g n
  | 0, _ => rfl
  | n + 1, h => by
    show smf f n + f n = smf g n + g n
    rw [smf_ext n (fun i hi => h i (by omega)), h n (by omega)]
theorem st_year {k : Nat} {σ τ : St} (h : Rel k σ τ) (hk : k < 64) (x1 x2 x3 : Int32) : ST2 k (f_X10_year__0 σ x1 x2 x3) (f_X11_year__0 τ x1 x2 x3) := by
  obtain ⟨μ, hf, hn, hm⟩ := id h
  have hy := HY.of hf hk
  have hq := QN.of hn
  have hH := mH_pos hy.1
  have hn5 : mn μ ≤ 5 := hy.1.2.2.1
  unfold f_X10_year__0 f_X11_year__0
  rcases both_in (A := 0) (B := 9999) 0 9999 (by decide) (by decide) rfl rfl σ τ x1 with ⟨a, a1, a2, rfl, aN, aM⟩ | ⟨aN, aM⟩
  rotate_left
  · exact st_bad h (r := -1) (by simp only [aN, bnd_ok, c00, if_true]) (by simp only [aM, bnd_ok, c00, if_true])
  rw [aN, aM, bnd_ok, bnd_ok, if_neg n10, if_neg n10]
  rcases both_in (A := 1) (B := 60) 1 60 (by decide) (by decide) rfl rfl σ τ x2 with ⟨m, m1, m2, rfl, mN, mM⟩ | ⟨mN, mM⟩
  rotate_left
  · exact st_bad h (r := -1) (by simp only [mN, bnd_ok, c00, if_true]) (by simp only [mM, bnd_ok, c00, if_true])
  rw [mN, mM, bnd_ok, bnd_ok, if_neg n10, if_neg n10]
  rcases both_in (A := 0) (B := 1) 0 1 (by decide) (by decide) rfl rfl σ τ x3 with ⟨p, h1, h2, rfl, hN, hM⟩ | ⟨hN, hM⟩
  rotate_left
  · exact st_bad h (r := -1) (by simp only [hN, bnd_ok, c00, if_true]) (by simp only [hM, bnd_ok, c00, if_true])
  rw [hN, hM, bnd_ok, bnd_ok, if_neg n10, if_neg n10]
  obtain ⟨σ', e1, e2, e3, e4⟩ := N_runYear hq hy a2 m2
  have qp : (nI p = (0 : Int32)) = (p = 0) := nI_eqB (b := 0) (by omega) (by decide)
  have hNv : bnd (f_X0_runYear__61 σ (nI a) (nI m)) (fun r10 s11 => (if nI p = (0 : Int32) then bnd (f_X0_housesThatKnow__61 s11) (fun r14 s15 => some (r14, s15)) else bnd (f_X0_timesHeard__61 s11) (fun r12 s13 => some (r12, s13)))) = some (nI (if p = 0 then pcn (orf (fun n => ygo μ a n m) (mn μ)) 16 else smf (ygs μ a m) (mn μ)), σ') := by
    rw [e1, bnd_ok]
    unfold f_X0_housesThatKnow__61 f_X0_timesHeard__61
    simp only [qp, bnd_ok, e3, e4]
    split <;> rfl
  rw [hNv]
  obtain ⟨u, b1, b2, b3, b4, b5⟩ := NW_ask hm hy
  have hak := M_allKnown b3 hy.1 b5 (fun n hn => KWl hy hn)
  rw [b1, bnd_ok, hak, bnd_ok]
  suffices hMl : ∀ oM, (∃ τ', oM = some (nI (if p = 0 then pcn (orf (fun n => ygo μ a n m) (mn μ)) 16 else smf (ygs μ a m) (mn μ)), τ') ∧ sameM τ τ') → ST2 k (some (nI (if p = 0 then pcn (orf (fun n => ygo μ a n m) (mn μ)) 16 else smf (ygs μ a m) (mn μ)), σ')) oM by
    refine hMl _ ?_
    refine lq1_run (P := fun o => ∃ τ', o = some (nI (if p = 0 then pcn (orf (fun n => ygo μ a n m) (mn μ)) 16 else smf (ygs μ a m) (mn μ)), τ') ∧ sameM τ τ') (fun i t y => y = nI i ∧ only14 u t ∧ NWs t (μ 6 0 + i) (ysh μ a i) (fun n => if n < mn μ then ygo μ a n i else KW μ n)) m ?_ 100000 0 u 0 (Nat.zero_le _) (by omega) ⟨rfl, only14.rf, b5.ext (fun _ _ => rfl) (fun n _ => by by_cases e : n < mn μ <;> simp [e, ygo])⟩
    rintro i t y hi ⟨rfl, hot, hNt⟩ k1
    have hpt := b3.o14 hot
    have ht2 : t 0 2 = nI (mH μ) := hpt.2.2.1
    have hkn : ∀ n, n < mn μ → (fun n => if n < mn μ then ygo μ a n i else KW μ n) n < 2 ^ mH μ := fun n hn => by
      simp only [hn, if_true]; exact ygo_lt hy hn i
    rcases Nat.lt_or_ge i m with hl | hl
    · have t1 : ¬ (65521 : Int64) = 0 := by decide
      have t2 : ¬ (2 : Int64) = 0 := by decide
      have t16 : ¬ (16 : Int32) = 0 := by decide
      have t7 : ¬ (7 : Int32) = 0 := by decide
      have hdr := dr_lt a i
      have hdl : dH μ a i < mH μ := Nat.mod_lt _ (by omega)
      have hr : nI (dr a i) - nI (dr a i) / nI (mH μ) * nI (mH μ) = nI (dH μ a i) := pk_rem (by omega) (by omega) (by omega)
      have hdd : Int64.toInt32 (((lN (7919 * a + 6151 * i + 1) * lN (7919 * a + 6151 * i + 1)) - (lN (7919 * a + 6151 * i + 1) * lN (7919 * a + 6151 * i + 1)) / (65521 : Int64) * (65521 : Int64)) / (2 : Int64)) = nI (dr a i) := d_I (by omega)
      have e1d : (1 : Int32) + nI (dH μ a i) = nI (1 + dH μ a i) := nI_add 1 _
      have nw := hNt.setS (n := dH μ a i) (v := dO a i) (by omega)
      obtain ⟨v, c1, c2, c3⟩ := M_goes1 (hpt.o14 (only14.ps (i := nI (1 + dH μ a i)) (v := nI (dO a i)))) hy.1 nw ((b4.o14 hot).o14 only14.ps) hkn (ysh_le hy (i + 1)) (by have := hy.2.1; omega)
      rw [if_neg (nI_ge hl (by omega)), y_I a2 (by omega), nm_ok]
      unfold nzl
      rw [if_neg t1, if_neg t2, hdd, nm_ok, ht2, nz_ok (nI_ne0 (by omega) (by omega)), nz_ok t16, nz_ok t7, hr, dO_I, e1d, gd_nI (show 1 + dH μ a i < 22 by omega) (by decide), nm_ok, c1, bnd_ok, nm_ok, nI_1]
      refine Or.inl ⟨hl, v, _, ⟨rfl, hot.tr (only14.ps.tr c2), c3.ext (fun _ _ => rfl) (fun n _ => ?_)⟩, rfl⟩
      unfold akn
      by_cases e : n < mn μ
      · rw [if_pos ⟨e, rfl⟩]
        simp only [e, if_true]
        rfl
      · rw [if_neg (fun q => e q.1)]
        simp only [e, if_false]
    · have : i = m := by omega
      subst this
      rw [if_pos (nI_le (Nat.le_refl _) (by omega))]
      refine Or.inr ⟨t, ?_, b2.sm.tr hot.sm⟩
      have k1 := M_knowers hpt hy.1 hNt hkn
      have k2 := M_allKnown hpt hy.1 hNt hkn
      have o1 : orf (fun n => if n < mn μ then ygo μ a n i else KW μ n) (mn μ) = orf (fun n => ygo μ a n i) (mn μ) := orf_ext _ (fun n hn => by simp [hn])
      have o2 : smf (fun n => pcn (if n < mn μ then ygo μ a n i else KW μ n) 16) (mn μ) = smf (fun n => pcn (ygo μ a n i) 16) (mn μ) := smf_ext _ (fun n hn => by simp [hn])
      rw [o1] at k1
      rw [o2] at k2
      have hs := smf_sub (f := fun n => pcn (ygo μ a n i) 16) (g := fun n => pcn (KW μ n) 16) (mn μ) (fun n hn => pcn_mono 16 (fun b _ hb => ygo_mono hb i))
      rw [k1, k2, bnd_ok, bnd_ok, pk_sub hs.1, hs.2]
      simp only [qp]
      split <;> rfl
  rintro oM ⟨τ', d1, d2⟩
  exact st_same h rfl d1 e2 d2
