/-! house, news, wind, count -/
theorem N_knownIn {σ : St} {μ : Mu} (hq : QN σ μ) (hy : HY μ) {h : Nat} (hh : h < 16) : f_X9_knownIn__19 σ (nI h) = some (nI (mkm (fun n => (KW μ n).testBit h) 5), σ) := by
  unfold f_X9_knownIn__19
  refine lq2_run (P := fun o => o = some (nI (mkm (fun n => (KW μ n).testBit h) 5), σ)) (fun i t x y => t = σ ∧ x = nI (mkm (fun n => (KW μ n).testBit h) i) ∧ y = nI i) 5 ?_ 100000 0 σ 0 0 (Nat.zero_le _) (by omega) ⟨rfl, rfl, rfl⟩
  rintro i t x y hi ⟨rfl, rfl, rfl⟩ k
  rcases Nat.lt_or_ge i 5 with hl | hl
  · have h5 : ¬ (5 : Int32) ≤ nI i := nI_ge (b := 5) hl (by decide)
    have hk : t 21 i = nI (KW μ i) := hq.2.2.2 i hl
    refine Or.inl ⟨hl, t, _, _, ⟨rfl, rfl, rfl⟩, ?_⟩
    simp only [if_neg h5, jq1, f_X9_whoKnows__19, at_21 hl, bnd_ok, hk, N_holds (lt_16 hy.1 (hy.2.2.2 i hl)) hh, N_bit (show i < 16 by omega), nm_ok, nI_1]
    rw [← mkm_or]
    by_cases c : (KW μ i).testBit h = true
    · simp only [c, if_true, c10, if_false, nx_or]
    · simp only [c, if_true, c00, Bool.false_eq_true, if_false, Nat.or_zero]
  · have : i = 5 := by omega
    subst this
    exact Or.inr (by rw [if_pos (show (5 : Int32) ≤ nI 5 by decide)])
theorem mkm_cut {p : Nat → Bool} {m : Nat} : ∀ d, (∀ i, m ≤ i → i < m + d → p i = false) → mkm p (m + d) = mkm p m
  | 0, _ => rfl
  | d + 1, h => by
    show mkm p (m + d) + (if p (m + d) = true then 2 ^ (m + d) else 0) = mkm p m
    rw [h (m + d) (by omega) (by omega), if_neg (by decide), Nat.add_zero, mkm_cut d (fun i h1 h2 => h i h1 (by omega))]
theorem KW0 {k : Nat} {μ : Mu} (hf : WF k μ) {n : Nat} (hn : n < 5) (h : mn μ ≤ n) : KW μ n = 0 := (hf.2.1.2.2 n hn).2 h
theorem st_house {k : Nat} {σ τ : St} (h : Rel k σ τ) (hk : k < 64) (x1 x2 : Int32) : ST2 k (f_X10_house__0 σ x1 x2) (f_X11_house__0 τ x1 x2) := by
  obtain ⟨μ, hf, hn, hm⟩ := id h
  have hy := HY.of hf hk
  have hq := QN.of hn
  have hH := mH_pos hy.1
  have hn5 : mn μ ≤ 5 := hy.1.2.2.1
  unfold f_X10_house__0 f_X11_house__0
  rcases both_house hq.1 hm.1 hy.1 x1 with ⟨g, g1, rfl, gN, gM⟩ | ⟨gN, gM⟩
  rotate_left
  · exact st_bad h (r := -1) (by simp only [gN, bnd_ok, c00, if_true]) (by simp only [gM, bnd_ok, c00, if_true])
  rw [gN, gM, bnd_ok, bnd_ok, if_neg n10, if_neg n10]
  obtain ⟨u, b1, b2, b3, b4, b5⟩ := NW_ask hm hy
  have hmu := hm.same b2.sm
  rw [b1, bnd_ok]
  by_cases e0 : x2 = 0
  · rw [if_pos e0, if_pos e0]
    refine st_same h (r := nI (μ 1 g)) (σ' := σ) ?_ ?_ sameN.rf b2.sm
    · simp only [f_X4_kindOf__12, at_13 (show g < 16 by omega), bnd_ok]
      rw [hq.1.2.2.2.2.2.2.1 g (by omega)]
    · rw [gd_nI (show g < 16 by omega) (by decide), nI_clamp (by omega), hmu.1.2.2.2.2.2.1 g (by omega)]
  rw [if_neg e0, if_neg e0]
  by_cases e1 : x2 = 1
  · rw [if_pos e1, if_pos e1]
    have e1g : (1 : Int32) + nI g = nI (1 + g) := nI_add 1 g
    refine st_same h (r := nI (SH μ g)) (σ' := σ) ?_ ?_ sameN.rf b2.sm
    · simp only [f_X9_sashOf__19, at_20 (show g < 16 by omega), bnd_ok]
      rw [hq.2.2.1 g (by omega)]; rfl
    · rw [e1g, gd_nI (show 1 + g < 22 by omega) (by decide), nI_clamp (by omega), hmu.2.2.1 _ (by omega)]; rfl
  rw [if_neg e1, if_neg e1]
  by_cases e2 : x2 = 2
  · rw [if_pos e2, if_pos e2]
    have hN := N_knownIn hq hy (h := g) (by omega)
    have hM := M_known (h := g) b3 hy.1 b5 (fun n hn => KWl hy hn) (by omega)
    have hc : mkm (fun n => (KW μ n).testBit g) 5 = mkm (fun n => (KW μ n).testBit g) (mn μ) := by
      have := mkm_cut (p := fun n => (KW μ n).testBit g) (m := mn μ) (5 - mn μ) (fun i h1 h2 => by
        simp only [KW0 hf (show i < 5 by omega) h1, Nat.zero_testBit])
      rw [show mn μ + (5 - mn μ) = 5 by omega] at this
      exact this
    refine st_same h (r := nI (mkm (fun n => (KW μ n).testBit g) (mn μ))) (σ' := σ) ?_ ?_ sameN.rf b2.sm
    · rw [hN, bnd_ok, hc]
    · rw [hM, bnd_ok]
  rw [if_neg e2, if_neg e2]
  exact st_same h rfl rfl sameN.rf b2.sm
theorem st_news {k : Nat} {σ τ : St} (h : Rel k σ τ) (hk : k < 64) (x1 x2 : Int32) : ST2 k (f_X10_news__0 σ x1 x2) (f_X11_news__0 τ x1 x2) := by
  obtain ⟨μ, hf, hn, hm⟩ := id h
  have hy := HY.of hf hk
  have hq := QN.of hn
  have hn5 : mn μ ≤ 5 := hy.1.2.2.1
  unfold f_X10_news__0 f_X11_news__0
  rcases both_news hq.1 hm.1 hy.1 x1 with ⟨j, j1, rfl, jN, jM⟩ | ⟨jN, jM⟩
  rotate_left
  · exact st_bad h (r := -1) (by simp only [jN, bnd_ok, c00, if_true]) (by simp only [jM, bnd_ok, c00, if_true])
  rw [jN, jM, bnd_ok, bnd_ok, if_neg n10, if_neg n10]
  have e3 : ∀ x, (3 : Int32) * nI j + nI x = nI (3 * j + x) := fun x => by rw [show (3 : Int32) * nI j = nI (3 * j) from pk_mul 3 j]; exact nI_add _ x
  obtain ⟨p0, p1, p2⟩ := hq.1.2.2.2.2.2.2.2.1 j j1
  obtain ⟨r0, r1, r2⟩ := hm.1.2.2.2.2.2.2.1 j j1
  rcases both_in (A := 0) (B := 3) 0 3 (by decide) (by decide) rfl rfl σ τ x2 with ⟨a, a1, a2, rfl, aN, aM⟩ | ⟨aN, aM⟩
  · rw [aM, bnd_ok, if_neg n10]
    have : a = 0 ∨ a = 1 ∨ a = 2 ∨ a = 3 := by omega
    rcases this with e | e | e | e <;> subst e
    · refine st_bad h (r := nI (μ 2 j)) ?_ ?_
      · rw [if_pos (by decide)]
        simp only [f_X4_newsKindOf__12, at_15 (show j < 5 by omega), bnd_ok, p0]
      · rw [if_neg (by decide), e3, gd_nI (show 3 * j + 0 < 15 by omega) (by decide), nI_clamp (by omega), Nat.add_zero, r0]
    · refine st_bad h (r := nI (μ 3 j)) ?_ ?_
      · rw [if_neg (by decide), if_pos (by decide)]
        simp only [f_X4_weightOf__12, at_16 (show j < 5 by omega), bnd_ok, p1]
      · rw [if_neg (by decide), e3, gd_nI (show 3 * j + 1 < 15 by omega) (by decide), nI_clamp (by omega), r1]
    · refine st_bad h (r := nI (μ 4 j)) ?_ ?_
      · rw [if_neg (by decide), if_neg (by decide), if_pos (by decide)]
        simp only [f_X4_beginningOf__12, at_17 (show j < 5 by omega), bnd_ok, p2]
      · rw [if_neg (by decide), e3, gd_nI (show 3 * j + 2 < 15 by omega) (by decide), nI_clamp (by omega), r2]
    · have e17 : (17 : Int32) + nI j = nI (17 + j) := nI_add 17 j
      have hk1 : σ 21 j = nI (KW μ j) := hq.2.2.2 j (by omega)
      have hk2 : τ 4 (17 + j) = nI (KW μ j) := hm.2.2.1 _ (by omega)
      have hl := lt_16 hy.1 (KWl hy j1)
      refine st_bad h (r := nI (pcn (KW μ j) 16)) ?_ ?_
      · rw [if_neg (by decide), if_neg (by decide), if_neg (by decide), if_pos (by decide)]
        simp only [f_X9_whoKnows__19, at_21 (show j < 5 by omega), bnd_ok, hk1, N_bitCount hl]
      · rw [if_pos (by decide), e17, gd_nI (show 17 + j < 22 by omega) (by decide), nI_clamp (by omega), hk2, M_bits hl, bnd_ok]
  · rw [aM, bnd_ok, if_pos rfl]
    have hne : ∀ c, c ≤ 3 → ¬ x2 = nI c := fun c hc q => by
      subst q
      have hc3 := aN σ
      rw [N_within (show ¬ nI c < 0 from nI_pos (by omega)) (show ¬ (3 : Int32) < nI c from nI_nlt (b := c) (a := 3) hc (by decide))] at hc3
      injection hc3 with hc3
      injection hc3 with hc3 _
      exact absurd hc3 (by decide)
    refine st_bad h (r := -1) ?_ rfl
    have n0 : ¬ x2 = 0 := hne 0 (by decide)
    have n1 : ¬ x2 = 1 := hne 1 (by decide)
    have n2 : ¬ x2 = 2 := hne 2 (by decide)
    have n3 : ¬ x2 = 3 := hne 3 (by decide)
    rw [if_neg n0, if_neg n1, if_neg n2, if_neg n3]
theorem st_wind {k : Nat} {σ τ : St} (h : Rel k σ τ) (hk : k < 64) (x1 : Int32) : ST2 k (f_X10_wind__0 σ x1) (f_X11_wind__0 τ x1) := by
  obtain ⟨μ, hf, hn, hm⟩ := id h
  have hy := HY.of hf hk
  have hq := QN.of hn
  unfold f_X10_wind__0 f_X11_wind__0
  rcases both_in (A := 0) (B := 99) 0 99 (by decide) (by decide) rfl rfl σ τ x1 with ⟨a, a1, a2, rfl, aN, aM⟩ | ⟨aN, aM⟩
  rotate_left
  · exact st_bad h (r := -1) (by simp only [aN, bnd_ok, c00, if_true]) (by simp only [aM, bnd_ok, c00, if_true])
  have e0 : Int32.toNatClampNeg (0 : Int32) = 0 := by decide
  have hg : ∀ k : Ot, gd 0 22 k = k := fun k => gd_nI (j := 0) (by decide) (by decide)
  have h4 : τ 4 0 = nI (μ 6 0) := hm.2.2.1 0 (by decide)
  have hs := hy.2.1
  unfold f_X9_stepsGone__19
  rw [aN, bnd_ok, if_neg n10, bnd_ok, hq.2.1, nI_add, N_windOf hq.1 hy.1 (by omega), bnd_ok, aM, bnd_ok, if_neg n10, hg, e0, h4, nI_add, M_windOf hm.1 hy.1 (by omega), bnd_ok]
  exact st_bad h rfl rfl
theorem N_any {σ : St} {μ : Mu} (hq : QN σ μ) : f_X9_whoKnowsAny__19 σ = some (nI (orf (KW μ) 5), σ) := by
  unfold f_X9_whoKnowsAny__19
  refine lq2_run (P := fun o => o = some (nI (orf (KW μ) 5), σ)) (fun i t x y => t = σ ∧ x = nI (orf (KW μ) i) ∧ y = nI i) 5 ?_ 100000 0 σ 0 0 (Nat.zero_le _) (by omega) ⟨rfl, rfl, rfl⟩
  rintro i t x y hi ⟨rfl, rfl, rfl⟩ k
  rcases Nat.lt_or_ge i 5 with hl | hl
  · have h5 : ¬ (5 : Int32) ≤ nI i := nI_ge (b := 5) hl (by decide)
    have hk : t 21 i = nI (KW μ i) := hq.2.2.2 i hl
    refine Or.inl ⟨hl, t, _, _, ⟨rfl, rfl, rfl⟩, ?_⟩
    simp only [if_neg h5, f_X9_whoKnows__19, at_21 hl, bnd_ok, hk, nx_or, nm_ok, nI_1]
    rfl
  · have : i = 5 := by omega
    subst this
    exact Or.inr (by rw [if_pos (show (5 : Int32) ≤ nI 5 by decide)])
theorem orf_cut {f : Nat → Nat} {m : Nat} : ∀ d, (∀ i, m ≤ i → i < m + d → f i = 0) → orf f (m + d) = orf f m
  | 0, _ => rfl
  | d + 1, h => by
    show orf f (m + d) ||| f (m + d) = orf f m
    rw [h (m + d) (by omega) (by omega), Nat.or_zero, orf_cut d (fun i h1 h2 => h i h1 (by omega))]
theorem st_count {k : Nat} {σ τ : St} (h : Rel k σ τ) (hk : k < 64) (x1 : Int32) : ST2 k (f_X10_count__0 σ x1) (f_X11_count__0 τ x1) := by
  obtain ⟨μ, hf, hn, hm⟩ := id h
  have hy := HY.of hf hk
  have hq := QN.of hn
  have hn5 : mn μ ≤ 5 := hy.1.2.2.1
  unfold f_X10_count__0 f_X11_count__0
  obtain ⟨u, b1, b2, b3, b4, b5⟩ := NW_ask hm hy
  have hmu := hm.same b2.sm
  obtain ⟨m2, m3, -⟩ := hmu.m
  rw [b1, bnd_ok]
  by_cases e0 : x1 = 0
  · rw [if_pos e0, if_pos e0, N_houses hq.1, bnd_ok, hmu.1.2.2.1]
    exact st_same h rfl rfl sameN.rf b2.sm
  rw [if_neg e0, if_neg e0]
  by_cases e1 : x1 = 1
  · unfold f_X4_rows__12
    rw [if_pos e1, if_pos e1, bnd_ok, hq.1.1, hmu.1.1]
    exact st_same h rfl rfl sameN.rf b2.sm
  rw [if_neg e1, if_neg e1]
  by_cases e2 : x1 = 2
  · rw [if_pos e2, if_pos e2, newsTold12 hq.1, bnd_ok, hmu.1.2.2.2.1]
    exact st_same h rfl rfl sameN.rf b2.sm
  rw [if_neg e2, if_neg e2]
  by_cases e3 : x1 = 3
  · rw [if_pos e3, if_pos e3, N_windsInTurn hq.1 hy.1, bnd_ok, hmu.1.2.2.2.2.1]
    exact st_same h rfl rfl sameN.rf b2.sm
  rw [if_neg e3, if_neg e3]
  by_cases e4 : x1 = 4
  · have z : Int32.toNatClampNeg (0 : Int32) = 0 := by decide
    have hg : ∀ k : Ot, gd 0 22 k = k := fun k => gd_nI (j := 0) (by decide) (by decide)
    unfold f_X9_stepsGone__19
    rw [if_pos e4, if_pos e4, bnd_ok, hq.2.1, hg, z, m3 0 (by decide)]
    exact st_same h rfl rfl sameN.rf b2.sm
  rw [if_neg e4, if_neg e4]
  by_cases e5 : x1 = 5
  · have ho := orf_lt (f := KW μ) 5 (fun i hi => lt_16 hy.1 (hy.2.2.2 i hi))
    have hc := orf_cut (f := KW μ) (m := mn μ) (5 - mn μ) (fun i h1 h2 => KW0 hf (by omega) h1)
    rw [show mn μ + (5 - mn μ) = 5 by omega] at hc
    rw [if_pos e5, if_pos e5, N_any hq, bnd_ok, N_bitCount ho, bnd_ok, M_knowers b3 hy.1 b5 (fun n hn => KWl hy hn), bnd_ok, hc]
    exact st_same h rfl rfl sameN.rf b2.sm
  rw [if_neg e5, if_neg e5]
  by_cases e6 : x1 = 6
  · unfold f_X8_size__62
    rw [if_pos e6, if_pos e6, bnd_ok, hn.v.1, m2.2.2.1]
    exact st_same h rfl rfl sameN.rf b2.sm
  rw [if_neg e6, if_neg e6]
  by_cases e7 : x1 = 7
  · unfold f_X5_size__22
    rw [if_pos e7, if_pos e7, bnd_ok, hn.u.1, m2.1]
    exact st_same h rfl rfl sameN.rf b2.sm
  rw [if_neg e7, if_neg e7]
  by_cases e8 : x1 = 8
  · unfold f_X5_size__48
    rw [if_pos e8, if_pos e8, bnd_ok, hn.k.1, m2.2.1]
    exact st_same h rfl rfl sameN.rf b2.sm
  rw [if_neg e8, if_neg e8]
  by_cases e9 : x1 = 9
  · unfold f_X7_length__1
    rw [if_pos e9, if_pos e9, bnd_ok, hn.t.1, m2.2.2.2]
    exact st_same h rfl rfl sameN.rf b2.sm
  rw [if_neg e9, if_neg e9]
  exact st_same h rfl rfl sameN.rf b2.sm
