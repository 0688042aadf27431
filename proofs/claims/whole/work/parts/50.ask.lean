/-! questions: behind, when, last, bears -/
def HY (μ : Mu) : Prop := WP μ ∧ μ 6 0 ≤ 2000 ∧ (∀ h, h < 16 → SH μ h ≤ 6) ∧ ∀ n, n < 5 → KW μ n < 2 ^ mH μ
def QN (σ : St) (μ : Mu) : Prop := PN σ 12 μ ∧ SNt σ 19 (μ 6)
theorem HY.of {k : Nat} {μ : Mu} (h : WF k μ) (hk : k < 64) : HY μ := by
  obtain ⟨h1, ⟨h2, h3, h4⟩, -⟩ := h
  exact ⟨h1, by omega, h3, fun n hn => (h4 n hn).1⟩
theorem QN.of {k : Nat} {σ : St} {μ : Mu} (h : RN k σ μ) : QN σ μ := ⟨h.2.1, h.2.2.1⟩
theorem QN.same {σ σ' : St} {μ : Mu} (h : QN σ μ) (hs : sameN σ σ') : QN σ' μ := ⟨h.1.same hs, h.2.same (hs 19 rfl) (hs 20 rfl) (hs 21 rfl)⟩
theorem QN.fr {σ σ' : St} {μ : Mu} (h : QN σ μ) (hs : frD σ σ') : QN σ' μ := h.same hs.sm
theorem Q_pick {σ : St} {μ : Mu} (hq : QN σ μ) (hy : HY μ) {n : Nat} (hn : n < mn μ) : ∃ σ', f_X1_pick__56 σ (nI n) = some (0, σ') ∧ frD σ σ' ∧ DR σ' μ n (KW μ n) (SH μ) := N_pick hy.1 hq.1 hq.2 hy.2.2.1 hn
theorem Q_hears {σ : St} {μ : Mu} (hq : QN σ μ) (hy : HY μ) {n h m K : Nat} {sh : Nat → Nat} (hd : DR σ μ n K sh) (hK : K < 2 ^ mH μ) (hm : m ≤ 100) (hh : h < 16) : f_X1_hears__56 σ (nI h) (nI m) = some (if (alg μ n sh (μ 6 0) m K).testBit h = true then 1 else 0, σ) := N_hears hy.1 hq.1 hd hq.2.1 (by have := hy.2.1; omega) hK hm hh
theorem KWl {μ : Mu} (hy : HY μ) {n : Nat} (hn : n < mn μ) : KW μ n < 2 ^ mH μ := hy.2.2.2 n (by have := hy.1.2.2.1; omega)
theorem newsTold12 {σ : St} {μ : Mu} (h : PN σ 12 μ) : f_X4_newsTold__12 σ = some (nI (mn μ), σ) := by
  unfold f_X4_newsTold__12; rw [h.2.2.2.2.1]
theorem N_knownBehind {σ : St} {μ : Mu} (hq : QN σ μ) (hy : HY μ) {m h : Nat} (hm : m ≤ 100) (hh : h < 16) : ∃ σ', f_X3_knownBehind__59 σ (nI m) (nI h) = some (nI (mkm (fun n => (alg μ n (SH μ) (μ 6 0) m (KW μ n)).testBit h) (mn μ)), σ') ∧ frD σ σ' := by
  have hn5 : mn μ ≤ 5 := hy.1.2.2.1
  unfold f_X3_knownBehind__59
  refine lq2_run (P := fun o => ∃ σ', o = some (nI (mkm (fun n => (alg μ n (SH μ) (μ 6 0) m (KW μ n)).testBit h) (mn μ)), σ') ∧ frD σ σ') (fun i t x y => frD σ t ∧ x = nI (mkm (fun n => (alg μ n (SH μ) (μ 6 0) m (KW μ n)).testBit h) i) ∧ y = nI i) (mn μ) ?_ 100000 0 σ 0 0 (Nat.zero_le _) (by omega) ⟨frD.rf, rfl, rfl⟩
  rintro i t x y hi ⟨hf, rfl, rfl⟩ k
  have hqt := hq.fr hf
  rcases Nat.lt_or_ge i (mn μ) with hl | hl
  · obtain ⟨u, e1, e2, e3⟩ := Q_pick hqt hy hl
    refine Or.inl ⟨hl, u, _, _, ⟨hf.tr e2, rfl, rfl⟩, ?_⟩
    simp only [newsTold12 hqt.1, bnd_ok, if_neg (nI_ge hl (show mn μ < 2 ^ 31 by omega)), jq1, e1, Q_hears (hqt.fr e2) hy e3 (KWl hy hl) hm hh, N_bit (show i < 16 by omega), nm_ok, nI_1]
    rw [← mkm_or]
    by_cases c : (alg μ i (SH μ) (μ 6 0) m (KW μ i)).testBit h = true
    · simp only [c, if_true, c10, if_false, nx_or]
    · simp only [c, if_true, c00, Bool.false_eq_true, if_false, Nat.or_zero]
  · have : i = mn μ := by omega
    subst this
    exact Or.inr ⟨t, by simp only [newsTold12 hqt.1, bnd_ok, if_pos (nI_le (Nat.le_refl (mn μ)) (show mn μ < 2 ^ 31 by omega))], hf⟩
theorem n10 : ¬ (1 : Int32) = 0 := by decide
theorem st_bad {k : Nat} {σ τ : St} (h : Rel k σ τ) {r : Int32} {oN oM : Ot} (hN : oN = some (r, σ)) (hM : oM = some (r, τ)) : ST2 k oN oM := st_same h hN hM sameN.rf sameM.rf
theorem NW_ask {τ : St} {μ : Mu} (hm : RM τ μ) (hy : HY μ) : ∃ τ', f_X11_asItIs__0 τ = some (0, τ') ∧ frA τ τ' ∧ PM τ' μ ∧ ONL τ' 9 ∧ NWs τ' (μ 6 0) (SH μ) (KW μ) := by
  obtain ⟨t, e1, e2, e3, e4⟩ := M_asItIs hm
  exact ⟨t, e1, e2, hm.1.same e2.sm, e3, e4⟩
theorem NW_askOf {τ : St} {μ : Mu} (hm : RM τ μ) (hy : HY μ) {n : Nat} (hn : n < mn μ) : ∃ τ', f_X11_asItIsOf__0 τ (nI n) = some (0, τ') ∧ frA τ τ' ∧ PM τ' μ ∧ ONL τ' n ∧ NWs τ' (μ 6 0) (SH μ) (KW μ) := by
  obtain ⟨t, e1, e2, e3, e4⟩ := M_asItIsOf hm (n := n) (by have := hy.1.2.2.1; omega)
  exact ⟨t, e1, e2, hm.1.same e2.sm, e3, e4⟩
theorem st_behind {k : Nat} {σ τ : St} (h : Rel k σ τ) (hk : k < 64) (x1 x2 : Int32) : ST2 k (f_X10_behind__0 σ x1 x2) (f_X11_behind__0 τ x1 x2) := by
  obtain ⟨μ, hf, hn, hm⟩ := id h
  have hy := HY.of hf hk
  have hq := QN.of hn
  unfold f_X10_behind__0 f_X11_behind__0
  rcases both_in (A := 0) (B := 48) 0 48 (by decide) (by decide) rfl rfl σ τ x1 with ⟨j, h1, h2, rfl, hN, hM⟩ | ⟨hN, hM⟩
  rotate_left
  · exact st_bad h (r := -1) (by simp only [hN, bnd_ok, c00, if_true]) (by simp only [hM, bnd_ok, c00, if_true])
  rw [hN, hM, bnd_ok, bnd_ok, if_neg n10, if_neg n10]
  rcases both_house hq.1 hm.1 hy.1 x2 with ⟨g, g1, rfl, gN, gM⟩ | ⟨gN, gM⟩
  rotate_left
  · exact st_bad h (r := -1) (by simp only [gN, bnd_ok, c00, if_true]) (by simp only [gM, bnd_ok, c00, if_true])
  rw [gN, gM, bnd_ok, bnd_ok, if_neg n10, if_neg n10]
  have hH := mH_pos hy.1
  obtain ⟨σ', e1, e2⟩ := N_knownBehind hq hy (m := j) (h := g) (by omega) (by omega)
  obtain ⟨t, a1, a2, a3, a4, a5⟩ := NW_ask hm hy
  obtain ⟨t2, b1, b2, b3⟩ := M_goes a3 hy.1 a5 a4 (fun n hn => KWl hy hn) hy.2.2.1 (by have := hy.2.1; omega) (show j ≤ 60 by omega)
  have kk : ∀ n, n < mn μ → akn μ (SH μ) (μ 6 0) 9 j (KW μ) n = alg μ n (SH μ) (μ 6 0) j (KW μ n) := fun n hn => by
    unfold akn; rw [if_pos ⟨hn, rfl⟩]
  have c1 := M_known (h := g) (a3.o14 b2) hy.1 b3 (fun n hn => by rw [kk n hn]; exact alg_lt hy.1 (KWl hy hn) _) (by omega)
  rw [e1, a1, bnd_ok, bnd_ok, b1, bnd_ok, c1, bnd_ok]
  refine st_same h rfl ?_ e2.sm (a2.sm.tr b2.sm)
  rw [mkm_ext (q := fun n => (alg μ n (SH μ) (μ 6 0) j (KW μ n)).testBit g) (fun n hn => by rw [kk n hn])]
/-- when a house first hears -/
def fh (μ : Mu) (n h : Nat) : Int32 := fhr μ n (SH μ) (μ 6 0) h 49 0 (KW μ n)
theorem N_firstHeard {σ : St} {μ : Mu} (hq : QN σ μ) (hy : HY μ) {n h : Nat} (hn : n < mn μ) (hh : h < 16) : ∃ σ', f_X3_firstHeard__59 σ (nI h) (nI n) = some (fh μ n h, σ') ∧ frD σ σ' := by
  obtain ⟨u, e1, e2, e3⟩ := Q_pick hq hy hn
  have hqu := hq.fr e2
  unfold f_X3_firstHeard__59
  rw [e1, bnd_ok]
  unfold f_X1_whoKnows__56
  rw [bnd_ok, e3.1]
  refine lq2_run (P := fun o => ∃ σ', o = some (fh μ n h, σ') ∧ frD σ σ') (fun i t x y => t = u ∧ y = nI i ∧ ∃ K, K < 2 ^ mH μ ∧ x = nI K ∧ fh μ n h = fhr μ n (SH μ) (μ 6 0) h (49 - i) i K) 49 ?_ 100000 0 u (nI (KW μ n)) 0 (Nat.zero_le _) (by omega) ⟨rfl, rfl, _, KWl hy hn, rfl, rfl⟩
  rintro i t x y hi ⟨rfl, rfl, K, hK, rfl, h3⟩ k
  rcases Nat.lt_or_ge i 49 with hl | hl
  · have h48 : ¬ (48 : Int32) < nI i := nI_nlt (b := i) (a := 48) (by omega) (by decide)
    rw [h3, show 49 - i = (48 - i) + 1 by omega, fhr]
    have hal := N_along hy.1 hqu.1 e3 hqu.2.1 (by have := hy.2.1; omega) hK (Nat.le_succ i) (show i + 1 ≤ 100 by omega)
    rw [show i.succ - i = 1 by omega, alg_one] at hal
    simp only [if_neg h48, N_holds (lt_16 hy.1 hK) hh, bnd_ok, nI_1]
    by_cases c : K.testBit h = true
    · simp only [c, if_true, c10, if_false]
      exact Or.inr ⟨t, rfl, e2⟩
    · simp only [c, if_true, c00, Bool.false_eq_true, if_false, hal, bnd_ok, nm_ok]
      exact Or.inl ⟨hl, t, _, _, ⟨rfl, rfl, _, nx_lt hy.1 hK, rfl, by rw [show 49 - (i + 1) = 48 - i by omega]⟩, rfl⟩
  · have : i = 49 := by omega
    subst this
    refine Or.inr ⟨t, ?_, e2⟩
    rw [if_pos (show (48 : Int32) < nI 49 by decide), h3]
    rfl
theorem M_firstHeard {τ : St} {μ : Mu} (hm : RM τ μ) (hy : HY μ) {n h : Nat} (hn : n < mn μ) (hh : h < 16) : ∃ t τ', f_X11_asItIsOf__0 τ (nI n) = some (0, t) ∧ f_X11_knowsBehind__0 t (nI h) (nI n) = some (fh μ n h, τ') ∧ frA τ τ' := by
  obtain ⟨t, a1, a2, a3, a4, a5⟩ := NW_askOf hm hy hn
  obtain ⟨t2, b1, b2⟩ := M_knowsBehind a3 hy.1 a5 a4 (fun n hn => KWl hy hn) hy.2.2.1 (by have := hy.2.1; omega) hh hn
  exact ⟨t, t2, a1, b1, a2.tr b2.fr⟩
theorem st_when {k : Nat} {σ τ : St} (h : Rel k σ τ) (hk : k < 64) (x1 x2 : Int32) : ST2 k (f_X10_when__0 σ x1 x2) (f_X11_when__0 τ x1 x2) := by
  obtain ⟨μ, hf, hn, hm⟩ := id h
  have hy := HY.of hf hk
  have hq := QN.of hn
  have hH := mH_pos hy.1
  unfold f_X10_when__0 f_X11_when__0
  rcases both_house hq.1 hm.1 hy.1 x1 with ⟨g, g1, rfl, gN, gM⟩ | ⟨gN, gM⟩
  rotate_left
  · exact st_bad h (r := -1) (by simp only [gN, bnd_ok, c00, if_true]) (by simp only [gM, bnd_ok, c00, if_true])
  rw [gN, gM, bnd_ok, bnd_ok, if_neg n10, if_neg n10]
  rcases both_news hq.1 hm.1 hy.1 x2 with ⟨j, j1, rfl, jN, jM⟩ | ⟨jN, jM⟩
  rotate_left
  · exact st_bad h (r := -1) (by simp only [jN, bnd_ok, c00, if_true]) (by simp only [jM, bnd_ok, c00, if_true])
  rw [jN, jM, bnd_ok, bnd_ok, if_neg n10, if_neg n10]
  obtain ⟨σ', e1, e2⟩ := N_firstHeard hq hy j1 (h := g) (by omega)
  obtain ⟨t, τ', a1, a2, a3⟩ := M_firstHeard hm hy j1 (h := g) (by omega)
  rw [e1, a1, bnd_ok, bnd_ok, a2, bnd_ok]
  exact st_same h rfl rfl e2.sm a3.sm
def lst (μ : Mu) (n : Nat) : Nat → Int32 × Int32
  | 0 => (-4, 0)
  | i + 1 => if fh μ n i ≤ 0 then lst μ n i else if fh μ n i < (lst μ n i).2 then lst μ n i else (nI i, fh μ n i)
theorem lst_in {μ : Mu} {n : Nat} : ∀ i, lst μ n i = (-4, 0) ∨ ∃ h, h < i ∧ lst μ n i = (nI h, fh μ n h)
  | 0 => Or.inl rfl
  | i + 1 => by
    have ih := lst_in (μ := μ) (n := n) i
    have up : (lst μ n i = (-4, 0) ∨ ∃ h, h < i + 1 ∧ lst μ n i = (nI h, fh μ n h)) := by
      rcases ih with q | ⟨h, h1, h2⟩
      · exact Or.inl q
      · exact Or.inr ⟨h, by omega, h2⟩
    show (if fh μ n i ≤ 0 then lst μ n i else if fh μ n i < (lst μ n i).2 then lst μ n i else (nI i, fh μ n i)) = _ ∨ ∃ h, h < i + 1 ∧ (if fh μ n i ≤ 0 then lst μ n i else if fh μ n i < (lst μ n i).2 then lst μ n i else (nI i, fh μ n i)) = _
    by_cases a : fh μ n i ≤ 0
    · rw [if_pos a]; exact up
    · rw [if_neg a]
      by_cases b : fh μ n i < (lst μ n i).2
      · rw [if_pos b]; exact up
      · rw [if_neg b]; exact Or.inr ⟨i, by omega, rfl⟩
theorem N_latest {σ : St} {μ : Mu} (hq : QN σ μ) (hy : HY μ) {n : Nat} (hn : n < mn μ) : ∃ σ', f_X3_latestHouse__59 σ (nI n) = some ((lst μ n (mH μ)).1, σ') ∧ frD σ σ' := by
  have hH := mH_pos hy.1
  unfold f_X3_latestHouse__59
  refine lq3_run (P := fun o => ∃ σ', o = some ((lst μ n (mH μ)).1, σ') ∧ frD σ σ') (fun i t x y z => frD σ t ∧ x = (lst μ n i).1 ∧ y = (lst μ n i).2 ∧ z = nI i) (mH μ) ?_ 100000 0 σ (-4) 0 0 (Nat.zero_le _) (by omega) ⟨frD.rf, rfl, rfl, rfl⟩
  rintro i t x y z hi ⟨hf, rfl, rfl, rfl⟩ k
  have hqt := hq.fr hf
  rcases Nat.lt_or_ge i (mH μ) with hl | hl
  · obtain ⟨u, e1, e2⟩ := N_firstHeard hqt hy hn (h := i) (by omega)
    refine Or.inl ⟨hl, u, _, _, _, ⟨hf.tr e2, rfl, rfl, rfl⟩, ?_⟩
    simp only [N_houses hqt.1, bnd_ok, if_neg (nI_ge hl (show mH μ < 2 ^ 31 by omega)), jq2, e1, nm_ok, nI_1]
    have e : lst μ n (i + 1) = if fh μ n i ≤ 0 then lst μ n i else if fh μ n i < (lst μ n i).2 then lst μ n i else (nI i, fh μ n i) := rfl
    rw [e]
    by_cases a : fh μ n i ≤ 0
    · simp only [if_pos a]
    · by_cases b : fh μ n i < (lst μ n i).2
      · simp only [if_neg a, if_pos b]
      · simp only [if_neg a, if_neg b]
  · have : i = mH μ := by omega
    subst this
    exact Or.inr ⟨t, by simp only [N_houses hqt.1, bnd_ok, if_pos (nI_le (Nat.le_refl (mH μ)) (show mH μ < 2 ^ 31 by omega))], hf⟩
theorem st_last {k : Nat} {σ τ : St} (h : Rel k σ τ) (hk : k < 64) (x1 x2 : Int32) : ST2 k (f_X10_last__0 σ x1 x2) (f_X11_last__0 τ x1 x2) := by
  obtain ⟨μ, hf, hn, hm⟩ := id h
  have hy := HY.of hf hk
  have hq := QN.of hn
  have hH := mH_pos hy.1
  unfold f_X10_last__0 f_X11_last__0
  rcases both_news hq.1 hm.1 hy.1 x1 with ⟨j, j1, rfl, jN, jM⟩ | ⟨jN, jM⟩
  rotate_left
  · exact st_bad h (r := -1) (by simp only [jN, bnd_ok, c00, if_true]) (by simp only [jM, bnd_ok, c00, if_true])
  rw [jN, jM, bnd_ok, bnd_ok, if_neg n10, if_neg n10]
  rcases both_in (A := 0) (B := 1) 0 1 (by decide) (by decide) rfl rfl σ τ x2 with ⟨g, h1, h2, rfl, hN, hM⟩ | ⟨hN, hM⟩
  rotate_left
  · exact st_bad h (r := -1) (by simp only [hN, bnd_ok, c00, if_true]) (by simp only [hM, bnd_ok, c00, if_true])
  rw [hN, hM, bnd_ok, bnd_ok, if_neg n10, if_neg n10]
  obtain ⟨σ', e1, e2⟩ := N_latest hq hy j1
  have c4 : ((-4 : Int32) = -4) = True := by decide
  have hMm : ∃ τ', lq3 (fun k7 s11 x8 x9 x10 => (if (s11 0 2) ≤ x10 then jq0 (fun s13 => some (x8, s13)) (fun k12 => (if nI g = (0 : Int32) then k12 s11 else (if (0 : Int32) ≤ x8 then some (x9, s11) else k12 s11))) else jq2 (fun s17 x15 x16 => jq2 (fun s21 x19 x20 => jq2 (fun s25 x23 x24 => nm (x10 + (1 : Int32)) (fun x26 => k7 s25 x23 x24 x26)) (fun k22 => (if x19 = (0 : Int32) then k22 s21 x20 x9 else k22 s21 x20 x15))) (fun k18 => (if x16 = (0 : Int32) then k18 s17 x16 x8 else k18 s17 x16 x10))) (fun k14 => jq1 (fun s29 x28 => k14 s29 x28 (0 : Int32)) (fun k27 => bnd (f_X11_asItIsOf__0 s11 (nI j)) (fun r30 s31 => bnd (f_X11_knowsBehind__0 s31 x10 (nI j)) (fun r32 s33 => (if r32 ≤ (0 : Int32) then k27 s33 r32 else (if r32 < x9 then k27 s33 r32 else k14 s33 r32 (1 : Int32))))))))) 100000 τ (-4 : Int32) (0 : Int32) (0 : Int32) = some (if nI g = 0 then (lst μ j (mH μ)).1 else if (0 : Int32) ≤ (lst μ j (mH μ)).1 then (lst μ j (mH μ)).2 else (lst μ j (mH μ)).1, τ') ∧ sameM τ τ' := by
    refine lq3_run (P := fun o => ∃ τ', o = some (if nI g = 0 then (lst μ j (mH μ)).1 else if (0 : Int32) ≤ (lst μ j (mH μ)).1 then (lst μ j (mH μ)).2 else (lst μ j (mH μ)).1, τ') ∧ sameM τ τ') (fun i t x y z => sameM τ t ∧ x = (lst μ j i).1 ∧ y = (lst μ j i).2 ∧ z = nI i) (mH μ) ?_ 100000 0 τ (-4) 0 0 (Nat.zero_le _) (by omega) ⟨sameM.rf, rfl, rfl, rfl⟩
    rintro i t x y z hi ⟨hft, rfl, rfl, rfl⟩ k
    have hmt := hm.same hft
    have ht2 : t 0 2 = nI (mH μ) := hmt.1.2.2.1
    rcases Nat.lt_or_ge i (mH μ) with hl | hl
    · obtain ⟨u, u2, a1, a2, a3⟩ := M_firstHeard hmt hy j1 (h := i) (by omega)
      refine Or.inl ⟨hl, u2, _, _, _, ⟨hft.tr a3.sm, rfl, rfl, rfl⟩, ?_⟩
      simp only [ht2, if_neg (nI_ge hl (show mH μ < 2 ^ 31 by omega)), jq1, jq2, a1, a2, bnd_ok, nm_ok, nI_1]
      have e : lst μ j (i + 1) = if fh μ j i ≤ 0 then lst μ j i else if fh μ j i < (lst μ j i).2 then lst μ j i else (nI i, fh μ j i) := rfl
      rw [e]
      by_cases a : fh μ j i ≤ 0
      · simp only [if_pos a, c00, if_true]
      · by_cases b : fh μ j i < (lst μ j i).2
        · simp only [if_neg a, if_pos b, c00, if_true]
        · simp only [if_neg a, if_neg b, c10, if_false]
    · have : i = mH μ := by omega
      subst this
      refine Or.inr ⟨t, ?_, hft⟩
      simp only [ht2, if_pos (nI_le (Nat.le_refl (mH μ)) (show mH μ < 2 ^ 31 by omega)), jq0]
      split
      · rfl
      · split <;> rfl
  obtain ⟨τ', b1, b2⟩ := hMm
  rw [e1, bnd_ok]
  rcases lst_in (μ := μ) (n := j) (mH μ) with q | ⟨x, x1, q⟩
  · rw [q] at b1 ⊢
    refine st_same h (r := -4) (by rw [if_pos (show (-4 : Int32) = -4 from rfl)]) (b1.trans ?_) e2.sm b2
    rw [if_neg (show ¬ (0 : Int32) ≤ -4 by decide)]
    split <;> rfl
  · rw [q] at b1 ⊢
    have hx4 : ¬ nI x = (-4 : Int32) := fun z => by
      have := nI_pos (n := x) (by omega)
      rw [z] at this
      exact this (by decide)
    rw [if_neg hx4]
    have hg : g = 0 ∨ g = 1 := by omega
    rcases hg with e | e <;> subst e
    · exact st_same h (r := nI x) (by rw [if_pos nI_0]) (b1.trans (by rw [if_pos nI_0])) e2.sm b2
    · obtain ⟨u, c1, c2⟩ := N_firstHeard (hq.fr e2) hy j1 (h := x) (by omega)
      refine st_same h (r := fh μ j x) (by rw [if_neg (show ¬ nI 1 = 0 by decide), c1, bnd_ok]) (b1.trans ?_) (e2.tr c2).sm b2
      rw [if_neg (show ¬ nI 1 = 0 by decide), if_pos (nI_pos' (by omega))]
