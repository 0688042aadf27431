/-! cut -/
def stf (μ : Mu) (S : Nat) : Nat → Nat := fun x => if S.testBit x = true then 0 else SH μ x
def cuB (μ : Mu) (h n S : Nat) : Bool := !S.testBit h && !(alg μ n (stf μ S) (μ 6 0) 48 (KW μ n)).testBit h
theorem stf_le {μ : Mu} (hy : HY μ) {S x : Nat} (hx : x < 16) : stf μ S x ≤ 6 := by
  unfold stf
  split
  · omega
  · exact hy.2.2.1 x hx
theorem N_stuff {σ : St} {μ : Mu} (hq : QN σ μ) (hy : HY μ) {n K S : Nat} (hn : n < mn μ) (hS : S < 65536) (hd : DR σ μ n K (SH μ)) : ∃ σ', f_X1_stuff__56 σ (nI S) = some (0, σ') ∧ frD σ σ' ∧ DR σ' μ n K (stf μ S) := by
  have hH := mH_pos hy.1
  unfold f_X1_stuff__56
  refine lq1_run (P := fun o => ∃ σ', o = some (0, σ') ∧ frD σ σ' ∧ DR σ' μ n K (stf μ S)) (fun i t y => y = nI i ∧ frD σ t ∧ DR t μ n K (fun x => if x < i then stf μ S x else SH μ x)) (mH μ) ?_ 100000 0 σ 0 (Nat.zero_le _) (by omega) ⟨rfl, frD.rf, by simpa using hd⟩
  rintro i t y hi ⟨rfl, hf, hdt⟩ k
  have hqt := hq.fr hf
  rcases Nat.lt_or_ge i (mH μ) with hl | hl
  · refine Or.inl ⟨hl, ?_⟩
    simp only [N_houses hqt.1, bnd_ok, if_neg (nI_ge hl (show mH μ < 2 ^ 31 by omega)), jq0, N_holds hS (show i < 16 by omega), nm_ok, nI_1]
    by_cases c : S.testBit i = true
    · obtain ⟨u, e1, e2, e3⟩ := N_reopen hy.1 hn hdt hl (Nat.zero_le 6)
      have e1' : f_X1_reopen__56 t (nI i) 0 = some (0, u) := e1
      simp only [c, if_true, c10, if_false, e1', bnd_ok]
      refine ⟨u, _, ⟨rfl, hf.tr e2, ?_⟩, rfl⟩
      have : (fun x => if x = i then 0 else if x < i then stf μ S x else SH μ x) = fun x => if x < i + 1 then stf μ S x else SH μ x := by
        funext x
        by_cases e : x = i
        · subst e; simp [stf, c]
        · by_cases e2 : x < i
          · simp [e, e2, Nat.lt_succ_of_lt e2]
          · have : ¬ x < i + 1 := by omega
            simp [e, e2, this]
      rw [this] at e3; exact e3
    · simp only [c, if_true, c00, Bool.false_eq_true, if_false]
      refine ⟨t, _, ⟨rfl, hf, ?_⟩, rfl⟩
      have : (fun x => if x < i then stf μ S x else SH μ x) = fun x => if x < i + 1 then stf μ S x else SH μ x := by
        funext x
        by_cases e : x = i
        · subst e; simp [stf, c]
        · by_cases e2 : x < i
          · simp [e2, Nat.lt_succ_of_lt e2]
          · have : ¬ x < i + 1 := by omega
            simp [e2, this]
      rw [this] at hdt; exact hdt
  · have : i = mH μ := by omega
    subst this
    refine Or.inr ⟨t, ?_, hf, ?_⟩
    · simp only [N_houses hqt.1, bnd_ok, if_pos (nI_le (Nat.le_refl (mH μ)) (show mH μ < 2 ^ 31 by omega))]
    · obtain ⟨d4, d5, d6, d7, d8, d9, d10, d11, d57, d58⟩ := hdt
      refine ⟨d4, d5, d6, ?_, ?_, d9, d10, d11, fun x hx => ?_, d58⟩
      · rw [d7]; congr 1
        refine mkm_ext fun x _ => ?_
        unfold ogB
        by_cases e : x < mH μ <;> simp [e]
      · rw [d8]; congr 1
        refine mkm_ext fun x _ => ?_
        unfold otB
        by_cases e : x < mH μ <;> simp [e]
      · rw [d57 x hx]; simp only [hx, if_true]
theorem fhr_sg {μ : Mu} {n s h K : Nat} {sh : Nat → Nat} : ∀ (f k : Nat), k + f < 1000 → ((0 ≤ fhr μ n sh s h (f + 1) k (alg μ n sh s k K)) ↔ (alg μ n sh s (k + f) K).testBit h = true)
  | 0, k, hk => by
    show 0 ≤ (if (alg μ n sh s k K).testBit h = true then nI k else -4) ↔ _
    by_cases c : (alg μ n sh s k K).testBit h = true
    · rw [if_pos c]
      exact ⟨fun _ => c, fun _ => nI_pos' (by omega)⟩
    · rw [if_neg c]
      exact ⟨fun q => absurd q (by decide), fun q => absurd q c⟩
  | f + 1, k, hk => by
    show 0 ≤ (if (alg μ n sh s k K).testBit h = true then nI k else fhr μ n sh s h (f + 1) (k + 1) (alg μ n sh s (k + 1) K)) ↔ _
    by_cases c : (alg μ n sh s k K).testBit h = true
    · rw [if_pos c]
      refine ⟨fun _ => ?_, fun _ => nI_pos' (by omega)⟩
      rw [alg_add]
      exact alg_mono c _
    · rw [if_neg c, fhr_sg f (k + 1) (by omega), show k + 1 + f = k + (f + 1) by omega]
theorem M_isCutBy {τ : St} {μ : Mu} (hm : RM τ μ) (hy : HY μ) {h n S : Nat} (hh : h < mH μ) (hn : n < mn μ) (hS : S < 65536) (hSh : S.testBit h = false) : ∃ τ', f_X11_isCutBy__0 τ (nI S) (nI h) (nI n) = some (if cuB μ h n S = true then 1 else 0, τ') ∧ sameM τ τ' := by
  have hH := mH_pos hy.1
  obtain ⟨u, b1, b2, b3, b4, b5⟩ := NW_askOf hm hy hn
  unfold f_X11_isCutBy__0
  rw [b1, bnd_ok]
  refine lq1_run (P := fun o => ∃ τ', o = some (if cuB μ h n S = true then 1 else 0, τ') ∧ sameM τ τ') (fun i t y => y = nI i ∧ only14 u t ∧ NWs t (μ 6 0) (fun x => if x < i then stf μ S x else SH μ x) (KW μ)) (mH μ) ?_ 100000 0 u 0 (Nat.zero_le _) (by omega) ⟨rfl, only14.rf, by simpa using b5⟩
  rintro i t y hi ⟨rfl, ho, hN⟩ k
  have hpt := b3.o14 ho
  have ht2 : t 0 2 = nI (mH μ) := hpt.2.2.1
  rcases Nat.lt_or_ge i (mH μ) with hl | hl
  · refine Or.inl ⟨hl, ps t 14 (nI (1 + i)) (nI (stf μ S i)), nI (i + 1), ⟨rfl, ho.tr only14.ps, (hN.setS (n := i) (v := stf μ S i) (by omega)).ext (fun x _ => ?_) (fun _ _ => rfl)⟩, ?_⟩
    · by_cases e : x = i
      · subst e; simp
      · by_cases e2 : x < i
        · simp [e, e2, Nat.lt_succ_of_lt e2]
        · have : ¬ x < i + 1 := by omega
          simp [e, e2, this]
    · have e1 : (1 : Int32) + nI i = nI (1 + i) := nI_add 1 i
      have h1 : t 14 (1 + i) = nI (SH μ i) := by rw [hN.2.1 i (by omega)]; simp
      simp only [ht2, if_neg (nI_ge hl (show mH μ < 2 ^ 31 by omega)), jq2, M_has hS (show i < 16 by omega), bnd_ok, e1, gd_nI (show 1 + i < 22 by omega) (show 22 < 2 ^ 31 by decide), nI_clamp (show 1 + i < 2 ^ 31 by omega), h1, nm_ok, nI_1]
      unfold stf
      by_cases c : S.testBit i = true
      · simp only [c, if_true, c10, if_false]; rfl
      · simp only [c, if_true, c00, Bool.false_eq_true, if_false]
  · have : i = mH μ := by omega
    subst this
    have hsh : ∀ x, x < 16 → (fun x => if x < mH μ then stf μ S x else SH μ x) x ≤ 6 := fun x hx => by
      by_cases e : x < mH μ
      · simp only [e, if_true]; exact stf_le hy hx
      · simp only [e, if_false]; exact hy.2.2.1 x hx
    obtain ⟨v, c1, c2⟩ := M_knowsBehind hpt hy.1 hN (b4.o14 ho) (fun n hn => KWl hy hn) hsh (by have := hy.2.1; omega) (show h < 16 by omega) hn
    refine Or.inr ⟨v, ?_, b2.sm.tr (ho.sm.tr c2.sm)⟩
    rw [ht2, if_pos (nI_le (Nat.le_refl (mH μ)) (by omega)), c1, bnd_ok]
    have hs := fhr_sg (μ := μ) (n := n) (s := μ 6 0) (h := h) (K := KW μ n) (sh := fun x => if x < mH μ then stf μ S x else SH μ x) 48 0 (by decide)
    rw [alg_sh hy.1 (sh' := stf μ S) (fun t ht => by simp only [ht, if_true]) (0 + 48)] at hs
    have hs2 : (0 ≤ fhr μ n (fun x => if x < mH μ then stf μ S x else SH μ x) (μ 6 0) h 49 0 (KW μ n)) ↔ (alg μ n (stf μ S) (μ 6 0) (0 + 48) (KW μ n)).testBit h = true := hs
    unfold cuB
    by_cases c : (alg μ n (stf μ S) (μ 6 0) (0 + 48) (KW μ n)).testBit h = true
    · rw [if_pos (hs2.mpr c)]
      rw [Nat.zero_add] at c
      simp [hSh, c]
    · rw [if_neg (fun q => c (hs2.mp q))]
      rw [Nat.zero_add] at c
      simp [hSh, c]
/-- the answer of cut: the lowest of the fewest -/
def CUT (μ : Mu) (h n : Nat) (r : Option Nat) : Prop := match r with
  | none => ∀ S, S < 2 ^ mH μ → cuB μ h n S = true → 4 ≤ pcn S 16
  | some R => R < 2 ^ mH μ ∧ cuB μ h n R = true ∧ pcn R 16 ≤ 3 ∧ (∀ S, S < 2 ^ mH μ → cuB μ h n S = true → pcn R 16 ≤ pcn S 16) ∧ ∀ S, S < R → cuB μ h n S = true → pcn R 16 < pcn S 16
theorem CUT.one {μ : Mu} {h n : Nat} : ∀ {r r' : Option Nat}, CUT μ h n r → CUT μ h n r' → r = r'
  | none, none, _, _ => rfl
  | none, some R, a, b => by have := a R b.1 b.2.1; have := b.2.2.1; omega
  | some R, none, a, b => by have := b R a.1 a.2.1; have := a.2.2.1; omega
  | some R, some R', a, b => by
    have h1 := a.2.2.2.1 R' b.1 b.2.1
    have h2 := b.2.2.2.1 R a.1 a.2.1
    rcases Nat.lt_trichotomy R R' with q | q | q
    · have := b.2.2.2.2 R q a.2.1; omega
    · rw [q]
    · have := a.2.2.2.2 R' q b.2.1; omega
def cutV (r : Option Nat) (w : Nat) : Int32 := match r with
  | none => -4
  | some R => if w = 0 then nI (pcn R 16) else nI R
/-- what was found among the first i sets -/
def CUi (μ : Mu) (h n i : Nat) (r : Option Nat) : Prop := match r with
  | none => ∀ S, S < i → cuB μ h n S = true → 4 ≤ pcn S 16
  | some R => R < i ∧ cuB μ h n R = true ∧ pcn R 16 ≤ 3 ∧ (∀ S, S < i → cuB μ h n S = true → pcn R 16 ≤ pcn S 16) ∧ ∀ S, S < R → cuB μ h n S = true → pcn R 16 < pcn S 16
def bst (r : Option Nat) : Int32 := match r with
  | none => -4
  | some R => nI R
def fwt (r : Option Nat) : Nat := match r with
  | none => 4
  | some R => pcn R 16
theorem CUi.skip {μ : Mu} {h n i : Nat} {r : Option Nat} (a : CUi μ h n i r) (hs : cuB μ h n i = true → fwt r ≤ pcn i 16) : CUi μ h n (i + 1) r := by
  cases r with
  | none =>
    intro S hS hc
    by_cases e : S = i
    · subst e; exact hs hc
    · exact a S (by omega) hc
  | some R =>
    refine ⟨by have := a.1; omega, a.2.1, a.2.2.1, fun S hS hc => ?_, a.2.2.2.2⟩
    by_cases e : S = i
    · subst e; exact hs hc
    · exact a.2.2.2.1 S (by omega) hc
theorem CUi.take {μ : Mu} {h n i : Nat} {r : Option Nat} (a : CUi μ h n i r) (hc : cuB μ h n i = true) (hp : pcn i 16 < fwt r) : CUi μ h n (i + 1) (some i) := by
  cases r with
  | none =>
    have hp' : pcn i 16 < 4 := hp
    refine ⟨by omega, hc, by omega, fun S hS q => ?_, fun S hS q => ?_⟩
    · by_cases e : S = i
      · subst e; exact Nat.le_refl _
      · have := a S (by omega) q; omega
    · have := a S (by omega) q; omega
  | some R =>
    have hp' : pcn i 16 < pcn R 16 := hp
    have h3 := a.2.2.1
    refine ⟨by omega, hc, by omega, fun S hS q => ?_, fun S hS q => ?_⟩
    · by_cases e : S = i
      · subst e; exact Nat.le_refl _
      · have := a.2.2.2.1 S (by omega) q; omega
    · have := a.2.2.2.1 S (by omega) q; omega
theorem fwt_le {μ : Mu} {h n i : Nat} {r : Option Nat} (a : CUi μ h n i r) : fwt r ≤ 4 := by
  cases r with
  | none => exact Nat.le_refl _
  | some R => have := a.2.2.1; show pcn R 16 ≤ 4; omega
theorem allH {σ : St} {μ : Mu} (h : PN σ 12 μ) (hw : WP μ) : f_X4_allHouses__12 σ = some (nI (2 ^ mH μ - 1), σ) := by
  have hH := mH_pos hw
  have e : nI (2 ^ mH μ) - 1 = nI (2 ^ mH μ - 1) := pk_sub (b := 1) (Nat.one_le_two_pow)
  simp only [f_X4_allHouses__12, N_houses h, bnd_ok, nx_bit (show mH μ < 31 by omega), e]
theorem p2H {μ : Mu} (hw : WP μ) : 2 ≤ 2 ^ mH μ ∧ 2 ^ mH μ ≤ 65536 := ⟨Nat.le_trans (by decide : 2 ≤ 2 ^ 1) (Nat.pow_le_pow_right (by omega) (mH_pos hw).1), Nat.pow_le_pow_right (n := 2) (j := 16) (by omega) (mH_pos hw).2⟩
theorem N_fewest {σ : St} {μ : Mu} (hq : QN σ μ) (hy : HY μ) {h n : Nat} (hh : h < mH μ) (hn : n < mn μ) (hk : (KW μ n).testBit h = false) : ∃ r σ', f_X3_fewestStuffed__59 σ (nI h) (nI n) = some (bst r, σ') ∧ CUT μ h n r ∧ frD σ σ' := by
  have hH := mH_pos hy.1
  have hP := p2H hy.1
  have hn5 : mn μ ≤ 5 := hy.1.2.2.1
  have hwk : f_X9_whoKnows__19 σ (nI n) = some (nI (KW μ n), σ) := by
    simp only [f_X9_whoKnows__19, at_21 (show n < 5 by omega), bnd_ok]; rw [hq.2.2.2 n (by omega)]; rfl
  unfold f_X3_fewestStuffed__59
  have e0 : (if (KW μ n).testBit h = true then (1 : Int32) else 0) = 0 := by simp [hk]
  rw [hwk, bnd_ok, N_holds (lt_16 hy.1 (KWl hy hn)) (by omega), bnd_ok, e0, if_pos rfl, allH hq.1 hy.1, bnd_ok]
  refine lq3_run (P := fun o => ∃ r σ', o = some (bst r, σ') ∧ CUT μ h n r ∧ frD σ σ') (fun i t x y z => frD σ t ∧ z = nI i ∧ ∃ r, CUi μ h n i r ∧ x = bst r ∧ y = nI (fwt r)) (2 ^ mH μ) ?_ 100000 0 σ (-4) 4 0 (Nat.zero_le _) (by omega) ⟨frD.rf, rfl, none, fun S hS => by omega, rfl, rfl⟩
  rintro i t x y z hi ⟨hf, rfl, r, hr, rfl, rfl⟩ k
  have hqt := hq.fr hf
  rcases Nat.lt_or_ge i (2 ^ mH μ) with hl | hl
  · have hi16 : i < 65536 := by omega
    have hpl := pcn_le i 16
    have hfw := fwt_le hr
    refine Or.inl ⟨hl, ?_⟩
    rw [if_neg (nI_nlt (show i ≤ 2 ^ mH μ - 1 by omega) (by omega))]
    simp only [jq2, N_bitCount hi16, bnd_ok, nm_ok, nI_1]
    by_cases a : fwt r ≤ pcn i 16
    · rw [if_pos (nI_le a (by omega))]
      exact ⟨t, _, _, _, ⟨hf, rfl, r, hr.skip (fun _ => a), rfl, rfl⟩, rfl⟩
    · rw [if_neg (nI_ge (by omega) (by omega))]
      simp only [N_holds hi16 (show h < 16 by omega), bnd_ok]
      by_cases b : i.testBit h = true
      · simp only [b, if_true, c10, if_false]
        exact ⟨t, _, _, _, ⟨hf, rfl, r, hr.skip (fun q => by unfold cuB at q; simp [b] at q), rfl, rfl⟩, rfl⟩
      · simp only [b, Bool.false_eq_true, if_false, c00, if_true]
        obtain ⟨u, e1, e2, e3⟩ := Q_pick hqt hy hn
        obtain ⟨v, g1, g2, g3⟩ := N_stuff (hqt.fr e2) hy hn hi16 e3
        have hh48 : f_X1_hears__56 v (nI h) 48 = some (if (alg μ n (stf μ i) (μ 6 0) 48 (KW μ n)).testBit h = true then 1 else 0, v) := Q_hears ((hqt.fr e2).fr g2) hy g3 (KWl hy hn) (show 48 ≤ 100 by decide) (show h < 16 by omega)
        simp only [e1, bnd_ok, g1, hh48]
        have fr2 := (hf.tr e2).tr g2
        by_cases c : (alg μ n (stf μ i) (μ 6 0) 48 (KW μ n)).testBit h = true
        · simp only [c, if_true, c10, if_false]
          exact ⟨v, _, _, _, ⟨fr2, rfl, r, hr.skip (fun q => by unfold cuB at q; simp [c] at q), rfl, rfl⟩, rfl⟩
        · simp only [c, Bool.false_eq_true, if_false, c00, if_true]
          exact ⟨v, _, _, _, ⟨fr2, rfl, some i, hr.take (by unfold cuB; simp [b, c]) (by omega), rfl, rfl⟩, rfl⟩
  · have : i = 2 ^ mH μ := by omega
    subst this
    refine Or.inr ⟨r, t, ?_, ?_, hf⟩
    · rw [if_pos (nI_lt (show 2 ^ mH μ - 1 < 2 ^ mH μ by omega) (by omega))]
    · cases r with
      | none => exact hr
      | some R => exact hr
theorem st_cut {k : Nat} {σ τ : St} (h : Rel k σ τ) (hk : k < 64) (x1 x2 x3 : Int32) : ST2 k (f_X10_cut__0 σ x1 x2 x3) (f_X11_cut__0 τ x1 x2 x3) := by
  obtain ⟨μ, hf, hn, hm⟩ := id h
  have hy := HY.of hf hk
  have hq := QN.of hn
  have hH := mH_pos hy.1
  have hP := p2H hy.1
  have hn5 : mn μ ≤ 5 := hy.1.2.2.1
  unfold f_X10_cut__0 f_X11_cut__0
  rcases both_house hq.1 hm.1 hy.1 x1 with ⟨g, g1, rfl, gN, gM⟩ | ⟨gN, gM⟩
  rotate_left
  · exact st_bad h (r := -1) (by simp only [gN, bnd_ok, c00, if_true]) (by simp only [gM, bnd_ok, c00, if_true])
  rw [gN, gM, bnd_ok, bnd_ok, if_neg n10, if_neg n10]
  rcases both_news hq.1 hm.1 hy.1 x2 with ⟨j, j1, rfl, jN, jM⟩ | ⟨jN, jM⟩
  rotate_left
  · exact st_bad h (r := -1) (by simp only [jN, bnd_ok, c00, if_true]) (by simp only [jM, bnd_ok, c00, if_true])
  rw [jN, jM, bnd_ok, bnd_ok, if_neg n10, if_neg n10]
  rcases both_in (A := 0) (B := 1) 0 1 (by decide) (by decide) rfl rfl σ τ x3 with ⟨w, h1, h2, rfl, hN, hM⟩ | ⟨hN, hM⟩
  rotate_left
  · exact st_bad h (r := -1) (by simp only [hN, bnd_ok, c00, if_true]) (by simp only [hM, bnd_ok, c00, if_true])
  rw [hN, hM, bnd_ok, bnd_ok, if_neg n10, if_neg n10]
  have e17 : (17 : Int32) + nI j = nI (17 + j) := nI_add 17 j
  have h17 : τ 4 (17 + j) = nI (KW μ j) := hm.2.2.1 _ (by omega)
  rw [e17, gd_nI (show 17 + j < 22 by omega) (show 22 < 2 ^ 31 by decide), nI_clamp (show 17 + j < 2 ^ 31 by omega), h17, M_has (lt_16 hy.1 (KWl hy j1)) (show g < 16 by omega), bnd_ok]
  cases hkk : (KW μ j).testBit g with
  | true =>
    have hwk : f_X9_whoKnows__19 σ (nI j) = some (nI (KW μ j), σ) := by
      simp only [f_X9_whoKnows__19, at_21 (show j < 5 by omega), bnd_ok]; rw [hq.2.2.2 j (by omega)]; rfl
    refine st_bad h (r := -4) ?_ (by simp only [if_true, c10, if_false])
    unfold f_X3_fewestStuffed__59
    rw [hwk, bnd_ok, N_holds (lt_16 hy.1 (KWl hy j1)) (by omega), bnd_ok, hkk, if_pos rfl, if_neg n10, bnd_ok, if_pos rfl]
  | false =>
    obtain ⟨r, σ', a1, a2, a3⟩ := N_fewest hq hy g1 j1 hkk
    rw [a1, bnd_ok, if_neg (show ¬ false = true by decide), if_pos rfl]
    have hV : ST2 k (some (cutV r w, σ')) (some (cutV r w, τ)) := st_same h rfl rfl a3.sm sameM.rf
    have hNv : (if bst r = (-4 : Int32) then some ((-4 : Int32), σ') else (if nI w = (0 : Int32) then bnd (f_J6_bitCount_0f7a4 σ' (bst r)) (fun r12 s13 => some (r12, s13)) else some (bst r, σ'))) = some (cutV r w, σ') := by
      cases r with
      | none => exact if_pos rfl
      | some R =>
        have hR : R < 65536 := by have := a2.1; omega
        have : ¬ nI R = (-4 : Int32) := fun z => by
          have q := nI_pos (n := R) (by omega)
          rw [z] at q
          exact q (by decide)
        show (if nI R = (-4 : Int32) then _ else _) = _
        rw [if_neg this]
        have hw : w = 0 ∨ w = 1 := by omega
        rcases hw with e | e <;> subst e
        · rw [if_pos nI_0]
          show bnd (f_J6_bitCount_0f7a4 σ' (nI R)) _ = _
          rw [N_bitCount hR, bnd_ok]; rfl
        · rw [if_neg (show ¬ nI 1 = 0 by decide)]; rfl
    rw [hNv]
    suffices hMl : ∀ oM, (∃ τ', oM = some (cutV r w, τ') ∧ sameM τ τ') → ST2 k (some (cutV r w, σ')) oM by
      refine hMl _ ?_
      refine lq1_run (P := fun o => ∃ τ', o = some (cutV r w, τ') ∧ sameM τ τ') (fun i t y => sameM τ t ∧ y = nI i ∧ ∀ S, S < 2 ^ mH μ → cuB μ g j S = true → i ≤ pcn S 16) 4 ?_ 100000 0 τ 0 (Nat.zero_le _) (by omega) ⟨sameM.rf, rfl, fun _ _ _ => Nat.zero_le _⟩
      rintro i t y hi ⟨hft, rfl, hall⟩ k2
      have hmt := hm.same hft
      rcases Nat.lt_or_ge i 4 with hl | hl
      · have h3 : ¬ (3 : Int32) < nI i := nI_nlt (b := i) (a := 3) (by omega) (by decide)
        rw [if_neg h3]
        refine lq1_run (P := fun o => (i < 4 ∧ ∃ (t : St) (y1 : Int32), (sameM τ t ∧ y1 = nI (i + 1) ∧ ∀ S, S < 2 ^ mH μ → cuB μ g j S = true → i + 1 ≤ pcn S 16) ∧ o = k2 t y1) ∨ ∃ τ', o = some (cutV r w, τ') ∧ sameM τ τ') (fun s t y => sameM τ t ∧ y = nI s ∧ ∀ S, S < s → cuB μ g j S = true → i + 1 ≤ pcn S 16) (2 ^ mH μ) ?_ 100000 0 t 0 (Nat.zero_le _) (by omega) ⟨hft, rfl, fun S hS => by omega⟩
        rintro s t y hs ⟨hft, rfl, hlow⟩ k3
        have hmt := hm.same hft
        have ht2 : t 0 2 = nI (mH μ) := hmt.1.2.2.1
        simp only [ht2, nx_bit (show mH μ < 31 by omega), jq0, nm_ok, nI_1]
        rcases Nat.lt_or_ge s (2 ^ mH μ) with hsl | hsl
        · have hs16 : s < 65536 := by omega
          simp only [if_neg (nI_ge hsl (show 2 ^ mH μ < 2 ^ 31 by omega)), M_has hs16 (show g < 16 by omega), bnd_ok]
          by_cases b : s.testBit g = true
          · simp only [b, if_true, c10, if_false]
            refine Or.inl ⟨hsl, t, _, ⟨hft, rfl, fun S hS hc => ?_⟩, rfl⟩
            by_cases e : S = s
            · subst e; unfold cuB at hc; simp [b] at hc
            · exact hlow S (by omega) hc
          · have hpl := pcn_le s 16
            simp only [b, Bool.false_eq_true, if_false, c00, if_true, M_bits hs16, bnd_ok]
            by_cases c : pcn s 16 = i
            · obtain ⟨u, u1, u2⟩ := M_isCutBy hmt hy g1 j1 hs16 (by simpa using b)
              rw [if_pos (by rw [c])]
              rw [u1, bnd_ok]
              by_cases d : cuB μ g j s = true
              · simp only [d, if_true, c10, if_false]
                refine Or.inr (Or.inr ⟨u, ?_, hft.tr u2⟩)
                have hcut : CUT μ g j (some s) := ⟨hsl, d, by omega, fun S hS hc => by have := hall S hS hc; omega, fun S hS hc => by have := hlow S hS hc; omega⟩
                have := CUT.one a2 hcut
                subst this
                have hw : w = 0 ∨ w = 1 := by omega
                rcases hw with e | e <;> subst e
                · rw [if_pos nI_0]
                  show _ = some (nI (pcn s 16), u)
                  rw [c]
                · rw [if_neg (show ¬ nI 1 = 0 by decide)]; rfl
              · simp only [d, Bool.false_eq_true, if_false, c00, if_true]
                refine Or.inl ⟨hsl, u, _, ⟨hft.tr u2, rfl, fun S hS hc => ?_⟩, rfl⟩
                by_cases e : S = s
                · subst e; exact absurd hc d
                · exact hlow S (by omega) hc
            · rw [if_neg (fun q => c ((nI_eq (by omega) (by omega)).mp q))]
              refine Or.inl ⟨hsl, t, _, ⟨hft, rfl, fun S hS hc => ?_⟩, rfl⟩
              by_cases e : S = s
              · subst e; have := hall S hsl hc; omega
              · exact hlow S (by omega) hc
        · have : s = 2 ^ mH μ := by omega
          subst this
          rw [if_pos (nI_le (Nat.le_refl _) (by omega))]
          exact Or.inr (Or.inl ⟨hl, t, _, ⟨hft, rfl, hlow⟩, rfl⟩)
      · have : i = 4 := by omega
        subst this
        refine Or.inr ⟨t, ?_, hft⟩
        rw [if_pos (show (3 : Int32) < nI 4 by decide)]
        have hcut : CUT μ g j none := fun S hS hc => hall S hS hc
        rw [CUT.one a2 hcut]; rfl
    rintro oM ⟨τ', b1, b2⟩
    exact st_same h rfl b1 a3.sm b2
