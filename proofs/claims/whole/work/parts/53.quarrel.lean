/-! quarrel -/
def shM (μ : Mu) (f : Nat) : Nat → Nat := fun x => if x = f ∧ x < mH μ then min 6 (SH μ x + 1) else SH μ x
def shL (μ : Mu) (f z : Nat) : Nat → Nat := fun y => if y = z ∧ y < mH μ then shM μ f y - 1 else shM μ f y
def qhB (μ : Mu) (h n m : Nat) (sh : Nat → Nat) : Bool := (alg μ n sh (μ 6 0) m (KW μ n)).testBit h
def wnr (μ : Mu) (h n m f : Nat) : Nat → Bool
  | 0 => qhB μ h n m (shL μ f 16)
  | i + 1 => wnr μ h n m f i && qhB μ h n m (shL μ f i)
def won (μ : Mu) (h n m f : Nat) : Bool := wnr μ h n m f (mH μ)
theorem shM_le {μ : Mu} (hy : HY μ) {f x : Nat} (hx : x < 16) : shM μ f x ≤ 6 := by
  unfold shM
  split
  · exact Nat.min_le_left _ _
  · exact hy.2.2.1 x hx
theorem shL_le {μ : Mu} (hy : HY μ) {f z x : Nat} (hx : x < 16) : shL μ f z x ≤ 6 := by
  have := shM_le hy (f := f) hx
  unfold shL
  split <;> omega
theorem M_knowsBy {τ : St} {μ : Mu} (hm : RM τ μ) (hy : HY μ) {f z h n m : Nat} (hf : f < mH μ ∨ f = 16) (hz : z < mH μ ∨ z = 16) (hh : h < mH μ) (hn : n < mn μ) (hm12 : m ≤ 12) : ∃ τ', f_X11_knowsBy__0 τ (nI f) (nI z) (nI h) (nI n) (nI m) = some (if qhB μ h n m (shL μ f z) = true then 1 else 0, τ') ∧ sameM τ τ' := by
  have hH := mH_pos hy.1
  have hn5 : mn μ ≤ 5 := hy.1.2.2.1
  obtain ⟨u, b1, b2, b3, b4, b5⟩ := NW_askOf hm hy hn
  have e17 : (17 : Int32) + nI n = nI (17 + n) := nI_add 17 n
  have fin : ∀ v : St, only14 u v → NWs v (μ 6 0) (shL μ f z) (KW μ) → ∃ τ', (bnd (f_X11_goes__0 v (nI m)) (fun r10 s11 => gd (((17 : Int32) + nI n)) 22 (bnd (f_X11_has s11 ((s11 14 (Int32.toNatClampNeg ((17 : Int32) + nI n)))) (nI h)) (fun r12 s13 => zg r12 (some (r12, s13)))))) = some (if qhB μ h n m (shL μ f z) = true then 1 else 0, τ') ∧ sameM τ τ' := fun v h1 h2 => by
    obtain ⟨w, c1, c2, c3⟩ := M_goes (b3.o14 h1) hy.1 h2 (b4.o14 h1) (fun n hn => KWl hy hn) (fun x hx => shL_le hy hx) (by have := hy.2.1; omega) (show m ≤ 60 by omega)
    have hk : akn μ (shL μ f z) (μ 6 0) n m (KW μ) n = alg μ n (shL μ f z) (μ 6 0) m (KW μ n) := by
      unfold akn isOn; rw [if_pos ⟨hn, by simp⟩]
    refine ⟨w, ?_, b2.sm.tr (h1.sm.tr c2.sm)⟩
    rw [c1, bnd_ok, e17, gd_nI (show 17 + n < 22 by omega) (show 22 < 2 ^ 31 by decide), nI_clamp (show 17 + n < 2 ^ 31 by omega), c3.2.2 n (by omega), hk, M_has (lt_16 hy.1 (alg_lt hy.1 (KWl hy hn) _)) (show h < 16 by omega), bnd_ok]
    unfold qhB
    split <;> rfl
  have mid : ∀ v : St, only14 u v → NWs v (μ 6 0) (shM μ f) (KW μ) → ∃ τ', jq0 (fun s9 => bnd (f_X11_goes__0 s9 (nI m)) (fun r10 s11 => gd (((17 : Int32) + nI n)) 22 (bnd (f_X11_has s11 ((s11 14 (Int32.toNatClampNeg ((17 : Int32) + nI n)))) (nI h)) (fun r12 s13 => zg r12 (some (r12, s13)))))) (fun k8 => (if (16 : Int32) ≤ nI z then k8 v else gd (((1 : Int32) + nI z)) 22 ((if (v 14 (Int32.toNatClampNeg ((1 : Int32) + nI z))) ≤ (0 : Int32) then k8 v else gd (((1 : Int32) + nI z)) 22 (gd (((1 : Int32) + nI z)) 22 (nm (ps v 14 (((1 : Int32) + nI z)) (((v 14 (Int32.toNatClampNeg ((1 : Int32) + nI z))) - (1 : Int32)))) (fun s14 => k8 s14))))))) = some (if qhB μ h n m (shL μ f z) = true then 1 else 0, τ') ∧ sameM τ τ' := fun v h1 h2 => by
    have e1 : (1 : Int32) + nI z = nI (1 + z) := nI_add 1 z
    rcases hz with hzl | hz16
    · have h16 : ¬ (16 : Int32) ≤ nI z := nI_ge (b := 16) (by omega) (by decide)
      have hs6 := shM_le hy (f := f) (show z < 16 by omega)
      simp only [jq0, if_neg h16, e1, gd_nI (show 1 + z < 22 by omega) (show 22 < 2 ^ 31 by decide), nI_clamp (show 1 + z < 2 ^ 31 by omega), h2.2.1 z (by omega), nm_ok]
      by_cases c : shM μ f z = 0
      · rw [if_pos (by rw [c, nI_0]; decide)]
        refine fin v h1 (h2.ext (fun x _ => ?_) (fun _ _ => rfl))
        unfold shL
        by_cases e : x = z
        · subst e; rw [if_pos ⟨rfl, hzl⟩, c]
        · rw [if_neg (fun q => e q.1)]
      · rw [if_neg (nI_nle (by omega) (by omega)), show nI (shM μ f z) - 1 = nI (shM μ f z - 1) from pk_sub (b := 1) (by omega)]
        refine fin _ (h1.tr only14.ps) ((h2.setS (n := z) (by omega)).ext (fun x _ => ?_) (fun _ _ => rfl))
        unfold shL
        by_cases e : x = z
        · subst e; simp [hzl]
        · simp [e]
    · subst hz16
      simp only [jq0, if_pos (show (16 : Int32) ≤ nI 16 by decide)]
      refine fin v h1 (h2.ext (fun x hx => ?_) (fun _ _ => rfl))
      unfold shL
      rw [if_neg (fun q => by omega)]
  unfold f_X11_knowsBy__0
  have e1 : (1 : Int32) + nI f = nI (1 + f) := nI_add 1 f
  rw [show ∀ (A : St → Ot) (B : (St → Ot) → Ot), jq0 A B = B A from fun _ _ => rfl]
  rw [b1, bnd_ok]
  rcases hf with hfl | hf16
  · have h16 : ¬ (16 : Int32) ≤ nI f := nI_ge (b := 16) (by omega) (by decide)
    have hs6 := hy.2.2.1 f (by omega)
    rw [if_neg h16, e1, gd_nI (show 1 + f < 22 by omega) (show 22 < 2 ^ 31 by decide), nI_clamp (show 1 + f < 2 ^ 31 by omega), b5.2.1 f (by omega)]
    by_cases c : 6 ≤ SH μ f
    · have c6 : (6 : Int32) ≤ nI (SH μ f) := nI_le (a := 6) c (by omega)
      rw [if_pos c6]
      refine mid u only14.rf (b5.ext (fun x _ => ?_) (fun _ _ => rfl))
      unfold shM
      by_cases e : x = f
      · subst e; rw [if_pos ⟨rfl, hfl⟩]; omega
      · rw [if_neg (fun q => e q.1)]
    · have h6 : ¬ (6 : Int32) ≤ nI (SH μ f) := nI_ge (b := 6) (by omega) (by decide)
      rw [if_neg h6, gd_nI (show 1 + f < 22 by omega) (show 22 < 2 ^ 31 by decide), gd_nI (show 1 + f < 22 by omega) (show 22 < 2 ^ 31 by decide), nI_1, nm_ok]
      refine mid _ only14.ps ((b5.setS (n := f) (by omega)).ext (fun x _ => ?_) (fun _ _ => rfl))
      unfold shM
      by_cases e : x = f
      · subst e
        show (if x = x then SH μ x + 1 else SH μ x) = (if x = x ∧ x < mH μ then min 6 (SH μ x + 1) else SH μ x)
        rw [if_pos rfl, if_pos ⟨rfl, hfl⟩]; omega
      · simp [e]
  · subst hf16
    rw [if_pos (show (16 : Int32) ≤ nI 16 by decide)]
    refine mid u only14.rf (b5.ext (fun x hx => ?_) (fun _ _ => rfl))
    unfold shM
    rw [if_neg (fun q => by omega)]
theorem M_isWon {τ : St} {μ : Mu} (hm : RM τ μ) (hy : HY μ) {f h n m : Nat} (hf : f < mH μ ∨ f = 16) (hh : h < mH μ) (hn : n < mn μ) (hm12 : m ≤ 12) : ∃ τ', f_X11_isWon__0 τ (nI f) (nI h) (nI n) (nI m) = some (if won μ h n m f = true then 1 else 0, τ') ∧ sameM τ τ' := by
  have hH := mH_pos hy.1
  obtain ⟨u, a1, a2⟩ := M_knowsBy hm hy hf (Or.inr rfl : (16 : Nat) < mH μ ∨ 16 = 16) hh hn hm12
  have a1' : f_X11_knowsBy__0 τ (nI f) 16 (nI h) (nI n) (nI m) = some (if qhB μ h n m (shL μ f 16) = true then 1 else 0, u) := a1
  unfold f_X11_isWon__0
  rw [a1', bnd_ok]
  have fal : ∀ i j, wnr μ h n m f i = false → wnr μ h n m f (i + j) = false := fun i j hi => by
    induction j with
    | zero => exact hi
    | succ j ih => show (wnr μ h n m f (i + j) && _) = false; rw [ih]; rfl
  refine lq2_run (P := fun o => ∃ τ', o = some (if won μ h n m f = true then 1 else 0, τ') ∧ sameM τ τ') (fun i t x y => sameM τ t ∧ x = (if wnr μ h n m f i = true then 1 else 0) ∧ y = nI i) (mH μ) ?_ 100000 0 u _ 0 (Nat.zero_le _) (by omega) ⟨a2, rfl, rfl⟩
  rintro i t x y hi ⟨hft, rfl, rfl⟩ k
  have hmt := hm.same hft
  have ht2 : t 0 2 = nI (mH μ) := hmt.1.2.2.1
  rcases Nat.lt_or_ge i (mH μ) with hl | hl
  · rw [ht2, if_neg (nI_ge hl (show mH μ < 2 ^ 31 by omega))]
    cases hb : wnr μ h n m f i with
    | false =>
      refine Or.inr ⟨t, ?_, hft⟩
      have : won μ h n m f = false := by
        have := fal i (mH μ - i) hb
        rw [show i + (mH μ - i) = mH μ by omega] at this
        exact this
      rw [this]; rfl
    | true =>
      obtain ⟨v, c1, c2⟩ := M_knowsBy hmt hy hf (Or.inl hl) hh hn hm12
      have t1 : (if true = true then (1 : Int32) else 0) = 1 := rfl
      rw [t1, if_neg n10, c1, bnd_ok, nm_ok, nI_1]
      refine Or.inl ⟨hl, v, _, _, ⟨hft.tr c2, ?_, rfl⟩, rfl⟩
      show _ = if (wnr μ h n m f i && qhB μ h n m (shL μ f i)) = true then (1 : Int32) else 0
      rw [hb, Bool.true_and]
  · have : i = mH μ := by omega
    subst this
    refine Or.inr ⟨t, ?_, hft⟩
    rw [ht2, if_pos (nI_le (Nat.le_refl _) (by omega))]
    unfold won
    split <;> rfl
theorem DR.ext {σ : St} {μ : Mu} {n K : Nat} {sh sh' : Nat → Nat} (h : DR σ μ n K sh) (he : ∀ x, x < mH μ → sh x = sh' x) : DR σ μ n K sh' := by
  obtain ⟨d4, d5, d6, d7, d8, d9, d10, d11, d57, d58⟩ := h
  refine ⟨d4, d5, d6, ?_, ?_, d9, d10, d11, fun x hx => by rw [d57 x hx, he x hx], d58⟩
  · rw [d7]; congr 1
    refine mkm_ext fun x _ => ?_
    unfold ogB
    by_cases e : x < mH μ
    · rw [he x e]
    · simp [e]
  · rw [d8]; congr 1
    refine mkm_ext fun x _ => ?_
    unfold otB
    by_cases e : x < mH μ
    · rw [he x e]
    · simp [e]
theorem N_hearsInSpite {σ : St} {μ : Mu} (hq : QN σ μ) (hy : HY μ) {f h n m : Nat} (hf : f < mH μ ∨ f = 16) (hh : h < mH μ) (hn : n < mn μ) (hm12 : m ≤ 12) : ∃ σ', f_X3_hearsInSpite__59 σ (nI h) (nI n) (nI m) (nI f) = some (if won μ h n m f = true then 1 else 0, σ') ∧ frD σ σ' := by
  have hH := mH_pos hy.1
  obtain ⟨u, e1, e2, e3⟩ := Q_pick hq hy hn
  have hqu := hq.fr e2
  have fal : ∀ i j, wnr μ h n m f i = false → wnr μ h n m f (i + j) = false := fun i j hi => by
    induction j with
    | zero => exact hi
    | succ j ih => show (wnr μ h n m f (i + j) && _) = false; rw [ih]; rfl
  have wf : ∀ i, i ≤ mH μ → wnr μ h n m f i = false → won μ h n m f = false := fun i hi hb => by
    have := fal i (mH μ - i) hb
    rw [show i + (mH μ - i) = mH μ by omega] at this
    exact this
  have q0 : wnr μ h n m f 0 = qhB μ h n m (shM μ f) := by
    show qhB μ h n m (shL μ f 16) = _
    unfold qhB
    rw [alg_sh hy.1 (sh' := shM μ f) (fun t ht => by unfold shL; rw [if_neg (fun q => by omega)])]
  unfold f_X3_hearsInSpite__59
  rw [show ∀ (A : St → Ot) (B : (St → Ot) → Ot), jq0 A B = B A from fun _ _ => rfl]
  rw [e1, bnd_ok]
  suffices main : ∀ v : St, frD σ v → DR v μ n (KW μ n) (shM μ f) → ∃ σ', bnd (f_X1_hears__56 v (nI h) (nI m)) (fun r7 s8 => (if r7 = (0 : Int32) then some ((0 : Int32), s8) else lq1 (fun k9 s11 x10 => bnd (f_X4_houses__12 s11) (fun r12 s13 => (if r12 ≤ x10 then some ((1 : Int32), s13) else bnd (f_X1_sashOf__56 s13 x10) (fun r14 s15 => bnd (f_X1_reopen__56 s15 x10 ((if (0 : Int32) < (r14 - (1 : Int32)) then (r14 - (1 : Int32)) else (0 : Int32)))) (fun r16 s17 => bnd (f_X1_hears__56 s17 (nI h) (nI m)) (fun r18 s19 => bnd (f_X1_reopen__56 s19 x10 r14) (fun r20 s21 => (if r18 = (0 : Int32) then some ((0 : Int32), s21) else nm (x10 + (1 : Int32)) (fun x22 => k9 s21 x22))))))))) 100000 s8 (0 : Int32))) = some (if won μ h n m f = true then 1 else 0, σ') ∧ frD σ σ' by
    rcases hf with hfl | hf16
    · have hhs : f_X4_hasHouse__12 u (nI f) = some (1, u) := by
        simp only [f_X4_hasHouse__12, jq0, N_houses hqu.1, bnd_ok, if_neg (nI_pos (show f < 2 ^ 31 by omega)), if_neg (nI_ge hfl (show mH μ < 2 ^ 31 by omega))]
      have hs6 := hy.2.2.1 f (by omega)
      have hsa : f_X9_sashOf__19 u (nI f) = some (nI (SH μ f), u) := by
        simp only [f_X9_sashOf__19, at_20 (show f < 16 by omega), bnd_ok]
        rw [hqu.2.2.1 f (by omega)]; rfl
      have hmin : (if (nI (SH μ f) + 1) < (6 : Int32) then (nI (SH μ f) + 1) else (6 : Int32)) = nI (min 6 (SH μ f + 1)) := by
        rw [nI_1]
        by_cases c : SH μ f + 1 < 6
        · have q : nI (SH μ f + 1) < (6 : Int32) := nI_lt (b := 6) c (by decide)
          rw [if_pos q, Nat.min_eq_right (by omega)]
        · have q : ¬ nI (SH μ f + 1) < (6 : Int32) := nI_nlt (b := 6) (by omega) (by omega)
          rw [if_neg q, Nat.min_eq_left (by omega)]; rfl
      obtain ⟨v, g1, g2, g3⟩ := N_reopen hy.1 hn e3 hfl (o := min 6 (SH μ f + 1)) (Nat.min_le_left _ _)
      rw [hhs, bnd_ok, if_neg n10, hsa, bnd_ok, hmin, g1, bnd_ok]
      refine main v (e2.tr g2) (g3.ext (fun x hx => ?_))
      show (if x = f then min 6 (SH μ f + 1) else SH μ x) = (if x = f ∧ x < mH μ then min 6 (SH μ x + 1) else SH μ x)
      by_cases e : x = f
      · subst e; rw [if_pos rfl, if_pos ⟨rfl, hx⟩]
      · rw [if_neg e, if_neg (fun q => e q.1)]
    · subst hf16
      have hhs : f_X4_hasHouse__12 u (nI 16) = some (0, u) := by
        simp only [f_X4_hasHouse__12, jq0, N_houses hqu.1, bnd_ok, if_neg (nI_pos (show 16 < 2 ^ 31 by omega)), if_pos (nI_le (show mH μ ≤ 16 by omega) (show 16 < 2 ^ 31 by decide))]
      rw [hhs, bnd_ok, if_pos rfl]
      refine main u e2 (e3.ext (fun x hx => ?_))
      unfold shM
      rw [if_neg (fun q => by omega)]
  intro v hfv hdv
  have hqv := hq.fr hfv
  rw [Q_hears hqv hy hdv (KWl hy hn) (show m ≤ 100 by omega) (show h < 16 by omega), bnd_ok]
  have q0' : (alg μ n (shM μ f) (μ 6 0) m (KW μ n)).testBit h = wnr μ h n m f 0 := q0.symm
  rw [q0']
  cases hb0 : wnr μ h n m f 0 with
  | false =>
    refine ⟨v, ?_, hfv⟩
    rw [wf 0 (Nat.zero_le _) hb0]; rfl
  | true =>
    have t1 : (if true = true then (1 : Int32) else 0) = 1 := rfl
    rw [t1, if_neg n10]
    refine lq1_run (P := fun o => ∃ σ', o = some (if won μ h n m f = true then 1 else 0, σ') ∧ frD σ σ') (fun i t y => y = nI i ∧ frD σ t ∧ DR t μ n (KW μ n) (shM μ f) ∧ wnr μ h n m f i = true) (mH μ) ?_ 100000 0 v 0 (Nat.zero_le _) (by omega) ⟨rfl, hfv, hdv, hb0⟩
    rintro i t y hi ⟨rfl, hft, hdt, hwi⟩ k
    have hqt := hq.fr hft
    rcases Nat.lt_or_ge i (mH μ) with hl | hl
    · have hs6 := shM_le hy (f := f) (show i < 16 by omega)
      have hsa : f_X1_sashOf__56 t (nI i) = some (nI (shM μ f i), t) := by
        simp only [f_X1_sashOf__56, at_57 (show i < 16 by omega), bnd_ok]
        rw [hdt.2.2.2.2.2.2.2.2.1 i hl]
      have hmax : (if (0 : Int32) < (nI (shM μ f i) - 1) then (nI (shM μ f i) - 1) else (0 : Int32)) = nI (shM μ f i - 1) := by
        by_cases c : shM μ f i = 0
        · rw [c, if_neg (by decide), nI_0.symm]
        · rw [show nI (shM μ f i) - 1 = nI (shM μ f i - 1) from pk_sub (b := 1) (by omega)]
          by_cases c2 : shM μ f i - 1 = 0
          · rw [c2, if_neg (by decide), nI_0.symm]
          · rw [if_pos (show (0 : Int32) < nI (shM μ f i - 1) from nI_lt (a := 0) (by omega) (by omega))]
      obtain ⟨v1, g1, g2, g3⟩ := N_reopen hy.1 hn hdt hl (o := shM μ f i - 1) (by omega)
      have g3' : DR v1 μ n (KW μ n) (shL μ f i) := g3.ext (fun x hx => by
        show (if x = i then shM μ f i - 1 else shM μ f x) = (if x = i ∧ x < mH μ then shM μ f x - 1 else shM μ f x)
        by_cases e : x = i
        · subst e; rw [if_pos rfl, if_pos ⟨rfl, hx⟩]
        · rw [if_neg e, if_neg (fun q => e q.1)])
      have hq1 := hqt.fr g2
      obtain ⟨v2, r1, r2, r3⟩ := N_reopen hy.1 hn g3' hl (o := shM μ f i) hs6
      have r3' : DR v2 μ n (KW μ n) (shM μ f) := r3.ext (fun x hx => by
        show (if x = i then shM μ f i else shL μ f i x) = shM μ f x
        by_cases e : x = i
        · subst e; rw [if_pos rfl]
        · rw [if_neg e]; unfold shL; rw [if_neg (fun q => e q.1)])
      have hh1 : f_X1_hears__56 v1 (nI h) (nI m) = some (if qhB μ h n m (shL μ f i) = true then 1 else 0, v1) := Q_hears hq1 hy g3' (KWl hy hn) (show m ≤ 100 by omega) (show h < 16 by omega)
      rw [N_houses hqt.1, bnd_ok, if_neg (nI_ge hl (show mH μ < 2 ^ 31 by omega)), hsa, bnd_ok, hmax, g1, bnd_ok, hh1, bnd_ok, r1, bnd_ok, nm_ok, nI_1]
      have hw1 : wnr μ h n m f (i + 1) = qhB μ h n m (shL μ f i) := by
        show (wnr μ h n m f i && qhB μ h n m (shL μ f i)) = _
        rw [hwi, Bool.true_and]
      cases hb : qhB μ h n m (shL μ f i) with
      | false =>
        refine Or.inr ⟨v2, ?_, (hft.tr g2).tr r2⟩
        rw [wf (i + 1) (by omega) (hw1.trans hb)]; rfl
      | true =>
        have t1 : (if true = true then (1 : Int32) else 0) = 1 := rfl
        rw [t1, if_neg n10]
        exact Or.inl ⟨hl, v2, _, ⟨rfl, (hft.tr g2).tr r2, r3', hw1.trans hb⟩, rfl⟩
    · have : i = mH μ := by omega
      subst this
      refine Or.inr ⟨t, ?_, hft⟩
      rw [N_houses hqt.1, bnd_ok, if_pos (nI_le (Nat.le_refl _) (by omega))]
      have : won μ h n m f = true := hwi
      rw [this]; rfl
/-- the lowest house which is won -/
theorem pick_least (p : Nat → Bool) (N : Nat) : (∀ i, i < N → p i = false) ∨ ∃ i, i < N ∧ p i = true ∧ ∀ j, j < i → p j = false := by
  induction N with
  | zero => exact Or.inl (fun i hi => by omega)
  | succ N ih =>
    rcases ih with q | ⟨i, h1, h2, h3⟩
    · cases hb : p N with
      | false =>
        refine Or.inl (fun i hi => ?_)
        by_cases e : i = N
        · subst e; exact hb
        · exact q i (by omega)
      | true => exact Or.inr ⟨N, by omega, hb, q⟩
    · exact Or.inr ⟨i, by omega, h2, h3⟩
def btw : Option Nat → Nat
  | none => 16
  | some f => f
def bto (μ : Mu) (h n m : Nat) (w : Option Nat) : Nat := if won μ h n m 16 = true then 16 else btw w
def LW (μ : Mu) (h n m : Nat) (w : Option Nat) : Prop := match w with
  | none => ∀ i, i < mH μ → won μ h n m i = false
  | some f => f < mH μ ∧ won μ h n m f = true ∧ ∀ j, j < f → won μ h n m j = false
theorem LW.ex (μ : Mu) (h n m : Nat) : ∃ w, LW μ h n m w := by
  rcases pick_least (won μ h n m) (mH μ) with q | ⟨i, h1, h2, h3⟩
  · exact ⟨none, q⟩
  · exact ⟨some i, h1, h2, h3⟩
theorem N_bestToOpen {σ : St} {μ : Mu} (hq : QN σ μ) (hy : HY μ) {h n m : Nat} {w : Option Nat} (hw : LW μ h n m w) (hh : h < mH μ) (hn : n < mn μ) (hm12 : m ≤ 12) : ∃ σ', f_X3_bestToOpen__59 σ (nI h) (nI n) (nI m) = some (nI (bto μ h n m w), σ') ∧ frD σ σ' := by
  have hH := mH_pos hy.1
  obtain ⟨u, a1, a2⟩ := N_hearsInSpite hq hy (Or.inr rfl : (16 : Nat) < mH μ ∨ 16 = 16) hh hn hm12
  have a1' : f_X3_hearsInSpite__59 σ (nI h) (nI n) (nI m) 16 = some (if won μ h n m 16 = true then 1 else 0, u) := a1
  unfold f_X3_bestToOpen__59
  rw [a1', bnd_ok]
  cases h16 : won μ h n m 16 with
  | true =>
    refine ⟨u, ?_, a2⟩
    have t1 : (if true = true then (1 : Int32) else 0) = 1 := rfl
    rw [t1, if_neg n10]
    unfold bto
    rw [h16]; rfl
  | false =>
    have t0 : (if false = true then (1 : Int32) else 0) = 0 := rfl
    rw [t0, if_pos rfl]
    have hb : ∀ z : Nat, btw w = z → bto μ h n m w = z := fun z q => by unfold bto; rw [h16, if_neg (by decide)]; exact q
    refine lq1_run (P := fun o => ∃ σ', o = some (nI (bto μ h n m w), σ') ∧ frD σ σ') (fun i t y => y = nI i ∧ frD σ t ∧ ∀ j, j < i → won μ h n m j = false) (mH μ) ?_ 100000 0 u 0 (Nat.zero_le _) (by omega) ⟨rfl, a2, fun j hj => by omega⟩
    rintro i t y hi ⟨rfl, hft, hlow⟩ k
    have hqt := hq.fr hft
    rcases Nat.lt_or_ge i (mH μ) with hl | hl
    · obtain ⟨v, c1, c2⟩ := N_hearsInSpite hqt hy (Or.inl hl) hh hn hm12
      rw [N_houses hqt.1, bnd_ok, if_neg (nI_ge hl (show mH μ < 2 ^ 31 by omega)), c1, bnd_ok, nm_ok, nI_1]
      cases hb2 : won μ h n m i with
      | true =>
        have t1 : (if true = true then (1 : Int32) else 0) = 1 := rfl
        rw [t1, if_neg n10]
        refine Or.inr ⟨v, ?_, hft.tr c2⟩
        rw [hb i ?_]
        cases w with
        | none => have := hw i hl; rw [hb2] at this; exact absurd this (by decide)
        | some f =>
          show f = i
          rcases Nat.lt_trichotomy f i with q | q | q
          · have := hlow f q; rw [hw.2.1] at this; exact absurd this (by decide)
          · exact q
          · have := hw.2.2 i q; rw [hb2] at this; exact absurd this (by decide)
      | false =>
        rw [t0, if_pos rfl]
        refine Or.inl ⟨hl, v, _, ⟨rfl, hft.tr c2, fun j hj => ?_⟩, rfl⟩
        by_cases e : j = i
        · subst e; exact hb2
        · exact hlow j (by omega)
    · have : i = mH μ := by omega
      subst this
      refine Or.inr ⟨t, ?_, hft⟩
      rw [N_houses hqt.1, bnd_ok, if_pos (nI_le (Nat.le_refl _) (by omega)), hb 16 ?_]
      · rfl
      · cases w with
        | none => rfl
        | some f => have := hlow f hw.1; rw [hw.2.1] at this; exact absurd this (by decide)
theorem st_quarrel {k : Nat} {σ τ : St} (h : Rel k σ τ) (hk : k < 64) (x1 x2 x3 x4 : Int32) : ST2 k (f_X10_quarrel__0 σ x1 x2 x3 x4) (f_X11_quarrel__0 τ x1 x2 x3 x4) := by
  obtain ⟨μ, hf, hn, hm⟩ := id h
  have hy := HY.of hf hk
  have hq := QN.of hn
  have hH := mH_pos hy.1
  unfold f_X10_quarrel__0 f_X11_quarrel__0
  rcases both_house hq.1 hm.1 hy.1 x1 with ⟨g, g1, rfl, gN, gM⟩ | ⟨gN, gM⟩
  rotate_left
  · exact st_bad h (r := -1) (by simp only [gN, bnd_ok, c00, if_true]) (by simp only [gM, bnd_ok, c00, if_true])
  rw [gN, gM, bnd_ok, bnd_ok, if_neg n10, if_neg n10]
  rcases both_news hq.1 hm.1 hy.1 x2 with ⟨j, j1, rfl, jN, jM⟩ | ⟨jN, jM⟩
  rotate_left
  · exact st_bad h (r := -1) (by simp only [jN, bnd_ok, c00, if_true]) (by simp only [jM, bnd_ok, c00, if_true])
  rw [jN, jM, bnd_ok, bnd_ok, if_neg n10, if_neg n10]
  rcases both_in (A := 1) (B := 12) 1 12 (by decide) (by decide) rfl rfl σ τ x3 with ⟨m, m1, m2, rfl, mN, mM⟩ | ⟨mN, mM⟩
  rotate_left
  · exact st_bad h (r := -1) (by simp only [mN, bnd_ok, c00, if_true]) (by simp only [mM, bnd_ok, c00, if_true])
  rw [mN, mM, bnd_ok, bnd_ok, if_neg n10, if_neg n10]
  rcases both_in (A := 0) (B := 1) 0 1 (by decide) (by decide) rfl rfl σ τ x4 with ⟨a, h1, h2, rfl, hN, hM⟩ | ⟨hN, hM⟩
  rotate_left
  · exact st_bad h (r := -1) (by simp only [hN, bnd_ok, c00, if_true]) (by simp only [hM, bnd_ok, c00, if_true])
  rw [hN, hM, bnd_ok, bnd_ok, if_neg n10, if_neg n10]
  obtain ⟨w, hw⟩ := LW.ex μ g j m
  obtain ⟨σ', a1, a2⟩ := N_bestToOpen hq hy hw g1 j1 m2
  have hbt : bto μ g j m w < mH μ ∨ bto μ g j m w = 16 := by
    unfold bto
    split
    · exact Or.inr rfl
    · cases w with
      | none => exact Or.inr rfl
      | some f => exact Or.inl hw.1
  -- the check
  have hp1 : nI (mH μ) - 1 = nI (mH μ - 1) := pk_sub (b := 1) hH.1
  have ht2 : τ 0 2 = nI (mH μ) := hm.1.2.2.1
  rw [ht2, nm_ok, hp1]
  suffices hMl : ∀ oM, (∃ τ', oM = some (if nI a = 0 then (if won μ g j m (bto μ g j m w) = true then (1 : Int32) else 0) else nI (bto μ g j m w), τ') ∧ sameM τ τ') → ST2 k _ oM by
    refine hMl _ ?_
    refine lq2_run (P := fun o => ∃ τ', o = some (if nI a = 0 then (if won μ g j m (bto μ g j m w) = true then (1 : Int32) else 0) else nI (bto μ g j m w), τ') ∧ sameM τ τ') (fun i t x y => sameM τ t ∧ y = nI (mH μ - i) + (-1) ∧ ((x = -1 ∧ ∀ z, mH μ - i ≤ z → z < mH μ → won μ g j m z = false) ∨ ∃ z, mH μ - i ≤ z ∧ z < mH μ ∧ x = nI z ∧ won μ g j m z = true ∧ ∀ y, mH μ - i ≤ y → y < z → won μ g j m y = false)) (mH μ) ?_ 100000 0 τ (-1) _ (Nat.zero_le _) (by omega) ⟨sameM.rf, ?_, Or.inl ⟨rfl, fun z h1 h2 => by omega⟩⟩
    · rintro i t x y hi ⟨hft, rfl, hx⟩ k2
      have hmt := hm.same hft
      rcases Nat.lt_or_ge i (mH μ) with hl | hl
      · have e : nI (mH μ - i) + (-1) = nI (mH μ - i - 1) := by
          rw [show mH μ - i = (mH μ - i - 1) + 1 by omega]; exact pk_m1 _
        obtain ⟨v, c1, c2⟩ := M_isWon hmt hy (Or.inl (show mH μ - i - 1 < mH μ by omega)) g1 j1 m2
        rw [e, if_neg (nI_pos (by omega))]
        simp only [jq1, c1, bnd_ok, nm_ok]
        refine Or.inl ⟨hl, ?_⟩
        cases hb : won μ g j m (mH μ - i - 1) with
        | false =>
          have t0 : (if false = true then (1 : Int32) else 0) = 0 := rfl
          rw [t0, if_pos rfl]
          refine ⟨v, _, _, ⟨hft.tr c2, by rw [show mH μ - (i + 1) = mH μ - i - 1 by omega], ?_⟩, rfl⟩
          rcases hx with ⟨hx1, hx2⟩ | ⟨z, z1, z2, z3, z4, z5⟩
          · refine Or.inl ⟨hx1, fun z h1 h2 => ?_⟩
            by_cases q : z = mH μ - i - 1
            · rw [q]; exact hb
            · exact hx2 z (by omega) h2
          · refine Or.inr ⟨z, by omega, z2, z3, z4, fun y h1 h2 => ?_⟩
            by_cases q : y = mH μ - i - 1
            · rw [q]; exact hb
            · exact z5 y (by omega) h2
        | true =>
          have t1 : (if true = true then (1 : Int32) else 0) = 1 := rfl
          rw [t1, if_neg n10]
          exact ⟨v, _, _, ⟨hft.tr c2, by rw [show mH μ - (i + 1) = mH μ - i - 1 by omega], Or.inr ⟨_, by omega, by omega, rfl, hb, fun y h1 h2 => by omega⟩⟩, rfl⟩
      · have : i = mH μ := by omega
        subst this
        refine Or.inr ?_
        obtain ⟨v, c1, c2⟩ := M_isWon hmt hy (Or.inr rfl : (16 : Nat) < mH μ ∨ 16 = 16) g1 j1 m2
        have c1' : f_X11_isWon__0 t 16 (nI g) (nI j) (nI m) = some (if won μ g j m 16 = true then 1 else 0, v) := c1
        rw [if_pos (show nI (mH μ - mH μ) + (-1) < 0 by rw [Nat.sub_self]; decide), c1', bnd_ok]
        have hx' : (x = -1 ∧ w = none) ∨ ∃ z, z < mH μ ∧ x = nI z ∧ w = some z := by
          rcases hx with ⟨hx1, hx2⟩ | ⟨z, z1, z2, z3, z4, z5⟩
          · refine Or.inl ⟨hx1, ?_⟩
            cases w with
            | none => rfl
            | some f => have := hx2 f (by omega) hw.1; rw [hw.2.1] at this; exact absurd this (by decide)
          · refine Or.inr ⟨z, z2, z3, ?_⟩
            cases w with
            | none => have := hw z z2; rw [z4] at this; exact absurd this (by decide)
            | some f =>
              have hfz : f = z := by
                rcases Nat.lt_trichotomy f z with q | q | q
                · have := z5 f (by omega) q; rw [hw.2.1] at this; exact absurd this (by decide)
                · exact q
                · have := hw.2.2 z q; rw [z4] at this; exact absurd this (by decide)
              rw [hfz]
        refine ⟨v, ?_, hft.tr c2⟩
        have ha : a = 0 ∨ a = 1 := by omega
        cases h16 : won μ g j m 16 with
        | true =>
          have hb16 : bto μ g j m w = 16 := by unfold bto; rw [h16]; rfl
          have t1 : (if true = true then (1 : Int32) else 0) = 1 := rfl
          rw [hb16, h16, t1]
          simp only [jq0, c10, if_false]
          rcases ha with e | e <;> subst e
          · rw [if_pos nI_0, if_pos nI_0]
          · rw [if_neg (show ¬ nI 1 = 0 by decide), if_neg (show ¬ nI 1 = 0 by decide)]; rfl
        | false =>
          have t0 : (if false = true then (1 : Int32) else 0) = 0 := rfl
          rw [t0]
          simp only [jq0, if_true]
          rcases hx' with ⟨q1, q2⟩ | ⟨z, z1, q1, q2⟩
          · subst q1; subst q2
            have hb16 : bto μ g j m none = 16 := by unfold bto; rw [h16]; rfl
            rw [hb16, h16, t0]
            rcases ha with e | e <;> subst e
            · rw [if_pos nI_0, if_pos nI_0, if_pos (show (-1 : Int32) < 0 by decide)]
            · rw [if_neg (show ¬ nI 1 = 0 by decide), if_neg (show ¬ nI 1 = 0 by decide), if_neg (show ¬ (0 : Int32) ≤ -1 by decide)]; rfl
          · subst q1; subst q2
            have hbz : bto μ g j m (some z) = z := by unfold bto; rw [h16]; rfl
            have hwz : won μ g j m z = true := hw.2.1
            have t1 : (if true = true then (1 : Int32) else 0) = 1 := rfl
            rw [hbz, hwz, t1]
            rcases ha with e | e <;> subst e
            · rw [if_pos nI_0, if_pos nI_0, if_neg (nI_pos (by omega))]
            · rw [if_neg (show ¬ nI 1 = 0 by decide), if_neg (show ¬ nI 1 = 0 by decide), if_pos (nI_pos' (by omega))]
    · rw [show mH μ - 0 = (mH μ - 1) + 1 by omega]; exact (pk_m1 _).symm
  rintro oM ⟨τ', b1, b2⟩
  have ha : a = 0 ∨ a = 1 := by omega
  rcases ha with e | e <;> subst e
  · obtain ⟨v, c1, c2⟩ := N_hearsInSpite (hq.fr a2) hy hbt g1 j1 m2
    refine st_same h (r := if won μ g j m (bto μ g j m w) = true then (1 : Int32) else 0) (σ' := v) ?_ (b1.trans (by rw [if_pos nI_0])) (a2.tr c2).sm b2
    rw [a1, bnd_ok, if_neg (show ¬ nI 0 = 1 by decide), c1, bnd_ok]
    split <;> rfl
  · refine st_same h (r := nI (bto μ g j m w)) (σ' := σ') ?_ (b1.trans (by rw [if_neg (show ¬ nI 1 = 0 by decide)])) a2.sm b2
    rw [a1, bnd_ok, if_pos (show nI 1 = 1 by decide)]
