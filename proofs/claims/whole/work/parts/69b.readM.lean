/-! the check reads -/
def TXM (τ : St) (T : Nat → Nat) (le : Nat) : Prop := τ 0 16 = nI le ∧ ∀ i, i < le → τ 8 i = nI (T i)
def frQ (τ τ' : St) : Prop := (∀ p, p ≠ 0 → p ≠ 9 → τ' p = τ p) ∧ ∀ j, j ≠ 17 → τ' 0 j = τ 0 j
theorem frQ.rf {τ : St} : frQ τ τ := ⟨fun _ _ _ => rfl, fun _ _ => rfl⟩
theorem frQ.tr {a b c : St} (h : frQ a b) (h2 : frQ b c) : frQ a c := ⟨fun p x y => (h2.1 p x y).trans (h.1 p x y), fun j hj => (h2.2 j hj).trans (h.2 j hj)⟩
theorem TXM.eq {τ τ' : St} {T : Nat → Nat} {le : Nat} (h : TXM τ T le) (h1 : τ' 0 16 = τ 0 16) (h2 : τ' 8 = τ 8) : TXM τ' T le := by unfold TXM; rw [h1, h2]; exact h
theorem TXM.fr {τ τ' : St} {T : Nat → Nat} {le : Nat} (h : TXM τ T le) (hf : frQ τ τ') : TXM τ' T le := h.eq (hf.2 16 (by decide)) (hf.1 8 (by decide) (by decide))
def lm (T : Nat → Nat) (le p : Nat) : Int32 := if p < le then nI (T p) else -1
theorem M_letter {τ : St} {T : Nat → Nat} {le p : Nat} (h : TXM τ T le) (ht : TT T le) (hp : p < 2 ^ 30) : f_X11_letterAt__0 τ (nI p) = some (lm T le p, τ) := by
  have hle := ht.1
  unfold f_X11_letterAt__0 lm
  rw [h.1]
  by_cases c : p < le
  · rw [if_neg (nI_ge c (by omega)), gd_nI (show p < 200 by omega) (by decide), nI_clamp (by omega), if_pos c, h.2 p c]
  · rw [if_pos (nI_le (by omega) (by omega)), if_neg c]
theorem lm_in {T : Nat → Nat} {le p : Nat} (h : p < le) : lm T le p = nI (Lt T le p) := by
  unfold lm Lt; rw [if_pos h, if_pos h]
theorem lm_eq {T : Nat → Nat} {le p c : Nat} (ht : TT T le) (hc : c ≠ 0) (hc2 : c < 200) : (lm T le p = nI c) = (Lt T le p = c) := by
  have := Lt_le ht (p := p)
  by_cases h : p < le
  · rw [lm_in h]; exact nI_eqB (by omega) (by omega)
  · unfold lm Lt
    rw [if_neg h, if_neg h]
    refine propext ⟨fun q => ?_, fun q => absurd q.symm hc⟩
    have := nI_pos (n := c) (by omega)
    rw [← q] at this
    exact absurd (by decide) this
theorem M_fig {τ : St} {T : Nat → Nat} {le p : Nat} (ht : TT T le) : f_X11_isFigure τ (lm T le p) = some (if isF (Lt T le p) = true then 1 else 0, τ) := by
  have hb := Lt_le ht (p := p)
  unfold f_X11_isFigure
  by_cases h : p < le
  · rw [lm_in h]
    generalize Lt T le p = b at hb
    unfold isF
    by_cases c : 48 ≤ b
    · by_cases d : b ≤ 57
      · have h1 : ¬ nI b < (48 : Int32) := nI_nlt (b := 48) c (by omega)
        have h2 : ¬ (57 : Int32) < nI b := nI_nlt (a := 57) d (by decide)
        rw [M_in h1 h2, bnd_ok]; simp [c, d]; rfl
      · have h1 : ¬ nI b < (48 : Int32) := nI_nlt (b := 48) c (by omega)
        have h2 : (57 : Int32) < nI b := nI_lt (a := 57) (by omega) (by omega)
        rw [M_in0 (Or.inr ⟨h1, h2⟩), bnd_ok]; simp [d]; rfl
    · have h1 : nI b < (48 : Int32) := nI_lt (b := 48) (by omega) (by decide)
      rw [M_in0 (Or.inl h1), bnd_ok]; simp [c]; rfl
  · unfold lm Lt
    rw [if_neg h, if_neg h, M_in0 (Or.inl (by decide)), bnd_ok]; rfl
def rnM (x1 : Int32) : (St → Int32 → Ot) → St → Int32 → Ot := fun k2 s4 x3 =>
 (if x1 ≤ x3 then
 some ((1 : Int32), s4)
 else
 bnd (f_X11_letterAt__0 s4 ((s4 0 17))) (fun r5 s6 =>
 bnd (f_X11_isFigure s6 r5) (fun r7 s8 =>
 (if r7 = (0 : Int32) then
 some ((0 : Int32), s8)
 else
 jq0 (fun s10 =>
 jq2 (fun s14 x12 x13 =>
 (if x13 = x12 then
 nm (pf s14 0 17 (((s14 0 17) + (1 : Int32)))) (fun s15 =>
 nm (x3 + (1 : Int32)) (fun x16 =>
 k2 s15 x16))
 else
 some ((0 : Int32), s14))) (fun k11 =>
 bnd (f_X11_letterAt__0 s10 ((s10 0 17))) (fun r17 s18 =>
 (if (x1 - (1 : Int32)) ≤ x3 then
 k11 s18 (59 : Int32) r17
 else
 k11 s18 (44 : Int32) r17)))) (fun k9 =>
 bnd (f_X11_letterAt__0 s8 ((s8 0 17))) (fun r19 s20 =>
 gd (x3) 3 (nm (ps s20 9 (x3) ((r19 - (48 : Int32)))) (fun s21 =>
 nm (pf s21 0 17 (((s21 0 17) + (1 : Int32)))) (fun s22 =>
 bnd (f_X11_letterAt__0 s22 ((s22 0 17))) (fun r23 s24 =>
 bnd (f_X11_isFigure s24 r23) (fun r25 s26 =>
 (if r25 = (0 : Int32) then
 k9 s26
 else
 gd (x3) 3 (bnd (f_X11_letterAt__0 s26 ((s26 0 17))) (fun r27 s28 =>
 gd (x3) 3 (nm (ps s28 9 (x3) (((((10 : Int32) * (s26 9 (Int32.toNatClampNeg x3))) + r27) - (48 : Int32)))) (fun s29 =>
 nm (pf s29 0 17 (((s29 0 17) + (1 : Int32)))) (fun s30 =>
 k9 s30)))))))))))))))))
theorem M_numStep {τ : St} {T : Nat → Nat} {le p x kk n : Nat} (h : TXM τ T le) (ht : TT T le) (hp : p < 1000) (h3 : τ 0 17 = nI p) (hx : x < kk) (hk : kk ≤ 3) : ∃ τ', frQ τ τ' ∧ (∀ y, y ≠ x → τ' 9 y = τ 9 y) ∧ (((rdSt T le p = none ∨ ∃ v q e, rdSt T le p = some (v, q, e) ∧ e ≠ decide (kk ≤ x + 1)) ∧ lq1 (rnM (nI kk)) (n + 1) τ (nI x) = some (0, τ')) ∨ ∃ v q, rdSt T le p = some (v, q, decide (kk ≤ x + 1)) ∧ τ' 0 17 = nI q ∧ τ' 9 x = nI v ∧ lq1 (rnM (nI kk)) (n + 1) τ (nI x) = lq1 (rnM (nI kk)) n τ' (nI (x + 1))) := by
  have hl1 := Lt_le ht (p := p)
  have f9 : ∀ (s : St) (v : Int32), frQ s (ps s 9 (nI x) v) := fun s v => ⟨fun p a b => ps_ne b, fun j _ => by rw [ps_ne (by decide)]⟩
  have f17 : ∀ (s : St) (v : Int32), frQ s (pf s 0 17 v) := fun s v => ⟨fun p a b => pf_ne a, fun j hj => pf_nk hj⟩
  have hkx : ¬ nI kk ≤ nI x := nI_ge hx (by omega)
  have hk1 : nI kk - 1 = nI (kk - 1) := pk_sub (b := 1) (by omega)
  rw [lq1_s]
  generalize hG : lq1 (rnM (nI kk)) n = k2
  unfold rnM
  rw [if_neg hkx, h3, M_letter h ht (by omega), bnd_ok, M_fig ht, bnd_ok]
  -- behind the number
  have sep : ∀ (s : St) (v q : Nat), rdNum T le p = some (v, q) → frQ τ s → (∀ y, y ≠ x → s 9 y = τ 9 y) → s 0 17 = nI q → s 9 x = nI v → ∃ τ', frQ τ τ' ∧ (∀ y, y ≠ x → τ' 9 y = τ 9 y) ∧ (((rdSt T le p = none ∨ ∃ v q e, rdSt T le p = some (v, q, e) ∧ e ≠ decide (kk ≤ x + 1)) ∧ jq2 (fun s14 x12 x13 => (if x13 = x12 then nm (pf s14 0 17 (((s14 0 17) + (1 : Int32)))) (fun s15 => nm (nI x + (1 : Int32)) (fun x16 => k2 s15 x16)) else some ((0 : Int32), s14))) (fun k11 => bnd (f_X11_letterAt__0 s ((s 0 17))) (fun r17 s18 => (if (nI kk - (1 : Int32)) ≤ nI x then k11 s18 (59 : Int32) r17 else k11 s18 (44 : Int32) r17))) = some (0, τ')) ∨ ∃ v q, rdSt T le p = some (v, q, decide (kk ≤ x + 1)) ∧ τ' 0 17 = nI q ∧ τ' 9 x = nI v ∧ jq2 (fun s14 x12 x13 => (if x13 = x12 then nm (pf s14 0 17 (((s14 0 17) + (1 : Int32)))) (fun s15 => nm (nI x + (1 : Int32)) (fun x16 => k2 s15 x16)) else some ((0 : Int32), s14))) (fun k11 => bnd (f_X11_letterAt__0 s ((s 0 17))) (fun r17 s18 => (if (nI kk - (1 : Int32)) ≤ nI x then k11 s18 (59 : Int32) r17 else k11 s18 (44 : Int32) r17))) = k2 τ' (nI (x + 1))) := fun s v q hr hfs h9y h17 h9 => by
    have hq := rdNum_q ht hr
    have l59 : (lm T le q = (59 : Int32)) = (Lt T le q = 59) := lm_eq (c := 59) ht (by decide) (by decide)
    have l44 : (lm T le q = (44 : Int32)) = (Lt T le q = 44) := lm_eq (c := 44) ht (by decide) (by decide)
    rw [show ∀ (A : St → Int32 → Int32 → Ot) (B : (St → Int32 → Int32 → Ot) → Ot), jq2 A B = B A from fun _ _ => rfl]
    rw [h17, M_letter (h.fr hfs) ht (by omega), bnd_ok, hk1]
    dsimp only
    by_cases e : kk - 1 ≤ x
    · have e' : kk ≤ x + 1 := by omega
      rw [if_pos (nI_le e (by omega))]
      by_cases c : Lt T le q = 59
      · rw [if_pos (by rw [l59]; exact c), h17, nI_1, nm_ok, nI_1, nm_ok]
        refine ⟨_, hfs.tr (f17 _ _), fun y hy => by rw [pf_ne (by decide), h9y y hy], Or.inr ⟨v, q + 1, ?_, pf_same, by rw [pf_ne (by decide)]; exact h9, rfl⟩⟩
        unfold rdSt; rw [hr]; simp only []; rw [if_pos c]; simp [e']
      · rw [if_neg (fun z => c (by rw [l59] at z; exact z))]
        refine ⟨s, hfs, h9y, Or.inl ⟨?_, rfl⟩⟩
        by_cases d : Lt T le q = 44
        · refine Or.inr ⟨v, q + 1, false, ?_, by simp [e']⟩
          unfold rdSt; rw [hr]; simp only []; rw [if_neg c, if_pos d]
        · refine Or.inl ?_
          unfold rdSt; rw [hr]; simp only []; rw [if_neg c, if_neg d]
    · have e' : ¬ kk ≤ x + 1 := by omega
      rw [if_neg (nI_ge (by omega) (by omega))]
      by_cases d : Lt T le q = 44
      · have c : ¬ Lt T le q = 59 := by omega
        rw [if_pos (by rw [l44]; exact d), h17, nI_1, nm_ok, nI_1, nm_ok]
        refine ⟨_, hfs.tr (f17 _ _), fun y hy => by rw [pf_ne (by decide), h9y y hy], Or.inr ⟨v, q + 1, ?_, pf_same, by rw [pf_ne (by decide)]; exact h9, rfl⟩⟩
        unfold rdSt; rw [hr]; simp only []; rw [if_neg c, if_pos d]; simp [e']
      · rw [if_neg (fun z => d (by rw [l44] at z; exact z))]
        refine ⟨s, hfs, h9y, Or.inl ⟨?_, rfl⟩⟩
        by_cases c : Lt T le q = 59
        · refine Or.inr ⟨v, q + 1, true, ?_, by simp [e']⟩
          unfold rdSt; rw [hr]; simp only []; rw [if_pos c]
        · refine Or.inl ?_
          unfold rdSt; rw [hr]; simp only []; rw [if_neg c, if_neg d]
  by_cases c : isF (Lt T le p) = true
  · have e1 : (if isF (Lt T le p) = true then (1 : Int32) else 0) = 1 := if_pos c
    have hc := c
    unfold isF at hc
    simp at hc
    have hpl : p < le := Lt_in (T := T) (by omega)
    have d48 : lm T le p - (48 : Int32) = nI (Lt T le p - 48) := by rw [lm_in hpl]; exact pk_sub (b := 48) hc.1
    rw [e1, if_neg n10]
    rw [show ∀ (A : St → Ot) (B : (St → Ot) → Ot), jq0 A B = B A from fun _ _ => rfl]
    have w17 : (ps τ 9 (nI x) (nI (Lt T le p - 48))) 0 17 = nI p := by rw [ps_ne (by decide)]; exact h3
    have hx3 : x < 3 := by omega
    rw [h3, M_letter h ht (by omega), bnd_ok, gd_nI hx3 (by decide), d48, nm_ok, w17, nI_1, nm_ok, pf_same]
    have fA : frQ τ (pf (ps τ 9 (nI x) (nI (Lt T le p - 48))) 0 17 (nI (p + 1))) := (f9 _ _).tr (f17 _ _)
    rw [M_letter (h.fr fA) ht (by omega), bnd_ok, M_fig ht, bnd_ok]
    have a9 : (pf (ps τ 9 (nI x) (nI (Lt T le p - 48))) 0 17 (nI (p + 1))) 9 x = nI (Lt T le p - 48) := by rw [pf_ne (by decide), ps_same (by omega)]
    have a9y : ∀ y, y ≠ x → (pf (ps τ 9 (nI x) (nI (Lt T le p - 48))) 0 17 (nI (p + 1))) 9 y = τ 9 y := fun y hy => by rw [pf_ne (by decide), ps_nk (by omega) hy]
    by_cases d : isF (Lt T le (p + 1)) = true
    · have e2 : (if isF (Lt T le (p + 1)) = true then (1 : Int32) else 0) = 1 := if_pos d
      have hd := d
      unfold isF at hd
      simp at hd
      have hpl2 : p + 1 < le := Lt_in (T := T) (by omega)
      have m10 : (10 : Int32) * nI (Lt T le p - 48) + lm T le (p + 1) - (48 : Int32) = nI (10 * (Lt T le p - 48) + (Lt T le (p + 1) - 48)) := by
        rw [lm_in hpl2, show (10 : Int32) * nI (Lt T le p - 48) = nI (10 * (Lt T le p - 48)) from pk_mul 10 _, nI_add]
        rw [show nI (10 * (Lt T le p - 48) + Lt T le (p + 1)) - (48 : Int32) = nI (10 * (Lt T le p - 48) + Lt T le (p + 1) - 48) from pk_sub (b := 48) (by omega)]
        congr 1; omega
      have b17 : (ps (pf (ps τ 9 (nI x) (nI (Lt T le p - 48))) 0 17 (nI (p + 1))) 9 (nI x) (nI (10 * (Lt T le p - 48) + (Lt T le (p + 1) - 48)))) 0 17 = nI (p + 1) := by rw [ps_ne (by decide), pf_same]
      rw [e2, if_neg n10, gd_nI hx3 (by decide), pf_same, M_letter (h.fr fA) ht (by omega), bnd_ok, gd_nI hx3 (by decide), nI_clamp (by omega), a9, m10, nm_ok, b17, nI_1, nm_ok]
      refine sep _ (10 * (Lt T le p - 48) + (Lt T le (p + 1) - 48)) (p + 2) ?_ (fA.tr ((f9 _ _).tr (f17 _ _))) (fun y hy => ?_) pf_same ?_
      · unfold rdNum; rw [if_pos c, if_pos d]
      · rw [pf_ne (by decide), ps_nk (by omega) hy, a9y y hy]
      · rw [pf_ne (by decide), ps_same (by omega)]
    · have e2 : (if isF (Lt T le (p + 1)) = true then (1 : Int32) else 0) = 0 := if_neg d
      rw [e2, if_pos rfl]
      refine sep _ (Lt T le p - 48) (p + 1) ?_ fA a9y pf_same a9
      unfold rdNum; rw [if_pos c, if_neg d]
  · have e1 : (if isF (Lt T le p) = true then (1 : Int32) else 0) = 0 := if_neg c
    rw [e1, if_pos rfl]
    refine ⟨τ, frQ.rf, fun _ _ => rfl, Or.inl ⟨Or.inl ?_, rfl⟩⟩
    unfold rdSt rdNum
    rw [if_neg c]
theorem M_rd1 {τ : St} {T : Nat → Nat} {le p : Nat} (h : TXM τ T le) (ht : TT T le) (hp : p ≤ 300) (h3 : τ 0 17 = nI p) : ∃ τ', frQ τ τ' ∧ (((¬ ∃ q a b c, rdN T le p = some (1, q, a, b, c)) ∧ f_X11_readNumbers__0 τ 1 = some (0, τ')) ∨ ∃ q a b c, rdN T le p = some (1, q, a, b, c) ∧ f_X11_readNumbers__0 τ 1 = some (1, τ') ∧ τ' 0 17 = nI q ∧ τ' 9 0 = nI a) := by
  have hdef : f_X11_readNumbers__0 τ 1 = lq1 (rnM (nI 1)) (99999 + 1) τ (nI 0) := rfl
  rw [hdef]
  obtain ⟨s1, a1, a2, a3⟩ := M_numStep (x := 0) (kk := 1) (n := 99999) h ht (by omega) h3 (by decide) (by decide)
  rcases a3 with ⟨b1, b2⟩ | ⟨v, q, b1, b2, b3, b4⟩
  · refine ⟨s1, a1, Or.inl ⟨?_, b2⟩⟩
    rintro ⟨q, a, b, c, hh⟩
    unfold rdN at hh
    rcases b1 with b1 | ⟨v, q', e, b1, be⟩
    · rw [b1] at hh; exact absurd hh (by simp)
    · rw [b1] at hh
      cases e with
      | true => exact be (by decide)
      | false =>
        simp only [] at hh
        split at hh
        · exact absurd hh (by simp)
        · exact absurd hh (by simp)
        · split at hh
          · exact absurd hh (by simp)
          · exact absurd hh (by simp)
          · exact absurd hh (by simp)
  · have b1' : rdSt T le p = some (v, q, true) := b1
    refine ⟨s1, a1, Or.inr ⟨q, v, 0, 0, by unfold rdN; rw [b1'], ?_, b2, b3⟩⟩
    rw [b4, show (99999 : Nat) = 99998 + 1 from rfl, lq1_s]
    unfold rnM
    rw [if_pos (show nI 1 ≤ nI (0 + 1) by decide)]
theorem M_rd2 {τ : St} {T : Nat → Nat} {le p : Nat} (h : TXM τ T le) (ht : TT T le) (hp : p ≤ 300) (h3 : τ 0 17 = nI p) : ∃ τ', frQ τ τ' ∧ (((¬ ∃ q a b c, rdN T le p = some (2, q, a, b, c)) ∧ f_X11_readNumbers__0 τ 2 = some (0, τ')) ∨ ∃ q a b c, rdN T le p = some (2, q, a, b, c) ∧ f_X11_readNumbers__0 τ 2 = some (1, τ') ∧ τ' 0 17 = nI q ∧ τ' 9 0 = nI a ∧ τ' 9 1 = nI b) := by
  have hdef : f_X11_readNumbers__0 τ 2 = lq1 (rnM (nI 2)) (99999 + 1) τ (nI 0) := rfl
  rw [hdef]
  obtain ⟨s1, a1, a2, a3⟩ := M_numStep (x := 0) (kk := 2) (n := 99999) h ht (by omega) h3 (by decide) (by decide)
  rcases a3 with ⟨b1, b2⟩ | ⟨v, q, b1, b2, b3, b4⟩
  · refine ⟨s1, a1, Or.inl ⟨?_, b2⟩⟩
    rintro ⟨q, a, b, c, hh⟩
    unfold rdN at hh
    rcases b1 with b1 | ⟨v, q', e, b1, be⟩
    · rw [b1] at hh; exact absurd hh (by simp)
    · rw [b1] at hh
      cases e with
      | true => exact absurd hh (by simp)
      | false => exact be (by decide)
  · have b1' : rdSt T le p = some (v, q, false) := b1
    obtain ⟨y1, y2, y3, y4⟩ := rdSt_q ht b1'
    have b4' : lq1 (rnM (nI 2)) (99999 + 1) τ (nI 0) = lq1 (rnM (nI 2)) (99998 + 1) s1 (nI 1) := b4
    rw [b4']
    have hle := ht.1
    obtain ⟨s2, c1, c2, c3⟩ := M_numStep (x := 1) (kk := 2) (n := 99998) (h.fr a1) ht (by omega) b2 (by decide) (by decide)
    rcases c3 with ⟨d1, d2⟩ | ⟨v2, q2, d1, d2, d3, d4⟩
    · refine ⟨s2, a1.tr c1, Or.inl ⟨?_, d2⟩⟩
      rintro ⟨q, a, b, c, hh⟩
      unfold rdN at hh
      rw [b1'] at hh
      simp only [] at hh
      rcases d1 with d1 | ⟨v3, q3, e, d1, be⟩
      · rw [d1] at hh; exact absurd hh (by simp)
      · rw [d1] at hh
        cases e with
        | true => exact be (by decide)
        | false =>
          simp only [] at hh
          split at hh
          · exact absurd hh (by simp)
          · exact absurd hh (by simp)
          · exact absurd hh (by simp)
    · have d1' : rdSt T le q = some (v2, q2, true) := d1
      refine ⟨s2, a1.tr c1, Or.inr ⟨q2, v, v2, 0, by unfold rdN; rw [b1']; simp only []; rw [d1'], ?_, d2, by rw [c2 0 (by decide)]; exact b3, d3⟩⟩
      rw [d4, show (99998 : Nat) = 99997 + 1 from rfl, lq1_s]
      unfold rnM
      rw [if_pos (show nI 2 ≤ nI (1 + 1) by decide)]
theorem M_rd3 {τ : St} {T : Nat → Nat} {le p : Nat} (h : TXM τ T le) (ht : TT T le) (hp : p ≤ 300) (h3 : τ 0 17 = nI p) : ∃ τ', frQ τ τ' ∧ (((¬ ∃ q a b c, rdN T le p = some (3, q, a, b, c)) ∧ f_X11_readNumbers__0 τ 3 = some (0, τ')) ∨ ∃ q a b c, rdN T le p = some (3, q, a, b, c) ∧ f_X11_readNumbers__0 τ 3 = some (1, τ') ∧ τ' 0 17 = nI q ∧ τ' 9 0 = nI a ∧ τ' 9 1 = nI b ∧ τ' 9 2 = nI c) := by
  have hle := ht.1
  have hdef : f_X11_readNumbers__0 τ 3 = lq1 (rnM (nI 3)) (99999 + 1) τ (nI 0) := rfl
  rw [hdef]
  obtain ⟨s1, a1, a2, a3⟩ := M_numStep (x := 0) (kk := 3) (n := 99999) h ht (by omega) h3 (by decide) (by decide)
  rcases a3 with ⟨b1, b2⟩ | ⟨v, q, b1, b2, b3, b4⟩
  · refine ⟨s1, a1, Or.inl ⟨?_, b2⟩⟩
    rintro ⟨q, a, b, c, hh⟩
    unfold rdN at hh
    rcases b1 with b1 | ⟨v, q', e, b1, be⟩
    · rw [b1] at hh; exact absurd hh (by simp)
    · rw [b1] at hh
      cases e with
      | true => exact absurd hh (by simp)
      | false => exact be (by decide)
  · have b1' : rdSt T le p = some (v, q, false) := b1
    obtain ⟨y1, y2, y3, y4⟩ := rdSt_q ht b1'
    have b4' : lq1 (rnM (nI 3)) (99999 + 1) τ (nI 0) = lq1 (rnM (nI 3)) (99998 + 1) s1 (nI 1) := b4
    rw [b4']
    obtain ⟨s2, c1, c2, c3⟩ := M_numStep (x := 1) (kk := 3) (n := 99998) (h.fr a1) ht (by omega) b2 (by decide) (by decide)
    rcases c3 with ⟨d1, d2⟩ | ⟨v2, q2, d1, d2, d3, d4⟩
    · refine ⟨s2, a1.tr c1, Or.inl ⟨?_, d2⟩⟩
      rintro ⟨q, a, b, c, hh⟩
      unfold rdN at hh
      rw [b1'] at hh
      simp only [] at hh
      rcases d1 with d1 | ⟨v3, q3, e, d1, be⟩
      · rw [d1] at hh; exact absurd hh (by simp)
      · rw [d1] at hh
        cases e with
        | true => exact absurd hh (by simp)
        | false => exact be (by decide)
    · have d1' : rdSt T le q = some (v2, q2, false) := d1
      obtain ⟨z1, z2, z3, z4⟩ := rdSt_q ht d1'
      have d4' : lq1 (rnM (nI 3)) (99998 + 1) s1 (nI 1) = lq1 (rnM (nI 3)) (99997 + 1) s2 (nI 2) := d4
      rw [d4']
      obtain ⟨s3, f1, f2, f3⟩ := M_numStep (x := 2) (kk := 3) (n := 99997) ((h.fr a1).fr c1) ht (by omega) d2 (by decide) (by decide)
      rcases f3 with ⟨g1, g2⟩ | ⟨v3, q3, g1, g2, g3, g4⟩
      · refine ⟨s3, (a1.tr c1).tr f1, Or.inl ⟨?_, g2⟩⟩
        rintro ⟨q, a, b, c, hh⟩
        unfold rdN at hh
        rw [b1'] at hh
        simp only [] at hh
        rw [d1'] at hh
        simp only [] at hh
        rcases g1 with g1 | ⟨v4, q4, e, g1, be⟩
        · rw [g1] at hh; exact absurd hh (by simp)
        · rw [g1] at hh
          cases e with
          | true => exact be (by decide)
          | false => exact absurd hh (by simp)
      · have g1' : rdSt T le q2 = some (v3, q3, true) := g1
        refine ⟨s3, (a1.tr c1).tr f1, Or.inr ⟨q3, v, v2, v3, by unfold rdN; rw [b1']; simp only []; rw [d1']; simp only []; rw [g1'], ?_, g2, by rw [f2 0 (by decide), c2 0 (by decide)]; exact b3, by rw [f2 1 (by decide)]; exact d3, g3⟩⟩
        rw [g4, show (99997 : Nat) = 99996 + 1 from rfl, lq1_s]
        unfold rnM
        rw [if_pos (show nI 3 ≤ nI (2 + 1) by decide)]
