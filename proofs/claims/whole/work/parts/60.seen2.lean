def kx (μ : Mu) (kn : Nat → Nat) (wd : Option Nat) (t : Nat) : Nat → Nat := fun m => if m < mn μ then kf μ kn wd m t else kn m
def taB (μ : Mu) (on : Option Nat) (kn : Nat → Nat) (wd : Option Nat) (n : Nat) : Bool := allB (fun t => allB (cdB μ on (kx μ kn wd t) t) (mse μ)) n
theorem taB_fin {μ : Mu} (hse : SE μ) {on : Option Nat} {kn : Nat → Nat} {wd : Option Nat} : taB μ on kn wd 31 = allB (fun k => !(nnB μ on k) || sgB μ k (kf μ kn wd (u1 μ k) (u2 μ k))) (mse μ) := by
  rw [Bool.eq_iff_iff]
  unfold taB
  rw [allB_iff, allB_iff]
  constructor
  · intro h k hk
    obtain ⟨s0, s1, s2, s3⟩ := hse.2 k hk
    have := (allB_iff _).mp (h (u2 μ k) (by omega)) k hk
    unfold cdB kx at this
    rw [if_pos s1] at this
    simpa using this
  · intro h t ht
    rw [allB_iff]
    intro k hk
    obtain ⟨s0, s1, s2, s3⟩ := hse.2 k hk
    have := h k hk
    unfold cdB kx
    rw [if_pos s1]
    by_cases e : u2 μ k = t
    · subst e; simpa using this
    · simp [e]
theorem M_isSoAll {τ : St} {μ : Mu} (hm : RM τ μ) (hy : HY μ) (hse : SE μ) {kn : Nat → Nat} {on wd : Option Nat} (hN : NWs τ (μ 6 0) (SH μ) kn) (ho : ONL τ 9) (hk : ∀ n, n < mn μ → kn n < 2 ^ mH μ) (hon : ∀ n, on = some n → n < 5) (hwd : ∀ w, wd = some w → w ≤ 4) : ∃ τ', f_X11_isSoAll__0 τ (ov on) (ov wd) = some (if taB μ on kn wd 31 = true then 1 else 0, τ') ∧ only14 τ τ' := by
  have hn5 : mn μ ≤ 5 := hy.1.2.2.1
  have hs2 := hy.2.1
  have hkx : ∀ t n, n < mn μ → kx μ kn wd t n < 2 ^ mH μ := fun t n hn => by
    unfold kx; rw [if_pos hn]; exact kf_lt hy.1 (hk n hn) t
  have h0 : f_X11_isSo__0 τ (ov on) 0 = some (if allB (cdB μ on kn 0) (mse μ) = true then 1 else 0, τ) := M_isSo hm hy hse hN hk hon (Nat.zero_le 30)
  have hkx0 : ∀ m, kx μ kn wd 0 m = kn m := fun m => by unfold kx; split <;> rfl
  have hcd0 : cdB μ on (kx μ kn wd 0) 0 = cdB μ on kn 0 := by
    funext k; unfold cdB; rw [hkx0]
  unfold f_X11_isSoAll__0
  rw [h0, bnd_ok]
  have fal : ∀ i j, taB μ on kn wd i = false → taB μ on kn wd (i + j) = false := fun i j hi => by
    induction j with
    | zero => exact hi
    | succ j ih => show (taB μ on kn wd (i + j) && _) = false; rw [ih]; rfl
  refine lq2_run (P := fun o => ∃ τ', o = some (if taB μ on kn wd 31 = true then 1 else 0, τ') ∧ only14 τ τ') (fun i t x y => y = nI (i + 1) ∧ only14 τ t ∧ NWs t (μ 6 0 + i) (SH μ) (kx μ kn wd i) ∧ x = (if taB μ on kn wd (i + 1) = true then 1 else 0)) 30 ?_ 100000 0 τ _ 1 (Nat.zero_le _) (by omega) ⟨rfl, only14.rf, hN.ext (fun _ _ => rfl) (fun m _ => (hkx0 m).symm), ?_⟩
  · rintro i t x y hi ⟨rfl, hot, hNt, rfl⟩ k
    have hpt := hm.1.o14 hot
    have hmt := hm.same hot.sm
    rcases Nat.lt_or_ge i 30 with hl | hl
    · have h30 : ¬ (30 : Int32) < nI (i + 1) := nI_nlt (b := i + 1) (a := 30) (by omega) (by decide)
      rw [if_neg h30]
      cases hb : taB μ on kn wd (i + 1) with
      | false =>
        have t0 : (if false = true then (1 : Int32) else 0) = 0 := rfl
        have := fal (i + 1) (30 - i) hb
        rw [show i + 1 + (30 - i) = 31 by omega] at this
        rw [t0, if_pos rfl]
        exact Or.inr ⟨t, by rw [this]; rfl, hot⟩
      | true =>
        have t1 : (if true = true then (1 : Int32) else 0) = 1 := rfl
        have hg : ∀ k : Ot, gd 0 22 k = k := fun k => gd_nI (j := 0) (by decide) (by decide)
        have e0 : Int32.toNatClampNeg (0 : Int32) = 0 := by decide
        rw [t1, if_neg n10]
        rw [show ∀ (A : St → Int32 → Ot) (B : (St → Int32 → Ot) → Ot), jq1 A B = B A from fun _ _ => rfl]
        rw [show ∀ (A : St → Ot) (B : (St → Ot) → Ot), jq0 A B = B A from fun _ _ => rfl]
        dsimp only
        rw [hg, e0, hNt.1, M_windOf hpt hy.1 (show μ 6 0 + i < 2 ^ 31 by omega), bnd_ok]
        have hq1 : (nI (i + 1) = (1 : Int32)) = (i + 1 = 1) := nI_eqB (b := 1) (by omega) (by decide)
        -- which wind
        have hw : ∃ w, w ≤ 4 ∧ (∀ F : Int32 → Ot, (if nI (i + 1) = (1 : Int32) then (if ov wd < 0 then F (nI (wnd μ (μ 6 0 + i))) else F (ov wd)) else F (nI (wnd μ (μ 6 0 + i)))) = F (nI w)) ∧ ∀ m, m < mn μ → kf μ kn wd m (i + 1) = nx μ m (SH μ) w (kf μ kn wd m i) := by
          by_cases e : i = 0
          · subst e
            cases wd with
            | none =>
              refine ⟨wnd μ (μ 6 0 + 0), wnd_le hy.1 _, fun F => ?_, fun m _ => rfl⟩
              rw [if_pos (by decide), if_pos (show ov none < 0 by decide)]
            | some w =>
              have := hwd w rfl
              refine ⟨w, this, fun F => ?_, fun m _ => rfl⟩
              rw [if_pos (by decide)]
              show (if nI w < 0 then _ else F (nI w)) = _
              rw [if_neg (nI_pos (by omega))]
          · refine ⟨wnd μ (μ 6 0 + i), wnd_le hy.1 _, fun F => ?_, fun m _ => ?_⟩
            · rw [if_neg (fun q => by rw [hq1] at q; omega)]
            · cases i with
              | zero => exact absurd rfl e
              | succ i => rfl
        obtain ⟨w, hw4, hwF, hwk⟩ := hw
        rw [hwF (fun z => bnd (f_X11_goesBy__0 t z) (fun r12 s13 => bnd (f_X11_isSo__0 s13 (ov on) (nI (i + 1))) (fun r14 s15 => nm (nI (i + 1) + (1 : Int32)) (fun x16 => k s15 r14 x16))))]
        obtain ⟨v, c1, c2, c3⟩ := M_goesBy hpt hy.1 hNt (ho.o14 hot) (fun n hn => hkx i n hn) hy.2.2.1 hw4
        have c3' : NWs v (μ 6 0 + (i + 1)) (SH μ) (kx μ kn wd (i + 1)) := c3.ext (fun _ _ => rfl) (fun m hm5 => by
          unfold gkn kx
          by_cases e : m < mn μ
          · rw [if_pos ⟨e, rfl⟩, if_pos e, if_pos e, hwk m e]
          · rw [if_neg (fun q => e q.1), if_neg e, if_neg e])
        have d1 := M_isSo (hmt.same c2.sm) hy hse c3' (fun n hn => hkx (i + 1) n hn) hon (show i + 1 ≤ 30 by omega)
        rw [c1, bnd_ok, d1, bnd_ok, nm_ok, nI_1]
        refine Or.inl ⟨hl, v, _, _, ⟨rfl, hot.tr c2, c3', ?_⟩, rfl⟩
        show _ = if (taB μ on kn wd (i + 1) && allB (cdB μ on (kx μ kn wd (i + 1)) (i + 1)) (mse μ)) = true then (1 : Int32) else 0
        rw [hb, Bool.true_and]
    · have : i = 30 := by omega
      subst this
      rw [if_pos (show (30 : Int32) < nI 31 by decide)]
      refine Or.inr ⟨t, ?_, hot⟩
      split <;> rfl
  · show _ = if (true && allB (cdB μ on (kx μ kn wd 0) 0) (mse μ)) = true then (1 : Int32) else 0
    rw [hcd0, Bool.true_and]
theorem N_allSoFrom {σ : St} {μ : Mu} (hq : QN σ μ) (hv : VN σ μ) (hy : HY μ) (hse : SE μ) {h n : Nat} (hn : n < mn μ) (hh : h < mH μ) : ∃ σ', f_X8_allSoFrom__62 σ (nI h) (nI n) = some (if allB (fun k => !(decide (u1 μ k = n)) || sgB μ k (alg μ n (SH μ) (μ 6 0) (u2 μ k) (2 ^ h))) (mse μ) = true then 1 else 0, σ') ∧ frD σ σ' := by
  have hH := mH_pos hy.1
  have h6 := hse.1
  have hn5 : mn μ ≤ 5 := hy.1.2.2.1
  obtain ⟨v, e1, e2, e3⟩ := Q_pick hq hy hn
  have hqv := hq.fr e2
  have hvv := hv.same e2.sm
  have h2 : 2 ^ h < 2 ^ mH μ := Nat.pow_lt_pow_right (by decide) hh
  unfold f_X8_allSoFrom__62
  rw [e1, bnd_ok]
  refine lq1_run (P := fun o => ∃ σ', o = some (if allB (fun k => !(decide (u1 μ k = n)) || sgB μ k (alg μ n (SH μ) (μ 6 0) (u2 μ k) (2 ^ h))) (mse μ) = true then 1 else 0, σ') ∧ frD σ σ') (fun i t y => t = v ∧ y = nI i ∧ allB (fun k => !(decide (u1 μ k = n)) || sgB μ k (alg μ n (SH μ) (μ 6 0) (u2 μ k) (2 ^ h))) i = true) (mse μ) ?_ 100000 0 v 0 (Nat.zero_le _) (by omega) ⟨rfl, rfl, rfl⟩
  rintro i t y hi ⟨rfl, rfl, hal⟩ k
  rw [hvv.1]
  rcases Nat.lt_or_ge i (mse μ) with hl | hl
  · obtain ⟨s0, s1, s2, s3⟩ := hse.2 i hl
    obtain ⟨w0, w1, w2, w3⟩ := hvv.2 i hl
    have w1' : t 64 i = nI (u1 μ i) := w1
    have w2' : t 65 i = nI (u2 μ i) := w2
    rw [if_neg (nI_ge hl (by omega))]
    rw [show ∀ (A : St → Ot) (B : (St → Ot) → Ot), jq0 A B = B A from fun _ _ => rfl]
    dsimp only
    rw [at_64 (show i < 6 by omega), bnd_ok, w1', nm_ok, nI_1]
    have hsuc : allB (fun k => !(decide (u1 μ k = n)) || sgB μ k (alg μ n (SH μ) (μ 6 0) (u2 μ k) (2 ^ h))) (i + 1) = (allB (fun k => !(decide (u1 μ k = n)) || sgB μ k (alg μ n (SH μ) (μ 6 0) (u2 μ k) (2 ^ h))) i && (!(decide (u1 μ i = n)) || sgB μ i (alg μ n (SH μ) (μ 6 0) (u2 μ i) (2 ^ h)))) := rfl
    by_cases a : u1 μ i = n
    · have ha := N_along hy.1 hqv.1 e3 hqv.2.1 (by have := hy.2.1; omega) h2 (Nat.zero_le (u2 μ i)) (show u2 μ i ≤ 100 by omega)
      have ha2 : f_X1_along__56 t (nI (2 ^ h)) 0 (nI (u2 μ i)) = some (nI (alg μ n (SH μ) (μ 6 0) (u2 μ i) (2 ^ h)), t) := ha
      rw [if_pos (by rw [a]), N_bit (show h < 16 by omega), bnd_ok, at_65 (show i < 6 by omega), bnd_ok, w2', ha2, bnd_ok, N_isSo8 hvv hy hse hl (alg_lt hy.1 h2 _), bnd_ok]
      cases hb : sgB μ i (alg μ n (SH μ) (μ 6 0) (u2 μ i) (2 ^ h)) with
      | false =>
        have t0 : (if false = true then (1 : Int32) else 0) = 0 := rfl
        rw [t0, if_pos rfl]
        refine Or.inr ⟨t, ?_, e2⟩
        have : ¬ allB (fun k => !(decide (u1 μ k = n)) || sgB μ k (alg μ n (SH μ) (μ 6 0) (u2 μ k) (2 ^ h))) (mse μ) = true := fun q => by
          have := (allB_iff _).mp q i hl
          rw [hb] at this
          simp [a] at this
        rw [if_neg this]
      | true =>
        have t1 : (if true = true then (1 : Int32) else 0) = 1 := rfl
        rw [t1, if_neg n10]
        exact Or.inl ⟨hl, t, _, ⟨rfl, rfl, by rw [hsuc, hal, hb]; simp⟩, rfl⟩
    · rw [if_neg (fun q => a ((nI_eq (by omega) (by omega)).mp q))]
      exact Or.inl ⟨hl, t, _, ⟨rfl, rfl, by rw [hsuc, hal]; simp [a]⟩, rfl⟩
  · have : i = mse μ := by omega
    subst this
    rw [if_pos (nI_le (Nat.le_refl _) (by omega))]
    exact Or.inr ⟨t, by rw [if_pos hal], e2⟩
def bgB (μ : Mu) (n h : Nat) : Bool := allB (fun k => !(decide (u1 μ k = n)) || sgB μ k (alg μ n (SH μ) (μ 6 0) (u2 μ k) (2 ^ h))) (mse μ)
theorem st_began {k : Nat} {σ τ : St} (h : Rel k σ τ) (hk : k < 64) (x1 : Int32) : ST2 k (f_X10_began__0 σ x1) (f_X11_began__0 τ x1) := by
  obtain ⟨μ, hf, hn, hm⟩ := id h
  have hy := HY.of hf hk
  have hq := QN.of hn
  have hv := hn.2.2.2.2.2
  have hse := SE.of hf
  have hH := mH_pos hy.1
  have hn5 : mn μ ≤ 5 := hy.1.2.2.1
  unfold f_X10_began__0 f_X11_began__0
  rcases both_news hq.1 hm.1 hy.1 x1 with ⟨j, j1, rfl, jN, jM⟩ | ⟨jN, jM⟩
  rotate_left
  · exact st_bad h (r := -1) (by simp only [jN, bnd_ok, c00, if_true]) (by simp only [jM, bnd_ok, c00, if_true])
  rw [jN, jM, bnd_ok, bnd_ok, if_neg n10, if_neg n10]
  have LN : ∃ σ', f_X8_beginnings__62 σ (nI j) = some (nI (mkm (bgB μ j) (mH μ)), σ') ∧ frD σ σ' := by
    unfold f_X8_beginnings__62
    refine lq2_run (P := fun o => ∃ σ', o = some (nI (mkm (bgB μ j) (mH μ)), σ') ∧ frD σ σ') (fun i t x y => frD σ t ∧ x = nI (mkm (bgB μ j) i) ∧ y = nI i) (mH μ) ?_ 100000 0 σ 0 0 (Nat.zero_le _) (by omega) ⟨frD.rf, rfl, rfl⟩
    rintro i t x y hi ⟨hft, rfl, rfl⟩ k
    have hqt := hq.fr hft
    rcases Nat.lt_or_ge i (mH μ) with hl | hl
    · obtain ⟨u, e1, e2⟩ := N_allSoFrom hqt (hv.same hft.sm) hy hse j1 hl
      have e1' : f_X8_allSoFrom__62 t (nI i) (nI j) = some (if bgB μ j i = true then 1 else 0, u) := e1
      refine Or.inl ⟨hl, u, _, _, ⟨hft.tr e2, rfl, rfl⟩, ?_⟩
      simp only [N_houses hqt.1, bnd_ok, if_neg (nI_ge hl (show mH μ < 2 ^ 31 by omega)), jq1, e1', N_bit (show i < 16 by omega), nm_ok, nI_1]
      rw [← mkm_or]
      by_cases c : bgB μ j i = true
      · simp only [c, if_true, c10, if_false, nx_or]
      · simp only [c, if_true, c00, Bool.false_eq_true, if_false, Nat.or_zero]
    · have : i = mH μ := by omega
      subst this
      exact Or.inr ⟨t, by simp only [N_houses hqt.1, bnd_ok, if_pos (nI_le (Nat.le_refl (mH μ)) (show mH μ < 2 ^ 31 by omega))], hft⟩
  obtain ⟨σ', a1, a2⟩ := LN
  rw [a1, bnd_ok]
  suffices hMl : ∀ oM, (∃ τ', oM = some (nI (mkm (bgB μ j) (mH μ)), τ') ∧ sameM τ τ') → ST2 k (some (nI (mkm (bgB μ j) (mH μ)), σ')) oM by
    refine hMl _ ?_
    refine lq2_run (P := fun o => ∃ τ', o = some (nI (mkm (bgB μ j) (mH μ)), τ') ∧ sameM τ τ') (fun i t x y => sameM τ t ∧ x = nI (mkm (bgB μ j) i) ∧ y = nI i) (mH μ) ?_ 100000 0 τ 0 0 (Nat.zero_le _) (by omega) ⟨sameM.rf, rfl, rfl⟩
    rintro i t x y hi ⟨hft, rfl, rfl⟩ k
    have hmt := hm.same hft
    have ht2 : t 0 2 = nI (mH μ) := hmt.1.2.2.1
    rcases Nat.lt_or_ge i (mH μ) with hl | hl
    · obtain ⟨u, b1, b2, b3, b4, b5⟩ := NW_ask hmt hy
      have h2 : 2 ^ i < 2 ^ mH μ := Nat.pow_lt_pow_right (by decide) hl
      have e17 : (17 : Int32) + nI j = nI (17 + j) := nI_add 17 j
      have nw := b5.setK (n := j) (v := 2 ^ i) (show j < 5 by omega)
      have mm := (hmt.same b2.sm).same (only14.ps (τ := u) (i := nI (17 + j)) (v := nI (2 ^ i))).sm
      obtain ⟨v, c1, c2⟩ := M_isSoAll (on := some j) (wd := none) mm hy hse nw (b4.o14 only14.ps) (fun m hm => by
        by_cases e : m = j
        · simp only [e, if_true]; exact h2
        · simp only [e, if_false]; exact KWl hy hm) (fun n hn => by injection hn with hn; omega) (fun w hw => by exact absurd hw (by simp))
      have hta : taB μ (some j) (fun m => if m = j then 2 ^ i else KW μ m) none 31 = bgB μ j i := by
        rw [taB_fin hse]
        unfold bgB
        rw [Bool.eq_iff_iff, allB_iff, allB_iff]
        have key : ∀ k, (!(nnB μ (some j) k) || sgB μ k (kf μ (fun m => if m = j then 2 ^ i else KW μ m) none (u1 μ k) (u2 μ k))) = (!(decide (u1 μ k = j)) || sgB μ k (alg μ j (SH μ) (μ 6 0) (u2 μ k) (2 ^ i))) := fun k => by
          rw [kf_none]
          show (!(decide (u1 μ k = j)) || _) = _
          by_cases e : u1 μ k = j
          · rw [e]; simp
          · simp [e]
        constructor
        · intro q k hk; rw [← key k]; exact q k hk
        · intro q k hk; rw [key k]; exact q k hk
      have c1' : f_X11_isSoAll__0 (ps u 14 (nI (17 + j)) (nI (2 ^ i))) (nI j) (-1) = some (if bgB μ j i = true then 1 else 0, v) := by rw [← hta]; exact c1
      refine Or.inl ⟨hl, v, _, _, ⟨hft.tr (b2.sm.tr (only14.ps.sm.tr c2.sm)), rfl, rfl⟩, ?_⟩
      simp only [ht2, if_neg (nI_ge hl (show mH μ < 2 ^ 31 by omega)), jq2, b1, bnd_ok, e17, gd_nI (show 17 + j < 22 by omega) (show 22 < 2 ^ 31 by decide), nx_bit (show i < 31 by omega), nm_ok, c1', nI_1]
      rw [← mkm_or]
      by_cases c : bgB μ j i = true
      · simp only [c, if_true, c10, if_false, nx_or]
      · simp only [c, if_true, c00, Bool.false_eq_true, if_false]
        rw [show (0 : Int32) = nI 0 from rfl, nx_or]
    · have : i = mH μ := by omega
      subst this
      exact Or.inr ⟨t, by simp only [ht2, if_pos (nI_le (Nat.le_refl (mH μ)) (show mH μ < 2 ^ 31 by omega))], hft⟩
  rintro oM ⟨τ', b1, b2⟩
  exact st_same h rfl b1 a2.sm b2
def blB (μ : Mu) (w : Nat) : Bool := allB (fun k => sgB μ k (kf μ (KW μ) (some w) (u1 μ k) (u2 μ k))) (mse μ)
theorem N_allSoBy {σ : St} {μ : Mu} (hq : QN σ μ) (hv : VN σ μ) (hy : HY μ) (hse : SE μ) {w : Nat} (hw4 : w ≤ 4) : ∃ σ', f_X8_allSoBy__62 σ (nI w) = some (if blB μ w = true then 1 else 0, σ') ∧ frD σ σ' := by
  have hH := mH_pos hy.1
  have h6 := hse.1
  have hn5 : mn μ ≤ 5 := hy.1.2.2.1
  unfold f_X8_allSoBy__62
  refine lq1_run (P := fun o => ∃ σ', o = some (if blB μ w = true then 1 else 0, σ') ∧ frD σ σ') (fun i t y => frD σ t ∧ y = nI i ∧ allB (fun k => sgB μ k (kf μ (KW μ) (some w) (u1 μ k) (u2 μ k))) i = true) (mse μ) ?_ 100000 0 σ 0 (Nat.zero_le _) (by omega) ⟨frD.rf, rfl, rfl⟩
  rintro i t y hi ⟨hft, rfl, hal⟩ k
  have hqt := hq.fr hft
  have hvt := hv.same hft.sm
  rw [hvt.1]
  rcases Nat.lt_or_ge i (mse μ) with hl | hl
  · obtain ⟨s0, s1, s2, s3⟩ := hse.2 i hl
    obtain ⟨v, e1, e2, e3⟩ := Q_pick hqt hy s1
    have hqv := hqt.fr e2
    have hvv := hvt.same e2.sm
    have w1' : t 64 i = nI (u1 μ i) := (hvt.2 i hl).2.1
    have w2' : v 65 i = nI (u2 μ i) := (hvv.2 i hl).2.2.1
    have hK := KWl hy s1
    have hsuc : allB (fun k => sgB μ k (kf μ (KW μ) (some w) (u1 μ k) (u2 μ k))) (i + 1) = (allB (fun k => sgB μ k (kf μ (KW μ) (some w) (u1 μ k) (u2 μ k))) i && sgB μ i (kf μ (KW μ) (some w) (u1 μ i) (u2 μ i))) := rfl
    have fin : (i < mse μ ∧ ∃ (t : St) (y1 : Int32), (frD σ t ∧ y1 = nI (i + 1) ∧ allB (fun k => sgB μ k (kf μ (KW μ) (some w) (u1 μ k) (u2 μ k))) (i + 1) = true) ∧ bnd (f_X8_isSo__62 v (nI i) (nI (kf μ (KW μ) (some w) (u1 μ i) (u2 μ i)))) (fun r8 s9 => (if r8 = (0 : Int32) then some ((0 : Int32), s9) else nm (nI i + (1 : Int32)) (fun x10 => k s9 x10))) = k t y1) ∨ ∃ σ', bnd (f_X8_isSo__62 v (nI i) (nI (kf μ (KW μ) (some w) (u1 μ i) (u2 μ i)))) (fun r8 s9 => (if r8 = (0 : Int32) then some ((0 : Int32), s9) else nm (nI i + (1 : Int32)) (fun x10 => k s9 x10))) = some (if blB μ w = true then 1 else 0, σ') ∧ frD σ σ' := by
      rw [N_isSo8 hvv hy hse hl (kf_lt hy.1 hK _), bnd_ok]
      cases hb : sgB μ i (kf μ (KW μ) (some w) (u1 μ i) (u2 μ i)) with
      | false =>
        have t0 : (if false = true then (1 : Int32) else 0) = 0 := rfl
        rw [t0, if_pos rfl]
        refine Or.inr ⟨v, ?_, hft.tr e2⟩
        have : ¬ blB μ w = true := fun q => by
          have := (allB_iff _).mp q i hl
          rw [hb] at this
          exact absurd this (by decide)
        rw [if_neg this]
      | true =>
        have t1 : (if true = true then (1 : Int32) else 0) = 1 := rfl
        rw [t1, if_neg n10, nm_ok, nI_1]
        exact Or.inl ⟨hl, v, _, ⟨hft.tr e2, rfl, by rw [hsuc, hal, hb]; rfl⟩, rfl⟩
    rw [if_neg (nI_ge hl (by omega))]
    rw [show ∀ (A : St → Int32 → Ot) (B : (St → Int32 → Ot) → Ot), jq1 A B = B A from fun _ _ => rfl]
    dsimp only
    unfold f_X1_whoKnows__56
    rw [at_64 (show i < 6 by omega), bnd_ok, w1', e1, bnd_ok, bnd_ok, e3.1, at_65 (show i < 6 by omega), bnd_ok, w2', N_onward hy.1 e3 hK hw4, bnd_ok]
    by_cases c : u2 μ i = 0
    · rw [c, if_pos (by decide)]
      rw [c] at fin
      exact fin
    · rw [if_neg (nI_nle (by omega) (by omega)), at_65 (show i < 6 by omega), bnd_ok, w2']
      have ha := N_along hy.1 hqv.1 e3 hqv.2.1 (by have := hy.2.1; omega) (nx_lt hy.1 hK (n := u1 μ i) (w := w) (sh := SH μ)) (show 1 ≤ u2 μ i by omega) (show u2 μ i ≤ 100 by omega)
      have ha2 : f_X1_along__56 v (nI (nx μ (u1 μ i) (SH μ) w (KW μ (u1 μ i)))) 1 (nI (u2 μ i)) = some (nI (kf μ (KW μ) (some w) (u1 μ i) (u2 μ i)), v) := by
        have hh : kf μ (KW μ) (some w) (u1 μ i) (u2 μ i) = alg μ (u1 μ i) (SH μ) (μ 6 0 + 1) (u2 μ i - 1) (nx μ (u1 μ i) (SH μ) w (KW μ (u1 μ i))) := by
          have := kf_some (μ := μ) (kn := KW μ) (m := u1 μ i) (w := w) (u2 μ i - 1)
          rw [show u2 μ i - 1 + 1 = u2 μ i by omega] at this
          exact this
        rw [hh]; exact ha
      rw [ha2, bnd_ok]
      exact fin
  · have : i = mse μ := by omega
    subst this
    rw [if_pos (nI_le (Nat.le_refl _) (by omega))]
    exact Or.inr ⟨t, by unfold blB; rw [if_pos hal], hft⟩
theorem st_blew {k : Nat} {σ τ : St} (h : Rel k σ τ) (hk : k < 64) : ST2 k (f_X10_blew__0 σ) (f_X11_blew__0 τ) := by
  obtain ⟨μ, hf, hn, hm⟩ := id h
  have hy := HY.of hf hk
  have hq := QN.of hn
  have hv := hn.2.2.2.2.2
  have hse := SE.of hf
  have hn5 : mn μ ≤ 5 := hy.1.2.2.1
  unfold f_X10_blew__0
  have LN : ∃ σ', f_X8_nextWinds__62 σ = some (nI (mkm (blB μ) 5), σ') ∧ frD σ σ' := by
    unfold f_X8_nextWinds__62
    refine lq2_run (P := fun o => ∃ σ', o = some (nI (mkm (blB μ) 5), σ') ∧ frD σ σ') (fun i t x y => frD σ t ∧ x = nI (mkm (blB μ) i) ∧ y = nI i) 5 ?_ 100000 0 σ 0 0 (Nat.zero_le _) (by omega) ⟨frD.rf, rfl, rfl⟩
    rintro i t x y hi ⟨hft, rfl, rfl⟩ k
    have hqt := hq.fr hft
    rcases Nat.lt_or_ge i 5 with hl | hl
    · obtain ⟨u, e1, e2⟩ := N_allSoBy hqt (hv.same hft.sm) hy hse (show i ≤ 4 by omega)
      have h4 : ¬ (4 : Int32) < nI i := nI_nlt (b := i) (a := 4) (by omega) (by decide)
      refine Or.inl ⟨hl, u, _, _, ⟨hft.tr e2, rfl, rfl⟩, ?_⟩
      simp only [if_neg h4, jq1, e1, bnd_ok, N_bit (show i < 16 by omega), nm_ok, nI_1]
      rw [← mkm_or]
      by_cases c : blB μ i = true
      · simp only [c, if_true, c10, if_false, nx_or]
      · simp only [c, if_true, c00, Bool.false_eq_true, if_false, Nat.or_zero]
    · have : i = 5 := by omega
      subst this
      exact Or.inr ⟨t, by rw [if_pos (show (4 : Int32) < nI 5 by decide)], hft⟩
  obtain ⟨σ', a1, a2⟩ := LN
  rw [a1, bnd_ok]
  have LM : ∃ τ', f_X11_blew__0 τ = some (nI (mkm (blB μ) 5), τ') ∧ sameM τ τ' := by
    unfold f_X11_blew__0
    refine lq2_run (P := fun o => ∃ τ', o = some (nI (mkm (blB μ) 5), τ') ∧ sameM τ τ') (fun i t x y => sameM τ t ∧ x = nI (mkm (blB μ) i) ∧ y = nI i) 5 ?_ 100000 0 τ 0 0 (Nat.zero_le _) (by omega) ⟨sameM.rf, rfl, rfl⟩
    rintro i t x y hi ⟨hft, rfl, rfl⟩ k
    have hmt := hm.same hft
    rcases Nat.lt_or_ge i 5 with hl | hl
    · have h4 : ¬ (4 : Int32) < nI i := nI_nlt (b := i) (a := 4) (by omega) (by decide)
      obtain ⟨u, b1, b2, b3, b4, b5⟩ := NW_ask hmt hy
      obtain ⟨v, c1, c2⟩ := M_isSoAll (on := none) (wd := some i) (hmt.same b2.sm) hy hse b5 b4 (fun m hm => KWl hy hm) (fun n hn => by exact absurd hn (by simp)) (fun w hw => by injection hw with hw; omega)
      have hta : taB μ none (KW μ) (some i) 31 = blB μ i := by
        rw [taB_fin hse]
        unfold blB
        rw [Bool.eq_iff_iff, allB_iff, allB_iff]
        have key : ∀ k, (!(nnB μ none k) || sgB μ k (kf μ (KW μ) (some i) (u1 μ k) (u2 μ k))) = sgB μ k (kf μ (KW μ) (some i) (u1 μ k) (u2 μ k)) := fun k => by
          show (!true || _) = _
          simp
        constructor
        · intro q k hk; rw [← key k]; exact q k hk
        · intro q k hk; rw [key k]; exact q k hk
      have c1' : f_X11_isSoAll__0 u (-1) (nI i) = some (if blB μ i = true then 1 else 0, v) := by rw [← hta]; exact c1
      refine Or.inl ⟨hl, v, _, _, ⟨hft.tr (b2.sm.tr c2.sm), rfl, rfl⟩, ?_⟩
      simp only [if_neg h4, jq2, b1, bnd_ok, c1', nx_bit (show i < 31 by omega), nm_ok, nI_1]
      rw [← mkm_or]
      by_cases c : blB μ i = true
      · simp only [c, if_true, c10, if_false, nx_or]
      · simp only [c, if_true, c00, Bool.false_eq_true, if_false]
        rw [show (0 : Int32) = nI 0 from rfl, nx_or]
    · have : i = 5 := by omega
      subst this
      exact Or.inr ⟨t, by rw [if_pos (show (4 : Int32) < nI 5 by decide)], hft⟩
  obtain ⟨τ', b1, b2⟩ := LM
  exact st_same h rfl b1 a2.sm b2
