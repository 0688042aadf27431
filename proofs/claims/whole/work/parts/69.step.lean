/-! step -/
def mset6 (μ : Mu) (f : Nat → Nat) : Mu := fun p => if p = 6 then f else μ p
theorem gbd6 {μ : Mu} {f : Nat → Nat} {n w K h acc : Nat} {sh : Nat → Nat} : ∀ i, gbd (mset6 μ f) n sh w K h i acc = gbd μ n sh w K h i acc
  | 0 => rfl
  | i + 1 => by
    show (if w = 0 ∨ w = i + 1 then gbw μ n sh K h (i + 1) (gbd (mset6 μ f) n sh w K h i acc) else gbd (mset6 μ f) n sh w K h i acc) = _
    rw [gbd6 i]; rfl
theorem gbh6 {μ : Mu} {f : Nat → Nat} {n w K : Nat} {sh : Nat → Nat} : ∀ i, gbh (mset6 μ f) n sh w K i = gbh μ n sh w K i
  | 0 => rfl
  | i + 1 => by
    show (if K.testBit i = true ∧ loB μ n i = true then gbd (mset6 μ f) n sh w K i 4 (gbh (mset6 μ f) n sh w K i) else gbh (mset6 μ f) n sh w K i) = _
    rw [gbh6 i, gbd6 4]; rfl
theorem nx6 {μ : Mu} {f : Nat → Nat} {n w K : Nat} {sh : Nat → Nat} : nx (mset6 μ f) n sh w K = nx μ n sh w K := gbh6 (mH μ)
theorem alg6 {μ : Mu} {f : Nat → Nat} {n s K : Nat} {sh : Nat → Nat} : ∀ m, alg (mset6 μ f) n sh s m K = alg μ n sh s m K
  | 0 => rfl
  | m + 1 => by
    show nx (mset6 μ f) n sh (wnd μ (s + m)) (alg (mset6 μ f) n sh s m K) = _
    rw [alg6 m, nx6]; rfl
def stF (μ : Mu) (m i : Nat) : Nat → Nat := fun j => if 17 ≤ j ∧ j < 17 + i then alg μ (j - 17) (SH μ) (μ 6 0) m (μ 6 j) else μ 6 j
theorem stF_lo {μ : Mu} {m i j : Nat} (h : j < 17) : stF μ m i j = μ 6 j := by
  unfold stF; rw [if_neg (by omega)]
theorem stF_in {μ : Mu} {m i n : Nat} (h : n < i) : stF μ m i (17 + n) = alg μ n (SH μ) (μ 6 0) m (KW μ n) := by
  unfold stF KW; rw [if_pos (by omega), show 17 + n - 17 = n by omega]
theorem stF_out {μ : Mu} {m i n : Nat} (h : i ≤ n) : stF μ m i (17 + n) = μ 6 (17 + n) := by
  unfold stF; rw [if_neg (by omega)]
def stG (μ : Mu) (m : Nat) : Nat → Nat := fun j => if j = 0 then μ 6 0 + m else stF μ m (mn μ) j
theorem st_step {k : Nat} {σ τ : St} (h : Rel k σ τ) (hk : k < 64) (x1 : Int32) : ST2 k (f_X10_step__0 σ x1) (f_X11_step__0 τ x1) := by
  obtain ⟨μ, hf, hn, hm⟩ := id h
  have hy := HY.of hf hk
  have hq := QN.of hn
  have hH := mH_pos hy.1
  have hn5 : mn μ ≤ 5 := hy.1.2.2.1
  have hm8 : mac μ ≤ 8 := hf.2.2.1
  unfold f_X10_step__0 f_X11_step__0
  rcases both_in (A := 1) (B := 24) 1 24 (by decide) (by decide) rfl rfl σ τ x1 with ⟨m, m1, m2, rfl, mN, mM⟩ | ⟨mN, mM⟩
  rotate_left
  · exact st_bad h (r := -1) (by simp only [mN, bnd_ok, c00, if_true]) (by simp only [mM, bnd_ok, c00, if_true])
  rw [mN, mM, bnd_ok, bnd_ok, if_neg n10, if_neg n10]
  obtain ⟨s, e1, e2, e3⟩ := N_remember hn hk hm8
  obtain ⟨t, f1, f2, f3, f4, f5⟩ := M_remember hm hm8
  rw [e1, bnd_ok, f1, bnd_ok]
  have hqs : QN s μ := ⟨hq.1.eq (fun p h1 h2 _ => e2 p (by omega)), hq.2.same (e2 19 (by decide)) (e2 20 (by decide)) (e2 21 (by decide))⟩
  have hbF : ∀ i n, n < 5 → stF μ m i (17 + n) < 2 ^ mH μ := fun i n hn => by
    by_cases e : n < i
    · rw [stF_in e]; exact alg_lt hy.1 (hy.2.2.2 n hn) m
    · rw [stF_out (by omega)]; exact hy.2.2.2 n hn
  -- the system
  have LN : ∃ σ', lq1 (fun k6 s8 x7 => bnd (f_X4_newsTold__12 s8) (fun r9 s10 => (if r9 ≤ x7 then bnd (f_X9_goOn__19 s10 (nI m)) (fun r11 s12 => bnd (f_X9_stepsGone__19 s12) (fun r13 s14 => some (r13, s14))) else bnd (f_X1_pick__56 s10 x7) (fun r15 s16 => bnd (f_X1_whoKnows__56 s16) (fun r17 s18 => bnd (f_X1_along__56 s18 r17 (0 : Int32) (nI m)) (fun r19 s20 => bnd (f_X9_setWhoKnows__19 s20 x7 r19) (fun r21 s22 => nm (x7 + (1 : Int32)) (fun x23 => k6 s22 x23)))))))) 100000 s (0 : Int32) = some (nI (μ 6 0 + m), σ') ∧ (∀ p, scrN p = false → p ≠ 19 → p ≠ 20 → p ≠ 21 → σ' p = s p) ∧ SNt σ' 19 (stG μ m) := by
    refine lq1_run (P := fun o => ∃ σ', o = some (nI (μ 6 0 + m), σ') ∧ (∀ p, scrN p = false → p ≠ 19 → p ≠ 20 → p ≠ 21 → σ' p = s p) ∧ SNt σ' 19 (stG μ m)) (fun i u y => y = nI i ∧ (∀ p, scrN p = false → p ≠ 21 → u p = s p) ∧ SNt u 19 (stF μ m i)) (mn μ) ?_ 100000 0 s 0 (Nat.zero_le _) (by omega) ⟨rfl, fun _ _ _ => rfl, hqs.2.ext (fun j _ => by unfold stF; rw [if_neg (by omega)])⟩
    rintro i u y hi ⟨rfl, hfu, hsu⟩ k6
    have hpu : PN u 12 μ := hqs.1.eq (fun p h1 h2 h3 => hfu p (by unfold scrN; simp; omega) (by omega))
    rcases Nat.lt_or_ge i (mn μ) with hl | hl
    · have hyi : HY (mset6 μ (stF μ m i)) := by
        refine ⟨hy.1, ?_, fun x hx => ?_, fun n hn => hbF i n hn⟩
        · show stF μ m i 0 ≤ 2000
          rw [stF_lo (by decide)]; exact hy.2.1
        · show stF μ m i (1 + x) ≤ 6
          rw [stF_lo (by omega)]; exact hy.2.2.1 x hx
      have hqi : QN u (mset6 μ (stF μ m i)) := ⟨hpu, hsu⟩
      obtain ⟨v, a1, a2, a3⟩ := Q_pick hqi hyi (show i < mn μ from hl)
      have hqv := hqi.fr a2
      have hal := N_along hyi.1 hqv.1 a3 hqv.2.1 (by have := hyi.2.1; omega) (KWl hyi hl) (Nat.zero_le m) (show m ≤ 100 by omega)
      have hK : KW (mset6 μ (stF μ m i)) i = KW μ i := stF_out (Nat.le_refl i)
      have h60 : (mset6 μ (stF μ m i)) 6 0 = μ 6 0 := by
        show stF μ m i 0 = μ 6 0
        exact stF_lo (by decide)
      have hSHe : ∀ z, z < mH μ → SH (mset6 μ (stF μ m i)) z = SH μ z := fun z hz => by
        show stF μ m i (1 + z) = μ 6 (1 + z)
        exact stF_lo (by omega)
      have hal2 : f_X1_along__56 v (nI (KW μ i)) 0 (nI m) = some (nI (alg μ i (SH μ) (μ 6 0) m (KW μ i)), v) := by
        rw [hK, h60, alg6, alg_sh hy.1 hSHe] at hal
        exact hal
      have hvK : v 56 4 = nI (KW μ i) := by rw [a3.1, hK]
      unfold f_X1_whoKnows__56 f_X9_setWhoKnows__19
      rw [newsTold12 hpu, bnd_ok, if_neg (nI_ge hl (by omega)), a1, bnd_ok, bnd_ok, hvK, hal2, bnd_ok, put_21 (show i < 5 by omega), bnd_ok, bnd_ok, nm_ok, nI_1]
      have hsv := hqv.2
      refine Or.inl ⟨hl, _, _, ⟨rfl, fun p hp h21 => ?_, ?_, fun x hx => ?_, fun x hx => ?_⟩, rfl⟩
      · rw [ps_ne h21, a2.sm p hp, hfu p hp h21]
      · rw [ps_ne (by decide)]
        rw [stF_lo (by decide)]
        have := hsv.1
        rw [h60] at this; exact this
      · show ps v 21 _ _ 20 x = _
        rw [ps_ne (by decide), stF_lo (by omega)]
        have := hsv.2.1 x hx
        rw [show (mset6 μ (stF μ m i)) 6 (1 + x) = μ 6 (1 + x) from stF_lo (by omega)] at this
        exact this
      · show ps v 21 _ _ 21 x = _
        by_cases e : x = i
        · subst e; rw [ps_same (by omega), stF_in (by omega)]
        · rw [ps_nk (by omega) e]
          have := hsv.2.2 x hx
          have h2 : (mset6 μ (stF μ m i)) 6 (17 + x) = stF μ m (i + 1) (17 + x) := by
            show stF μ m i (17 + x) = stF μ m (i + 1) (17 + x)
            by_cases c : x < i
            · rw [stF_in c, stF_in (by omega)]
            · rw [stF_out (by omega), stF_out (by omega)]
          rw [h2] at this
          exact this
    · have : i = mn μ := by omega
      subst this
      have h2 : u 19 2 = nI (μ 6 0) := by rw [hsu.1, stF_lo (by decide)]
      unfold f_X9_goOn__19 f_X9_stepsGone__19
      rw [newsTold12 hpu, bnd_ok, if_pos (nI_le (Nat.le_refl _) (by omega)), h2, nI_add, nm_ok, bnd_ok, bnd_ok, pf_same]
      refine Or.inr ⟨_, rfl, fun p hp h19 h20 h21 => ?_, ?_, fun x hx => ?_, fun x hx => ?_⟩
      · rw [pf_ne h19, hfu p hp h21]
      · rw [pf_same]; rfl
      · show pf u 19 2 _ 20 x = _
        rw [pf_ne (by decide)]
        have := hsu.2.1 x hx
        show u (19 + 1) x = nI (if 1 + x = 0 then _ else _)
        rw [if_neg (by omega)]; exact this
      · show pf u 19 2 _ 21 x = _
        rw [pf_ne (by decide)]
        have := hsu.2.2 x hx
        show u (19 + 2) x = nI (if 17 + x = 0 then _ else _)
        rw [if_neg (by omega)]; exact this
  obtain ⟨σ', n1, n2, n3⟩ := LN
  rw [n1]
  -- the check
  have hpt : PM t μ := hm.1.eq (fun j hj => f3 j (by omega)) (fun p h1 h2 => f2 p (by omega) (by omega))
  obtain ⟨m2', m3', m4', m5', m6', m7'⟩ := hm.m
  have hmt : RM t (muw μ (rmN (mac μ)) (mke μ) (mse μ) (mle μ) (μ 6) (rmF (μ 8) (μ 6) (mac μ)) (μ 9) (μ 10) (μ 11)) := by
    refine ⟨hpt, ⟨f4, ?_, ?_, ?_⟩, fun x hx => ?_, f5, fun x hx => ?_, fun x hx => ?_, fun x hx => ?_⟩
    · rw [f3 11 (by decide)]; exact m2'.2.1
    · rw [f3 13 (by decide)]; exact m2'.2.2.1
    · rw [f3 16 (by decide)]; exact m2'.2.2.2
    · rw [f2 4 (by decide) (by decide)]; exact m3' x hx
    · rw [f2 6 (by decide) (by decide)]; exact m5' x hx
    · rw [f2 7 (by decide) (by decide)]; exact m6' x hx
    · rw [f2 8 (by decide) (by decide)]; exact m7' x hx
  obtain ⟨u, b1, b2, b3, b4⟩ := M_asItIs hmt
  have b4' : NWs u (μ 6 0) (SH μ) (KW μ) := b4
  have hpu : PM u μ := hpt.same b2.sm
  obtain ⟨v, c1, c2, c3⟩ := M_goes hpu hy.1 b4' b3 (fun n hn => KWl hy hn) hy.2.2.1 (by have := hy.2.1; omega) (show m ≤ 60 by omega)
  obtain ⟨w, d1, d2, d3, d4⟩ := cp_4_14 (τ := v) (a := 0) (b := 0) (n := 22) (by decide) (by decide)
  have d1' : f_X11_copies__4_14 v 0 0 22 = some (0, w) := d1
  have z : Int32.toNatClampNeg (0 : Int32) = 0 := by decide
  have hg : ∀ k : Ot, gd 0 22 k = k := fun k => gd_nI (j := 0) (by decide) (by decide)
  have hw4 : ∀ j, j < 22 → w 4 j = nI (stG μ m j) := fun j hj => by
    have := d3 j hj
    rw [Nat.zero_add] at this
    rw [this]
    unfold stG
    by_cases e0 : j = 0
    · subst e0; rw [if_pos rfl]; exact c3.1
    · rw [if_neg e0]
      rcases Nat.lt_or_ge j 17 with hj1 | hj1
      · have := c3.2.1 (j - 1) (by omega)
        rw [show 1 + (j - 1) = j by omega] at this
        rw [this, stF_lo hj1]
        unfold SH
        rw [show 1 + (j - 1) = j by omega]
      · have := c3.2.2 (j - 17) (by omega)
        rw [show 17 + (j - 17) = j by omega] at this
        rw [this]
        unfold akn stF
        by_cases e : j - 17 < mn μ
        · rw [if_pos ⟨e, rfl⟩, if_pos (by omega)]
          unfold KW
          rw [show 17 + (j - 17) = j by omega]
        · rw [if_neg (fun q => e q.1), if_neg (by omega)]
          unfold KW
          rw [show 17 + (j - 17) = j by omega]
  have hr : w 4 0 = nI (μ 6 0 + m) := by rw [hw4 0 (by decide)]; rfl
  rw [b1, bnd_ok, c1, bnd_ok, d1', bnd_ok, hg, z, hr]
  refine ⟨_, _, _, rfl, rfl, ?_⟩
  have fw : ∀ p, p ≠ 14 → p ≠ 0 → p ≠ 4 → w p = t p := fun p h14 h0 h4 => by rw [d2 p h4, c2 p h14, b2.1 p h14 h0]
  refine act_mk hf hn hm (g := stG μ m) ⟨?_, fun x hx => ?_, fun x hx => ?_⟩ (fun p hp hsc => ?_) n3 ?_ (fun p h1 h2 h3 h4 => ?_) (fun x h1 h2 => ?_) ?_ hw4 (fun x hx => ?_)
  · have := hf.2.1.1
    show (if 0 = 0 then μ 6 0 + m else _) ≤ _
    rw [if_pos rfl]; omega
  · show (if 1 + x = 0 then _ else stF μ m (mn μ) (1 + x)) ≤ 6
    rw [if_neg (by omega), stF_lo (by omega)]; exact hy.2.2.1 x hx
  · show (if 17 + x = 0 then _ else stF μ m (mn μ) (17 + x)) < 2 ^ mH μ ∧ (mn μ ≤ x → (if 17 + x = 0 then _ else stF μ m (mn μ) (17 + x)) = 0)
    rw [if_neg (by omega)]
    refine ⟨hbF _ x hx, fun q => ?_⟩
    rw [stF_out q]; exact (hf.2.1.2.2 x hx).2 q
  · rw [n2 p hsc (by omega) (by omega) (by omega), e2 p (by omega)]
  · exact e3.same (fun p h1 h2 => n2 p (by unfold scrN; simp; omega) (by omega) (by omega) (by omega))
  · rw [fw p (by omega) (by omega) h3, f2 p (by omega) h4]
  · have h29 : x ≠ 29 := fun e => by subst e; exact absurd h2 (by decide)
    rw [d2 0 (by decide), c2.z, b2.2 x h29, f3 x h1]
  · rw [d2 0 (by decide), c2.z, b2.2 9 (by decide)]; exact f4
  · rw [fw 5 (by decide) (by decide) (by decide)]; exact f5 x hx
