/-! the start: both constructors come to related states -/
def T0 : Nat → Nat := fun j => (txt j).toNatClampNeg
theorem chv_T0 : ∀ j, j < 82 → chv (nI j) = nI (T0 j) := by decide +kernel
theorem TT_0 : TT T0 82 := ⟨by decide, by decide +kernel⟩
def kI : Nat → Nat := up1 (up1 (up1 (up1 (up1 (up1 (fun _ => 0) 1 1) 4 2) 6 3) 9 4) 10 0) 11 1
def sI : Nat → Nat := up1 (up1 (up1 (up1 (up1 (up1 (fun _ => 2) 1 3) 4 4) 6 5) 9 2) 10 0) 11 1
def nkI : Nat → Nat := up1 (up1 (up1 (fun _ => 0) 0 0) 1 1) 2 2
def nwI : Nat → Nat := up1 (up1 (up1 (fun _ => 0) 0 1) 1 2) 2 3
def nbI : Nat → Nat := up1 (up1 (up1 (fun _ => 0) 0 0) 1 5) 2 8
def wiI : Nat → Nat := up1 (up1 (up1 (up1 (fun _ => 0) 0 2) 1 3) 2 0) 3 1
def okI : Nat ⊕ RP → Bool
  | Sum.inl _ => false
  | Sum.inr r => (decide (r.R = 3) && decide (r.C = 4) && decide (r.nn = 3) && decide (r.ww = 4)) && ((List.range 16).all (fun h => decide (r.kd h = kI h) && decide (r.sa h = sI h)) && ((List.range 3).all (fun n => decide (r.nk n = nkI n) && decide (r.nw n = nwI n) && decide (r.nb n = nbI n)) && (List.range 4).all (fun i => decide (r.wi i = wiI i))))
theorem okI_0 : okI (prs T0 82 200 0 rp0) = true := by decide +kernel
theorem prs_0 : ∃ r, prs T0 82 200 0 rp0 = Sum.inr r ∧ (r.R = 3 ∧ r.C = 4 ∧ r.nn = 3 ∧ r.ww = 4) ∧ (∀ h, h < 16 → r.kd h = kI h ∧ r.sa h = sI h) ∧ (∀ n, n < 3 → r.nk n = nkI n ∧ r.nw n = nwI n ∧ r.nb n = nbI n) ∧ ∀ i, i < 4 → r.wi i = wiI i := by
  have h := okI_0
  generalize prs T0 82 200 0 rp0 = o at h
  cases o with
  | inl p => exact absurd h (by simp [okI])
  | inr r =>
    refine ⟨r, rfl, ?_⟩
    simp only [okI, Bool.and_eq_true, decide_eq_true_eq, List.all_eq_true, List.mem_range] at h
    obtain ⟨⟨⟨⟨h1, h2⟩, h3⟩, h4⟩, h5, h6, h7⟩ := h
    exact ⟨⟨h1, h2, h3, h4⟩, h5, fun n hn => ⟨(h6 n hn).1.1, (h6 n hn).1.2, (h6 n hn).2⟩, h7⟩
theorem sig0_22 : sig0 22 1 = 0 := by decide +kernel
theorem sig0_48 : sig0 48 1 = 0 := by decide +kernel
theorem sig0_11 : sig0 1 1 = 0 := by decide +kernel
def muZ (r : RP) : Mu := muL r 0 (fun _ => 0)
theorem N_init {r : RP} (hr : prs T0 82 200 0 rp0 = Sum.inr r) (h3 : r.nn = 3) : RPok r ∧ ∃ σ', f_X10_tail sig0 = some (0, σ') ∧ RN 0 σ' (muZ r) := by
  have key : ∃ σ', f_X10_tail sig0 = some (0, σ') ∧ RPok r ∧ RN 0 σ' (muZ r) := by
    unfold f_X10_tail
    refine lq1_run (P := fun o => ∃ σ', o = some (0, σ') ∧ RPok r ∧ RN 0 σ' (muZ r)) (fun i s x => x = nI i ∧ s 1 1 = nI i ∧ (∀ j, j < i → s 2 j = nI (T0 j)) ∧ ∀ p, p ≠ 1 → p ≠ 2 → s p = sig0 p) 82 ?_ 100000 0 sig0 0 (by decide) (by decide) ⟨rfl, sig0_11, fun j hj => absurd hj (Nat.not_lt_zero j), fun _ _ _ => rfl⟩
    rintro i s x hi ⟨rfl, h1, h2, hp⟩ k
    (try dsimp only)
    by_cases c : i < 82
    · have hadd : f_X7_add__1 s (nI (T0 i)) = some (1, pf (ps s 2 (nI i) (nI (T0 i))) 1 1 (nI (i + 1))) := by
        have w : (ps s 2 (nI i) (nI (T0 i))) 1 1 = nI i := by rw [ps_ne (by decide)]; exact h1
        unfold f_X7_add__1
        rw [h1, if_pos (show nI i < (200 : Int32) from nI_lt (b := 200) (by omega) (by decide)), put_2 (show i < 200 by omega), bnd_ok, w, nI_1, nm_ok]
      rw [if_neg (show ¬ (82 : Int32) ≤ nI i from nI_ge (b := 82) c (by decide)), gd_nI c (by decide), chv_T0 i c, hadd, bnd_ok, nI_1, nm_ok]
      refine Or.inl ⟨c, _, nI (i + 1), ⟨rfl, pf_same, fun j hj => ?_, fun p p1 p2 => by rw [pf_ne p1, ps_ne p2]; exact hp p p1 p2⟩, rfl⟩
      rw [pf_ne (by decide)]
      by_cases e : j = i
      · subst e; exact ps_same (by omega)
      · rw [ps_nk (by omega) e]; exact h2 j (by omega)
    · have e : i = 82 := by omega
      subst e
      rw [if_pos (show (82 : Int32) ≤ nI 82 by decide)]
      refine Or.inr ?_
      obtain ⟨σ', a⟩ := N_layText (σ := s) (T := T0) (le := 82) ⟨h1, h2⟩ TT_0
      rcases a with ⟨a1, a2, a3⟩ | ⟨r', a1, a2, a3, a4, ⟨a5, a6⟩, a7, a8, ⟨a9, a10⟩, ⟨a11, a12⟩, a13⟩
      · have := a3 r hr; omega
      · rw [hr] at a1
        injection a1 with a1
        subst a1
        unfold f_X7_clear__1
        rw [a4, bnd_ok, nm_ok, bnd_ok]
        have u1 : σ' 22 1 = nI 0 := by rw [a10, hp 22 (by decide) (by decide), sig0_22]; rfl
        have u2 : σ' 48 1 = 0 := by rw [a12, hp 48 (by decide) (by decide), sig0_48]
        refine ⟨_, rfl, a3, RN_L a3 ⟨pf_same, fun i hi => absurd hi (Nat.not_lt_zero i)⟩ (a7.eq (fun x x1 x2 => pf_ne (by omega))) (a8.same (pf_ne (by decide)) (pf_ne (by decide)) (pf_ne (by decide))) ⟨?_, 0, Nat.le_refl _, ?_⟩ ⟨?_, ?_⟩ ?_⟩
        · rw [pf_ne (by decide)]; exact a9
        · rw [pf_ne (by decide)]; exact u1
        · rw [pf_ne (by decide)]; exact a11
        · rw [pf_ne (by decide)]; exact u2
        · rw [pf_ne (by decide)]; exact a13
  obtain ⟨σ', h1, h2, h3⟩ := key
  exact ⟨h2, σ', h1, h3⟩
theorem M_tellsHouse {τ : St} {R C nn ww x a b : Nat} {kd sa nk nw nb wi : Nat → Nat} (hx : x < 16) (h : MPq τ (mkRP R C nn ww true kd sa nk nw nb wi)) : ∃ τ', f_X11_tellsHouse__0 τ (nI x) (nI a) (nI b) = some (0, τ') ∧ sameM τ τ' ∧ MPq τ' (mkRP R C nn ww true (up1 kd x a) (up1 sa x b) nk nw nb wi) := by
  obtain ⟨m1, m6, m7, m8⟩ := h
  unfold f_X11_tellsHouse__0
  rw [gd_nI hx (by decide), nm_ok, gd_nI hx (by decide), nm_ok]
  refine ⟨_, rfl, (sameM.p9 (by decide)).tr (sameM.p9 (by decide)), ?_, fun y hy => ⟨?_, ?_⟩, ?_, ?_⟩
  · rw [ps_ne (by decide), ps_ne (by decide)]; exact m1
  · show ps (ps τ 10 (nI x) (nI a)) 11 (nI x) (nI b) 10 y = nI (up1 kd x a y)
    rw [ps_ne (by decide)]
    unfold up1
    by_cases e : y = x
    · subst e; rw [ps_same (by omega), if_pos rfl]
    · rw [ps_nk (by omega) e, if_neg e]; exact (m6 y hy).1
  · show ps (ps τ 10 (nI x) (nI a)) 11 (nI x) (nI b) 11 y = nI (up1 sa x b y)
    unfold up1
    by_cases e : y = x
    · subst e; rw [ps_same (by omega), if_pos rfl]
    · rw [ps_nk (by omega) e, if_neg e, ps_ne (by decide)]; exact (m6 y hy).2
  · rw [ps_ne (by decide), ps_ne (by decide)]; exact m7
  · rw [ps_ne (by decide), ps_ne (by decide)]; exact m8
theorem M_tellsNews {τ : St} {R C nn ww a b c : Nat} {kd sa nk nw nb wi : Nat → Nat} (hn : nn < 5) (h : MPq τ (mkRP R C nn ww true kd sa nk nw nb wi)) : ∃ τ', f_X11_tellsNews__0 τ (nI a) (nI b) (nI c) = some (0, τ') ∧ sameM τ τ' ∧ MPq τ' (mkRP R C (nn + 1) ww true kd sa (up1 nk nn a) (up1 nw nn b) (up1 nb nn c) wi) := by
  obtain ⟨⟨m1, m2, m3, m4⟩, m6, m7, m8⟩ := h
  have hn5 : τ 0 24 = nI nn := m3
  have d : (15 : Nat) < 2 ^ 31 := by decide
  have x0 : (3 : Int32) * nI nn = nI (3 * nn) := pk_mul 3 _
  have x1 : nI (3 * nn) + 1 = nI (3 * nn + 1) := nI_add _ 1
  have x2 : nI (3 * nn) + 2 = nI (3 * nn + 2) := nI_add _ 2
  have w1 : (ps τ 12 (nI (3 * nn)) (nI a)) 0 24 = nI nn := by rw [ps_ne (by decide)]; exact hn5
  have w2 : (ps (ps τ 12 (nI (3 * nn)) (nI a)) 12 (nI (3 * nn + 1)) (nI b)) 0 24 = nI nn := by rw [ps_ne (by decide)]; exact w1
  have w3 : (ps (ps (ps τ 12 (nI (3 * nn)) (nI a)) 12 (nI (3 * nn + 1)) (nI b)) 12 (nI (3 * nn + 2)) (nI c)) 0 24 = nI nn := by rw [ps_ne (by decide)]; exact w2
  unfold f_X11_tellsNews__0
  rw [hn5, x0, gd_nI (show 3 * nn < 15 by omega) d, nm_ok, w1, x0, x1, gd_nI (show 3 * nn + 1 < 15 by omega) d, nm_ok, w2, x0, x2, gd_nI (show 3 * nn + 2 < 15 by omega) d, nm_ok, w3, nI_1, nm_ok]
  refine ⟨_, rfl, (sameM.p9 (by decide)).tr ((sameM.p9 (by decide)).tr ((sameM.p9 (by decide)).tr (sameM.f0 rfl))), ⟨?_, ?_, pf_same, ?_⟩, ?_, fun x hx => ?_, ?_⟩
  · rw [pf_nk (by decide), ps_ne (by decide), ps_ne (by decide), ps_ne (by decide)]; exact m1
  · rw [pf_nk (by decide), ps_ne (by decide), ps_ne (by decide), ps_ne (by decide)]; exact m2
  · rw [pf_nk (by decide), ps_ne (by decide), ps_ne (by decide), ps_ne (by decide)]; exact m4
  · rw [pf_ne (by decide), ps_ne (by decide), ps_ne (by decide), ps_ne (by decide), pf_ne (by decide), ps_ne (by decide), ps_ne (by decide), ps_ne (by decide)]; exact m6
  · have hx' : x < nn + 1 := hx
    have m7' : ∀ n, n < nn → τ 12 (3 * n) = nI (nk n) ∧ τ 12 (3 * n + 1) = nI (nw n) ∧ τ 12 (3 * n + 2) = nI (nb n) := m7
    show pf _ 0 24 _ 12 (3 * x) = nI (up1 nk nn a x) ∧ pf _ 0 24 _ 12 (3 * x + 1) = nI (up1 nw nn b x) ∧ pf _ 0 24 _ 12 (3 * x + 2) = nI (up1 nb nn c x)
    rw [pf_ne (by decide)]
    unfold up1
    by_cases e : x = nn
    · subst e
      rw [if_pos rfl, if_pos rfl, if_pos rfl]
      refine ⟨?_, ?_, ?_⟩
      · rw [ps_nk (by omega) (by omega), ps_nk (by omega) (by omega), ps_same (by omega)]
      · rw [ps_nk (by omega) (by omega), ps_same (by omega)]
      · rw [ps_same (by omega)]
    · rw [if_neg e, if_neg e, if_neg e]
      have := m7' x (by omega)
      refine ⟨?_, ?_, ?_⟩
      · rw [ps_nk (by omega) (by omega), ps_nk (by omega) (by omega), ps_nk (by omega) (by omega)]; exact this.1
      · rw [ps_nk (by omega) (by omega), ps_nk (by omega) (by omega), ps_nk (by omega) (by omega)]; exact this.2.1
      · rw [ps_nk (by omega) (by omega), ps_nk (by omega) (by omega), ps_nk (by omega) (by omega)]; exact this.2.2
  · rw [pf_ne (by decide), ps_ne (by decide), ps_ne (by decide), ps_ne (by decide)]; exact m8
theorem M_init {r : RP} (hr : RPok r) (e1 : r.R = 3 ∧ r.C = 4 ∧ r.nn = 3 ∧ r.ww = 4) (e2 : ∀ h, h < 16 → r.kd h = kI h ∧ r.sa h = sI h) (e3 : ∀ n, n < 3 → r.nk n = nkI n ∧ r.nw n = nwI n ∧ r.nb n = nbI n) (e4 : ∀ i, i < 4 → r.wi i = wiI i) : ∃ τ', f_X11_tail tau0 = some (0, τ') ∧ RM τ' (muZ r) := by
  obtain ⟨s2, a1, a2, a3, a4⟩ := M_clear (τ := tau0)
  have q0 : MPq s2 (mkRP 3 4 0 0 true (fun _ => 0) (fun _ => 2) (fun _ => 0) (fun _ => 0) (fun _ => 0) (fun _ => 0)) := a4.q
  obtain ⟨s4, b1, b2, b3⟩ := M_tellsHouse (x := 1) (a := 1) (b := 3) (by decide) q0
  obtain ⟨s6, c1, c2, c3⟩ := M_tellsHouse (x := 4) (a := 2) (b := 4) (by decide) b3
  obtain ⟨s8, d1, d2, d3⟩ := M_tellsHouse (x := 6) (a := 3) (b := 5) (by decide) c3
  obtain ⟨s10, f1, f2, f3⟩ := M_tellsHouse (x := 9) (a := 4) (b := 2) (by decide) d3
  obtain ⟨s12, g1, g2, g3⟩ := M_tellsHouse (x := 10) (a := 0) (b := 0) (by decide) f3
  obtain ⟨s14, h1, h2, h3⟩ := M_tellsHouse (x := 11) (a := 1) (b := 1) (by decide) g3
  obtain ⟨s16, i1, i2, i3⟩ := M_tellsNews (a := 0) (b := 1) (c := 0) (by decide) h3
  obtain ⟨s18, j1, j2, j3⟩ := M_tellsNews (a := 1) (b := 2) (c := 5) (by decide) i3
  obtain ⟨s20, k1, k2, k3⟩ := M_tellsNews (a := 2) (b := 3) (c := 8) (by decide) j3
  have b1' : f_X11_tellsHouse__0 s2 1 1 3 = some (0, s4) := b1
  have c1' : f_X11_tellsHouse__0 s4 4 2 4 = some (0, s6) := c1
  have d1' : f_X11_tellsHouse__0 s6 6 3 5 = some (0, s8) := d1
  have f1' : f_X11_tellsHouse__0 s8 9 4 2 = some (0, s10) := f1
  have g1' : f_X11_tellsHouse__0 s10 10 0 0 = some (0, s12) := g1
  have h1' : f_X11_tellsHouse__0 s12 11 1 1 = some (0, s14) := h1
  have i1' : f_X11_tellsNews__0 s14 0 1 0 = some (0, s16) := i1
  have j1' : f_X11_tellsNews__0 s16 1 2 5 = some (0, s18) := j1
  have k1' : f_X11_tellsNews__0 s18 2 3 8 = some (0, s20) := k1
  have z0 : ∀ k : Ot, gd (0 : Int32) 8 k = k := fun k => gd_nI (j := 0) (by decide) (by decide)
  have z1 : ∀ k : Ot, gd (1 : Int32) 8 k = k := fun k => gd_nI (j := 1) (by decide) (by decide)
  have z2 : ∀ k : Ot, gd (2 : Int32) 8 k = k := fun k => gd_nI (j := 2) (by decide) (by decide)
  have z3 : ∀ k : Ot, gd (3 : Int32) 8 k = k := fun k => gd_nI (j := 3) (by decide) (by decide)
  have hsm : sameM tau0 (pf (ps (ps (ps (ps s20 13 (nI 0) 2) 13 (nI 1) 3) 13 (nI 2) 0) 13 (nI 3) 1) 0 26 4) := a2.tr (b2.tr (c2.tr (d2.tr (f2.tr (g2.tr (h2.tr (i2.tr (j2.tr (k2.tr ((sameM.p9 (by decide)).tr ((sameM.p9 (by decide)).tr ((sameM.p9 (by decide)).tr ((sameM.p9 (by decide)).tr (sameM.f0 rfl))))))))))))))
  have hq : MPq (pf (ps (ps (ps (ps s20 13 (nI 0) 2) 13 (nI 1) 3) 13 (nI 2) 0) 13 (nI 3) 1) 0 26 4) (mkRP 3 4 3 4 true kI sI nkI nwI nbI wiI) := by
    obtain ⟨⟨m1, m2, m3, m4⟩, m6, m7, m8⟩ := k3
    refine ⟨⟨?_, ?_, ?_, pf_same⟩, ?_, ?_, fun i hi => ?_⟩
    · rw [pf_nk (by decide), ps_ne (by decide), ps_ne (by decide), ps_ne (by decide), ps_ne (by decide)]; exact m1
    · rw [pf_nk (by decide), ps_ne (by decide), ps_ne (by decide), ps_ne (by decide), ps_ne (by decide)]; exact m2
    · rw [pf_nk (by decide), ps_ne (by decide), ps_ne (by decide), ps_ne (by decide), ps_ne (by decide)]; exact m3
    · rw [pf_ne (by decide), ps_ne (by decide), ps_ne (by decide), ps_ne (by decide), ps_ne (by decide), pf_ne (by decide), ps_ne (by decide), ps_ne (by decide), ps_ne (by decide), ps_ne (by decide)]; exact m6
    · rw [pf_ne (by decide), ps_ne (by decide), ps_ne (by decide), ps_ne (by decide), ps_ne (by decide)]; exact m7
    · have hi' : i < 4 := hi
      rw [pf_ne (by decide)]
      have hc : i = 0 ∨ i = 1 ∨ i = 2 ∨ i = 3 := by omega
      rcases hc with rfl | rfl | rfl | rfl
      · rw [ps_nk (by decide) (by decide), ps_nk (by decide) (by decide), ps_nk (by decide) (by decide), ps_same (by decide)]; rfl
      · rw [ps_nk (by decide) (by decide), ps_nk (by decide) (by decide), ps_same (by decide)]; rfl
      · rw [ps_nk (by decide) (by decide), ps_same (by decide)]; rfl
      · rw [ps_same (by decide)]; rfl
  have hqr : MPq (pf (ps (ps (ps (ps s20 13 (nI 0) 2) 13 (nI 1) 3) 13 (nI 2) 0) 13 (nI 3) 1) 0 26 4) r := by
    obtain ⟨⟨m1, m2, m3, m4⟩, m6, m7, m8⟩ := hq
    obtain ⟨x1, x2, x3, x4⟩ := e1
    refine ⟨⟨by rw [x1]; exact m1, by rw [x2]; exact m2, by rw [x3]; exact m3, by rw [x4]; exact m4⟩, fun h hh => ?_, fun n hn => ?_, fun i hi => ?_⟩
    · rw [(e2 h hh).1, (e2 h hh).2]; exact m6 h hh
    · rw [x3] at hn
      obtain ⟨y1, y2, y3⟩ := e3 n hn
      rw [y1, y2, y3]; exact m7 n hn
    · rw [x4] at hi
      rw [e4 i hi]; exact m8 i hi
  obtain ⟨s27, n1, n2, n3⟩ := M_settles hr hqr
  have hT : TXM (pf (ps (ps (ps (ps s20 13 (nI 0) 2) 13 (nI 1) 3) 13 (nI 2) 0) 13 (nI 3) 1) 0 26 4) (fun _ => 0) 0 := ⟨hsm.2 16 rfl, fun i hi => absurd hi (Nat.not_lt_zero i)⟩
  refine ⟨s27, ?_, n3 _ _ hT⟩
  have n1' : f_X11_settles__0 (pf (ps (ps (ps (ps s20 13 0 2) 13 1 3) 13 2 0) 13 3 1) 0 26 4) = some (0, s27) := n1
  unfold f_X11_tail
  rw [a1, bnd_ok, b1', bnd_ok, c1', bnd_ok, d1', bnd_ok, f1', bnd_ok, g1', bnd_ok, h1', bnd_ok, i1', bnd_ok, j1', bnd_ok, k1', bnd_ok, z0, nm_ok, z1, nm_ok, z2, nm_ok, z3, nm_ok, nm_ok, n1', bnd_ok]
theorem st_init : ∃ r r2 : Int32 × St, f_X10_tail sig0 = some r ∧ f_X11_tail tau0 = some r2 ∧ Rel 0 r.2 r2.2 := by
  obtain ⟨r, h1, h2, h3, h4, h5⟩ := prs_0
  obtain ⟨hr, σ', a1, a2⟩ := N_init h1 h2.2.2.1
  obtain ⟨τ', b1, b2⟩ := M_init hr h2 h3 h4 h5
  exact ⟨(0, σ'), (0, τ'), a1, b1, muZ r, WF_L hr ⟨Nat.zero_le _, fun i hi => absurd hi (Nat.not_lt_zero i)⟩, a2, b2⟩
