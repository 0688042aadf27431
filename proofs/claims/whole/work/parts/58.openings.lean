/-! openings -/
def pk3 (k : Nat) (o f s : Int32) : Int32 := if k = 0 then o else if k = 1 then f else s
def opV (μ : Mu) (n m kw nw k : Nat) : Int32 := match wO μ n m kw nw 0 with
  | some _ => pk3 k 0 (-4) (-4)
  | none => match wO μ n m kw nw 1 with
    | some a => pk3 k 1 (nI a) (-4)
    | none => match wO μ n m kw nw 2 with
      | some a => pk3 k 2 (nI a) (ov4 (wI μ n m kw nw 2 a))
      | none => -4
theorem N_answer {σ : St} {k : Nat} (hk : k ≤ 2) {o f s : Int32} (h : σ 60 6 = o ∧ σ 60 7 = f ∧ σ 60 8 = s) : f_X2_answer__60 σ (nI k) = some (pk3 k o f s, σ) := by
  unfold f_X2_answer__60 pk3
  rw [h.1, h.2.1, h.2.2]
  have : k = 0 ∨ k = 1 ∨ k = 2 := by omega
  rcases this with e | e | e <;> subst e <;> rfl
theorem N_search {σ : St} {μ : Mu} (hq : QN σ μ) (hy : HY μ) {n m kw nw k : Nat} (hn : n < mn μ) (hm12 : m ≤ 12) (hkw : kw < 65536) (hnw : nw < 65536) (hk : k ≤ 2) : ∃ σ', bnd (f_X2_pose__60 σ (nI n) (nI m) (nI kw) (nI nw)) (fun r20 s21 => bnd (f_X2_isFoundByNone__60 s21) (fun r22 s23 => (if r22 = (0 : Int32) then bnd (f_X2_isFoundByOne__60 s23) (fun r24 s25 => (if r24 = (0 : Int32) then bnd (f_X2_findByTwo__60 s25) (fun r26 s27 => bnd (f_X2_answer__60 s27 (nI k)) (fun r18 s19 => some (r18, s19))) else bnd (f_X2_answer__60 s25 (nI k)) (fun r18 s19 => some (r18, s19)))) else bnd (f_X2_answer__60 s23 (nI k)) (fun r18 s19 => some (r18, s19))))) = some (opV μ n m kw nw k, σ') ∧ sameN σ σ' := by
  have hs0 : sameN σ (pf (pf (pf σ 60 3 (nI m)) 60 4 (nI kw)) 60 5 (nI nw)) := fun p hp => by
    have : p ≠ 60 := fun e => by subst e; exact absurd hp (by decide)
    rw [pf_ne this, pf_ne this, pf_ne this]
  unfold f_X2_pose__60
  rw [nm_ok, nm_ok, nm_ok, N_found, bnd_ok]
  generalize hs7 : pf (pf (pf σ 60 3 (nI m)) 60 4 (nI kw)) 60 5 (nI nw) = s7 at hs0
  have z7 : ZN s7 m kw nw := by
    subst hs7
    exact ⟨by rw [pf_nk (by decide), pf_nk (by decide), pf_same], by rw [pf_nk (by decide), pf_same], pf_same⟩
  have z9 : ZN (pf (pf (pf s7 60 6 (-4)) 60 7 (-4)) 60 8 (-4)) m kw nw := by
    refine ⟨?_, ?_, ?_⟩
    · rw [pf_nk (by decide), pf_nk (by decide), pf_nk (by decide)]; exact z7.1
    · rw [pf_nk (by decide), pf_nk (by decide), pf_nk (by decide)]; exact z7.2.1
    · rw [pf_nk (by decide), pf_nk (by decide), pf_nk (by decide)]; exact z7.2.2
  have a9 : (pf (pf (pf s7 60 6 (-4)) 60 7 (-4)) 60 8 (-4)) 60 6 = -4 ∧ (pf (pf (pf s7 60 6 (-4)) 60 7 (-4)) 60 8 (-4)) 60 7 = -4 ∧ (pf (pf (pf s7 60 6 (-4)) 60 7 (-4)) 60 8 (-4)) 60 8 = -4 := ⟨by rw [pf_nk (by decide), pf_nk (by decide), pf_same], by rw [pf_nk (by decide), pf_same], pf_same⟩
  have s9 := hs0.tr (sN60 (σ := s7) (a := -4) (b := -4) (c := -4))
  generalize pf (pf (pf s7 60 6 (-4)) 60 7 (-4)) 60 8 (-4) = t9 at z9 a9 s9
  obtain ⟨v, e1, e2, e3⟩ := Q_pick (hq.same s9) hy hn
  have hqv := (hq.same s9).fr e2
  have zv := z9.fr e2
  have av : v 60 6 = -4 ∧ v 60 7 = -4 ∧ v 60 8 = -4 := by
    rw [e2 60 (by decide) (by decide) (by decide)]; exact a9
  have sv := s9.tr e2.sm
  rw [e1, bnd_ok, bnd_ok]
  have ht := N_try hqv hy hn hm12 hkw zv e3
  unfold f_X2_isFoundByNone__60
  have ha := N_along hy.1 hqv.1 e3 hqv.2.1 (by have := hy.2.1; omega) (KWl hy hn) (Nat.zero_le m) (show m ≤ 100 by omega)
  have ha2 : f_X1_along__56 v (nI (KW μ n)) 0 (nI m) = some (nI (alg μ n (SH μ) (μ 6 0) m (KW μ n)), v) := ha
  unfold f_X1_whoKnows__56 at ht ⊢
  rw [bnd_ok, zv.1, e3.1, ha2, bnd_ok] at ht
  rw [bnd_ok, zv.1, e3.1, ha2, bnd_ok, ht, bnd_ok]
  have hw0 := wO_0 (n := n) (m := m) (kw := kw) (nw := nw) hy.1
  cases hp : PS μ n m kw nw (SH μ) with
  | true =>
    have t1 : (if true = true then (1 : Int32) else 0) = 1 := rfl
    rw [hp, if_pos rfl] at hw0
    rw [t1, if_neg n10, N_found, bnd_ok, bnd_ok, if_neg n10]
    rw [N_answer hk (o := 0) (f := -4) (s := -4) ⟨by rw [pf_nk (by decide), pf_nk (by decide), pf_same], by rw [pf_nk (by decide), pf_same], pf_same⟩, bnd_ok]
    refine ⟨_, ?_, sv.tr (sN60 (a := 0) (b := -4) (c := -4))⟩
    unfold opV
    rw [hw0]
  | false =>
    have t0 : (if false = true then (1 : Int32) else 0) = 0 := rfl
    rw [hp, if_neg (by decide)] at hw0
    rw [t0, if_pos rfl, bnd_ok, if_pos rfl]
    obtain ⟨u, c1, c2, c3, c4⟩ := N_one hqv hy hn hm12 hkw zv e3
    rw [c1, bnd_ok]
    cases hw1 : wO μ n m kw nw 1 with
    | some a =>
      have t1 : (if (some a).isSome = true then (1 : Int32) else 0) = 1 := rfl
      rw [t1, if_neg n10, N_answer hk (c4 a hw1), bnd_ok]
      refine ⟨_, ?_, sv.tr c2⟩
      unfold opV
      rw [hw0, hw1]
    | none =>
      have t0 : (if (none : Option Nat).isSome = true then (1 : Int32) else 0) = 0 := rfl
      obtain ⟨d1, d2⟩ := c3 hw1
      obtain ⟨w, g1, g2, g3, g4⟩ := N_two (hqv.fr d1) hy hn hm12 hkw (zv.fr d1) d2
      rw [t0, if_pos rfl, g1, bnd_ok]
      cases hw2 : wO μ n m kw nw 2 with
      | some a =>
        obtain ⟨b, b1, b2⟩ := g4 a hw2
        rw [N_answer hk b2, bnd_ok]
        refine ⟨_, ?_, sv.tr (c2.tr g2)⟩
        unfold opV
        rw [hw0, hw1, hw2]
        show _ = some (pk3 k 2 (nI a) (ov4 (wI μ n m kw nw 2 a)), w)
        rw [b1]; rfl
      | none =>
        have q := g3 hw2
        have hu : w 60 6 = -4 ∧ w 60 7 = -4 ∧ w 60 8 = -4 := by
          rw [q 6, q 7, q 8, d1 60 (by decide) (by decide) (by decide)]; exact av
        rw [N_answer hk hu, bnd_ok]
        refine ⟨_, ?_, sv.tr (c2.tr g2)⟩
        unfold opV
        rw [hw0, hw1, hw2]
        unfold pk3
        have : (if k = 0 then (-4 : Int32) else if k = 1 then -4 else -4) = -4 := by split <;> (try split) <;> rfl
        rw [this]
theorem M_search {τ : St} {μ : Mu} (hm : RM τ μ) (hy : HY μ) {n m kw nw k : Nat} (hn : n < mn μ) (hm12 : m ≤ 12) (hkw : kw < 65536) (hnw : nw < 65536) (hk : k ≤ 2) : ∃ τ', lq1 (fun k17 s19 x18 => (if (2 : Int32) < x18 then some ((-4 : Int32), s19) else bnd (f_X11_findWay__0 s19 x18 (nI n) (nI m) (nI kw) (nI nw)) (fun r20 s21 => (if r20 = (0 : Int32) then nm (x18 + (1 : Int32)) (fun x22 => k17 s21 x22) else (if nI k = (0 : Int32) then some (x18, s21) else (if nI k ≤ x18 then (if nI k = (1 : Int32) then some ((s21 0 30), s21) else some ((s21 0 31), s21)) else some ((-4 : Int32), s21))))))) 100000 τ (0 : Int32) = some (opV μ n m kw nw k, τ') ∧ sameM τ τ' := by
  refine lq1_run (P := fun o => ∃ τ', o = some (opV μ n m kw nw k, τ') ∧ sameM τ τ') (fun i t y => y = nI i ∧ sameM τ t ∧ ∀ j, j < i → wO μ n m kw nw j = none) 3 ?_ 100000 0 τ 0 (Nat.zero_le _) (by omega) ⟨rfl, sameM.rf, fun j hj => by omega⟩
  rintro i t y hi ⟨rfl, hft, hno⟩ k17
  rcases Nat.lt_or_ge i 3 with hl | hl
  · have h2 : ¬ (2 : Int32) < nI i := nI_nlt (b := i) (a := 2) (by omega) (by decide)
    obtain ⟨v, c1, c2, c3⟩ := M_findWay (hm.same hft) hy hn hm12 hkw hnw (show i ≤ 2 by omega)
    rw [if_neg h2, c1, bnd_ok]
    cases hw : wO μ n m kw nw i with
    | none =>
      have t0 : (if (none : Option Nat).isSome = true then (1 : Int32) else 0) = 0 := rfl
      rw [t0, if_pos rfl, nm_ok, nI_1]
      refine Or.inl ⟨hl, v, _, ⟨rfl, hft.tr c2, fun j hj => ?_⟩, rfl⟩
      by_cases e : j = i
      · subst e; exact hw
      · exact hno j (by omega)
    | some a =>
      have t1 : (if (some a).isSome = true then (1 : Int32) else 0) = 1 := rfl
      obtain ⟨b, b1, b2, b3⟩ := c3 a hw
      rw [t1, if_neg n10, b2, b3]
      refine Or.inr ⟨v, ?_, hft.tr c2⟩
      have hi3 : i = 0 ∨ i = 1 ∨ i = 2 := by omega
      have hk3 : k = 0 ∨ k = 1 ∨ k = 2 := by omega
      rcases hi3 with e | e | e
      · subst e
        unfold opV; rw [hw]
        rcases hk3 with e | e | e <;> subst e <;> rfl
      · subst e
        unfold opV; rw [hno 0 (by decide), hw]
        rcases hk3 with e | e | e <;> subst e <;> rfl
      · subst e
        unfold opV; rw [hno 0 (by decide), hno 1 (by decide), hw]
        show _ = some (pk3 k 2 (nI a) (ov4 (wI μ n m kw nw 2 a)), v)
        rw [b1]
        rcases hk3 with e | e | e <;> subst e <;> rfl
  · have : i = 3 := by omega
    subst this
    refine Or.inr ⟨t, ?_, hft⟩
    rw [if_pos (show (2 : Int32) < nI 3 by decide)]
    unfold opV
    rw [hno 0 (by decide), hno 1 (by decide), hno 2 (by decide)]
theorem hasH {σ : St} {μ : Mu} (h : PN σ 12 μ) (hw : WP μ) {x r : Int32} (hr : r = 0 ∨ r = 1) (hx : ∀ σ : St, f_X10_within σ x 0 (nI (2 ^ mH μ - 1)) = some (r, σ)) : f_X4_hasHouses__12 σ x = some (r, σ) := by
  unfold f_X4_hasHouses__12
  rw [allH h hw, bnd_ok, hx, bnd_ok]
  rcases hr with e | e <;> subst e <;> rfl
theorem st_openings {k : Nat} {σ τ : St} (h : Rel k σ τ) (hk : k < 64) (x1 x2 x3 x4 x5 : Int32) : ST2 k (f_X10_openings__0 σ x1 x2 x3 x4 x5) (f_X11_openings__0 τ x1 x2 x3 x4 x5) := by
  obtain ⟨μ, hf, hn, hm⟩ := id h
  have hy := HY.of hf hk
  have hq := QN.of hn
  have hH := mH_pos hy.1
  have hP := p2H hy.1
  have ht2 : τ 0 2 = nI (mH μ) := hm.1.2.2.1
  have hal : nI (2 ^ mH μ) - 1 = nI (2 ^ mH μ - 1) := pk_sub (b := 1) (by omega)
  unfold f_X10_openings__0 f_X11_openings__0
  rw [ht2, nx_bit (show mH μ < 31 by omega), hal, nm_ok]
  rcases both_news hq.1 hm.1 hy.1 x1 with ⟨j, j1, rfl, jN, jM⟩ | ⟨jN, jM⟩
  rotate_left
  · exact st_bad h (r := -1) (by simp only [jN, bnd_ok, c00, if_true]) (by simp only [jM, bnd_ok, c00, if_true])
  rw [jN, jM, bnd_ok, bnd_ok, if_neg n10, if_neg n10]
  rcases both_in (A := 1) (B := 12) 1 12 (by decide) (by decide) rfl rfl σ τ x2 with ⟨m, m1, m2, rfl, mN, mM⟩ | ⟨mN, mM⟩
  rotate_left
  · exact st_bad h (r := -1) (by simp only [mN, bnd_ok, c00, if_true]) (by simp only [mM, bnd_ok, c00, if_true])
  rw [mN, mM, bnd_ok, bnd_ok, if_neg n10, if_neg n10]
  rcases both_in (A := 0) (B := nI (2 ^ mH μ - 1)) 0 (2 ^ mH μ - 1) (by omega) (Nat.zero_le _) rfl rfl σ τ x3 with ⟨kw, a1, a2, rfl, aN, aM⟩ | ⟨aN, aM⟩
  · have aN' := hasH hq.1 hy.1 (Or.inr rfl) aN
    rcases both_in (A := 0) (B := nI (2 ^ mH μ - 1)) 0 (2 ^ mH μ - 1) (by omega) (Nat.zero_le _) rfl rfl σ τ x4 with ⟨nw, b1, b2, rfl, bN, bM⟩ | ⟨bN, bM⟩
    · have bN' := hasH hq.1 hy.1 (Or.inr rfl) bN
      rcases both_in (A := 0) (B := 2) 0 2 (by decide) (by decide) rfl rfl σ τ x5 with ⟨kk, k1, k2, rfl, kN, kM⟩ | ⟨kN, kM⟩
      · by_cases hz : nI kw &&& nI nw = (0 : Int32)
        · obtain ⟨σ', u1, u2⟩ := N_search hq hy (kw := kw) (nw := nw) j1 m2 (by omega) (by omega) k2
          obtain ⟨τ', v1, v2⟩ := M_search hm hy (kw := kw) (nw := nw) j1 m2 (by omega) (by omega) k2
          rw [kN, bnd_ok, if_neg n10, aN', bnd_ok, if_neg n10, bN', bnd_ok, if_neg n10, if_pos hz]
          rw [aM, bnd_ok, if_neg n10, bM, bnd_ok, if_neg n10, if_pos hz, kM, bnd_ok, if_neg n10]
          exact st_same h u1 v1 u2 v2
        · exact st_bad h (r := -1) (by simp only [kN, aN', bN', bnd_ok, c10, if_false, if_neg hz]) (by simp only [aM, bM, bnd_ok, c10, if_false, if_neg hz])
      · by_cases hz : nI kw &&& nI nw = (0 : Int32)
        · exact st_bad h (r := -1) (by simp only [kN, bnd_ok, c00, if_true]) (by simp only [aM, bM, kM, bnd_ok, c10, c00, if_true, if_false, if_pos hz])
        · exact st_bad h (r := -1) (by simp only [kN, bnd_ok, c00, if_true]) (by simp only [aM, bM, bnd_ok, c10, if_false, if_neg hz])
    · have bN' := hasH hq.1 hy.1 (Or.inl rfl) bN
      rcases both_in (A := 0) (B := 2) 0 2 (by decide) (by decide) rfl rfl σ τ x5 with ⟨kk, k1, k2, rfl, kN, kM⟩ | ⟨kN, kM⟩
      · exact st_bad h (r := -1) (by simp only [kN, aN', bN', bnd_ok, c10, c00, if_true, if_false]) (by simp only [aM, bM, bnd_ok, c10, c00, if_true, if_false])
      · exact st_bad h (r := -1) (by simp only [kN, bnd_ok, c00, if_true]) (by simp only [aM, bM, bnd_ok, c10, c00, if_true, if_false])
  · have aN' := hasH hq.1 hy.1 (Or.inl rfl) aN
    rcases both_in (A := 0) (B := 2) 0 2 (by decide) (by decide) rfl rfl σ τ x5 with ⟨kk, k1, k2, rfl, kN, kM⟩ | ⟨kN, kM⟩
    · exact st_bad h (r := -1) (by simp only [kN, aN', bnd_ok, c10, c00, if_true, if_false]) (by simp only [aM, bnd_ok, c00, if_true])
    · exact st_bad h (r := -1) (by simp only [kN, bnd_ok, c00, if_true]) (by simp only [aM, bnd_ok, c00, if_true])
