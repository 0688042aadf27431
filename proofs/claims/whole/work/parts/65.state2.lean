/-! see, keep, back, undo, remembers -/
def sawF (f : Nat → Nat) (m h n t b : Nat) : Nat → Nat := fun j => if j < 4 * m then f j else if j = 4 * m then h else if j = 4 * m + 1 then n else if j = 4 * m + 2 then t else b
theorem saw0 {f : Nat → Nat} {m h n t b : Nat} : sawF f m h n t b (4 * m) = h := by
  unfold sawF; rw [if_neg (by omega), if_pos rfl]
theorem saw1 {f : Nat → Nat} {m h n t b : Nat} : sawF f m h n t b (4 * m + 1) = n := by
  unfold sawF; rw [if_neg (by omega), if_neg (by omega), if_pos rfl]
theorem saw2 {f : Nat → Nat} {m h n t b : Nat} : sawF f m h n t b (4 * m + 2) = t := by
  unfold sawF; rw [if_neg (by omega), if_neg (by omega), if_neg (by omega), if_pos rfl]
theorem saw3 {f : Nat → Nat} {m h n t b : Nat} : sawF f m h n t b (4 * m + 3) = b := by
  unfold sawF; rw [if_neg (by omega), if_neg (by omega), if_neg (by omega), if_neg (by omega)]
theorem sawL {f : Nat → Nat} {m h n t b x : Nat} (hx : x < 4 * m) : sawF f m h n t b x = f x := by
  unfold sawF; rw [if_pos hx]
theorem st_see {k : Nat} {σ τ : St} (h : Rel k σ τ) (hk : k < 64) (x1 x2 x3 x4 : Int32) (hb : x4 = 0 ∨ x4 = 1) : ST2 k (f_X10_see__0 σ x1 x2 x3 x4) (f_X11_see__0 τ x1 x2 x3 x4) := by
  obtain ⟨μ, hf, hn, hm⟩ := id h
  have hy := HY.of hf hk
  have hq := QN.of hn
  have hH := mH_pos hy.1
  have hn5 : mn μ ≤ 5 := hy.1.2.2.1
  obtain ⟨w1, w2, w3, w4, w5, w6, w7, w8, w9, w10⟩ := hf
  unfold f_X10_see__0 f_X11_see__0
  rcases both_house hq.1 hm.1 hy.1 x1 with ⟨g, g1, rfl, gN, gM⟩ | ⟨gN, gM⟩
  rotate_left
  · exact st_bad h (r := -1) (by simp only [gN, bnd_ok, c00, if_true]) (by simp only [gM, bnd_ok, c00, if_true])
  rw [gN, gM, bnd_ok, bnd_ok, if_neg n10, if_neg n10]
  rcases both_news hq.1 hm.1 hy.1 x2 with ⟨j, j1, rfl, jN, jM⟩ | ⟨jN, jM⟩
  rotate_left
  · exact st_bad h (r := -1) (by simp only [jN, bnd_ok, c00, if_true]) (by simp only [jM, bnd_ok, c00, if_true])
  rw [jN, jM, bnd_ok, bnd_ok, if_neg n10, if_neg n10]
  rcases both_in (A := 0) (B := 30) 0 30 (by decide) (by decide) rfl rfl σ τ x3 with ⟨t, t1, t2, rfl, tN, tM⟩ | ⟨tN, tM⟩
  rotate_left
  · exact st_bad h (r := -1) (by simp only [tN, bnd_ok, c00, if_true]) (by simp only [tM, bnd_ok, c00, if_true])
  rw [tN, tM, bnd_ok, bnd_ok, if_neg n10, if_neg n10]
  have hv : σ 62 6 = nI (mse μ) := hn.v.1
  have hv2 : τ 0 13 = nI (mse μ) := hm.2.1.2.2.1
  have q1 : (nI (mse μ) < (6 : Int32)) = (mse μ < 6) := propext (nI_ltI (b := 6) (by omega) (by decide))
  have q2 : (nI (mse μ) = (6 : Int32)) = (mse μ = 6) := nI_eqB (b := 6) (by omega) (by decide)
  unfold f_X8_add__62
  rw [hv, hv2]
  by_cases c : mse μ = 6
  · have c2 : ¬ mse μ < 6 := by omega
    simp only [q1, q2, if_pos c, if_neg c2, bnd_ok, c00, if_true]
    exact st_bad h rfl rfl
  · have c2 : mse μ < 6 := by omega
    have z1 : ∀ v, (ps σ 63 (nI (mse μ)) v) 62 6 = nI (mse μ) := fun v => by rw [ps_ne (by decide)]; exact hv
    have z2 : ∀ v v2, (ps (ps σ 63 (nI (mse μ)) v) 64 (nI (mse μ)) v2) 62 6 = nI (mse μ) := fun v v2 => by rw [ps_ne (by decide)]; exact z1 v
    have z3 : ∀ v v2 v3, (ps (ps (ps σ 63 (nI (mse μ)) v) 64 (nI (mse μ)) v2) 65 (nI (mse μ)) v3) 62 6 = nI (mse μ) := fun v v2 v3 => by rw [ps_ne (by decide)]; exact z2 v v2
    have z4 : ∀ v v2 v3 v4, (ps (ps (ps (ps σ 63 (nI (mse μ)) v) 64 (nI (mse μ)) v2) 65 (nI (mse μ)) v3) 66 (nI (mse μ)) v4) 62 6 = nI (mse μ) := fun v v2 v3 v4 => by rw [ps_ne (by decide)]; exact z3 v v2 v3
    have y1 : ∀ v, (ps τ 7 (nI (4 * mse μ)) v) 0 13 = nI (mse μ) := fun v => by rw [ps_ne (by decide)]; exact hv2
    have y2 : ∀ v v2, (ps (ps τ 7 (nI (4 * mse μ)) v) 7 (nI (4 * mse μ + 1)) v2) 0 13 = nI (mse μ) := fun v v2 => by rw [ps_ne (by decide)]; exact y1 v
    have y3 : ∀ v v2 v3, (ps (ps (ps τ 7 (nI (4 * mse μ)) v) 7 (nI (4 * mse μ + 1)) v2) 7 (nI (4 * mse μ + 2)) v3) 0 13 = nI (mse μ) := fun v v2 v3 => by rw [ps_ne (by decide)]; exact y2 v v2
    have y4 : ∀ v v2 v3 v4, (ps (ps (ps (ps τ 7 (nI (4 * mse μ)) v) 7 (nI (4 * mse μ + 1)) v2) 7 (nI (4 * mse μ + 2)) v3) 7 (nI (4 * mse μ + 3)) v4) 0 13 = nI (mse μ) := fun v v2 v3 v4 => by rw [ps_ne (by decide)]; exact y3 v v2 v3
    have m0 : (4 : Int32) * nI (mse μ) = nI (4 * mse μ) := pk_mul 4 _
    have m1 : nI (4 * mse μ) + 1 = nI (4 * mse μ + 1) := nI_add _ 1
    have m2 : nI (4 * mse μ) + 2 = nI (4 * mse μ + 2) := nI_add _ 2
    have m3 : nI (4 * mse μ) + 3 = nI (4 * mse μ + 3) := nI_add _ 3
    have d : (24 : Nat) < 2 ^ 31 := by decide
    rw [show (if nI (mse μ) < (6 : Int32) then _ else some ((0 : Int32), σ)) = _ from if_pos (by rw [q1]; exact c2), if_neg (show ¬ nI (mse μ) = (6 : Int32) by rw [q2]; exact c)]
    have y5 : ∀ v v2 v3 v4, (pf (ps (ps (ps (ps τ 7 (nI (4 * mse μ)) v) 7 (nI (4 * mse μ + 1)) v2) 7 (nI (4 * mse μ + 2)) v3) 7 (nI (4 * mse μ + 3)) v4) 0 13 (nI (mse μ + 1))) 0 13 = nI (mse μ + 1) := fun _ _ _ _ => pf_same
    have fin : ∀ b, b ≤ 1 → Rel (k + 1) (pf (ps (ps (ps (ps σ 63 (nI (mse μ)) (nI g)) 64 (nI (mse μ)) (nI j)) 65 (nI (mse μ)) (nI t)) 66 (nI (mse μ)) (nI b)) 62 6 (nI (mse μ + 1))) (pf (ps (ps (ps (ps τ 7 (nI (4 * mse μ)) (nI g)) 7 (nI (4 * mse μ + 1)) (nI j)) 7 (nI (4 * mse μ + 2)) (nI t)) 7 (nI (4 * mse μ + 3)) (nI b)) 0 13 (nI (mse μ + 1))) := fun b hb1 => by
      obtain ⟨m2, m3, m4, m5, m6, m7⟩ := hm.m
      have fN : ∀ p, p < 62 → (pf (ps (ps (ps (ps σ 63 (nI (mse μ)) (nI g)) 64 (nI (mse μ)) (nI j)) 65 (nI (mse μ)) (nI t)) 66 (nI (mse μ)) (nI b)) 62 6 (nI (mse μ + 1))) p = σ p := fun p hp => by rw [pf_ne (by omega), ps_ne (by omega), ps_ne (by omega), ps_ne (by omega), ps_ne (by omega)]
      have fM : ∀ p, p ≠ 0 → p ≠ 7 → (pf (ps (ps (ps (ps τ 7 (nI (4 * mse μ)) (nI g)) 7 (nI (4 * mse μ + 1)) (nI j)) 7 (nI (4 * mse μ + 2)) (nI t)) 7 (nI (4 * mse μ + 3)) (nI b)) 0 13 (nI (mse μ + 1))) p = τ p := fun p h0 h7 => by rw [pf_ne h0, ps_ne h7, ps_ne h7, ps_ne h7, ps_ne h7]
      have fM0 : ∀ x, x ≠ 13 → (pf (ps (ps (ps (ps τ 7 (nI (4 * mse μ)) (nI g)) 7 (nI (4 * mse μ + 1)) (nI j)) 7 (nI (4 * mse μ + 2)) (nI t)) 7 (nI (4 * mse μ + 3)) (nI b)) 0 13 (nI (mse μ + 1))) 0 x = τ 0 x := fun x hx => by rw [pf_nk hx, ps_ne (by decide), ps_ne (by decide), ps_ne (by decide), ps_ne (by decide)]
      refine Rel.mk' (μ := μ) (a := mac μ) (ke := mke μ) (se := mse μ + 1) (le := mle μ) (f6 := μ 6) (f8 := μ 8) (f9 := μ 9) (f10 := sawF (μ 10) (mse μ) g j t b) (f11 := μ 11) w1 w2.up w3 (fun i hi => (w4 i hi).up) w5 (fun i hi => (w6 i hi).up) (by omega) (fun i hi => ?_) w9 w10 ?_ ?_ ?_ ?_ ?_ ⟨pf_same, fun i hi => ?_⟩ ?_ ⟨⟨?_, ?_, pf_same, ?_⟩, fun x hx => ?_, fun x hx => ?_, fun x hx => ?_, fun x hx => ?_, fun x hx => ?_⟩
      · by_cases e : i = mse μ
        · subst e
          rw [saw0, saw1, saw2, saw3]
          omega
        · rw [sawL (show 4 * i < 4 * mse μ by omega), sawL (show 4 * i + 1 < 4 * mse μ by omega), sawL (show 4 * i + 2 < 4 * mse μ by omega), sawL (show 4 * i + 3 < 4 * mse μ by omega)]
          exact w8 i (by omega)
      · exact hn.t.same (fN _ (by omega)) (fN _ (by omega))
      · exact hn.2.1.eq (fun p h1 h2 _ => fN _ (by omega))
      · exact hn.2.2.1.same (fN _ (by omega)) (fN _ (by omega)) (fN _ (by omega))
      · exact hn.u.up.same (fun p h1 h2 => fN _ (by omega))
      · exact hn.k.same w5 (fun p h1 h2 => fN _ (by omega))
      · by_cases e : i = mse μ
        · subst e
          rw [saw0, saw1, saw2, saw3]
          refine ⟨?_, ?_, ?_, ?_⟩
          · rw [pf_ne (by decide), ps_ne (by decide), ps_ne (by decide), ps_ne (by decide), ps_same (by omega)]
          · rw [pf_ne (by decide), ps_ne (by decide), ps_ne (by decide), ps_same (by omega)]
          · rw [pf_ne (by decide), ps_ne (by decide), ps_same (by omega)]
          · rw [pf_ne (by decide), ps_same (by omega)]
        · obtain ⟨v0, v1, v2, v3⟩ := hn.v.2 i (by omega)
          rw [sawL (show 4 * i < 4 * mse μ by omega), sawL (show 4 * i + 1 < 4 * mse μ by omega), sawL (show 4 * i + 2 < 4 * mse μ by omega), sawL (show 4 * i + 3 < 4 * mse μ by omega)]
          refine ⟨?_, ?_, ?_, ?_⟩
          · rw [pf_ne (by decide), ps_ne (by decide), ps_ne (by decide), ps_ne (by decide), ps_nk (by omega) e]; exact v0
          · rw [pf_ne (by decide), ps_ne (by decide), ps_ne (by decide), ps_nk (by omega) e, ps_ne (by decide)]; exact v1
          · rw [pf_ne (by decide), ps_ne (by decide), ps_nk (by omega) e, ps_ne (by decide), ps_ne (by decide)]; exact v2
          · rw [pf_ne (by decide), ps_nk (by omega) e, ps_ne (by decide), ps_ne (by decide), ps_ne (by decide)]; exact v3
      · exact hm.1.eq (fun x hx => fM0 _ (by omega)) (fun p h1 h2 => fM _ (by omega) (by omega))
      · rw [fM0 _ (by decide)]; exact m2.1
      · rw [fM0 _ (by decide)]; exact m2.2.1
      · rw [fM0 _ (by decide)]; exact m2.2.2.2
      · rw [fM _ (by decide) (by decide)]; exact m3 x hx
      · rw [fM _ (by decide) (by decide)]; exact m4 x hx
      · rw [fM _ (by decide) (by decide)]; exact m5 x hx
      · rw [pf_ne (by decide)]
        by_cases e3 : x = 4 * mse μ + 3
        · subst e3; rw [ps_same (by omega), saw3]
        · rw [ps_nk (by omega) e3]
          by_cases e2 : x = 4 * mse μ + 2
          · subst e2; rw [ps_same (by omega), saw2]
          · rw [ps_nk (by omega) e2]
            by_cases e1 : x = 4 * mse μ + 1
            · subst e1; rw [ps_same (by omega), saw1]
            · rw [ps_nk (by omega) e1]
              by_cases e0 : x = 4 * mse μ
              · subst e0; rw [ps_same (by omega), saw0]
              · rw [ps_nk (by omega) e0, sawL (by omega)]; exact m6 x (by omega)
      · rw [fM _ (by decide) (by decide)]; exact m7 x hx
    rcases hb with e | e <;> subst e
    · simp only [jq2, put_63 c2, bnd_ok, z1, put_64 c2, z2, put_65 c2, z3, m0, m1, m2, m3, gd_nI (show 4 * mse μ < 24 by omega) d, gd_nI (show 4 * mse μ + 1 < 24 by omega) d, gd_nI (show 4 * mse μ + 2 < 24 by omega) d, gd_nI (show 4 * mse μ + 3 < 24 by omega) d, nm_ok, y1, y2, y3, if_true, put_66 c2, z4, y4, nI_1, c10, if_false, f_X8_size__62, pf_same, y5]
      exact ⟨_, _, _, rfl, rfl, fin 0 (by decide)⟩
    · simp only [jq2, put_63 c2, bnd_ok, z1, put_64 c2, z2, put_65 c2, z3, m0, m1, m2, m3, gd_nI (show 4 * mse μ < 24 by omega) d, gd_nI (show 4 * mse μ + 1 < 24 by omega) d, gd_nI (show 4 * mse μ + 2 < 24 by omega) d, gd_nI (show 4 * mse μ + 3 < 24 by omega) d, nm_ok, y1, y2, y3, if_true, put_66 c2, z4, y4, nI_1, c10, if_false, f_X8_size__62, pf_same, y5]
      exact ⟨_, _, _, rfl, rfl, fin 1 (by decide)⟩
