/-! open, tell, step -/
/-- a remembered pair, and a new standing -/
theorem act_mk {k : Nat} {σ τ σ' τ' : St} {μ : Mu} (hf : WF k μ) (hn : RN k σ μ) (hm : RM τ μ) {g : Nat → Nat} (hg : ENT (k + 1) μ g)
    (n0 : ∀ p, (p < 12 ∨ 62 ≤ p ∨ (48 ≤ p ∧ p ≤ 55) ∨ (12 ≤ p ∧ p ≤ 18 ∧ p ≠ 14)) → scrN p = false → σ' p = σ p) (n3 : SNt σ' 19 g) (n4 : UNp (k + 1) σ' (rmN (mac μ)) (rmF (μ 8) (μ 6) (mac μ)))
    (t0 : ∀ p, 1 ≤ p → p ≤ 8 → p ≠ 4 → p ≠ 5 → τ' p = τ p) (t1 : ∀ j, j ≠ 9 → keepM j = true → τ' 0 j = τ 0 j) (t2 : τ' 0 9 = nI (rmN (mac μ))) (t3 : ∀ j, j < 22 → τ' 4 j = nI (g j)) (t4 : ∀ j, j < 22 * rmN (mac μ) → τ' 5 j = nI (rmF (μ 8) (μ 6) (mac μ) j)) : Rel (k + 1) σ' τ' := by
  obtain ⟨ra, rb⟩ := rm_ENT hf
  obtain ⟨w1, w2, w3, w4, w5, w6, w7, w8, w9, w10⟩ := hf
  obtain ⟨m2, m3, m4, m5, m6, m7⟩ := hm.m
  refine Rel.mk' (μ := μ) (a := rmN (mac μ)) (ke := mke μ) (se := mse μ) (le := mle μ) (f6 := g) (f8 := rmF (μ 8) (μ 6) (mac μ)) (f9 := μ 9) (f10 := μ 10) (f11 := μ 11) w1 hg ra (fun i hi => (rb i hi).up) w5 (fun i hi => (w6 i hi).up) w7 w8 w9 w10 ?_ ?_ n3 n4 ?_ ?_ ?_ ⟨⟨t2, ?_, ?_, ?_⟩, t3, t4, fun x hx => ?_, fun x hx => ?_, fun x hx => ?_⟩
  · exact hn.t.same (n0 1 (by decide) rfl) (n0 2 (by decide) rfl)
  · refine hn.2.1.eq (fun p h1 h2 h3 => n0 p (by omega) ?_)
    unfold scrN; simp; omega
  · refine hn.k.same w5 (fun p h1 h2 => n0 p (by omega) ?_)
    unfold scrN; simp; omega
  · refine hn.v.same (fun p h1 h2 => n0 p (by omega) ?_)
    unfold scrN; simp; omega
  · refine hm.1.eq (fun j hj => t1 j (by omega) ?_) (fun p h1 h2 => t0 p h1 (by omega) (by omega) (by omega))
    rcases hj with e | e | e | e | e <;> subst e <;> rfl
  · rw [t1 11 (by decide) rfl]; exact m2.2.1
  · rw [t1 13 (by decide) rfl]; exact m2.2.2.1
  · rw [t1 16 (by decide) rfl]; exact m2.2.2.2
  · rw [t0 6 (by decide) (by decide) (by decide) (by decide)]; exact m5 x hx
  · rw [t0 7 (by decide) (by decide) (by decide) (by decide)]; exact m6 x hx
  · rw [t0 8 (by decide) (by decide) (by decide) (by decide)]; exact m7 x hx
theorem st_open {k : Nat} {σ τ : St} (h : Rel k σ τ) (hk : k < 64) (x1 x2 : Int32) : ST2 k (f_X10_open__0 σ x1 x2) (f_X11_open__0 τ x1 x2) := by
  obtain ⟨μ, hf, hn, hm⟩ := id h
  have hy := HY.of hf hk
  have hq := QN.of hn
  have hH := mH_pos hy.1
  have hm8 : mac μ ≤ 8 := hf.2.2.1
  unfold f_X10_open__0 f_X11_open__0
  rcases both_house hq.1 hm.1 hy.1 x1 with ⟨g, g1, rfl, gN, gM⟩ | ⟨gN, gM⟩
  rotate_left
  · exact st_bad h (r := -1) (by simp only [gN, bnd_ok, c00, if_true]) (by simp only [gM, bnd_ok, c00, if_true])
  rw [gN, gM, bnd_ok, bnd_ok, if_neg n10, if_neg n10]
  rcases both_in (A := 0) (B := 6) 0 6 (by decide) (by decide) rfl rfl σ τ x2 with ⟨o, o1, o2, rfl, oN, oM⟩ | ⟨oN, oM⟩
  rotate_left
  · refine st_bad h (r := -1) ?_ (by simp only [oM, bnd_ok, c00, if_true])
    unfold f_X10_isWidth
    simp only [oN, bnd_ok, zg_0, c00, if_true]
  have hwd : f_X10_isWidth σ (nI o) = some (1, σ) := by
    unfold f_X10_isWidth
    rw [oN, bnd_ok]; rfl
  have hsa : f_X9_sashOf__19 σ (nI g) = some (nI (SH μ g), σ) := by
    simp only [f_X9_sashOf__19, at_20 (show g < 16 by omega), bnd_ok]
    rw [hq.2.2.1 g (by omega)]; rfl
  obtain ⟨s, e1, e2, e3⟩ := N_remember hn hk hm8
  obtain ⟨t, f1, f2, f3, f4, f5⟩ := M_remember hm hm8
  have e1g : (1 : Int32) + nI g = nI (1 + g) := nI_add 1 g
  have ht4 : t 4 (1 + g) = nI (SH μ g) := by rw [f2 4 (by decide) (by decide)]; exact hm.2.2.1 _ (by omega)
  rw [hwd, bnd_ok, if_neg n10, hsa, bnd_ok, e1, bnd_ok, oM, bnd_ok, if_neg n10, f1, bnd_ok, e1g, gd_nI (show 1 + g < 22 by omega) (by decide), nI_clamp (by omega), ht4, nm_ok, gd_nI (show 1 + g < 22 by omega) (by decide), nm_ok]
  unfold f_X9_setSash__19
  rw [put_20 (show g < 16 by omega), bnd_ok, bnd_ok]
  refine ⟨_, _, _, rfl, rfl, ?_⟩
  refine act_mk hf hn hm (g := fun j => if j = 1 + g then o else μ 6 j) ⟨?_, fun x hx => ?_, fun x hx => ?_⟩ (fun p hp _ => ?_) ⟨?_, fun x hx => ?_, fun x hx => ?_⟩ ?_ (fun p h1 h2 h3 h4 => ?_) (fun j h1 _ => ?_) ?_ (fun j hj => ?_) (fun j hj => ?_)
  · have := hf.2.1.1
    show (if 0 = 1 + g then o else μ 6 0) ≤ _
    rw [if_neg (by omega)]; omega
  · by_cases e : 1 + x = 1 + g
    · simp only [e, if_true]; exact o2
    · simp only [e, if_false]; exact hy.2.2.1 x hx
  · have h17 : ¬ 17 + x = 1 + g := by omega
    simp only [h17, if_false]
    exact hf.2.1.2.2 x hx
  · rw [ps_ne (by omega)]
    exact e2 p (by omega)
  · show ps s 20 (nI g) (nI o) 19 2 = nI (if 0 = 1 + g then o else μ 6 0)
    rw [ps_ne (by decide), e2 19 (by decide), if_neg (by omega)]; exact hq.2.1
  · show ps s 20 (nI g) (nI o) 20 x = nI (if 1 + x = 1 + g then o else μ 6 (1 + x))
    by_cases e : x = g
    · subst e; rw [ps_same (by omega), if_pos rfl]
    · rw [ps_nk (by omega) e, if_neg (by omega), e2 20 (by decide)]; exact hq.2.2.1 x hx
  · show ps s 20 (nI g) (nI o) 21 x = nI (if 17 + x = 1 + g then o else μ 6 (17 + x))
    rw [ps_ne (by decide), e2 21 (by decide), if_neg (by omega)]; exact hq.2.2.2 x hx
  · exact e3.same (fun p h1 h2 => ps_ne (by omega))
  · rw [ps_ne h3, f2 p (by omega) h4]
  · rw [ps_ne (by decide), f3 j h1]
  · rw [ps_ne (by decide)]; exact f4
  · by_cases e : j = 1 + g
    · subst e; rw [ps_same (by omega), if_pos rfl]
    · rw [ps_nk (by omega) e, if_neg e, f2 4 (by decide) (by decide)]; exact hm.2.2.1 j hj
  · rw [ps_ne (by decide)]; exact f5 j hj
theorem st_tell {k : Nat} {σ τ : St} (h : Rel k σ τ) (hk : k < 64) (x1 x2 : Int32) : ST2 k (f_X10_tell__0 σ x1 x2) (f_X11_tell__0 τ x1 x2) := by
  obtain ⟨μ, hf, hn, hm⟩ := id h
  have hy := HY.of hf hk
  have hq := QN.of hn
  have hH := mH_pos hy.1
  have hn5 : mn μ ≤ 5 := hy.1.2.2.1
  have hm8 : mac μ ≤ 8 := hf.2.2.1
  unfold f_X10_tell__0 f_X11_tell__0
  rcases both_house hq.1 hm.1 hy.1 x1 with ⟨g, g1, rfl, gN, gM⟩ | ⟨gN, gM⟩
  rotate_left
  · exact st_bad h (r := -1) (by simp only [gN, bnd_ok, c00, if_true]) (by simp only [gM, bnd_ok, c00, if_true])
  rw [gN, gM, bnd_ok, bnd_ok, if_neg n10, if_neg n10]
  rcases both_news hq.1 hm.1 hy.1 x2 with ⟨j, j1, rfl, jN, jM⟩ | ⟨jN, jM⟩
  rotate_left
  · exact st_bad h (r := -1) (by simp only [jN, bnd_ok, c00, if_true]) (by simp only [jM, bnd_ok, c00, if_true])
  have hwk : f_X9_whoKnows__19 σ (nI j) = some (nI (KW μ j), σ) := by
    simp only [f_X9_whoKnows__19, at_21 (show j < 5 by omega), bnd_ok]; rw [hq.2.2.2 j (by omega)]; rfl
  have hKl := KWl hy j1
  have hK16 := lt_16 hy.1 hKl
  have e17 : (17 : Int32) + nI j = nI (17 + j) := nI_add 17 j
  have h17 : τ 4 (17 + j) = nI (KW μ j) := hm.2.2.1 _ (by omega)
  rw [jN, jM, bnd_ok, bnd_ok, if_neg n10, if_neg n10, hwk, bnd_ok, N_holds hK16 (show g < 16 by omega), bnd_ok, e17, gd_nI (show 17 + j < 22 by omega) (by decide), nI_clamp (show 17 + j < 2 ^ 31 by omega), h17, M_has hK16 (show g < 16 by omega), bnd_ok]
  cases hb : (KW μ j).testBit g with
  | true =>
    have t1 : (if true = true then (1 : Int32) else 0) = 1 := rfl
    rw [t1, if_neg n10, if_neg n10]
    exact st_bad h rfl rfl
  | false =>
    have t0 : (if false = true then (1 : Int32) else 0) = 0 := rfl
    obtain ⟨s, e1, e2, e3⟩ := N_remember hn hk hm8
    obtain ⟨t, f1, f2, f3, f4, f5⟩ := M_remember hm hm8
    have h2 : 2 ^ g < 2 ^ mH μ := Nat.pow_lt_pow_right (by decide) g1
    have hOr : KW μ j ||| 2 ^ g < 2 ^ mH μ := Nat.or_lt_two_pow hKl h2
    have hOr16 := lt_16 hy.1 hOr
    have ht : t 4 (17 + j) = nI (KW μ j) := by rw [f2 4 (by decide) (by decide)]; exact h17
    have hps : (ps t 4 (nI (17 + j)) (nI (KW μ j ||| 2 ^ g))) 4 (17 + j) = nI (KW μ j ||| 2 ^ g) := ps_same (by omega)
    rw [t0, if_pos rfl, if_pos rfl, e1, bnd_ok, N_bit (show g < 16 by omega), bnd_ok, nx_or]
    unfold f_X9_setWhoKnows__19
    rw [put_21 (show j < 5 by omega), bnd_ok, bnd_ok, N_bit (show g < 16 by omega), bnd_ok, nx_or, N_bitCount hOr16, bnd_ok]
    rw [f1, bnd_ok, gd_nI (show 17 + j < 22 by omega) (by decide), gd_nI (show 17 + j < 22 by omega) (by decide), ht, nx_bit (show g < 31 by omega), nx_or, nm_ok, gd_nI (show 17 + j < 22 by omega) (by decide), hps, M_bits hOr16, bnd_ok]
    refine ⟨_, _, _, rfl, rfl, ?_⟩
    refine act_mk hf hn hm (g := fun x => if x = 17 + j then KW μ j ||| 2 ^ g else μ 6 x) ⟨?_, fun x hx => ?_, fun x hx => ?_⟩ (fun p hp _ => ?_) ⟨?_, fun x hx => ?_, fun x hx => ?_⟩ ?_ (fun p h1 h2 h3 h4 => ?_) (fun x h1 _ => ?_) ?_ (fun x hx => ?_) (fun x hx => ?_)
    · have := hf.2.1.1
      show (if 0 = 17 + j then KW μ j ||| 2 ^ g else μ 6 0) ≤ _
      rw [if_neg (by omega)]; omega
    · show (if 1 + x = 17 + j then KW μ j ||| 2 ^ g else μ 6 (1 + x)) ≤ 6
      rw [if_neg (by omega)]; exact hy.2.2.1 x hx
    · show (if 17 + x = 17 + j then KW μ j ||| 2 ^ g else μ 6 (17 + x)) < 2 ^ mH μ ∧ (mn μ ≤ x → (if 17 + x = 17 + j then KW μ j ||| 2 ^ g else μ 6 (17 + x)) = 0)
      by_cases e : x = j
      · subst e; rw [if_pos rfl]; exact ⟨hOr, fun q => by omega⟩
      · rw [if_neg (by omega)]; exact hf.2.1.2.2 x hx
    · rw [ps_ne (by omega)]
      exact e2 p (by omega)
    · show ps s 21 (nI j) (nI (KW μ j ||| 2 ^ g)) 19 2 = nI (if 0 = 17 + j then KW μ j ||| 2 ^ g else μ 6 0)
      rw [ps_ne (by decide), e2 19 (by decide), if_neg (by omega)]; exact hq.2.1
    · show ps s 21 (nI j) (nI (KW μ j ||| 2 ^ g)) 20 x = nI (if 1 + x = 17 + j then KW μ j ||| 2 ^ g else μ 6 (1 + x))
      rw [ps_ne (by decide), e2 20 (by decide), if_neg (by omega)]; exact hq.2.2.1 x hx
    · show ps s 21 (nI j) (nI (KW μ j ||| 2 ^ g)) 21 x = nI (if 17 + x = 17 + j then KW μ j ||| 2 ^ g else μ 6 (17 + x))
      by_cases e : x = j
      · subst e; rw [ps_same (by omega), if_pos rfl]
      · rw [ps_nk (by omega) e, if_neg (by omega), e2 21 (by decide)]; exact hq.2.2.2 x hx
    · exact e3.same (fun p h1 h2 => ps_ne (by omega))
    · rw [ps_ne h3, f2 p (by omega) h4]
    · rw [ps_ne (by decide), f3 x h1]
    · rw [ps_ne (by decide)]; exact f4
    · by_cases e : x = 17 + j
      · subst e; rw [ps_same (by omega), if_pos rfl]
      · rw [ps_nk (by omega) e, if_neg e, f2 4 (by decide) (by decide)]; exact hm.2.2.1 x hx
    · rw [ps_ne (by decide)]; exact f5 x hx
