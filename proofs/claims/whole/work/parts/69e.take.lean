/-! the system: an item taken -/
theorem N_hasHouse5 {σ : St} {R C a : Nat} (h6 : σ 5 6 = nI R) (h7 : σ 5 7 = nI C) (hRC : R * C ≤ 16) (ha : a ≤ 99) : f_X4_hasHouse__5 σ (nI a) = some (if a < R * C then 1 else 0, σ) := by
  unfold f_X4_hasHouse__5 f_X4_houses__5
  rw [h6, h7, pk_mul]
  simp only [jq0, bnd_ok, if_neg (nI_pos (show a < 2 ^ 31 by omega))]
  by_cases c : a < R * C
  · rw [if_neg (nI_ge c (by omega)), if_pos c]
  · rw [if_pos (nI_le (show R * C ≤ a by omega) (by omega)), if_neg c]
/-- one item, by the system -/
theorem N_take5 {σ : St} {T : Nat → Nat} {le p k q a b c : Nat} {r : RP} (ht : TT T le) (hp : p < le) (hrd : rdN T le (p + 1) = some (k, q, a, b, c)) (hr : RPok r) (hn : NPr 5 σ r) (h0 : σ 4 0 = nI a) (h1 : 2 ≤ k → σ 4 1 = nI b) (h2 : 3 ≤ k → σ 4 2 = nI c) : ∃ σ', (∀ x, x < 5 ∨ 11 < x → σ' x = σ x) ∧ ((itm T le p r = none ∧ f_X4_take__5_4 σ (nI (T p)) (nI k) = some (0, σ')) ∨ ∃ r', itm T le p r = some (q, r') ∧ f_X4_take__5_4 σ (nI (T p)) (nI k) = some (1, σ') ∧ NPr 5 σ' r') := by
  obtain ⟨r1, r2, r3, r4, r5, r6, r7, r8, r9⟩ := hr
  obtain ⟨k1, k2, k3, k4, k5, k6, k7⟩ := rdN_q ht hrd
  have hT := ht.2 p hp
  have hRC : r.R * r.C ≤ 16 := Nat.le_trans (Nat.mul_le_mul r1.2 r2.2) (by decide)
  have hle := ht.1
  obtain ⟨⟨g6, g7, g8, g9⟩, ⟨g10, g11, g12⟩, gh, gn, gw⟩ := id hn
  have a4 : ∀ j, j < 3 → f_X10_at__4 σ (nI j) = some (σ 4 j, σ) := fun j hj => at_4 hj
  have a40 : f_X10_at__4 σ 0 = some (nI a, σ) := by rw [← h0]; exact a4 0 (by decide)
  have a41 : f_X10_at__4 σ 1 = some (σ 4 1, σ) := a4 1 (by decide)
  have a42 : f_X10_at__4 σ 2 = some (σ 4 2, σ) := a4 2 (by decide)
  have q103 : (nI (T p) = (103 : Int32)) = (T p = 103) := nI_eqB (b := 103) (by omega) (by decide)
  have q104 : (nI (T p) = (104 : Int32)) = (T p = 104) := nI_eqB (b := 104) (by omega) (by decide)
  have q110 : (nI (T p) = (110 : Int32)) = (T p = 110) := nI_eqB (b := 110) (by omega) (by decide)
  have q119 : (nI (T p) = (119 : Int32)) = (T p = 119) := nI_eqB (b := 119) (by omega) (by decide)
  have u1 : (nI k = (1 : Int32)) = (k = 1) := nI_eqB (b := 1) (by omega) (by decide)
  have u2 : (nI k = (2 : Int32)) = (k = 2) := nI_eqB (b := 2) (by omega) (by decide)
  have u3 : (nI k = (3 : Int32)) = (k = 3) := nI_eqB (b := 3) (by omega) (by decide)
  have j0 : ∀ (A : St → Ot) (B : (St → Ot) → Ot), jq0 A B = B A := fun _ _ => rfl
  unfold f_X4_take__5_4
  rw [a40, bnd_ok, a41, bnd_ok, a42, bnd_ok]
  by_cases c103 : T p = 103
  · rw [if_pos (by rw [q103]; exact c103), j0]
    have hitm : itm T le p r = (if k = 2 ∧ r.beg = false ∧ (1 ≤ a ∧ a ≤ 4) ∧ (1 ≤ b ∧ b ≤ 4) then some (q, mkRP a b r.nn r.ww r.beg r.kd r.sa r.nk r.nw r.nb r.wi) else none) := by
      unfold itm; rw [hrd]; simp only []; rw [if_pos c103]
    by_cases ck : k = 2
    · rw [if_pos (by rw [u2]; exact ck), g12]
      by_cases hbg : r.beg = true
      · rw [if_pos hbg, if_pos rfl]
        exact ⟨σ, fun _ _ => rfl, Or.inl ⟨by rw [hitm, if_neg (fun z => by rw [hbg] at z; exact absurd z.2.1 (by decide))], rfl⟩⟩
      · rw [if_neg hbg, if_neg n10, h1 (by omega)]
        obtain ⟨s, e1, e2, e3⟩ := N_grid5 (σ := σ) k3 k4
        rcases e3 with ⟨e3, e4⟩ | ⟨e3, e4, e5, e6, e7, e8⟩
        · rw [e4, bnd_ok, if_pos rfl]
          exact ⟨s, fun x hx => e1 x (by omega), Or.inl ⟨by rw [hitm, if_neg (fun z => e3 z.2.2)], rfl⟩⟩
        · rw [e4, bnd_ok, if_neg n10]
          refine ⟨s, fun x hx => e1 x (by omega), Or.inr ⟨mkRP a b r.nn r.ww r.beg r.kd r.sa r.nk r.nw r.nb r.wi, by rw [hitm, if_pos ⟨ck, by simpa using hbg, e3⟩], rfl, ⟨e5, e6, e7, e8⟩, ⟨?_, ?_, ?_⟩, ?_, ?_, ?_⟩⟩
          · rw [e2 10 (by decide)]; exact g10
          · rw [e2 11 (by decide)]; exact g11
          · rw [e2 12 (by decide)]; exact g12
          · intro h hh
            rw [e1 (5 + 1) (by decide), e1 (5 + 2) (by decide)]; exact gh h hh
          · intro n hh
            rw [e1 (5 + 3) (by decide), e1 (5 + 4) (by decide), e1 (5 + 5) (by decide)]; exact gn n hh
          · intro i hh
            rw [e1 (5 + 6) (by decide)]; exact gw i hh
    · rw [if_neg (fun z => ck (by rw [u2] at z; exact z))]
      exact ⟨σ, fun _ _ => rfl, Or.inl ⟨by rw [hitm, if_neg (fun z => ck z.1)], rfl⟩⟩
  rw [if_neg (fun z => c103 (by rw [q103] at z; exact z)), nm_ok]
  have fr0 : ∀ x, x ≠ 5 → (pf σ 5 12 0) x = σ x := fun x hx => pf_ne hx
  have y6 : (pf σ 5 12 0) 5 6 = nI r.R := by rw [pf_nk (by decide)]; exact g6
  have y7 : (pf σ 5 12 0) 5 7 = nI r.C := by rw [pf_nk (by decide)]; exact g7
  have y8 : (pf σ 5 12 0) 5 8 = nI (fcN r.R r.C) := by rw [pf_nk (by decide)]; exact g8
  have y9 : (pf σ 5 12 0) 5 9 = nI (lcN r.R r.C) := by rw [pf_nk (by decide)]; exact g9
  have y10 : (pf σ 5 12 0) 5 10 = nI r.nn := by rw [pf_nk (by decide)]; exact g10
  have y11 : (pf σ 5 12 0) 5 11 = nI r.ww := by rw [pf_nk (by decide)]; exact g11
  have y12 : (pf σ 5 12 0) 5 12 = 0 := pf_same
  have yK : (pf σ 5 12 0) 6 = σ 6 := pf_ne (by decide)
  have yS : (pf σ 5 12 0) 7 = σ 7 := pf_ne (by decide)
  have yNK : (pf σ 5 12 0) 8 = σ 8 := pf_ne (by decide)
  have yNW : (pf σ 5 12 0) 9 = σ 9 := pf_ne (by decide)
  have yNB : (pf σ 5 12 0) 10 = σ 10 := pf_ne (by decide)
  have yWI : (pf σ 5 12 0) 11 = σ 11 := pf_ne (by decide)
  have ghK : ∀ h, h < 16 → σ 6 h = nI (r.kd h) := fun h hh => (gh h hh).1
  have ghS : ∀ h, h < 16 → σ 7 h = nI (r.sa h) := fun h hh => (gh h hh).2
  have gnK : ∀ n, n < r.nn → σ 8 n = nI (r.nk n) := fun n hh => (gn n hh).1
  have gnW : ∀ n, n < r.nn → σ 9 n = nI (r.nw n) := fun n hh => (gn n hh).2.1
  have gnB : ∀ n, n < r.nn → σ 10 n = nI (r.nb n) := fun n hh => (gn n hh).2.2
  have gwI : ∀ i, i < 8 → σ 11 i = nI (if i < r.ww then r.wi i else 0) := gw
  rw [← yK] at ghK
  rw [← yS] at ghS
  rw [← yNK] at gnK
  rw [← yNW] at gnW
  rw [← yNB] at gnB
  rw [← yWI] at gwI
  clear yK yS yNK yNW yNB yWI hn gh gn gw a4 a40 a41 a42 g6 g7 g8 g9 g10 g11 g12
  generalize pf σ 5 12 0 = s at fr0 y6 y7 y8 y9 y10 y11 y12 ghK ghS gnK gnW gnB gwI
  have frs : ∀ x, x < 5 ∨ 11 < x → s x = σ x := fun x hx => fr0 x (by omega)
  by_cases c104 : T p = 104
  · rw [if_pos (by rw [q104]; exact c104), j0]
    have hitm : itm T le p r = (if k = 3 ∧ a < r.R * r.C ∧ b ≤ 4 ∧ c ≤ 6 then some (q, mkRP r.R r.C r.nn r.ww true (up1 r.kd a b) (up1 r.sa a c) r.nk r.nw r.nb r.wi) else none) := by
      unfold itm; rw [hrd]; simp only []; rw [if_neg c103, if_pos c104]
    by_cases ck : k = 3
    · rw [if_pos (by rw [u3]; exact ck), h1 (by omega), h2 (by omega)]
      unfold f_X4_takeHouse__5
      rw [N_hasHouse5 y6 y7 hRC k3, bnd_ok]
      by_cases ca : a < r.R * r.C
      · rw [ite_i ca, if_neg n10]
        by_cases cb : b ≤ 4
        · rw [if_neg (show ¬ (4 : Int32) < nI b from nI_nlt (a := 4) cb (by decide))]
          unfold f_X10_isWidth
          by_cases cc : c ≤ 6
          · have hw : f_X10_within s (nI c) 0 6 = some (1, s) := N_within (nI_pos (by omega)) (nI_nlt (a := 6) cc (by decide))
            rw [hw, bnd_ok, zg_1, bnd_ok, if_neg n10, put_6 (show a < 16 by omega), bnd_ok, put_7 (show a < 16 by omega), bnd_ok, bnd_ok, if_neg n10]
            refine ⟨_, fun x hx => ?_, Or.inr ⟨mkRP r.R r.C r.nn r.ww true (up1 r.kd a b) (up1 r.sa a c) r.nk r.nw r.nb r.wi, by rw [hitm, if_pos ⟨ck, ca, cb, cc⟩], rfl, ⟨?_, ?_, ?_, ?_⟩, ⟨?_, ?_, ?_⟩, fun h hh => ⟨?_, ?_⟩, fun n hh => ⟨?_, ?_, ?_⟩, fun i hh => ?_⟩⟩
            · rw [ps_ne (by omega), ps_ne (by omega)]; exact frs x hx
            · rw [ps_ne (by decide), ps_ne (by decide)]; exact y6
            · rw [ps_ne (by decide), ps_ne (by decide)]; exact y7
            · rw [ps_ne (by decide), ps_ne (by decide)]; exact y8
            · rw [ps_ne (by decide), ps_ne (by decide)]; exact y9
            · rw [ps_ne (by decide), ps_ne (by decide)]; exact y10
            · rw [ps_ne (by decide), ps_ne (by decide)]; exact y11
            · rw [ps_ne (by decide), ps_ne (by decide)]; exact y12
            · show ps (ps s 6 (nI a) (nI b)) 7 (nI a) (nI c) 6 h = nI (up1 r.kd a b h)
              rw [ps_ne (by decide)]
              unfold up1
              by_cases e : h = a
              · subst e; rw [ps_same (by omega), if_pos rfl]
              · rw [ps_nk (by omega) e, if_neg e]; exact ghK h hh
            · show ps (ps s 6 (nI a) (nI b)) 7 (nI a) (nI c) 7 h = nI (up1 r.sa a c h)
              unfold up1
              by_cases e : h = a
              · subst e; rw [ps_same (by omega), if_pos rfl]
              · rw [ps_nk (by omega) e, if_neg e, ps_ne (by decide)]; exact ghS h hh
            · rw [ps_ne (by decide), ps_ne (by decide)]; exact gnK n hh
            · rw [ps_ne (by decide), ps_ne (by decide)]; exact gnW n hh
            · rw [ps_ne (by decide), ps_ne (by decide)]; exact gnB n hh
            · rw [ps_ne (by decide), ps_ne (by decide)]; exact gwI i hh
          · have hw : f_X10_within s (nI c) 0 6 = some (0, s) := N_within0 (Or.inr ⟨nI_pos (by omega), nI_lt (a := 6) (by omega) (by omega)⟩)
            rw [hw, bnd_ok, zg_0, bnd_ok, if_pos rfl, bnd_ok, if_pos rfl]
            exact ⟨s, frs, Or.inl ⟨by rw [hitm, if_neg (fun z => cc z.2.2.2)], rfl⟩⟩
        · rw [if_pos (show (4 : Int32) < nI b from nI_lt (a := 4) (by omega) (by omega)), bnd_ok, if_pos rfl]
          exact ⟨s, frs, Or.inl ⟨by rw [hitm, if_neg (fun z => cb z.2.2.1)], rfl⟩⟩
      · rw [ite_o ca, if_pos rfl, bnd_ok, if_pos rfl]
        exact ⟨s, frs, Or.inl ⟨by rw [hitm, if_neg (fun z => ca z.2.1)], rfl⟩⟩
    · rw [if_neg (fun z => ck (by rw [u3] at z; exact z))]
      exact ⟨s, frs, Or.inl ⟨by rw [hitm, if_neg (fun z => ck z.1)], rfl⟩⟩
  rw [if_neg (fun z => c104 (by rw [q104] at z; exact z))]
  by_cases c110 : T p = 110
  · rw [if_pos (by rw [q110]; exact c110), j0]
    have hitm : itm T le p r = (if k = 3 ∧ a ≤ 2 ∧ (1 ≤ b ∧ b ≤ 4) ∧ c < r.R * r.C ∧ r.nn < 5 then some (q, mkRP r.R r.C (r.nn + 1) r.ww true r.kd r.sa (up1 r.nk r.nn a) (up1 r.nw r.nn b) (up1 r.nb r.nn c) r.wi) else none) := by
      unfold itm; rw [hrd]; simp only []; rw [if_neg c103, if_neg c104, if_pos c110]
    by_cases ck : k = 3
    · rw [if_pos (by rw [u3]; exact ck), h1 (by omega), h2 (by omega)]
      unfold f_X4_takeNews__5
      by_cases ca : a ≤ 2
      · rw [if_neg (show ¬ (2 : Int32) < nI a from nI_nlt (a := 2) ca (by decide))]
        by_cases cb : 1 ≤ b ∧ b ≤ 4
        · have hw : f_X10_within s (nI b) 1 4 = some (1, s) := N_within (nI_nlt (b := 1) cb.1 (by omega)) (nI_nlt (a := 4) cb.2 (by decide))
          rw [hw, bnd_ok, if_neg n10, N_hasHouse5 y6 y7 hRC k5, bnd_ok]
          by_cases cc : c < r.R * r.C
          · rw [ite_i cc, if_neg n10, y10]
            by_cases c5 : r.nn < 5
            · have w1 : (ps s 8 (nI r.nn) (nI a)) 5 10 = nI r.nn := by rw [ps_ne (by decide)]; exact y10
              have w2 : (ps (ps s 8 (nI r.nn) (nI a)) 9 (nI r.nn) (nI b)) 5 10 = nI r.nn := by rw [ps_ne (by decide)]; exact w1
              have w3 : (ps (ps (ps s 8 (nI r.nn) (nI a)) 9 (nI r.nn) (nI b)) 10 (nI r.nn) (nI c)) 5 10 = nI r.nn := by rw [ps_ne (by decide)]; exact w2
              rw [if_pos (show nI r.nn < (5 : Int32) from nI_lt (b := 5) c5 (by decide)), put_8 c5, bnd_ok, w1, put_9 c5, bnd_ok, w2, put_10 c5, bnd_ok, w3, nI_1, nm_ok, bnd_ok, if_neg n10]
              refine ⟨_, fun x hx => ?_, Or.inr ⟨mkRP r.R r.C (r.nn + 1) r.ww true r.kd r.sa (up1 r.nk r.nn a) (up1 r.nw r.nn b) (up1 r.nb r.nn c) r.wi, by rw [hitm, if_pos ⟨ck, ca, cb, cc, c5⟩], rfl, ⟨?_, ?_, ?_, ?_⟩, ⟨pf_same, ?_, ?_⟩, fun h hh => ⟨?_, ?_⟩, fun n hh => ?_, fun i hh => ?_⟩⟩
              · rw [pf_ne (by omega), ps_ne (by omega), ps_ne (by omega), ps_ne (by omega)]; exact frs x hx
              · rw [pf_nk (by decide), ps_ne (by decide), ps_ne (by decide), ps_ne (by decide)]; exact y6
              · rw [pf_nk (by decide), ps_ne (by decide), ps_ne (by decide), ps_ne (by decide)]; exact y7
              · rw [pf_nk (by decide), ps_ne (by decide), ps_ne (by decide), ps_ne (by decide)]; exact y8
              · rw [pf_nk (by decide), ps_ne (by decide), ps_ne (by decide), ps_ne (by decide)]; exact y9
              · rw [pf_nk (by decide), ps_ne (by decide), ps_ne (by decide), ps_ne (by decide)]; exact y11
              · rw [pf_nk (by decide), ps_ne (by decide), ps_ne (by decide), ps_ne (by decide)]; exact y12
              · rw [pf_ne (by decide), ps_ne (by decide), ps_ne (by decide), ps_ne (by decide)]; exact ghK h hh
              · rw [pf_ne (by decide), ps_ne (by decide), ps_ne (by decide), ps_ne (by decide)]; exact ghS h hh
              · have hn' : n < r.nn + 1 := hh
                show pf _ 5 10 _ 8 n = nI (up1 r.nk r.nn a n) ∧ pf _ 5 10 _ 9 n = nI (up1 r.nw r.nn b n) ∧ pf _ 5 10 _ 10 n = nI (up1 r.nb r.nn c n)
                unfold up1
                by_cases e : n = r.nn
                · subst e
                  rw [if_pos rfl, if_pos rfl, if_pos rfl]
                  refine ⟨?_, ?_, ?_⟩
                  · rw [pf_ne (by decide), ps_ne (by decide), ps_ne (by decide), ps_same (by omega)]
                  · rw [pf_ne (by decide), ps_ne (by decide), ps_same (by omega)]
                  · rw [pf_ne (by decide), ps_same (by omega)]
                · rw [if_neg e, if_neg e, if_neg e]
                  refine ⟨?_, ?_, ?_⟩
                  · rw [pf_ne (by decide), ps_ne (by decide), ps_ne (by decide), ps_nk (by omega) e]; exact gnK n (by omega)
                  · rw [pf_ne (by decide), ps_ne (by decide), ps_nk (by omega) e, ps_ne (by decide)]; exact gnW n (by omega)
                  · rw [pf_ne (by decide), ps_nk (by omega) e, ps_ne (by decide), ps_ne (by decide)]; exact gnB n (by omega)
              · rw [pf_ne (by decide), ps_ne (by decide), ps_ne (by decide), ps_ne (by decide)]; exact gwI i hh
            · rw [if_neg (show ¬ nI r.nn < (5 : Int32) from nI_nlt (b := 5) (by omega) (by omega)), bnd_ok, if_pos rfl]
              exact ⟨s, frs, Or.inl ⟨by rw [hitm, if_neg (fun z => c5 z.2.2.2.2)], rfl⟩⟩
          · rw [ite_o cc, if_pos rfl, bnd_ok, if_pos rfl]
            exact ⟨s, frs, Or.inl ⟨by rw [hitm, if_neg (fun z => cc z.2.2.2.1)], rfl⟩⟩
        · have hw : f_X10_within s (nI b) 1 4 = some (0, s) := by
            by_cases c : b < 1
            · exact N_within0 (Or.inl (nI_lt (b := 1) c (by decide)))
            · exact N_within0 (Or.inr ⟨nI_nlt (b := 1) (by omega) (by omega), nI_lt (a := 4) (by omega) (by omega)⟩)
          rw [hw, bnd_ok, if_pos rfl, bnd_ok, if_pos rfl]
          exact ⟨s, frs, Or.inl ⟨by rw [hitm, if_neg (fun z => cb z.2.2.1)], rfl⟩⟩
      · rw [if_pos (show (2 : Int32) < nI a from nI_lt (a := 2) (by omega) (by omega)), bnd_ok, if_pos rfl]
        exact ⟨s, frs, Or.inl ⟨by rw [hitm, if_neg (fun z => ca z.2.1)], rfl⟩⟩
    · rw [if_neg (fun z => ck (by rw [u3] at z; exact z))]
      exact ⟨s, frs, Or.inl ⟨by rw [hitm, if_neg (fun z => ck z.1)], rfl⟩⟩
  rw [if_neg (fun z => c110 (by rw [q110] at z; exact z))]
  by_cases c119 : T p = 119
  · rw [if_pos (by rw [q119]; exact c119), j0]
    have hitm : itm T le p r = (if k = 1 ∧ a ≤ 4 ∧ r.ww < 8 then some (q, mkRP r.R r.C r.nn (r.ww + 1) true r.kd r.sa r.nk r.nw r.nb (up1 r.wi r.ww a)) else none) := by
      unfold itm; rw [hrd]; simp only []; rw [if_neg c103, if_neg c104, if_neg c110, if_pos c119]
    by_cases ck : k = 1
    · rw [if_pos (by rw [u1]; exact ck)]
      unfold f_X4_takeWind__5
      by_cases ca : a ≤ 4
      · rw [if_neg (show ¬ (4 : Int32) < nI a from nI_nlt (a := 4) ca (by decide)), y11]
        by_cases c8 : r.ww < 8
        · have w1 : (ps s 11 (nI r.ww) (nI a)) 5 11 = nI r.ww := by rw [ps_ne (by decide)]; exact y11
          rw [if_pos (show nI r.ww < (8 : Int32) from nI_lt (b := 8) c8 (by decide)), put_11 c8, bnd_ok, w1, nI_1, nm_ok, bnd_ok, if_neg n10]
          refine ⟨_, fun x hx => ?_, Or.inr ⟨mkRP r.R r.C r.nn (r.ww + 1) true r.kd r.sa r.nk r.nw r.nb (up1 r.wi r.ww a), by rw [hitm, if_pos ⟨ck, ca, c8⟩], rfl, ⟨?_, ?_, ?_, ?_⟩, ⟨?_, pf_same, ?_⟩, fun h hh => ⟨?_, ?_⟩, fun n hh => ⟨?_, ?_, ?_⟩, fun i hh => ?_⟩⟩
          · rw [pf_ne (by omega), ps_ne (by omega)]; exact frs x hx
          · rw [pf_nk (by decide), ps_ne (by decide)]; exact y6
          · rw [pf_nk (by decide), ps_ne (by decide)]; exact y7
          · rw [pf_nk (by decide), ps_ne (by decide)]; exact y8
          · rw [pf_nk (by decide), ps_ne (by decide)]; exact y9
          · rw [pf_nk (by decide), ps_ne (by decide)]; exact y10
          · rw [pf_nk (by decide), ps_ne (by decide)]; exact y12
          · rw [pf_ne (by decide), ps_ne (by decide)]; exact ghK h hh
          · rw [pf_ne (by decide), ps_ne (by decide)]; exact ghS h hh
          · rw [pf_ne (by decide), ps_ne (by decide)]; exact gnK n hh
          · rw [pf_ne (by decide), ps_ne (by decide)]; exact gnW n hh
          · rw [pf_ne (by decide), ps_ne (by decide)]; exact gnB n hh
          · show pf _ 5 11 _ 11 i = nI (if i < r.ww + 1 then up1 r.wi r.ww a i else 0)
            rw [pf_ne (by decide)]
            unfold up1
            by_cases e : i = r.ww
            · subst e; rw [ps_same (by omega), if_pos (by omega), if_pos rfl]
            · rw [ps_nk (by omega) e, gwI i hh, if_neg e]
              by_cases e2 : i < r.ww
              · rw [if_pos e2, if_pos (by omega)]
              · rw [if_neg e2, if_neg (by omega)]
        · rw [if_neg (show ¬ nI r.ww < (8 : Int32) from nI_nlt (b := 8) (by omega) (by omega)), bnd_ok, if_pos rfl]
          exact ⟨s, frs, Or.inl ⟨by rw [hitm, if_neg (fun z => c8 z.2.2)], rfl⟩⟩
      · rw [if_pos (show (4 : Int32) < nI a from nI_lt (a := 4) (by omega) (by omega)), bnd_ok, if_pos rfl]
        exact ⟨s, frs, Or.inl ⟨by rw [hitm, if_neg (fun z => ca z.2.1)], rfl⟩⟩
    · rw [if_neg (fun z => ck (by rw [u1] at z; exact z))]
      exact ⟨s, frs, Or.inl ⟨by rw [hitm, if_neg (fun z => ck z.1)], rfl⟩⟩
  rw [if_neg (fun z => c119 (by rw [q119] at z; exact z))]
  refine ⟨s, frs, Or.inl ⟨?_, rfl⟩⟩
  unfold itm; rw [hrd]; simp only []; rw [if_neg c103, if_neg c104, if_neg c110, if_neg c119]
theorem N_hasHouse12 {σ : St} {R C a : Nat} (h6 : σ 12 6 = nI R) (h7 : σ 12 7 = nI C) (hRC : R * C ≤ 16) (ha : a ≤ 99) : f_X4_hasHouse__12 σ (nI a) = some (if a < R * C then 1 else 0, σ) := by
  unfold f_X4_hasHouse__12 f_X4_houses__12
  rw [h6, h7, pk_mul]
  simp only [jq0, bnd_ok, if_neg (nI_pos (show a < 2 ^ 31 by omega))]
  by_cases c : a < R * C
  · rw [if_neg (nI_ge c (by omega)), if_pos c]
  · rw [if_pos (nI_le (show R * C ≤ a by omega) (by omega)), if_neg c]
/-- one item, by the system -/
theorem N_take12 {σ : St} {T : Nat → Nat} {le p k q a b c : Nat} {r : RP} (ht : TT T le) (hp : p < le) (hrd : rdN T le (p + 1) = some (k, q, a, b, c)) (hr : RPok r) (hn : NPr 12 σ r) (h0 : σ 4 0 = nI a) (h1 : 2 ≤ k → σ 4 1 = nI b) (h2 : 3 ≤ k → σ 4 2 = nI c) : ∃ σ', (∀ x, x < 12 ∨ 18 < x → σ' x = σ x) ∧ ((itm T le p r = none ∧ f_X4_take__12_4 σ (nI (T p)) (nI k) = some (0, σ')) ∨ ∃ r', itm T le p r = some (q, r') ∧ f_X4_take__12_4 σ (nI (T p)) (nI k) = some (1, σ') ∧ NPr 12 σ' r') := by
  obtain ⟨r1, r2, r3, r4, r5, r6, r7, r8, r9⟩ := hr
  obtain ⟨k1, k2, k3, k4, k5, k6, k7⟩ := rdN_q ht hrd
  have hT := ht.2 p hp
  have hRC : r.R * r.C ≤ 16 := Nat.le_trans (Nat.mul_le_mul r1.2 r2.2) (by decide)
  have hle := ht.1
  obtain ⟨⟨g6, g7, g8, g9⟩, ⟨g10, g11, g12⟩, gh, gn, gw⟩ := id hn
  have a4 : ∀ j, j < 3 → f_X10_at__4 σ (nI j) = some (σ 4 j, σ) := fun j hj => at_4 hj
  have a40 : f_X10_at__4 σ 0 = some (nI a, σ) := by rw [← h0]; exact a4 0 (by decide)
  have a41 : f_X10_at__4 σ 1 = some (σ 4 1, σ) := a4 1 (by decide)
  have a42 : f_X10_at__4 σ 2 = some (σ 4 2, σ) := a4 2 (by decide)
  have q103 : (nI (T p) = (103 : Int32)) = (T p = 103) := nI_eqB (b := 103) (by omega) (by decide)
  have q104 : (nI (T p) = (104 : Int32)) = (T p = 104) := nI_eqB (b := 104) (by omega) (by decide)
  have q110 : (nI (T p) = (110 : Int32)) = (T p = 110) := nI_eqB (b := 110) (by omega) (by decide)
  have q119 : (nI (T p) = (119 : Int32)) = (T p = 119) := nI_eqB (b := 119) (by omega) (by decide)
  have u1 : (nI k = (1 : Int32)) = (k = 1) := nI_eqB (b := 1) (by omega) (by decide)
  have u2 : (nI k = (2 : Int32)) = (k = 2) := nI_eqB (b := 2) (by omega) (by decide)
  have u3 : (nI k = (3 : Int32)) = (k = 3) := nI_eqB (b := 3) (by omega) (by decide)
  have j0 : ∀ (A : St → Ot) (B : (St → Ot) → Ot), jq0 A B = B A := fun _ _ => rfl
  unfold f_X4_take__12_4
  rw [a40, bnd_ok, a41, bnd_ok, a42, bnd_ok]
  by_cases c103 : T p = 103
  · rw [if_pos (by rw [q103]; exact c103), j0]
    have hitm : itm T le p r = (if k = 2 ∧ r.beg = false ∧ (1 ≤ a ∧ a ≤ 4) ∧ (1 ≤ b ∧ b ≤ 4) then some (q, mkRP a b r.nn r.ww r.beg r.kd r.sa r.nk r.nw r.nb r.wi) else none) := by
      unfold itm; rw [hrd]; simp only []; rw [if_pos c103]
    by_cases ck : k = 2
    · rw [if_pos (by rw [u2]; exact ck), g12]
      by_cases hbg : r.beg = true
      · rw [if_pos hbg, if_pos rfl]
        exact ⟨σ, fun _ _ => rfl, Or.inl ⟨by rw [hitm, if_neg (fun z => by rw [hbg] at z; exact absurd z.2.1 (by decide))], rfl⟩⟩
      · rw [if_neg hbg, if_neg n10, h1 (by omega)]
        obtain ⟨s, e1, e2, e3⟩ := N_grid12 (σ := σ) k3 k4
        rcases e3 with ⟨e3, e4⟩ | ⟨e3, e4, e5, e6, e7, e8⟩
        · rw [e4, bnd_ok, if_pos rfl]
          exact ⟨s, fun x hx => e1 x (by omega), Or.inl ⟨by rw [hitm, if_neg (fun z => e3 z.2.2)], rfl⟩⟩
        · rw [e4, bnd_ok, if_neg n10]
          refine ⟨s, fun x hx => e1 x (by omega), Or.inr ⟨mkRP a b r.nn r.ww r.beg r.kd r.sa r.nk r.nw r.nb r.wi, by rw [hitm, if_pos ⟨ck, by simpa using hbg, e3⟩], rfl, ⟨e5, e6, e7, e8⟩, ⟨?_, ?_, ?_⟩, ?_, ?_, ?_⟩⟩
          · rw [e2 10 (by decide)]; exact g10
          · rw [e2 11 (by decide)]; exact g11
          · rw [e2 12 (by decide)]; exact g12
          · intro h hh
            rw [e1 (12 + 1) (by decide), e1 (12 + 2) (by decide)]; exact gh h hh
          · intro n hh
            rw [e1 (12 + 3) (by decide), e1 (12 + 4) (by decide), e1 (12 + 5) (by decide)]; exact gn n hh
          · intro i hh
            rw [e1 (12 + 6) (by decide)]; exact gw i hh
    · rw [if_neg (fun z => ck (by rw [u2] at z; exact z))]
      exact ⟨σ, fun _ _ => rfl, Or.inl ⟨by rw [hitm, if_neg (fun z => ck z.1)], rfl⟩⟩
  rw [if_neg (fun z => c103 (by rw [q103] at z; exact z)), nm_ok]
  have fr0 : ∀ x, x ≠ 12 → (pf σ 12 12 0) x = σ x := fun x hx => pf_ne hx
  have y6 : (pf σ 12 12 0) 12 6 = nI r.R := by rw [pf_nk (by decide)]; exact g6
  have y7 : (pf σ 12 12 0) 12 7 = nI r.C := by rw [pf_nk (by decide)]; exact g7
  have y8 : (pf σ 12 12 0) 12 8 = nI (fcN r.R r.C) := by rw [pf_nk (by decide)]; exact g8
  have y9 : (pf σ 12 12 0) 12 9 = nI (lcN r.R r.C) := by rw [pf_nk (by decide)]; exact g9
  have y10 : (pf σ 12 12 0) 12 10 = nI r.nn := by rw [pf_nk (by decide)]; exact g10
  have y11 : (pf σ 12 12 0) 12 11 = nI r.ww := by rw [pf_nk (by decide)]; exact g11
  have y12 : (pf σ 12 12 0) 12 12 = 0 := pf_same
  have yK : (pf σ 12 12 0) 13 = σ 13 := pf_ne (by decide)
  have yS : (pf σ 12 12 0) 14 = σ 14 := pf_ne (by decide)
  have yNK : (pf σ 12 12 0) 15 = σ 15 := pf_ne (by decide)
  have yNW : (pf σ 12 12 0) 16 = σ 16 := pf_ne (by decide)
  have yNB : (pf σ 12 12 0) 17 = σ 17 := pf_ne (by decide)
  have yWI : (pf σ 12 12 0) 18 = σ 18 := pf_ne (by decide)
  have ghK : ∀ h, h < 16 → σ 13 h = nI (r.kd h) := fun h hh => (gh h hh).1
  have ghS : ∀ h, h < 16 → σ 14 h = nI (r.sa h) := fun h hh => (gh h hh).2
  have gnK : ∀ n, n < r.nn → σ 15 n = nI (r.nk n) := fun n hh => (gn n hh).1
  have gnW : ∀ n, n < r.nn → σ 16 n = nI (r.nw n) := fun n hh => (gn n hh).2.1
  have gnB : ∀ n, n < r.nn → σ 17 n = nI (r.nb n) := fun n hh => (gn n hh).2.2
  have gwI : ∀ i, i < 8 → σ 18 i = nI (if i < r.ww then r.wi i else 0) := gw
  rw [← yK] at ghK
  rw [← yS] at ghS
  rw [← yNK] at gnK
  rw [← yNW] at gnW
  rw [← yNB] at gnB
  rw [← yWI] at gwI
  clear yK yS yNK yNW yNB yWI hn gh gn gw a4 a40 a41 a42 g6 g7 g8 g9 g10 g11 g12
  generalize pf σ 12 12 0 = s at fr0 y6 y7 y8 y9 y10 y11 y12 ghK ghS gnK gnW gnB gwI
  have frs : ∀ x, x < 12 ∨ 18 < x → s x = σ x := fun x hx => fr0 x (by omega)
  by_cases c104 : T p = 104
  · rw [if_pos (by rw [q104]; exact c104), j0]
    have hitm : itm T le p r = (if k = 3 ∧ a < r.R * r.C ∧ b ≤ 4 ∧ c ≤ 6 then some (q, mkRP r.R r.C r.nn r.ww true (up1 r.kd a b) (up1 r.sa a c) r.nk r.nw r.nb r.wi) else none) := by
      unfold itm; rw [hrd]; simp only []; rw [if_neg c103, if_pos c104]
    by_cases ck : k = 3
    · rw [if_pos (by rw [u3]; exact ck), h1 (by omega), h2 (by omega)]
      unfold f_X4_takeHouse__12
      rw [N_hasHouse12 y6 y7 hRC k3, bnd_ok]
      by_cases ca : a < r.R * r.C
      · rw [ite_i ca, if_neg n10]
        by_cases cb : b ≤ 4
        · rw [if_neg (show ¬ (4 : Int32) < nI b from nI_nlt (a := 4) cb (by decide))]
          unfold f_X10_isWidth
          by_cases cc : c ≤ 6
          · have hw : f_X10_within s (nI c) 0 6 = some (1, s) := N_within (nI_pos (by omega)) (nI_nlt (a := 6) cc (by decide))
            rw [hw, bnd_ok, zg_1, bnd_ok, if_neg n10, put_13 (show a < 16 by omega), bnd_ok, put_14 (show a < 16 by omega), bnd_ok, bnd_ok, if_neg n10]
            refine ⟨_, fun x hx => ?_, Or.inr ⟨mkRP r.R r.C r.nn r.ww true (up1 r.kd a b) (up1 r.sa a c) r.nk r.nw r.nb r.wi, by rw [hitm, if_pos ⟨ck, ca, cb, cc⟩], rfl, ⟨?_, ?_, ?_, ?_⟩, ⟨?_, ?_, ?_⟩, fun h hh => ⟨?_, ?_⟩, fun n hh => ⟨?_, ?_, ?_⟩, fun i hh => ?_⟩⟩
            · rw [ps_ne (by omega), ps_ne (by omega)]; exact frs x hx
            · rw [ps_ne (by decide), ps_ne (by decide)]; exact y6
            · rw [ps_ne (by decide), ps_ne (by decide)]; exact y7
            · rw [ps_ne (by decide), ps_ne (by decide)]; exact y8
            · rw [ps_ne (by decide), ps_ne (by decide)]; exact y9
            · rw [ps_ne (by decide), ps_ne (by decide)]; exact y10
            · rw [ps_ne (by decide), ps_ne (by decide)]; exact y11
            · rw [ps_ne (by decide), ps_ne (by decide)]; exact y12
            · show ps (ps s 13 (nI a) (nI b)) 14 (nI a) (nI c) 13 h = nI (up1 r.kd a b h)
              rw [ps_ne (by decide)]
              unfold up1
              by_cases e : h = a
              · subst e; rw [ps_same (by omega), if_pos rfl]
              · rw [ps_nk (by omega) e, if_neg e]; exact ghK h hh
            · show ps (ps s 13 (nI a) (nI b)) 14 (nI a) (nI c) 14 h = nI (up1 r.sa a c h)
              unfold up1
              by_cases e : h = a
              · subst e; rw [ps_same (by omega), if_pos rfl]
              · rw [ps_nk (by omega) e, if_neg e, ps_ne (by decide)]; exact ghS h hh
            · rw [ps_ne (by decide), ps_ne (by decide)]; exact gnK n hh
            · rw [ps_ne (by decide), ps_ne (by decide)]; exact gnW n hh
            · rw [ps_ne (by decide), ps_ne (by decide)]; exact gnB n hh
            · rw [ps_ne (by decide), ps_ne (by decide)]; exact gwI i hh
          · have hw : f_X10_within s (nI c) 0 6 = some (0, s) := N_within0 (Or.inr ⟨nI_pos (by omega), nI_lt (a := 6) (by omega) (by omega)⟩)
            rw [hw, bnd_ok, zg_0, bnd_ok, if_pos rfl, bnd_ok, if_pos rfl]
            exact ⟨s, frs, Or.inl ⟨by rw [hitm, if_neg (fun z => cc z.2.2.2)], rfl⟩⟩
        · rw [if_pos (show (4 : Int32) < nI b from nI_lt (a := 4) (by omega) (by omega)), bnd_ok, if_pos rfl]
          exact ⟨s, frs, Or.inl ⟨by rw [hitm, if_neg (fun z => cb z.2.2.1)], rfl⟩⟩
      · rw [ite_o ca, if_pos rfl, bnd_ok, if_pos rfl]
        exact ⟨s, frs, Or.inl ⟨by rw [hitm, if_neg (fun z => ca z.2.1)], rfl⟩⟩
    · rw [if_neg (fun z => ck (by rw [u3] at z; exact z))]
      exact ⟨s, frs, Or.inl ⟨by rw [hitm, if_neg (fun z => ck z.1)], rfl⟩⟩
  rw [if_neg (fun z => c104 (by rw [q104] at z; exact z))]
  by_cases c110 : T p = 110
  · rw [if_pos (by rw [q110]; exact c110), j0]
    have hitm : itm T le p r = (if k = 3 ∧ a ≤ 2 ∧ (1 ≤ b ∧ b ≤ 4) ∧ c < r.R * r.C ∧ r.nn < 5 then some (q, mkRP r.R r.C (r.nn + 1) r.ww true r.kd r.sa (up1 r.nk r.nn a) (up1 r.nw r.nn b) (up1 r.nb r.nn c) r.wi) else none) := by
      unfold itm; rw [hrd]; simp only []; rw [if_neg c103, if_neg c104, if_pos c110]
    by_cases ck : k = 3
    · rw [if_pos (by rw [u3]; exact ck), h1 (by omega), h2 (by omega)]
      unfold f_X4_takeNews__12
      by_cases ca : a ≤ 2
      · rw [if_neg (show ¬ (2 : Int32) < nI a from nI_nlt (a := 2) ca (by decide))]
        by_cases cb : 1 ≤ b ∧ b ≤ 4
        · have hw : f_X10_within s (nI b) 1 4 = some (1, s) := N_within (nI_nlt (b := 1) cb.1 (by omega)) (nI_nlt (a := 4) cb.2 (by decide))
          rw [hw, bnd_ok, if_neg n10, N_hasHouse12 y6 y7 hRC k5, bnd_ok]
          by_cases cc : c < r.R * r.C
          · rw [ite_i cc, if_neg n10, y10]
            by_cases c5 : r.nn < 5
            · have w1 : (ps s 15 (nI r.nn) (nI a)) 12 10 = nI r.nn := by rw [ps_ne (by decide)]; exact y10
              have w2 : (ps (ps s 15 (nI r.nn) (nI a)) 16 (nI r.nn) (nI b)) 12 10 = nI r.nn := by rw [ps_ne (by decide)]; exact w1
              have w3 : (ps (ps (ps s 15 (nI r.nn) (nI a)) 16 (nI r.nn) (nI b)) 17 (nI r.nn) (nI c)) 12 10 = nI r.nn := by rw [ps_ne (by decide)]; exact w2
              rw [if_pos (show nI r.nn < (5 : Int32) from nI_lt (b := 5) c5 (by decide)), put_15 c5, bnd_ok, w1, put_16 c5, bnd_ok, w2, put_17 c5, bnd_ok, w3, nI_1, nm_ok, bnd_ok, if_neg n10]
              refine ⟨_, fun x hx => ?_, Or.inr ⟨mkRP r.R r.C (r.nn + 1) r.ww true r.kd r.sa (up1 r.nk r.nn a) (up1 r.nw r.nn b) (up1 r.nb r.nn c) r.wi, by rw [hitm, if_pos ⟨ck, ca, cb, cc, c5⟩], rfl, ⟨?_, ?_, ?_, ?_⟩, ⟨pf_same, ?_, ?_⟩, fun h hh => ⟨?_, ?_⟩, fun n hh => ?_, fun i hh => ?_⟩⟩
              · rw [pf_ne (by omega), ps_ne (by omega), ps_ne (by omega), ps_ne (by omega)]; exact frs x hx
              · rw [pf_nk (by decide), ps_ne (by decide), ps_ne (by decide), ps_ne (by decide)]; exact y6
              · rw [pf_nk (by decide), ps_ne (by decide), ps_ne (by decide), ps_ne (by decide)]; exact y7
              · rw [pf_nk (by decide), ps_ne (by decide), ps_ne (by decide), ps_ne (by decide)]; exact y8
              · rw [pf_nk (by decide), ps_ne (by decide), ps_ne (by decide), ps_ne (by decide)]; exact y9
              · rw [pf_nk (by decide), ps_ne (by decide), ps_ne (by decide), ps_ne (by decide)]; exact y11
              · rw [pf_nk (by decide), ps_ne (by decide), ps_ne (by decide), ps_ne (by decide)]; exact y12
              · rw [pf_ne (by decide), ps_ne (by decide), ps_ne (by decide), ps_ne (by decide)]; exact ghK h hh
              · rw [pf_ne (by decide), ps_ne (by decide), ps_ne (by decide), ps_ne (by decide)]; exact ghS h hh
              · have hn' : n < r.nn + 1 := hh
                show pf _ 12 10 _ 15 n = nI (up1 r.nk r.nn a n) ∧ pf _ 12 10 _ 16 n = nI (up1 r.nw r.nn b n) ∧ pf _ 12 10 _ 17 n = nI (up1 r.nb r.nn c n)
                unfold up1
                by_cases e : n = r.nn
                · subst e
                  rw [if_pos rfl, if_pos rfl, if_pos rfl]
                  refine ⟨?_, ?_, ?_⟩
                  · rw [pf_ne (by decide), ps_ne (by decide), ps_ne (by decide), ps_same (by omega)]
                  · rw [pf_ne (by decide), ps_ne (by decide), ps_same (by omega)]
                  · rw [pf_ne (by decide), ps_same (by omega)]
                · rw [if_neg e, if_neg e, if_neg e]
                  refine ⟨?_, ?_, ?_⟩
                  · rw [pf_ne (by decide), ps_ne (by decide), ps_ne (by decide), ps_nk (by omega) e]; exact gnK n (by omega)
                  · rw [pf_ne (by decide), ps_ne (by decide), ps_nk (by omega) e, ps_ne (by decide)]; exact gnW n (by omega)
                  · rw [pf_ne (by decide), ps_nk (by omega) e, ps_ne (by decide), ps_ne (by decide)]; exact gnB n (by omega)
              · rw [pf_ne (by decide), ps_ne (by decide), ps_ne (by decide), ps_ne (by decide)]; exact gwI i hh
            · rw [if_neg (show ¬ nI r.nn < (5 : Int32) from nI_nlt (b := 5) (by omega) (by omega)), bnd_ok, if_pos rfl]
              exact ⟨s, frs, Or.inl ⟨by rw [hitm, if_neg (fun z => c5 z.2.2.2.2)], rfl⟩⟩
          · rw [ite_o cc, if_pos rfl, bnd_ok, if_pos rfl]
            exact ⟨s, frs, Or.inl ⟨by rw [hitm, if_neg (fun z => cc z.2.2.2.1)], rfl⟩⟩
        · have hw : f_X10_within s (nI b) 1 4 = some (0, s) := by
            by_cases c : b < 1
            · exact N_within0 (Or.inl (nI_lt (b := 1) c (by decide)))
            · exact N_within0 (Or.inr ⟨nI_nlt (b := 1) (by omega) (by omega), nI_lt (a := 4) (by omega) (by omega)⟩)
          rw [hw, bnd_ok, if_pos rfl, bnd_ok, if_pos rfl]
          exact ⟨s, frs, Or.inl ⟨by rw [hitm, if_neg (fun z => cb z.2.2.1)], rfl⟩⟩
      · rw [if_pos (show (2 : Int32) < nI a from nI_lt (a := 2) (by omega) (by omega)), bnd_ok, if_pos rfl]
        exact ⟨s, frs, Or.inl ⟨by rw [hitm, if_neg (fun z => ca z.2.1)], rfl⟩⟩
    · rw [if_neg (fun z => ck (by rw [u3] at z; exact z))]
      exact ⟨s, frs, Or.inl ⟨by rw [hitm, if_neg (fun z => ck z.1)], rfl⟩⟩
  rw [if_neg (fun z => c110 (by rw [q110] at z; exact z))]
  by_cases c119 : T p = 119
  · rw [if_pos (by rw [q119]; exact c119), j0]
    have hitm : itm T le p r = (if k = 1 ∧ a ≤ 4 ∧ r.ww < 8 then some (q, mkRP r.R r.C r.nn (r.ww + 1) true r.kd r.sa r.nk r.nw r.nb (up1 r.wi r.ww a)) else none) := by
      unfold itm; rw [hrd]; simp only []; rw [if_neg c103, if_neg c104, if_neg c110, if_pos c119]
    by_cases ck : k = 1
    · rw [if_pos (by rw [u1]; exact ck)]
      unfold f_X4_takeWind__12
      by_cases ca : a ≤ 4
      · rw [if_neg (show ¬ (4 : Int32) < nI a from nI_nlt (a := 4) ca (by decide)), y11]
        by_cases c8 : r.ww < 8
        · have w1 : (ps s 18 (nI r.ww) (nI a)) 12 11 = nI r.ww := by rw [ps_ne (by decide)]; exact y11
          rw [if_pos (show nI r.ww < (8 : Int32) from nI_lt (b := 8) c8 (by decide)), put_18 c8, bnd_ok, w1, nI_1, nm_ok, bnd_ok, if_neg n10]
          refine ⟨_, fun x hx => ?_, Or.inr ⟨mkRP r.R r.C r.nn (r.ww + 1) true r.kd r.sa r.nk r.nw r.nb (up1 r.wi r.ww a), by rw [hitm, if_pos ⟨ck, ca, c8⟩], rfl, ⟨?_, ?_, ?_, ?_⟩, ⟨?_, pf_same, ?_⟩, fun h hh => ⟨?_, ?_⟩, fun n hh => ⟨?_, ?_, ?_⟩, fun i hh => ?_⟩⟩
          · rw [pf_ne (by omega), ps_ne (by omega)]; exact frs x hx
          · rw [pf_nk (by decide), ps_ne (by decide)]; exact y6
          · rw [pf_nk (by decide), ps_ne (by decide)]; exact y7
          · rw [pf_nk (by decide), ps_ne (by decide)]; exact y8
          · rw [pf_nk (by decide), ps_ne (by decide)]; exact y9
          · rw [pf_nk (by decide), ps_ne (by decide)]; exact y10
          · rw [pf_nk (by decide), ps_ne (by decide)]; exact y12
          · rw [pf_ne (by decide), ps_ne (by decide)]; exact ghK h hh
          · rw [pf_ne (by decide), ps_ne (by decide)]; exact ghS h hh
          · rw [pf_ne (by decide), ps_ne (by decide)]; exact gnK n hh
          · rw [pf_ne (by decide), ps_ne (by decide)]; exact gnW n hh
          · rw [pf_ne (by decide), ps_ne (by decide)]; exact gnB n hh
          · show pf _ 12 11 _ 18 i = nI (if i < r.ww + 1 then up1 r.wi r.ww a i else 0)
            rw [pf_ne (by decide)]
            unfold up1
            by_cases e : i = r.ww
            · subst e; rw [ps_same (by omega), if_pos (by omega), if_pos rfl]
            · rw [ps_nk (by omega) e, gwI i hh, if_neg e]
              by_cases e2 : i < r.ww
              · rw [if_pos e2, if_pos (by omega)]
              · rw [if_neg e2, if_neg (by omega)]
        · rw [if_neg (show ¬ nI r.ww < (8 : Int32) from nI_nlt (b := 8) (by omega) (by omega)), bnd_ok, if_pos rfl]
          exact ⟨s, frs, Or.inl ⟨by rw [hitm, if_neg (fun z => c8 z.2.2)], rfl⟩⟩
      · rw [if_pos (show (4 : Int32) < nI a from nI_lt (a := 4) (by omega) (by omega)), bnd_ok, if_pos rfl]
        exact ⟨s, frs, Or.inl ⟨by rw [hitm, if_neg (fun z => ca z.2.1)], rfl⟩⟩
    · rw [if_neg (fun z => ck (by rw [u1] at z; exact z))]
      exact ⟨s, frs, Or.inl ⟨by rw [hitm, if_neg (fun z => ck z.1)], rfl⟩⟩
  rw [if_neg (fun z => c119 (by rw [q119] at z; exact z))]
  refine ⟨s, frs, Or.inl ⟨?_, rfl⟩⟩
  unfold itm; rw [hrd]; simp only []; rw [if_neg c103, if_neg c104, if_neg c110, if_neg c119]
