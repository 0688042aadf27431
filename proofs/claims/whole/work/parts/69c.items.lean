/-! items -/
def RP : Type := (Nat × Nat × Nat × Nat × Bool) × (Nat → Nat) × (Nat → Nat) × (Nat → Nat) × (Nat → Nat) × (Nat → Nat) × (Nat → Nat)
def RP.R (r : RP) : Nat := r.1.1
def RP.C (r : RP) : Nat := r.1.2.1
def RP.nn (r : RP) : Nat := r.1.2.2.1
def RP.ww (r : RP) : Nat := r.1.2.2.2.1
def RP.beg (r : RP) : Bool := r.1.2.2.2.2
def RP.kd (r : RP) : Nat → Nat := r.2.1
def RP.sa (r : RP) : Nat → Nat := r.2.2.1
def RP.nk (r : RP) : Nat → Nat := r.2.2.2.1
def RP.nw (r : RP) : Nat → Nat := r.2.2.2.2.1
def RP.nb (r : RP) : Nat → Nat := r.2.2.2.2.2.1
def RP.wi (r : RP) : Nat → Nat := r.2.2.2.2.2.2
def mkRP (R C nn ww : Nat) (beg : Bool) (kd sa nk nw nb wi : Nat → Nat) : RP := ((R, C, nn, ww, beg), kd, sa, nk, nw, nb, wi)
def rp0 : RP := mkRP 3 4 0 0 false (fun _ => 0) (fun _ => 2) (fun _ => 0) (fun _ => 0) (fun _ => 0) (fun _ => 0)
def itm (T : Nat → Nat) (le p : Nat) (r : RP) : Option (Nat × RP) := match rdN T le (p + 1) with
  | none => none
  | some (k, q, a, b, c) =>
    if T p = 103 then (if k = 2 ∧ r.beg = false ∧ (1 ≤ a ∧ a ≤ 4) ∧ (1 ≤ b ∧ b ≤ 4) then some (q, mkRP a b r.nn r.ww r.beg r.kd r.sa r.nk r.nw r.nb r.wi) else none)
    else if T p = 104 then (if k = 3 ∧ a < r.R * r.C ∧ b ≤ 4 ∧ c ≤ 6 then some (q, mkRP r.R r.C r.nn r.ww true (up1 r.kd a b) (up1 r.sa a c) r.nk r.nw r.nb r.wi) else none)
    else if T p = 110 then (if k = 3 ∧ a ≤ 2 ∧ (1 ≤ b ∧ b ≤ 4) ∧ c < r.R * r.C ∧ r.nn < 5 then some (q, mkRP r.R r.C (r.nn + 1) r.ww true r.kd r.sa (up1 r.nk r.nn a) (up1 r.nw r.nn b) (up1 r.nb r.nn c) r.wi) else none)
    else if T p = 119 then (if k = 1 ∧ a ≤ 4 ∧ r.ww < 8 then some (q, mkRP r.R r.C r.nn (r.ww + 1) true r.kd r.sa r.nk r.nw r.nb (up1 r.wi r.ww a)) else none)
    else none
def prs (T : Nat → Nat) (le : Nat) : Nat → Nat → RP → Nat ⊕ RP
  | 0, _, r => Sum.inr r
  | f + 1, p, r => if p < le then (match itm T le p r with | none => Sum.inl p | some (q, r') => prs T le f q r') else Sum.inr r
def RPok (r : RP) : Prop := (1 ≤ r.R ∧ r.R ≤ 4) ∧ (1 ≤ r.C ∧ r.C ≤ 4) ∧ r.nn ≤ 5 ∧ r.ww ≤ 8 ∧ (∀ h, r.kd h ≤ 4) ∧ (∀ h, r.sa h ≤ 6) ∧ (∀ n, n < r.nn → r.nk n ≤ 2 ∧ 1 ≤ r.nw n ∧ r.nw n ≤ 4 ∧ r.nb n < r.R * r.C) ∧ (∀ i, i < r.ww → r.wi i ≤ 4) ∧ (r.beg = false → r.nn = 0)
theorem rp0_ok : RPok rp0 := ⟨by decide, by decide, by decide, by decide, fun _ => Nat.zero_le 4, fun _ => (by decide : 2 ≤ 6), fun n hn => absurd hn (Nat.not_lt_zero n), fun n hn => absurd hn (Nat.not_lt_zero n), fun _ => rfl⟩
theorem rdN_q {T : Nat → Nat} {le p k q a b c : Nat} (h : TT T le) (e : rdN T le p = some (k, q, a, b, c)) : 1 ≤ k ∧ k ≤ 3 ∧ a ≤ 99 ∧ b ≤ 99 ∧ c ≤ 99 ∧ p < q ∧ q ≤ le := by
  unfold rdN at e
  split at e
  · exact absurd e (by simp)
  · rename_i v q1 h1
    have := rdSt_q h h1
    injection e with e; injection e with e1 e; injection e with e2 e; injection e with e3 e; injection e with e4 e5
    omega
  · rename_i v q1 h1
    have g1 := rdSt_q h h1
    split at e
    · exact absurd e (by simp)
    · rename_i v2 q2 h2
      have := rdSt_q h h2
      injection e with e; injection e with e1 e; injection e with e2 e; injection e with e3 e; injection e with e4 e5
      omega
    · rename_i v2 q2 h2
      have g2 := rdSt_q h h2
      split at e
      · exact absurd e (by simp)
      · rename_i v3 q3 h3
        have := rdSt_q h h3
        injection e with e; injection e with e1 e; injection e with e2 e; injection e with e3 e; injection e with e4 e5
        omega
      · exact absurd e (by simp)
theorem up1_le {f : Nat → Nat} {i v m : Nat} (h : ∀ x, f x ≤ m) (hv : v ≤ m) : ∀ x, up1 f i v x ≤ m := fun x => by
  unfold up1; split
  · exact hv
  · exact h x
theorem itm_ok {T : Nat → Nat} {le p q : Nat} {r r' : RP} (ht : TT T le) (hr : RPok r) (e : itm T le p r = some (q, r')) : RPok r' ∧ p < q ∧ q ≤ le := by
  obtain ⟨r1, r2, r3, r4, r5, r6, r7, r8, r9⟩ := hr
  unfold itm at e
  split at e
  · exact absurd e (by simp)
  · rename_i k q1 a b c h1
    obtain ⟨k1, k2, k3, k4, k5, k6, k7⟩ := rdN_q ht h1
    split at e
    · split at e
      · rename_i hg
        injection e with e; injection e with e1 e2
        subst e2
        have h0 : r.nn = 0 := r9 hg.2.1
        refine ⟨⟨hg.2.2.1, hg.2.2.2, r3, r4, r5, r6, fun n hn => ?_, r8, r9⟩, by omega, by omega⟩
        have : n < r.nn := hn
        omega
      · exact absurd e (by simp)
    · split at e
      · split at e
        · rename_i hg
          injection e with e; injection e with e1 e2
          subst e2
          exact ⟨⟨r1, r2, r3, r4, up1_le r5 hg.2.2.1, up1_le r6 hg.2.2.2, r7, r8, fun z => absurd (show true = false from z) (by decide)⟩, by omega, by omega⟩
        · exact absurd e (by simp)
      · split at e
        · split at e
          · rename_i hg
            injection e with e; injection e with e1 e2
            subst e2
            refine ⟨⟨r1, r2, ?_, r4, r5, r6, fun n hn => ?_, r8, fun z => absurd (show true = false from z) (by decide)⟩, by omega, by omega⟩
            · show r.nn + 1 ≤ 5; omega
            · have hn' : n < r.nn + 1 := hn
              show up1 r.nk r.nn a n ≤ 2 ∧ 1 ≤ up1 r.nw r.nn b n ∧ up1 r.nw r.nn b n ≤ 4 ∧ up1 r.nb r.nn c n < r.R * r.C
              unfold up1
              by_cases e : n = r.nn
              · simp only [e, if_true]; omega
              · simp only [e, if_false]; exact r7 n (by omega)
          · exact absurd e (by simp)
        · split at e
          · split at e
            · rename_i hg
              injection e with e; injection e with e1 e2
              subst e2
              refine ⟨⟨r1, r2, r3, ?_, r5, r6, r7, fun n hn => ?_, fun z => absurd (show true = false from z) (by decide)⟩, by omega, by omega⟩
              · show r.ww + 1 ≤ 8; omega
              · have hn' : n < r.ww + 1 := hn
                show up1 r.wi r.ww a n ≤ 4
                unfold up1
                by_cases e : n = r.ww
                · simp only [e, if_true]; omega
                · simp only [e, if_false]; exact r8 n (by omega)
            · exact absurd e (by simp)
          · exact absurd e (by simp)
/-- the parish that is being read, in the system -/
def fcN (R C : Nat) : Nat := mkm (fun h => decide (h < R * C) && decide (h % C = 0)) 16
def lcN (R C : Nat) : Nat := mkm (fun h => decide (h < R * C) && decide (h % C + 1 = C)) 16
def NPr (P : Nat) (σ : St) (r : RP) : Prop := (σ P 6 = nI r.R ∧ σ P 7 = nI r.C ∧ σ P 8 = nI (fcN r.R r.C) ∧ σ P 9 = nI (lcN r.R r.C)) ∧ (σ P 10 = nI r.nn ∧ σ P 11 = nI r.ww ∧ σ P 12 = (if r.beg = true then 0 else 1)) ∧ (∀ h, h < 16 → σ (P + 1) h = nI (r.kd h) ∧ σ (P + 2) h = nI (r.sa h)) ∧ (∀ n, n < r.nn → σ (P + 3) n = nI (r.nk n) ∧ σ (P + 4) n = nI (r.nw n) ∧ σ (P + 5) n = nI (r.nb n)) ∧ ∀ i, i < 8 → σ (P + 6) i = nI (if i < r.ww then r.wi i else 0)
theorem fc_or : ∀ R, R < 4 → ∀ C, C < 4 → orf (fun i => 2 ^ (i * (C + 1))) (R + 1) = fcN (R + 1) (C + 1) ∧ fcN (R + 1) (C + 1) * 2 ^ C = lcN (R + 1) (C + 1) := by decide +kernel
/-- the parish that is being read, in the check -/
def MPr (τ : St) (r : RP) : Prop := (τ 0 19 = (if r.beg = true then 1 else 0) ∧ τ 0 20 = nI r.R ∧ τ 0 21 = nI r.C ∧ τ 0 24 = nI r.nn ∧ τ 0 26 = nI r.ww) ∧ (∀ h, h < 16 → τ 10 h = nI (r.kd h) ∧ τ 11 h = nI (r.sa h)) ∧ (∀ n, n < r.nn → τ 12 (3 * n) = nI (r.nk n) ∧ τ 12 (3 * n + 1) = nI (r.nw n) ∧ τ 12 (3 * n + 2) = nI (r.nb n)) ∧ ∀ i, i < r.ww → τ 13 i = nI (r.wi i)
theorem MPr.fr {τ τ' : St} {r : RP} (h : MPr τ r) (hf : frQ τ τ') : MPr τ' r := by
  unfold MPr
  rw [hf.2 19 (by decide), hf.2 20 (by decide), hf.2 21 (by decide), hf.2 24 (by decide), hf.2 26 (by decide), hf.1 10 (by decide) (by decide), hf.1 11 (by decide) (by decide), hf.1 12 (by decide) (by decide), hf.1 13 (by decide) (by decide)]
  exact h
def frR (τ τ' : St) : Prop := (∀ p, 1 ≤ p → p ≤ 8 → τ' p = τ p) ∧ ∀ j, keepM j = true → τ' 0 j = τ 0 j
theorem frQ.rr {τ τ' : St} (h : frQ τ τ') : sameM τ τ' := ⟨fun p h1 h2 => h.1 p (by omega) (by omega), fun j hj => h.2 j (fun e => by subst e; exact absurd hj (by decide))⟩
theorem M_isTold {τ : St} {i v a b : Nat} (hi : i < 3) (h : τ 9 i = nI v) (hv : v < 2 ^ 31) (ha : a < 2 ^ 31) (hb : b < 2 ^ 31) : f_X11_isTold__0 τ (nI i) (nI a) (nI b) = some (if a ≤ v ∧ v ≤ b then 1 else 0, τ) := by
  unfold f_X11_isTold__0
  rw [gd_nI hi (by decide), nI_clamp (by omega), h]
  by_cases c : a ≤ v
  · by_cases d : v ≤ b
    · rw [M_in (nI_nlt c hv) (nI_nlt d hb), bnd_ok, if_pos ⟨c, d⟩]; rfl
    · rw [M_in0 (Or.inr ⟨nI_nlt c hv, nI_lt (by omega) hv⟩), bnd_ok, if_neg (fun q => d q.2)]; rfl
  · rw [M_in0 (Or.inl (nI_lt (by omega) ha)), bnd_ok, if_neg (fun q => c q.1)]; rfl
theorem sameM.p9 {τ : St} {p : Nat} {i v : Int32} (h : 9 ≤ p) : sameM τ (ps τ p i v) := ⟨fun q h1 h2 => ps_ne (by omega), fun j _ => by rw [ps_ne (by omega)]⟩
theorem sameM.f0 {τ : St} {j : Nat} {v : Int32} (h : keepM j = false) : sameM τ (pf τ 0 j v) := ⟨fun q h1 h2 => pf_ne (by omega), fun x hx => pf_nk (fun e => by subst e; rw [h] at hx; exact absurd hx (by decide))⟩
theorem ite_i {c : Prop} [Decidable c] (h : c) : (if c then (1 : Int32) else 0) = 1 := if_pos h
theorem ite_o {c : Prop} [Decidable c] (h : ¬ c) : (if c then (1 : Int32) else 0) = 0 := if_neg h
/-- one item, by the check -/
theorem M_item {τ : St} {T : Nat → Nat} {le p : Nat} {r : RP} (h : TXM τ T le) (ht : TT T le) (hp : p < le) (h17 : τ 0 17 = nI p) (hr : RPok r) (hm : MPr τ r) : ∃ τ', sameM τ τ' ∧ ((itm T le p r = none ∧ f_X11_readItem__0 τ = some (0, τ')) ∨ ∃ q r', itm T le p r = some (q, r') ∧ f_X11_readItem__0 τ = some (1, τ') ∧ τ' 0 17 = nI q ∧ MPr τ' r') := by
  have hle := ht.1
  obtain ⟨r1, r2, r3, r4, r5, r6, r7, r8, r9⟩ := hr
  have hT := ht.2 p hp
  have hRC : r.R * r.C ≤ 16 := Nat.le_trans (Nat.mul_le_mul r1.2 r2.2) (by decide)
  have hRC1 : 1 ≤ r.R * r.C := Nat.mul_pos (by omega) (by omega)
  have hlp : lm T le p = nI (T p) := by unfold lm; rw [if_pos hp]
  have hf17 : frQ τ (pf τ 0 17 (nI (p + 1))) := ⟨fun p a b => pf_ne a, fun j hj => pf_nk hj⟩
  have hm3 := hm.fr hf17
  have h3 := h.fr hf17
  have z17 : (pf τ 0 17 (nI (p + 1))) 0 17 = nI (p + 1) := pf_same
  unfold f_X11_readItem__0
  rw [h17, M_letter h ht (by omega), bnd_ok, h17, nI_1, nm_ok, hlp]
  generalize hs3 : pf τ 0 17 (nI (p + 1)) = s3 at hm3 h3 z17 hf17
  have q103 : (nI (T p) = (103 : Int32)) = (T p = 103) := nI_eqB (b := 103) (by omega) (by decide)
  have q104 : (nI (T p) = (104 : Int32)) = (T p = 104) := nI_eqB (b := 104) (by omega) (by decide)
  have q110 : (nI (T p) = (110 : Int32)) = (T p = 110) := nI_eqB (b := 110) (by omega) (by decide)
  have q119 : (nI (T p) = (119 : Int32)) = (T p = 119) := nI_eqB (b := 119) (by omega) (by decide)
  have zg0 : ∀ s : St, bnd (some ((0 : Int32), s)) (fun r11 s12 => zg r11 (some (r11, s12))) = some (0, s) := fun _ => rfl
  have zg1 : ∀ s : St, bnd (some ((1 : Int32), s)) (fun r11 s12 => zg r11 (some (r11, s12))) = some (1, s) := fun _ => rfl
  by_cases c103 : T p = 103
  · rw [if_pos (by rw [q103]; exact c103)]
    unfold f_X11_readGridOf__0
    have h19 := hm3.1.1
    by_cases hbg : r.beg = true
    · rw [h19, if_pos hbg, if_neg n10, zg0]
      refine ⟨s3, hf17.rr, Or.inl ⟨?_, rfl⟩⟩
      unfold itm
      split
      · rfl
      · rw [if_pos c103, if_neg (fun z => by rw [hbg] at z; exact absurd z.2.1 (by decide))]
    · rw [h19, if_neg hbg, if_pos rfl]
      obtain ⟨s4, a1, a2⟩ := M_rd2 h3 ht (by omega) z17
      rcases a2 with ⟨b1, b2⟩ | ⟨q, a, b, c, b1, b2, b3, b4, b5⟩
      · rw [b2, bnd_ok, if_pos rfl, zg0]
        refine ⟨s4, hf17.rr.tr a1.rr, Or.inl ⟨?_, rfl⟩⟩
        unfold itm
        split
        · rfl
        · rename_i k q a b c hh
          rw [if_pos c103, if_neg]
          intro z
          obtain ⟨z1, -⟩ := z
          subst z1
          exact b1 ⟨q, a, b, c, hh⟩
      · obtain ⟨k1, k2, k3, k4, k5, k6, k7⟩ := rdN_q ht b1
        have t1 : f_X11_isTold__0 s4 0 1 4 = some (if 1 ≤ a ∧ a ≤ 4 then 1 else 0, s4) := M_isTold (i := 0) (a := 1) (b := 4) (by decide) b4 (by omega) (by decide) (by decide)
        have t2 : f_X11_isTold__0 s4 1 1 4 = some (if 1 ≤ b ∧ b ≤ 4 then 1 else 0, s4) := M_isTold (i := 1) (a := 1) (b := 4) (by decide) b5 (by omega) (by decide) (by decide)
        have hitm : itm T le p r = (if (2 : Nat) = 2 ∧ r.beg = false ∧ (1 ≤ a ∧ a ≤ 4) ∧ (1 ≤ b ∧ b ≤ 4) then some (q, mkRP a b r.nn r.ww r.beg r.kd r.sa r.nk r.nw r.nb r.wi) else none) := by
          unfold itm; rw [b1]; simp only []; rw [if_pos c103]
        rw [b2, bnd_ok, if_neg n10, t1, bnd_ok]
        by_cases ca : 1 ≤ a ∧ a ≤ 4
        · rw [ite_i ca, if_neg n10, t2, bnd_ok]
          by_cases cb : 1 ≤ b ∧ b ≤ 4
          · have e0 : Int32.toNatClampNeg (0 : Int32) = 0 := by decide
            have e1 : Int32.toNatClampNeg (1 : Int32) = 1 := by decide
            have g0 : ∀ k : Ot, gd (0 : Int32) 3 k = k := fun k => gd_nI (j := 0) (by decide) (by decide)
            have g1 : ∀ k : Ot, gd (1 : Int32) 3 k = k := fun k => gd_nI (j := 1) (by decide) (by decide)
            have b5' : (pf s4 0 20 (nI a)) 9 1 = nI b := by rw [pf_ne (by decide)]; exact b5
            rw [ite_i cb, if_neg n10, g0, e0, b4, nm_ok, g1, e1, b5', nm_ok, zg1]
            refine ⟨_, hf17.rr.tr (a1.rr.tr ((sameM.f0 rfl).tr (sameM.f0 rfl))), Or.inr ⟨q, _, by rw [hitm, if_pos ⟨rfl, by simpa using hbg, ca, cb⟩], rfl, ?_, ?_⟩⟩
            · rw [pf_nk (by decide), pf_nk (by decide)]; exact b3
            · obtain ⟨⟨m1, m2, m3, m4, m5⟩, m6, m7, m8⟩ := hm3.fr a1
              refine ⟨⟨?_, ?_, pf_same, ?_, ?_⟩, ?_, ?_, ?_⟩
              · rw [pf_nk (by decide), pf_nk (by decide)]; exact m1
              · rw [pf_nk (by decide), pf_same]; rfl
              · rw [pf_nk (by decide), pf_nk (by decide)]; exact m4
              · rw [pf_nk (by decide), pf_nk (by decide)]; exact m5
              · rw [pf_ne (by decide), pf_ne (by decide), pf_ne (by decide), pf_ne (by decide)]; exact m6
              · rw [pf_ne (by decide), pf_ne (by decide)]; exact m7
              · rw [pf_ne (by decide), pf_ne (by decide)]; exact m8
          · rw [ite_o cb, if_pos rfl, zg0]
            exact ⟨s4, hf17.rr.tr a1.rr, Or.inl ⟨by rw [hitm, if_neg (fun z => cb z.2.2.2)], rfl⟩⟩
        · rw [ite_o ca, if_pos rfl, zg0]
          exact ⟨s4, hf17.rr.tr a1.rr, Or.inl ⟨by rw [hitm, if_neg (fun z => ca z.2.2.1)], rfl⟩⟩
  · rw [if_neg (fun z => c103 (by rw [q103] at z; exact z)), nm_ok]
    have hf19 : sameM s3 (pf s3 0 19 1) := sameM.f0 rfl
    have hm4 : MPr (pf s3 0 19 1) (mkRP r.R r.C r.nn r.ww true r.kd r.sa r.nk r.nw r.nb r.wi) := by
      obtain ⟨⟨m1, m2, m3, m4, m5⟩, m6, m7, m8⟩ := hm3
      refine ⟨⟨pf_same, ?_, ?_, ?_, ?_⟩, ?_, ?_, ?_⟩
      · rw [pf_nk (by decide)]; exact m2
      · rw [pf_nk (by decide)]; exact m3
      · rw [pf_nk (by decide)]; exact m4
      · rw [pf_nk (by decide)]; exact m5
      · rw [pf_ne (by decide), pf_ne (by decide)]; exact m6
      · rw [pf_ne (by decide)]; exact m7
      · rw [pf_ne (by decide)]; exact m8
    have h4 : TXM (pf s3 0 19 1) T le := h3.eq (pf_nk (by decide)) (pf_ne (by decide))
    have z4 : (pf s3 0 19 1) 0 17 = nI (p + 1) := by rw [pf_nk (by decide)]; exact z17
    have fr4 := hf17.rr.tr hf19
    generalize pf s3 0 19 1 = s4 at hm4 h4 z4 hf19 fr4
    have e0 : Int32.toNatClampNeg (0 : Int32) = 0 := by decide
    have e1 : Int32.toNatClampNeg (1 : Int32) = 1 := by decide
    have e2 : Int32.toNatClampNeg (2 : Int32) = 2 := by decide
    have g0 : ∀ k : Ot, gd (0 : Int32) 3 k = k := fun k => gd_nI (j := 0) (by decide) (by decide)
    have g1 : ∀ k : Ot, gd (1 : Int32) 3 k = k := fun k => gd_nI (j := 1) (by decide) (by decide)
    have g2 : ∀ k : Ot, gd (2 : Int32) 3 k = k := fun k => gd_nI (j := 2) (by decide) (by decide)
    have hlt : ∀ s : St, s 0 20 = nI r.R → s 0 21 = nI r.C → f_X11_lastTold__0 s = some (nI (r.R * r.C - 1), s) := fun s x y => by
      unfold f_X11_lastTold__0
      rw [x, y, pk_mul, show nI (r.R * r.C) - 1 = nI (r.R * r.C - 1) from pk_sub (b := 1) hRC1]
    by_cases c104 : T p = 104
    · rw [if_pos (by rw [q104]; exact c104)]
      unfold f_X11_readHouseOf__0
      obtain ⟨s5, a1, a2⟩ := M_rd3 h4 ht (by omega) z4
      rcases a2 with ⟨b1, b2⟩ | ⟨q, a, b, c, b1, b2, b3, b4, b5, b6⟩
      · rw [b2, bnd_ok, if_pos rfl, zg0]
        refine ⟨s5, fr4.tr a1.rr, Or.inl ⟨?_, rfl⟩⟩
        unfold itm
        split
        · rfl
        · rename_i k q a b c hh
          rw [if_neg c103, if_pos c104, if_neg]
          intro z
          obtain ⟨z1, -⟩ := z
          subst z1
          exact b1 ⟨q, a, b, c, hh⟩
      · obtain ⟨k1, k2, k3, k4, k5, k6, k7⟩ := rdN_q ht b1
        have hm5 := hm4.fr a1
        have t1 : f_X11_isTold__0 s5 0 0 (nI (r.R * r.C - 1)) = some (if 0 ≤ a ∧ a ≤ r.R * r.C - 1 then 1 else 0, s5) := M_isTold (i := 0) (a := 0) (by decide) b4 (by omega) (by decide) (by omega)
        have t2 : f_X11_isTold__0 s5 1 0 4 = some (if 0 ≤ b ∧ b ≤ 4 then 1 else 0, s5) := M_isTold (i := 1) (a := 0) (b := 4) (by decide) b5 (by omega) (by decide) (by decide)
        have t3 : f_X11_isTold__0 s5 2 0 6 = some (if 0 ≤ c ∧ c ≤ 6 then 1 else 0, s5) := M_isTold (i := 2) (a := 0) (b := 6) (by decide) b6 (by omega) (by decide) (by decide)
        have hitm : itm T le p r = (if (3 : Nat) = 3 ∧ a < r.R * r.C ∧ b ≤ 4 ∧ c ≤ 6 then some (q, mkRP r.R r.C r.nn r.ww true (up1 r.kd a b) (up1 r.sa a c) r.nk r.nw r.nb r.wi) else none) := by
          unfold itm; rw [b1]; simp only []; rw [if_neg c103, if_pos c104]
        rw [b2, bnd_ok, if_neg n10, hlt s5 hm5.1.2.1 hm5.1.2.2.1, bnd_ok, t1, bnd_ok]
        by_cases ca : a < r.R * r.C
        · rw [ite_i (show 0 ≤ a ∧ a ≤ r.R * r.C - 1 by omega), if_neg n10, t2, bnd_ok]
          by_cases cb : b ≤ 4
          · rw [ite_i (show 0 ≤ b ∧ b ≤ 4 by omega), if_neg n10, t3, bnd_ok]
            by_cases cc : c ≤ 6
            · rw [ite_i (show 0 ≤ c ∧ c ≤ 6 by omega), if_neg n10, g0, g1, g2, e0, e1, e2, b4, b5, b6]
              unfold f_X11_tellsHouse__0
              rw [gd_nI (show a < 16 by omega) (by decide), nm_ok, gd_nI (show a < 16 by omega) (by decide), nm_ok, bnd_ok, zg1]
              refine ⟨_, fr4.tr (a1.rr.tr ((sameM.p9 (by decide)).tr (sameM.p9 (by decide)))), Or.inr ⟨q, _, by rw [hitm, if_pos ⟨rfl, ca, cb, cc⟩], rfl, ?_, ?_⟩⟩
              · rw [ps_ne (by decide), ps_ne (by decide)]; exact b3
              · obtain ⟨m1, m6, m7, m8⟩ := hm5
                refine ⟨?_, fun x hx => ⟨?_, ?_⟩, ?_, ?_⟩
                · rw [ps_ne (by decide), ps_ne (by decide)]; exact m1
                · show ps (ps s5 10 (nI a) (nI b)) 11 (nI a) (nI c) 10 x = nI (up1 r.kd a b x)
                  rw [ps_ne (by decide)]
                  unfold up1
                  by_cases e : x = a
                  · subst e; rw [ps_same (by omega), if_pos rfl]
                  · rw [ps_nk (by omega) e, if_neg e]; exact (m6 x hx).1
                · show ps (ps s5 10 (nI a) (nI b)) 11 (nI a) (nI c) 11 x = nI (up1 r.sa a c x)
                  unfold up1
                  by_cases e : x = a
                  · subst e; rw [ps_same (by omega), if_pos rfl]
                  · rw [ps_nk (by omega) e, if_neg e, ps_ne (by decide)]; exact (m6 x hx).2
                · rw [ps_ne (by decide), ps_ne (by decide)]; exact m7
                · rw [ps_ne (by decide), ps_ne (by decide)]; exact m8
            · rw [ite_o (show ¬ (0 ≤ c ∧ c ≤ 6) by omega), if_pos rfl, zg0]
              exact ⟨s5, fr4.tr a1.rr, Or.inl ⟨by rw [hitm, if_neg (fun z => cc z.2.2.2)], rfl⟩⟩
          · rw [ite_o (show ¬ (0 ≤ b ∧ b ≤ 4) by omega), if_pos rfl, zg0]
            exact ⟨s5, fr4.tr a1.rr, Or.inl ⟨by rw [hitm, if_neg (fun z => cb z.2.2.1)], rfl⟩⟩
        · rw [ite_o (show ¬ (0 ≤ a ∧ a ≤ r.R * r.C - 1) by omega), if_pos rfl, zg0]
          exact ⟨s5, fr4.tr a1.rr, Or.inl ⟨by rw [hitm, if_neg (fun z => ca z.2.1)], rfl⟩⟩
    rw [if_neg (fun z => c104 (by rw [q104] at z; exact z))]
    by_cases c110 : T p = 110
    · rw [if_pos (by rw [q110]; exact c110)]
      unfold f_X11_readNewsOf__0
      have hn24 : s4 0 24 = nI r.nn := hm4.1.2.2.2.1
      have qn : (nI r.nn = (5 : Int32)) = (r.nn = 5) := nI_eqB (b := 5) (by omega) (by decide)
      rw [hn24]
      by_cases c5 : r.nn = 5
      · rw [if_pos (by rw [qn]; exact c5), zg0]
        refine ⟨s4, fr4, Or.inl ⟨?_, rfl⟩⟩
        unfold itm
        split
        · rfl
        · rw [if_neg c103, if_neg c104, if_pos c110, if_neg (fun z => by omega)]
      rw [if_neg (fun z => c5 (by rw [qn] at z; exact z))]
      obtain ⟨s5, a1, a2⟩ := M_rd3 h4 ht (by omega) z4
      rcases a2 with ⟨b1, b2⟩ | ⟨q, a, b, c, b1, b2, b3, b4, b5, b6⟩
      · rw [b2, bnd_ok, if_pos rfl, zg0]
        refine ⟨s5, fr4.tr a1.rr, Or.inl ⟨?_, rfl⟩⟩
        unfold itm
        split
        · rfl
        · rename_i k q a b c hh
          rw [if_neg c103, if_neg c104, if_pos c110, if_neg]
          intro z
          obtain ⟨z1, -⟩ := z
          subst z1
          exact b1 ⟨q, a, b, c, hh⟩
      · obtain ⟨k1, k2, k3, k4, k5, k6, k7⟩ := rdN_q ht b1
        have hm5 := hm4.fr a1
        have t1 : f_X11_isTold__0 s5 0 0 2 = some (if 0 ≤ a ∧ a ≤ 2 then 1 else 0, s5) := M_isTold (i := 0) (a := 0) (b := 2) (by decide) b4 (by omega) (by decide) (by decide)
        have t2 : f_X11_isTold__0 s5 1 1 4 = some (if 1 ≤ b ∧ b ≤ 4 then 1 else 0, s5) := M_isTold (i := 1) (a := 1) (b := 4) (by decide) b5 (by omega) (by decide) (by decide)
        have t3 : f_X11_isTold__0 s5 2 0 (nI (r.R * r.C - 1)) = some (if 0 ≤ c ∧ c ≤ r.R * r.C - 1 then 1 else 0, s5) := M_isTold (i := 2) (a := 0) (by decide) b6 (by omega) (by decide) (by omega)
        have hitm : itm T le p r = (if (3 : Nat) = 3 ∧ a ≤ 2 ∧ (1 ≤ b ∧ b ≤ 4) ∧ c < r.R * r.C ∧ r.nn < 5 then some (q, mkRP r.R r.C (r.nn + 1) r.ww true r.kd r.sa (up1 r.nk r.nn a) (up1 r.nw r.nn b) (up1 r.nb r.nn c) r.wi) else none) := by
          unfold itm; rw [b1]; simp only []; rw [if_neg c103, if_neg c104, if_pos c110]
        rw [b2, bnd_ok, if_neg n10, t1, bnd_ok]
        by_cases ca : a ≤ 2
        · rw [ite_i (show 0 ≤ a ∧ a ≤ 2 by omega), if_neg n10, t2, bnd_ok]
          by_cases cb : 1 ≤ b ∧ b ≤ 4
          · rw [ite_i cb, if_neg n10, hlt s5 hm5.1.2.1 hm5.1.2.2.1, bnd_ok, t3, bnd_ok]
            by_cases cc : c < r.R * r.C
            · have hn5 : s5 0 24 = nI r.nn := hm5.1.2.2.2.1
              have d : (15 : Nat) < 2 ^ 31 := by decide
              have x0 : (3 : Int32) * nI r.nn = nI (3 * r.nn) := pk_mul 3 _
              have x1 : nI (3 * r.nn) + 1 = nI (3 * r.nn + 1) := nI_add _ 1
              have x2 : nI (3 * r.nn) + 2 = nI (3 * r.nn + 2) := nI_add _ 2
              have w1 : (ps s5 12 (nI (3 * r.nn)) (nI a)) 0 24 = nI r.nn := by rw [ps_ne (by decide)]; exact hn5
              have w2 : (ps (ps s5 12 (nI (3 * r.nn)) (nI a)) 12 (nI (3 * r.nn + 1)) (nI b)) 0 24 = nI r.nn := by rw [ps_ne (by decide)]; exact w1
              have w3 : (ps (ps (ps s5 12 (nI (3 * r.nn)) (nI a)) 12 (nI (3 * r.nn + 1)) (nI b)) 12 (nI (3 * r.nn + 2)) (nI c)) 0 24 = nI r.nn := by rw [ps_ne (by decide)]; exact w2
              rw [ite_i (show 0 ≤ c ∧ c ≤ r.R * r.C - 1 by omega), if_neg n10, g0, g1, g2, e0, e1, e2, b4, b5, b6]
              unfold f_X11_tellsNews__0
              rw [hn5, x0, gd_nI (show 3 * r.nn < 15 by omega) d, nm_ok, w1, x0, x1, gd_nI (show 3 * r.nn + 1 < 15 by omega) d, nm_ok, w2, x0, x2, gd_nI (show 3 * r.nn + 2 < 15 by omega) d, nm_ok, w3, nI_1, nm_ok, bnd_ok, zg1]
              refine ⟨_, fr4.tr (a1.rr.tr ((sameM.p9 (by decide)).tr ((sameM.p9 (by decide)).tr ((sameM.p9 (by decide)).tr (sameM.f0 rfl))))), Or.inr ⟨q, _, by rw [hitm, if_pos ⟨rfl, ca, cb, cc, by omega⟩], rfl, ?_, ?_⟩⟩
              · rw [pf_nk (by decide), ps_ne (by decide), ps_ne (by decide), ps_ne (by decide)]; exact b3
              · obtain ⟨⟨m1, m2, m3, m4, m5⟩, m6, m7, m8⟩ := hm5
                refine ⟨⟨?_, ?_, ?_, pf_same, ?_⟩, ?_, fun x hx => ?_, ?_⟩
                · rw [pf_nk (by decide), ps_ne (by decide), ps_ne (by decide), ps_ne (by decide)]; exact m1
                · rw [pf_nk (by decide), ps_ne (by decide), ps_ne (by decide), ps_ne (by decide)]; exact m2
                · rw [pf_nk (by decide), ps_ne (by decide), ps_ne (by decide), ps_ne (by decide)]; exact m3
                · rw [pf_nk (by decide), ps_ne (by decide), ps_ne (by decide), ps_ne (by decide)]; exact m5
                · rw [pf_ne (by decide), ps_ne (by decide), ps_ne (by decide), ps_ne (by decide), pf_ne (by decide), ps_ne (by decide), ps_ne (by decide), ps_ne (by decide)]; exact m6
                · have hx' : x < r.nn + 1 := hx
                  show pf _ 0 24 _ 12 (3 * x) = nI (up1 r.nk r.nn a x) ∧ pf _ 0 24 _ 12 (3 * x + 1) = nI (up1 r.nw r.nn b x) ∧ pf _ 0 24 _ 12 (3 * x + 2) = nI (up1 r.nb r.nn c x)
                  rw [pf_ne (by decide)]
                  unfold up1
                  by_cases e : x = r.nn
                  · subst e
                    rw [if_pos rfl, if_pos rfl, if_pos rfl]
                    refine ⟨?_, ?_, ?_⟩
                    · rw [ps_nk (by omega) (by omega), ps_nk (by omega) (by omega), ps_same (by omega)]
                    · rw [ps_nk (by omega) (by omega), ps_same (by omega)]
                    · rw [ps_same (by omega)]
                  · rw [if_neg e, if_neg e, if_neg e]
                    have := m7 x (show x < r.nn by omega)
                    refine ⟨?_, ?_, ?_⟩
                    · rw [ps_nk (by omega) (by omega), ps_nk (by omega) (by omega), ps_nk (by omega) (by omega)]; exact this.1
                    · rw [ps_nk (by omega) (by omega), ps_nk (by omega) (by omega), ps_nk (by omega) (by omega)]; exact this.2.1
                    · rw [ps_nk (by omega) (by omega), ps_nk (by omega) (by omega), ps_nk (by omega) (by omega)]; exact this.2.2
                · rw [pf_ne (by decide), ps_ne (by decide), ps_ne (by decide), ps_ne (by decide)]; exact m8
            · rw [ite_o (show ¬ (0 ≤ c ∧ c ≤ r.R * r.C - 1) by omega), if_pos rfl, zg0]
              exact ⟨s5, fr4.tr a1.rr, Or.inl ⟨by rw [hitm, if_neg (fun z => cc z.2.2.2.1)], rfl⟩⟩
          · rw [ite_o cb, if_pos rfl, zg0]
            exact ⟨s5, fr4.tr a1.rr, Or.inl ⟨by rw [hitm, if_neg (fun z => cb z.2.2.1)], rfl⟩⟩
        · rw [ite_o (show ¬ (0 ≤ a ∧ a ≤ 2) by omega), if_pos rfl, zg0]
          exact ⟨s5, fr4.tr a1.rr, Or.inl ⟨by rw [hitm, if_neg (fun z => ca z.2.1)], rfl⟩⟩
    rw [if_neg (fun z => c110 (by rw [q110] at z; exact z))]
    by_cases c119 : T p = 119
    · rw [if_pos (by rw [q119]; exact c119)]
      unfold f_X11_readWindOf__0
      have hw26 : s4 0 26 = nI r.ww := hm4.1.2.2.2.2
      have qn : (nI r.ww = (8 : Int32)) = (r.ww = 8) := nI_eqB (b := 8) (by omega) (by decide)
      rw [hw26]
      by_cases c8 : r.ww = 8
      · rw [if_pos (by rw [qn]; exact c8), zg0]
        refine ⟨s4, fr4, Or.inl ⟨?_, rfl⟩⟩
        unfold itm
        split
        · rfl
        · rw [if_neg c103, if_neg c104, if_neg c110, if_pos c119, if_neg (fun z => by omega)]
      rw [if_neg (fun z => c8 (by rw [qn] at z; exact z))]
      obtain ⟨s5, a1, a2⟩ := M_rd1 h4 ht (by omega) z4
      rcases a2 with ⟨b1, b2⟩ | ⟨q, a, b, c, b1, b2, b3, b4⟩
      · rw [b2, bnd_ok, if_pos rfl, zg0]
        refine ⟨s5, fr4.tr a1.rr, Or.inl ⟨?_, rfl⟩⟩
        unfold itm
        split
        · rfl
        · rename_i k q a b c hh
          rw [if_neg c103, if_neg c104, if_neg c110, if_pos c119, if_neg]
          intro z
          obtain ⟨z1, -⟩ := z
          subst z1
          exact b1 ⟨q, a, b, c, hh⟩
      · obtain ⟨k1, k2, k3, k4, k5, k6, k7⟩ := rdN_q ht b1
        have hm5 := hm4.fr a1
        have t1 : f_X11_isTold__0 s5 0 0 4 = some (if 0 ≤ a ∧ a ≤ 4 then 1 else 0, s5) := M_isTold (i := 0) (a := 0) (b := 4) (by decide) b4 (by omega) (by decide) (by decide)
        have hitm : itm T le p r = (if (1 : Nat) = 1 ∧ a ≤ 4 ∧ r.ww < 8 then some (q, mkRP r.R r.C r.nn (r.ww + 1) true r.kd r.sa r.nk r.nw r.nb (up1 r.wi r.ww a)) else none) := by
          unfold itm; rw [b1]; simp only []; rw [if_neg c103, if_neg c104, if_neg c110, if_pos c119]
        have h526 : s5 0 26 = nI r.ww := hm5.1.2.2.2.2
        rw [b2, bnd_ok, if_neg n10, t1, bnd_ok]
        by_cases ca : a ≤ 4
        · have w1 : (ps s5 13 (nI r.ww) (nI a)) 0 26 = nI r.ww := by rw [ps_ne (by decide)]; exact h526
          rw [ite_i (show 0 ≤ a ∧ a ≤ 4 by omega), if_neg n10, g0, e0, h526, gd_nI (show r.ww < 8 by omega) (by decide), b4, nm_ok, w1, nI_1, nm_ok, zg1]
          refine ⟨_, fr4.tr (a1.rr.tr ((sameM.p9 (by decide)).tr (sameM.f0 rfl))), Or.inr ⟨q, _, by rw [hitm, if_pos ⟨rfl, ca, by omega⟩], rfl, ?_, ?_⟩⟩
          · rw [pf_nk (by decide), ps_ne (by decide)]; exact b3
          · obtain ⟨⟨m1, m2, m3, m4, m5⟩, m6, m7, m8⟩ := hm5
            refine ⟨⟨?_, ?_, ?_, ?_, pf_same⟩, ?_, ?_, fun x hx => ?_⟩
            · rw [pf_nk (by decide), ps_ne (by decide)]; exact m1
            · rw [pf_nk (by decide), ps_ne (by decide)]; exact m2
            · rw [pf_nk (by decide), ps_ne (by decide)]; exact m3
            · rw [pf_nk (by decide), ps_ne (by decide)]; exact m4
            · rw [pf_ne (by decide), ps_ne (by decide), pf_ne (by decide), ps_ne (by decide)]; exact m6
            · rw [pf_ne (by decide), ps_ne (by decide)]; exact m7
            · have hx' : x < r.ww + 1 := hx
              show pf _ 0 26 _ 13 x = nI (up1 r.wi r.ww a x)
              rw [pf_ne (by decide)]
              unfold up1
              by_cases e : x = r.ww
              · subst e; rw [ps_same (by omega), if_pos rfl]
              · rw [ps_nk (by omega) e, if_neg e]; exact m8 x (show x < r.ww by omega)
        · rw [ite_o (show ¬ (0 ≤ a ∧ a ≤ 4) by omega), if_pos rfl, zg0]
          exact ⟨s5, fr4.tr a1.rr, Or.inl ⟨by rw [hitm, if_neg (fun z => ca z.2.1)], rfl⟩⟩
    rw [if_neg (fun z => c119 (by rw [q119] at z; exact z))]
    refine ⟨s4, fr4, Or.inl ⟨?_, rfl⟩⟩
    unfold itm
    split
    · rfl
    · rw [if_neg c103, if_neg c104, if_neg c110, if_neg c119]
