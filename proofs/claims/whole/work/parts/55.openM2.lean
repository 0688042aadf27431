theorem M_findWay {τ : St} {μ : Mu} (hm : RM τ μ) (hy : HY μ) {n m kw nw many : Nat} (hn : n < mn μ) (hm12 : m ≤ 12) (hk : kw < 65536) (hnw : nw < 65536) (hmany : many ≤ 2) : ∃ τ', f_X11_findWay__0 τ (nI many) (nI n) (nI m) (nI kw) (nI nw) = some (if (wO μ n m kw nw many).isSome = true then 1 else 0, τ') ∧ sameM τ τ' ∧ ∀ a, wO μ n m kw nw many = some a → ∃ b, wI μ n m kw nw many a = some b ∧ τ' 0 30 = ov (wA many a) ∧ τ' 0 31 = ov (wB many b) := by
  have hH := mH_pos hy.1
  have ht2 : τ 0 2 = nI (mH μ) := hm.1.2.2.1
  have t10 : ¬ (10 : Int32) = 0 := by decide
  have q0 : (nI many = (0 : Int32)) = (many = 0) := nI_eqB (b := 0) (by omega) (by decide)
  have q2 : (nI many = (2 : Int32)) = (many = 2) := nI_eqB (b := 2) (by omega) (by decide)
  have l2 : (nI many < (2 : Int32)) = (many < 2) := propext (nI_ltI (b := 2) (by omega) (by decide))
  have g2 : ((2 : Int32) ≤ nI many) = (2 ≤ many) := propext (nI_leI (a := 2) (by decide) (by omega))
  have e10 : ∀ x : Nat, (10 : Int32) * nI x = nI (10 * x) := fun x => pk_mul 10 x
  have e0 : ∀ F : St → Int32 → Ot, jq1 F (fun k6 => (if nI many = (0 : Int32) then k6 τ (1 : Int32) else k6 τ (((10 : Int32) * (τ 0 2))))) = F τ (nI (wE μ many)) := by
    intro F
    unfold wE
    simp only [jq1, q0, ht2, e10]
    split <;> rfl
  have hwE : wE μ many ≤ 160 := by unfold wE; split <;> omega
  unfold f_X11_findWay__0
  rw [e0]
  refine lq1_run (P := fun o => ∃ τ', o = some (if (wO μ n m kw nw many).isSome = true then 1 else 0, τ') ∧ sameM τ τ' ∧ ∀ a, wO μ n m kw nw many = some a → ∃ b, wI μ n m kw nw many a = some b ∧ τ' 0 30 = ov (wA many a) ∧ τ' 0 31 = ov (wB many b)) (fun i t y => y = nI i ∧ sameM τ t ∧ wO μ n m kw nw many = ff (fun a => (decide (many = 0) || decide (a % 10 ≤ 6)) && (wI μ n m kw nw many a).isSome) (wE μ many - i) i) (wE μ many) ?_ 100000 0 τ 0 (Nat.zero_le _) (by omega) ⟨rfl, sameM.rf, rfl⟩
  rintro i t y hi ⟨rfl, hft, hO⟩ k
  rcases Nat.lt_or_ge i (wE μ many) with hl | hl
  · have hi160 : i < 160 := by omega
    have hrem : nI i - nI i / (10 : Int32) * (10 : Int32) = nI (i % 10) := pk_rem (d := 10) (by omega) (by decide) (by decide)
    have hdiv : nI i / (10 : Int32) = nI (i / 10) := pk_div (d := 10) (by omega) (by decide) (by decide)
    have hff : wO μ n m kw nw many = if ((decide (many = 0) || decide (i % 10 ≤ 6)) && (wI μ n m kw nw many i).isSome) = true then some i else ff (fun a => (decide (many = 0) || decide (a % 10 ≤ 6)) && (wI μ n m kw nw many a).isSome) (wE μ many - (i + 1)) (i + 1) := by
      rw [hO, show wE μ many - i = (wE μ many - (i + 1)) + 1 by omega]; rfl
    have hc1 : ∀ K S : Ot, (if nI many = (0 : Int32) then K else nz (10 : Int32) (if (6 : Int32) < (nI i - nI i / (10 : Int32) * (10 : Int32)) then S else K)) = if (decide (many = 0) || decide (i % 10 ≤ 6)) = true then K else S := fun K S => by
      rw [nz_ok t10, hrem]
      simp only [q0]
      by_cases c : many = 0
      · simp [c]
      · by_cases d : i % 10 ≤ 6
        · have : ¬ (6 : Int32) < nI (i % 10) := nI_nlt (a := 6) d (by decide)
          simp [c, d, this]
        · have : (6 : Int32) < nI (i % 10) := nI_lt (a := 6) (by omega) (by omega)
          simp [c, d, this]
    have skip : wO μ n m kw nw many = ff (fun a => (decide (many = 0) || decide (a % 10 ≤ 6)) && (wI μ n m kw nw many a).isSome) (wE μ many - (i + 1)) (i + 1) → ∀ u, sameM τ u → ((i < wE μ many ∧ ∃ (t' : St) (y1 : Int32), (y1 = nI (i + 1) ∧ sameM τ t' ∧ wO μ n m kw nw many = ff (fun a => (decide (many = 0) || decide (a % 10 ≤ 6)) && (wI μ n m kw nw many a).isSome) (wE μ many - (i + 1)) (i + 1)) ∧ nm (nI i + (1 : Int32)) (fun x14 => k u x14) = k t' y1) ∨ (∃ τ', nm (nI i + (1 : Int32)) (fun x14 => k u x14) = some (if (wO μ n m kw nw many).isSome = true then 1 else 0, τ') ∧ sameM τ τ' ∧ ∀ a, wO μ n m kw nw many = some a → ∃ b, wI μ n m kw nw many a = some b ∧ τ' 0 30 = ov (wA many a) ∧ τ' 0 31 = ov (wB many b))) := fun q u hu => by
      rw [nm_ok, nI_1]
      exact Or.inl ⟨hl, u, _, ⟨rfl, hu, q⟩, rfl⟩
    rw [if_neg (nI_ge hl (by omega))]
    rw [show ∀ (A : St → Ot) (B : (St → Ot) → Ot), jq0 A B = B A from fun _ _ => rfl]
    rw [show ∀ (A : St → Ot) (B : (St → Ot) → Ot), jq0 A B = B A from fun _ _ => rfl]
    rw [hc1]
    by_cases c : (decide (many = 0) || decide (i % 10 ≤ 6)) = true
    · rw [if_pos c]
      have eA : ∀ F : St → Int32 → Ot, jq1 F (fun k17 => (if nI many = (0 : Int32) then k17 t (-1 : Int32) else k17 t (nI i))) = F t (ov (wA many i)) := by
        intro F
        unfold wA
        simp only [jq1, q0]
        split <;> rfl
      have okA : okO μ (wA many i) := fun a ha => by
        unfold wA at ha
        by_cases e : many = 0
        · rw [if_pos e] at ha; exact absurd ha (by simp)
        · rw [if_neg e] at ha; injection ha with ha; subst ha
          have : i < 10 * mH μ := by unfold wE at hl; rw [if_neg e] at hl; exact hl
          simp [e] at c
          omega
      dsimp only
      rw [eA]
      have hs2 : (pf t 0 30 (ov (wA many i))) 0 2 = nI (mH μ) := by rw [pf_nk (by decide), hft.2 2 rfl]; exact ht2
      have hsF : sameM τ (pf t 0 30 (ov (wA many i))) := hft.tr ⟨fun p h1 h2 => pf_ne (by omega), fun j hj => pf_nk (fun e => by subst e; exact absurd hj (by decide))⟩
      have hwF : wF μ many i ≤ 10 * mH μ := by
        unfold wF
        split
        · rename_i e
          have : i < 10 * mH μ := by unfold wE at hl; rw [if_neg (by omega)] at hl; exact hl
          omega
        · omega
      have eF : ∀ F : St → Int32 → Ot, jq1 F (fun k20 => nm (pf t 0 30 (ov (wA many i))) (fun s37 => (if nI many = (2 : Int32) then nz ((10 : Int32)) (k20 s37 (((10 : Int32) * ((nI i / (10 : Int32)) + (1 : Int32))))) else k20 s37 ((((10 : Int32) * (s37 0 2)) - (1 : Int32)))))) = F (pf t 0 30 (ov (wA many i))) (nI (wF μ many i)) := by
        intro F
        unfold wF
        have hm1 : nI (10 * mH μ) - 1 = nI (10 * mH μ - 1) := pk_sub (b := 1) (by omega)
        simp only [jq1, nm_ok, q2, hs2, hdiv, nI_1, e10, nz_ok t10, hm1]
        split <;> rfl
      rw [eF]
      refine lq1_run (P := fun o => (i < wE μ many ∧ ∃ (t' : St) (y1 : Int32), (y1 = nI (i + 1) ∧ sameM τ t' ∧ wO μ n m kw nw many = ff (fun a => (decide (many = 0) || decide (a % 10 ≤ 6)) && (wI μ n m kw nw many a).isSome) (wE μ many - (i + 1)) (i + 1)) ∧ o = k t' y1) ∨ (∃ τ', o = some (if (wO μ n m kw nw many).isSome = true then 1 else 0, τ') ∧ sameM τ τ' ∧ ∀ a, wO μ n m kw nw many = some a → ∃ b, wI μ n m kw nw many a = some b ∧ τ' 0 30 = ov (wA many a) ∧ τ' 0 31 = ov (wB many b))) (fun j t y => y = nI (wF μ many i + j) ∧ sameM τ t ∧ t 0 30 = ov (wA many i) ∧ wI μ n m kw nw many i = ff (fun b => (decide (many < 2) || decide (b % 10 ≤ 6)) && PS μ n m kw nw (ups (ups (SH μ) (wA many i)) (wB many b))) (10 * mH μ - wF μ many i - j) (wF μ many i + j)) (10 * mH μ - wF μ many i) ?_ 100000 0 _ _ (Nat.zero_le _) (by omega) ⟨rfl, hsF, pf_same, rfl⟩
      rintro j t y hj ⟨rfl, hft, h30, hI⟩ k23
      have ht2 : t 0 2 = nI (mH μ) := (hft.2 2 rfl).trans ht2
      have hmt := hm.same hft
      rw [ht2, e10]
      rcases Nat.lt_or_ge j (10 * mH μ - wF μ many i) with hjl | hjl
      · have hb160 : wF μ many i + j < 160 := by omega
        have hbrem : nI (wF μ many i + j) - nI (wF μ many i + j) / (10 : Int32) * (10 : Int32) = nI ((wF μ many i + j) % 10) := pk_rem (d := 10) (by omega) (by decide) (by decide)
        have hffI : wI μ n m kw nw many i = if ((decide (many < 2) || decide ((wF μ many i + j) % 10 ≤ 6)) && PS μ n m kw nw (ups (ups (SH μ) (wA many i)) (wB many (wF μ many i + j)))) = true then some (wF μ many i + j) else ff (fun b => (decide (many < 2) || decide (b % 10 ≤ 6)) && PS μ n m kw nw (ups (ups (SH μ) (wA many i)) (wB many b))) (10 * mH μ - wF μ many i - (j + 1)) (wF μ many i + (j + 1)) := by
          rw [hI, show 10 * mH μ - wF μ many i - j = (10 * mH μ - wF μ many i - (j + 1)) + 1 by omega]; rfl
        have hc2 : ∀ K S : Ot, (if nI many < (2 : Int32) then K else nz (10 : Int32) (if (6 : Int32) < (nI (wF μ many i + j) - nI (wF μ many i + j) / (10 : Int32) * (10 : Int32)) then S else K)) = if (decide (many < 2) || decide ((wF μ many i + j) % 10 ≤ 6)) = true then K else S := fun K S => by
          rw [nz_ok t10, hbrem]
          simp only [l2]
          by_cases c : many < 2
          · simp [c]
          · by_cases d : (wF μ many i + j) % 10 ≤ 6
            · have : ¬ (6 : Int32) < nI ((wF μ many i + j) % 10) := nI_nlt (a := 6) d (by decide)
              simp [c, d, this]
            · have : (6 : Int32) < nI ((wF μ many i + j) % 10) := nI_lt (a := 6) (by omega) (by omega)
              simp [c, d, this]
        have eB : ∀ F : St → Int32 → Ot, jq1 F (fun k31 => (if (2 : Int32) ≤ nI many then k31 t (nI (wF μ many i + j)) else k31 t (-1 : Int32))) = F t (ov (wB many (wF μ many i + j))) := by
          intro F
          unfold wB
          simp only [jq1, g2]
          by_cases e : many < 2
          · have : ¬ 2 ≤ many := by omega
            rw [if_neg this, if_pos e]; rfl
          · have : 2 ≤ many := by omega
            rw [if_pos this, if_neg e]; rfl
        rw [if_neg (nI_ge (show wF μ many i + j < 10 * mH μ by omega) (by omega))]
        rw [show ∀ (A : St → Ot) (B : (St → Ot) → Ot), jq0 A B = B A from fun _ _ => rfl]
        rw [show ∀ (A : St → Ot) (B : (St → Ot) → Ot), jq0 A B = B A from fun _ _ => rfl]
        rw [hc2]
        by_cases d : (decide (many < 2) || decide ((wF μ many i + j) % 10 ≤ 6)) = true
        · rw [if_pos d]
          dsimp only
          rw [eB]
          have okB : okO μ (wB many (wF μ many i + j)) := fun a ha => by
            unfold wB at ha
            by_cases e : many < 2
            · rw [if_pos e] at ha; exact absurd ha (by simp)
            · rw [if_neg e] at ha; injection ha with ha; subst ha
              simp [e] at d
              omega
          have hm1 : RM (pf t 0 31 (ov (wB many (wF μ many i + j)))) μ := hmt.same ⟨fun p h1 h2 => pf_ne (by omega), fun j hj => pf_nk (fun e => by subst e; exact absurd hj (by decide))⟩
          have hs1 : sameM τ (pf t 0 31 (ov (wB many (wF μ many i + j)))) := hft.tr ⟨fun p h1 h2 => pf_ne (by omega), fun j hj => pf_nk (fun e => by subst e; exact absurd hj (by decide))⟩
          obtain ⟨v, c1, c2, c3, c4⟩ := M_isSoBy (A := wA many i) (B := wB many (wF μ many i + j)) hm1 hy hn hm12 hk hnw (by rw [pf_nk (by decide)]; exact h30) pf_same okA okB
          rw [nm_ok, c1, bnd_ok]
          cases hp : PS μ n m kw nw (ups (ups (SH μ) (wA many i)) (wB many (wF μ many i + j))) with
          | true =>
            have t1 : (if true = true then (1 : Int32) else 0) = 1 := rfl
            rw [t1, if_neg n10]
            rw [hp, d, if_pos (by rfl)] at hffI
            rw [c, hffI] at hff
            have hO2 : wO μ n m kw nw many = some i := hff
            refine Or.inr (Or.inr ⟨v, by rw [hO2]; rfl, hs1.tr c2, fun a ha => ?_⟩)
            rw [hO2] at ha
            injection ha with ha
            subst ha
            exact ⟨_, hffI, c3, c4⟩
          | false =>
            have t0 : (if false = true then (1 : Int32) else 0) = 0 := rfl
            rw [t0, if_pos rfl, nm_ok, nI_1]
            rw [hp, Bool.and_false, if_neg (by decide)] at hffI
            exact Or.inl ⟨hjl, v, _, ⟨by rw [Nat.add_assoc], hs1.tr c2, c3, hffI⟩, rfl⟩
        · rw [if_neg d]
          rw [if_neg (fun q => d (by simp only [Bool.and_eq_true] at q; exact q.1))] at hffI
          dsimp only
          rw [nm_ok, nI_1]
          exact Or.inl ⟨hjl, t, _, ⟨by rw [Nat.add_assoc], hft, h30, hffI⟩, rfl⟩
      · have : j = 10 * mH μ - wF μ many i := by omega
        subst this
        rw [if_pos (nI_le (show 10 * mH μ ≤ wF μ many i + (10 * mH μ - wF μ many i) by omega) (by omega))]
        have hIn : wI μ n m kw nw many i = none := by rw [hI, Nat.sub_self]; rfl
        rw [hIn, c] at hff
        refine Or.inr ?_
        rw [nm_ok, nI_1]
        exact Or.inl ⟨hl, t, _, ⟨rfl, hft, hff⟩, rfl⟩
    · rw [if_neg c]
      rw [if_neg (fun q => c (by simp only [Bool.and_eq_true] at q; exact q.1))] at hff
      dsimp only
      exact skip hff t hft
  · have : i = wE μ many := by omega
    subst this
    refine Or.inr ⟨t, ?_, hft, fun a ha => ?_⟩
    · rw [if_pos (nI_le (Nat.le_refl _) (by omega)), hO, Nat.sub_self]; rfl
    · rw [hO, Nat.sub_self] at ha; exact absurd ha (by simp [ff])
