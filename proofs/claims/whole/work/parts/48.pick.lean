/-! the system: reopen, pick, hears -/
theorem N_lT {σ : St} {h o d : Nat} (hh : h < 16) (hd : σ 58 h = nI d) (h5 : d ≤ 5) (ho : o ≤ 6) : f_X1_letsInFromTalkers__56 σ (nI h) (nI o) = some (if (decide (0 < o) && decide (d ≤ o)) = true then 1 else 0, σ) := by
  simp only [f_X1_letsInFromTalkers__56, jq0, at_58 hh, bnd_ok, hd]
  by_cases a : o = 0
  · subst a; rw [nI_0]; simp
  · rw [if_neg (nI_nle (by omega) (by omega))]
    by_cases b : o < d
    · have : ¬ d ≤ o := by omega
      rw [if_pos (nI_lt b (by omega))]; simp [this]
    · have : d ≤ o := by omega
      have h0 : 0 < o := by omega
      rw [if_neg (nI_nlt (by omega) (by omega))]; simp [this, h0]
theorem N_lG {σ : St} {h o d : Nat} (hh : h < 16) (hd : σ 58 h = nI d) (h1 : 1 ≤ d) (h5 : d ≤ 5) (ho : o ≤ 6) : f_X1_letsInFromGossips__56 σ (nI h) (nI o) = some (if (decide (0 < o) && decide (d ≤ o + 1)) = true then 1 else 0, σ) := by
  have e : nI d - 1 = nI (d - 1) := pk_sub (b := 1) h1
  simp only [f_X1_letsInFromGossips__56, jq0, at_58 hh, bnd_ok, hd, e]
  by_cases a : o = 0
  · subst a; rw [nI_0]; simp
  · rw [if_neg (nI_nle (by omega) (by omega))]
    by_cases b : o < d - 1
    · have : ¬ d ≤ o + 1 := by omega
      rw [if_pos (nI_lt b (by omega))]; simp [this]
    · have : d ≤ o + 1 := by omega
      have h0 : 0 < o := by omega
      rw [if_neg (nI_nlt (by omega) (by omega))]; simp [this, h0]
def RO (σ : St) (h o M8 M7 : Nat) : St := pf (pf (ps σ 57 (nI h) (nI o)) 56 8 (nI M8)) 56 7 (nI M7)
theorem mk_set {p : Nat → Bool} {h : Nat} {b : Bool} (hh : h < 16) : (if b = true then nI (mkm p 16) ||| nI (2 ^ h) else nI (mkm p 16) &&& (nI (2 ^ h) ^^^ (-1 : Int32))) = nI (mkm (fun x => if x = h then b else p x) 16) := by
  cases b with
  | true =>
    rw [if_pos rfl, mk_or hh]
    congr 1
    refine mkm_ext fun i _ => ?_
    by_cases e : i = h <;> simp [e]
  | false =>
    rw [if_neg (by decide), mk_andn hh]
    congr 1
    refine mkm_ext fun i _ => ?_
    by_cases e : i = h <;> simp [e]
theorem N_reopen0 {σ : St} {h o d : Nat} {PT PG : Nat → Bool} (hh : h < 16) (hd : σ 58 h = nI d) (h1 : 1 ≤ d) (h5 : d ≤ 5) (ho : o ≤ 6) (h8 : σ 56 8 = nI (mkm PT 16)) (h7 : σ 56 7 = nI (mkm PG 16)) : f_X1_reopen__56 σ (nI h) (nI o) = some (0, RO σ h o (mkm (fun x => if x = h then (decide (0 < o) && decide (d ≤ o)) else PT x) 16) (mkm (fun x => if x = h then (decide (0 < o) && decide (d ≤ o + 1)) else PG x) 16)) := by
  have a1 : (ps σ 57 (nI h) (nI o)) 58 h = nI d := by rw [ps_ne (by decide)]; exact hd
  have a2 : ∀ v, (pf (ps σ 57 (nI h) (nI o)) 56 8 v) 58 h = nI d := fun v => by rw [pf_ne (by decide)]; exact a1
  have a3 : (ps σ 57 (nI h) (nI o)) 56 8 = nI (mkm PT 16) := by rw [ps_ne (by decide)]; exact h8
  have a4 : ∀ v, (pf (ps σ 57 (nI h) (nI o)) 56 8 v) 56 7 = nI (mkm PG 16) := fun v => by rw [pf_nk (by decide), ps_ne (by decide)]; exact h7
  have m8 := mk_set (p := PT) (b := decide (0 < o) && decide (d ≤ o)) hh
  have m7 := mk_set (p := PG) (b := decide (0 < o) && decide (d ≤ o + 1)) hh
  simp only [f_X1_reopen__56, jq1, put_57 hh, bnd_ok, N_lT hh a1 h5 ho, N_bit hh, nm_ok, N_lG hh (a2 _) h1 h5 ho, a3, a4]
  unfold RO
  rw [← m8, ← m7]
  by_cases c : (decide (0 < o) && decide (d ≤ o)) = true <;> by_cases e : (decide (0 < o) && decide (d ≤ o + 1)) = true <;> simp only [c, e, if_true, c10, c00, if_false]
  all_goals rfl
def frD (σ σ' : St) : Prop := ∀ p, p ≠ 56 → p ≠ 57 → p ≠ 58 → σ' p = σ p
theorem frD.rf {σ : St} : frD σ σ := fun _ _ _ _ => rfl
theorem frD.tr {a b c : St} (h : frD a b) (h2 : frD b c) : frD a c := fun p x y z => (h2 p x y z).trans (h p x y z)
theorem frD.sm {a b : St} (h : frD a b) : sameN a b := fun p hp => h p (fun e => by subst e; exact absurd hp (by decide)) (fun e => by subst e; exact absurd hp (by decide)) (fun e => by subst e; exact absurd hp (by decide))
theorem frD.RO {σ : St} {h o a b : Nat} : frD σ (RO σ h o a b) := fun p x y _ => by unfold Pilot.CNewsDraughtsLaw_law_r6407_9e54a7.RO; rw [pf_ne x, pf_ne x, ps_ne y]
theorem RO_57 {σ : St} {h o a b j : Nat} (hh : h < 16) : RO σ h o a b 57 j = if j = h then nI o else σ 57 j := by
  unfold RO
  rw [pf_ne (by decide), pf_ne (by decide)]
  by_cases e : j = h
  · subst e; rw [ps_same (by omega), if_pos rfl]
  · rw [ps_nk (by omega) e, if_neg e]
theorem RO_7 {σ : St} {h o a b : Nat} : RO σ h o a b 56 7 = nI b := pf_same
theorem RO_8 {σ : St} {h o a b : Nat} : RO σ h o a b 56 8 = nI a := by unfold RO; rw [pf_nk (by decide), pf_same]
theorem RO_j {σ : St} {h o a b j : Nat} (h7 : j ≠ 7) (h8 : j ≠ 8) : RO σ h o a b 56 j = σ 56 j := by unfold RO; rw [pf_nk h7, pf_nk h8, ps_ne (by decide)]
theorem RO_58 {σ : St} {h o a b : Nat} : RO σ h o a b 58 = σ 58 := by unfold RO; rw [pf_ne (by decide), pf_ne (by decide), ps_ne (by decide)]
theorem N_reopen {σ : St} {μ : Mu} (hw : WP μ) {n K h o : Nat} {sh : Nat → Nat} (hn : n < mn μ) (hd : DR σ μ n K sh) (hh : h < mH μ) (ho : o ≤ 6) : ∃ σ', f_X1_reopen__56 σ (nI h) (nI o) = some (0, σ') ∧ frD σ σ' ∧ DR σ' μ n K (fun x => if x = h then o else sh x) := by
  have hH := mH_pos hw
  have hk := hw.2.2.2.2.2.1 n hn
  obtain ⟨d4, d5, d6, d7, d8, d9, d10, d11, d57, d58⟩ := hd
  have hnd : 1 ≤ nd μ n h ∧ nd μ n h ≤ 5 := by unfold nd; split <;> omega
  refine ⟨_, N_reopen0 (by omega) (d58 h hh) hnd.1 hnd.2 ho d8 d7, frD.RO, ?_, ?_, ?_, ?_, ?_, ?_, ?_, ?_, fun j hj => ?_, fun j hj => ?_⟩
  · rw [RO_j (by decide) (by decide)]; exact d4
  · rw [RO_j (by decide) (by decide)]; exact d5
  · rw [RO_j (by decide) (by decide)]; exact d6
  · rw [RO_7]
    congr 1
    refine mkm_ext fun i _ => ?_
    unfold ogB
    by_cases e : i = h
    · subst e; simp [hh]
    · simp [e]
  · rw [RO_8]
    congr 1
    refine mkm_ext fun i _ => ?_
    unfold otB
    by_cases e : i = h
    · subst e; simp [hh]
    · simp [e]
  · rw [RO_j (by decide) (by decide)]; exact d9
  · rw [RO_j (by decide) (by decide)]; exact d10
  · rw [RO_j (by decide) (by decide)]; exact d11
  · rw [RO_57 (by omega)]
    by_cases e : j = h
    · simp only [e, if_true]
    · simp only [e, if_false]; exact d57 j hj
  · rw [RO_58]; exact d58 j hj
def PI (σ : St) (μ : Mu) (n i : Nat) (u : St) : Prop := frD σ u ∧ u 56 4 = nI (KW μ n) ∧ u 56 7 = nI (mkm (fun h => decide (h < i) && ogB μ n (SH μ) h) 16) ∧ u 56 8 = nI (mkm (fun h => decide (h < i) && otB μ n (SH μ) h) 16) ∧ u 56 9 = nI (mC μ) ∧ u 56 10 = nI (firstC μ) ∧ u 56 11 = nI (lastC μ) ∧ (∀ h, h < i → u 57 h = nI (SH μ h)) ∧ ∀ h, h < i → u 58 h = nI (nd μ n h)
def P56 (μ : Mu) (n i : Nat) (u : St) : Prop := u 56 5 = nI (mkm (fun h => decide (h < i) && kgB μ h) 16) ∧ u 56 6 = nI (mkm (fun h => decide (h < i) && ktB μ n h) 16)
theorem N_pick {σ : St} {μ : Mu} (hw : WP μ) (hp : PN σ 12 μ) (hs : SNt σ 19 (μ 6)) (hsh : ∀ h, h < 16 → SH μ h ≤ 6) {n : Nat} (hn : n < mn μ) : ∃ σ', f_X1_pick__56 σ (nI n) = some (0, σ') ∧ frD σ σ' ∧ DR σ' μ n (KW μ n) (SH μ) := by
  have hH := mH_pos hw
  have hn5 : mn μ ≤ 5 := hw.2.2.1
  have hk := hw.2.2.2.2.2.1 n hn
  have hp3 := hp.2.2.2.2.2.2.2.1 n hn
  have hkind : f_X4_newsKindOf__12 σ (nI n) = some (nI (μ 2 n), σ) := by
    simp only [f_X4_newsKindOf__12, at_15 (show n < 5 by omega), bnd_ok]; rw [hp3.1]
  have hwk : f_X9_whoKnows__19 σ (nI n) = some (nI (KW μ n), σ) := by
    simp only [f_X9_whoKnows__19, at_21 (show n < 5 by omega), bnd_ok]; rw [hs.2.2 n (by omega)]; rfl
  have hdeb : ∀ A B : Ot, (if nI (μ 2 n) = (2 : Int32) then A else B) = if μ 2 n = 2 then A else B := fun A B => by
    have : (nI (μ 2 n) = (2 : Int32)) = (μ 2 n = 2) := nI_eqB (b := 2) (by omega) (by decide)
    simp only [this]
  have e0 : ∀ F : St → Int32 → Ot, jq1 F (fun k2 => bnd (f_X4_newsKindOf__12 σ (nI n)) (fun r60 s61 => (if r60 = (2 : Int32) then k2 s61 (1 : Int32) else k2 s61 (0 : Int32)))) = F σ (if μ 2 n = 2 then 1 else 0) := by
    intro F
    simp only [jq1]
    rw [hkind, bnd_ok, hdeb]
    split <;> rfl
  unfold f_X1_pick__56
  rw [e0, hwk, bnd_ok, nm_ok, nm_ok, nm_ok, nm_ok, nm_ok]
  unfold f_X4_columns__12
  rw [bnd_ok, nm_ok]
  unfold f_X4_firstColumn__12
  rw [bnd_ok, nm_ok]
  unfold f_X4_lastColumn__12
  rw [bnd_ok, nm_ok]
  have hx3 : ∀ A B : Ot, (if (if μ 2 n = 2 then (1 : Int32) else 0) = 0 then A else B) = if μ 2 n = 2 then B else A := fun A B => by
    by_cases e : μ 2 n = 2
    · simp [e]
    · simp [e]
  generalize (if μ 2 n = 2 then (1 : Int32) else 0) = x3 at hx3
  refine lq1_run (P := fun o => ∃ σ', o = some (0, σ') ∧ frD σ σ' ∧ DR σ' μ n (KW μ n) (SH μ)) (fun i u y => y = nI i ∧ PI σ μ n i u ∧ P56 μ n i u) (mH μ) ?_ 100000 0 _ 0 (Nat.zero_le _) (by omega) ⟨rfl, ?_, ?_⟩
  · rintro i u y hi ⟨rfl, ⟨g0, g4, g7, g8, g9, g10, g11, g57, g58⟩, g5, g6⟩ k
    have hpu : PN u 12 μ := hp.same g0.sm
    rcases Nat.lt_or_ge i (mH μ) with hl | hl
    · refine Or.inl ⟨hl, ?_⟩
      have hnd : 1 ≤ nd μ n i ∧ nd μ n i ≤ 5 := by unfold nd; split <;> omega
      have step : ∀ u1 : St, PI σ μ n i u1 → P56 μ n (i + 1) u1 → ∃ (t : St) (y1 : Int32), (y1 = nI (i + 1) ∧ PI σ μ n (i + 1) t ∧ P56 μ n (i + 1) t) ∧ bnd (f_X10_put__58 u1 (nI i) (nI (nd μ n i))) (fun r36 s37 => bnd (f_X9_sashOf__19 s37 (nI i)) (fun r38 s39 => bnd (f_X1_reopen__56 s39 (nI i) r38) (fun r40 s41 => nm (nI i + (1 : Int32)) (fun x42 => k s41 x42)))) = k t y1 := by
        rintro u1 ⟨f0, f4, f7, f8, f9, f10, f11, f57, f58⟩ ⟨f5, f6⟩
        have hsi : (ps u1 58 (nI i) (nI (nd μ n i))) 20 i = nI (SH μ i) := by
          rw [ps_ne (by decide), f0 20 (by decide) (by decide) (by decide)]
          exact hs.2.1 i (by omega)
        have h58 : (ps u1 58 (nI i) (nI (nd μ n i))) 58 i = nI (nd μ n i) := ps_same (by omega)
        have h56 : ∀ j, (ps u1 58 (nI i) (nI (nd μ n i))) 56 j = u1 56 j := fun j => by rw [ps_ne (by decide)]
        have hsash : f_X9_sashOf__19 (ps u1 58 (nI i) (nI (nd μ n i))) (nI i) = some (nI (SH μ i), ps u1 58 (nI i) (nI (nd μ n i))) := by
          simp only [f_X9_sashOf__19, at_20 (show i < 16 by omega), bnd_ok, hsi]
        have hro := N_reopen0 (show i < 16 by omega) h58 hnd.1 hnd.2 (hsh i (by omega)) ((h56 8).trans f8) ((h56 7).trans f7)
        rw [put_58 (show i < 16 by omega), bnd_ok, hsash, bnd_ok, hro, bnd_ok, nm_ok, nI_1]
        refine ⟨_, _, ⟨rfl, ⟨?_, ?_, ?_, ?_, ?_, ?_, ?_, fun j hj => ?_, fun j hj => ?_⟩, ?_, ?_⟩, rfl⟩
        · exact f0.tr (frD.tr (a := u1) (b := ps u1 58 (nI i) (nI (nd μ n i))) (fun p a b c => ps_ne c) frD.RO)
        · rw [RO_j (by decide) (by decide), h56]; exact f4
        · rw [RO_7]
          congr 1
          refine mkm_ext fun j _ => ?_
          unfold ogB
          by_cases e : j = i
          · subst e; simp [hl]
          · by_cases e2 : j < i
            · simp [e, e2, Nat.lt_succ_of_lt e2]
            · have : ¬ j < i + 1 := by omega
              simp [e, e2, this]
        · rw [RO_8]
          congr 1
          refine mkm_ext fun j _ => ?_
          unfold otB
          by_cases e : j = i
          · subst e; simp [hl]
          · by_cases e2 : j < i
            · simp [e, e2, Nat.lt_succ_of_lt e2]
            · have : ¬ j < i + 1 := by omega
              simp [e, e2, this]
        · rw [RO_j (by decide) (by decide), h56]; exact f9
        · rw [RO_j (by decide) (by decide), h56]; exact f10
        · rw [RO_j (by decide) (by decide), h56]; exact f11
        · rw [RO_57 (by omega)]
          by_cases e : j = i
          · simp only [e, if_true]
          · rw [if_neg e, ps_ne (by decide)]; exact f57 j (by omega)
        · rw [RO_58]
          by_cases e : j = i
          · subst e; exact h58
          · rw [ps_nk (by omega) e]; exact f58 j (by omega)
        · rw [RO_j (by decide) (by decide), h56]; exact f5
        · rw [RO_j (by decide) (by decide), h56]; exact f6
      have hkd : f_X4_kindOf__12 u (nI i) = some (nI (μ 1 i), u) := by
        simp only [f_X4_kindOf__12, at_13 (show i < 16 by omega), bnd_ok]
        rw [hpu.2.2.2.2.2.2.1 i (by omega)]
      have hwt : ∀ v : St, frD σ v → f_X4_weightOf__12 v (nI n) = some (nI (μ 3 n), v) := fun v hv => by
        simp only [f_X4_weightOf__12, at_16 (show n < 5 by omega), bnd_ok]
        rw [hv 16 (by decide) (by decide) (by decide), hp3.2.1]
      have hun : P56 μ n (i + 1) u → PI σ μ n i u ∧ P56 μ n (i + 1) u := fun q => ⟨⟨g0, g4, g7, g8, g9, g10, g11, g57, g58⟩, q⟩
      have hu5 : P56 μ n (i + 1) (pf u 56 5 (nI (mkm (fun x => (decide (x < i) && kgB μ x) || decide (x = i)) 16))) → PI σ μ n i (pf u 56 5 (nI (mkm (fun x => (decide (x < i) && kgB μ x) || decide (x = i)) 16))) ∧ P56 μ n (i + 1) (pf u 56 5 (nI (mkm (fun x => (decide (x < i) && kgB μ x) || decide (x = i)) 16))) := fun q => by
        refine ⟨⟨g0.tr (fun p a b c => pf_ne a), ?_, ?_, ?_, ?_, ?_, ?_, fun j hj => ?_, fun j hj => ?_⟩, q⟩
        · rw [pf_nk (by decide)]; exact g4
        · rw [pf_nk (by decide)]; exact g7
        · rw [pf_nk (by decide)]; exact g8
        · rw [pf_nk (by decide)]; exact g9
        · rw [pf_nk (by decide)]; exact g10
        · rw [pf_nk (by decide)]; exact g11
        · rw [pf_ne (by decide)]; exact g57 j hj
        · rw [pf_ne (by decide)]; exact g58 j hj
      have hu6 : P56 μ n (i + 1) (pf u 56 6 (nI (mkm (fun x => (decide (x < i) && ktB μ n x) || decide (x = i)) 16))) → PI σ μ n i (pf u 56 6 (nI (mkm (fun x => (decide (x < i) && ktB μ n x) || decide (x = i)) 16))) ∧ P56 μ n (i + 1) (pf u 56 6 (nI (mkm (fun x => (decide (x < i) && ktB μ n x) || decide (x = i)) 16))) := fun q => by
        refine ⟨⟨g0.tr (fun p a b c => pf_ne a), ?_, ?_, ?_, ?_, ?_, ?_, fun j hj => ?_, fun j hj => ?_⟩, q⟩
        · rw [pf_nk (by decide)]; exact g4
        · rw [pf_nk (by decide)]; exact g7
        · rw [pf_nk (by decide)]; exact g8
        · rw [pf_nk (by decide)]; exact g9
        · rw [pf_nk (by decide)]; exact g10
        · rw [pf_nk (by decide)]; exact g11
        · rw [pf_ne (by decide)]; exact g57 j hj
        · rw [pf_ne (by decide)]; exact g58 j hj
      have skip : ∀ p : Nat → Bool, p i = false → mkm (fun h => decide (h < i) && p h) 16 = mkm (fun h => decide (h < i + 1) && p h) 16 := fun p hpi => by
        refine mkm_ext fun j _ => ?_
        by_cases e : j = i
        · subst e; simp [hpi]
        · by_cases e2 : j < i
          · simp [e2, Nat.lt_succ_of_lt e2]
          · have : ¬ j < i + 1 := by omega
            simp [e2, this]
      have take : ∀ p : Nat → Bool, p i = true → mkm (fun x => (decide (x < i) && p x) || decide (x = i)) 16 = mkm (fun h => decide (h < i + 1) && p h) 16 := fun p hpi => by
        refine mkm_ext fun j _ => ?_
        by_cases e : j = i
        · subst e; simp [hpi]
        · by_cases e2 : j < i
          · simp [e, e2, Nat.lt_succ_of_lt e2]
          · have : ¬ j < i + 1 := by omega
            simp [e, e2, this]
      have hu0 : PI σ μ n i u := ⟨g0, g4, g7, g8, g9, g10, g11, g57, g58⟩
      have hnp : nI (μ 3 n) + 1 = nI (μ 3 n + 1) := nI_1 _
      simp only [N_houses hpu, bnd_ok, if_neg (nI_ge hl (show mH μ < 2 ^ 31 by omega)), jq0, jq1, jq2, hkd, hx3, N_bit (show i < 16 by omega), nm_ok, g5, g6, mk_or (show i < 16 by omega), hwt _ g0, hwt _ (g0.tr (fun p a b c => pf_ne a : frD u (pf u 56 5 (nI (mkm (fun x => (decide (x < i) && kgB μ x) || decide (x = i)) 16))))), hwt _ (g0.tr (fun p a b c => pf_ne a : frD u (pf u 56 6 (nI (mkm (fun x => (decide (x < i) && ktB μ n x) || decide (x = i)) 16))))), hnp]
      have hki := hw.2.2.2.2.1 i (by omega)
      have hk5 : μ 1 i = 0 ∨ μ 1 i = 1 ∨ μ 1 i = 2 ∨ μ 1 i = 3 ∨ μ 1 i = 4 := by omega
      have p6 : kgB μ i = false → ktB μ n i = true → P56 μ n (i + 1) (pf u 56 6 (nI (mkm (fun x => (decide (x < i) && ktB μ n x) || decide (x = i)) 16))) := fun a b => ⟨by rw [pf_nk (by decide), g5, skip _ a], by rw [pf_same, take _ b]⟩
      have p5 : kgB μ i = true → ktB μ n i = false → P56 μ n (i + 1) (pf u 56 5 (nI (mkm (fun x => (decide (x < i) && kgB μ x) || decide (x = i)) 16))) := fun a b => ⟨by rw [pf_same, take _ a], by rw [pf_nk (by decide), g6, skip _ b]⟩
      have p0 : kgB μ i = false → ktB μ n i = false → P56 μ n (i + 1) u := fun a b => ⟨by rw [g5, skip _ a], by rw [g6, skip _ b]⟩
      rcases hk5 with e | e | e | e | e
      · have h0 : nd μ n i = μ 3 n := by unfold nd; simp [e]
        rw [h0] at step
        simp only [e, wq00, wq01, wq02, wq03, wq04, wq10, wq11, wq12, wq13, wq14, wq20, wq21, wq22, wq23, wq24, wq30, wq31, wq32, wq33, wq34, wq40, wq41, wq42, wq43, wq44, if_true, if_false]
        have q := hu6 (p6 (by simp [kgB, e]) (by simp [ktB, loB, hl, e]))
        exact step _ q.1 q.2
      · have h0 : nd μ n i = μ 3 n := by unfold nd; simp [e]
        rw [h0] at step
        simp only [e, wq00, wq01, wq02, wq03, wq04, wq10, wq11, wq12, wq13, wq14, wq20, wq21, wq22, wq23, wq24, wq30, wq31, wq32, wq33, wq34, wq40, wq41, wq42, wq43, wq44, if_true, if_false]
        have q := hu5 (p5 (by simp [kgB, hl, e]) (by simp [ktB, e]))
        exact step _ q.1 q.2
      · have h0 : nd μ n i = μ 3 n + 1 := by unfold nd; simp [e]
        rw [h0] at step
        simp only [e, wq00, wq01, wq02, wq03, wq04, wq10, wq11, wq12, wq13, wq14, wq20, wq21, wq22, wq23, wq24, wq30, wq31, wq32, wq33, wq34, wq40, wq41, wq42, wq43, wq44, if_true, if_false]
        have q := hu6 (p6 (by simp [kgB, e]) (by simp [ktB, loB, hl, e]))
        exact step _ q.1 q.2
      · have h0 : nd μ n i = μ 3 n := by unfold nd; simp [e]
        rw [h0] at step
        simp only [e, wq00, wq01, wq02, wq03, wq04, wq10, wq11, wq12, wq13, wq14, wq20, wq21, wq22, wq23, wq24, wq30, wq31, wq32, wq33, wq34, wq40, wq41, wq42, wq43, wq44, if_true, if_false, c10]
        have q := hun (p0 (by simp [kgB, e]) (by simp [ktB, loB, e]))
        exact step _ q.1 q.2
      · have h0 : nd μ n i = μ 3 n := by unfold nd; simp [e]
        rw [h0] at step
        by_cases hd : μ 2 n = 2
        · simp only [e, hd, wq00, wq01, wq02, wq03, wq04, wq10, wq11, wq12, wq13, wq14, wq20, wq21, wq22, wq23, wq24, wq30, wq31, wq32, wq33, wq34, wq40, wq41, wq42, wq43, wq44, if_true, if_false, c10]
          have q := hun (p0 (by simp [kgB, e]) (by simp [ktB, loB, e, hd]))
          exact step _ q.1 q.2
        · simp only [e, hd, wq00, wq01, wq02, wq03, wq04, wq10, wq11, wq12, wq13, wq14, wq20, wq21, wq22, wq23, wq24, wq30, wq31, wq32, wq33, wq34, wq40, wq41, wq42, wq43, wq44, if_true, if_false, c00]
          have q := hu6 (p6 (by simp [kgB, e]) (by simp [ktB, loB, hl, e, hd]))
          exact step _ q.1 q.2
    · have : i = mH μ := by omega
      subst this
      refine Or.inr ?_
      rw [N_houses hpu, bnd_ok, if_pos (nI_le (Nat.le_refl _) (by omega))]
      have ful : ∀ p : Nat → Bool, (∀ h, p h = true → h < mH μ) → mkm (fun h => decide (h < mH μ) && p h) 16 = mkm p 16 := fun p hp => by
        refine mkm_ext fun j _ => ?_
        cases hb : p j with
        | false => simp
        | true => simp [hp j hb]
      refine ⟨u, rfl, g0, g4, ?_, ?_, ?_, ?_, g9, g10, g11, g57, g58⟩
      · rw [g5, ful _ (fun h q => by unfold kgB at q; simp at q; exact q.1)]
      · rw [g6, ful _ (fun h q => by unfold ktB at q; simp at q; exact q.1)]
      · rw [g7, ful _ (fun h q => by unfold ogB at q; simp at q; exact q.1)]
      · rw [g8, ful _ (fun h q => by unfold otB at q; simp at q; exact q.1)]
  · have m0 : ∀ p : Nat → Bool, mkm (fun h => decide (h < 0) && p h) 16 = 0 := fun p => by
      rw [← eq_mkm (K := 0) (p := fun h => decide (h < 0) && p h) (n := 16) (by decide) (fun j _ => by simp)]
    refine ⟨fun p a b c => ?_, ?_, ?_, ?_, ?_, ?_, ?_, fun j hj => by omega, fun j hj => by omega⟩
    · rw [pf_ne a, pf_ne a, pf_ne a, pf_ne a, pf_ne a, pf_ne a, pf_ne a, pf_ne a]
    · rw [pf_nk (by decide), pf_nk (by decide), pf_nk (by decide), pf_nk (by decide), pf_nk (by decide), pf_nk (by decide), pf_nk (by decide), pf_same]
    · rw [pf_nk (by decide), pf_nk (by decide), pf_nk (by decide), pf_nk (by decide), pf_same, m0, nI_0]
    · rw [pf_nk (by decide), pf_nk (by decide), pf_nk (by decide), pf_same, m0, nI_0]
    · rw [pf_nk (by decide), pf_nk (by decide), pf_same]
      simp only [pf_ne (show (12 : Nat) ≠ 56 by decide)]
      exact hp.2.1
    · rw [pf_nk (by decide), pf_same]
      simp only [pf_ne (show (12 : Nat) ≠ 56 by decide)]
      exact hp.2.2.1
    · rw [pf_same]
      simp only [pf_ne (show (12 : Nat) ≠ 56 by decide)]
      exact hp.2.2.2.1
  · have m0 : ∀ p : Nat → Bool, mkm (fun h => decide (h < 0) && p h) 16 = 0 := fun p => by
      rw [← eq_mkm (K := 0) (p := fun h => decide (h < 0) && p h) (n := 16) (by decide) (fun j _ => by simp)]
    refine ⟨?_, ?_⟩
    · rw [pf_nk (by decide), pf_nk (by decide), pf_nk (by decide), pf_nk (by decide), pf_nk (by decide), pf_nk (by decide), pf_same, m0, nI_0]
    · rw [pf_nk (by decide), pf_nk (by decide), pf_nk (by decide), pf_nk (by decide), pf_nk (by decide), pf_same, m0, nI_0]
theorem N_hears {σ : St} {μ : Mu} (hw : WP μ) (hp : PN σ 12 μ) {n K h m : Nat} {sh : Nat → Nat} (hd : DR σ μ n K sh) (hs : σ 19 2 = nI (μ 6 0)) (hs2 : μ 6 0 ≤ 100000) (hK : K < 2 ^ mH μ) (hm : m ≤ 100) (hh : h < 16) : f_X1_hears__56 σ (nI h) (nI m) = some (if (alg μ n sh (μ 6 0) m K).testBit h = true then 1 else 0, σ) := by
  have ha := N_along hw hp hd hs hs2 hK (Nat.zero_le m) hm
  have ha2 : f_X1_along__56 σ (nI K) 0 (nI m) = some (nI (alg μ n sh (μ 6 0) m K), σ) := ha
  unfold f_X1_hears__56
  rw [hd.1, ha2, bnd_ok, N_holds (lt_16 hw (alg_lt hw hK m)) hh, bnd_ok]
  split <;> rfl
