/-! the check: a wind goes by -/
theorem nI_eqB {a b : Nat} (ha : a < 2 ^ 31) (hb : b < 2 ^ 31) : (nI a = nI b) = (a = b) := propext (nI_eq ha hb)
theorem M_letsOut {τ : St} {μ : Mu} (hp : PM τ μ) (hw : WP μ) {h n : Nat} (hh : h < 16) (hn : n < mn μ) : f_X11_letsOut__0 τ (nI h) (nI n) = some (if loB μ n h then 1 else 0, τ) := by
  have hn5 : mn μ ≤ 5 := hw.2.2.1
  have hk := hw.2.2.2.2.1 h hh
  have hd := (hw.2.2.2.2.2.1 n hn).1
  have e3 : (3 : Int32) * nI n = nI (3 * n) := pk_mul 3 n
  simp only [f_X11_letsOut__0, jq0, e3, gd_nI (show h < 16 by omega) (show 16 < 2 ^ 31 by decide), gd_nI (show 3 * n < 15 by omega) (show 15 < 2 ^ 31 by decide), nI_clamp (show h < 2 ^ 31 by omega), nI_clamp (show 3 * n < 2 ^ 31 by omega), hp.2.2.2.2.2.1 h hh, (hp.2.2.2.2.2.2.1 n hn).1]
  rw [show (3 : Int32) = nI 3 from rfl, show (4 : Int32) = nI 4 from rfl, show (2 : Int32) = nI 2 from rfl]
  simp only [nI_eqB (show μ 1 h < 2 ^ 31 by omega) (show 3 < 2 ^ 31 by decide), nI_eqB (show μ 1 h < 2 ^ 31 by omega) (show 4 < 2 ^ 31 by decide), nI_eqB (show μ 2 n < 2 ^ 31 by omega) (show 2 < 2 ^ 31 by decide)]
  unfold loB
  by_cases a : μ 1 h = 3
  · simp [a]
  · by_cases b : μ 1 h = 4
    · by_cases c : μ 2 n = 2 <;> simp [b, c]
    · simp [a, b]
theorem M_letsIn {τ : St} {μ : Mu} (hp : PM τ μ) (hw : WP μ) {h t n s : Nat} {sh kn : Nat → Nat} (hh : h < 16) (ht : t < 16) (hn : n < mn μ) (hN : NWs τ s sh kn) (hsh : sh t ≤ 6) : f_X11_letsIn__0 τ (nI h) (nI t) (nI n) = some (if liB μ n sh h t then 1 else 0, τ) := by
  have hn5 : mn μ ≤ 5 := hw.2.2.1
  have hk := hw.2.2.2.2.1 h hh
  have hk2 := hw.2.2.2.2.1 t ht
  have hd := hw.2.2.2.2.2.1 n hn
  have e3 : (3 : Int32) * nI n + 1 = nI (3 * n + 1) := by rw [show (3 : Int32) * nI n = nI (3 * n) from pk_mul 3 n]; exact nI_add _ 1
  have e1 : (1 : Int32) + nI t = nI (1 + t) := nI_add 1 t
  have fin : ∀ need : Nat, need < 10 → ((if (nI (sh t)) ≤ (0 : Int32) then some ((0 : Int32), τ) else (if nI (sh t) < nI need then some ((0 : Int32), τ) else some ((1 : Int32), τ))) : Ot) = some (if (decide (0 < sh t) && decide (need ≤ sh t)) = true then 1 else 0, τ) := by
    intro need hneed
    by_cases a : sh t = 0
    · rw [a, nI_0]; simp
    · rw [if_neg (nI_nle (by omega) (by omega))]
      by_cases b : sh t < need
      · rw [if_pos (nI_lt b (by omega))]
        have : ¬ need ≤ sh t := by omega
        simp [this]
      · rw [if_neg (nI_nlt (by omega) (by omega))]
        have : need ≤ sh t := by omega
        have : 0 < sh t := by omega
        simp [*]
  simp only [f_X11_letsIn__0, jq0, jq2, nm_ok, e3, e1, gd_nI (show h < 16 by omega) (show 16 < 2 ^ 31 by decide), gd_nI (show t < 16 by omega) (show 16 < 2 ^ 31 by decide), gd_nI (show 3 * n + 1 < 15 by omega) (show 15 < 2 ^ 31 by decide), gd_nI (show 1 + t < 22 by omega) (show 22 < 2 ^ 31 by decide), nI_clamp (show h < 2 ^ 31 by omega), nI_clamp (show t < 2 ^ 31 by omega), nI_clamp (show 1 + t < 2 ^ 31 by omega), nI_clamp (show 3 * n + 1 < 2 ^ 31 by omega), hp.2.2.2.2.2.1 h hh, hp.2.2.2.2.2.1 t ht, (hp.2.2.2.2.2.2.1 n hn).2.1, hN.2.1 t ht]
  have q1 : (nI (μ 1 h) = (1 : Int32)) = (μ 1 h = 1) := nI_eqB (b := 1) (by omega) (by decide)
  have q2 : (nI (μ 1 t) = (2 : Int32)) = (μ 1 t = 2) := nI_eqB (b := 2) (by omega) (by decide)
  simp only [q1, q2]
  have s1 : nI (μ 3 n) - 1 = nI (μ 3 n - 1) := pk_sub (b := 1) hd.2.1
  have s0 : nI (μ 3 n) - 0 = nI (μ 3 n) := pk_sub (b := 0) (Nat.zero_le _)
  have a1 : ∀ a : Nat, nI a + 1 = nI (a + 1) := fun a => nI_add a 1
  have a0 : ∀ a : Nat, nI a + 0 = nI a := fun a => nI_add a 0
  simp only [s1, s0, a1, a0, fin _ (show μ 3 n - 1 + 1 < 10 by omega), fin _ (show μ 3 n - 1 < 10 by omega), fin _ (show μ 3 n + 1 < 10 by omega), fin _ (show μ 3 n < 10 by omega)]
  unfold liB nd
  by_cases a : μ 1 h = 1 <;> by_cases b : μ 1 t = 2 <;> simp only [a, b, if_true, if_false] <;> (by_cases c : 0 < sh t)
  all_goals simp only [c, decide_true, decide_false, Bool.true_and, Bool.false_and]
  all_goals congr 2
  all_goals (congr 1; rw [eq_iff_iff]; simp only [decide_eq_true_eq]; omega)
theorem NWs.setK {τ : St} {s : Nat} {sh kn : Nat → Nat} (h : NWs τ s sh kn) {n v : Nat} (hn : n < 5) : NWs (ps τ 14 (nI (17 + n)) (nI v)) s sh (fun m => if m = n then v else kn m) := by
  refine ⟨?_, fun x hx => ?_, fun x hx => ?_⟩
  · rw [ps_nk (by omega) (by omega)]; exact h.1
  · rw [ps_nk (by omega) (by omega)]; exact h.2.1 x hx
  · by_cases e : x = n
    · subst e; rw [ps_same (by omega)]; simp only [if_pos rfl, if_true]
    · rw [ps_nk (by omega) (by omega)]; simp only [if_neg e]; exact h.2.2 x hx
theorem NWs.setS {τ : St} {s : Nat} {sh kn : Nat → Nat} (h : NWs τ s sh kn) {n v : Nat} (hn : n < 16) : NWs (ps τ 14 (nI (1 + n)) (nI v)) s (fun m => if m = n then v else sh m) kn := by
  refine ⟨?_, fun x hx => ?_, fun x hx => ?_⟩
  · rw [ps_nk (by omega) (by omega)]; exact h.1
  · by_cases e : x = n
    · subst e; rw [ps_same (by omega)]; simp only [if_pos rfl, if_true]
    · rw [ps_nk (by omega) (by omega)]; simp only [if_neg e]; exact h.2.1 x hx
  · rw [ps_nk (by omega) (by omega)]; exact h.2.2 x hx
theorem NWs.ext {τ : St} {s : Nat} {sh kn sh' kn' : Nat → Nat} (h : NWs τ s sh kn) (h1 : ∀ x, x < 16 → sh x = sh' x) (h2 : ∀ x, x < 5 → kn x = kn' x) : NWs τ s sh' kn' := ⟨h.1, fun x hx => (h.2.1 x hx).trans (congrArg nI (h1 x hx)), fun x hx => (h.2.2 x hx).trans (congrArg nI (h2 x hx))⟩
theorem only14.ps {τ : St} {i v : Int32} : only14 τ (ps τ 14 i v) := fun _ hp => ps_ne hp
theorem M_blows {τ : St} {μ : Mu} (hp : PM τ μ) (hw : WP μ) {h d n s K : Nat} {sh kn : Nat → Nat} (hh : h < mH μ) (h1 : 1 ≤ d) (h4 : d ≤ 4) (hn : n < mn μ) (hN : NWs τ s sh kn) (hsh : ∀ t, t < 16 → sh t ≤ 6) (hK : K < 2 ^ mH μ) : ∃ τ', f_X11_blowsFrom__0 τ (nI h) (nI n) (nI d) (nI K) = some (0, τ') ∧ only14 τ τ' ∧ NWs τ' s sh (fun m => if m = n then gbw μ n sh K h d (kn n) else kn m) := by
  have hn5 : mn μ ≤ 5 := hw.2.2.1
  have hH := mH_pos hw
  have nop : NWs τ s sh (fun m => if m = n then kn n else kn m) := hN.ext (fun _ _ => rfl) (fun x _ => by by_cases e : x = n <;> simp [e])
  have e17 : (17 : Int32) + nI n = nI (17 + n) := nI_add 17 n
  simp only [f_X11_blowsFrom__0, M_beside hp hw hh h1 h4, bnd_ok]
  unfold gbw
  cases hb : bsd μ h d with
  | none =>
    simp only []
    exact ⟨τ, if_pos (by decide), only14.rf, nop⟩
  | some t =>
    have ht := bsd_lt hw hh hb
    simp only []
    rw [if_neg (nI_pos (by omega)), M_has (lt_16 hw hK) (by omega)]
    by_cases hk : K.testBit t = true
    · simp only [hk, if_true, bnd_ok]
      exact ⟨τ, if_neg (by decide), only14.rf, nop⟩
    · simp only [hk, bnd_ok, M_letsIn hp hw (show h < 16 by omega) (show t < 16 by omega) hn hN (hsh t (by omega))]
      by_cases hl : liB μ n sh h t = true
      · refine ⟨ps τ 14 (nI (17 + n)) (nI (kn n ||| 2 ^ t)), ?_, only14.ps, ?_⟩
        · simp only [hl, e17, gd_nI (show 17 + n < 22 by omega) (show 22 < 2 ^ 31 by decide), nm_ok, nI_clamp (show 17 + n < 2 ^ 31 by omega), hN.2.2 n (by omega), nx_bit (show t < 31 by omega), nx_or]
          rfl
        · simp only [hl]
          exact hN.setK (by omega)
      · refine ⟨τ, ?_, only14.rf, ?_⟩
        · simp only [hl]; rfl
        · simp only [hl]; exact nop
theorem ps_same0 {σ : St} {p : Nat} {v : Int32} : ps σ p 0 v p 0 = v := ps_same (j := 0) (by decide)
theorem ps_nk0 {σ : St} {p k : Nat} {v : Int32} (h : k ≠ 0) : ps σ p 0 v p k = σ p k := ps_nk (j := 0) (by decide) h
def gkn (μ : Mu) (sh : Nat → Nat) (w on : Nat) (kn : Nat → Nat) : Nat → Nat := fun n => if n < mn μ ∧ isOn on n = true then nx μ n sh w (kn n) else kn n
theorem PM.o14 {τ τ' : St} {μ : Mu} (h : PM τ μ) (ho : only14 τ τ') : PM τ' μ := h.same ho.sm
theorem only14.z {τ τ' : St} (h : only14 τ τ') (j : Nat) : τ' 0 j = τ 0 j := congrFun (h 0 (by decide)) j
theorem M_goesBy {τ : St} {μ : Mu} (hp : PM τ μ) (hw : WP μ) {s on w : Nat} {sh kn : Nat → Nat} (hN : NWs τ s sh kn) (ho : ONL τ on) (hk : ∀ n, n < mn μ → kn n < 2 ^ mH μ) (hsh : ∀ t, t < 16 → sh t ≤ 6) (hw4 : w ≤ 4) : ∃ τ', f_X11_goesBy__0 τ (nI w) = some (0, τ') ∧ only14 τ τ' ∧ NWs τ' (s + 1) sh (gkn μ sh w on kn) := by
  have hn5 : mn μ ≤ 5 := hw.2.2.1
  have hH := mH_pos hw
  have hon : on < 2 ^ 31 ∨ 5 ≤ on := by omega
  unfold f_X11_goesBy__0
  refine lq1_run (P := fun o => ∃ τ', o = some (0, τ') ∧ only14 τ τ' ∧ NWs τ' (s + 1) sh (gkn μ sh w on kn)) (fun i t x => x = nI i ∧ only14 τ t ∧ NWs t s sh (fun n => if n < i then gkn μ sh w on kn n else kn n)) (mn μ) ?_ 100000 0 τ 0 (Nat.zero_le _) (by omega) ⟨rfl, only14.rf, hN.ext (fun _ _ => rfl) (fun x _ => by simp)⟩
  rintro i t x hi ⟨rfl, hot, hNt⟩ k
  have hpt := hp.o14 hot
  have hmt : t 0 4 = nI (mn μ) := hpt.2.2.2.1
  rcases Nat.lt_or_ge i (mn μ) with hl | hl
  · refine Or.inl ⟨hl, ?_⟩
    have hki : (if i < i then gkn μ sh w on kn i else kn i) = kn i := by simp
    have e17 : (17 : Int32) + nI i = nI (17 + i) := nI_add 17 i
    have hki2 : t 14 (17 + i) = nI (kn i) := (hNt.2.2 i (by omega)).trans (by simp)
    have hKi := hk i hl
    have hKi16 := lt_16 hw hKi
    have hoff : isOn on i = false → ∃ (u : St) (y1 : Int32), (y1 = nI (i + 1) ∧ only14 τ u ∧ NWs u s sh (fun n => if n < i + 1 then gkn μ sh w on kn n else kn n)) ∧ k t (nI (i + 1)) = k u y1 := fun hoff => by
      refine ⟨t, nI (i + 1), ⟨rfl, hot, hNt.ext (fun _ _ => rfl) (fun x _ => ?_)⟩, rfl⟩
      by_cases e : x < i
      · simp [e, Nat.lt_succ_of_lt e]
      · by_cases e2 : x = i
        · subst e2
          simp [gkn, hoff]
        · have : ¬ x < i + 1 := by omega
          simp [e, this]
    have hon1 : isOn on i = true → ∀ u, only14 τ u → NWs u s sh (fun m => if m = i then gbh μ i sh w (kn i) (mH μ) else (if m < i then gkn μ sh w on kn m else kn m)) → ∃ (u2 : St) (y1 : Int32), (y1 = nI (i + 1) ∧ only14 τ u2 ∧ NWs u2 s sh (fun n => if n < i + 1 then gkn μ sh w on kn n else kn n)) ∧ k u (nI (i + 1)) = k u2 y1 := fun hon1 u h1 h2 => by
      refine ⟨u, nI (i + 1), ⟨rfl, h1, h2.ext (fun _ _ => rfl) (fun x _ => ?_)⟩, rfl⟩
      by_cases e : x = i
      · subst e
        simp [gkn, hon1, hl, nx]
      · by_cases e2 : x < i
        · simp [e, e2, Nat.lt_succ_of_lt e2]
        · have : ¬ x < i + 1 := by omega
          simp [e, e2, this]
    have hz : t 0 29 = if on < 5 then nI on else -4 := (hot.z 29).trans ho
    have hH2 : t 0 2 = nI (mH μ) := hpt.2.2.1
    have hc : ∀ L M : Ot, (if (if on < 5 then nI on else -4) < (0 : Int32) then L else (if (if on < 5 then nI on else -4) = nI i then L else M)) = if isOn on i = true then L else M := fun L M => by
      unfold isOn
      by_cases h5 : on < 5
      · rw [if_pos h5, if_neg (nI_pos (by omega))]
        by_cases e : i = on
        · subst e; simp
        · have e2 : ¬ nI on = nI i := fun q => e ((nI_eq (by omega) (by omega)).mp q).symm
          have h6 : ¬ 5 ≤ on := by omega
          rw [if_neg e2, if_neg (by simp [e, h6])]
      · have h6 : 5 ≤ on := by omega
        rw [if_neg h5, if_pos (show (-4 : Int32) < 0 by decide), if_pos (by simp [h6])]
    simp only [hmt, if_neg (nI_ge hl (show mn μ < 2 ^ 31 by omega)), jq1, jq0, hz, e17, gd_nI (show 17 + i < 22 by omega) (show 22 < 2 ^ 31 by decide), nI_clamp (show 17 + i < 2 ^ 31 by omega), hki2, hc]
    by_cases hon2 : isOn on i = true
    · rw [if_pos hon2]
      refine lq1_run (P := fun o => ∃ (t' : St) (y1 : Int32), (y1 = nI (i + 1) ∧ only14 τ t' ∧ NWs t' s sh (fun n => if n < i + 1 then gkn μ sh w on kn n else kn n)) ∧ o = k t' y1) (fun h u y => y = nI h ∧ only14 τ u ∧ NWs u s sh (fun m => if m = i then gbh μ i sh w (kn i) h else (if m < i then gkn μ sh w on kn m else kn m))) (mH μ) ?_ 100000 0 t 0 (Nat.zero_le _) (by omega) ⟨rfl, hot, hNt.ext (fun _ _ => rfl) (fun x _ => ?_)⟩
      · rintro h u y hh ⟨rfl, hou, hNu⟩ k2
        have hpu := hp.o14 hou
        have hu2 : u 0 2 = nI (mH μ) := hpu.2.2.1
        have e1 : nI h + 1 = nI (h + 1) := nI_1 h
        have e1i : nI i + 1 = nI (i + 1) := nI_1 i
        rcases Nat.lt_or_ge h (mH μ) with hhl | hhl
        · by_cases hK0 : kn i = 0
          · refine Or.inr ?_
            simp only [hu2, if_neg (nI_ge hhl (show mH μ < 2 ^ 31 by omega)), hK0, nI_0, if_pos (show (0 : Int32) ≤ 0 by decide), nm_ok, e1i]
            refine hon1 hon2 u hou (hNu.ext (fun _ _ => rfl) (fun x _ => ?_))
            by_cases e : x = i
            · simp only [e, if_true]; rw [hK0, gbh_0, gbh_0]
            · simp only [e, if_false]
          · refine Or.inl ⟨hhl, ?_⟩
            simp only [hu2, if_neg (nI_ge hhl (show mH μ < 2 ^ 31 by omega)), if_neg (nI_nle (show 0 < kn i by omega) (by omega)), nm_ok, e1, M_has hKi16 (show h < 16 by omega), bnd_ok, M_letsOut hpu hw (show h < 16 by omega) hl]
            by_cases a : (kn i).testBit h = true
            · by_cases b : loB μ i h = true
              · simp only [a, b, if_true, c10, if_false]
                refine lq1_run (P := fun o => ∃ (t' : St) (y1 : Int32), (y1 = nI (h + 1) ∧ only14 τ t' ∧ NWs t' s sh (fun m => if m = i then gbh μ i sh w (kn i) (h + 1) else (if m < i then gkn μ sh w on kn m else kn m))) ∧ o = k2 t' y1) (fun d u y => y = nI (d + 1) ∧ only14 τ u ∧ NWs u s sh (fun m => if m = i then gbd μ i sh w (kn i) h d (gbh μ i sh w (kn i) h) else (if m < i then gkn μ sh w on kn m else kn m))) 4 ?_ 100000 0 u 1 (Nat.zero_le _) (by omega) ⟨rfl, hou, hNu⟩
                rintro d u2 y hd ⟨rfl, hou2, hNu2⟩ k3
                have hpu2 := hp.o14 hou2
                rcases Nat.lt_or_ge d 4 with hdl | hdl
                · refine Or.inl ⟨hdl, ?_⟩
                  have h4 : ¬ (4 : Int32) < nI (d + 1) := nI_nlt (b := d + 1) (a := 4) (by omega) (by decide)
                  have hcw : ∀ A B : Ot, (if nI w = 0 then A else if nI w = nI (d + 1) then A else B) = if w = 0 ∨ w = d + 1 then A else B := fun A B => by
                    by_cases e : w = 0
                    · subst e; rw [if_pos nI_0]; simp
                    · rw [if_neg (nI_ne0 (by omega) (by omega))]
                      by_cases e2 : w = d + 1
                      · subst e2; simp
                      · rw [if_neg (fun q => e2 ((nI_eq (by omega) (by omega)).mp q))]; simp [e, e2]
                  simp only [if_neg h4, nm_ok, nI_1, hcw]
                  by_cases c : w = 0 ∨ w = d + 1
                  · rw [if_pos c]
                    obtain ⟨u3, e3, h31, h32⟩ := M_blows hpu2 hw hhl (show 1 ≤ d + 1 by omega) (show d + 1 ≤ 4 by omega) hl hNu2 hsh hKi
                    rw [e3, bnd_ok]
                    refine ⟨u3, _, ⟨rfl, hou2.tr h31, h32.ext (fun _ _ => rfl) (fun x _ => ?_)⟩, rfl⟩
                    by_cases e : x = i
                    · simp only [e, if_true]; rw [gbd, if_pos c]
                    · simp only [e, if_false]
                  · rw [if_neg c]
                    refine ⟨u2, _, ⟨rfl, hou2, hNu2.ext (fun _ _ => rfl) (fun x _ => ?_)⟩, rfl⟩
                    by_cases e : x = i
                    · simp only [e, if_true]; rw [gbd, if_neg c]
                    · simp only [e, if_false]
                · have : d = 4 := by omega
                  subst this
                  refine Or.inr ?_
                  rw [if_pos (show (4 : Int32) < nI (4 + 1) by decide)]
                  refine ⟨u2, _, ⟨rfl, hou2, hNu2.ext (fun _ _ => rfl) (fun x _ => ?_)⟩, rfl⟩
                  by_cases e : x = i
                  · simp only [e, if_true]; rw [gbh, if_pos ⟨a, b⟩]
                  · simp only [e, if_false]
              · simp only [a, b, if_true, c10, c00, if_false]
                refine ⟨u, _, ⟨rfl, hou, hNu.ext (fun _ _ => rfl) (fun x _ => ?_)⟩, rfl⟩
                by_cases e : x = i
                · simp only [e, if_true]; rw [gbh, if_neg (fun q => b q.2)]
                · simp only [e, if_false]
            · simp only [a, if_true, c00, if_false]
              refine ⟨u, _, ⟨rfl, hou, hNu.ext (fun _ _ => rfl) (fun x _ => ?_)⟩, rfl⟩
              by_cases e : x = i
              · simp only [e, if_true]; rw [gbh, if_neg (fun q => a q.1)]
              · simp only [e, if_false]
        · have : h = mH μ := by omega
          subst this
          refine Or.inr ?_
          simp only [hu2, if_pos (nI_le (Nat.le_refl (mH μ)) (show mH μ < 2 ^ 31 by omega)), nm_ok, e1i]
          exact hon1 hon2 u hou hNu
      · by_cases e : x = i
        · subst e; simp [gbh]
        · simp [e]
    · rw [if_neg hon2]
      refine lq1_run (P := fun o => ∃ (t' : St) (y1 : Int32), (y1 = nI (i + 1) ∧ only14 τ t' ∧ NWs t' s sh (fun n => if n < i + 1 then gkn μ sh w on kn n else kn n)) ∧ o = k t' y1) (fun h u y => y = 0 ∧ u = t) 0 ?_ 100000 0 t 0 (Nat.zero_le _) (by omega) ⟨rfl, rfl⟩
      rintro h u y hh ⟨rfl, rfl⟩ k2
      refine Or.inr ?_
      simp only [if_pos (show (0 : Int32) ≤ 0 by decide), nm_ok, nI_1 i]
      split <;> exact hoff (by simpa using hon2)
  · have : i = mn μ := by omega
    subst this
    refine Or.inr ?_
    have e0 : Int32.toNatClampNeg (0 : Int32) = 0 := by decide
    have hg : ∀ k : Ot, gd 0 22 k = k := fun k => gd_nI (j := 0) (by decide) (by decide)
    simp only [hmt, if_pos (nI_le (Nat.le_refl (mn μ)) (show mn μ < 2 ^ 31 by omega)), hg, nm_ok, e0, hNt.1, nI_1 s]
    refine ⟨_, rfl, hot.tr only14.ps, ?_⟩
    refine ⟨ps_same0, fun x hx => ?_, fun x hx => ?_⟩
    · rw [ps_nk0 (by omega)]; exact hNt.2.1 x hx
    · rw [ps_nk0 (by omega), hNt.2.2 x hx]
      by_cases e : x < mn μ
      · simp [e]
      · simp [e, gkn]
