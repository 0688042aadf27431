/-! openings: the system -/
def up1 (sh : Nat → Nat) (h o : Nat) : Nat → Nat := fun x => if x = h then o else sh x
theorem up1_up1 {sh : Nat → Nat} {h a b : Nat} : up1 (up1 sh h a) h b = up1 sh h b := by
  funext x; unfold up1; by_cases e : x = h <;> simp [e]
theorem up1_id {sh : Nat → Nat} {h : Nat} : up1 sh h (sh h) = sh := by
  funext x; unfold up1; by_cases e : x = h <;> simp [e]
def tB (d o : Nat) : Bool := decide (0 < o) && decide (d ≤ o)
def gB (d o : Nat) : Bool := decide (0 < o) && decide (d ≤ o + 1)
def anB (d o : Nat) : Bool := decide (o = 0) || (tB d o != tB d (o - 1)) || (gB d o != gB d (o - 1))
theorem liB_tg {μ : Mu} {n h t : Nat} {sh : Nat → Nat} : liB μ n sh h t = if μ 1 h = 1 then gB (nd μ n t) (sh t) else tB (nd μ n t) (sh t) := by
  unfold liB gB tB
  by_cases e : μ 1 h = 1 <;> simp [e]
theorem nx_li {μ : Mu} (hw : WP μ) {n w K : Nat} {sh sh' : Nat → Nat} (h : ∀ h t, t < mH μ → liB μ n sh h t = liB μ n sh' h t) : nx μ n sh w K = nx μ n sh' w K := by
  apply Nat.eq_of_testBit_eq
  intro t
  rw [Bool.eq_iff_iff, nx_tb, nx_tb]
  have key : ∀ (a b : Nat → Nat), (∀ h t, t < mH μ → liB μ n a h t = liB μ n b h t) → (K.testBit t = true ∨ ∃ h d, h < mH μ ∧ 1 ≤ d ∧ d ≤ 4 ∧ (w = 0 ∨ w = d) ∧ K.testBit h = true ∧ loB μ n h = true ∧ bsd μ h d = some t ∧ liB μ n a h t = true) → (K.testBit t = true ∨ ∃ h d, h < mH μ ∧ 1 ≤ d ∧ d ≤ 4 ∧ (w = 0 ∨ w = d) ∧ K.testBit h = true ∧ loB μ n h = true ∧ bsd μ h d = some t ∧ liB μ n b h t = true) := by
    rintro a b hab (q | ⟨h, d, h1, h2, h3, h4, h5, h6, h7, h8⟩)
    · exact Or.inl q
    · exact Or.inr ⟨h, d, h1, h2, h3, h4, h5, h6, h7, by rw [← hab h t (bsd_lt hw h1 h7)]; exact h8⟩
  exact ⟨key sh sh' h, key sh' sh (fun x t ht => (h x t ht).symm)⟩
theorem alg_li {μ : Mu} (hw : WP μ) {n s K : Nat} {sh sh' : Nat → Nat} (h : ∀ h t, t < mH μ → liB μ n sh h t = liB μ n sh' h t) : ∀ m, alg μ n sh s m K = alg μ n sh' s m K
  | 0 => rfl
  | m + 1 => by
    show nx μ n sh _ (alg μ n sh s m K) = nx μ n sh' _ (alg μ n sh' s m K)
    rw [alg_li hw h m, nx_li hw h]
/-- a width that is no other thing than the one below -/
theorem an_li {μ : Mu} {n h o : Nat} {base : Nat → Nat} (ha : anB (nd μ n h) o = false) : ∀ g t, liB μ n (up1 base h o) g t = liB μ n (up1 base h (o - 1)) g t := fun g t => by
  rw [liB_tg, liB_tg]
  unfold anB at ha
  simp only [Bool.or_eq_false_iff, bne_eq_false_iff_eq] at ha
  by_cases e : t = h
  · subst e
    have e1 : up1 base t o t = o := by unfold up1; simp
    have e2 : up1 base t (o - 1) t = o - 1 := by unfold up1; simp
    rw [e1, e2, ha.1.2, ha.2]
  · have e1 : up1 base h o t = base t := by unfold up1; simp [e]
    have e2 : up1 base h (o - 1) t = base t := by unfold up1; simp [e]
    rw [e1, e2]
theorem N_isAnother {σ : St} {h o d : Nat} (hh : h < 16) (hd : σ 58 h = nI d) (h1 : 1 ≤ d) (h5 : d ≤ 5) (ho : o ≤ 6) : f_X1_isAnother__56 σ (nI h) (nI o) = some (if anB d o = true then 1 else 0, σ) := by
  unfold f_X1_isAnother__56 anB
  simp only [jq0]
  by_cases e : o = 0
  · subst e; rw [if_pos (by decide)]; simp
  · have hlt : ¬ nI o < (1 : Int32) := nI_nlt (b := 1) (by omega) (by omega)
    have hs : nI o - 1 = nI (o - 1) := pk_sub (b := 1) (by omega)
    have a1 : f_X1_letsInFromTalkers__56 σ (nI h) (nI o) = some (if tB d o = true then 1 else 0, σ) := N_lT hh hd h5 ho
    have a2 : f_X1_letsInFromTalkers__56 σ (nI h) (nI (o - 1)) = some (if tB d (o - 1) = true then 1 else 0, σ) := N_lT hh hd h5 (by omega)
    have a3 : f_X1_letsInFromGossips__56 σ (nI h) (nI o) = some (if gB d o = true then 1 else 0, σ) := N_lG hh hd h1 h5 ho
    have a4 : f_X1_letsInFromGossips__56 σ (nI h) (nI (o - 1)) = some (if gB d (o - 1) = true then 1 else 0, σ) := N_lG hh hd h1 h5 (by omega)
    rw [if_neg hlt, hs, a1, bnd_ok, a2, bnd_ok, a3, bnd_ok, a4, bnd_ok]
    cases tB d o <;> cases tB d (o - 1) <;> cases gB d o <;> cases gB d (o - 1) <;> simp [e]
def ov4 (w : Option Nat) : Int32 := match w with
  | none => -4
  | some a => nI a
def ZN (σ : St) (m kw nw : Nat) : Prop := σ 60 3 = nI m ∧ σ 60 4 = nI kw ∧ σ 60 5 = nI nw
theorem ZN.fr {σ σ' : St} {m kw nw : Nat} (h : ZN σ m kw nw) (hf : frD σ σ') : ZN σ' m kw nw := by
  unfold ZN; rw [hf 60 (by decide) (by decide) (by decide)]; exact h
theorem N_isSo {σ : St} {m kw nw X : Nat} (h : ZN σ m kw nw) (hX : X < 65536) (hk : kw < 65536) : f_X2_isSo__60 σ (nI X) = some (if soM kw nw X = true then 1 else 0, σ) := by
  unfold f_X2_isSo__60 soM
  rw [h.2.1, h.2.2, nx_and, nx_and]
  have q1 : (nI (X &&& kw) = nI kw) = (X &&& kw = kw) := nI_eqB (by have := and_16 (b := kw) hX; omega) (by omega)
  have q2 : (nI (X &&& nw) = (0 : Int32)) = (X &&& nw = 0) := nI_eqB (b := 0) (by have := and_16 (b := nw) hX; omega) (by decide)
  simp only [jq0, q1, q2]
  by_cases c : X &&& kw = kw <;> by_cases d : X &&& nw = 0 <;> simp [c, d]
/-- one try -/
theorem N_try {σ : St} {μ : Mu} (hq : QN σ μ) (hy : HY μ) {n m kw nw : Nat} {sh : Nat → Nat} (hn : n < mn μ) (hm12 : m ≤ 12) (hk : kw < 65536) (hz : ZN σ m kw nw) (hd : DR σ μ n (KW μ n) sh) : bnd (f_X1_whoKnows__56 σ) (fun r20 s21 => bnd (f_X1_along__56 s21 r20 (0 : Int32) (s21 60 3)) (fun r22 s23 => f_X2_isSo__60 s23 r22)) = some (if PS μ n m kw nw sh = true then 1 else 0, σ) := by
  have ha := N_along hy.1 hq.1 hd hq.2.1 (by have := hy.2.1; omega) (KWl hy hn) (Nat.zero_le m) (by omega)
  have ha2 : f_X1_along__56 σ (nI (KW μ n)) 0 (nI m) = some (nI (alg μ n sh (μ 6 0) m (KW μ n)), σ) := ha
  unfold f_X1_whoKnows__56
  rw [bnd_ok, hd.1, hz.1, ha2, bnd_ok, N_isSo hz (lt_16 hy.1 (alg_lt hy.1 (KWl hy hn) _)) hk]
  rfl
def fwO (μ : Mu) (n m kw nw : Nat) (base : Nat → Nat) (h : Nat) : Option Nat := ff (fun o => PS μ n m kw nw (up1 base h o)) 7 0
theorem N_fit {σ : St} {μ : Mu} (hq : QN σ μ) (hy : HY μ) {n m kw nw h : Nat} {base : Nat → Nat} (hn : n < mn μ) (hm12 : m ≤ 12) (hk : kw < 65536) (hz : ZN σ m kw nw) (hd : DR σ μ n (KW μ n) base) (hh : h < mH μ) (hb : base h = SH μ h) : ∃ σ', f_X2_fittingWidth__60 σ (nI h) = some (ov4 (fwO μ n m kw nw base h), σ') ∧ frD σ σ' ∧ DR σ' μ n (KW μ n) base := by
  have hH := mH_pos hy.1
  have hkn := hy.1.2.2.2.2.2.1 n hn
  have hnd : 1 ≤ nd μ n h ∧ nd μ n h ≤ 5 := by unfold nd; split <;> omega
  have fin : ∀ (t : St) (o0 : Nat) (x : Int32), frD σ t → DR t μ n (KW μ n) (up1 base h o0) → x = ov4 (fwO μ n m kw nw base h) → ∃ σ', bnd (f_X9_sashOf__19 t (nI h)) (fun r8 s9 => bnd (f_X1_reopen__56 s9 (nI h) r8) (fun r10 s11 => some (x, s11))) = some (ov4 (fwO μ n m kw nw base h), σ') ∧ frD σ σ' ∧ DR σ' μ n (KW μ n) base := fun t o0 x hft hdt hx => by
    have hsa : f_X9_sashOf__19 t (nI h) = some (nI (SH μ h), t) := by
      simp only [f_X9_sashOf__19, at_20 (show h < 16 by omega), bnd_ok]
      rw [(hq.fr hft).2.2.1 h (by omega)]; rfl
    obtain ⟨v, g1, g2, g3⟩ := N_reopen hy.1 hn hdt hh (hy.2.2.1 h (by omega))
    refine ⟨v, by rw [hsa, bnd_ok, g1, bnd_ok, hx], hft.tr g2, g3.ext (fun x _ => ?_)⟩
    show (if x = h then SH μ h else (if x = h then o0 else base x)) = base x
    by_cases e : x = h
    · subst e; rw [if_pos rfl, hb]
    · rw [if_neg e, if_neg e]
  unfold f_X2_fittingWidth__60
  refine lq2_run (P := fun o => ∃ σ', o = some (ov4 (fwO μ n m kw nw base h), σ') ∧ frD σ σ' ∧ DR σ' μ n (KW μ n) base) (fun i t x y => y = nI i ∧ frD σ t ∧ (∃ o0, DR t μ n (KW μ n) (up1 base h o0)) ∧ ((x = -4 ∧ (1 ≤ i → PS μ n m kw nw (up1 base h (i - 1)) = false) ∧ fwO μ n m kw nw base h = ff (fun o => PS μ n m kw nw (up1 base h o)) (7 - i) i) ∨ ∃ o, o ≤ 6 ∧ x = nI o ∧ fwO μ n m kw nw base h = some o)) 7 ?_ 100000 0 σ (-4) 0 (Nat.zero_le _) (by omega) ⟨rfl, frD.rf, ⟨base h, by rw [up1_id]; exact hd⟩, Or.inl ⟨rfl, fun q => by omega, rfl⟩⟩
  rintro i t x y hi ⟨rfl, hft, ⟨o0, hdt⟩, hx⟩ k
  rw [show ∀ (A : St → Ot) (B : (St → Ot) → Ot), jq0 A B = B A from fun _ _ => rfl]
  dsimp only
  have hqt := hq.fr hft
  rcases Nat.lt_or_ge i 7 with hl | hl
  · have h6 : ¬ (6 : Int32) < nI i := nI_nlt (b := i) (a := 6) (by omega) (by decide)
    rw [if_neg h6]
    rcases hx with ⟨rfl, hp1, hff⟩ | ⟨o, h1, rfl, h3⟩
    · rw [if_pos rfl]
      rw [show ∀ (A : St → Int32 → Ot) (B : (St → Int32 → Ot) → Ot), jq1 A B = B A from fun _ _ => rfl]
      dsimp only
      have hff2 : fwO μ n m kw nw base h = if PS μ n m kw nw (up1 base h i) = true then some i else ff (fun o => PS μ n m kw nw (up1 base h o)) (7 - (i + 1)) (i + 1) := by
        rw [hff, show 7 - i = (7 - (i + 1)) + 1 by omega]; rfl
      rw [N_isAnother (show h < 16 by omega) (hdt.2.2.2.2.2.2.2.2.2 h hh) hnd.1 hnd.2 (show i ≤ 6 by omega), bnd_ok]
      refine Or.inl ⟨hl, ?_⟩
      cases han : anB (nd μ n h) i with
      | false =>
        have t0 : (if false = true then (1 : Int32) else 0) = 0 := rfl
        rw [t0, if_pos rfl, nm_ok, nI_1]
        have hi1 : 1 ≤ i := by
          rcases Nat.eq_zero_or_pos i with q | q
          · subst q; simp [anB] at han
          · exact q
        have hps : PS μ n m kw nw (up1 base h i) = false := by
          rw [← hp1 hi1]
          unfold PS
          rw [alg_li hy.1 (fun g t _ => an_li han g t)]
        rw [hps, if_neg (by decide)] at hff2
        exact ⟨t, _, _, ⟨rfl, hft, ⟨o0, hdt⟩, Or.inl ⟨rfl, fun _ => hps, hff2⟩⟩, rfl⟩
      | true =>
        have t1 : (if true = true then (1 : Int32) else 0) = 1 := rfl
        obtain ⟨v, g1, g2, g3⟩ := N_reopen hy.1 hn hdt hh (show i ≤ 6 by omega)
        have g3' : DR v μ n (KW μ n) (up1 base h i) := by
          have : (fun x => if x = h then i else up1 base h o0 x) = up1 base h i := up1_up1
          rw [this] at g3; exact g3
        have ht := N_try (hqt.fr g2) hy hn hm12 hk ((hz.fr hft).fr g2) g3'
        rw [t1, if_neg n10, g1, bnd_ok]
        have hz3 : v 60 3 = nI m := ((hz.fr hft).fr g2).1
        unfold f_X1_whoKnows__56 at ht ⊢
        rw [bnd_ok, hz3, g3'.1] at ht ⊢
        have ha := N_along hy.1 (hqt.fr g2).1 g3' (hqt.fr g2).2.1 (by have := hy.2.1; omega) (KWl hy hn) (Nat.zero_le m) (show m ≤ 100 by omega)
        have ha2 : f_X1_along__56 v (nI (KW μ n)) 0 (nI m) = some (nI (alg μ n (up1 base h i) (μ 6 0) m (KW μ n)), v) := ha
        rw [ha2, bnd_ok] at ht ⊢
        rw [ht, bnd_ok]
        cases hp : PS μ n m kw nw (up1 base h i) with
        | false =>
          have t0 : (if false = true then (1 : Int32) else 0) = 0 := rfl
          rw [t0, if_pos rfl, nm_ok, nI_1]
          rw [hp, if_neg (by decide)] at hff2
          exact ⟨v, _, _, ⟨rfl, hft.tr g2, ⟨i, g3'⟩, Or.inl ⟨rfl, fun _ => hp, hff2⟩⟩, rfl⟩
        | true =>
          rw [t1, if_neg n10, nm_ok, nI_1]
          rw [hp, if_pos rfl] at hff2
          exact ⟨v, _, _, ⟨rfl, hft.tr g2, ⟨i, g3'⟩, Or.inr ⟨i, by omega, rfl, hff2⟩⟩, rfl⟩
    · have hx4 : ¬ nI o = (-4 : Int32) := fun z => by
        have q := nI_pos (n := o) (by omega)
        rw [z] at q
        exact q (by decide)
      rw [if_neg hx4]
      exact Or.inr (fin t o0 (nI o) hft hdt (by rw [h3]; rfl))
  · have : i = 7 := by omega
    subst this
    rw [if_pos (show (6 : Int32) < nI 7 by decide)]
    refine Or.inr (fin t o0 x hft hdt ?_)
    rcases hx with ⟨rfl, hp1, hff⟩ | ⟨o, h1, rfl, h3⟩
    · rw [hff]; rfl
    · rw [h3]; rfl
