/-! THE LAW FROM ITS ENTRY -/
set_option maxRecDepth 100000 in
theorem nest_in : nestL.all (fun q => decide (Cond.methodLinkNest q.1 q.2.1 q.2.2.1 q.2.2.2 ∈ lw_tbl)) = true := by decide +kernel
set_option maxRecDepth 100000 in
theorem over_in : Cond.arrayOver (.object "NewsDraughts$Standing") ∈ lw_tbl := by decide +kernel
set_option maxRecDepth 100000 in
theorem lays1_in : Cond.laysStatic "java/lang/String" "COMPACT_STRINGS" "Z" ∈ lw_tbl := by decide +kernel
set_option maxRecDepth 100000 in
theorem lays2_in : Cond.laysStatic "jdk/internal/util/Preconditions" "SIOOBE_FORMATTER" "Ljava/util/function/BiFunction;" ∈ lw_tbl := by decide +kernel
set_option maxRecDepth 100000 in
theorem ini1_in : Cond.initialized "java/lang/String" ∈ lw_tbl := by decide +kernel
set_option maxRecDepth 100000 in
theorem ini2_in : Cond.initialized "jdk/internal/util/Preconditions" ∈ lw_tbl := by decide +kernel
set_option maxRecDepth 100000 in
theorem sref_in : Cond.stringRef RX10 95 TXT ∈ lw_tbl := by decide +kernel
def fl0 : List Cond := flatC (Jvm.Cond.and given_1 narrow_1)
abbrev tmS : Term := .string "NewsDraughts" 95
abbrev tmV : Term := .field tmS "java/lang/String" "value" "[B"
set_option maxRecDepth 100000 in
theorem fl_ex : Cond.exactly tmS "java/lang/String" ∈ fl0 := by decide +kernel
set_option maxRecDepth 100000 in
theorem fl_co : Cond.eq (.field tmS "java/lang/String" "coder" "B") (.int 0) ∈ fl0 := by decide +kernel
set_option maxRecDepth 100000 in
theorem fl_ar : Cond.arrayOf tmV .byte ∈ fl0 := by decide +kernel
set_option maxRecDepth 100000 in
theorem fl_le : Cond.eq (.length tmV) (.int (Int32.ofNat 82)) ∈ fl0 := by decide +kernel
set_option maxRecDepth 100000 in
theorem fl_el : ∀ j : Nat, j < 82 → Cond.eq (.elem tmV (.int (Int32.ofNat j))) (.int (txt j)) ∈ fl0 := by decide +kernel
set_option maxRecDepth 100000 in
theorem fl_cs : Cond.eq (.static "java/lang/String" "COMPACT_STRINGS" "Z") (.int 1) ∈ fl0 := by decide +kernel
set_option maxRecDepth 100000 in
theorem fl_si : Cond.isRef (.static "jdk/internal/util/Preconditions" "SIOOBE_FORMATTER" "Ljava/util/function/BiFunction;") ∈ fl0 := by decide +kernel
theorem pi2_blind {D : va_G} {cI cS : ClassId} {sz q0 v0 : Nat} {ws : va_W} {av : List Value} : FrameBlind (va_Pc av (fun U => PIc D cI cS sz ws U ∧ STR q0 v0 (va_A ws sz) U U.heap ∧ vk_R RX10 95 TXT q0 U)) := fun a U g mk q => by
  obtain ⟨q0, h1, h2, h3⟩ := q
  exact ⟨q0, (pi_blind (av := av) a U g mk ⟨q0, h1⟩).2, STR.moved (u := U) (U := U.calling g mk a) (Vm.Alike.refl U.vm) h2, vk_R.same (u := U) (U := U.calling g mk a) rfl h3⟩
/-- a constructor's call of the law's: the new object is the last cell -/
theorem law_init {p : Program} {e : Env} {s : State} {m : MethodId} {below : List Frame} {meth : Method} {c : Code} {l : Launch} {b L : Nat} {xs : Nat → Int32} {D : va_G} (C0 : lw_At p s m meth c b L xs) {H : Heap} {locs : List Loc} {ls : Array Slot} {pc k n n2 d2 k2 s2 index x : Nat} {wr wc : va_W} {W2 : (Nat → Nat) → va_W} {y : MethodName} {c2 : ByteArray} {F : State → Prop} {st : List Value} {lv : List (Nat × Value)}
    (hM : Met l y (.code y c2 n2 none :: wsL_law) (rmI d2 k2 s2) (va_Pc [.ref x] F) (QI D (va_A wc H.size) W2) k2 s2 (va_A wc H.size)) (hbl : FrameBlind (va_Pc [.ref x] F)) (hF : ∀ U : State, U.heap = H → s.WarmedH U.vm → F U) (hP : va_P D vwCl (wr ++ wc) H) (hD : va_D (fun q => s.heap.size ≤ q) (wr ++ wc)) (hS : va_S (fun q => s.heap.size ≤ q) s.heap H locs) (hl : lv_has ls 4 lv)
    (hW2 : Wk y c2 n2 none 0) (hins : Cond.instanceMethod y ∈ wsL_law) (hlink : Cond.methodLink RL index y ∈ wsL_law) (hnm2 : y.name = "<init>") (hd2 : d2 + 1 ≤ 10) (hlo : 8 + (n2 + 11) + 30 * d2 ≤ 398) (hk : k + k2 ≤ 600000) (hs : n + s2 ≤ 7302250) (hcat : (st.map fun v => v.category).sum ≤ 8) (hd : decode code pc = .ok (.invokespecial index, 3))
    (kk : ∀ (q : Nat → Nat) (H1 : Heap) (locs1 : List Loc), va_P D vwCl (wr ++ W2 q) H1 → va_D (fun q => s.heap.size ≤ q) (wr ++ W2 q) → va_S (fun q => s.heap.size ≤ q) s.heap H1 locs1 → W p l e room_1 s m #[Value.ref b] below meth c H1 locs1 (k + k2) (n + s2) (lw_Z below #[Value.ref b] s) (F0 m (pc + 3) ls st)) : W p l e room_1 s m #[Value.ref b] below meth c H locs k n (lw_Z below #[Value.ref b] s) (F0 m pc ls (.ref x :: st)) := by
  obtain ⟨hx, hb, hr, hml, hown, hts, hX, hbl2, hlocks, hgv⟩ := id C0
  have htb : ∀ w ∈ wsL_law, w.before #[Value.ref b] s = true := fun w hw => hts w (wsL_law_in w hw)
  have hA : ∀ q : Nat, va_A wc H.size q → s.heap.size ≤ q := fun q hq => by
    rcases hq with ⟨j, e, hj⟩ | hj
    · exact (D_right hD).2 j (q, e) hj
    · exact Nat.le_trans hS.1 hj
  refine va_callv (a := ([Value.ref x] : List Value).toArray) (A1 := va_A wc H.size) (free := va_A wc H.size) (va_runI (Ts := wsL_law) (own := RL) (As := []) (rest := st) (rm := rmI d2 k2 s2) (mc := k2) (ms := s2) ⟨hx, hb, hml, hown, htb⟩ hM (cwI 0 htb (good_sub hW2.1) rfl rfl rfl (htb _ hW2.2.1) (htb _ hlink) (htb _ hins) hnm2 hW2.2.2 ⟨hd2, hlo⟩) ⟨hbl, fun U hU hW => ⟨rfl, hF U hU hW⟩⟩ rfl rfl hl.1 rfl (lv_room hcat) hd ⟨hk, hs⟩) hS (fun q _ hq => hA q hq) hA (fun u t H1 locs1 ht hvm _ hB hz1 hk1 hS1 => ?_)
  obtain ⟨hP1, hD1⟩ := hB
  rw [ht] at hP1
  have hap := D_apart hD (P_left hP)
  have hPr : va_P D vwCl wr H1 := P_apart (X := []) (P_left hP) hk1 hap
  exact kk u H1 locs1 (va_P.app hPr hP1) (va_D.app (D_left hD) (hD1.weaken (fun j q _ h => hA q.1 h)) (fun i j p q hi hj e => hap i p hi (by rw [e]; exact hD1.2 j q hj))) hS1
set_option maxRecDepth 100000 in
set_option maxHeartbeats 8000000 in
theorem whole_start {p : Program} {e : Env} {s : State} {m : MethodId} {below : List Frame} {meth : Method} {c : Code} (l : Launch) (hflags : l.flags = flags0) {b L : Nat} {xs : Nat → Int32} (hL : L ≤ 384) (C0 : lw_At p s m meth c b L xs) : W p l e room_1 s m #[Value.ref b] below meth c s.heap [] 0 0 (lw_Z below #[Value.ref b] s) (entryFrame m ([Value.ref b] : List Value).toArray 4) := by
  obtain ⟨hx, hb, hr, hml, hown, hts, hX, hbl, hlocks, hgv⟩ := id C0
  have hA : ∀ q : Nat, s.heap.size ≤ q → (fun q : Nat => s.heap.size ≤ q) q := fun _ h => h
  have hA0 : ∀ a : Nat, a < s.heap.size → ¬ (fun q : Nat => s.heap.size ≤ q) a := fun a h => Nat.not_le.mpr h
  have hfl : ∀ c ∈ fl0, c.before #[Value.ref b] s = true := flat_of_before _ hgv
  obtain ⟨c0, iS0, hKn0⟩ := u_known (C := RX0) (T := TX0) (N := 4) (n := 4) hts inX0 (hts _ (wsL_law_in _ bw_2_23))
  obtain ⟨c1, iS1, hKn1⟩ := u_known (C := RX1) (T := TX1) (N := 12) (n := 12) hts inX1 (hts _ (wsL_law_in _ bw_2_11))
  obtain ⟨c2, iS2, hKn2⟩ := u_known (C := RX2) (T := TX2) (N := 9) (n := 9) hts inX2 (hts _ (wsL_law_in _ bw_2_19))
  obtain ⟨c3, iS3, hKn3⟩ := u_known (C := RX3) (T := TX3) (N := 3) (n := 3) hts inX3 (hts _ (wsL_law_in _ bw_2_15))
  obtain ⟨c4, iS4, hKn4⟩ := u_known (C := RX4) (T := TX4) (N := 13) (n := 13) hts inX4 (hts _ (wsL_law_in _ bw_1_21))
  obtain ⟨c5, iS5, hKn5⟩ := u_known (C := RX5) (T := TX5) (N := 3) (n := 3) hts inX5 (hts _ (wsL_law_in _ bw_2_6))
  obtain ⟨c6, iS6, hKn6⟩ := u_known (C := RX6) (T := TX6) (N := 3) (n := 3) hts inX6 (hts _ (wsL_law_in _ bw_1_17))
  obtain ⟨c7, iS7, hKn7⟩ := u_known (C := RX7) (T := TX7) (N := 2) (n := 2) hts inX7 (hts _ (wsL_law_in _ bw_1_13))
  obtain ⟨c8, iS8, hKn8⟩ := u_known (C := RX8) (T := TX8) (N := 7) (n := 7) hts inX8 (hts _ (wsL_law_in _ bw_3_3))
  obtain ⟨c9, iS9, hKn9⟩ := u_known (C := RX9) (T := TX9) (N := 3) (n := 3) hts inX9 (hts _ (wsL_law_in _ bw_2_2))
  obtain ⟨c10, iS10, hKn10⟩ := u_known (C := RX10) (T := TX10) (N := 12) (n := 12) hts inX10 (hts _ (wsL_law_in _ bw_1_1))
  obtain ⟨c11, iS11, hKn11⟩ := u_known (C := RX11) (T := TX11) (N := 32) (n := 32) hts inX11 (hts _ (wsL_law_in _ bw_1_4))
  obtain ⟨dC, dI, hKc⟩ : ∃ (dC : Nat → ClassId) (dI : Nat → Nat → Nat), ∀ (k : Nat) (q : vw_C), vwCl[k]? = some q → u_Kn s q.1 q.2.1 q.2.2 (dC k) (dI k) := by
    refine ⟨fun k => ([c0, c1, c2, c3, c4, c5, c6, c7, c8, c9, c10, c11] : List ClassId).getD k c0, fun k => ([iS0, iS1, iS2, iS3, iS4, iS5, iS6, iS7, iS8, iS9, iS10, iS11] : List (Nat → Nat)).getD k iS0, ?_⟩
    intro k q hq
    match k, hq with
    | 0, hq => cases hq; exact hKn0
    | 1, hq => cases hq; exact hKn1
    | 2, hq => cases hq; exact hKn2
    | 3, hq => cases hq; exact hKn3
    | 4, hq => cases hq; exact hKn4
    | 5, hq => cases hq; exact hKn5
    | 6, hq => cases hq; exact hKn6
    | 7, hq => cases hq; exact hKn7
    | 8, hq => cases hq; exact hKn8
    | 9, hq => cases hq; exact hKn9
    | 10, hq => cases hq; exact hKn10
    | 11, hq => cases hq; exact hKn11
    | k + 12, hq => simp [vwCl] at hq
  obtain ⟨cI, kI, compI, g1, g2, g3⟩ := Cond.arrayClass_spec (hts _ (wsL_law_in _ bw_3_9))
  obtain ⟨compS, cS, kS, f1, f2, f3, f4, f5⟩ := Cond.arrayOver_spec (hts _ over_in)
  have hK : va_K (dC, dI) vwCl (tysN cI cS) s := by
    refine ⟨hKc, fun k q hq => ?_⟩
    match k, hq with
    | 0, hq => cases hq; exact ⟨fun n z => ⟨fun k h => (by cases h), kI, g2, compI, g3⟩, g1⟩
    | 1, hq => cases hq; exact ⟨fun n z => ⟨fun k h => (by cases h), kS, f3, compS, f4⟩, ⟨kS, compS, f3, f4, f1, f5⟩⟩
    | k + 2, hq => simp at hq
  have hN2 : NW2 s := ⟨fun q hq => va_Nw.of rfl (hts _ (of_decide_eq_true (List.all_eq_true.mp nest_in q hq))), va_AO.of (A := #[]) (by
    have h1 := hts _ over_in
    first | exact h1 | exact va_AO.of h1)⟩
  obtain ⟨adK, adV, hVS, hEV⟩ := vk_Sof (args := #[Value.ref b]) (s := s) (N := 1) (tm := fun _ => tmS) (len := [82]) (byt := [txtL]) (A := fun q : Nat => s.heap.size ≤ q) (fun i hi => by rw [show i = 0 by omega]; decide) (fun i hi => hfl _ fl_ex) (fun i hi => hfl _ fl_co) (fun i hi => hfl _ fl_ar) (fun i hi => by rw [show i = 0 by omega]; exact hfl _ fl_le) (fun i hi j hj => by rw [show i = 0 by omega] at hj ⊢; exact hfl _ (fl_el j hj)) (fun i j hi hj hne => absurd (by omega) hne) hA0
  have hE : STR (adK 0) (adV 0) (fun q : Nat => s.heap.size ≤ q) s s.heap := ⟨(hVS.1 0 (by decide)).1, (hVS.1 0 (by decide)).2.1, (hVS.1 0 (by decide)).2.2.1, (hVS.1 0 (by decide)).2.2.2, va_Zof (hts _ lays1_in) (hts _ ini1_in) (va_eqi (hfl _ fl_cs)) hA0, va_Zqof (hts _ lays2_in) (hts _ ini2_in) (hfl _ fl_si) hA0⟩
  have hR : vk_R RX10 95 TXT (adK 0) s := vk_R.of (hts _ sref_in) (hEV 0 (by decide))
  obtain ⟨r, r2, hi1, hi2, hRel⟩ := st_init
  have hS : va_S (fun q : Nat => s.heap.size ≤ q) s.heap s.heap [] := va_S.rf
  have hP : va_P (dC, dI) vwCl [] s.heap := fun k q h => by simp at h
  have hD : va_D (fun q : Nat => s.heap.size ≤ q) [] := ⟨fun i j p q h => by simp at h, fun k q h => by simp at h⟩
  have hl := lv_entry ([.ref b]) (n := 4) (Nat.le_of_ble_eq_true rfl)
  rw [lg_entry_eq]
  generalize (lg_sl ([.ref b]) ++ List.replicate (4 - (lg_sl ([.ref b])).length) Slot.unset).toArray = ls at hl ⊢
  have hl : lv_has ls 4 [(0, .ref b)] := hl
  refine va_new (ci := 10) (fs := [.null, .null, .null, .null, .null, .null, .null, .null, .null, .null, .null, .null]) (C := RX10) (T := TX10) (N := 12) hx hb hts inX10 tyX10 tyX10_ok hown (hts _ (wsL_law_in _ bw_1_0)) (hts _ (wsL_law_in _ bw_1_1)) (hts _ (wsL_law_in _ bw_1_2)) hK hP hD hS hA rfl (fun j hj => by rcases (show j = 0 ∨ j = 1 ∨ j = 2 ∨ j = 3 ∨ j = 4 ∨ j = 5 ∨ j = 6 ∨ j = 7 ∨ j = 8 ∨ j = 9 ∨ j = 10 ∨ j = 11 by omega) with rfl | rfl | rfl | rfl | rfl | rfl | rfl | rfl | rfl | rfl | rfl | rfl <;> rfl) (Nat.le_of_ble_eq_true rfl) (Nat.le_of_ble_eq_true rfl) dL_law_0 (fun h0 H hP hD hS => ?_)
  refine lv_dup (pc := 3) hx hb dL_law_3 rfl ?_
  refine law_init (pc := 4) (wr := []) (wc := [(h0, .inr (10, [.null, .null, .null, .null, .null, .null, .null, .null, .null, .null, .null, .null]))]) C0 (ki_X10_init hi1 h0 H.size (adK 0) (adV 0)) pi2_blind (fun U hU hW => ⟨⟨by rw [hU], by rw [hU]; exact hP, va_K.moved hW.alike hK, NW2.warm hW hN2, hD.weaken (fun _ _ _ _ => trivial)⟩, by
      rw [hU]
      refine STR.moved hW.alike ((hE.kept hS.2.1).narrow (fun z hz => ?_))
      rcases hz with ⟨j, e, hj⟩ | hj
      · exact hD.2 j (z, e) hj
      · exact Nat.le_trans hS.1 hj, vk_R.warm hW hR⟩) hP hD hS hl wk_X10_init bw_1_7 bw_1_6 rfl (by decide) (by decide) (Nat.le_of_ble_eq_true rfl) (Nat.le_of_ble_eq_true rfl) (Nat.le_of_ble_eq_true rfl) dL_law_4 (fun qa H locs hP hD hS => ?_)
  refine lv_astore_n (pc := 7) (lv' := [(1, .ref h0), (0, .ref b)]) hx hb dL_law_7 rfl hl (by decide) rfl (fun ls hl => ?_)
  refine va_new (ci := 11) (fs := [.int 0, .int 0, .int 0, .null, .int 0, .null, .int 0, .null, .null, .int 0, .null, .int 0, .null, .int 0, .null, .null, .int 0, .int 0, .null, .int 0, .int 0, .int 0, .null, .null, .int 0, .null, .int 0, .null, .null, .int 0, .int 0, .int 0]) (C := RX11) (T := TX11) (N := 32) hx hb hts inX11 tyX11 tyX11_ok hown (hts _ (wsL_law_in _ bw_1_3)) (hts _ (wsL_law_in _ bw_1_4)) (hts _ (wsL_law_in _ bw_1_5)) hK hP hD hS hA rfl (fun j hj => by rcases (show j = 0 ∨ j = 1 ∨ j = 2 ∨ j = 3 ∨ j = 4 ∨ j = 5 ∨ j = 6 ∨ j = 7 ∨ j = 8 ∨ j = 9 ∨ j = 10 ∨ j = 11 ∨ j = 12 ∨ j = 13 ∨ j = 14 ∨ j = 15 ∨ j = 16 ∨ j = 17 ∨ j = 18 ∨ j = 19 ∨ j = 20 ∨ j = 21 ∨ j = 22 ∨ j = 23 ∨ j = 24 ∨ j = 25 ∨ j = 26 ∨ j = 27 ∨ j = 28 ∨ j = 29 ∨ j = 30 ∨ j = 31 by omega) with rfl | rfl | rfl | rfl | rfl | rfl | rfl | rfl | rfl | rfl | rfl | rfl | rfl | rfl | rfl | rfl | rfl | rfl | rfl | rfl | rfl | rfl | rfl | rfl | rfl | rfl | rfl | rfl | rfl | rfl | rfl | rfl <;> rfl) (Nat.le_of_ble_eq_true rfl) (Nat.le_of_ble_eq_true rfl) dL_law_8 (fun h1 H hP hD hS => ?_)
  refine lv_dup (pc := 11) hx hb dL_law_11 rfl ?_
  refine law_init (pc := 12) (wr := cN (adr h0 qa) cI cS r.2) (wc := [(h1, .inr (11, [.int 0, .int 0, .int 0, .null, .int 0, .null, .int 0, .null, .null, .int 0, .null, .int 0, .null, .int 0, .null, .null, .int 0, .int 0, .null, .int 0, .int 0, .int 0, .null, .null, .int 0, .null, .int 0, .null, .null, .int 0, .int 0, .int 0]))]) C0 (ki_X11_init hi2 h1 H.size) pi_blind (fun U hU hW => ⟨by rw [hU], by rw [hU]; exact P_right hP, va_K.moved hW.alike hK, NW2.warm hW hN2, (D_right hD).weaken (fun _ _ _ _ => trivial)⟩) hP hD hS hl wk_X11_init bw_13_22 bw_13_21 rfl (by decide) (by decide) (Nat.le_of_ble_eq_true rfl) (Nat.le_of_ble_eq_true rfl) (Nat.le_of_ble_eq_true rfl) dL_law_12 (fun qb H locs hP hD hS => ?_)
  refine lv_astore_n (pc := 15) (lv' := [(2, .ref h1), (1, .ref h0), (0, .ref b)]) hx hb dL_law_15 rfl hl (by decide) rfl (fun ls hl => ?_)
  refine lv_iconst (pc := 16) (v := 0) hx hb dL_law_16 (by decide) ?_
  refine lv_istore_n (pc := 17) (lv' := [(3, .int 0), (2, .ref h1), (1, .ref h0), (0, .ref b)]) hx hb dL_law_17 rfl hl (by decide) rfl (fun ls hl => ?_)
  have hDN := D_left hD
  have hDM := D_right hD
  have hcross : ∀ i j : Nat, i < 67 → j < 15 → adr h0 qa i ≠ adr h1 qb j := by
    intro i j hi hj he
    obtain ⟨x, hx1⟩ := cN_at (a := adr h0 qa) (cI := cI) (cS := cS) (σ := r.2) hi
    obtain ⟨y, hy1⟩ := cM_at (a := adr h1 qb) (cI := cI) (σ := r2.2) hj
    have e1 : (cN (adr h0 qa) cI cS r.2 ++ cM (adr h1 qb) cI r2.2)[i]? = some (adr h0 qa i, x) := by rw [List.getElem?_append_left (List.getElem?_eq_some_iff.mp hx1).1]; exact hx1
    have hlen : (cN (adr h0 qa) cI cS r.2).length = 67 := rfl
    have e2 : (cN (adr h0 qa) cI cS r.2 ++ cM (adr h1 qb) cI r2.2)[67 + j]? = some (adr h1 qb j, y) := by rw [List.getElem?_append_right (by omega), hlen, show 67 + j - 67 = j by omega]; exact hy1
    have := hD.1 i (67 + j) _ _ e1 e2 he
    omega
  have hLC : LC p e s m below meth c l b L xs (dC, dI) (adr h0 qa) (adr h1 qb) cI cS (0 + 1 + 66 + 1 + 14) (0 + 12 + 715 + 32 + 585) := ⟨C0, hL, hK, hN2.1, cN_inj hDN, cM_inj hDM, hcross, fun i hi => cN_sub hDN _ ⟨i, hi, rfl⟩, fun i hi => cM_sub hDM _ ⟨i, hi, rfl⟩, Nat.le_of_ble_eq_true rfl, Nat.le_of_ble_eq_true rfl⟩
  exact law_loop hLC hL 65 0 rfl (by omega) r.2 r2.2 hRel hLC H locs (P_left hP) (P_right hP) hS ls (lv_sub hl [3, 2, 1, 0] rfl)
