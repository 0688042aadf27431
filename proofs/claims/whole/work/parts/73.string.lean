/-! THE TEXT: what the tables say of it, and the JDK's methods over it -/
def txtL : List Int32 := [103, 51, 44, 52, 59, 104, 49, 44, 49, 44, 51, 59, 104, 52, 44, 50, 44, 52, 59, 104, 54, 44, 51, 44, 53, 59, 104, 57, 44, 52, 44, 50, 59, 104, 49, 48, 44, 48, 44, 48, 59, 104, 49, 49, 44, 49, 44, 49, 59, 110, 48, 44, 49, 44, 48, 59, 110, 49, 44, 50, 44, 53, 59, 110, 50, 44, 51, 44, 56, 59, 119, 50, 59, 119, 51, 59, 119, 48, 59, 119, 49, 59]
def txt (j : Nat) : Int32 := txtL.getD j 0
def STR (q v : Nat) (A : Nat → Prop) (U : State) (H : Heap) : Prop := va_O "java/lang/String" q A U H ∧ va_OF "java/lang/String" "coder" "B" (.int 0) q A U H ∧ va_OF "java/lang/String" "value" "[B" (.ref v) q A U H ∧ va_T .byte v 82 (fun j => .int (txt j)) A U H ∧ va_Z "java/lang/String" "COMPACT_STRINGS" "Z" (.int 1) A U H ∧ va_Zq "jdk/internal/util/Preconditions" "SIOOBE_FORMATTER" "Ljava/util/function/BiFunction;" A U H
theorem STR.moved {q v : Nat} {A : Nat → Prop} {u U : State} {H : Heap} (hvm : u.vm.Alike U.vm) (h : STR q v A u H) : STR q v A U H := ⟨va_O.moved hvm h.1, va_OF.moved hvm h.2.1, va_OF.moved hvm h.2.2.1, va_T.moved hvm h.2.2.2.1, va_Z.moved hvm h.2.2.2.2.1, va_Zq.moved hvm h.2.2.2.2.2⟩
theorem STR.kept {q v : Nat} {A : Nat → Prop} {U : State} {H H1 : Heap} (h : STR q v A U H) (hq : ∀ a : Nat, a < H.size → ¬ A a → H1[a]? = H[a]?) : STR q v A U H1 := ⟨h.1.kept hq, h.2.1.kept hq, h.2.2.1.kept hq, h.2.2.2.1.kept hq, h.2.2.2.2.1.kept hq, h.2.2.2.2.2.kept hq⟩
theorem STR.narrow {q v : Nat} {A B : Nat → Prop} {U : State} {H : Heap} (h : STR q v A U H) (hAB : ∀ z, B z → A z) : STR q v B U H := ⟨h.1.narrow hAB, h.2.1.narrow hAB, h.2.2.1.narrow hAB, h.2.2.2.1.narrow hAB, h.2.2.2.2.1.narrow hAB, h.2.2.2.2.2.narrow hAB⟩
abbrev SF (q v : Nat) (U : State) : Prop := STR q v (fun _ => False) U U.heap
theorem sf_to {q v : Nat} {s U : State} (hE : SF q v s) (h : U.heap = s.heap) (ha : s.vm.Alike U.vm) : SF q v U := by
  show STR q v _ U U.heap
  rw [h]; exact STR.moved ha hE
def KJ (l : Launch) (y : MethodName) (cc : ByteArray) (nL : Nat) (rk : Option FieldType) (d : Nat) (av : List Value) (F : State → Prop) (Q : Array Value → State → Outcome → State → Prop) : Prop := Met l y (.code y cc nL rk :: wsL_law) (rmD d) (va_Pc av F) Q 0 0 (fun _ => False)
theorem sf_blind {q v : Nat} {av : List Value} : FrameBlind (va_Pc av (SF q v)) := fun a U g mk h => by
  obtain ⟨h0, h1⟩ := h
  exact ⟨h0, STR.moved (u := U) (U := U.calling g mk a) (Vm.Alike.refl U.vm) h1⟩
theorem sub_words {y : MethodName} {cc : ByteArray} {nL n index : Nat} {rk : Option FieldType} {own C : String} (h1 : Wk y cc nL rk n) (h2 : Wv y) (h3 : Cond.methodLink own index y ∈ wsL_law) (hC : y.cls = C := by rfl) : GoodIn wsL_law (wsV own index C y (.code y cc nL rk :: wsL_law)) := fun w hw => by
  subst hC
  have hw2 : w ∈ wsL_law := by
    rcases List.mem_append.mp hw with hw | hw
    · simp only [List.mem_cons, List.not_mem_nil, or_false] at hw
      rcases hw with rfl | rfl | rfl | rfl
      · exact h3
      · exact h2.1
      · exact h2.2
      · exact h1.2.1
    · exact (good_sub h1.1 w hw).1
  exact ⟨hw2, big_in hw2⟩
set_option maxRecDepth 100000 in
set_option maxHeartbeats 4000000 in
theorem kj_coder {l : Launch} {q v : Nat} : KJ l yJ0_coder_7d493 cJ0_coder_7d493 1 (some .byte) 0 [.ref q] (SF q v) (vp_Si (fun r => r = 0)) := by
  refine met_ofWF (cc := cJ0_coder_7d493) (maxL := 1) (ret := (some .byte)) (by decide +kernel) rfl ?_
  intro p e s m args below meth c s₁ B hml hv
  obtain ⟨rfl, hE⟩ := hv
  have hx := B.exec
  have hb := B.bytes
  have hr := B.returns
  have hts0 := atoms_spec (ws := .code yJ0_coder_7d493 cJ0_coder_7d493 1 (some .byte) :: wsL_law) B.pre
  have hts : ∀ w ∈ wsL_law, w.before (([.ref q] : List Value).toArray) s = true := fun w hw => hts0 w (List.mem_cons_of_mem _ hw)
  have hown : s.vm.findClass RJ0 = some m.cls := findClass_of_methodNamed B.named
  have hlocks := B.notSynchronized
  have hS : va_S (fun _ => False) s.heap s.heap [] := va_S.rf
  have hl := lv_entry [.ref q] (n := 1) (Nat.le_of_ble_eq_true rfl)
  rw [lg_entry_eq]
  generalize (lg_sl [.ref q] ++ List.replicate (1 - (lg_sl [.ref q]).length) Slot.unset).toArray = ls at hl ⊢
  have hl : lv_has ls 1 [(0, .ref q)] := hl
  refine va_gets (pc := 0) hx hb hE.2.2.2.2.1 hS hown (hts _ bw_7_18) (fun _ h9 => h9) dJ0_coder_7d493_0 ?_
  refine lv_if_eq (pc := 3) (tgt := 13) hx hb dJ0_coder_7d493_3 (by decide) (fun z => absurd z (by decide)) (fun _ => ?_)
  refine lv_aload_n (pc := 6) hx hb dJ0_coder_7d493_6 rfl (lv_at hl 0 rfl) ?_
  refine vk_getf (pc := 7) hx hb hE.2.1 hS hown (hts _ bw_7_19) (fun _ h9 => h9) dJ0_coder_7d493_7 ?_
  refine lv_goto (pc := 10) (tgt := 14) hx hb dJ0_coder_7d493_10 (by decide) ?_
  exact W.zret (v := 0) (ty := .byte) hx hb hr (by decide) (fun t ht hW => ⟨0, rfl, rfl, ht⟩) (fun z hz => by cases hz) dJ0_coder_7d493_14 hlocks
set_option maxRecDepth 100000 in
set_option maxHeartbeats 4000000 in
theorem kj_isLatin1 {l : Launch} {q v : Nat} : KJ l yJ0_isLatin1_aae02 cJ0_isLatin1_aae02 1 (some .boolean) 0 [.ref q] (SF q v) (vp_Si (fun r => r = 1)) := by
  refine met_ofWF (cc := cJ0_isLatin1_aae02) (maxL := 1) (ret := (some .boolean)) (by decide +kernel) rfl ?_
  intro p e s m args below meth c s₁ B hml hv
  obtain ⟨rfl, hE⟩ := hv
  have hx := B.exec
  have hb := B.bytes
  have hr := B.returns
  have hts0 := atoms_spec (ws := .code yJ0_isLatin1_aae02 cJ0_isLatin1_aae02 1 (some .boolean) :: wsL_law) B.pre
  have hts : ∀ w ∈ wsL_law, w.before (([.ref q] : List Value).toArray) s = true := fun w hw => hts0 w (List.mem_cons_of_mem _ hw)
  have hown : s.vm.findClass RJ0 = some m.cls := findClass_of_methodNamed B.named
  have hlocks := B.notSynchronized
  have hS : va_S (fun _ => False) s.heap s.heap [] := va_S.rf
  have hl := lv_entry [.ref q] (n := 1) (Nat.le_of_ble_eq_true rfl)
  rw [lg_entry_eq]
  generalize (lg_sl [.ref q] ++ List.replicate (1 - (lg_sl [.ref q]).length) Slot.unset).toArray = ls at hl ⊢
  have hl : lv_has ls 1 [(0, .ref q)] := hl
  refine va_gets (pc := 0) hx hb hE.2.2.2.2.1 hS hown (hts _ bw_7_18) (fun _ h9 => h9) dJ0_isLatin1_aae02_0 ?_
  refine lv_if_eq (pc := 3) (tgt := 17) hx hb dJ0_isLatin1_aae02_3 (by decide) (fun z => absurd z (by decide)) (fun _ => ?_)
  refine lv_aload_n (pc := 6) hx hb dJ0_isLatin1_aae02_6 rfl (lv_at hl 0 rfl) ?_
  refine vk_getf (pc := 7) hx hb hE.2.1 hS hown (hts _ bw_7_19) (fun _ h9 => h9) dJ0_isLatin1_aae02_7 ?_
  refine lv_if_ne (pc := 10) (tgt := 17) hx hb dJ0_isLatin1_aae02_10 (by decide) (fun z => absurd rfl z) (fun _ => ?_)
  refine lv_iconst (pc := 13) (v := 1) hx hb dJ0_isLatin1_aae02_13 (by decide) ?_
  refine lv_goto (pc := 14) (tgt := 18) hx hb dJ0_isLatin1_aae02_14 (by decide) ?_
  exact W.zret (v := 1) (ty := .boolean) hx hb hr (by decide) (fun t ht hW => ⟨1, rfl, rfl, ht⟩) (fun z hz => by cases hz) dJ0_isLatin1_aae02_18 hlocks
set_option maxRecDepth 100000 in
set_option maxHeartbeats 4000000 in
theorem kj_length {l : Launch} {q v : Nat} : KJ l yJ0_length_8abf5 cJ0_length_8abf5 1 (some .int) 1 [.ref q] (SF q v) (vp_Si (fun r => r = 82)) := by
  refine met_ofWF (cc := cJ0_length_8abf5) (maxL := 1) (ret := (some .int)) (by decide +kernel) rfl ?_
  intro p e s m args below meth c s₁ B hml hv
  obtain ⟨rfl, hE⟩ := hv
  have hx := B.exec
  have hb := B.bytes
  have hr := B.returns
  have hts0 := atoms_spec (ws := .code yJ0_length_8abf5 cJ0_length_8abf5 1 (some .int) :: wsL_law) B.pre
  have hts : ∀ w ∈ wsL_law, w.before (([.ref q] : List Value).toArray) s = true := fun w hw => hts0 w (List.mem_cons_of_mem _ hw)
  have hown : s.vm.findClass RJ0 = some m.cls := findClass_of_methodNamed B.named
  have hlocks := B.notSynchronized
  have hS : va_S (fun _ => False) s.heap s.heap [] := va_S.rf
  have hl := lv_entry [.ref q] (n := 1) (Nat.le_of_ble_eq_true rfl)
  rw [lg_entry_eq]
  generalize (lg_sl [.ref q] ++ List.replicate (1 - (lg_sl [.ref q]).length) Slot.unset).toArray = ls at hl ⊢
  have hl : lv_has ls 1 [(0, .ref q)] := hl
  refine lv_aload_n (pc := 0) hx hb dJ0_length_8abf5_0 rfl (lv_at hl 0 rfl) ?_
  refine vk_getf (pc := 1) hx hb hE.2.2.1 hS hown (hts _ bw_7_13) (fun _ h9 => h9) dJ0_length_8abf5_1 ?_
  obtain ⟨cv, v1, v2, v3, v4, v5, v6, v7⟩ := id hE.2.2.2.1
  refine W.alen (n := 82) hx hb v1 v2 (v5.trans (by decide)) (g := F0 m 4 ls [.ref v]) rfl rfl dJ0_length_8abf5_4 ?_
  refine W.eq (g2 := F0 m 5 ls [.int 82]) rfl ?_
  refine lv_aload_n (pc := 5) hx hb dJ0_length_8abf5_5 rfl (lv_at hl 0 rfl) ?_
  refine vp_callSi (pc := 6) (W.runV (As := []) (rest := [.int 82]) (rm := rmD 0) (mc := 0) (ms := 0) ⟨hx, hb, hml, hown, hts⟩ (kj_coder (q := q) (v := v)) (cwV 0 hts (sub_words wk_J0_coder_7d493 wv_J0_coder_7d493 bw_7_14) rfl rfl rfl ⟨rfl, wk_J0_coder_7d493.2.2⟩ ⟨by decide, by decide⟩) ⟨sf_blind, ⟨_, hE.1.choose_spec.1, hE.1.choose_spec.2.1, hE.1.choose_spec.2.2.1⟩, fun U hU hW => ⟨rfl, sf_to hE hU hW.alike⟩⟩ rfl rfl hl.1 rfl (lv_room (Nat.le_of_ble_eq_true rfl)) dJ0_length_8abf5_6 ⟨Nat.zero_le _, Nat.zero_le _⟩) (fun r2 hr2 => ?_)
  subst hr2
  refine lv_ishr (pc := 9) hx hb dJ0_length_8abf5_9 ?_
  exact W.iret (v := 82 >>> ((0 : Int32) &&& 31)) hx hb hr (fun t ht hW => ⟨_, rfl, by decide, ht⟩) (fun z hz => by cases hz) dJ0_length_8abf5_10 hlocks
set_option maxRecDepth 100000 in
set_option maxHeartbeats 4000000 in
theorem kj_check3n {l : Launch} {q v : Nat} {i n : Int32} (h1 : ¬ i < 0) (h2 : i < n) : KJ l yJ3_checkIndex_8e157 cJ3_checkIndex_8e157 3 (some .int) 0 [.int i, .int n, .null] (SF q v) (vp_Si (fun _ => True)) := by
  refine met_ofWF (cc := cJ3_checkIndex_8e157) (maxL := 3) (ret := (some .int)) (by decide +kernel) rfl ?_
  intro p e s m args below meth c s₁ B hml hv
  obtain ⟨rfl, hE⟩ := hv
  have hx := B.exec
  have hb := B.bytes
  have hr := B.returns
  have hts0 := atoms_spec (ws := .code yJ3_checkIndex_8e157 cJ3_checkIndex_8e157 3 (some .int) :: wsL_law) B.pre
  have hts : ∀ w ∈ wsL_law, w.before (([.int i, .int n, .null] : List Value).toArray) s = true := fun w hw => hts0 w (List.mem_cons_of_mem _ hw)
  have hown : s.vm.findClass RJ3 = some m.cls := findClass_of_methodNamed B.named
  have hlocks := B.notSynchronized
  have hS : va_S (fun _ => False) s.heap s.heap [] := va_S.rf
  have hl := lv_entry [.int i, .int n, .null] (n := 3) (Nat.le_of_ble_eq_true rfl)
  rw [lg_entry_eq]
  generalize (lg_sl [.int i, .int n, .null] ++ List.replicate (3 - (lg_sl [.int i, .int n, .null]).length) Slot.unset).toArray = ls at hl ⊢
  have hl : lv_has ls 3 [(0, .int i), (1, .int n), (2, .null)] := hl
  refine lv_iload_n (pc := 0) hx hb dJ3_checkIndex_8e157_0 rfl (lv_at hl 0 rfl) ?_
  refine lv_if_lt (pc := 1) (tgt := 9) hx hb dJ3_checkIndex_8e157_1 (by decide) (fun z => absurd z h1) (fun _ => ?_)
  refine lv_iload_n (pc := 4) hx hb dJ3_checkIndex_8e157_4 rfl (lv_at hl 0 rfl) ?_
  refine lv_iload_n (pc := 5) hx hb dJ3_checkIndex_8e157_5 rfl (lv_at hl 1 rfl) ?_
  refine lv_icmp_lt (pc := 6) (tgt := 16) hx hb dJ3_checkIndex_8e157_6 (by decide) (fun _ => ?_) (fun z => absurd h2 z)
  refine lv_iload_n (pc := 16) hx hb dJ3_checkIndex_8e157_16 rfl (lv_at hl 0 rfl) ?_
  exact W.iret (v := i) hx hb hr (fun t ht hW => ⟨_, rfl, trivial, ht⟩) (fun z hz => by cases hz) dJ3_checkIndex_8e157_17 hlocks
set_option maxRecDepth 100000 in
set_option maxHeartbeats 4000000 in
theorem kj_check3r {l : Launch} {q v : Nat} {t : Nat} {i n : Int32} (h1 : ¬ i < 0) (h2 : i < n) : KJ l yJ3_checkIndex_8e157 cJ3_checkIndex_8e157 3 (some .int) 0 [.int i, .int n, .ref t] (SF q v) (vp_Si (fun _ => True)) := by
  refine met_ofWF (cc := cJ3_checkIndex_8e157) (maxL := 3) (ret := (some .int)) (by decide +kernel) rfl ?_
  intro p e s m args below meth c s₁ B hml hv
  obtain ⟨rfl, hE⟩ := hv
  have hx := B.exec
  have hb := B.bytes
  have hr := B.returns
  have hts0 := atoms_spec (ws := .code yJ3_checkIndex_8e157 cJ3_checkIndex_8e157 3 (some .int) :: wsL_law) B.pre
  have hts : ∀ w ∈ wsL_law, w.before (([.int i, .int n, .ref t] : List Value).toArray) s = true := fun w hw => hts0 w (List.mem_cons_of_mem _ hw)
  have hown : s.vm.findClass RJ3 = some m.cls := findClass_of_methodNamed B.named
  have hlocks := B.notSynchronized
  have hS : va_S (fun _ => False) s.heap s.heap [] := va_S.rf
  have hl := lv_entry [.int i, .int n, .ref t] (n := 3) (Nat.le_of_ble_eq_true rfl)
  rw [lg_entry_eq]
  generalize (lg_sl [.int i, .int n, .ref t] ++ List.replicate (3 - (lg_sl [.int i, .int n, .ref t]).length) Slot.unset).toArray = ls at hl ⊢
  have hl : lv_has ls 3 [(0, .int i), (1, .int n), (2, .ref t)] := hl
  refine lv_iload_n (pc := 0) hx hb dJ3_checkIndex_8e157_0 rfl (lv_at hl 0 rfl) ?_
  refine lv_if_lt (pc := 1) (tgt := 9) hx hb dJ3_checkIndex_8e157_1 (by decide) (fun z => absurd z h1) (fun _ => ?_)
  refine lv_iload_n (pc := 4) hx hb dJ3_checkIndex_8e157_4 rfl (lv_at hl 0 rfl) ?_
  refine lv_iload_n (pc := 5) hx hb dJ3_checkIndex_8e157_5 rfl (lv_at hl 1 rfl) ?_
  refine lv_icmp_lt (pc := 6) (tgt := 16) hx hb dJ3_checkIndex_8e157_6 (by decide) (fun _ => ?_) (fun z => absurd h2 z)
  refine lv_iload_n (pc := 16) hx hb dJ3_checkIndex_8e157_16 rfl (lv_at hl 0 rfl) ?_
  exact W.iret (v := i) hx hb hr (fun t ht hW => ⟨_, rfl, trivial, ht⟩) (fun z hz => by cases hz) dJ3_checkIndex_8e157_17 hlocks
set_option maxRecDepth 100000 in
set_option maxHeartbeats 4000000 in
theorem kj_check {l : Launch} {q v : Nat} {i n : Int32} (h1 : ¬ i < 0) (h2 : i < n) : KJ l yJ0_checkIndex_df160 cJ0_checkIndex_df160 2 none 1 [.int i, .int n] (SF q v) (va_Sv (fun _ => True)) := by
  refine met_ofWF (cc := cJ0_checkIndex_df160) (maxL := 2) (ret := none) (by decide +kernel) rfl ?_
  intro p e s m args below meth c s₁ B hml hv
  obtain ⟨rfl, hE⟩ := hv
  have hx := B.exec
  have hb := B.bytes
  have hr := B.returns
  have hts0 := atoms_spec (ws := .code yJ0_checkIndex_df160 cJ0_checkIndex_df160 2 none :: wsL_law) B.pre
  have hts : ∀ w ∈ wsL_law, w.before (([.int i, .int n] : List Value).toArray) s = true := fun w hw => hts0 w (List.mem_cons_of_mem _ hw)
  have hown : s.vm.findClass RJ0 = some m.cls := findClass_of_methodNamed B.named
  have hlocks := B.notSynchronized
  have hS : va_S (fun _ => False) s.heap s.heap [] := va_S.rf
  have hl := lv_entry [.int i, .int n] (n := 2) (Nat.le_of_ble_eq_true rfl)
  rw [lg_entry_eq]
  generalize (lg_sl [.int i, .int n] ++ List.replicate (2 - (lg_sl [.int i, .int n]).length) Slot.unset).toArray = ls at hl ⊢
  have hl : lv_has ls 2 [(0, .int i), (1, .int n)] := hl
  refine lv_iload_n (pc := 0) hx hb dJ0_checkIndex_df160_0 rfl (lv_at hl 0 rfl) ?_
  refine lv_iload_n (pc := 1) hx hb dJ0_checkIndex_df160_1 rfl (lv_at hl 1 rfl) ?_
  rcases hE.2.2.2.2.2 with hZ | ⟨t, hZ⟩
  · refine va_gets (pc := 2) hx hb hZ hS hown (hts _ bw_8_11) (fun _ h9 => h9) dJ0_checkIndex_df160_2 ?_
    refine vp_callSi (pc := 5) (W.runS (As := [.int i, .int n, .null]) (rest := []) (rm := rmD 0) (mc := 0) (ms := 0) ⟨hx, hb, hml, hown, hts⟩ (kj_check3n (q := q) (v := v) h1 h2) ⟨callB_of (own := RJ0) (rm := rmD 0) (mc := 0) (ms := 0) 3 hts (good_sub wk_J3_checkIndex_8e157.1) rfl rfl rfl (hts _ wk_J3_checkIndex_8e157.2.1) (hts _ bw_8_12) wk_J3_checkIndex_8e157.2.2 ⟨by decide, by decide⟩, hts _ ws_J3_checkIndex_8e157⟩ ⟨sf_blind, fun U hU hW => ⟨rfl, sf_to hE hU hW.alike⟩⟩ rfl rfl hl.1 rfl (lv_room (Nat.le_of_ble_eq_true rfl)) dJ0_checkIndex_df160_5 ⟨Nat.zero_le _, Nat.zero_le _⟩) (fun r2 _ => ?_)
    refine lv_pop (pc := 8) hx hb dJ0_checkIndex_df160_8 rfl ?_
    exact W.vret hx hb hr (fun t ht hW => ⟨rfl, trivial, ht⟩) (fun z hz => by cases hz) dJ0_checkIndex_df160_9 hlocks
  · refine va_gets (pc := 2) hx hb hZ hS hown (hts _ bw_8_11) (fun _ h9 => h9) dJ0_checkIndex_df160_2 ?_
    refine vp_callSi (pc := 5) (W.runS (As := [.int i, .int n, .ref t]) (rest := []) (rm := rmD 0) (mc := 0) (ms := 0) ⟨hx, hb, hml, hown, hts⟩ (kj_check3r (q := q) (v := v) h1 h2) ⟨callB_of (own := RJ0) (rm := rmD 0) (mc := 0) (ms := 0) 3 hts (good_sub wk_J3_checkIndex_8e157.1) rfl rfl rfl (hts _ wk_J3_checkIndex_8e157.2.1) (hts _ bw_8_12) wk_J3_checkIndex_8e157.2.2 ⟨by decide, by decide⟩, hts _ ws_J3_checkIndex_8e157⟩ ⟨sf_blind, fun U hU hW => ⟨rfl, sf_to hE hU hW.alike⟩⟩ rfl rfl hl.1 rfl (lv_room (Nat.le_of_ble_eq_true rfl)) dJ0_checkIndex_df160_5 ⟨Nat.zero_le _, Nat.zero_le _⟩) (fun r2 _ => ?_)
    refine lv_pop (pc := 8) hx hb dJ0_checkIndex_df160_8 rfl ?_
    exact W.vret hx hb hr (fun t ht hW => ⟨rfl, trivial, ht⟩) (fun z hz => by cases hz) dJ0_checkIndex_df160_9 hlocks
set_option maxRecDepth 100000 in
set_option maxHeartbeats 4000000 in
theorem kj_charAt1 {l : Launch} {q v : Nat} {i : Int32} (h1 : ¬ i < 0) (h2 : i < 82) (h3 : vp_in i 82) : KJ l yJ1_charAt_3b067 cJ1_charAt_3b067 2 (some .char) 2 [.ref v, .int i] (SF q v) (vp_Si (fun r => r = ((txt i.toNatClampNeg &&& 255).toUInt32 % 65536).toInt32)) := by
  refine met_ofWF (cc := cJ1_charAt_3b067) (maxL := 2) (ret := (some .char)) (by decide +kernel) rfl ?_
  intro p e s m args below meth c s₁ B hml hv
  obtain ⟨rfl, hE⟩ := hv
  have hx := B.exec
  have hb := B.bytes
  have hr := B.returns
  have hts0 := atoms_spec (ws := .code yJ1_charAt_3b067 cJ1_charAt_3b067 2 (some .char) :: wsL_law) B.pre
  have hts : ∀ w ∈ wsL_law, w.before (([.ref v, .int i] : List Value).toArray) s = true := fun w hw => hts0 w (List.mem_cons_of_mem _ hw)
  have hown : s.vm.findClass RJ1 = some m.cls := findClass_of_methodNamed B.named
  have hlocks := B.notSynchronized
  have hS : va_S (fun _ => False) s.heap s.heap [] := va_S.rf
  have hl := lv_entry [.ref v, .int i] (n := 2) (Nat.le_of_ble_eq_true rfl)
  rw [lg_entry_eq]
  generalize (lg_sl [.ref v, .int i] ++ List.replicate (2 - (lg_sl [.ref v, .int i]).length) Slot.unset).toArray = ls at hl ⊢
  have hl : lv_has ls 2 [(0, .ref v), (1, .int i)] := hl
  refine lv_iload_n (pc := 0) hx hb dJ1_charAt_3b067_0 rfl (lv_at hl 1 rfl) ?_
  refine lv_aload_n (pc := 1) hx hb dJ1_charAt_3b067_1 rfl (lv_at hl 0 rfl) ?_
  obtain ⟨cv, v1, v2, v3, v4, v5, v6, v7⟩ := id hE.2.2.2.1
  refine W.alen (n := 82) hx hb v1 v2 (v5.trans (by decide)) (g := F0 m 2 ls [.ref v, .int i]) rfl rfl dJ1_charAt_3b067_2 ?_
  refine W.eq (g2 := F0 m 3 ls [.int 82, .int i]) rfl ?_
  refine va_csv (pc := 3) (W.runS (As := [.int i, .int 82]) (rest := []) (rm := rmD 1) (mc := 0) (ms := 0) ⟨hx, hb, hml, hown, hts⟩ (kj_check (q := q) (v := v) h1 h2) ⟨callB_of (own := RJ1) (rm := rmD 1) (mc := 0) (ms := 0) 2 hts (good_sub wk_J0_checkIndex_df160.1) rfl rfl rfl (hts _ wk_J0_checkIndex_df160.2.1) (hts _ bw_8_8) wk_J0_checkIndex_df160.2.2 ⟨by decide, by decide⟩, hts _ ws_J0_checkIndex_df160⟩ ⟨sf_blind, fun U hU hW => ⟨rfl, sf_to hE hU hW.alike⟩⟩ rfl rfl hl.1 rfl (lv_room (Nat.le_of_ble_eq_true rfl)) dJ1_charAt_3b067_3 ⟨Nat.zero_le _, Nat.zero_le _⟩) (fun _ => ?_)
  refine lv_aload_n (pc := 6) hx hb dJ1_charAt_3b067_6 rfl (lv_at hl 0 rfl) ?_
  refine lv_iload_n (pc := 7) hx hb dJ1_charAt_3b067_7 rfl (lv_at hl 1 rfl) ?_
  refine va_tb (pc := 8) hx hb hE.2.2.2.1 hS h3 rfl dJ1_charAt_3b067_8 ?_
  refine lv_sipush (pc := 9) (v := 255) hx hb dJ1_charAt_3b067_9 (by decide) ?_
  refine lv_iand (pc := 12) hx hb dJ1_charAt_3b067_12 ?_
  refine lv_i2c (pc := 13) hx hb dJ1_charAt_3b067_13 rfl ?_
  exact W.zret (ty := .char) hx hb hr (pk_nc _) (fun t ht hW => ⟨_, rfl, rfl, ht⟩) (fun z hz => by cases hz) dJ1_charAt_3b067_14 hlocks
set_option maxRecDepth 100000 in
set_option maxHeartbeats 4000000 in
theorem kj_charAt {l : Launch} {q v : Nat} {i : Int32} (h1 : ¬ i < 0) (h2 : i < 82) (h3 : vp_in i 82) : KJ l yJ0_charAt_5068e cJ0_charAt_5068e 2 (some .char) 3 [.ref q, .int i] (SF q v) (vp_Si (fun r => r = ((txt i.toNatClampNeg &&& 255).toUInt32 % 65536).toInt32)) := by
  refine met_ofWF (cc := cJ0_charAt_5068e) (maxL := 2) (ret := (some .char)) (by decide +kernel) rfl ?_
  intro p e s m args below meth c s₁ B hml hv
  obtain ⟨rfl, hE⟩ := hv
  have hx := B.exec
  have hb := B.bytes
  have hr := B.returns
  have hts0 := atoms_spec (ws := .code yJ0_charAt_5068e cJ0_charAt_5068e 2 (some .char) :: wsL_law) B.pre
  have hts : ∀ w ∈ wsL_law, w.before (([.ref q, .int i] : List Value).toArray) s = true := fun w hw => hts0 w (List.mem_cons_of_mem _ hw)
  have hown : s.vm.findClass RJ0 = some m.cls := findClass_of_methodNamed B.named
  have hlocks := B.notSynchronized
  have hS : va_S (fun _ => False) s.heap s.heap [] := va_S.rf
  have hl := lv_entry [.ref q, .int i] (n := 2) (Nat.le_of_ble_eq_true rfl)
  rw [lg_entry_eq]
  generalize (lg_sl [.ref q, .int i] ++ List.replicate (2 - (lg_sl [.ref q, .int i]).length) Slot.unset).toArray = ls at hl ⊢
  have hl : lv_has ls 2 [(0, .ref q), (1, .int i)] := hl
  refine lv_aload_n (pc := 0) hx hb dJ0_charAt_5068e_0 rfl (lv_at hl 0 rfl) ?_
  refine vp_callSi (pc := 1) (W.runV (As := []) (rest := []) (rm := rmD 0) (mc := 0) (ms := 0) ⟨hx, hb, hml, hown, hts⟩ (kj_isLatin1 (q := q) (v := v)) (cwV 0 hts (sub_words wk_J0_isLatin1_aae02 wv_J0_isLatin1_aae02 bw_8_0) rfl rfl rfl ⟨rfl, wk_J0_isLatin1_aae02.2.2⟩ ⟨by decide, by decide⟩) ⟨sf_blind, ⟨_, hE.1.choose_spec.1, hE.1.choose_spec.2.1, hE.1.choose_spec.2.2.1⟩, fun U hU hW => ⟨rfl, sf_to hE hU hW.alike⟩⟩ rfl rfl hl.1 rfl (lv_room (Nat.le_of_ble_eq_true rfl)) dJ0_charAt_5068e_1 ⟨Nat.zero_le _, Nat.zero_le _⟩) (fun r2 hr2 => ?_)
  subst hr2
  refine lv_if_eq (pc := 4) (tgt := 16) hx hb dJ0_charAt_5068e_4 (by decide) (fun z => absurd z (by decide)) (fun _ => ?_)
  refine lv_aload_n (pc := 7) hx hb dJ0_charAt_5068e_7 rfl (lv_at hl 0 rfl) ?_
  refine vk_getf (pc := 8) hx hb hE.2.2.1 hS hown (hts _ bw_7_13) (fun _ h9 => h9) dJ0_charAt_5068e_8 ?_
  refine lv_iload_n (pc := 11) hx hb dJ0_charAt_5068e_11 rfl (lv_at hl 1 rfl) ?_
  refine vp_callSi (pc := 12) (W.runS (As := [.ref v, .int i]) (rest := []) (rm := rmD 2) (mc := 0) (ms := 0) ⟨hx, hb, hml, hown, hts⟩ (kj_charAt1 (q := q) (v := v) h1 h2 h3) ⟨callB_of (own := RJ0) (rm := rmD 2) (mc := 0) (ms := 0) 2 hts (good_sub wk_J1_charAt_3b067.1) rfl rfl rfl (hts _ wk_J1_charAt_3b067.2.1) (hts _ bw_8_4) wk_J1_charAt_3b067.2.2 ⟨by decide, by decide⟩, hts _ ws_J1_charAt_3b067⟩ ⟨sf_blind, fun U hU hW => ⟨rfl, sf_to hE hU hW.alike⟩⟩ rfl rfl hl.1 rfl (lv_room (Nat.le_of_ble_eq_true rfl)) dJ0_charAt_5068e_12 ⟨Nat.zero_le _, Nat.zero_le _⟩) (fun r2 hr2 => ?_)
  subst hr2
  exact W.zret (ty := .char) hx hb hr (pk_nc _) (fun t ht hW => ⟨_, rfl, rfl, ht⟩) (fun z hz => by cases hz) dJ0_charAt_5068e_15 hlocks
