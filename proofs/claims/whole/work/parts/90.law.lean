/-! THE LAW'S LOOP -/
def LC (p : Program) (e : Env) (s : State) (m : MethodId) (below : List Frame) (meth : Method) (c : Code) (l : Launch) (b L : Nat) (xs : Nat → Int32) (D : va_G) (a a2 : Nat → Nat) (cI cS : ClassId) (cc ss : Nat) : Prop :=
  lw_At p s m meth c b L xs ∧ L ≤ 384 ∧ va_K D vwCl [(cI, .int), (cS, .object "NewsDraughts$Standing")] s ∧ NW s ∧ (∀ i j : Nat, i < 67 → j < 67 → a i = a j → i = j) ∧ (∀ i j : Nat, i < 15 → j < 15 → a2 i = a2 j → i = j) ∧ (∀ i j : Nat, i < 67 → j < 15 → a i ≠ a2 j) ∧ (∀ i : Nat, i < 67 → s.heap.size ≤ a i) ∧ (∀ i : Nat, i < 15 → s.heap.size ≤ a2 i) ∧ cc ≤ 600000 ∧ ss ≤ 7302250
def GL (p : Program) (e : Env) (s : State) (m : MethodId) (below : List Frame) (meth : Method) (c : Code) (l : Launch) (b L : Nat) (xs : Nat → Int32) (D : va_G) (a a2 : Nat → Nat) (cI cS : ClassId) (cc ss : Nat) (σ τ : St) (lv : List (Nat × Value)) (pc : Nat) (st : List Value) : Prop :=
  LC p e s m below meth c l b L xs D a a2 cI cS cc ss → ∀ (H : Heap) (locs : List Loc), va_P D vwCl (cN a cI cS σ) H → va_P D vwCl (cM a2 cI τ) H → va_S (fun q => s.heap.size ≤ q) s.heap H locs → ∀ ls : Array Slot, lv_has ls 4 lv → W p l e room_1 s m #[Value.ref b] below meth c H locs cc ss (lw_Z below #[Value.ref b] s) (F0 m pc ls st)
section LAW
variable {p : Program} {e : Env} {s : State} {m : MethodId} {below : List Frame} {meth : Method} {c : Code} {l : Launch} {b L : Nat} {xs : Nat → Int32} {D : va_G} {a a2 : Nat → Nat} {cI cS : ClassId} {cc ss : Nat} {σ τ : St} {lv : List (Nat × Value)} {pc : Nat} {st : List Value}
theorem l_iconst {n : Int} {v : Int32} (hd : decode code pc = .ok (.iconst n, 1)) (hv : Int32.ofInt n = v) (k : GL p e s m below meth c l b L xs D a a2 cI cS cc ss σ τ lv (pc + 1) (.int v :: st)) : GL p e s m below meth c l b L xs D a a2 cI cS cc ss σ τ lv pc (st) := fun C H locs hP hM hS ls hl => lv_iconst C.1.1 C.1.2.1 hd hv (k C H locs hP hM hS ls hl)
theorem l_bipush {n : Int} {v : Int32} (hd : decode code pc = .ok (.bipush n, 2)) (hv : (Int8.ofInt n).toInt32 = v) (k : GL p e s m below meth c l b L xs D a a2 cI cS cc ss σ τ lv (pc + 2) (.int v :: st)) : GL p e s m below meth c l b L xs D a a2 cI cS cc ss σ τ lv pc (st) := fun C H locs hP hM hS ls hl => lv_bipush C.1.1 C.1.2.1 hd hv (k C H locs hP hM hS ls hl)
theorem l_iadd {x y : Int32} (hd : decode code pc = .ok (.iadd, 1)) (k : GL p e s m below meth c l b L xs D a a2 cI cS cc ss σ τ lv (pc + 1) (.int (x + y) :: st)) : GL p e s m below meth c l b L xs D a a2 cI cS cc ss σ τ lv pc (.int y :: .int x :: st) := fun C H locs hP hM hS ls hl => lv_iadd C.1.1 C.1.2.1 hd (k C H locs hP hM hS ls hl)
theorem l_isub {x y : Int32} (hd : decode code pc = .ok (.isub, 1)) (k : GL p e s m below meth c l b L xs D a a2 cI cS cc ss σ τ lv (pc + 1) (.int (x - y) :: st)) : GL p e s m below meth c l b L xs D a a2 cI cS cc ss σ τ lv pc (.int y :: .int x :: st) := fun C H locs hP hM hS ls hl => lv_isub C.1.1 C.1.2.1 hd (k C H locs hP hM hS ls hl)
theorem l_iand {x y : Int32} (hd : decode code pc = .ok (.iand, 1)) (k : GL p e s m below meth c l b L xs D a a2 cI cS cc ss σ τ lv (pc + 1) (.int (x &&& y) :: st)) : GL p e s m below meth c l b L xs D a a2 cI cS cc ss σ τ lv pc (.int y :: .int x :: st) := fun C H locs hP hM hS ls hl => lv_iand C.1.1 C.1.2.1 hd (k C H locs hP hM hS ls hl)
theorem l_iload_n {kf : Fin 4} (j : Nat) {i : Nat} {x : Int32} (hd : decode code pc = .ok (.iload_n kf, 1)) (hi : (kf : Nat) = i) (hj : lv[j]? = some (i, .int x)) (k : GL p e s m below meth c l b L xs D a a2 cI cS cc ss σ τ lv (pc + 1) (.int x :: st)) : GL p e s m below meth c l b L xs D a a2 cI cS cc ss σ τ lv pc st := fun C H locs hP hM hS ls hl => lv_iload_n C.1.1 C.1.2.1 hd hi (lv_at hl j hj) (k C H locs hP hM hS ls hl)
theorem l_aload_n {kf : Fin 4} (j : Nat) {i x : Nat} (hd : decode code pc = .ok (.aload_n kf, 1)) (hi : (kf : Nat) = i) (hj : lv[j]? = some (i, .ref x)) (k : GL p e s m below meth c l b L xs D a a2 cI cS cc ss σ τ lv (pc + 1) (.ref x :: st)) : GL p e s m below meth c l b L xs D a a2 cI cS cc ss σ τ lv pc st := fun C H locs hP hM hS ls hl => lv_aload_n C.1.1 C.1.2.1 hd hi (lv_at hl j hj) (k C H locs hP hM hS ls hl)
theorem l_slen (hd : decode code pc = .ok (.arraylength, 1)) (k : GL p e s m below meth c l b L xs D a a2 cI cS cc ss σ τ lv (pc + 1) (.int (Int32.ofNat L) :: st)) : GL p e s m below meth c l b L xs D a a2 cI cS cc ss σ τ lv pc (.ref b :: st) := fun C H locs hP hM hS ls hl => by
  obtain ⟨hx, hb, hr, hml, hown, hts, hX, hbl, hlocks, hgv⟩ := C.1
  exact va_slen hx hb hX hbl (Nat.not_le.mpr hbl) hS hd (k C H locs hP hM hS ls hl)
theorem l_sld {i : Int32} (hin : vp_in i L) (hd : decode code pc = .ok (.iaload, 1)) (k : GL p e s m below meth c l b L xs D a a2 cI cS cc ss σ τ lv (pc + 1) (.int (xs i.toNatClampNeg) :: st)) : GL p e s m below meth c l b L xs D a a2 cI cS cc ss σ τ lv pc (.int i :: .ref b :: st) := fun C H locs hP hM hS ls hl => by
  obtain ⟨hx, hb, hr, hml, hown, hts, hX, hbl, hlocks, hgv⟩ := C.1
  exact va_sld hx hb hX hbl (Nat.not_le.mpr hbl) hS hin hd (k C H locs hP hM hS ls hl)
theorem l_goto {off : Int} {tgt : Nat} (hd : decode code pc = .ok (.goto off, 3)) (ht : (pc : Int) + off = (tgt : Int)) (k : GL p e s m below meth c l b L xs D a a2 cI cS cc ss σ τ lv tgt st) : GL p e s m below meth c l b L xs D a a2 cI cS cc ss σ τ lv pc st := fun C H locs hP hM hS ls hl => lv_goto C.1.1 C.1.2.1 hd ht (k C H locs hP hM hS ls hl)
theorem l_icmp_eq {x y : Int32} {off : Int} {tgt : Nat} (hd : decode code pc = .ok (.if_icmp .eq off, 3)) (ht : (pc : Int) + off = (tgt : Int)) (he : x = y) (k : GL p e s m below meth c l b L xs D a a2 cI cS cc ss σ τ lv tgt st) : GL p e s m below meth c l b L xs D a a2 cI cS cc ss σ τ lv pc (.int y :: .int x :: st) := fun C H locs hP hM hS ls hl => lv_icmp_eq C.1.1 C.1.2.1 hd ht (fun _ => k C H locs hP hM hS ls hl) (fun q => absurd he q)
theorem l_icmp_gt {x y : Int32} {off : Int} {tgt : Nat} (hd : decode code pc = .ok (.if_icmp .gt off, 3)) (ht : (pc : Int) + off = (tgt : Int)) (k1 : y < x → GL p e s m below meth c l b L xs D a a2 cI cS cc ss σ τ lv tgt st) (k2 : ¬ y < x → GL p e s m below meth c l b L xs D a a2 cI cS cc ss σ τ lv (pc + 3) st) : GL p e s m below meth c l b L xs D a a2 cI cS cc ss σ τ lv pc (.int y :: .int x :: st) := fun C H locs hP hM hS ls hl => lv_icmp_gt C.1.1 C.1.2.1 hd ht (fun q => k1 q C H locs hP hM hS ls hl) (fun q => k2 q C H locs hP hM hS ls hl)
theorem l_if_eq {x : Int32} {off : Int} {tgt : Nat} (hd : decode code pc = .ok (.ifCond .eq off, 3)) (ht : (pc : Int) + off = (tgt : Int)) (k1 : x = 0 → GL p e s m below meth c l b L xs D a a2 cI cS cc ss σ τ lv tgt st) (k2 : ¬ x = 0 → GL p e s m below meth c l b L xs D a a2 cI cS cc ss σ τ lv (pc + 3) st) : GL p e s m below meth c l b L xs D a a2 cI cS cc ss σ τ lv pc (.int x :: st) := fun C H locs hP hM hS ls hl => lv_if_eq C.1.1 C.1.2.1 hd ht (fun q => k1 q C H locs hP hM hS ls hl) (fun q => k2 q C H locs hP hM hS ls hl)
theorem l_tableIn {dflt lo hi : Int} {offs : Array Int} {len : Nat} {x : Int32} {off : Int} {tgt : Nat} (hd : decode code pc = .ok (.tableswitch dflt lo hi offs, len)) (h1 : ¬ x.toInt < lo) (h2 : ¬ hi < x.toInt) (ho1 : offs[(x.toInt - lo).toNat]? = some off) (ht : (pc : Int) + off = (tgt : Int)) (k : GL p e s m below meth c l b L xs D a a2 cI cS cc ss σ τ lv tgt st) : GL p e s m below meth c l b L xs D a a2 cI cS cc ss σ τ lv pc (.int x :: st) := fun C H locs hP hM hS ls hl => lv_tableIn C.1.1 C.1.2.1 hd h1 h2 ho1 ht (k C H locs hP hM hS ls hl)
theorem l_tableOut {dflt lo hi : Int} {offs : Array Int} {len : Nat} {x : Int32} {tgt : Nat} (hd : decode code pc = .ok (.tableswitch dflt lo hi offs, len)) (h : x.toInt < lo ∨ hi < x.toInt) (ht : (pc : Int) + dflt = (tgt : Int)) (k : GL p e s m below meth c l b L xs D a a2 cI cS cc ss σ τ lv tgt st) : GL p e s m below meth c l b L xs D a a2 cI cS cc ss σ τ lv pc (.int x :: st) := fun C H locs hP hM hS ls hl => lv_tableOut C.1.1 C.1.2.1 hd h ht (k C H locs hP hM hS ls hl)
theorem l_iinc (is : List Nat) (j : Nat) {i : Nat} {n : Int} {x v : Int32} {lv1 : List (Nat × Value)} (hd : decode code pc = .ok (.iinc i n, 3)) (hj : lv[j]? = some (i, .int x)) (hv : x + Int32.ofInt n = v) (hn : i < 4) (hq : lv_pick ((i, Value.int v) :: lv.filter (fun q => !(q.1 == i) && !(q.1 + 1 == i && q.2.category == 2))) is = lv1) (k : GL p e s m below meth c l b L xs D a a2 cI cS cc ss σ τ lv1 (pc + 3) st) : GL p e s m below meth c l b L xs D a a2 cI cS cc ss σ τ lv pc st := fun C H locs hP hM hS ls hl => lv_iinc (v := v) C.1.1 C.1.2.1 hd hl hj hv hn rfl (fun ls1 hl1 => k C H locs hP hM hS ls1 (lv_sub hl1 is hq))
theorem l_ret (hd : decode code pc = .ok (.ireturn, 1)) : GL p e s m below meth c l b L xs D a a2 cI cS cc ss σ τ lv pc [.int 1] := fun C H locs hP hM hS ls hl => by
  obtain ⟨hx, hb, hr, hml, hown, hts, hX, hbl, hlocks, hgv⟩ := C.1
  refine va_forget (fun q hq => hS.2.2 q hq) ?_
  refine W.widen (k := 600000) (n := 7302250) C.2.2.2.2.2.2.2.2.2.1 C.2.2.2.2.2.2.2.2.2.2 ?_
  exact lw_ret hx hb hr hlocks hd
/-- one argument out of the script -/
theorem l_arg {i : Int32} {j : Int} {jv : Int32} (hlv : lv[3]? = some (3, .int i)) (hl0 : lv[0]? = some (0, .ref b)) (hj : Int32.ofInt j = jv) (hin : vp_in (i + jv) L) (h0 : decode code pc = .ok (.aload_n 0, 1)) (h1 : decode code (pc + 1) = .ok (.iload_n 3, 1)) (h2 : decode code (pc + 2) = .ok (.iconst j, 1)) (h3 : decode code (pc + 3) = .ok (.iadd, 1)) (h4 : decode code (pc + 4) = .ok (.iaload, 1)) (k : GL p e s m below meth c l b L xs D a a2 cI cS cc ss σ τ lv (pc + 5) (.int (xs (i + jv).toNatClampNeg) :: st)) : GL p e s m below meth c l b L xs D a a2 cI cS cc ss σ τ lv pc st :=
  l_aload_n 0 h0 rfl hl0 (l_iload_n 3 h1 rfl hlv (l_iconst h2 hj (l_iadd h3 (l_sld hin h4 k))))
theorem cN_adr {k : Nat} {q : Nat × va_E} (h : (cN a cI cS σ)[k]? = some q) : ∃ i : Nat, i < 67 ∧ q.1 = a i := (cN_D2 h)
theorem cM_adr {k : Nat} {q : Nat × va_E} (h : (cM a2 cI τ)[k]? = some q) : ∃ i : Nat, i < 15 ∧ q.1 = a2 i := (cM_D2 h)
theorem l_callN {c2 : ByteArray} {n2 d2 n index : Nat} {y : MethodName} {As st0 : List Value} {r2 : Int32 × St} (hK : Kc (SN l D a cI cS) y c2 n2 (some .int) d2 (.ref (a 0) :: As) σ r2) (hW2 : Wk y c2 n2 (some .int) n) (hWv : Wv y) (hlink : Cond.methodLink RL index y ∈ wsL_law) (hcls : y.cls = RX10) (hd2 : d2 + 1 ≤ 10) (hlo : 8 + (n2 + 11) + 30 * d2 ≤ 398) (hn : As.length = n) (hst : st0 = As.reverse ++ .ref (a 0) :: st) (hcat : (st.map fun v => v.category).sum ≤ 8) (hd : decode code pc = .ok (.invokevirtual index, 3)) (k : GL p e s m below meth c l b L xs D a a2 cI cS cc ss (r2.2) τ lv (pc + 3) (.int r2.1 :: st)) : GL p e s m below meth c l b L xs D a a2 cI cS cc ss σ τ lv pc st0 := fun C H locs hP hM hS ls hl => by
  obtain ⟨⟨hx, hb, hr, hml, hown, hts, hX, hbl, hlocks, hgv⟩, hL, hKK, hN, hi1, hi2, hi3, hi4, hi5, hcc, hss⟩ := id C
  have htb : ∀ w ∈ wsL_law, w.before #[Value.ref b] s = true := fun w hw => hts w (wsL_law_in w hw)
  have hKs := hKK
  refine va_calli (a := (Value.ref (a 0) :: As).toArray) (A1 := AN a) (free := AN a) (va_runV (Ts := wsL_law) (own := RL) (C := y.cls) (As := As) (rest := st) (rm := rmD d2) (mc := 0) (ms := 0) ⟨hx, hb, hml, hown, htb⟩ hK (cwV n htb (fun w hw => ?_) rfl rfl rfl ⟨rfl, hW2.2.2⟩ ⟨hd2, hlo⟩) ⟨pc_blind, ?_, fun U hU hW => ⟨rfl, by rw [hU]; exact hP, va_K.moved hW.alike hKs, NW.warm hW hN⟩⟩ rfl hn hl.1 hst (lv_room hcat) hd ⟨by show cc + 0 ≤ 600000; omega, by show ss + 0 ≤ 7302250; omega⟩) hS (fun q _ hq => ?_) (fun q hq => ?_) (fun x u t H1 locs1 ht hvm hw hB hz1 hk1 hS1 => ?_)
  · have hw2 : w ∈ wsL_law := by
      rcases List.mem_append.mp hw with hw | hw
      · simp only [List.mem_cons, List.not_mem_nil, or_false] at hw
        rcases hw with rfl | rfl | rfl | rfl
        · exact hlink
        · exact hWv.1
        · exact hWv.2
        · exact hW2.2.1
      · exact (good_sub hW2.1 w hw).1
    exact ⟨hw2, big_in hw2⟩
  · rw [hcls]
    exact va_recv hKs hP (ci := 10) (q0 := 0) rfl cN_0
  · obtain ⟨i, h1, rfl⟩ := hq
    exact hi4 i h1
  · obtain ⟨i, h1, rfl⟩ := hq
    exact hi4 i h1
  · obtain ⟨rfl, rfl⟩ := hw
    rw [ht] at hB
    have hkeep : va_P D vwCl (cM a2 cI τ) H1 := P_apart (X := []) hM hk1 (fun k q hq => by
      obtain ⟨i, h1, h2⟩ := cM_adr hq
      rintro ⟨j, h3, h4⟩
      exact hi3 j i h3 h1 (h4.symm.trans h2))
    exact k C H1 locs1 hB hkeep hS1 ls hl
theorem l_callM {c2 : ByteArray} {n2 d2 n index : Nat} {y : MethodName} {As st0 : List Value} {r2 : Int32 × St} (hK : Kc (SM l D a2 cI) y c2 n2 (some .int) d2 (.ref (a2 0) :: As) τ r2) (hW2 : Wk y c2 n2 (some .int) n) (hWv : Wv y) (hlink : Cond.methodLink RL index y ∈ wsL_law) (hcls : y.cls = RX11) (hd2 : d2 + 1 ≤ 10) (hlo : 8 + (n2 + 11) + 30 * d2 ≤ 398) (hn : As.length = n) (hst : st0 = As.reverse ++ .ref (a2 0) :: st) (hcat : (st.map fun v => v.category).sum ≤ 8) (hd : decode code pc = .ok (.invokevirtual index, 3)) (k : GL p e s m below meth c l b L xs D a a2 cI cS cc ss σ (r2.2) lv (pc + 3) (.int r2.1 :: st)) : GL p e s m below meth c l b L xs D a a2 cI cS cc ss σ τ lv pc st0 := fun C H locs hP hM hS ls hl => by
  obtain ⟨⟨hx, hb, hr, hml, hown, hts, hX, hbl, hlocks, hgv⟩, hL, hKK, hN, hi1, hi2, hi3, hi4, hi5, hcc, hss⟩ := id C
  have htb : ∀ w ∈ wsL_law, w.before #[Value.ref b] s = true := fun w hw => hts w (wsL_law_in w hw)
  have hKs := (hKK.sub (tys' := [(cI, .int)]) [0] rfl)
  refine va_calli (a := (Value.ref (a2 0) :: As).toArray) (A1 := AM a2) (free := AM a2) (va_runV (Ts := wsL_law) (own := RL) (C := y.cls) (As := As) (rest := st) (rm := rmD d2) (mc := 0) (ms := 0) ⟨hx, hb, hml, hown, htb⟩ hK (cwV n htb (fun w hw => ?_) rfl rfl rfl ⟨rfl, hW2.2.2⟩ ⟨hd2, hlo⟩) ⟨pc_blind, ?_, fun U hU hW => ⟨rfl, by rw [hU]; exact hM, va_K.moved hW.alike hKs, NW.warm hW hN⟩⟩ rfl hn hl.1 hst (lv_room hcat) hd ⟨by show cc + 0 ≤ 600000; omega, by show ss + 0 ≤ 7302250; omega⟩) hS (fun q _ hq => ?_) (fun q hq => ?_) (fun x u t H1 locs1 ht hvm hw hB hz1 hk1 hS1 => ?_)
  · have hw2 : w ∈ wsL_law := by
      rcases List.mem_append.mp hw with hw | hw
      · simp only [List.mem_cons, List.not_mem_nil, or_false] at hw
        rcases hw with rfl | rfl | rfl | rfl
        · exact hlink
        · exact hWv.1
        · exact hWv.2
        · exact hW2.2.1
      · exact (good_sub hW2.1 w hw).1
    exact ⟨hw2, big_in hw2⟩
  · rw [hcls]
    exact va_recv hKs hM (ci := 11) (q0 := 0) rfl cM_0
  · obtain ⟨i, h1, rfl⟩ := hq
    exact hi5 i h1
  · obtain ⟨i, h1, rfl⟩ := hq
    exact hi5 i h1
  · obtain ⟨rfl, rfl⟩ := hw
    rw [ht] at hB
    have hkeep : va_P D vwCl (cN a cI cS σ) H1 := P_apart (X := []) hP hk1 (fun k q hq => by
      obtain ⟨i, h1, h2⟩ := cN_adr hq
      rintro ⟨j, h3, h4⟩
      exact hi3 i j h1 h3 (h2.symm.trans h4))
    exact k C H1 locs1 hkeep hB hS1 ls hl
end LAW
theorem l_in {j : Nat} {L : Nat} (hL : L ≤ 384) (h : 6 * j + 6 ≤ L) (q : Nat) (hq : q < 6) : vp_in (nI (6 * j) + nI q) L := by
  rw [nI_add]; exact vp_in_nI (by omega) (by omega)
theorem l_op (x : Int32) : ∃ v : Nat, v < 32 ∧ x &&& 31 = nI v := pk_andE x 5 (by decide)
set_option maxRecDepth 100000 in
set_option maxHeartbeats 4000000 in
theorem lawcase_write {p : Program} {e : Env} {s : State} {m : MethodId} {below : List Frame} {meth : Method} {c : Code} {l : Launch} {b L : Nat} {xs : Nat → Int32} {D : va_G} {a a2 : Nat → Nat} {cI cS : ClassId} {cc ss : Nat} (hC : LC p e s m below meth c l b L xs D a a2 cI cS cc ss) (hL : L ≤ 384) {j : Nat} (hj : 6 * j + 6 ≤ L) (hk : j < 64) {σ τ : St} (h : Rel j σ τ) (hgo : ∀ σ1 τ1 : St, Rel (j + 1) σ1 τ1 → GL p e s m below meth c l b L xs D a a2 cI cS cc ss σ1 τ1 [(0, Value.ref b), (1, Value.ref (a 0)), (2, Value.ref (a2 0)), (3, Value.int (nI (6 * j)))] 963 []) : GL p e s m below meth c l b L xs D a a2 cI cS cc ss σ τ [(0, Value.ref b), (1, Value.ref (a 0)), (2, Value.ref (a2 0)), (3, Value.int (nI (6 * j)))] 156 [] := by
  obtain ⟨r, σ1, τ1, hN1, hM1, hR1⟩ := st_write h hk (xs (nI (6 * j) + nI 1).toNatClampNeg)
  refine l_aload_n (pc := 156) 1 dL_law_156 rfl rfl ?_
  refine l_arg (pc := 157) rfl rfl (jv := nI 1) (by decide) (l_in hL hj 1 (by decide)) dL_law_157 dL_law_158 dL_law_159 dL_law_160 dL_law_161 ?_
  refine l_callN (pc := 162) (n2 := 2) (As := [Value.int (xs (nI (6 * j) + nI 1).toNatClampNeg)]) (k_X10_write__0 (cN_D hC.2.2.2.2.1) hN1) wk_X10_write wv_X10_write bw_15_23 rfl (by decide) (by decide) rfl rfl (Nat.le_of_ble_eq_true rfl) dL_law_162 ?_
  refine l_aload_n (pc := 165) 2 dL_law_165 rfl rfl ?_
  refine l_arg (pc := 166) rfl rfl (jv := nI 1) (by decide) (l_in hL hj 1 (by decide)) dL_law_166 dL_law_167 dL_law_168 dL_law_169 dL_law_170 ?_
  refine l_callM (pc := 171) (n2 := 2) (As := [Value.int (xs (nI (6 * j) + nI 1).toNatClampNeg)]) (k_X11_write__0 (cM_D hC.2.2.2.2.2.1) hM1) wk_X11_write wv_X11_write bw_16_4 rfl (by decide) (by decide) rfl rfl (Nat.le_of_ble_eq_true rfl) dL_law_171 ?_
  exact l_icmp_eq (pc := 174) (tgt := 963) dL_law_174 (by decide) rfl (hgo σ1 τ1 hR1)
set_option maxRecDepth 100000 in
set_option maxHeartbeats 4000000 in
theorem lawcase_wipe {p : Program} {e : Env} {s : State} {m : MethodId} {below : List Frame} {meth : Method} {c : Code} {l : Launch} {b L : Nat} {xs : Nat → Int32} {D : va_G} {a a2 : Nat → Nat} {cI cS : ClassId} {cc ss : Nat} (hC : LC p e s m below meth c l b L xs D a a2 cI cS cc ss) (hL : L ≤ 384) {j : Nat} (hj : 6 * j + 6 ≤ L) (hk : j < 64) {σ τ : St} (h : Rel j σ τ) (hgo : ∀ σ1 τ1 : St, Rel (j + 1) σ1 τ1 → GL p e s m below meth c l b L xs D a a2 cI cS cc ss σ1 τ1 [(0, Value.ref b), (1, Value.ref (a 0)), (2, Value.ref (a2 0)), (3, Value.int (nI (6 * j)))] 963 []) : GL p e s m below meth c l b L xs D a a2 cI cS cc ss σ τ [(0, Value.ref b), (1, Value.ref (a 0)), (2, Value.ref (a2 0)), (3, Value.int (nI (6 * j)))] 179 [] := by
  obtain ⟨r, σ1, τ1, hN1, hM1, hR1⟩ := st_wipe h hk
  refine l_aload_n (pc := 179) 1 dL_law_179 rfl rfl ?_
  refine l_callN (pc := 180) (n2 := 2) (As := []) (k_X10_wipe__0 (cN_D hC.2.2.2.2.1) hN1) wk_X10_wipe wv_X10_wipe bw_16_12 rfl (by decide) (by decide) rfl rfl (Nat.le_of_ble_eq_true rfl) dL_law_180 ?_
  refine l_aload_n (pc := 183) 2 dL_law_183 rfl rfl ?_
  refine l_callM (pc := 184) (n2 := 2) (As := []) (k_X11_wipe__0 (cM_D hC.2.2.2.2.2.1) hM1) wk_X11_wipe wv_X11_wipe bw_16_16 rfl (by decide) (by decide) rfl rfl (Nat.le_of_ble_eq_true rfl) dL_law_184 ?_
  exact l_icmp_eq (pc := 187) (tgt := 963) dL_law_187 (by decide) rfl (hgo σ1 τ1 hR1)
set_option maxRecDepth 100000 in
set_option maxHeartbeats 4000000 in
theorem lawcase_fault {p : Program} {e : Env} {s : State} {m : MethodId} {below : List Frame} {meth : Method} {c : Code} {l : Launch} {b L : Nat} {xs : Nat → Int32} {D : va_G} {a a2 : Nat → Nat} {cI cS : ClassId} {cc ss : Nat} (hC : LC p e s m below meth c l b L xs D a a2 cI cS cc ss) (hL : L ≤ 384) {j : Nat} (hj : 6 * j + 6 ≤ L) (hk : j < 64) {σ τ : St} (h : Rel j σ τ) (hgo : ∀ σ1 τ1 : St, Rel (j + 1) σ1 τ1 → GL p e s m below meth c l b L xs D a a2 cI cS cc ss σ1 τ1 [(0, Value.ref b), (1, Value.ref (a 0)), (2, Value.ref (a2 0)), (3, Value.int (nI (6 * j)))] 963 []) : GL p e s m below meth c l b L xs D a a2 cI cS cc ss σ τ [(0, Value.ref b), (1, Value.ref (a 0)), (2, Value.ref (a2 0)), (3, Value.int (nI (6 * j)))] 192 [] := by
  obtain ⟨r, σ1, τ1, hN1, hM1, hR1⟩ := st_fault h hk
  refine l_aload_n (pc := 192) 1 dL_law_192 rfl rfl ?_
  refine l_callN (pc := 193) (n2 := 1) (As := []) (k_X10_fault__0 (cN_D hC.2.2.2.2.1) hN1) wk_X10_fault wv_X10_fault bw_16_20 rfl (by decide) (by decide) rfl rfl (Nat.le_of_ble_eq_true rfl) dL_law_193 ?_
  refine l_aload_n (pc := 196) 2 dL_law_196 rfl rfl ?_
  refine l_callM (pc := 197) (n2 := 2) (As := []) (k_X11_fault__0 (cM_D hC.2.2.2.2.2.1) hM1) wk_X11_fault wv_X11_fault bw_17_0 rfl (by decide) (by decide) rfl rfl (Nat.le_of_ble_eq_true rfl) dL_law_197 ?_
  exact l_icmp_eq (pc := 200) (tgt := 963) dL_law_200 (by decide) rfl (hgo σ1 τ1 hR1)
set_option maxRecDepth 100000 in
set_option maxHeartbeats 4000000 in
theorem lawcase_lay {p : Program} {e : Env} {s : State} {m : MethodId} {below : List Frame} {meth : Method} {c : Code} {l : Launch} {b L : Nat} {xs : Nat → Int32} {D : va_G} {a a2 : Nat → Nat} {cI cS : ClassId} {cc ss : Nat} (hC : LC p e s m below meth c l b L xs D a a2 cI cS cc ss) (hL : L ≤ 384) {j : Nat} (hj : 6 * j + 6 ≤ L) (hk : j < 64) {σ τ : St} (h : Rel j σ τ) (hgo : ∀ σ1 τ1 : St, Rel (j + 1) σ1 τ1 → GL p e s m below meth c l b L xs D a a2 cI cS cc ss σ1 τ1 [(0, Value.ref b), (1, Value.ref (a 0)), (2, Value.ref (a2 0)), (3, Value.int (nI (6 * j)))] 963 []) : GL p e s m below meth c l b L xs D a a2 cI cS cc ss σ τ [(0, Value.ref b), (1, Value.ref (a 0)), (2, Value.ref (a2 0)), (3, Value.int (nI (6 * j)))] 205 [] := by
  obtain ⟨r, σ1, τ1, hN1, hM1, hR1⟩ := st_lay h hk
  refine l_aload_n (pc := 205) 1 dL_law_205 rfl rfl ?_
  refine l_callN (pc := 206) (n2 := 1) (As := []) (k_X10_lay__0 (cN_D hC.2.2.2.2.1) hN1) wk_X10_lay wv_X10_lay bw_18_20 rfl (by decide) (by decide) rfl rfl (Nat.le_of_ble_eq_true rfl) dL_law_206 ?_
  refine l_aload_n (pc := 209) 2 dL_law_209 rfl rfl ?_
  refine l_callM (pc := 210) (n2 := 1) (As := []) (k_X11_lay__0 (cM_D hC.2.2.2.2.2.1) hM1) wk_X11_lay wv_X11_lay bw_19_1 rfl (by decide) (by decide) rfl rfl (Nat.le_of_ble_eq_true rfl) dL_law_210 ?_
  exact l_icmp_eq (pc := 213) (tgt := 963) dL_law_213 (by decide) rfl (hgo σ1 τ1 hR1)
set_option maxRecDepth 100000 in
set_option maxHeartbeats 4000000 in
theorem lawcase_house {p : Program} {e : Env} {s : State} {m : MethodId} {below : List Frame} {meth : Method} {c : Code} {l : Launch} {b L : Nat} {xs : Nat → Int32} {D : va_G} {a a2 : Nat → Nat} {cI cS : ClassId} {cc ss : Nat} (hC : LC p e s m below meth c l b L xs D a a2 cI cS cc ss) (hL : L ≤ 384) {j : Nat} (hj : 6 * j + 6 ≤ L) (hk : j < 64) {σ τ : St} (h : Rel j σ τ) (hgo : ∀ σ1 τ1 : St, Rel (j + 1) σ1 τ1 → GL p e s m below meth c l b L xs D a a2 cI cS cc ss σ1 τ1 [(0, Value.ref b), (1, Value.ref (a 0)), (2, Value.ref (a2 0)), (3, Value.int (nI (6 * j)))] 963 []) : GL p e s m below meth c l b L xs D a a2 cI cS cc ss σ τ [(0, Value.ref b), (1, Value.ref (a 0)), (2, Value.ref (a2 0)), (3, Value.int (nI (6 * j)))] 218 [] := by
  obtain ⟨r, σ1, τ1, hN1, hM1, hR1⟩ := st_house h hk (xs (nI (6 * j) + nI 1).toNatClampNeg) (xs (nI (6 * j) + nI 2).toNatClampNeg)
  refine l_aload_n (pc := 218) 1 dL_law_218 rfl rfl ?_
  refine l_arg (pc := 219) rfl rfl (jv := nI 1) (by decide) (l_in hL hj 1 (by decide)) dL_law_219 dL_law_220 dL_law_221 dL_law_222 dL_law_223 ?_
  refine l_arg (pc := 224) rfl rfl (jv := nI 2) (by decide) (l_in hL hj 2 (by decide)) dL_law_224 dL_law_225 dL_law_226 dL_law_227 dL_law_228 ?_
  refine l_callN (pc := 229) (n2 := 3) (As := [Value.int (xs (nI (6 * j) + nI 1).toNatClampNeg), Value.int (xs (nI (6 * j) + nI 2).toNatClampNeg)]) (k_X10_house__0 (cN_D hC.2.2.2.2.1) hN1) wk_X10_house wv_X10_house bw_19_6 rfl (by decide) (by decide) rfl rfl (Nat.le_of_ble_eq_true rfl) dL_law_229 ?_
  refine l_aload_n (pc := 232) 2 dL_law_232 rfl rfl ?_
  refine l_arg (pc := 233) rfl rfl (jv := nI 1) (by decide) (l_in hL hj 1 (by decide)) dL_law_233 dL_law_234 dL_law_235 dL_law_236 dL_law_237 ?_
  refine l_arg (pc := 238) rfl rfl (jv := nI 2) (by decide) (l_in hL hj 2 (by decide)) dL_law_238 dL_law_239 dL_law_240 dL_law_241 dL_law_242 ?_
  refine l_callM (pc := 243) (n2 := 3) (As := [Value.int (xs (nI (6 * j) + nI 1).toNatClampNeg), Value.int (xs (nI (6 * j) + nI 2).toNatClampNeg)]) (k_X11_house__0 (cM_D hC.2.2.2.2.2.1) hM1) wk_X11_house wv_X11_house bw_20_6 rfl (by decide) (by decide) rfl rfl (Nat.le_of_ble_eq_true rfl) dL_law_243 ?_
  exact l_icmp_eq (pc := 246) (tgt := 963) dL_law_246 (by decide) rfl (hgo σ1 τ1 hR1)
set_option maxRecDepth 100000 in
set_option maxHeartbeats 4000000 in
theorem lawcase_news {p : Program} {e : Env} {s : State} {m : MethodId} {below : List Frame} {meth : Method} {c : Code} {l : Launch} {b L : Nat} {xs : Nat → Int32} {D : va_G} {a a2 : Nat → Nat} {cI cS : ClassId} {cc ss : Nat} (hC : LC p e s m below meth c l b L xs D a a2 cI cS cc ss) (hL : L ≤ 384) {j : Nat} (hj : 6 * j + 6 ≤ L) (hk : j < 64) {σ τ : St} (h : Rel j σ τ) (hgo : ∀ σ1 τ1 : St, Rel (j + 1) σ1 τ1 → GL p e s m below meth c l b L xs D a a2 cI cS cc ss σ1 τ1 [(0, Value.ref b), (1, Value.ref (a 0)), (2, Value.ref (a2 0)), (3, Value.int (nI (6 * j)))] 963 []) : GL p e s m below meth c l b L xs D a a2 cI cS cc ss σ τ [(0, Value.ref b), (1, Value.ref (a 0)), (2, Value.ref (a2 0)), (3, Value.int (nI (6 * j)))] 251 [] := by
  obtain ⟨r, σ1, τ1, hN1, hM1, hR1⟩ := st_news h hk (xs (nI (6 * j) + nI 1).toNatClampNeg) (xs (nI (6 * j) + nI 2).toNatClampNeg)
  refine l_aload_n (pc := 251) 1 dL_law_251 rfl rfl ?_
  refine l_arg (pc := 252) rfl rfl (jv := nI 1) (by decide) (l_in hL hj 1 (by decide)) dL_law_252 dL_law_253 dL_law_254 dL_law_255 dL_law_256 ?_
  refine l_arg (pc := 257) rfl rfl (jv := nI 2) (by decide) (l_in hL hj 2 (by decide)) dL_law_257 dL_law_258 dL_law_259 dL_law_260 dL_law_261 ?_
  refine l_callN (pc := 262) (n2 := 3) (As := [Value.int (xs (nI (6 * j) + nI 1).toNatClampNeg), Value.int (xs (nI (6 * j) + nI 2).toNatClampNeg)]) (k_X10_news__0 (cN_D hC.2.2.2.2.1) hN1) wk_X10_news wv_X10_news bw_21_2 rfl (by decide) (by decide) rfl rfl (Nat.le_of_ble_eq_true rfl) dL_law_262 ?_
  refine l_aload_n (pc := 265) 2 dL_law_265 rfl rfl ?_
  refine l_arg (pc := 266) rfl rfl (jv := nI 1) (by decide) (l_in hL hj 1 (by decide)) dL_law_266 dL_law_267 dL_law_268 dL_law_269 dL_law_270 ?_
  refine l_arg (pc := 271) rfl rfl (jv := nI 2) (by decide) (l_in hL hj 2 (by decide)) dL_law_271 dL_law_272 dL_law_273 dL_law_274 dL_law_275 ?_
  refine l_callM (pc := 276) (n2 := 3) (As := [Value.int (xs (nI (6 * j) + nI 1).toNatClampNeg), Value.int (xs (nI (6 * j) + nI 2).toNatClampNeg)]) (k_X11_news__0 (cM_D hC.2.2.2.2.2.1) hM1) wk_X11_news wv_X11_news bw_22_0 rfl (by decide) (by decide) rfl rfl (Nat.le_of_ble_eq_true rfl) dL_law_276 ?_
  exact l_icmp_eq (pc := 279) (tgt := 963) dL_law_279 (by decide) rfl (hgo σ1 τ1 hR1)
set_option maxRecDepth 100000 in
set_option maxHeartbeats 4000000 in
theorem lawcase_wind {p : Program} {e : Env} {s : State} {m : MethodId} {below : List Frame} {meth : Method} {c : Code} {l : Launch} {b L : Nat} {xs : Nat → Int32} {D : va_G} {a a2 : Nat → Nat} {cI cS : ClassId} {cc ss : Nat} (hC : LC p e s m below meth c l b L xs D a a2 cI cS cc ss) (hL : L ≤ 384) {j : Nat} (hj : 6 * j + 6 ≤ L) (hk : j < 64) {σ τ : St} (h : Rel j σ τ) (hgo : ∀ σ1 τ1 : St, Rel (j + 1) σ1 τ1 → GL p e s m below meth c l b L xs D a a2 cI cS cc ss σ1 τ1 [(0, Value.ref b), (1, Value.ref (a 0)), (2, Value.ref (a2 0)), (3, Value.int (nI (6 * j)))] 963 []) : GL p e s m below meth c l b L xs D a a2 cI cS cc ss σ τ [(0, Value.ref b), (1, Value.ref (a 0)), (2, Value.ref (a2 0)), (3, Value.int (nI (6 * j)))] 284 [] := by
  obtain ⟨r, σ1, τ1, hN1, hM1, hR1⟩ := st_wind h hk (xs (nI (6 * j) + nI 1).toNatClampNeg)
  refine l_aload_n (pc := 284) 1 dL_law_284 rfl rfl ?_
  refine l_arg (pc := 285) rfl rfl (jv := nI 1) (by decide) (l_in hL hj 1 (by decide)) dL_law_285 dL_law_286 dL_law_287 dL_law_288 dL_law_289 ?_
  refine l_callN (pc := 290) (n2 := 2) (As := [Value.int (xs (nI (6 * j) + nI 1).toNatClampNeg)]) (k_X10_wind__0 (cN_D hC.2.2.2.2.1) hN1) wk_X10_wind wv_X10_wind bw_22_11 rfl (by decide) (by decide) rfl rfl (Nat.le_of_ble_eq_true rfl) dL_law_290 ?_
  refine l_aload_n (pc := 293) 2 dL_law_293 rfl rfl ?_
  refine l_arg (pc := 294) rfl rfl (jv := nI 1) (by decide) (l_in hL hj 1 (by decide)) dL_law_294 dL_law_295 dL_law_296 dL_law_297 dL_law_298 ?_
  refine l_callM (pc := 299) (n2 := 2) (As := [Value.int (xs (nI (6 * j) + nI 1).toNatClampNeg)]) (k_X11_wind__0 (cM_D hC.2.2.2.2.2.1) hM1) wk_X11_wind wv_X11_wind bw_23_7 rfl (by decide) (by decide) rfl rfl (Nat.le_of_ble_eq_true rfl) dL_law_299 ?_
  exact l_icmp_eq (pc := 302) (tgt := 963) dL_law_302 (by decide) rfl (hgo σ1 τ1 hR1)
set_option maxRecDepth 100000 in
set_option maxHeartbeats 4000000 in
theorem lawcase_step {p : Program} {e : Env} {s : State} {m : MethodId} {below : List Frame} {meth : Method} {c : Code} {l : Launch} {b L : Nat} {xs : Nat → Int32} {D : va_G} {a a2 : Nat → Nat} {cI cS : ClassId} {cc ss : Nat} (hC : LC p e s m below meth c l b L xs D a a2 cI cS cc ss) (hL : L ≤ 384) {j : Nat} (hj : 6 * j + 6 ≤ L) (hk : j < 64) {σ τ : St} (h : Rel j σ τ) (hgo : ∀ σ1 τ1 : St, Rel (j + 1) σ1 τ1 → GL p e s m below meth c l b L xs D a a2 cI cS cc ss σ1 τ1 [(0, Value.ref b), (1, Value.ref (a 0)), (2, Value.ref (a2 0)), (3, Value.int (nI (6 * j)))] 963 []) : GL p e s m below meth c l b L xs D a a2 cI cS cc ss σ τ [(0, Value.ref b), (1, Value.ref (a 0)), (2, Value.ref (a2 0)), (3, Value.int (nI (6 * j)))] 307 [] := by
  obtain ⟨r, σ1, τ1, hN1, hM1, hR1⟩ := st_step h hk (xs (nI (6 * j) + nI 1).toNatClampNeg)
  refine l_aload_n (pc := 307) 1 dL_law_307 rfl rfl ?_
  refine l_arg (pc := 308) rfl rfl (jv := nI 1) (by decide) (l_in hL hj 1 (by decide)) dL_law_308 dL_law_309 dL_law_310 dL_law_311 dL_law_312 ?_
  refine l_callN (pc := 313) (n2 := 3) (As := [Value.int (xs (nI (6 * j) + nI 1).toNatClampNeg)]) (k_X10_step__0 (cN_D hC.2.2.2.2.1) hN1) wk_X10_step wv_X10_step bw_23_15 rfl (by decide) (by decide) rfl rfl (Nat.le_of_ble_eq_true rfl) dL_law_313 ?_
  refine l_aload_n (pc := 316) 2 dL_law_316 rfl rfl ?_
  refine l_arg (pc := 317) rfl rfl (jv := nI 1) (by decide) (l_in hL hj 1 (by decide)) dL_law_317 dL_law_318 dL_law_319 dL_law_320 dL_law_321 ?_
  refine l_callM (pc := 322) (n2 := 2) (As := [Value.int (xs (nI (6 * j) + nI 1).toNatClampNeg)]) (k_X11_step__0 (cM_D hC.2.2.2.2.2.1) hM1) wk_X11_step wv_X11_step bw_27_0 rfl (by decide) (by decide) rfl rfl (Nat.le_of_ble_eq_true rfl) dL_law_322 ?_
  exact l_icmp_eq (pc := 325) (tgt := 963) dL_law_325 (by decide) rfl (hgo σ1 τ1 hR1)
set_option maxRecDepth 100000 in
set_option maxHeartbeats 4000000 in
theorem lawcase_open {p : Program} {e : Env} {s : State} {m : MethodId} {below : List Frame} {meth : Method} {c : Code} {l : Launch} {b L : Nat} {xs : Nat → Int32} {D : va_G} {a a2 : Nat → Nat} {cI cS : ClassId} {cc ss : Nat} (hC : LC p e s m below meth c l b L xs D a a2 cI cS cc ss) (hL : L ≤ 384) {j : Nat} (hj : 6 * j + 6 ≤ L) (hk : j < 64) {σ τ : St} (h : Rel j σ τ) (hgo : ∀ σ1 τ1 : St, Rel (j + 1) σ1 τ1 → GL p e s m below meth c l b L xs D a a2 cI cS cc ss σ1 τ1 [(0, Value.ref b), (1, Value.ref (a 0)), (2, Value.ref (a2 0)), (3, Value.int (nI (6 * j)))] 963 []) : GL p e s m below meth c l b L xs D a a2 cI cS cc ss σ τ [(0, Value.ref b), (1, Value.ref (a 0)), (2, Value.ref (a2 0)), (3, Value.int (nI (6 * j)))] 330 [] := by
  obtain ⟨r, σ1, τ1, hN1, hM1, hR1⟩ := st_open h hk (xs (nI (6 * j) + nI 1).toNatClampNeg) (xs (nI (6 * j) + nI 2).toNatClampNeg)
  refine l_aload_n (pc := 330) 1 dL_law_330 rfl rfl ?_
  refine l_arg (pc := 331) rfl rfl (jv := nI 1) (by decide) (l_in hL hj 1 (by decide)) dL_law_331 dL_law_332 dL_law_333 dL_law_334 dL_law_335 ?_
  refine l_arg (pc := 336) rfl rfl (jv := nI 2) (by decide) (l_in hL hj 2 (by decide)) dL_law_336 dL_law_337 dL_law_338 dL_law_339 dL_law_340 ?_
  refine l_callN (pc := 341) (n2 := 4) (As := [Value.int (xs (nI (6 * j) + nI 1).toNatClampNeg), Value.int (xs (nI (6 * j) + nI 2).toNatClampNeg)]) (k_X10_open__0 (cN_D hC.2.2.2.2.1) hN1) wk_X10_open wv_X10_open bw_28_8 rfl (by decide) (by decide) rfl rfl (Nat.le_of_ble_eq_true rfl) dL_law_341 ?_
  refine l_aload_n (pc := 344) 2 dL_law_344 rfl rfl ?_
  refine l_arg (pc := 345) rfl rfl (jv := nI 1) (by decide) (l_in hL hj 1 (by decide)) dL_law_345 dL_law_346 dL_law_347 dL_law_348 dL_law_349 ?_
  refine l_arg (pc := 350) rfl rfl (jv := nI 2) (by decide) (l_in hL hj 2 (by decide)) dL_law_350 dL_law_351 dL_law_352 dL_law_353 dL_law_354 ?_
  refine l_callM (pc := 355) (n2 := 4) (As := [Value.int (xs (nI (6 * j) + nI 1).toNatClampNeg), Value.int (xs (nI (6 * j) + nI 2).toNatClampNeg)]) (k_X11_open__0 (cM_D hC.2.2.2.2.2.1) hM1) wk_X11_open wv_X11_open bw_28_17 rfl (by decide) (by decide) rfl rfl (Nat.le_of_ble_eq_true rfl) dL_law_355 ?_
  exact l_icmp_eq (pc := 358) (tgt := 963) dL_law_358 (by decide) rfl (hgo σ1 τ1 hR1)
set_option maxRecDepth 100000 in
set_option maxHeartbeats 4000000 in
theorem lawcase_tell {p : Program} {e : Env} {s : State} {m : MethodId} {below : List Frame} {meth : Method} {c : Code} {l : Launch} {b L : Nat} {xs : Nat → Int32} {D : va_G} {a a2 : Nat → Nat} {cI cS : ClassId} {cc ss : Nat} (hC : LC p e s m below meth c l b L xs D a a2 cI cS cc ss) (hL : L ≤ 384) {j : Nat} (hj : 6 * j + 6 ≤ L) (hk : j < 64) {σ τ : St} (h : Rel j σ τ) (hgo : ∀ σ1 τ1 : St, Rel (j + 1) σ1 τ1 → GL p e s m below meth c l b L xs D a a2 cI cS cc ss σ1 τ1 [(0, Value.ref b), (1, Value.ref (a 0)), (2, Value.ref (a2 0)), (3, Value.int (nI (6 * j)))] 963 []) : GL p e s m below meth c l b L xs D a a2 cI cS cc ss σ τ [(0, Value.ref b), (1, Value.ref (a 0)), (2, Value.ref (a2 0)), (3, Value.int (nI (6 * j)))] 363 [] := by
  obtain ⟨r, σ1, τ1, hN1, hM1, hR1⟩ := st_tell h hk (xs (nI (6 * j) + nI 1).toNatClampNeg) (xs (nI (6 * j) + nI 2).toNatClampNeg)
  refine l_aload_n (pc := 363) 1 dL_law_363 rfl rfl ?_
  refine l_arg (pc := 364) rfl rfl (jv := nI 1) (by decide) (l_in hL hj 1 (by decide)) dL_law_364 dL_law_365 dL_law_366 dL_law_367 dL_law_368 ?_
  refine l_arg (pc := 369) rfl rfl (jv := nI 2) (by decide) (l_in hL hj 2 (by decide)) dL_law_369 dL_law_370 dL_law_371 dL_law_372 dL_law_373 ?_
  refine l_callN (pc := 374) (n2 := 4) (As := [Value.int (xs (nI (6 * j) + nI 1).toNatClampNeg), Value.int (xs (nI (6 * j) + nI 2).toNatClampNeg)]) (k_X10_tell__0 (cN_D hC.2.2.2.2.1) hN1) wk_X10_tell wv_X10_tell bw_28_21 rfl (by decide) (by decide) rfl rfl (Nat.le_of_ble_eq_true rfl) dL_law_374 ?_
  refine l_aload_n (pc := 377) 2 dL_law_377 rfl rfl ?_
  refine l_arg (pc := 378) rfl rfl (jv := nI 1) (by decide) (l_in hL hj 1 (by decide)) dL_law_378 dL_law_379 dL_law_380 dL_law_381 dL_law_382 ?_
  refine l_arg (pc := 383) rfl rfl (jv := nI 2) (by decide) (l_in hL hj 2 (by decide)) dL_law_383 dL_law_384 dL_law_385 dL_law_386 dL_law_387 ?_
  refine l_callM (pc := 388) (n2 := 3) (As := [Value.int (xs (nI (6 * j) + nI 1).toNatClampNeg), Value.int (xs (nI (6 * j) + nI 2).toNatClampNeg)]) (k_X11_tell__0 (cM_D hC.2.2.2.2.2.1) hM1) wk_X11_tell wv_X11_tell bw_29_2 rfl (by decide) (by decide) rfl rfl (Nat.le_of_ble_eq_true rfl) dL_law_388 ?_
  exact l_icmp_eq (pc := 391) (tgt := 963) dL_law_391 (by decide) rfl (hgo σ1 τ1 hR1)
set_option maxRecDepth 100000 in
set_option maxHeartbeats 4000000 in
theorem lawcase_undo {p : Program} {e : Env} {s : State} {m : MethodId} {below : List Frame} {meth : Method} {c : Code} {l : Launch} {b L : Nat} {xs : Nat → Int32} {D : va_G} {a a2 : Nat → Nat} {cI cS : ClassId} {cc ss : Nat} (hC : LC p e s m below meth c l b L xs D a a2 cI cS cc ss) (hL : L ≤ 384) {j : Nat} (hj : 6 * j + 6 ≤ L) (hk : j < 64) {σ τ : St} (h : Rel j σ τ) (hgo : ∀ σ1 τ1 : St, Rel (j + 1) σ1 τ1 → GL p e s m below meth c l b L xs D a a2 cI cS cc ss σ1 τ1 [(0, Value.ref b), (1, Value.ref (a 0)), (2, Value.ref (a2 0)), (3, Value.int (nI (6 * j)))] 963 []) : GL p e s m below meth c l b L xs D a a2 cI cS cc ss σ τ [(0, Value.ref b), (1, Value.ref (a 0)), (2, Value.ref (a2 0)), (3, Value.int (nI (6 * j)))] 396 [] := by
  obtain ⟨r, σ1, τ1, hN1, hM1, hR1⟩ := st_undo h hk
  refine l_aload_n (pc := 396) 1 dL_law_396 rfl rfl ?_
  refine l_callN (pc := 397) (n2 := 1) (As := []) (k_X10_undo__0 (cN_D hC.2.2.2.2.1) hN1) wk_X10_undo wv_X10_undo bw_29_6 rfl (by decide) (by decide) rfl rfl (Nat.le_of_ble_eq_true rfl) dL_law_397 ?_
  refine l_aload_n (pc := 400) 2 dL_law_400 rfl rfl ?_
  refine l_callM (pc := 401) (n2 := 1) (As := []) (k_X11_undo__0 (cM_D hC.2.2.2.2.2.1) hM1) wk_X11_undo wv_X11_undo bw_29_18 rfl (by decide) (by decide) rfl rfl (Nat.le_of_ble_eq_true rfl) dL_law_401 ?_
  exact l_icmp_eq (pc := 404) (tgt := 963) dL_law_404 (by decide) rfl (hgo σ1 τ1 hR1)
set_option maxRecDepth 100000 in
set_option maxHeartbeats 4000000 in
theorem lawcase_behind {p : Program} {e : Env} {s : State} {m : MethodId} {below : List Frame} {meth : Method} {c : Code} {l : Launch} {b L : Nat} {xs : Nat → Int32} {D : va_G} {a a2 : Nat → Nat} {cI cS : ClassId} {cc ss : Nat} (hC : LC p e s m below meth c l b L xs D a a2 cI cS cc ss) (hL : L ≤ 384) {j : Nat} (hj : 6 * j + 6 ≤ L) (hk : j < 64) {σ τ : St} (h : Rel j σ τ) (hgo : ∀ σ1 τ1 : St, Rel (j + 1) σ1 τ1 → GL p e s m below meth c l b L xs D a a2 cI cS cc ss σ1 τ1 [(0, Value.ref b), (1, Value.ref (a 0)), (2, Value.ref (a2 0)), (3, Value.int (nI (6 * j)))] 963 []) : GL p e s m below meth c l b L xs D a a2 cI cS cc ss σ τ [(0, Value.ref b), (1, Value.ref (a 0)), (2, Value.ref (a2 0)), (3, Value.int (nI (6 * j)))] 409 [] := by
  obtain ⟨r, σ1, τ1, hN1, hM1, hR1⟩ := st_behind h hk (xs (nI (6 * j) + nI 1).toNatClampNeg) (xs (nI (6 * j) + nI 2).toNatClampNeg)
  refine l_aload_n (pc := 409) 1 dL_law_409 rfl rfl ?_
  refine l_arg (pc := 410) rfl rfl (jv := nI 1) (by decide) (l_in hL hj 1 (by decide)) dL_law_410 dL_law_411 dL_law_412 dL_law_413 dL_law_414 ?_
  refine l_arg (pc := 415) rfl rfl (jv := nI 2) (by decide) (l_in hL hj 2 (by decide)) dL_law_415 dL_law_416 dL_law_417 dL_law_418 dL_law_419 ?_
  refine l_callN (pc := 420) (n2 := 3) (As := [Value.int (xs (nI (6 * j) + nI 1).toNatClampNeg), Value.int (xs (nI (6 * j) + nI 2).toNatClampNeg)]) (k_X10_behind__0 (cN_D hC.2.2.2.2.1) hN1) wk_X10_behind wv_X10_behind bw_29_22 rfl (by decide) (by decide) rfl rfl (Nat.le_of_ble_eq_true rfl) dL_law_420 ?_
  refine l_aload_n (pc := 423) 2 dL_law_423 rfl rfl ?_
  refine l_arg (pc := 424) rfl rfl (jv := nI 1) (by decide) (l_in hL hj 1 (by decide)) dL_law_424 dL_law_425 dL_law_426 dL_law_427 dL_law_428 ?_
  refine l_arg (pc := 429) rfl rfl (jv := nI 2) (by decide) (l_in hL hj 2 (by decide)) dL_law_429 dL_law_430 dL_law_431 dL_law_432 dL_law_433 ?_
  refine l_callM (pc := 434) (n2 := 3) (As := [Value.int (xs (nI (6 * j) + nI 1).toNatClampNeg), Value.int (xs (nI (6 * j) + nI 2).toNatClampNeg)]) (k_X11_behind__0 (cM_D hC.2.2.2.2.2.1) hM1) wk_X11_behind wv_X11_behind bw_30_13 rfl (by decide) (by decide) rfl rfl (Nat.le_of_ble_eq_true rfl) dL_law_434 ?_
  exact l_icmp_eq (pc := 437) (tgt := 963) dL_law_437 (by decide) rfl (hgo σ1 τ1 hR1)
set_option maxRecDepth 100000 in
set_option maxHeartbeats 4000000 in
theorem lawcase_when {p : Program} {e : Env} {s : State} {m : MethodId} {below : List Frame} {meth : Method} {c : Code} {l : Launch} {b L : Nat} {xs : Nat → Int32} {D : va_G} {a a2 : Nat → Nat} {cI cS : ClassId} {cc ss : Nat} (hC : LC p e s m below meth c l b L xs D a a2 cI cS cc ss) (hL : L ≤ 384) {j : Nat} (hj : 6 * j + 6 ≤ L) (hk : j < 64) {σ τ : St} (h : Rel j σ τ) (hgo : ∀ σ1 τ1 : St, Rel (j + 1) σ1 τ1 → GL p e s m below meth c l b L xs D a a2 cI cS cc ss σ1 τ1 [(0, Value.ref b), (1, Value.ref (a 0)), (2, Value.ref (a2 0)), (3, Value.int (nI (6 * j)))] 963 []) : GL p e s m below meth c l b L xs D a a2 cI cS cc ss σ τ [(0, Value.ref b), (1, Value.ref (a 0)), (2, Value.ref (a2 0)), (3, Value.int (nI (6 * j)))] 442 [] := by
  obtain ⟨r, σ1, τ1, hN1, hM1, hR1⟩ := st_when h hk (xs (nI (6 * j) + nI 1).toNatClampNeg) (xs (nI (6 * j) + nI 2).toNatClampNeg)
  refine l_aload_n (pc := 442) 1 dL_law_442 rfl rfl ?_
  refine l_arg (pc := 443) rfl rfl (jv := nI 1) (by decide) (l_in hL hj 1 (by decide)) dL_law_443 dL_law_444 dL_law_445 dL_law_446 dL_law_447 ?_
  refine l_arg (pc := 448) rfl rfl (jv := nI 2) (by decide) (l_in hL hj 2 (by decide)) dL_law_448 dL_law_449 dL_law_450 dL_law_451 dL_law_452 ?_
  refine l_callN (pc := 453) (n2 := 3) (As := [Value.int (xs (nI (6 * j) + nI 1).toNatClampNeg), Value.int (xs (nI (6 * j) + nI 2).toNatClampNeg)]) (k_X10_when__0 (cN_D hC.2.2.2.2.1) hN1) wk_X10_when wv_X10_when bw_30_17 rfl (by decide) (by decide) rfl rfl (Nat.le_of_ble_eq_true rfl) dL_law_453 ?_
  refine l_aload_n (pc := 456) 2 dL_law_456 rfl rfl ?_
  refine l_arg (pc := 457) rfl rfl (jv := nI 1) (by decide) (l_in hL hj 1 (by decide)) dL_law_457 dL_law_458 dL_law_459 dL_law_460 dL_law_461 ?_
  refine l_arg (pc := 462) rfl rfl (jv := nI 2) (by decide) (l_in hL hj 2 (by decide)) dL_law_462 dL_law_463 dL_law_464 dL_law_465 dL_law_466 ?_
  refine l_callM (pc := 467) (n2 := 3) (As := [Value.int (xs (nI (6 * j) + nI 1).toNatClampNeg), Value.int (xs (nI (6 * j) + nI 2).toNatClampNeg)]) (k_X11_when__0 (cM_D hC.2.2.2.2.2.1) hM1) wk_X11_when wv_X11_when bw_31_3 rfl (by decide) (by decide) rfl rfl (Nat.le_of_ble_eq_true rfl) dL_law_467 ?_
  exact l_icmp_eq (pc := 470) (tgt := 963) dL_law_470 (by decide) rfl (hgo σ1 τ1 hR1)
set_option maxRecDepth 100000 in
set_option maxHeartbeats 4000000 in
theorem lawcase_last {p : Program} {e : Env} {s : State} {m : MethodId} {below : List Frame} {meth : Method} {c : Code} {l : Launch} {b L : Nat} {xs : Nat → Int32} {D : va_G} {a a2 : Nat → Nat} {cI cS : ClassId} {cc ss : Nat} (hC : LC p e s m below meth c l b L xs D a a2 cI cS cc ss) (hL : L ≤ 384) {j : Nat} (hj : 6 * j + 6 ≤ L) (hk : j < 64) {σ τ : St} (h : Rel j σ τ) (hgo : ∀ σ1 τ1 : St, Rel (j + 1) σ1 τ1 → GL p e s m below meth c l b L xs D a a2 cI cS cc ss σ1 τ1 [(0, Value.ref b), (1, Value.ref (a 0)), (2, Value.ref (a2 0)), (3, Value.int (nI (6 * j)))] 963 []) : GL p e s m below meth c l b L xs D a a2 cI cS cc ss σ τ [(0, Value.ref b), (1, Value.ref (a 0)), (2, Value.ref (a2 0)), (3, Value.int (nI (6 * j)))] 475 [] := by
  obtain ⟨r, σ1, τ1, hN1, hM1, hR1⟩ := st_last h hk (xs (nI (6 * j) + nI 1).toNatClampNeg) (xs (nI (6 * j) + nI 2).toNatClampNeg)
  refine l_aload_n (pc := 475) 1 dL_law_475 rfl rfl ?_
  refine l_arg (pc := 476) rfl rfl (jv := nI 1) (by decide) (l_in hL hj 1 (by decide)) dL_law_476 dL_law_477 dL_law_478 dL_law_479 dL_law_480 ?_
  refine l_arg (pc := 481) rfl rfl (jv := nI 2) (by decide) (l_in hL hj 2 (by decide)) dL_law_481 dL_law_482 dL_law_483 dL_law_484 dL_law_485 ?_
  refine l_callN (pc := 486) (n2 := 4) (As := [Value.int (xs (nI (6 * j) + nI 1).toNatClampNeg), Value.int (xs (nI (6 * j) + nI 2).toNatClampNeg)]) (k_X10_last__0 (cN_D hC.2.2.2.2.1) hN1) wk_X10_last wv_X10_last bw_31_15 rfl (by decide) (by decide) rfl rfl (Nat.le_of_ble_eq_true rfl) dL_law_486 ?_
  refine l_aload_n (pc := 489) 2 dL_law_489 rfl rfl ?_
  refine l_arg (pc := 490) rfl rfl (jv := nI 1) (by decide) (l_in hL hj 1 (by decide)) dL_law_490 dL_law_491 dL_law_492 dL_law_493 dL_law_494 ?_
  refine l_arg (pc := 495) rfl rfl (jv := nI 2) (by decide) (l_in hL hj 2 (by decide)) dL_law_495 dL_law_496 dL_law_497 dL_law_498 dL_law_499 ?_
  refine l_callM (pc := 500) (n2 := 8) (As := [Value.int (xs (nI (6 * j) + nI 1).toNatClampNeg), Value.int (xs (nI (6 * j) + nI 2).toNatClampNeg)]) (k_X11_last__0 (cM_D hC.2.2.2.2.2.1) hM1) wk_X11_last wv_X11_last bw_32_1 rfl (by decide) (by decide) rfl rfl (Nat.le_of_ble_eq_true rfl) dL_law_500 ?_
  exact l_icmp_eq (pc := 503) (tgt := 963) dL_law_503 (by decide) rfl (hgo σ1 τ1 hR1)
set_option maxRecDepth 100000 in
set_option maxHeartbeats 4000000 in
theorem lawcase_cut {p : Program} {e : Env} {s : State} {m : MethodId} {below : List Frame} {meth : Method} {c : Code} {l : Launch} {b L : Nat} {xs : Nat → Int32} {D : va_G} {a a2 : Nat → Nat} {cI cS : ClassId} {cc ss : Nat} (hC : LC p e s m below meth c l b L xs D a a2 cI cS cc ss) (hL : L ≤ 384) {j : Nat} (hj : 6 * j + 6 ≤ L) (hk : j < 64) {σ τ : St} (h : Rel j σ τ) (hgo : ∀ σ1 τ1 : St, Rel (j + 1) σ1 τ1 → GL p e s m below meth c l b L xs D a a2 cI cS cc ss σ1 τ1 [(0, Value.ref b), (1, Value.ref (a 0)), (2, Value.ref (a2 0)), (3, Value.int (nI (6 * j)))] 963 []) : GL p e s m below meth c l b L xs D a a2 cI cS cc ss σ τ [(0, Value.ref b), (1, Value.ref (a 0)), (2, Value.ref (a2 0)), (3, Value.int (nI (6 * j)))] 508 [] := by
  obtain ⟨r, σ1, τ1, hN1, hM1, hR1⟩ := st_cut h hk (xs (nI (6 * j) + nI 1).toNatClampNeg) (xs (nI (6 * j) + nI 2).toNatClampNeg) (xs (nI (6 * j) + nI 3).toNatClampNeg)
  refine l_aload_n (pc := 508) 1 dL_law_508 rfl rfl ?_
  refine l_arg (pc := 509) rfl rfl (jv := nI 1) (by decide) (l_in hL hj 1 (by decide)) dL_law_509 dL_law_510 dL_law_511 dL_law_512 dL_law_513 ?_
  refine l_arg (pc := 514) rfl rfl (jv := nI 2) (by decide) (l_in hL hj 2 (by decide)) dL_law_514 dL_law_515 dL_law_516 dL_law_517 dL_law_518 ?_
  refine l_arg (pc := 519) rfl rfl (jv := nI 3) (by decide) (l_in hL hj 3 (by decide)) dL_law_519 dL_law_520 dL_law_521 dL_law_522 dL_law_523 ?_
  refine l_callN (pc := 524) (n2 := 5) (As := [Value.int (xs (nI (6 * j) + nI 1).toNatClampNeg), Value.int (xs (nI (6 * j) + nI 2).toNatClampNeg), Value.int (xs (nI (6 * j) + nI 3).toNatClampNeg)]) (k_X10_cut__0 (cN_D hC.2.2.2.2.1) hN1) wk_X10_cut wv_X10_cut bw_32_5 rfl (by decide) (by decide) rfl rfl (Nat.le_of_ble_eq_true rfl) dL_law_524 ?_
  refine l_aload_n (pc := 527) 2 dL_law_527 rfl rfl ?_
  refine l_arg (pc := 528) rfl rfl (jv := nI 1) (by decide) (l_in hL hj 1 (by decide)) dL_law_528 dL_law_529 dL_law_530 dL_law_531 dL_law_532 ?_
  refine l_arg (pc := 533) rfl rfl (jv := nI 2) (by decide) (l_in hL hj 2 (by decide)) dL_law_533 dL_law_534 dL_law_535 dL_law_536 dL_law_537 ?_
  refine l_arg (pc := 538) rfl rfl (jv := nI 3) (by decide) (l_in hL hj 3 (by decide)) dL_law_538 dL_law_539 dL_law_540 dL_law_541 dL_law_542 ?_
  refine l_callM (pc := 543) (n2 := 6) (As := [Value.int (xs (nI (6 * j) + nI 1).toNatClampNeg), Value.int (xs (nI (6 * j) + nI 2).toNatClampNeg), Value.int (xs (nI (6 * j) + nI 3).toNatClampNeg)]) (k_X11_cut__0 (cM_D hC.2.2.2.2.2.1) hM1) wk_X11_cut wv_X11_cut bw_32_23 rfl (by decide) (by decide) rfl rfl (Nat.le_of_ble_eq_true rfl) dL_law_543 ?_
  exact l_icmp_eq (pc := 546) (tgt := 963) dL_law_546 (by decide) rfl (hgo σ1 τ1 hR1)
set_option maxRecDepth 100000 in
set_option maxHeartbeats 4000000 in
theorem lawcase_openings {p : Program} {e : Env} {s : State} {m : MethodId} {below : List Frame} {meth : Method} {c : Code} {l : Launch} {b L : Nat} {xs : Nat → Int32} {D : va_G} {a a2 : Nat → Nat} {cI cS : ClassId} {cc ss : Nat} (hC : LC p e s m below meth c l b L xs D a a2 cI cS cc ss) (hL : L ≤ 384) {j : Nat} (hj : 6 * j + 6 ≤ L) (hk : j < 64) {σ τ : St} (h : Rel j σ τ) (hgo : ∀ σ1 τ1 : St, Rel (j + 1) σ1 τ1 → GL p e s m below meth c l b L xs D a a2 cI cS cc ss σ1 τ1 [(0, Value.ref b), (1, Value.ref (a 0)), (2, Value.ref (a2 0)), (3, Value.int (nI (6 * j)))] 963 []) : GL p e s m below meth c l b L xs D a a2 cI cS cc ss σ τ [(0, Value.ref b), (1, Value.ref (a 0)), (2, Value.ref (a2 0)), (3, Value.int (nI (6 * j)))] 551 [] := by
  obtain ⟨r, σ1, τ1, hN1, hM1, hR1⟩ := st_openings h hk (xs (nI (6 * j) + nI 1).toNatClampNeg) (xs (nI (6 * j) + nI 2).toNatClampNeg) (xs (nI (6 * j) + nI 3).toNatClampNeg) (xs (nI (6 * j) + nI 4).toNatClampNeg) (xs (nI (6 * j) + nI 5).toNatClampNeg)
  refine l_aload_n (pc := 551) 1 dL_law_551 rfl rfl ?_
  refine l_arg (pc := 552) rfl rfl (jv := nI 1) (by decide) (l_in hL hj 1 (by decide)) dL_law_552 dL_law_553 dL_law_554 dL_law_555 dL_law_556 ?_
  refine l_arg (pc := 557) rfl rfl (jv := nI 2) (by decide) (l_in hL hj 2 (by decide)) dL_law_557 dL_law_558 dL_law_559 dL_law_560 dL_law_561 ?_
  refine l_arg (pc := 562) rfl rfl (jv := nI 3) (by decide) (l_in hL hj 3 (by decide)) dL_law_562 dL_law_563 dL_law_564 dL_law_565 dL_law_566 ?_
  refine l_arg (pc := 567) rfl rfl (jv := nI 4) (by decide) (l_in hL hj 4 (by decide)) dL_law_567 dL_law_568 dL_law_569 dL_law_570 dL_law_571 ?_
  refine l_arg (pc := 572) rfl rfl (jv := nI 5) (by decide) (l_in hL hj 5 (by decide)) dL_law_572 dL_law_573 dL_law_574 dL_law_575 dL_law_576 ?_
  refine l_callN (pc := 577) (n2 := 6) (As := [Value.int (xs (nI (6 * j) + nI 1).toNatClampNeg), Value.int (xs (nI (6 * j) + nI 2).toNatClampNeg), Value.int (xs (nI (6 * j) + nI 3).toNatClampNeg), Value.int (xs (nI (6 * j) + nI 4).toNatClampNeg), Value.int (xs (nI (6 * j) + nI 5).toNatClampNeg)]) (k_X10_openings__0 (cN_D hC.2.2.2.2.1) hN1) wk_X10_openings wv_X10_openings bw_33_7 rfl (by decide) (by decide) rfl rfl (Nat.le_of_ble_eq_true rfl) dL_law_577 ?_
  refine l_aload_n (pc := 580) 2 dL_law_580 rfl rfl ?_
  refine l_arg (pc := 581) rfl rfl (jv := nI 1) (by decide) (l_in hL hj 1 (by decide)) dL_law_581 dL_law_582 dL_law_583 dL_law_584 dL_law_585 ?_
  refine l_arg (pc := 586) rfl rfl (jv := nI 2) (by decide) (l_in hL hj 2 (by decide)) dL_law_586 dL_law_587 dL_law_588 dL_law_589 dL_law_590 ?_
  refine l_arg (pc := 591) rfl rfl (jv := nI 3) (by decide) (l_in hL hj 3 (by decide)) dL_law_591 dL_law_592 dL_law_593 dL_law_594 dL_law_595 ?_
  refine l_arg (pc := 596) rfl rfl (jv := nI 4) (by decide) (l_in hL hj 4 (by decide)) dL_law_596 dL_law_597 dL_law_598 dL_law_599 dL_law_600 ?_
  refine l_arg (pc := 601) rfl rfl (jv := nI 5) (by decide) (l_in hL hj 5 (by decide)) dL_law_601 dL_law_602 dL_law_603 dL_law_604 dL_law_605 ?_
  refine l_callM (pc := 606) (n2 := 8) (As := [Value.int (xs (nI (6 * j) + nI 1).toNatClampNeg), Value.int (xs (nI (6 * j) + nI 2).toNatClampNeg), Value.int (xs (nI (6 * j) + nI 3).toNatClampNeg), Value.int (xs (nI (6 * j) + nI 4).toNatClampNeg), Value.int (xs (nI (6 * j) + nI 5).toNatClampNeg)]) (k_X11_openings__0 (cM_D hC.2.2.2.2.2.1) hM1) wk_X11_openings wv_X11_openings bw_35_14 rfl (by decide) (by decide) rfl rfl (Nat.le_of_ble_eq_true rfl) dL_law_606 ?_
  exact l_icmp_eq (pc := 609) (tgt := 963) dL_law_609 (by decide) rfl (hgo σ1 τ1 hR1)
set_option maxRecDepth 100000 in
set_option maxHeartbeats 4000000 in
theorem lawcase_bears {p : Program} {e : Env} {s : State} {m : MethodId} {below : List Frame} {meth : Method} {c : Code} {l : Launch} {b L : Nat} {xs : Nat → Int32} {D : va_G} {a a2 : Nat → Nat} {cI cS : ClassId} {cc ss : Nat} (hC : LC p e s m below meth c l b L xs D a a2 cI cS cc ss) (hL : L ≤ 384) {j : Nat} (hj : 6 * j + 6 ≤ L) (hk : j < 64) {σ τ : St} (h : Rel j σ τ) (hgo : ∀ σ1 τ1 : St, Rel (j + 1) σ1 τ1 → GL p e s m below meth c l b L xs D a a2 cI cS cc ss σ1 τ1 [(0, Value.ref b), (1, Value.ref (a 0)), (2, Value.ref (a2 0)), (3, Value.int (nI (6 * j)))] 963 []) : GL p e s m below meth c l b L xs D a a2 cI cS cc ss σ τ [(0, Value.ref b), (1, Value.ref (a 0)), (2, Value.ref (a2 0)), (3, Value.int (nI (6 * j)))] 614 [] := by
  obtain ⟨r, σ1, τ1, hN1, hM1, hR1⟩ := st_bears h hk (xs (nI (6 * j) + nI 1).toNatClampNeg) (xs (nI (6 * j) + nI 2).toNatClampNeg)
  refine l_aload_n (pc := 614) 1 dL_law_614 rfl rfl ?_
  refine l_arg (pc := 615) rfl rfl (jv := nI 1) (by decide) (l_in hL hj 1 (by decide)) dL_law_615 dL_law_616 dL_law_617 dL_law_618 dL_law_619 ?_
  refine l_arg (pc := 620) rfl rfl (jv := nI 2) (by decide) (l_in hL hj 2 (by decide)) dL_law_620 dL_law_621 dL_law_622 dL_law_623 dL_law_624 ?_
  refine l_callN (pc := 625) (n2 := 3) (As := [Value.int (xs (nI (6 * j) + nI 1).toNatClampNeg), Value.int (xs (nI (6 * j) + nI 2).toNatClampNeg)]) (k_X10_bears__0 (cN_D hC.2.2.2.2.1) hN1) wk_X10_bears wv_X10_bears bw_36_4 rfl (by decide) (by decide) rfl rfl (Nat.le_of_ble_eq_true rfl) dL_law_625 ?_
  refine l_aload_n (pc := 628) 2 dL_law_628 rfl rfl ?_
  refine l_arg (pc := 629) rfl rfl (jv := nI 1) (by decide) (l_in hL hj 1 (by decide)) dL_law_629 dL_law_630 dL_law_631 dL_law_632 dL_law_633 ?_
  refine l_arg (pc := 634) rfl rfl (jv := nI 2) (by decide) (l_in hL hj 2 (by decide)) dL_law_634 dL_law_635 dL_law_636 dL_law_637 dL_law_638 ?_
  refine l_callM (pc := 639) (n2 := 4) (As := [Value.int (xs (nI (6 * j) + nI 1).toNatClampNeg), Value.int (xs (nI (6 * j) + nI 2).toNatClampNeg)]) (k_X11_bears__0 (cM_D hC.2.2.2.2.2.1) hM1) wk_X11_bears wv_X11_bears bw_36_18 rfl (by decide) (by decide) rfl rfl (Nat.le_of_ble_eq_true rfl) dL_law_639 ?_
  exact l_icmp_eq (pc := 642) (tgt := 963) dL_law_642 (by decide) rfl (hgo σ1 τ1 hR1)
set_option maxRecDepth 100000 in
set_option maxHeartbeats 4000000 in
theorem lawcase_quarrel {p : Program} {e : Env} {s : State} {m : MethodId} {below : List Frame} {meth : Method} {c : Code} {l : Launch} {b L : Nat} {xs : Nat → Int32} {D : va_G} {a a2 : Nat → Nat} {cI cS : ClassId} {cc ss : Nat} (hC : LC p e s m below meth c l b L xs D a a2 cI cS cc ss) (hL : L ≤ 384) {j : Nat} (hj : 6 * j + 6 ≤ L) (hk : j < 64) {σ τ : St} (h : Rel j σ τ) (hgo : ∀ σ1 τ1 : St, Rel (j + 1) σ1 τ1 → GL p e s m below meth c l b L xs D a a2 cI cS cc ss σ1 τ1 [(0, Value.ref b), (1, Value.ref (a 0)), (2, Value.ref (a2 0)), (3, Value.int (nI (6 * j)))] 963 []) : GL p e s m below meth c l b L xs D a a2 cI cS cc ss σ τ [(0, Value.ref b), (1, Value.ref (a 0)), (2, Value.ref (a2 0)), (3, Value.int (nI (6 * j)))] 647 [] := by
  obtain ⟨r, σ1, τ1, hN1, hM1, hR1⟩ := st_quarrel h hk (xs (nI (6 * j) + nI 1).toNatClampNeg) (xs (nI (6 * j) + nI 2).toNatClampNeg) (xs (nI (6 * j) + nI 3).toNatClampNeg) (xs (nI (6 * j) + nI 4).toNatClampNeg)
  refine l_aload_n (pc := 647) 1 dL_law_647 rfl rfl ?_
  refine l_arg (pc := 648) rfl rfl (jv := nI 1) (by decide) (l_in hL hj 1 (by decide)) dL_law_648 dL_law_649 dL_law_650 dL_law_651 dL_law_652 ?_
  refine l_arg (pc := 653) rfl rfl (jv := nI 2) (by decide) (l_in hL hj 2 (by decide)) dL_law_653 dL_law_654 dL_law_655 dL_law_656 dL_law_657 ?_
  refine l_arg (pc := 658) rfl rfl (jv := nI 3) (by decide) (l_in hL hj 3 (by decide)) dL_law_658 dL_law_659 dL_law_660 dL_law_661 dL_law_662 ?_
  refine l_arg (pc := 663) rfl rfl (jv := nI 4) (by decide) (l_in hL hj 4 (by decide)) dL_law_663 dL_law_664 dL_law_665 dL_law_666 dL_law_667 ?_
  refine l_callN (pc := 668) (n2 := 6) (As := [Value.int (xs (nI (6 * j) + nI 1).toNatClampNeg), Value.int (xs (nI (6 * j) + nI 2).toNatClampNeg), Value.int (xs (nI (6 * j) + nI 3).toNatClampNeg), Value.int (xs (nI (6 * j) + nI 4).toNatClampNeg)]) (k_X10_quarrel__0 (cN_D hC.2.2.2.2.1) hN1) wk_X10_quarrel wv_X10_quarrel bw_37_2 rfl (by decide) (by decide) rfl rfl (Nat.le_of_ble_eq_true rfl) dL_law_668 ?_
  refine l_aload_n (pc := 671) 2 dL_law_671 rfl rfl ?_
  refine l_arg (pc := 672) rfl rfl (jv := nI 1) (by decide) (l_in hL hj 1 (by decide)) dL_law_672 dL_law_673 dL_law_674 dL_law_675 dL_law_676 ?_
  refine l_arg (pc := 677) rfl rfl (jv := nI 2) (by decide) (l_in hL hj 2 (by decide)) dL_law_677 dL_law_678 dL_law_679 dL_law_680 dL_law_681 ?_
  refine l_arg (pc := 682) rfl rfl (jv := nI 3) (by decide) (l_in hL hj 3 (by decide)) dL_law_682 dL_law_683 dL_law_684 dL_law_685 dL_law_686 ?_
  refine l_arg (pc := 687) rfl rfl (jv := nI 4) (by decide) (l_in hL hj 4 (by decide)) dL_law_687 dL_law_688 dL_law_689 dL_law_690 dL_law_691 ?_
  refine l_callM (pc := 692) (n2 := 7) (As := [Value.int (xs (nI (6 * j) + nI 1).toNatClampNeg), Value.int (xs (nI (6 * j) + nI 2).toNatClampNeg), Value.int (xs (nI (6 * j) + nI 3).toNatClampNeg), Value.int (xs (nI (6 * j) + nI 4).toNatClampNeg)]) (k_X11_quarrel__0 (cM_D hC.2.2.2.2.2.1) hM1) wk_X11_quarrel wv_X11_quarrel bw_38_4 rfl (by decide) (by decide) rfl rfl (Nat.le_of_ble_eq_true rfl) dL_law_692 ?_
  exact l_icmp_eq (pc := 695) (tgt := 963) dL_law_695 (by decide) rfl (hgo σ1 τ1 hR1)
set_option maxRecDepth 100000 in
set_option maxHeartbeats 4000000 in
theorem lawcase_see {p : Program} {e : Env} {s : State} {m : MethodId} {below : List Frame} {meth : Method} {c : Code} {l : Launch} {b L : Nat} {xs : Nat → Int32} {D : va_G} {a a2 : Nat → Nat} {cI cS : ClassId} {cc ss : Nat} (hC : LC p e s m below meth c l b L xs D a a2 cI cS cc ss) (hL : L ≤ 384) {j : Nat} (hj : 6 * j + 6 ≤ L) (hk : j < 64) {σ τ : St} (h : Rel j σ τ) (hgo : ∀ σ1 τ1 : St, Rel (j + 1) σ1 τ1 → GL p e s m below meth c l b L xs D a a2 cI cS cc ss σ1 τ1 [(0, Value.ref b), (1, Value.ref (a 0)), (2, Value.ref (a2 0)), (3, Value.int (nI (6 * j)))] 963 []) : GL p e s m below meth c l b L xs D a a2 cI cS cc ss σ τ [(0, Value.ref b), (1, Value.ref (a 0)), (2, Value.ref (a2 0)), (3, Value.int (nI (6 * j)))] 700 [] := by
  by_cases hz : (xs (nI (6 * j) + nI 4).toNatClampNeg) = 0
  · obtain ⟨r, σ1, τ1, hN1, hM1, hR1⟩ := st_see h hk (xs (nI (6 * j) + nI 1).toNatClampNeg) (xs (nI (6 * j) + nI 2).toNatClampNeg) (xs (nI (6 * j) + nI 3).toNatClampNeg) (0 : Int32) (by decide)
    refine l_aload_n (pc := 700) 1 dL_law_700 rfl rfl ?_
    refine l_arg (pc := 701) rfl rfl (jv := nI 1) (by decide) (l_in hL hj 1 (by decide)) dL_law_701 dL_law_702 dL_law_703 dL_law_704 dL_law_705 ?_
    refine l_arg (pc := 706) rfl rfl (jv := nI 2) (by decide) (l_in hL hj 2 (by decide)) dL_law_706 dL_law_707 dL_law_708 dL_law_709 dL_law_710 ?_
    refine l_arg (pc := 711) rfl rfl (jv := nI 3) (by decide) (l_in hL hj 3 (by decide)) dL_law_711 dL_law_712 dL_law_713 dL_law_714 dL_law_715 ?_
    refine l_arg (pc := 716) rfl rfl (jv := nI 4) (by decide) (l_in hL hj 4 (by decide)) dL_law_716 dL_law_717 dL_law_718 dL_law_719 dL_law_720 ?_
    refine l_if_eq (pc := 721) (tgt := 728) dL_law_721 (by decide) (fun _ => ?_) (fun z => absurd hz z)
    refine l_iconst (pc := 728) (v := 0) dL_law_728 (by decide) ?_
    refine l_callN (pc := 729) (n2 := 5) (As := [Value.int (xs (nI (6 * j) + nI 1).toNatClampNeg), Value.int (xs (nI (6 * j) + nI 2).toNatClampNeg), Value.int (xs (nI (6 * j) + nI 3).toNatClampNeg), Value.int (0 : Int32)]) (k_X10_see__0 (cN_D hC.2.2.2.2.1) hN1) wk_X10_see wv_X10_see bw_38_16 rfl (by decide) (by decide) rfl rfl (Nat.le_of_ble_eq_true rfl) dL_law_729 ?_
    refine l_aload_n (pc := 732) 2 dL_law_732 rfl rfl ?_
    refine l_arg (pc := 733) rfl rfl (jv := nI 1) (by decide) (l_in hL hj 1 (by decide)) dL_law_733 dL_law_734 dL_law_735 dL_law_736 dL_law_737 ?_
    refine l_arg (pc := 738) rfl rfl (jv := nI 2) (by decide) (l_in hL hj 2 (by decide)) dL_law_738 dL_law_739 dL_law_740 dL_law_741 dL_law_742 ?_
    refine l_arg (pc := 743) rfl rfl (jv := nI 3) (by decide) (l_in hL hj 3 (by decide)) dL_law_743 dL_law_744 dL_law_745 dL_law_746 dL_law_747 ?_
    refine l_arg (pc := 748) rfl rfl (jv := nI 4) (by decide) (l_in hL hj 4 (by decide)) dL_law_748 dL_law_749 dL_law_750 dL_law_751 dL_law_752 ?_
    refine l_if_eq (pc := 753) (tgt := 760) dL_law_753 (by decide) (fun _ => ?_) (fun z => absurd hz z)
    refine l_iconst (pc := 760) (v := 0) dL_law_760 (by decide) ?_
    refine l_callM (pc := 761) (n2 := 5) (As := [Value.int (xs (nI (6 * j) + nI 1).toNatClampNeg), Value.int (xs (nI (6 * j) + nI 2).toNatClampNeg), Value.int (xs (nI (6 * j) + nI 3).toNatClampNeg), Value.int (0 : Int32)]) (k_X11_see__0 (cM_D hC.2.2.2.2.2.1) hM1) wk_X11_see wv_X11_see bw_39_4 rfl (by decide) (by decide) rfl rfl (Nat.le_of_ble_eq_true rfl) dL_law_761 ?_
    exact l_icmp_eq (pc := 764) (tgt := 963) dL_law_764 (by decide) rfl (hgo σ1 τ1 hR1)
  · obtain ⟨r, σ1, τ1, hN1, hM1, hR1⟩ := st_see h hk (xs (nI (6 * j) + nI 1).toNatClampNeg) (xs (nI (6 * j) + nI 2).toNatClampNeg) (xs (nI (6 * j) + nI 3).toNatClampNeg) (1 : Int32) (by decide)
    refine l_aload_n (pc := 700) 1 dL_law_700 rfl rfl ?_
    refine l_arg (pc := 701) rfl rfl (jv := nI 1) (by decide) (l_in hL hj 1 (by decide)) dL_law_701 dL_law_702 dL_law_703 dL_law_704 dL_law_705 ?_
    refine l_arg (pc := 706) rfl rfl (jv := nI 2) (by decide) (l_in hL hj 2 (by decide)) dL_law_706 dL_law_707 dL_law_708 dL_law_709 dL_law_710 ?_
    refine l_arg (pc := 711) rfl rfl (jv := nI 3) (by decide) (l_in hL hj 3 (by decide)) dL_law_711 dL_law_712 dL_law_713 dL_law_714 dL_law_715 ?_
    refine l_arg (pc := 716) rfl rfl (jv := nI 4) (by decide) (l_in hL hj 4 (by decide)) dL_law_716 dL_law_717 dL_law_718 dL_law_719 dL_law_720 ?_
    refine l_if_eq (pc := 721) (tgt := 728) dL_law_721 (by decide) (fun z => absurd z hz) (fun _ => ?_)
    refine l_iconst (pc := 724) (v := 1) dL_law_724 (by decide) ?_
    refine l_goto (pc := 725) (tgt := 729) dL_law_725 (by decide) ?_
    refine l_callN (pc := 729) (n2 := 5) (As := [Value.int (xs (nI (6 * j) + nI 1).toNatClampNeg), Value.int (xs (nI (6 * j) + nI 2).toNatClampNeg), Value.int (xs (nI (6 * j) + nI 3).toNatClampNeg), Value.int (1 : Int32)]) (k_X10_see__0 (cN_D hC.2.2.2.2.1) hN1) wk_X10_see wv_X10_see bw_38_16 rfl (by decide) (by decide) rfl rfl (Nat.le_of_ble_eq_true rfl) dL_law_729 ?_
    refine l_aload_n (pc := 732) 2 dL_law_732 rfl rfl ?_
    refine l_arg (pc := 733) rfl rfl (jv := nI 1) (by decide) (l_in hL hj 1 (by decide)) dL_law_733 dL_law_734 dL_law_735 dL_law_736 dL_law_737 ?_
    refine l_arg (pc := 738) rfl rfl (jv := nI 2) (by decide) (l_in hL hj 2 (by decide)) dL_law_738 dL_law_739 dL_law_740 dL_law_741 dL_law_742 ?_
    refine l_arg (pc := 743) rfl rfl (jv := nI 3) (by decide) (l_in hL hj 3 (by decide)) dL_law_743 dL_law_744 dL_law_745 dL_law_746 dL_law_747 ?_
    refine l_arg (pc := 748) rfl rfl (jv := nI 4) (by decide) (l_in hL hj 4 (by decide)) dL_law_748 dL_law_749 dL_law_750 dL_law_751 dL_law_752 ?_
    refine l_if_eq (pc := 753) (tgt := 760) dL_law_753 (by decide) (fun z => absurd z hz) (fun _ => ?_)
    refine l_iconst (pc := 756) (v := 1) dL_law_756 (by decide) ?_
    refine l_goto (pc := 757) (tgt := 761) dL_law_757 (by decide) ?_
    refine l_callM (pc := 761) (n2 := 5) (As := [Value.int (xs (nI (6 * j) + nI 1).toNatClampNeg), Value.int (xs (nI (6 * j) + nI 2).toNatClampNeg), Value.int (xs (nI (6 * j) + nI 3).toNatClampNeg), Value.int (1 : Int32)]) (k_X11_see__0 (cM_D hC.2.2.2.2.2.1) hM1) wk_X11_see wv_X11_see bw_39_4 rfl (by decide) (by decide) rfl rfl (Nat.le_of_ble_eq_true rfl) dL_law_761 ?_
    exact l_icmp_eq (pc := 764) (tgt := 963) dL_law_764 (by decide) rfl (hgo σ1 τ1 hR1)
set_option maxRecDepth 100000 in
set_option maxHeartbeats 4000000 in
theorem lawcase_forget {p : Program} {e : Env} {s : State} {m : MethodId} {below : List Frame} {meth : Method} {c : Code} {l : Launch} {b L : Nat} {xs : Nat → Int32} {D : va_G} {a a2 : Nat → Nat} {cI cS : ClassId} {cc ss : Nat} (hC : LC p e s m below meth c l b L xs D a a2 cI cS cc ss) (hL : L ≤ 384) {j : Nat} (hj : 6 * j + 6 ≤ L) (hk : j < 64) {σ τ : St} (h : Rel j σ τ) (hgo : ∀ σ1 τ1 : St, Rel (j + 1) σ1 τ1 → GL p e s m below meth c l b L xs D a a2 cI cS cc ss σ1 τ1 [(0, Value.ref b), (1, Value.ref (a 0)), (2, Value.ref (a2 0)), (3, Value.int (nI (6 * j)))] 963 []) : GL p e s m below meth c l b L xs D a a2 cI cS cc ss σ τ [(0, Value.ref b), (1, Value.ref (a 0)), (2, Value.ref (a2 0)), (3, Value.int (nI (6 * j)))] 769 [] := by
  obtain ⟨r, σ1, τ1, hN1, hM1, hR1⟩ := st_forget h hk
  refine l_aload_n (pc := 769) 1 dL_law_769 rfl rfl ?_
  refine l_callN (pc := 770) (n2 := 2) (As := []) (k_X10_forget__0 (cN_D hC.2.2.2.2.1) hN1) wk_X10_forget wv_X10_forget bw_39_8 rfl (by decide) (by decide) rfl rfl (Nat.le_of_ble_eq_true rfl) dL_law_770 ?_
  refine l_aload_n (pc := 773) 2 dL_law_773 rfl rfl ?_
  refine l_callM (pc := 774) (n2 := 2) (As := []) (k_X11_forget__0 (cM_D hC.2.2.2.2.2.1) hM1) wk_X11_forget wv_X11_forget bw_39_12 rfl (by decide) (by decide) rfl rfl (Nat.le_of_ble_eq_true rfl) dL_law_774 ?_
  exact l_icmp_eq (pc := 777) (tgt := 963) dL_law_777 (by decide) rfl (hgo σ1 τ1 hR1)
set_option maxRecDepth 100000 in
set_option maxHeartbeats 4000000 in
theorem lawcase_began {p : Program} {e : Env} {s : State} {m : MethodId} {below : List Frame} {meth : Method} {c : Code} {l : Launch} {b L : Nat} {xs : Nat → Int32} {D : va_G} {a a2 : Nat → Nat} {cI cS : ClassId} {cc ss : Nat} (hC : LC p e s m below meth c l b L xs D a a2 cI cS cc ss) (hL : L ≤ 384) {j : Nat} (hj : 6 * j + 6 ≤ L) (hk : j < 64) {σ τ : St} (h : Rel j σ τ) (hgo : ∀ σ1 τ1 : St, Rel (j + 1) σ1 τ1 → GL p e s m below meth c l b L xs D a a2 cI cS cc ss σ1 τ1 [(0, Value.ref b), (1, Value.ref (a 0)), (2, Value.ref (a2 0)), (3, Value.int (nI (6 * j)))] 963 []) : GL p e s m below meth c l b L xs D a a2 cI cS cc ss σ τ [(0, Value.ref b), (1, Value.ref (a 0)), (2, Value.ref (a2 0)), (3, Value.int (nI (6 * j)))] 782 [] := by
  obtain ⟨r, σ1, τ1, hN1, hM1, hR1⟩ := st_began h hk (xs (nI (6 * j) + nI 1).toNatClampNeg)
  refine l_aload_n (pc := 782) 1 dL_law_782 rfl rfl ?_
  refine l_arg (pc := 783) rfl rfl (jv := nI 1) (by decide) (l_in hL hj 1 (by decide)) dL_law_783 dL_law_784 dL_law_785 dL_law_786 dL_law_787 ?_
  refine l_callN (pc := 788) (n2 := 2) (As := [Value.int (xs (nI (6 * j) + nI 1).toNatClampNeg)]) (k_X10_began__0 (cN_D hC.2.2.2.2.1) hN1) wk_X10_began wv_X10_began bw_39_16 rfl (by decide) (by decide) rfl rfl (Nat.le_of_ble_eq_true rfl) dL_law_788 ?_
  refine l_aload_n (pc := 791) 2 dL_law_791 rfl rfl ?_
  refine l_arg (pc := 792) rfl rfl (jv := nI 1) (by decide) (l_in hL hj 1 (by decide)) dL_law_792 dL_law_793 dL_law_794 dL_law_795 dL_law_796 ?_
  refine l_callM (pc := 797) (n2 := 4) (As := [Value.int (xs (nI (6 * j) + nI 1).toNatClampNeg)]) (k_X11_began__0 (cM_D hC.2.2.2.2.2.1) hM1) wk_X11_began wv_X11_began bw_40_11 rfl (by decide) (by decide) rfl rfl (Nat.le_of_ble_eq_true rfl) dL_law_797 ?_
  exact l_icmp_eq (pc := 800) (tgt := 963) dL_law_800 (by decide) rfl (hgo σ1 τ1 hR1)
set_option maxRecDepth 100000 in
set_option maxHeartbeats 4000000 in
theorem lawcase_blew {p : Program} {e : Env} {s : State} {m : MethodId} {below : List Frame} {meth : Method} {c : Code} {l : Launch} {b L : Nat} {xs : Nat → Int32} {D : va_G} {a a2 : Nat → Nat} {cI cS : ClassId} {cc ss : Nat} (hC : LC p e s m below meth c l b L xs D a a2 cI cS cc ss) (hL : L ≤ 384) {j : Nat} (hj : 6 * j + 6 ≤ L) (hk : j < 64) {σ τ : St} (h : Rel j σ τ) (hgo : ∀ σ1 τ1 : St, Rel (j + 1) σ1 τ1 → GL p e s m below meth c l b L xs D a a2 cI cS cc ss σ1 τ1 [(0, Value.ref b), (1, Value.ref (a 0)), (2, Value.ref (a2 0)), (3, Value.int (nI (6 * j)))] 963 []) : GL p e s m below meth c l b L xs D a a2 cI cS cc ss σ τ [(0, Value.ref b), (1, Value.ref (a 0)), (2, Value.ref (a2 0)), (3, Value.int (nI (6 * j)))] 805 [] := by
  obtain ⟨r, σ1, τ1, hN1, hM1, hR1⟩ := st_blew h hk
  refine l_aload_n (pc := 805) 1 dL_law_805 rfl rfl ?_
  refine l_callN (pc := 806) (n2 := 1) (As := []) (k_X10_blew__0 (cN_D hC.2.2.2.2.1) hN1) wk_X10_blew wv_X10_blew bw_40_23 rfl (by decide) (by decide) rfl rfl (Nat.le_of_ble_eq_true rfl) dL_law_806 ?_
  refine l_aload_n (pc := 809) 2 dL_law_809 rfl rfl ?_
  refine l_callM (pc := 810) (n2 := 3) (As := []) (k_X11_blew__0 (cM_D hC.2.2.2.2.2.1) hM1) wk_X11_blew wv_X11_blew bw_41_13 rfl (by decide) (by decide) rfl rfl (Nat.le_of_ble_eq_true rfl) dL_law_810 ?_
  exact l_icmp_eq (pc := 813) (tgt := 963) dL_law_813 (by decide) rfl (hgo σ1 τ1 hR1)
set_option maxRecDepth 100000 in
set_option maxHeartbeats 4000000 in
theorem lawcase_gusts {p : Program} {e : Env} {s : State} {m : MethodId} {below : List Frame} {meth : Method} {c : Code} {l : Launch} {b L : Nat} {xs : Nat → Int32} {D : va_G} {a a2 : Nat → Nat} {cI cS : ClassId} {cc ss : Nat} (hC : LC p e s m below meth c l b L xs D a a2 cI cS cc ss) (hL : L ≤ 384) {j : Nat} (hj : 6 * j + 6 ≤ L) (hk : j < 64) {σ τ : St} (h : Rel j σ τ) (hgo : ∀ σ1 τ1 : St, Rel (j + 1) σ1 τ1 → GL p e s m below meth c l b L xs D a a2 cI cS cc ss σ1 τ1 [(0, Value.ref b), (1, Value.ref (a 0)), (2, Value.ref (a2 0)), (3, Value.int (nI (6 * j)))] 963 []) : GL p e s m below meth c l b L xs D a a2 cI cS cc ss σ τ [(0, Value.ref b), (1, Value.ref (a 0)), (2, Value.ref (a2 0)), (3, Value.int (nI (6 * j)))] 818 [] := by
  obtain ⟨r, σ1, τ1, hN1, hM1, hR1⟩ := st_gusts h hk (xs (nI (6 * j) + nI 1).toNatClampNeg) (xs (nI (6 * j) + nI 2).toNatClampNeg) (xs (nI (6 * j) + nI 3).toNatClampNeg) (xs (nI (6 * j) + nI 4).toNatClampNeg)
  refine l_aload_n (pc := 818) 1 dL_law_818 rfl rfl ?_
  refine l_arg (pc := 819) rfl rfl (jv := nI 1) (by decide) (l_in hL hj 1 (by decide)) dL_law_819 dL_law_820 dL_law_821 dL_law_822 dL_law_823 ?_
  refine l_arg (pc := 824) rfl rfl (jv := nI 2) (by decide) (l_in hL hj 2 (by decide)) dL_law_824 dL_law_825 dL_law_826 dL_law_827 dL_law_828 ?_
  refine l_arg (pc := 829) rfl rfl (jv := nI 3) (by decide) (l_in hL hj 3 (by decide)) dL_law_829 dL_law_830 dL_law_831 dL_law_832 dL_law_833 ?_
  refine l_arg (pc := 834) rfl rfl (jv := nI 4) (by decide) (l_in hL hj 4 (by decide)) dL_law_834 dL_law_835 dL_law_836 dL_law_837 dL_law_838 ?_
  refine l_callN (pc := 839) (n2 := 5) (As := [Value.int (xs (nI (6 * j) + nI 1).toNatClampNeg), Value.int (xs (nI (6 * j) + nI 2).toNatClampNeg), Value.int (xs (nI (6 * j) + nI 3).toNatClampNeg), Value.int (xs (nI (6 * j) + nI 4).toNatClampNeg)]) (k_X10_gusts__0 (cN_D hC.2.2.2.2.1) hN1) wk_X10_gusts wv_X10_gusts bw_41_17 rfl (by decide) (by decide) rfl rfl (Nat.le_of_ble_eq_true rfl) dL_law_839 ?_
  refine l_aload_n (pc := 842) 2 dL_law_842 rfl rfl ?_
  refine l_arg (pc := 843) rfl rfl (jv := nI 1) (by decide) (l_in hL hj 1 (by decide)) dL_law_843 dL_law_844 dL_law_845 dL_law_846 dL_law_847 ?_
  refine l_arg (pc := 848) rfl rfl (jv := nI 2) (by decide) (l_in hL hj 2 (by decide)) dL_law_848 dL_law_849 dL_law_850 dL_law_851 dL_law_852 ?_
  refine l_arg (pc := 853) rfl rfl (jv := nI 3) (by decide) (l_in hL hj 3 (by decide)) dL_law_853 dL_law_854 dL_law_855 dL_law_856 dL_law_857 ?_
  refine l_arg (pc := 858) rfl rfl (jv := nI 4) (by decide) (l_in hL hj 4 (by decide)) dL_law_858 dL_law_859 dL_law_860 dL_law_861 dL_law_862 ?_
  refine l_callM (pc := 863) (n2 := 10) (As := [Value.int (xs (nI (6 * j) + nI 1).toNatClampNeg), Value.int (xs (nI (6 * j) + nI 2).toNatClampNeg), Value.int (xs (nI (6 * j) + nI 3).toNatClampNeg), Value.int (xs (nI (6 * j) + nI 4).toNatClampNeg)]) (k_X11_gusts__0 (cM_D hC.2.2.2.2.2.1) hM1) wk_X11_gusts wv_X11_gusts bw_42_11 rfl (by decide) (by decide) rfl rfl (Nat.le_of_ble_eq_true rfl) dL_law_863 ?_
  exact l_icmp_eq (pc := 866) (tgt := 963) dL_law_866 (by decide) rfl (hgo σ1 τ1 hR1)
set_option maxRecDepth 100000 in
set_option maxHeartbeats 4000000 in
theorem lawcase_year {p : Program} {e : Env} {s : State} {m : MethodId} {below : List Frame} {meth : Method} {c : Code} {l : Launch} {b L : Nat} {xs : Nat → Int32} {D : va_G} {a a2 : Nat → Nat} {cI cS : ClassId} {cc ss : Nat} (hC : LC p e s m below meth c l b L xs D a a2 cI cS cc ss) (hL : L ≤ 384) {j : Nat} (hj : 6 * j + 6 ≤ L) (hk : j < 64) {σ τ : St} (h : Rel j σ τ) (hgo : ∀ σ1 τ1 : St, Rel (j + 1) σ1 τ1 → GL p e s m below meth c l b L xs D a a2 cI cS cc ss σ1 τ1 [(0, Value.ref b), (1, Value.ref (a 0)), (2, Value.ref (a2 0)), (3, Value.int (nI (6 * j)))] 963 []) : GL p e s m below meth c l b L xs D a a2 cI cS cc ss σ τ [(0, Value.ref b), (1, Value.ref (a 0)), (2, Value.ref (a2 0)), (3, Value.int (nI (6 * j)))] 871 [] := by
  obtain ⟨r, σ1, τ1, hN1, hM1, hR1⟩ := st_year h hk (xs (nI (6 * j) + nI 1).toNatClampNeg) (xs (nI (6 * j) + nI 2).toNatClampNeg) (xs (nI (6 * j) + nI 3).toNatClampNeg)
  refine l_aload_n (pc := 871) 1 dL_law_871 rfl rfl ?_
  refine l_arg (pc := 872) rfl rfl (jv := nI 1) (by decide) (l_in hL hj 1 (by decide)) dL_law_872 dL_law_873 dL_law_874 dL_law_875 dL_law_876 ?_
  refine l_arg (pc := 877) rfl rfl (jv := nI 2) (by decide) (l_in hL hj 2 (by decide)) dL_law_877 dL_law_878 dL_law_879 dL_law_880 dL_law_881 ?_
  refine l_arg (pc := 882) rfl rfl (jv := nI 3) (by decide) (l_in hL hj 3 (by decide)) dL_law_882 dL_law_883 dL_law_884 dL_law_885 dL_law_886 ?_
  refine l_callN (pc := 887) (n2 := 4) (As := [Value.int (xs (nI (6 * j) + nI 1).toNatClampNeg), Value.int (xs (nI (6 * j) + nI 2).toNatClampNeg), Value.int (xs (nI (6 * j) + nI 3).toNatClampNeg)]) (k_X10_year__0 (cN_D hC.2.2.2.2.1) hN1) wk_X10_year wv_X10_year bw_42_15 rfl (by decide) (by decide) rfl rfl (Nat.le_of_ble_eq_true rfl) dL_law_887 ?_
  refine l_aload_n (pc := 890) 2 dL_law_890 rfl rfl ?_
  refine l_arg (pc := 891) rfl rfl (jv := nI 1) (by decide) (l_in hL hj 1 (by decide)) dL_law_891 dL_law_892 dL_law_893 dL_law_894 dL_law_895 ?_
  refine l_arg (pc := 896) rfl rfl (jv := nI 2) (by decide) (l_in hL hj 2 (by decide)) dL_law_896 dL_law_897 dL_law_898 dL_law_899 dL_law_900 ?_
  refine l_arg (pc := 901) rfl rfl (jv := nI 3) (by decide) (l_in hL hj 3 (by decide)) dL_law_901 dL_law_902 dL_law_903 dL_law_904 dL_law_905 ?_
  refine l_callM (pc := 906) (n2 := 9) (As := [Value.int (xs (nI (6 * j) + nI 1).toNatClampNeg), Value.int (xs (nI (6 * j) + nI 2).toNatClampNeg), Value.int (xs (nI (6 * j) + nI 3).toNatClampNeg)]) (k_X11_year__0 (cM_D hC.2.2.2.2.2.1) hM1) wk_X11_year wv_X11_year bw_43_23 rfl (by decide) (by decide) rfl rfl (Nat.le_of_ble_eq_true rfl) dL_law_906 ?_
  exact l_icmp_eq (pc := 909) (tgt := 963) dL_law_909 (by decide) rfl (hgo σ1 τ1 hR1)
set_option maxRecDepth 100000 in
set_option maxHeartbeats 4000000 in
theorem lawcase_keep {p : Program} {e : Env} {s : State} {m : MethodId} {below : List Frame} {meth : Method} {c : Code} {l : Launch} {b L : Nat} {xs : Nat → Int32} {D : va_G} {a a2 : Nat → Nat} {cI cS : ClassId} {cc ss : Nat} (hC : LC p e s m below meth c l b L xs D a a2 cI cS cc ss) (hL : L ≤ 384) {j : Nat} (hj : 6 * j + 6 ≤ L) (hk : j < 64) {σ τ : St} (h : Rel j σ τ) (hgo : ∀ σ1 τ1 : St, Rel (j + 1) σ1 τ1 → GL p e s m below meth c l b L xs D a a2 cI cS cc ss σ1 τ1 [(0, Value.ref b), (1, Value.ref (a 0)), (2, Value.ref (a2 0)), (3, Value.int (nI (6 * j)))] 963 []) : GL p e s m below meth c l b L xs D a a2 cI cS cc ss σ τ [(0, Value.ref b), (1, Value.ref (a 0)), (2, Value.ref (a2 0)), (3, Value.int (nI (6 * j)))] 914 [] := by
  obtain ⟨r, σ1, τ1, hN1, hM1, hR1⟩ := st_keep h hk
  refine l_aload_n (pc := 914) 1 dL_law_914 rfl rfl ?_
  refine l_callN (pc := 915) (n2 := 1) (As := []) (k_X10_keep__0 (cN_D hC.2.2.2.2.1) hN1) wk_X10_keep wv_X10_keep bw_44_15 rfl (by decide) (by decide) rfl rfl (Nat.le_of_ble_eq_true rfl) dL_law_915 ?_
  refine l_aload_n (pc := 918) 2 dL_law_918 rfl rfl ?_
  refine l_callM (pc := 919) (n2 := 1) (As := []) (k_X11_keep__0 (cM_D hC.2.2.2.2.2.1) hM1) wk_X11_keep wv_X11_keep bw_44_20 rfl (by decide) (by decide) rfl rfl (Nat.le_of_ble_eq_true rfl) dL_law_919 ?_
  exact l_icmp_eq (pc := 922) (tgt := 963) dL_law_922 (by decide) rfl (hgo σ1 τ1 hR1)
set_option maxRecDepth 100000 in
set_option maxHeartbeats 4000000 in
theorem lawcase_back {p : Program} {e : Env} {s : State} {m : MethodId} {below : List Frame} {meth : Method} {c : Code} {l : Launch} {b L : Nat} {xs : Nat → Int32} {D : va_G} {a a2 : Nat → Nat} {cI cS : ClassId} {cc ss : Nat} (hC : LC p e s m below meth c l b L xs D a a2 cI cS cc ss) (hL : L ≤ 384) {j : Nat} (hj : 6 * j + 6 ≤ L) (hk : j < 64) {σ τ : St} (h : Rel j σ τ) (hgo : ∀ σ1 τ1 : St, Rel (j + 1) σ1 τ1 → GL p e s m below meth c l b L xs D a a2 cI cS cc ss σ1 τ1 [(0, Value.ref b), (1, Value.ref (a 0)), (2, Value.ref (a2 0)), (3, Value.int (nI (6 * j)))] 963 []) : GL p e s m below meth c l b L xs D a a2 cI cS cc ss σ τ [(0, Value.ref b), (1, Value.ref (a 0)), (2, Value.ref (a2 0)), (3, Value.int (nI (6 * j)))] 927 [] := by
  obtain ⟨r, σ1, τ1, hN1, hM1, hR1⟩ := st_back h hk
  refine l_aload_n (pc := 927) 1 dL_law_927 rfl rfl ?_
  refine l_callN (pc := 928) (n2 := 1) (As := []) (k_X10_back__0 (cN_D hC.2.2.2.2.1) hN1) wk_X10_back wv_X10_back bw_45_0 rfl (by decide) (by decide) rfl rfl (Nat.le_of_ble_eq_true rfl) dL_law_928 ?_
  refine l_aload_n (pc := 931) 2 dL_law_931 rfl rfl ?_
  refine l_callM (pc := 932) (n2 := 1) (As := []) (k_X11_back__0 (cM_D hC.2.2.2.2.2.1) hM1) wk_X11_back wv_X11_back bw_45_4 rfl (by decide) (by decide) rfl rfl (Nat.le_of_ble_eq_true rfl) dL_law_932 ?_
  exact l_icmp_eq (pc := 935) (tgt := 963) dL_law_935 (by decide) rfl (hgo σ1 τ1 hR1)
set_option maxRecDepth 100000 in
set_option maxHeartbeats 4000000 in
theorem lawcase_count {p : Program} {e : Env} {s : State} {m : MethodId} {below : List Frame} {meth : Method} {c : Code} {l : Launch} {b L : Nat} {xs : Nat → Int32} {D : va_G} {a a2 : Nat → Nat} {cI cS : ClassId} {cc ss : Nat} (hC : LC p e s m below meth c l b L xs D a a2 cI cS cc ss) (hL : L ≤ 384) {j : Nat} (hj : 6 * j + 6 ≤ L) (hk : j < 64) {σ τ : St} (h : Rel j σ τ) (hgo : ∀ σ1 τ1 : St, Rel (j + 1) σ1 τ1 → GL p e s m below meth c l b L xs D a a2 cI cS cc ss σ1 τ1 [(0, Value.ref b), (1, Value.ref (a 0)), (2, Value.ref (a2 0)), (3, Value.int (nI (6 * j)))] 963 []) : GL p e s m below meth c l b L xs D a a2 cI cS cc ss σ τ [(0, Value.ref b), (1, Value.ref (a 0)), (2, Value.ref (a2 0)), (3, Value.int (nI (6 * j)))] 940 [] := by
  obtain ⟨r, σ1, τ1, hN1, hM1, hR1⟩ := st_count h hk (xs (nI (6 * j) + nI 1).toNatClampNeg)
  refine l_aload_n (pc := 940) 1 dL_law_940 rfl rfl ?_
  refine l_arg (pc := 941) rfl rfl (jv := nI 1) (by decide) (l_in hL hj 1 (by decide)) dL_law_941 dL_law_942 dL_law_943 dL_law_944 dL_law_945 ?_
  refine l_callN (pc := 946) (n2 := 2) (As := [Value.int (xs (nI (6 * j) + nI 1).toNatClampNeg)]) (k_X10_count__0 (cN_D hC.2.2.2.2.1) hN1) wk_X10_count wv_X10_count bw_45_8 rfl (by decide) (by decide) rfl rfl (Nat.le_of_ble_eq_true rfl) dL_law_946 ?_
  refine l_aload_n (pc := 949) 2 dL_law_949 rfl rfl ?_
  refine l_arg (pc := 950) rfl rfl (jv := nI 1) (by decide) (l_in hL hj 1 (by decide)) dL_law_950 dL_law_951 dL_law_952 dL_law_953 dL_law_954 ?_
  refine l_callM (pc := 955) (n2 := 2) (As := [Value.int (xs (nI (6 * j) + nI 1).toNatClampNeg)]) (k_X11_count__0 (cM_D hC.2.2.2.2.2.1) hM1) wk_X11_count wv_X11_count bw_45_21 rfl (by decide) (by decide) rfl rfl (Nat.le_of_ble_eq_true rfl) dL_law_955 ?_
  exact l_icmp_eq (pc := 958) (tgt := 963) dL_law_958 (by decide) rfl (hgo σ1 τ1 hR1)
set_option maxRecDepth 100000 in
set_option maxHeartbeats 4000000 in
theorem law_loop {p : Program} {e : Env} {s : State} {m : MethodId} {below : List Frame} {meth : Method} {c : Code} {l : Launch} {b L : Nat} {xs : Nat → Int32} {D : va_G} {a a2 : Nat → Nat} {cI cS : ClassId} {cc ss : Nat} (hC : LC p e s m below meth c l b L xs D a a2 cI cS cc ss) (hL : L ≤ 384) : ∀ (n j : Nat), j + n = 65 → 6 * j ≤ L + 5 → ∀ σ τ : St, Rel j σ τ → GL p e s m below meth c l b L xs D a a2 cI cS cc ss σ τ [(0, Value.ref b), (1, Value.ref (a 0)), (2, Value.ref (a2 0)), (3, Value.int (nI (6 * j)))] 18 [] := by
  intro n
  induction n with
  | zero => intro j h1 h2; omega
  | succ n ih =>
    intro j h1 h2 σ τ h
    refine l_iload_n (pc := 18) 3 dL_law_18 rfl rfl ?_
    refine l_aload_n (pc := 19) 0 dL_law_19 rfl rfl ?_
    refine l_slen (pc := 20) dL_law_20 ?_
    refine l_bipush (pc := 21) (v := 6) dL_law_21 (by decide) ?_
    refine l_isub (pc := 23) dL_law_23 ?_
    refine l_icmp_gt (pc := 24) (tgt := 969) dL_law_24 (by decide) (fun _ => ?_) (fun hq => ?_)
    · refine l_iconst (pc := 969) (v := 1) dL_law_969 (by decide) ?_
      exact l_ret (pc := 970) dL_law_970
    · have hj : 6 * j + 6 ≤ L := by
        rcases Nat.lt_or_ge L (6 * j + 6) with q | q
        · exfalso
          apply hq
          have e1 : (Int32.ofNat L - 6 : Int32).toInt = (L : Int) - 6 := pk_sub_toInt (a := L) (b := 6) (by omega) (by omega)
          have e2 : (nI (6 * j)).toInt = ((6 * j : Nat) : Int) := nI_toInt (by omega)
          rw [Int32.lt_iff_toInt_lt, e1, e2]
          omega
        · exact q
      have hk : j < 64 := by omega
      have hgo : ∀ σ1 τ1 : St, Rel (j + 1) σ1 τ1 → GL p e s m below meth c l b L xs D a a2 cI cS cc ss σ1 τ1 [(0, Value.ref b), (1, Value.ref (a 0)), (2, Value.ref (a2 0)), (3, Value.int (nI (6 * j)))] 963 [] := fun σ1 τ1 hR => by
        refine l_iinc (pc := 963) [1, 2, 3, 0] 3 (v := nI (6 * (j + 1))) (lv1 := [(0, Value.ref b), (1, Value.ref (a 0)), (2, Value.ref (a2 0)), (3, Value.int (nI (6 * (j + 1))))]) dL_law_963 rfl (by rw [show Int32.ofInt 6 = nI 6 from by decide, nI_add, Nat.mul_succ]) (by decide) rfl ?_
        refine l_goto (pc := 966) (tgt := 18) dL_law_966 (by decide) ?_
        exact ih (j + 1) (by omega) (by omega) σ1 τ1 hR
      refine l_aload_n (pc := 27) 0 dL_law_27 rfl rfl ?_
      refine l_iload_n (pc := 28) 3 dL_law_28 rfl rfl ?_
      refine l_sld (pc := 29) (vp_in_nI (by omega) (by omega)) dL_law_29 ?_
      refine l_bipush (pc := 30) (v := 31) dL_law_30 (by decide) ?_
      refine l_iand (pc := 32) dL_law_32 ?_
      obtain ⟨v, hv, he⟩ := l_op (xs (nI (6 * j)).toNatClampNeg)
      rw [he]
      by_cases hd : 26 < v
      · exact l_tableOut (pc := 33) (tgt := 963) dL_law_33 (Or.inr (by rw [nI_toInt (by omega)]; omega)) (by decide) (hgo σ τ h.mono)
      by_cases hv0 : v = 0
      · subst hv0
        exact l_tableIn (pc := 33) (off := 123) (tgt := 156) dL_law_33 (by decide) (by decide) (by decide) (by decide) (lawcase_write hC hL hj hk h hgo)
      by_cases hv1 : v = 1
      · subst hv1
        exact l_tableIn (pc := 33) (off := 146) (tgt := 179) dL_law_33 (by decide) (by decide) (by decide) (by decide) (lawcase_wipe hC hL hj hk h hgo)
      by_cases hv2 : v = 2
      · subst hv2
        exact l_tableIn (pc := 33) (off := 159) (tgt := 192) dL_law_33 (by decide) (by decide) (by decide) (by decide) (lawcase_fault hC hL hj hk h hgo)
      by_cases hv3 : v = 3
      · subst hv3
        exact l_tableIn (pc := 33) (off := 172) (tgt := 205) dL_law_33 (by decide) (by decide) (by decide) (by decide) (lawcase_lay hC hL hj hk h hgo)
      by_cases hv4 : v = 4
      · subst hv4
        exact l_tableIn (pc := 33) (off := 185) (tgt := 218) dL_law_33 (by decide) (by decide) (by decide) (by decide) (lawcase_house hC hL hj hk h hgo)
      by_cases hv5 : v = 5
      · subst hv5
        exact l_tableIn (pc := 33) (off := 218) (tgt := 251) dL_law_33 (by decide) (by decide) (by decide) (by decide) (lawcase_news hC hL hj hk h hgo)
      by_cases hv6 : v = 6
      · subst hv6
        exact l_tableIn (pc := 33) (off := 251) (tgt := 284) dL_law_33 (by decide) (by decide) (by decide) (by decide) (lawcase_wind hC hL hj hk h hgo)
      by_cases hv7 : v = 7
      · subst hv7
        exact l_tableIn (pc := 33) (off := 274) (tgt := 307) dL_law_33 (by decide) (by decide) (by decide) (by decide) (lawcase_step hC hL hj hk h hgo)
      by_cases hv8 : v = 8
      · subst hv8
        exact l_tableIn (pc := 33) (off := 297) (tgt := 330) dL_law_33 (by decide) (by decide) (by decide) (by decide) (lawcase_open hC hL hj hk h hgo)
      by_cases hv9 : v = 9
      · subst hv9
        exact l_tableIn (pc := 33) (off := 330) (tgt := 363) dL_law_33 (by decide) (by decide) (by decide) (by decide) (lawcase_tell hC hL hj hk h hgo)
      by_cases hv10 : v = 10
      · subst hv10
        exact l_tableIn (pc := 33) (off := 363) (tgt := 396) dL_law_33 (by decide) (by decide) (by decide) (by decide) (lawcase_undo hC hL hj hk h hgo)
      by_cases hv11 : v = 11
      · subst hv11
        exact l_tableIn (pc := 33) (off := 376) (tgt := 409) dL_law_33 (by decide) (by decide) (by decide) (by decide) (lawcase_behind hC hL hj hk h hgo)
      by_cases hv12 : v = 12
      · subst hv12
        exact l_tableIn (pc := 33) (off := 409) (tgt := 442) dL_law_33 (by decide) (by decide) (by decide) (by decide) (lawcase_when hC hL hj hk h hgo)
      by_cases hv13 : v = 13
      · subst hv13
        exact l_tableIn (pc := 33) (off := 442) (tgt := 475) dL_law_33 (by decide) (by decide) (by decide) (by decide) (lawcase_last hC hL hj hk h hgo)
      by_cases hv14 : v = 14
      · subst hv14
        exact l_tableIn (pc := 33) (off := 475) (tgt := 508) dL_law_33 (by decide) (by decide) (by decide) (by decide) (lawcase_cut hC hL hj hk h hgo)
      by_cases hv15 : v = 15
      · subst hv15
        exact l_tableIn (pc := 33) (off := 518) (tgt := 551) dL_law_33 (by decide) (by decide) (by decide) (by decide) (lawcase_openings hC hL hj hk h hgo)
      by_cases hv16 : v = 16
      · subst hv16
        exact l_tableIn (pc := 33) (off := 581) (tgt := 614) dL_law_33 (by decide) (by decide) (by decide) (by decide) (lawcase_bears hC hL hj hk h hgo)
      by_cases hv17 : v = 17
      · subst hv17
        exact l_tableIn (pc := 33) (off := 614) (tgt := 647) dL_law_33 (by decide) (by decide) (by decide) (by decide) (lawcase_quarrel hC hL hj hk h hgo)
      by_cases hv18 : v = 18
      · subst hv18
        exact l_tableIn (pc := 33) (off := 667) (tgt := 700) dL_law_33 (by decide) (by decide) (by decide) (by decide) (lawcase_see hC hL hj hk h hgo)
      by_cases hv19 : v = 19
      · subst hv19
        exact l_tableIn (pc := 33) (off := 736) (tgt := 769) dL_law_33 (by decide) (by decide) (by decide) (by decide) (lawcase_forget hC hL hj hk h hgo)
      by_cases hv20 : v = 20
      · subst hv20
        exact l_tableIn (pc := 33) (off := 749) (tgt := 782) dL_law_33 (by decide) (by decide) (by decide) (by decide) (lawcase_began hC hL hj hk h hgo)
      by_cases hv21 : v = 21
      · subst hv21
        exact l_tableIn (pc := 33) (off := 772) (tgt := 805) dL_law_33 (by decide) (by decide) (by decide) (by decide) (lawcase_blew hC hL hj hk h hgo)
      by_cases hv22 : v = 22
      · subst hv22
        exact l_tableIn (pc := 33) (off := 785) (tgt := 818) dL_law_33 (by decide) (by decide) (by decide) (by decide) (lawcase_gusts hC hL hj hk h hgo)
      by_cases hv23 : v = 23
      · subst hv23
        exact l_tableIn (pc := 33) (off := 838) (tgt := 871) dL_law_33 (by decide) (by decide) (by decide) (by decide) (lawcase_year hC hL hj hk h hgo)
      by_cases hv24 : v = 24
      · subst hv24
        exact l_tableIn (pc := 33) (off := 881) (tgt := 914) dL_law_33 (by decide) (by decide) (by decide) (by decide) (lawcase_keep hC hL hj hk h hgo)
      by_cases hv25 : v = 25
      · subst hv25
        exact l_tableIn (pc := 33) (off := 894) (tgt := 927) dL_law_33 (by decide) (by decide) (by decide) (by decide) (lawcase_back hC hL hj hk h hgo)
      by_cases hv26 : v = 26
      · subst hv26
        exact l_tableIn (pc := 33) (off := 907) (tgt := 940) dL_law_33 (by decide) (by decide) (by decide) (by decide) (lawcase_count hC hL hj hk h hgo)
      omega
