/-! CONSTRUCTORS: worlds as lists of cells -/
theorem P_apart {D : va_G} {X Y : va_W} {H H1 : Heap} {A1 : Nat → Prop} (hY : va_P D vwCl Y H) (hk : ∀ q : Nat, q < H.size → ¬ A1 q → H1[q]? = H[q]?) (hn : ∀ (k : Nat) (q : Nat × va_E), Y[k]? = some q → ¬ A1 q.1) : va_P D vwCl Y H1 := fun k q hq => (hY k q hq).kept (hk q.1 (hY k q hq).lt (hn k q hq))
def NW2 (U : State) : Prop := NW U ∧ va_AO "NewsDraughts$Standing" U
theorem NW2.warm {s U : State} (hW : s.WarmedH U.vm) (h : NW2 s) : NW2 U := ⟨NW.warm hW h.1, va_AO.moved hW.alike h.2⟩
theorem NW2.same {u U : State} (e : u.vm = U.vm) (h : NW2 u) : NW2 U := ⟨NW.same e h.1, va_AO.moved (by rw [← e]; exact Vm.Alike.refl _) h.2⟩
abbrev tysN (cI cS : ClassId) : List (ClassId × FieldType) := [(cI, .int), (cS, .object "NewsDraughts$Standing")]
def rmI (d k n : Nat) : Room := { frames := d, cells := k, slots := n, locals := 30 * d }
def CI (Γ : Gm) (cc : ByteArray) (nL : Nat) (own : String) (D : va_G) (cI cS : ClassId) (A : Nat → Prop) : Prop :=
  (mp Γ).tables.exec = Jvm.exec ∧ (mc Γ).code = cc ∧ (mc Γ).maxLocals = nL ∧ (mh Γ).sig.returnType = none ∧ (mh Γ).locks = false ∧ (∀ w ∈ wsL_law, w.before (ma Γ) (mz Γ) = true) ∧ (mz Γ).vm.findClass own = some (mm Γ).cls ∧ va_K D vwCl (tysN cI cS) (mz Γ) ∧ NW2 (mz Γ) ∧ (∀ q : Nat, (mz Γ).heap.size ≤ q → A q) ∧ (mh Γ).name = "<init>"
/-- a world of a call: the callee's start -/
def PIc (D : va_G) (cI cS : ClassId) (sz : Nat) (ws : va_W) (U : State) : Prop := U.heap.size = sz ∧ va_P D vwCl ws U.heap ∧ va_K D vwCl (tysN cI cS) U ∧ NW2 U ∧ va_D (fun _ => True) ws
def QI (D : va_G) (A : Nat → Prop) (W1 : (Nat → Nat) → va_W) : Array Value → State → Outcome → State → Prop := va_Qv (fun _ : Nat → Nat => True) (fun q t => va_P D vwCl (W1 q) t.heap ∧ va_D A (W1 q)) A
def Ki (l : Launch) (D : va_G) (cI cS : ClassId) (y : MethodName) (cc : ByteArray) (nL d k n : Nat) (av : List Value) (ws : va_W) (W1 : (Nat → Nat) → va_W) : Prop :=
  ∀ sz : Nat, Met l y (.code y cc nL none :: wsL_law) (rmI d k n) (va_Pc av (PIc D cI cS sz ws)) (QI D (va_A ws sz) W1) k n (va_A ws sz)
def GI (l : Launch) (D : va_G) (cI cS : ClassId) (Γ : Gm) (cc : ByteArray) (nL : Nat) (own : String) (d MC MS : Nat) (A : Nat → Prop) (W1 : (Nat → Nat) → va_W) (ws : va_W) (k n : Nat) (lv : List (Nat × Value)) (pc : Nat) (st : List Value) : Prop :=
  CI Γ cc nL own D cI cS A → ∀ (H : Heap) (locs : List Loc), va_P D vwCl ws H → va_D A ws → va_S A (mz Γ).heap H locs → ∀ ls : Array Slot, lv_has ls nL lv →
    W (mp Γ) l (me Γ) (rmI d MC MS) (mz Γ) (mm Γ) (ma Γ) (mb Γ) (mh Γ) (mc Γ) H locs k n (MQ (mb Γ) (QI D A W1) (ma Γ) (mz Γ) MC MS A) (F0 (mm Γ) pc ls st)
theorem pi_blind {D : va_G} {cI cS : ClassId} {sz : Nat} {ws : va_W} {av : List Value} : FrameBlind (va_Pc av (PIc D cI cS sz ws)) := fun a U g mk q => by
  obtain ⟨q0, qs, qP, qK, qN, qD⟩ := q
  exact ⟨q0, qs, qP, va_K.moved (u := U) (U := U.calling g mk a) (Vm.Alike.refl U.vm) qK, NW2.same (u := U) (U := U.calling g mk a) rfl qN, qD⟩
theorem enterI {l : Launch} {D : va_G} {cI cS : ClassId} {y : MethodName} {cc : ByteArray} {nL d k n : Nat} {own : String} {av : List Value} {ws : va_W} {W1 : (Nat → Nat) → va_W} (hy : plainFor y = true) (hown : y.cls = own) (hnm : y.name = "<init>") (hlen : (lg_sl av).length ≤ nL)
    (h : ∀ (Γ : Gm) (A : Nat → Prop), GI l D cI cS Γ cc nL own d k n A W1 ws 0 0 (lv_args 0 av) 0 []) : Ki l D cI cS y cc nL d k n av ws W1 := by
  intro sz
  refine met_ofWF (cc := cc) (maxL := nL) (ret := none) hy rfl ?_
  intro p e s m args below meth c s₁ B hml hv
  obtain ⟨rfl, hsz, hP, hK, hN, hD0⟩ := hv
  subst hsz
  have hts := atoms_spec (ws := .code y cc nL none :: wsL_law) B.pre
  have hl := lv_entry av (n := nL) hlen
  rw [lg_entry_eq]
  exact h (p, e, s, m, av.toArray, below, meth, c, rmI d k n, 0, 0, fun _ _ => True, va_A ws s.heap.size) (va_A ws s.heap.size) ⟨B.exec, B.bytes, hml, B.returns, B.notSynchronized, fun w hw => hts w (List.mem_cons_of_mem _ hw), by rw [← hown]; exact findClass_of_methodNamed B.named, hK, hN, fun q hq => Or.inr hq, by rw [← hnm]; exact (name_of_methodNamed B.named B.method).1⟩ s.heap [] hP hD0.self va_S.rf _ hl
section CTOR
variable {l : Launch} {D : va_G} {cI cS : ClassId} {Γ : Gm} {cc : ByteArray} {nL : Nat} {own : String} {d MC MS : Nat} {A : Nat → Prop} {W1 : (Nat → Nat) → va_W} {ws : va_W} {k n : Nat} {lv : List (Nat × Value)} {pc : Nat} {st : List Value}
theorem i_iconst {j : Int} {v : Int32} (hd : decode cc pc = .ok (.iconst j, 1)) (hv : Int32.ofInt j = v) (kk : GI l D cI cS Γ cc nL own d MC MS A W1 ws k n lv (pc + 1) (.int v :: st)) : GI l D cI cS Γ cc nL own d MC MS A W1 ws k n lv pc (st) := fun hC H locs hP hD hS ls hl => lv_iconst hC.1 hC.2.1 hd hv (kk hC H locs hP hD hS ls hl)
theorem i_bipush {j : Int} {v : Int32} (hd : decode cc pc = .ok (.bipush j, 2)) (hv : (Int8.ofInt j).toInt32 = v) (kk : GI l D cI cS Γ cc nL own d MC MS A W1 ws k n lv (pc + 2) (.int v :: st)) : GI l D cI cS Γ cc nL own d MC MS A W1 ws k n lv pc (st) := fun hC H locs hP hD hS ls hl => lv_bipush hC.1 hC.2.1 hd hv (kk hC H locs hP hD hS ls hl)
theorem i_sipush {j : Int} {v : Int32} (hd : decode cc pc = .ok (.sipush j, 3)) (hv : (Int16.ofInt j).toInt32 = v) (kk : GI l D cI cS Γ cc nL own d MC MS A W1 ws k n lv (pc + 3) (.int v :: st)) : GI l D cI cS Γ cc nL own d MC MS A W1 ws k n lv pc (st) := fun hC H locs hP hD hS ls hl => lv_sipush hC.1 hC.2.1 hd hv (kk hC H locs hP hD hS ls hl)
theorem i_dup {v : Value} (hd : decode cc pc = .ok (.dup, 1)) (hv : v.category = 1) (kk : GI l D cI cS Γ cc nL own d MC MS A W1 ws k n lv (pc + 1) (v :: v :: st)) : GI l D cI cS Γ cc nL own d MC MS A W1 ws k n lv pc (v :: st) := fun hC H locs hP hD hS ls hl => lv_dup hC.1 hC.2.1 hd hv (kk hC H locs hP hD hS ls hl)
theorem i_aload_n {kf : Fin 4} (j : Nat) {i x : Nat} (hd : decode cc pc = .ok (.aload_n kf, 1)) (hi : (kf : Nat) = i) (hj : lv[j]? = some (i, .ref x)) (kk : GI l D cI cS Γ cc nL own d MC MS A W1 ws k n lv (pc + 1) (.ref x :: st)) : GI l D cI cS Γ cc nL own d MC MS A W1 ws k n lv pc st := fun hC H locs hP hD hS ls hl => lv_aload_n hC.1 hC.2.1 hd hi (lv_at hl j hj) (kk hC H locs hP hD hS ls hl)
theorem i_iload_n {kf : Fin 4} (j : Nat) {i : Nat} {x : Int32} (hd : decode cc pc = .ok (.iload_n kf, 1)) (hi : (kf : Nat) = i) (hj : lv[j]? = some (i, .int x)) (kk : GI l D cI cS Γ cc nL own d MC MS A W1 ws k n lv (pc + 1) (.int x :: st)) : GI l D cI cS Γ cc nL own d MC MS A W1 ws k n lv pc st := fun hC H locs hP hD hS ls hl => lv_iload_n hC.1 hC.2.1 hd hi (lv_at hl j hj) (kk hC H locs hP hD hS ls hl)
theorem i_istore_n {kf : Fin 4} (is : List Nat) {i : Nat} {x : Int32} {lv1 : List (Nat × Value)} (hd : decode cc pc = .ok (.istore_n kf, 1)) (hi : (kf : Nat) = i) (hn : i < nL) (hv : lv_pick ((i, Value.int x) :: lv.filter (fun q => !(q.1 == i) && !(q.1 + 1 == i && q.2.category == 2))) is = lv1) (kk : GI l D cI cS Γ cc nL own d MC MS A W1 ws k n lv1 (pc + 1) st) : GI l D cI cS Γ cc nL own d MC MS A W1 ws k n lv pc (.int x :: st) := fun hC H locs hP hD hS ls hl => lv_istore_n hC.1 hC.2.1 hd hi hl hn rfl (fun ls1 hl1 => kk hC H locs hP hD hS ls1 (lv_sub hl1 is hv))
theorem i_iinc (is : List Nat) (j : Nat) {i : Nat} {z : Int} {x v : Int32} {lv1 : List (Nat × Value)} (hd : decode cc pc = .ok (.iinc i z, 3)) (hj : lv[j]? = some (i, .int x)) (hv : x + Int32.ofInt z = v) (hn : i < nL) (hq : lv_pick ((i, Value.int v) :: lv.filter (fun q => !(q.1 == i) && !(q.1 + 1 == i && q.2.category == 2))) is = lv1) (kk : GI l D cI cS Γ cc nL own d MC MS A W1 ws k n lv1 (pc + 3) st) : GI l D cI cS Γ cc nL own d MC MS A W1 ws k n lv pc st := fun hC H locs hP hD hS ls hl => lv_iinc (v := v) hC.1 hC.2.1 hd hl hj hv hn rfl (fun ls1 hl1 => kk hC H locs hP hD hS ls1 (lv_sub hl1 is hq))
theorem i_goto {off : Int} {tgt : Nat} (hd : decode cc pc = .ok (.goto off, 3)) (ht : (pc : Int) + off = (tgt : Int)) (kk : GI l D cI cS Γ cc nL own d MC MS A W1 ws k n lv tgt st) : GI l D cI cS Γ cc nL own d MC MS A W1 ws k n lv pc st := fun hC H locs hP hD hS ls hl => lv_goto hC.1 hC.2.1 hd ht (kk hC H locs hP hD hS ls hl)
theorem i_ge_t {x y : Int32} {off : Int} {tgt : Nat} (hd : decode cc pc = .ok (.if_icmp .ge off, 3)) (ht : (pc : Int) + off = (tgt : Int)) (hc : y ≤ x) (kk : GI l D cI cS Γ cc nL own d MC MS A W1 ws k n lv tgt st) : GI l D cI cS Γ cc nL own d MC MS A W1 ws k n lv pc (.int y :: .int x :: st) := fun hC H locs hP hD hS ls hl => lv_icmp_ge hC.1 hC.2.1 hd ht (fun _ => kk hC H locs hP hD hS ls hl) (fun q => absurd hc q)
theorem i_ge_f {x y : Int32} {off : Int} {tgt : Nat} (hd : decode cc pc = .ok (.if_icmp .ge off, 3)) (ht : (pc : Int) + off = (tgt : Int)) (hc : ¬ y ≤ x) (kk : GI l D cI cS Γ cc nL own d MC MS A W1 ws k n lv (pc + 3) st) : GI l D cI cS Γ cc nL own d MC MS A W1 ws k n lv pc (.int y :: .int x :: st) := fun hC H locs hP hD hS ls hl => lv_icmp_ge hC.1 hC.2.1 hd ht (fun q => absurd q hc) (fun _ => kk hC H locs hP hD hS ls hl)
theorem i_obj {x index : Nat} (hlink : Cond.methodLink own index objectInit ∈ wsL_law) (hin : Cond.instanceMethod objectInit ∈ wsL_law) (hco : Cond.code objectInit ⟨#[0xb1]⟩ 1 none ∈ wsL_law) (hd : decode cc pc = .ok (.invokespecial index, 3)) (h1 : 1 ≤ d) (h2 : (st.map fun v => v.category).sum + 12 ≤ 30 * d) (kk : GI l D cI cS Γ cc nL own d MC MS A W1 ws k n lv (pc + 3) st) : GI l D cI cS Γ cc nL own d MC MS A W1 ws k n lv pc (.ref x :: st) := fun hC H locs hP hD hS ls hl => W.objInit hC.1 hC.2.1 hC.2.2.2.2.2.2.1 (hC.2.2.2.2.2.1 _ hlink) (hC.2.2.2.2.2.1 _ hin) (hC.2.2.2.2.2.1 _ hco) rfl (by rw [hC.2.2.1]; exact hl.1) rfl hd h1 (by show 2 * 0 + _ + 12 ≤ 30 * d; omega) (W.eq rfl (kk hC H locs hP hD hS ls hl))
theorem i_newa {N : Nat} {x : Int32} (harr : Cond.arrayClass .int ∈ wsL_law) (hn : ¬ x < 0) (hN : x.toNatClampNeg = N) (hb : N ≤ 1000) (hk : k + 1 ≤ MC) (hs : n + N ≤ MS) (hd : decode cc pc = .ok (.newarray .int, 2)) (kk : ∀ q : Nat, GI l D cI cS Γ cc nL own d MC MS A W1 (ws ++ [(q, .inl (cI, N, .inl (fun _ => 0)))]) (k + 1) (n + N) lv (pc + 2) (.ref q :: st)) : GI l D cI cS Γ cc nL own d MC MS A W1 ws k n lv pc (.int x :: st) := fun hC H locs hP hD hS ls hl => by
  obtain ⟨hx, hbb, hml, hret, hlk, hts, hown, hK, hN2, hA, hnm⟩ := id hC
  refine va_newa (atype := .int) (ty := .int) (a0 := (N, .inl (fun _ => 0))) hx hbb (hts _ harr) rfl hK hP hD hS hA (fun cA => rfl) hn hN (by show N * 4 ≤ 536870912; omega) hk hs hd (fun q cA H1 hK1 hP1 hD1 hS1 => ?_)
  have e1 := (hK1.2 2 (cA, .int) rfl).2
  have e2 := (hK.2 0 (cI, .int) rfl).2
  have e3 : cA = cI := Option.some.inj (e1.symm.trans e2)
  subst e3
  exact kk q hC H1 locs hP1 hD1 hS1 ls hl
theorem i_newq {N index : Nat} {x : Int32} (hlink : Cond.classLink own index "NewsDraughts$Standing" ∈ wsL_law) (hn : ¬ x < 0) (hN : x.toNatClampNeg = N) (hb : N ≤ 1000) (hk : k + 1 ≤ MC) (hs : n + N ≤ MS) (hd : decode cc pc = .ok (.anewarray index, 3)) (kk : ∀ q : Nat, GI l D cI cS Γ cc nL own d MC MS A W1 (ws ++ [(q, .inl (cS, N, .inr (.inr (.inr (.inr (fun _ => none))))))]) (k + 1) (n + N) lv (pc + 3) (.ref q :: st)) : GI l D cI cS Γ cc nL own d MC MS A W1 ws k n lv pc (.int x :: st) := fun hC H locs hP hD hS ls hl => by
  obtain ⟨hx, hbb, hml, hret, hlk, hts, hown, hK, hN2, hA, hnm⟩ := id hC
  refine va_newq hx hbb hown (hts _ hlink) hN2.2 hK hP hD hS hA hn hN (by omega) hk hs hd (fun q cA H1 hK1 hP1 hD1 hS1 => ?_)
  obtain ⟨kA, comp, -, -, -, e1⟩ := (hK1.2 2 (cA, .object "NewsDraughts$Standing") rfl).2
  obtain ⟨kB, comp2, -, -, -, e2⟩ := (hK.2 1 (cS, .object "NewsDraughts$Standing") rfl).2
  have e3 : cA = cS := Option.some.inj (e1.symm.trans e2)
  subst e3
  exact kk q hC H1 locs hP1 hD1 hS1 ls hl
theorem i_new {ci N index : Nat} {Cn : String} {T : u_T} {ty : Nat → FieldType} (fs : List Value) (hin : ∀ w ∈ u_ws Cn T N, w ∈ wsL_law) (hty : ∀ k, k < N → parseFieldDescriptor (T k).2.2.1 = some (ty k)) (hlink : Cond.classLink own index Cn ∈ wsL_law) (hins : Cond.instantiable Cn N ∈ wsL_law) (hini : Cond.initialized Cn ∈ wsL_law) (hc : vwCl[ci]? = some (Cn, T, N)) (hfs : ∀ j, j < N → defaultValue (ty j) = vp_V fs j) (hk : k + 1 ≤ MC) (hs : n + N ≤ MS) (hd : decode cc pc = .ok (.new index, 3)) (kk : ∀ q : Nat, GI l D cI cS Γ cc nL own d MC MS A W1 (ws ++ [(q, .inr (ci, fs))]) (k + 1) (n + N) lv (pc + 3) (.ref q :: st)) : GI l D cI cS Γ cc nL own d MC MS A W1 ws k n lv pc st := fun hC H locs hP hD hS ls hl => by
  obtain ⟨hx, hbb, hml, hret, hlk, hts, hown, hK, hN2, hA, hnm⟩ := id hC
  exact va_new hx hbb hts hin ty hty hown (hts _ hlink) (hts _ hins) (hts _ hini) hK hP hD hS hA hc hfs hk hs hd (fun q H1 hP1 hD1 hS1 => kk q hC H1 locs hP1 hD1 hS1 ls hl)
theorem i_get (q0 : Nat) {adr ci : Nat} {fs : List Value} {Cn : String} {T : u_T} {N index : Nat} {v : Value} (he : ws[q0]? = some (adr, .inr (ci, fs))) (hc : vwCl[ci]? = some (Cn, T, N)) (hin : ∀ w ∈ u_ws Cn T N, w ∈ wsL_law) (kf : Nat) (hk : kf < N) (hlink : Cond.fieldLink own index (T kf).1 (T kf).2.1 (T kf).2.2.1 ∈ wsL_law) (hv : fs[kf]? = some v) (hd : decode cc pc = .ok (.getfield index, 3)) (kk : GI l D cI cS Γ cc nL own d MC MS A W1 ws k n lv (pc + 3) (v :: st)) : GI l D cI cS Γ cc nL own d MC MS A W1 ws k n lv pc (.ref adr :: st) := fun hC H locs hP hD hS ls hl => va_get (D := D) (ref := (T kf).1) hC.1 hC.2.1 hC.2.2.2.2.2.1 hin hC.2.2.2.2.2.2.1 hC.2.2.2.2.2.2.2.1 hP q0 he hc kf hk (hC.2.2.2.2.2.1 _ hlink) (fun _ h9 => h9) hv hd (kk hC H locs hP hD hS ls hl)
theorem i_alen (q0 t0 : Nat) {adr : Nat} {cA : ClassId} {z : vp_A} {ty : FieldType} {v : Int32} (he : ws[q0]? = some (adr, .inl (cA, z))) (ht : (tysN cI cS)[t0]? = some (cA, ty)) (hv : Int32.ofNat z.1 = v) (hd : decode cc pc = .ok (.arraylength, 1)) (kk : GI l D cI cS Γ cc nL own d MC MS A W1 ws k n lv (pc + 1) (.int v :: st)) : GI l D cI cS Γ cc nL own d MC MS A W1 ws k n lv pc (.ref adr :: st) := fun hC H locs hP hD hS ls hl => va_alen (D := D) hC.1 hC.2.1 hC.2.2.2.2.2.2.2.1 hP q0 t0 he ht hv hd (kk hC H locs hP hD hS ls hl)
theorem i_astq (q0 qk ci : Nat) {adr N v : Nat} {r : vw_C} {vs : List Value} {z : Nat → Option Nat} {i : Int32} {j : Nat} {ws1 : va_W} (he : ws[q0]? = some (adr, .inl (cS, N, .inr (.inr (.inr (.inr z)))))) (hr : r.1 = "NewsDraughts$Standing") (hv : ws[qk]? = some (v, .inr (ci, vs))) (hc : vwCl[ci]? = some r) (hin : vp_in i N) (hj : i.toNatClampNeg = j) (hset : ws.set q0 (adr, .inl (cS, N, .inr (.inr (.inr (.inr (va_up z j (some v))))))) = ws1) (hd : decode cc pc = .ok (.aastore, 1)) (kk : GI l D cI cS Γ cc nL own d MC MS A W1 ws1 k n lv (pc + 1) st) : GI l D cI cS Γ cc nL own d MC MS A W1 ws k n lv pc (.ref v :: .int i :: .ref adr :: st) := fun hC H locs hP hD hS ls hl => va_astq (D := D) hC.1 hC.2.1 hC.2.2.2.2.2.2.2.1 hP hD hS q0 1 qk ci he (by rw [hr]; rfl) hv hc hin hd (fun H1 locs1 hP1 hD1 hS1 => kk hC H1 locs1 (by rw [hj, hset] at hP1; exact hP1) (by rw [hj, hset] at hD1; exact hD1) hS1 ls hl)
theorem i_put (q0 : Nat) {adr ci : Nat} {fs : List Value} {Cn : String} {T : u_T} {N index : Nat} {v : Value} {ty : FieldType} {ty0 : Nat → FieldType} {ws1 : va_W} (he : ws[q0]? = some (adr, .inr (ci, fs))) (hc : vwCl[ci]? = some (Cn, T, N)) (hin : ∀ w ∈ u_ws Cn T N, w ∈ wsL_law) (hty : ∀ k, k < N → parseFieldDescriptor (T k).2.2.1 = some (ty0 k)) (hnm : ∀ a, a < N → ∀ b, b < N → a ≠ b → (T a).2.1 ≠ (T b).2.1) (kf : Nat) (hk : kf < N) (hlink : Cond.fieldLink own index (T kf).1 (T kf).2.1 (T kf).2.2.1 ∈ wsL_law) (hfin : (T kf).2.2.2 = false) (hpd : parseFieldDescriptor (T kf).2.2.1 = some ty) (hn : narrow ty v = v) (hfit : fits ty v = true) (hl1 : kf < fs.length) (hset : ws.set q0 (adr, .inr (ci, fs.set kf v)) = ws1) (hd : decode cc pc = .ok (.putfield index, 3)) (kk : GI l D cI cS Γ cc nL own d MC MS A W1 ws1 k n lv (pc + 3) st) : GI l D cI cS Γ cc nL own d MC MS A W1 ws k n lv pc (v :: .ref adr :: st) := fun hC H locs hP hD hS ls hl => va_put (D := D) (ref := (T kf).1) hC.1 hC.2.1 hC.2.2.2.2.2.1 hin ty0 hty hnm hC.2.2.2.2.2.2.1 hC.2.2.2.2.2.2.2.1 hP hD hS q0 he hc kf hk (hC.2.2.2.2.2.1 _ hlink) (fun _ h9 => h9) hfin hpd hn hfit hl1 hd (fun H1 locs1 hP1 hD1 hS1 => kk hC H1 locs1 (by rw [hset] at hP1; exact hP1) (by rw [hset] at hD1; exact hD1) hS1 ls hl)
theorem i_putF (q0 : Nat) {adr ci : Nat} {fs : List Value} {Cn : String} {T : u_T} {N index : Nat} {v : Value} {ty : FieldType} {ty0 : Nat → FieldType} {ws1 : va_W} (he : ws[q0]? = some (adr, .inr (ci, fs))) (hc : vwCl[ci]? = some (Cn, T, N)) (hin : ∀ w ∈ u_ws Cn T N, w ∈ wsL_law) (hty : ∀ k, k < N → parseFieldDescriptor (T k).2.2.1 = some (ty0 k)) (hnm : ∀ a, a < N → ∀ b, b < N → a ≠ b → (T a).2.1 ≠ (T b).2.1) (kf : Nat) (hk : kf < N) (hlink : Cond.fieldLink own index (T kf).1 (T kf).2.1 (T kf).2.2.1 ∈ wsL_law) (hfin : (T kf).2.2.2 = true) (hdecl : (T kf).1 = own) (hpd : parseFieldDescriptor (T kf).2.2.1 = some ty) (hn : narrow ty v = v) (hfit : fits ty v = true) (hl1 : kf < fs.length) (hset : ws.set q0 (adr, .inr (ci, fs.set kf v)) = ws1) (hd : decode cc pc = .ok (.putfield index, 3)) (kk : GI l D cI cS Γ cc nL own d MC MS A W1 ws1 k n lv (pc + 3) st) : GI l D cI cS Γ cc nL own d MC MS A W1 ws k n lv pc (v :: .ref adr :: st) := fun hC H locs hP hD hS ls hl => va_putF (D := D) (ref := (T kf).1) hC.1 hC.2.1 hC.2.2.2.2.2.1 hin ty0 hty hnm hC.2.2.2.2.2.2.1 hC.2.2.2.2.2.2.2.1 hP hD hS q0 he hc kf hk (hC.2.2.2.2.2.1 _ hlink) (fun _ h9 => h9) hfin hC.2.2.2.2.2.2.2.2.2.2 hdecl hpd hn hfit hl1 hd (fun H1 locs1 hP1 hD1 hS1 => kk hC H1 locs1 (by rw [hset] at hP1; exact hP1) (by rw [hset] at hD1; exact hD1) hS1 ls hl)
theorem i_ret (q : Nat → Nat) (hw : W1 q = ws) (h1 : k ≤ MC) (h2 : n ≤ MS) (hd : decode cc pc = .ok (.return_, 1)) : GI l D cI cS Γ cc nL own d MC MS A W1 ws k n lv pc [] := fun hC H locs hP hD hS ls hl => by
  obtain ⟨hx, hbb, hml, hret, hlk, hts, hown, hK, hN2, hA, hnm⟩ := id hC
  subst hw
  refine W.widen (k := MC) (n := MS) h1 h2 ?_
  exact W.vret hx hbb hret (fun t ht hW => ⟨⟨q, rfl, trivial, (show va_P D vwCl (W1 q) t.heap by rw [ht]; exact hP), hD⟩, hS.F ht⟩) hS.2.2 hd hlk
theorem D_apart {wr wc : va_W} {A0 : Nat → Prop} {H : Heap} (hD : va_D A0 (wr ++ wc)) (hP : va_P D vwCl wr H) : ∀ (i : Nat) (q : Nat × va_E), wr[i]? = some q → ¬ va_A wc H.size q.1 := by
  intro i q hi hA
  rcases hA with ⟨j, e, hj⟩ | hj
  · have h1 : (wr ++ wc)[i]? = some q := by rw [List.getElem?_append_left (List.getElem?_eq_some_iff.mp hi).1]; exact hi
    have h2 : (wr ++ wc)[wr.length + j]? = some (q.1, e) := by rw [List.getElem?_append_right (by omega)]; rw [show wr.length + j - wr.length = j by omega]; exact hj
    have h3 := hD.1 i (wr.length + j) q (q.1, e) h1 h2 rfl
    have h4 := (List.getElem?_eq_some_iff.mp hi).1
    omega
  · have := (hP i q hi).lt
    omega
theorem P_left {wr wc : va_W} {H : Heap} (h : va_P D vwCl (wr ++ wc) H) : va_P D vwCl wr H := fun k q hk => h k q (by rw [List.getElem?_append_left (List.getElem?_eq_some_iff.mp hk).1]; exact hk)
theorem P_right {wr wc : va_W} {H : Heap} (h : va_P D vwCl (wr ++ wc) H) : va_P D vwCl wc H := fun k q hk => h (wr.length + k) q (by rw [List.getElem?_append_right (by omega), show wr.length + k - wr.length = k by omega]; exact hk)
theorem D_left {wr wc : va_W} {A0 : Nat → Prop} (h : va_D A0 (wr ++ wc)) : va_D A0 wr := ⟨fun i j p q hi hj e => h.1 i j p q (by rw [List.getElem?_append_left (List.getElem?_eq_some_iff.mp hi).1]; exact hi) (by rw [List.getElem?_append_left (List.getElem?_eq_some_iff.mp hj).1]; exact hj) e, fun k q hk => h.2 k q (by rw [List.getElem?_append_left (List.getElem?_eq_some_iff.mp hk).1]; exact hk)⟩
theorem D_right {wr wc : va_W} {A0 : Nat → Prop} (h : va_D A0 (wr ++ wc)) : va_D A0 wc := by
  have g : ∀ (k : Nat) (q : Nat × va_E), wc[k]? = some q → (wr ++ wc)[wr.length + k]? = some q := fun k q hk => by rw [List.getElem?_append_right (by omega), show wr.length + k - wr.length = k by omega]; exact hk
  exact ⟨fun i j p q hi hj e => by have := h.1 _ _ p q (g i p hi) (g j q hj) e; omega, fun k q hk => h.2 _ q (g k q hk)⟩
/-- a constructor's call: the new object is the last cell -/
theorem i_init {c2 : ByteArray} {n2 d2 k2 s2 np index : Nat} {y : MethodName} {As st0 : List Value} {x : Nat} (wr wc : va_W) {W2 : (Nat → Nat) → va_W} (hK2 : Ki l D cI cS y c2 n2 d2 k2 s2 (.ref x :: As) wc W2) (hww : ws = wr ++ wc) (hW2 : Wk y c2 n2 none np) (hins : Cond.instanceMethod y ∈ wsL_law) (hlink : Cond.methodLink own index y ∈ wsL_law) (hnm2 : y.name = "<init>") (hd2 : d2 + 1 ≤ d) (hlo : 8 + (n2 + 11) + 30 * d2 ≤ 30 * d) (hk : k + k2 ≤ MC) (hs : n + s2 ≤ MS) (hn : As.length = np) (hst : st0 = As.reverse ++ .ref x :: st) (hcat : (st.map fun v => v.category).sum ≤ 8) (hd : decode cc pc = .ok (.invokespecial index, 3)) (kk : ∀ q : Nat → Nat, GI l D cI cS Γ cc nL own d MC MS A W1 (wr ++ W2 q) (k + k2) (n + s2) lv (pc + 3) st) : GI l D cI cS Γ cc nL own d MC MS A W1 ws k n lv pc st0 := fun hC H locs hP hD hS ls hl => by
  obtain ⟨hx, hbb, hml, hret, hlk, hts, hown, hK, hN2, hA, hnm⟩ := id hC
  subst hww
  refine va_callv (a := (Value.ref x :: As).toArray) (A1 := va_A wc H.size) (free := va_A wc H.size) (va_runI (Ts := wsL_law) (own := own) (As := As) (rest := st) (rm := rmI d2 k2 s2) (mc := k2) (ms := s2) ⟨hx, hbb, hml, hown, hts⟩ (hK2 H.size) (cwI np hts (good_sub hW2.1) rfl rfl rfl (hts _ hW2.2.1) (hts _ hlink) (hts _ hins) hnm2 hW2.2.2 ⟨hd2, hlo⟩) ⟨pi_blind, fun U hU hW => ⟨rfl, by rw [hU], by rw [hU]; exact P_right hP, va_K.moved hW.alike hK, NW2.warm hW hN2, (D_right hD).weaken (fun _ _ _ _ => trivial)⟩⟩ rfl hn hl.1 hst (lv_room hcat) hd ⟨hk, hs⟩) hS (fun q _ hq => ?_) (fun q hq => ?_) (fun u t H1 locs1 ht hvm _ hB hz1 hk1 hS1 => ?_)
  · rcases hq with ⟨j, e, hj⟩ | hj
    · exact (D_right hD).2 j (q, e) hj
    · exact hA q (Nat.le_trans hS.1 hj)
  · rcases hq with ⟨j, e, hj⟩ | hj
    · exact (D_right hD).2 j (q, e) hj
    · exact hA q (Nat.le_trans hS.1 hj)
  · obtain ⟨hP1, hD1⟩ := hB
    rw [ht] at hP1
    have hap := D_apart hD (P_left hP)
    have hPr : va_P D vwCl wr H1 := P_apart (X := []) (P_left hP) hk1 hap
    refine kk u hC H1 locs1 (va_P.app hPr hP1) (va_D.app (D_left hD) (hD1.weaken (fun j q _ h => ?_)) (fun i j p q hi hj e => hap i p hi (by rw [e]; exact hD1.2 j q hj))) hS1 ls hl
    rcases h with ⟨j2, e, hj⟩ | hj
    · exact (D_right hD).2 j2 (q.1, e) hj
    · exact hA _ (Nat.le_trans hS.1 hj)
/-- a constructor's call by a nest mate -/
theorem i_initN {c2 : ByteArray} {n2 d2 k2 s2 np index : Nat} {host : String} {y : MethodName} {As st0 : List Value} {x : Nat} (wr wc : va_W) {W2 : (Nat → Nat) → va_W} (hK2 : Ki l D cI cS y c2 n2 d2 k2 s2 (.ref x :: As) wc W2) (hww : ws = wr ++ wc) (hW2 : Wk y c2 n2 none np) (hins : Cond.instanceMethod y ∈ wsL_law) (hlink : (own, index, y, host) ∈ nestL) (hnm2 : y.name = "<init>") (hd2 : d2 + 1 ≤ d) (hlo : 8 + (n2 + 11) + 30 * d2 ≤ 30 * d) (hk : k + k2 ≤ MC) (hs : n + s2 ≤ MS) (hn : As.length = np) (hst : st0 = As.reverse ++ .ref x :: st) (hcat : (st.map fun v => v.category).sum ≤ 8) (hd : decode cc pc = .ok (.invokespecial index, 3)) (kk : ∀ q : Nat → Nat, GI l D cI cS Γ cc nL own d MC MS A W1 (wr ++ W2 q) (k + k2) (n + s2) lv (pc + 3) st) : GI l D cI cS Γ cc nL own d MC MS A W1 ws k n lv pc st0 := fun hC H locs hP hD hS ls hl => by
  obtain ⟨hx, hbb, hml, hret, hlk, hts, hown, hK, hN2, hA, hnm⟩ := id hC
  subst hww
  refine va_callv (a := (Value.ref x :: As).toArray) (A1 := va_A wc H.size) (free := va_A wc H.size) (va_runIN (Ts := wsL_law) (own := own) (As := As) (rest := st) (rm := rmI d2 k2 s2) (mc := k2) (ms := s2) ⟨hx, hbb, hml, hown, hts⟩ (hK2 H.size) ⟨va_cnB np hts (good_sub hW2.1) rfl rfl rfl (hN2.1 _ hlink) (hts _ hW2.2.1) hW2.2.2 ⟨hd2, hlo⟩, hnm2, hts _ hins⟩ ⟨pi_blind, fun U hU hW => ⟨rfl, by rw [hU], by rw [hU]; exact P_right hP, va_K.moved hW.alike hK, NW2.warm hW hN2, (D_right hD).weaken (fun _ _ _ _ => trivial)⟩⟩ rfl hn hl.1 hst (lv_room hcat) hd ⟨hk, hs⟩) hS (fun q _ hq => ?_) (fun q hq => ?_) (fun u t H1 locs1 ht hvm _ hB hz1 hk1 hS1 => ?_)
  · rcases hq with ⟨j, e, hj⟩ | hj
    · exact (D_right hD).2 j (q, e) hj
    · exact hA q (Nat.le_trans hS.1 hj)
  · rcases hq with ⟨j, e, hj⟩ | hj
    · exact (D_right hD).2 j (q, e) hj
    · exact hA q (Nat.le_trans hS.1 hj)
  · obtain ⟨hP1, hD1⟩ := hB
    rw [ht] at hP1
    have hap := D_apart hD (P_left hP)
    have hPr : va_P D vwCl wr H1 := P_apart (X := []) (P_left hP) hk1 hap
    refine kk u hC H1 locs1 (va_P.app hPr hP1) (va_D.app (D_left hD) (hD1.weaken (fun j q _ h => ?_)) (fun i j p q hi hj e => hap i p hi (by rw [e]; exact hD1.2 j q hj))) hS1 ls hl
    rcases h with ⟨j2, e, hj⟩ | hj
    · exact (D_right hD).2 j2 (q.1, e) hj
    · exact hA _ (Nat.le_trans hS.1 hj)
/-- on with the pure value, in a constructor's tail -/
def RI (S : Gs) (Γ : Gm) (MC MS : Nat) (W1 : (Nat → Nat) → va_W) (r0 : Int32 × St) : Prop := mk Γ ≤ MC ∧ ms Γ ≤ MS ∧ (∃ q : Nat → Nat, W1 q = sW S r0.2) ∧ mZ Γ = fun r t => r = r0 → MQ (mb Γ) (QI (sD S) (mA Γ) W1) (ma Γ) (mz Γ) MC MS (mA Γ) t
theorem g_vretI {S : Gs} {σ : St} {r0 : Int32 × St} {v : Int32} (hRI : RI S Γ MC MS W1 r0) (hd : decode cc pc = .ok (.return_, 1)) : G S Γ cc nL own none d (some (v, σ)) σ lv pc [] := fun hC r ho H locs hP hS ls hl => by
  obtain ⟨hx, hbb, hml, hret, hlk, hts, hown, hKK, hN, hDD, hsub, hfr, hlc, hce, hsl⟩ := id hC
  obtain ⟨h1, h2, ⟨q, hq⟩, h4⟩ := hRI
  cases ho
  rw [h4]
  by_cases e : (v, σ) = r0
  · subst e
    have hw : W (mp Γ) (sL S) (me Γ) (mRo Γ) (mz Γ) (mm Γ) (ma Γ) (mb Γ) (mh Γ) (mc Γ) H locs (mk Γ) (ms Γ) (MQ (mb Γ) (QI (sD S) (mA Γ) W1) (ma Γ) (mz Γ) MC MS (mA Γ)) (F0 (mm Γ) pc ls []) := by
      refine W.widen (k := MC) (n := MS) h1 h2 ?_
      exact W.vret hx hbb hret (fun t ht hW => ⟨⟨q, rfl, trivial, (show va_P (sD S) vwCl (W1 q) t.heap by rw [ht, hq]; exact hP), by rw [hq]; exact hDD σ⟩, hS.F ht⟩) hS.2.2 hd hlk
    intro T hT X
    obtain ⟨t, a1, b1⟩ := hw T hT X
    exact ⟨t, a1, fun _ => b1⟩
  · intro T hT X
    exact ⟨_, Steps.refl _, fun q => absurd q e⟩
theorem D_same {wa wb : va_W} {A0 : Nat → Prop} (h : wa.map (fun q => q.1) = wb.map (fun q => q.1)) (hD : va_D A0 wa) : va_D A0 wb := by
  have g : ∀ (k : Nat) (q : Nat × va_E), wb[k]? = some q → ∃ x : Nat × va_E, wa[k]? = some x ∧ x.1 = q.1 := by
    intro k q hk
    have h1 : (wa.map (fun q => q.1))[k]? = some q.1 := by rw [h, List.getElem?_map, hk]; rfl
    rw [List.getElem?_map] at h1
    cases hx : wa[k]? with
    | none => rw [hx] at h1; cases h1
    | some x => rw [hx] at h1; exact ⟨x, rfl, Option.some.inj h1⟩
  refine ⟨fun i j p q hi hj e => ?_, fun k q hk => ?_⟩
  · obtain ⟨x, h1, h2⟩ := g i p hi
    obtain ⟨y, h3, h4⟩ := g j q hj
    exact hD.1 i j x y h1 h3 (by rw [h2, h4, e])
  · obtain ⟨x, h1, h2⟩ := g k q hk
    rw [← h2]; exact hD.2 k x h1
theorem i_toG {w : St → va_W} {AA : Nat → Prop} {a : Nat → Nat} {tys2 : List (ClassId × FieldType)} {σ : St} {o : Ot} {r : Int32 × St} (ho : o = some r) (hw : ws = w σ) (hty : ∀ U : State, va_K D vwCl (tysN cI cS) U → va_K D vwCl tys2 U) (hadr : ∀ σ1 : St, (w σ).map (fun q => q.1) = (w σ1).map (fun q => q.1)) (hAA : va_D A (w σ) → ∀ q : Nat, AA q → A q) (hMC : k ≤ MC) (hMS : n ≤ MS) (hW1 : ∃ q : Nat → Nat, W1 q = w r.2)
    (kk : va_D A (w σ) → ∀ Γ1 : Gm, RI (l, D, tys2, AA, w, a) Γ1 MC MS W1 r → mz Γ1 = mz Γ → mA Γ1 = A → G (l, D, tys2, AA, w, a) Γ1 cc nL own none d o σ lv pc st) : GI l D cI cS Γ cc nL own d MC MS A W1 ws k n lv pc st := fun hC H locs hP hD hS ls hl => by
  obtain ⟨hx, hbb, hml, hret, hlk, hts, hown, hK, hN2, hA, hnm⟩ := id hC
  subst hw
  have h := kk hD (mp Γ, me Γ, mz Γ, mm Γ, ma Γ, mb Γ, mh Γ, mc Γ, rmI d MC MS, k, n, (fun r1 t => r1 = r → MQ (mb Γ) (QI D A W1) (ma Γ) (mz Γ) MC MS A t), A) ⟨hMC, hMS, hW1, rfl⟩ rfl rfl ⟨hx, hbb, hml, hret, hlk, hts, hown, hty _ hK, hN2.1, fun σ1 => D_same (hadr σ1) hD, hAA hD, Nat.le_refl d, Nat.le_refl (30 * d), hMC, hMS⟩ r ho H locs hP hS ls hl
  intro T hT X
  obtain ⟨t, a1, b1⟩ := h T hT X
  exact ⟨t, a1, b1 rfl⟩
end CTOR
