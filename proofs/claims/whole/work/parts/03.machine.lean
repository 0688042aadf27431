/-! THE MACHINE, A PURE VALUE CARRIED ALONG: G says: if the pure value o is some answer and state, the machine, from here, comes to the method's end with them -/
abbrev St : Type := Nat → Nat → Int32
abbrev Ot : Type := Option (Int32 × St)
def nm {α β : Type} (x : α) (f : α → β) : β := f x
def up (σ : St) (p : Nat) (f : Nat → Int32) : St := fun j => cond (Nat.beq j p) f (σ j)
def uf (f : Nat → Int32) (k : Nat) (v : Int32) : Nat → Int32 := fun j => cond (Nat.beq j k) v (f j)
def pf (σ : St) (p k : Nat) (v : Int32) : St := up σ p (uf (σ p) k v)
def ps (σ : St) (p : Nat) (i v : Int32) : St := up σ p (upd (σ p) i.toNatClampNeg v)
def inb (i : Int32) (n : Nat) : Bool := !(decide (i < 0) || decide (n ≤ i.toNatClampNeg))
def gd (i : Int32) (n : Nat) (k : Ot) : Ot := cond (inb i n) k none
def nz (y : Int32) (k : Ot) : Ot := if y = 0 then none else k
def nzl (y : Int64) (k : Ot) : Ot := if y = 0 then none else k
def zg (v : Int32) (k : Ot) : Ot := if v = 0 then k else if v = 1 then k else none
def bnd (o : Ot) (f : Int32 → St → Ot) : Ot := o.bind fun x => f x.1 x.2
theorem gd_some {i : Int32} {n : Nat} {k : Ot} {r : Int32 × St} (h : gd i n k = some r) : vp_in i n ∧ k = some r := by
  unfold gd at h
  cases hb : inb i n with
  | false => rw [hb] at h; cases h
  | true =>
    rw [hb] at h
    refine ⟨?_, h⟩
    unfold inb at hb
    intro hc
    rcases hc with hc | hc <;> simp [hc] at hb
theorem nz_some {y : Int32} {k : Ot} {r : Int32 × St} (h : nz y k = some r) : ¬ y = 0 ∧ k = some r := by
  unfold nz at h
  split at h
  · cases h
  · exact ⟨by assumption, h⟩
theorem nzl_some {y : Int64} {k : Ot} {r : Int32 × St} (h : nzl y k = some r) : ¬ y = 0 ∧ k = some r := by
  unfold nzl at h
  split at h
  · cases h
  · exact ⟨by assumption, h⟩
theorem zg_some {v : Int32} {k : Ot} {r : Int32 × St} (h : zg v k = some r) : (v = 0 ∨ v = 1) ∧ k = some r := by
  unfold zg at h
  split at h
  · exact ⟨Or.inl (by assumption), h⟩
  · split at h
    · exact ⟨Or.inr (by assumption), h⟩
    · cases h
theorem bnd_some {o : Ot} {f : Int32 → St → Ot} {r : Int32 × St} (h : bnd o f = some r) : ∃ x : Int32 × St, o = some x ∧ f x.1 x.2 = some r := by
  unfold bnd at h
  exact Option.bind_eq_some_iff.mp h
def rmD (d : Nat) : Room := { frames := d, cells := 0, slots := 0, locals := 30 * d }
abbrev Gs : Type := Launch × va_G × List (ClassId × FieldType) × (Nat → Prop) × (St → va_W) × (Nat → Nat)
abbrev sL (S : Gs) : Launch := S.1
abbrev sD (S : Gs) : va_G := S.2.1
abbrev sT (S : Gs) : List (ClassId × FieldType) := S.2.2.1
abbrev sA (S : Gs) : Nat → Prop := S.2.2.2.1
abbrev sW (S : Gs) : St → va_W := S.2.2.2.2.1
abbrev sP (S : Gs) : Nat → Nat := S.2.2.2.2.2
/-- a place, or none (-1) -/
def pq (a : Nat → Nat) (r : Int32) : Option Nat := if r = -1 then none else some (a r.toNatClampNeg)
abbrev Gm : Type := Program × Env × State × MethodId × Array Value × List Frame × Method × Code × Room × Nat × Nat × (Int32 × St → State → Prop) × (Nat → Prop)
abbrev mp (Γ : Gm) : Program := Γ.1
abbrev me (Γ : Gm) : Env := Γ.2.1
abbrev mz (Γ : Gm) : State := Γ.2.2.1
abbrev mm (Γ : Gm) : MethodId := Γ.2.2.2.1
abbrev ma (Γ : Gm) : Array Value := Γ.2.2.2.2.1
abbrev mb (Γ : Gm) : List Frame := Γ.2.2.2.2.2.1
abbrev mh (Γ : Gm) : Method := Γ.2.2.2.2.2.2.1
abbrev mc (Γ : Gm) : Code := Γ.2.2.2.2.2.2.2.1
abbrev mRo (Γ : Gm) : Room := Γ.2.2.2.2.2.2.2.2.1
abbrev mk (Γ : Gm) : Nat := Γ.2.2.2.2.2.2.2.2.2.1
abbrev ms (Γ : Gm) : Nat := Γ.2.2.2.2.2.2.2.2.2.2.1
abbrev mZ (Γ : Gm) : Int32 × St → State → Prop := Γ.2.2.2.2.2.2.2.2.2.2.2.1
abbrev mA (Γ : Gm) : Nat → Prop := Γ.2.2.2.2.2.2.2.2.2.2.2.2

def nestL : List (String × Nat × MethodName × String) := [(RX10, 9, yX7_init, RX10), (RX10, 27, yX4_init, RX10), (RX10, 37, yX9_init, RX10), (RX5, 22, yX9_init, RX10), (RX7, 19, yX10_put, RX10), (RX4, 53, yX10_fill, RX10), (RX4, 76, yX10_within, RX10), (RX4, 79, yX10_bit, RX10), (RX7, 23, yX10_at, RX10), (RX6, 56, yX10_within, RX10), (RX6, 48, yX10_put, RX10), (RX4, 61, yX10_at, RX10), (RX4, 86, yX10_isWidth, RX10), (RX4, 89, yX10_put, RX10), (RX9, 28, yX10_put, RX10), (RX9, 39, yX10_bit, RX10), (RX9, 46, yX10_at, RX10), (RX9, 52, yX10_holds, RX10), (RX9, 42, yX10_copy, RX10), (RX1, 74, yX10_bit, RX10), (RX1, 80, yX10_put, RX10), (RX1, 98, yX10_at, RX10), (RX1, 102, yX10_holds, RX10), (RX3, 39, yX10_bit, RX10), (RX3, 46, yX10_holds, RX10), (RX8, 36, yX10_put, RX10), (RX8, 59, yX10_at, RX10), (RX8, 49, yX10_bit, RX10), (RX8, 81, yX10_holds, RX10), (RX0, 44, yX10_holds, RX10)]
def NW (U : State) : Prop := ∀ q ∈ nestL, va_Nw (.methodLinkNest q.1 q.2.1 q.2.2.1 q.2.2.2) U
theorem NW.warm {s U : State} (hW : s.WarmedH U.vm) (h : NW s) : NW U := fun q hq => va_Nw.warmM hW (h q hq)
theorem NW.same {u U : State} (e : u.vm = U.vm) (h : NW u) : NW U := fun q hq => va_Nw.same rfl e (h q hq)
def CX (S : Gs) (Γ : Gm) (cc : ByteArray) (nL : Nat) (own : String) (rk : Option FieldType) (d : Nat) : Prop :=
  (mp Γ).tables.exec = Jvm.exec ∧ (mc Γ).code = cc ∧ (mc Γ).maxLocals = nL ∧ (mh Γ).sig.returnType = rk ∧ (mh Γ).locks = false ∧ (∀ w ∈ wsL_law, w.before (ma Γ) (mz Γ) = true) ∧ (mz Γ).vm.findClass own = some (mm Γ).cls ∧ va_K (sD S) vwCl (sT S) (mz Γ) ∧ NW (mz Γ) ∧ (∀ σ : St, va_D (mA Γ) (sW S σ)) ∧ (∀ q : Nat, sA S q → mA Γ q) ∧ d ≤ (mRo Γ).frames ∧ 30 * d ≤ (mRo Γ).locals ∧ mk Γ ≤ (mRo Γ).cells ∧ ms Γ ≤ (mRo Γ).slots
def Qk (S : Gs) (rk : Option FieldType) (r : Int32 × St) : Array Value → State → Outcome → State → Prop := match rk with
  | none => va_Qv (fun u : St => u = r.2) (fun u t => va_P (sD S) vwCl (sW S u) t.heap) (sA S)
  | some (.object _) => va_Qq (fun (x : Option Nat) (u : St) => x = pq (sP S) r.1 ∧ u = r.2) (fun u t => va_P (sD S) vwCl (sW S u) t.heap) (sA S)
  | some _ => va_Qi (fun (x : Int32) (u : St) => x = r.1 ∧ u = r.2) (fun u t => va_P (sD S) vwCl (sW S u) t.heap) (sA S)
def G (S : Gs) (Γ : Gm) (cc : ByteArray) (nL : Nat) (own : String) (rk : Option FieldType) (d : Nat) (o : Ot) (σ : St) (lv : List (Nat × Value)) (pc : Nat) (st : List Value) : Prop :=
  CX S Γ cc nL own rk d → ∀ r : Int32 × St, o = some r → ∀ (H : Heap) (locs : List Loc), va_P (sD S) vwCl (sW S σ) H → va_S (mA Γ) (mz Γ).heap H locs → ∀ ls : Array Slot, lv_has ls nL lv →
    W (mp Γ) (sL S) (me Γ) (mRo Γ) (mz Γ) (mm Γ) (ma Γ) (mb Γ) (mh Γ) (mc Γ) H locs (mk Γ) (ms Γ) (mZ Γ r) (F0 (mm Γ) pc ls st)
/-- the end of a method that makes nothing -/
def RT (S : Gs) (Γ : Gm) (rk : Option FieldType) : Prop := mk Γ = 0 ∧ ms Γ = 0 ∧ mA Γ = sA S ∧ ∀ r : Int32 × St, mZ Γ r = MQ (mb Γ) (Qk S rk r) (ma Γ) (mz Γ) 0 0 (sA S)
def Kc (S : Gs) (y : MethodName) (cc : ByteArray) (nL : Nat) (rk : Option FieldType) (d : Nat) (av : List Value) (σ : St) (r : Int32 × St) : Prop :=
  Met (sL S) y (.code y cc nL rk :: wsL_law) (rmD d) (va_Pc av (fun U => va_P (sD S) vwCl (sW S σ) U.heap ∧ va_K (sD S) vwCl (sT S) U ∧ NW U)) (Qk S rk r) 0 0 (sA S)
set_option maxRecDepth 100000 in
theorem big_good : wsL_law.all goodWord = true := by decide +kernel
theorem big_in {w : Cond} (h : w ∈ wsL_law) : (w.onTables && w.keeps) = true ∨ ∃ ty, w = .arrayClass ty := good_of_word (List.all_eq_true.mp big_good w h)
/-- Met.ofW, for a method of a class of which natives are told, but not of it -/
theorem met_ofWF {l : Launch} {y : MethodName} {ws ws' : List Cond} {rm : Room} {Pc : Array Value → State → Prop} {Qc : Array Value → State → Outcome → State → Prop} {mc ms : Nat} {free : Addr → Prop} {cc : ByteArray} {maxL : Nat} {ret : Option FieldType}
    (hy : plainFor y = true) (hw : ws = Cond.code y cc maxL ret :: ws')
    (body : ∀ p e s m args below meth c s₁, BodyLoose p l y (headSpec ws rm) cc maxL ret e s m args below meth c s₁ → c.maxLocals = maxL → Pc args s →
      W p l e (headSpec ws rm).room s m args below meth c s.heap [] 0 0 (MQ below Qc args s mc ms free) (entryFrame m args maxL)) : Met l y ws rm Pc Qc mc ms free := by
  refine MetFree.of_bodySF (code := cc) (maxLocals := maxL) (ret := ret) hy ?_ ?_
  · intro args s m h hn
    obtain ⟨meth, c, h1, h2, h3, h4, h5, h6, -, -⟩ := Cond.code_spec hn (atoms_spec (ws := ws) h _ (by rw [hw]; exact List.mem_cons_self))
    exact ⟨meth, c, h1, h2, h3, h4, h5, h6⟩
  · intro p e s m args below meth c s₁ B hml hP _
    have hh0 : s₁.heap = s.heap := by rw [B.state]; rfl
    obtain ⟨t, a1, o, b1, b2, b3⟩ := body p e s m args below meth c s₁ B hml hP s₁ hh0 (Stand.of_body B)
    exact ⟨t, o, a1, b1, b2, ⟨b3.1, b3.2⟩⟩
/-- a method's start -/
theorem enter {S : Gs} {y : MethodName} {cc : ByteArray} {nL : Nat} {own : String} {rk : Option FieldType} {d : Nat} {av : List Value} {σ : St} {o : Ot} {r : Int32 × St} (hy : plainFor y = true) (hown : y.cls = own) (hlen : (lg_sl av).length ≤ nL) (hA : ∀ σ : St, va_D (sA S) (sW S σ)) (hc : (Cond.code y cc nL rk) ∈ wsL_law) (ho : o = some r)
    (h : ∀ Γ : Gm, RT S Γ rk → G S Γ cc nL own rk d o σ (lv_args 0 av) 0 []) : Kc S y cc nL rk d av σ r := by
  refine met_ofWF (cc := cc) (maxL := nL) (ret := rk) hy rfl ?_
  intro p e s m args below meth c s₁ B hml hv
  obtain ⟨rfl, hP, hK, hN⟩ := hv
  have hts := atoms_spec (ws := .code y cc nL rk :: wsL_law) B.pre
  have hl := lv_entry av (n := nL) hlen
  rw [lg_entry_eq]
  exact h (p, e, s, m, av.toArray, below, meth, c, rmD d, 0, 0, fun r => MQ below (Qk S rk r) av.toArray s 0 0 (sA S), sA S) ⟨rfl, rfl, rfl, fun _ => rfl⟩ ⟨B.exec, B.bytes, hml, B.returns, B.notSynchronized, fun w hw => hts w (List.mem_cons_of_mem _ hw), by rw [← hown]; exact findClass_of_methodNamed B.named, hK, hN, hA, fun _ h => h, Nat.le_refl d, Nat.le_refl (30 * d), Nat.zero_le _, Nat.zero_le _⟩ r ho s.heap [] hP va_S.rf _ hl
section ROWS
variable {S : Gs} {Γ : Gm} {cc : ByteArray} {nL : Nat} {own : String} {rk : Option FieldType} {d : Nat} {o : Ot} {σ : St} {lv : List (Nat × Value)} {pc : Nat} {st : List Value}
theorem g_none : G S Γ cc nL own rk d none σ lv pc st := fun _ _ h => by cases h
/-- fewer locals, in any order -/
theorem g_lv (is : List Nat) {lv' : List (Nat × Value)} (h : lv_pick lv is = lv') (k : G S Γ cc nL own rk d o σ lv' pc st) : G S Γ cc nL own rk d o σ lv pc st := fun hC r ho H locs hP hS ls hl => k hC r ho H locs hP hS ls (lv_sub hl is h)
theorem g_nm {e : Int32} {f : Int32 → Ot} (k : ∀ y : Int32, G S Γ cc nL own rk d (f y) σ lv pc (.int y :: st)) : G S Γ cc nL own rk d (nm e f) σ lv pc (.int e :: st) := k e
theorem g_nml {e : Int64} {f : Int64 → Ot} (k : ∀ y : Int64, G S Γ cc nL own rk d (f y) σ lv pc (.long y :: st)) : G S Γ cc nL own rk d (nm e f) σ lv pc (.long e :: st) := k e
theorem g_ite {c : Prop} {i : Decidable c} {o1 o2 : Ot} (k1 : c → G S Γ cc nL own rk d o1 σ lv pc st) (k2 : ¬ c → G S Γ cc nL own rk d o2 σ lv pc st) : G S Γ cc nL own rk d (@ite _ c i o1 o2) σ lv pc st := by
  by_cases h : c
  · rw [if_pos h]; exact k1 h
  · rw [if_neg h]; exact k2 h

theorem g_iconst {n : Int} {v : Int32} (hd : decode cc pc = .ok (.iconst n, 1)) (hv : Int32.ofInt n = v) (k : G S Γ cc nL own rk d o σ lv (pc + 1) (.int v :: st)) : G S Γ cc nL own rk d o σ lv pc (st) := fun hC r ho H locs hP hS ls hl => lv_iconst hC.1 hC.2.1 hd hv (k hC r ho H locs hP hS ls hl)
theorem g_bipush {n : Int} {v : Int32} (hd : decode cc pc = .ok (.bipush n, 2)) (hv : (Int8.ofInt n).toInt32 = v) (k : G S Γ cc nL own rk d o σ lv (pc + 2) (.int v :: st)) : G S Γ cc nL own rk d o σ lv pc (st) := fun hC r ho H locs hP hS ls hl => lv_bipush hC.1 hC.2.1 hd hv (k hC r ho H locs hP hS ls hl)
theorem g_sipush {n : Int} {v : Int32} (hd : decode cc pc = .ok (.sipush n, 3)) (hv : (Int16.ofInt n).toInt32 = v) (k : G S Γ cc nL own rk d o σ lv (pc + 3) (.int v :: st)) : G S Γ cc nL own rk d o σ lv pc (st) := fun hC r ho H locs hP hS ls hl => lv_sipush hC.1 hC.2.1 hd hv (k hC r ho H locs hP hS ls hl)
theorem g_lconst {n : Fin 2} {v : Int64} (hd : decode cc pc = .ok (.lconst n, 1)) (hv : Int64.ofNat (n : Nat) = v) (k : G S Γ cc nL own rk d o σ lv (pc + 1) (.long v :: st)) : G S Γ cc nL own rk d o σ lv pc (st) := fun hC r ho H locs hP hS ls hl => lv_lconst hC.1 hC.2.1 hd hv (k hC r ho H locs hP hS ls hl)
theorem g_null (hd : decode cc pc = .ok (.aconst_null, 1)) (k : G S Γ cc nL own rk d o σ lv (pc + 1) (.null :: st)) : G S Γ cc nL own rk d o σ lv pc (st) := fun hC r ho H locs hP hS ls hl => lv_null hC.1 hC.2.1 hd (k hC r ho H locs hP hS ls hl)
theorem g_ldcw {index : Nat} {v : Int32} (hw : Cond.constant own index v ∈ wsL_law) (hd : decode cc pc = .ok (.ldc_w index, 3)) (k : G S Γ cc nL own rk d o σ lv (pc + 3) (.int v :: st)) : G S Γ cc nL own rk d o σ lv pc st := fun hC r ho H locs hP hS ls hl => lv_ldcw hC.1 hC.2.1 hC.2.2.2.2.2.2.1 (hC.2.2.2.2.2.1 _ hw) hd (k hC r ho H locs hP hS ls hl)
theorem g_ldc {index : Nat} {v : Int32} (hw : Cond.constant own index v ∈ wsL_law) (hd : decode cc pc = .ok (.ldc index, 2)) (k : G S Γ cc nL own rk d o σ lv (pc + 2) (.int v :: st)) : G S Γ cc nL own rk d o σ lv pc st := fun hC r ho H locs hP hS ls hl => lv_ldc hC.1 hC.2.1 hC.2.2.2.2.2.2.1 (hC.2.2.2.2.2.1 _ hw) hd (k hC r ho H locs hP hS ls hl)
theorem g_ldc2 {index : Nat} {v : Int64} (hw : Cond.constantLong own index v ∈ wsL_law) (hd : decode cc pc = .ok (.ldc2_w index, 3)) (k : G S Γ cc nL own rk d o σ lv (pc + 3) (.long v :: st)) : G S Γ cc nL own rk d o σ lv pc st := fun hC r ho H locs hP hS ls hl => lv_ldc2 hC.1 hC.2.1 hC.2.2.2.2.2.2.1 (hC.2.2.2.2.2.1 _ hw) hd (k hC r ho H locs hP hS ls hl)
theorem g_iload_n {kf : Fin 4} (j : Nat) {i : Nat} {x : Int32} (hd : decode cc pc = .ok (.iload_n kf, 1)) (hi : (kf : Nat) = i) (hj : lv[j]? = some (i, .int x)) (k : G S Γ cc nL own rk d o σ lv (pc + 1) (.int x :: st)) : G S Γ cc nL own rk d o σ lv pc st := fun hC r ho H locs hP hS ls hl => lv_iload_n hC.1 hC.2.1 hd hi (lv_at hl j hj) (k hC r ho H locs hP hS ls hl)
theorem g_iload (j : Nat) {i : Nat} {x : Int32} (hd : decode cc pc = .ok (.iload i, 2)) (hj : lv[j]? = some (i, .int x)) (k : G S Γ cc nL own rk d o σ lv (pc + 2) (.int x :: st)) : G S Γ cc nL own rk d o σ lv pc st := fun hC r ho H locs hP hS ls hl => lv_iload hC.1 hC.2.1 hd (lv_at hl j hj) (k hC r ho H locs hP hS ls hl)
theorem g_lload_n {kf : Fin 4} (j : Nat) {i : Nat} {x : Int64} (hd : decode cc pc = .ok (.lload_n kf, 1)) (hi : (kf : Nat) = i) (hj : lv[j]? = some (i, .long x)) (k : G S Γ cc nL own rk d o σ lv (pc + 1) (.long x :: st)) : G S Γ cc nL own rk d o σ lv pc st := fun hC r ho H locs hP hS ls hl => lv_lload_n hC.1 hC.2.1 hd hi (lv_at hl j hj) (k hC r ho H locs hP hS ls hl)
theorem g_lload (j : Nat) {i : Nat} {x : Int64} (hd : decode cc pc = .ok (.lload i, 2)) (hj : lv[j]? = some (i, .long x)) (k : G S Γ cc nL own rk d o σ lv (pc + 2) (.long x :: st)) : G S Γ cc nL own rk d o σ lv pc st := fun hC r ho H locs hP hS ls hl => lv_lload hC.1 hC.2.1 hd (lv_at hl j hj) (k hC r ho H locs hP hS ls hl)
theorem g_aload_n {kf : Fin 4} (j : Nat) {i x : Nat} (hd : decode cc pc = .ok (.aload_n kf, 1)) (hi : (kf : Nat) = i) (hj : lv[j]? = some (i, .ref x)) (k : G S Γ cc nL own rk d o σ lv (pc + 1) (.ref x :: st)) : G S Γ cc nL own rk d o σ lv pc st := fun hC r ho H locs hP hS ls hl => lv_aload_n hC.1 hC.2.1 hd hi (lv_at hl j hj) (k hC r ho H locs hP hS ls hl)
theorem g_aload (j : Nat) {i x : Nat} (hd : decode cc pc = .ok (.aload i, 2)) (hj : lv[j]? = some (i, .ref x)) (k : G S Γ cc nL own rk d o σ lv (pc + 2) (.ref x :: st)) : G S Γ cc nL own rk d o σ lv pc st := fun hC r ho H locs hP hS ls hl => lv_aload hC.1 hC.2.1 hd (lv_at hl j hj) (k hC r ho H locs hP hS ls hl)
theorem g_istore_n {kf : Fin 4} (is : List Nat) {i : Nat} {x : Int32} {lv1 : List (Nat × Value)} (hd : decode cc pc = .ok (.istore_n kf, 1)) (hi : (kf : Nat) = i) (hn : i < nL) (hv : lv_pick ((i, Value.int x) :: lv.filter (fun q => !(q.1 == i) && !(q.1 + 1 == i && q.2.category == 2))) is = lv1) (k : G S Γ cc nL own rk d o σ lv1 (pc + 1) st) : G S Γ cc nL own rk d o σ lv pc (.int x :: st) := fun hC r ho H locs hP hS ls hl => lv_istore_n hC.1 hC.2.1 hd hi hl hn rfl (fun ls1 hl1 => k hC r ho H locs hP hS ls1 (lv_sub hl1 is hv))
theorem g_istore (is : List Nat) {i : Nat} {x : Int32} {lv1 : List (Nat × Value)} (hd : decode cc pc = .ok (.istore i, 2)) (hn : i < nL) (hv : lv_pick ((i, Value.int x) :: lv.filter (fun q => !(q.1 == i) && !(q.1 + 1 == i && q.2.category == 2))) is = lv1) (k : G S Γ cc nL own rk d o σ lv1 (pc + 2) st) : G S Γ cc nL own rk d o σ lv pc (.int x :: st) := fun hC r ho H locs hP hS ls hl => lv_istore hC.1 hC.2.1 hd hl hn rfl (fun ls1 hl1 => k hC r ho H locs hP hS ls1 (lv_sub hl1 is hv))
theorem g_lstore_n {kf : Fin 4} (is : List Nat) {i : Nat} {x : Int64} {lv1 : List (Nat × Value)} (hd : decode cc pc = .ok (.lstore_n kf, 1)) (hi : (kf : Nat) = i) (hn : i + 1 < nL) (hv : lv_pick ((i, Value.long x) :: lv.filter (fun q => !(q.1 == i) && (!(q.1 == i + 1) && !(q.1 + 1 == i && q.2.category == 2)))) is = lv1) (k : G S Γ cc nL own rk d o σ lv1 (pc + 1) st) : G S Γ cc nL own rk d o σ lv pc (.long x :: st) := fun hC r ho H locs hP hS ls hl => lv_lstore_n hC.1 hC.2.1 hd hi hl hn rfl (fun ls1 hl1 => k hC r ho H locs hP hS ls1 (lv_sub hl1 is hv))
theorem g_lstore (is : List Nat) {i : Nat} {x : Int64} {lv1 : List (Nat × Value)} (hd : decode cc pc = .ok (.lstore i, 2)) (hn : i + 1 < nL) (hv : lv_pick ((i, Value.long x) :: lv.filter (fun q => !(q.1 == i) && (!(q.1 == i + 1) && !(q.1 + 1 == i && q.2.category == 2)))) is = lv1) (k : G S Γ cc nL own rk d o σ lv1 (pc + 2) st) : G S Γ cc nL own rk d o σ lv pc (.long x :: st) := fun hC r ho H locs hP hS ls hl => lv_lstore hC.1 hC.2.1 hd hl hn rfl (fun ls1 hl1 => k hC r ho H locs hP hS ls1 (lv_sub hl1 is hv))
theorem g_astore_n {kf : Fin 4} (is : List Nat) {i : Nat} {x : Nat} {lv1 : List (Nat × Value)} (hd : decode cc pc = .ok (.astore_n kf, 1)) (hi : (kf : Nat) = i) (hn : i < nL) (hv : lv_pick ((i, Value.ref x) :: lv.filter (fun q => !(q.1 == i) && !(q.1 + 1 == i && q.2.category == 2))) is = lv1) (k : G S Γ cc nL own rk d o σ lv1 (pc + 1) st) : G S Γ cc nL own rk d o σ lv pc (.ref x :: st) := fun hC r ho H locs hP hS ls hl => lv_astore_n hC.1 hC.2.1 hd hi hl hn rfl (fun ls1 hl1 => k hC r ho H locs hP hS ls1 (lv_sub hl1 is hv))
theorem g_astore (is : List Nat) {i : Nat} {x : Nat} {lv1 : List (Nat × Value)} (hd : decode cc pc = .ok (.astore i, 2)) (hn : i < nL) (hv : lv_pick ((i, Value.ref x) :: lv.filter (fun q => !(q.1 == i) && !(q.1 + 1 == i && q.2.category == 2))) is = lv1) (k : G S Γ cc nL own rk d o σ lv1 (pc + 2) st) : G S Γ cc nL own rk d o σ lv pc (.ref x :: st) := fun hC r ho H locs hP hS ls hl => lv_astore hC.1 hC.2.1 hd hl hn rfl (fun ls1 hl1 => k hC r ho H locs hP hS ls1 (lv_sub hl1 is hv))
theorem g_iinc (is : List Nat) (j : Nat) {i : Nat} {n : Int} {x n1 : Int32} {f : Int32 → Ot} {lv1 : Int32 → List (Nat × Value)} (hd : decode cc pc = .ok (.iinc i n, 3)) (hj : lv[j]? = some (i, .int x)) (hn1 : Int32.ofInt n = n1) (hn : i < nL) (hv : ∀ v : Int32, lv_pick ((i, Value.int v) :: lv.filter (fun q => !(q.1 == i) && !(q.1 + 1 == i && q.2.category == 2))) is = lv1 v) (k : ∀ v : Int32, G S Γ cc nL own rk d (f v) σ (lv1 v) (pc + 3) st) : G S Γ cc nL own rk d (nm (x + n1) f) σ lv pc st := fun hC r ho H locs hP hS ls hl => lv_iinc (v := x + n1) hC.1 hC.2.1 hd hl hj (by rw [hn1]) hn rfl (fun ls1 hl1 => k (x + n1) hC r ho H locs hP hS ls1 (lv_sub hl1 is (hv (x + n1))))
theorem g_iadd {x y : Int32} (hd : decode cc pc = .ok (.iadd, 1)) (k : G S Γ cc nL own rk d o σ lv (pc + 1) (.int (x + y) :: st)) : G S Γ cc nL own rk d o σ lv pc (.int y :: .int x :: st) := fun hC r ho H locs hP hS ls hl => lv_iadd hC.1 hC.2.1 hd (k hC r ho H locs hP hS ls hl)
theorem g_isub {x y : Int32} (hd : decode cc pc = .ok (.isub, 1)) (k : G S Γ cc nL own rk d o σ lv (pc + 1) (.int (x - y) :: st)) : G S Γ cc nL own rk d o σ lv pc (.int y :: .int x :: st) := fun hC r ho H locs hP hS ls hl => lv_isub hC.1 hC.2.1 hd (k hC r ho H locs hP hS ls hl)
theorem g_imul {x y : Int32} (hd : decode cc pc = .ok (.imul, 1)) (k : G S Γ cc nL own rk d o σ lv (pc + 1) (.int (x * y) :: st)) : G S Γ cc nL own rk d o σ lv pc (.int y :: .int x :: st) := fun hC r ho H locs hP hS ls hl => lv_imul hC.1 hC.2.1 hd (k hC r ho H locs hP hS ls hl)
theorem g_iand {x y : Int32} (hd : decode cc pc = .ok (.iand, 1)) (k : G S Γ cc nL own rk d o σ lv (pc + 1) (.int (x &&& y) :: st)) : G S Γ cc nL own rk d o σ lv pc (.int y :: .int x :: st) := fun hC r ho H locs hP hS ls hl => lv_iand hC.1 hC.2.1 hd (k hC r ho H locs hP hS ls hl)
theorem g_ior {x y : Int32} (hd : decode cc pc = .ok (.ior, 1)) (k : G S Γ cc nL own rk d o σ lv (pc + 1) (.int (x ||| y) :: st)) : G S Γ cc nL own rk d o σ lv pc (.int y :: .int x :: st) := fun hC r ho H locs hP hS ls hl => lv_ior hC.1 hC.2.1 hd (k hC r ho H locs hP hS ls hl)
theorem g_ixor {x y : Int32} (hd : decode cc pc = .ok (.ixor, 1)) (k : G S Γ cc nL own rk d o σ lv (pc + 1) (.int (x ^^^ y) :: st)) : G S Γ cc nL own rk d o σ lv pc (.int y :: .int x :: st) := fun hC r ho H locs hP hS ls hl => lv_ixor hC.1 hC.2.1 hd (k hC r ho H locs hP hS ls hl)
theorem g_ishl {x y : Int32} (hd : decode cc pc = .ok (.ishl, 1)) (k : G S Γ cc nL own rk d o σ lv (pc + 1) (.int (x <<< (y &&& 31)) :: st)) : G S Γ cc nL own rk d o σ lv pc (.int y :: .int x :: st) := fun hC r ho H locs hP hS ls hl => lv_ishl hC.1 hC.2.1 hd (k hC r ho H locs hP hS ls hl)
theorem g_ishr {x y : Int32} (hd : decode cc pc = .ok (.ishr, 1)) (k : G S Γ cc nL own rk d o σ lv (pc + 1) (.int (x >>> (y &&& 31)) :: st)) : G S Γ cc nL own rk d o σ lv pc (.int y :: .int x :: st) := fun hC r ho H locs hP hS ls hl => lv_ishr hC.1 hC.2.1 hd (k hC r ho H locs hP hS ls hl)
theorem g_iushr {x y : Int32} (hd : decode cc pc = .ok (.iushr, 1)) (k : G S Γ cc nL own rk d o σ lv (pc + 1) (.int ((x.toUInt32 >>> (y.toUInt32 &&& Int32.toUInt32 31)).toInt32) :: st)) : G S Γ cc nL own rk d o σ lv pc (.int y :: .int x :: st) := fun hC r ho H locs hP hS ls hl => lv_iushr hC.1 hC.2.1 hd rfl (k hC r ho H locs hP hS ls hl)
theorem g_i2l {x : Int32} (hd : decode cc pc = .ok (.i2l, 1)) (k : G S Γ cc nL own rk d o σ lv (pc + 1) (.long x.toInt64 :: st)) : G S Γ cc nL own rk d o σ lv pc (.int x :: st) := fun hC r ho H locs hP hS ls hl => lv_i2l hC.1 hC.2.1 hd rfl (k hC r ho H locs hP hS ls hl)
theorem g_l2i {x : Int64} (hd : decode cc pc = .ok (.l2i, 1)) (k : G S Γ cc nL own rk d o σ lv (pc + 1) (.int x.toInt32 :: st)) : G S Γ cc nL own rk d o σ lv pc (.long x :: st) := fun hC r ho H locs hP hS ls hl => lv_l2i hC.1 hC.2.1 hd rfl (k hC r ho H locs hP hS ls hl)
theorem g_ladd {x y : Int64} (hd : decode cc pc = .ok (.ladd, 1)) (k : G S Γ cc nL own rk d o σ lv (pc + 1) (.long (x + y) :: st)) : G S Γ cc nL own rk d o σ lv pc (.long y :: .long x :: st) := fun hC r ho H locs hP hS ls hl => lv_ladd hC.1 hC.2.1 hd (k hC r ho H locs hP hS ls hl)
theorem g_lmul {x y : Int64} (hd : decode cc pc = .ok (.lmul, 1)) (k : G S Γ cc nL own rk d o σ lv (pc + 1) (.long (x * y) :: st)) : G S Γ cc nL own rk d o σ lv pc (.long y :: .long x :: st) := fun hC r ho H locs hP hS ls hl => lv_lmul hC.1 hC.2.1 hd (k hC r ho H locs hP hS ls hl)
theorem g_idiv {x y : Int32} (hd : decode cc pc = .ok (.idiv, 1)) (k : G S Γ cc nL own rk d o σ lv (pc + 1) (.int (x / y) :: st)) : G S Γ cc nL own rk d (nz y o) σ lv pc (.int y :: .int x :: st) := fun hC r ho H locs hP hS ls hl => lv_idiv hC.1 hC.2.1 hd (nz_some ho).1 (k hC r (nz_some ho).2 H locs hP hS ls hl)
theorem g_irem {x y : Int32} (hd : decode cc pc = .ok (.irem, 1)) (k : G S Γ cc nL own rk d o σ lv (pc + 1) (.int (x - x / y * y) :: st)) : G S Γ cc nL own rk d (nz y o) σ lv pc (.int y :: .int x :: st) := fun hC r ho H locs hP hS ls hl => lv_irem hC.1 hC.2.1 hd (nz_some ho).1 (k hC r (nz_some ho).2 H locs hP hS ls hl)
theorem g_ldiv {x y : Int64} (hd : decode cc pc = .ok (.ldiv, 1)) (k : G S Γ cc nL own rk d o σ lv (pc + 1) (.long (x / y) :: st)) : G S Γ cc nL own rk d (nzl y o) σ lv pc (.long y :: .long x :: st) := fun hC r ho H locs hP hS ls hl => lv_ldiv hC.1 hC.2.1 hd (nzl_some ho).1 (k hC r (nzl_some ho).2 H locs hP hS ls hl)
theorem g_lrem {x y : Int64} (hd : decode cc pc = .ok (.lrem, 1)) (k : G S Γ cc nL own rk d o σ lv (pc + 1) (.long (x - x / y * y) :: st)) : G S Γ cc nL own rk d (nzl y o) σ lv pc (.long y :: .long x :: st) := fun hC r ho H locs hP hS ls hl => lv_lrem hC.1 hC.2.1 hd (nzl_some ho).1 (k hC r (nzl_some ho).2 H locs hP hS ls hl)
theorem g_dup {v : Value} (hd : decode cc pc = .ok (.dup, 1)) (hv : v.category = 1) (k : G S Γ cc nL own rk d o σ lv (pc + 1) (v :: v :: st)) : G S Γ cc nL own rk d o σ lv pc (v :: st) := fun hC r ho H locs hP hS ls hl => lv_dup hC.1 hC.2.1 hd hv (k hC r ho H locs hP hS ls hl)
theorem g_pop {v : Value} (hd : decode cc pc = .ok (.pop, 1)) (hv : v.category = 1) (k : G S Γ cc nL own rk d o σ lv (pc + 1) (st)) : G S Γ cc nL own rk d o σ lv pc (v :: st) := fun hC r ho H locs hP hS ls hl => lv_pop hC.1 hC.2.1 hd hv (k hC r ho H locs hP hS ls hl)
theorem g_dup2 {v u : Value} (hd : decode cc pc = .ok (.dup2, 1)) (hv : v.category = 1) (hu : u.category = 1) (k : G S Γ cc nL own rk d o σ lv (pc + 1) (v :: u :: v :: u :: st)) : G S Γ cc nL own rk d o σ lv pc (v :: u :: st) := fun hC r ho H locs hP hS ls hl => lv_dup2_11 hC.1 hC.2.1 hd hv hu (k hC r ho H locs hP hS ls hl)
theorem g_icmp_eq {x y : Int32} {off : Int} {tgt : Nat} {i : Decidable (x = y)} {o1 o2 : Ot} (hd : decode cc pc = .ok (.if_icmp .eq off, 3)) (ht : (pc : Int) + off = (tgt : Int)) (kt : G S Γ cc nL own rk d o1 σ lv tgt st) (kf : G S Γ cc nL own rk d o2 σ lv (pc + 3) st) : G S Γ cc nL own rk d (@ite _ (x = y) i o1 o2) σ lv pc (.int y :: .int x :: st) := fun hC r ho H locs hP hS ls hl => lv_icmp_eq hC.1 hC.2.1 hd ht (fun q => kt hC r (by rw [if_pos q] at ho; exact ho) H locs hP hS ls hl) (fun q => kf hC r (by rw [if_neg q] at ho; exact ho) H locs hP hS ls hl)
theorem g_if_eq {x : Int32} {off : Int} {tgt : Nat} {i : Decidable (x = 0)} {o1 o2 : Ot} (hd : decode cc pc = .ok (.ifCond .eq off, 3)) (ht : (pc : Int) + off = (tgt : Int)) (kt : G S Γ cc nL own rk d o1 σ lv tgt st) (kf : G S Γ cc nL own rk d o2 σ lv (pc + 3) st) : G S Γ cc nL own rk d (@ite _ (x = 0) i o1 o2) σ lv pc (.int x :: st) := fun hC r ho H locs hP hS ls hl => lv_if_eq hC.1 hC.2.1 hd ht (fun q => kt hC r (by rw [if_pos q] at ho; exact ho) H locs hP hS ls hl) (fun q => kf hC r (by rw [if_neg q] at ho; exact ho) H locs hP hS ls hl)
theorem g_icmp_ne {x y : Int32} {off : Int} {tgt : Nat} {i : Decidable (x = y)} {o1 o2 : Ot} (hd : decode cc pc = .ok (.if_icmp .ne off, 3)) (ht : (pc : Int) + off = (tgt : Int)) (kt : G S Γ cc nL own rk d o1 σ lv tgt st) (kf : G S Γ cc nL own rk d o2 σ lv (pc + 3) st) : G S Γ cc nL own rk d (@ite _ (x = y) i o2 o1) σ lv pc (.int y :: .int x :: st) := fun hC r ho H locs hP hS ls hl => lv_icmp_ne hC.1 hC.2.1 hd ht (fun q => kt hC r (by rw [if_neg q] at ho; exact ho) H locs hP hS ls hl) (fun q => kf hC r (by rw [if_pos q] at ho; exact ho) H locs hP hS ls hl)
theorem g_if_ne {x : Int32} {off : Int} {tgt : Nat} {i : Decidable (x = 0)} {o1 o2 : Ot} (hd : decode cc pc = .ok (.ifCond .ne off, 3)) (ht : (pc : Int) + off = (tgt : Int)) (kt : G S Γ cc nL own rk d o1 σ lv tgt st) (kf : G S Γ cc nL own rk d o2 σ lv (pc + 3) st) : G S Γ cc nL own rk d (@ite _ (x = 0) i o2 o1) σ lv pc (.int x :: st) := fun hC r ho H locs hP hS ls hl => lv_if_ne hC.1 hC.2.1 hd ht (fun q => kt hC r (by rw [if_neg q] at ho; exact ho) H locs hP hS ls hl) (fun q => kf hC r (by rw [if_pos q] at ho; exact ho) H locs hP hS ls hl)
theorem g_icmp_lt {x y : Int32} {off : Int} {tgt : Nat} {i : Decidable (x < y)} {o1 o2 : Ot} (hd : decode cc pc = .ok (.if_icmp .lt off, 3)) (ht : (pc : Int) + off = (tgt : Int)) (kt : G S Γ cc nL own rk d o1 σ lv tgt st) (kf : G S Γ cc nL own rk d o2 σ lv (pc + 3) st) : G S Γ cc nL own rk d (@ite _ (x < y) i o1 o2) σ lv pc (.int y :: .int x :: st) := fun hC r ho H locs hP hS ls hl => lv_icmp_lt hC.1 hC.2.1 hd ht (fun q => kt hC r (by rw [if_pos q] at ho; exact ho) H locs hP hS ls hl) (fun q => kf hC r (by rw [if_neg q] at ho; exact ho) H locs hP hS ls hl)
theorem g_if_lt {x : Int32} {off : Int} {tgt : Nat} {i : Decidable (x < 0)} {o1 o2 : Ot} (hd : decode cc pc = .ok (.ifCond .lt off, 3)) (ht : (pc : Int) + off = (tgt : Int)) (kt : G S Γ cc nL own rk d o1 σ lv tgt st) (kf : G S Γ cc nL own rk d o2 σ lv (pc + 3) st) : G S Γ cc nL own rk d (@ite _ (x < 0) i o1 o2) σ lv pc (.int x :: st) := fun hC r ho H locs hP hS ls hl => lv_if_lt hC.1 hC.2.1 hd ht (fun q => kt hC r (by rw [if_pos q] at ho; exact ho) H locs hP hS ls hl) (fun q => kf hC r (by rw [if_neg q] at ho; exact ho) H locs hP hS ls hl)
theorem g_icmp_ge {x y : Int32} {off : Int} {tgt : Nat} {i : Decidable (y ≤ x)} {o1 o2 : Ot} (hd : decode cc pc = .ok (.if_icmp .ge off, 3)) (ht : (pc : Int) + off = (tgt : Int)) (kt : G S Γ cc nL own rk d o1 σ lv tgt st) (kf : G S Γ cc nL own rk d o2 σ lv (pc + 3) st) : G S Γ cc nL own rk d (@ite _ (y ≤ x) i o1 o2) σ lv pc (.int y :: .int x :: st) := fun hC r ho H locs hP hS ls hl => lv_icmp_ge hC.1 hC.2.1 hd ht (fun q => kt hC r (by rw [if_pos q] at ho; exact ho) H locs hP hS ls hl) (fun q => kf hC r (by rw [if_neg q] at ho; exact ho) H locs hP hS ls hl)
theorem g_if_ge {x : Int32} {off : Int} {tgt : Nat} {i : Decidable (0 ≤ x)} {o1 o2 : Ot} (hd : decode cc pc = .ok (.ifCond .ge off, 3)) (ht : (pc : Int) + off = (tgt : Int)) (kt : G S Γ cc nL own rk d o1 σ lv tgt st) (kf : G S Γ cc nL own rk d o2 σ lv (pc + 3) st) : G S Γ cc nL own rk d (@ite _ (0 ≤ x) i o1 o2) σ lv pc (.int x :: st) := fun hC r ho H locs hP hS ls hl => lv_if_ge hC.1 hC.2.1 hd ht (fun q => kt hC r (by rw [if_pos q] at ho; exact ho) H locs hP hS ls hl) (fun q => kf hC r (by rw [if_neg q] at ho; exact ho) H locs hP hS ls hl)
theorem g_icmp_gt {x y : Int32} {off : Int} {tgt : Nat} {i : Decidable (y < x)} {o1 o2 : Ot} (hd : decode cc pc = .ok (.if_icmp .gt off, 3)) (ht : (pc : Int) + off = (tgt : Int)) (kt : G S Γ cc nL own rk d o1 σ lv tgt st) (kf : G S Γ cc nL own rk d o2 σ lv (pc + 3) st) : G S Γ cc nL own rk d (@ite _ (y < x) i o1 o2) σ lv pc (.int y :: .int x :: st) := fun hC r ho H locs hP hS ls hl => lv_icmp_gt hC.1 hC.2.1 hd ht (fun q => kt hC r (by rw [if_pos q] at ho; exact ho) H locs hP hS ls hl) (fun q => kf hC r (by rw [if_neg q] at ho; exact ho) H locs hP hS ls hl)
theorem g_if_gt {x : Int32} {off : Int} {tgt : Nat} {i : Decidable (0 < x)} {o1 o2 : Ot} (hd : decode cc pc = .ok (.ifCond .gt off, 3)) (ht : (pc : Int) + off = (tgt : Int)) (kt : G S Γ cc nL own rk d o1 σ lv tgt st) (kf : G S Γ cc nL own rk d o2 σ lv (pc + 3) st) : G S Γ cc nL own rk d (@ite _ (0 < x) i o1 o2) σ lv pc (.int x :: st) := fun hC r ho H locs hP hS ls hl => lv_if_gt hC.1 hC.2.1 hd ht (fun q => kt hC r (by rw [if_pos q] at ho; exact ho) H locs hP hS ls hl) (fun q => kf hC r (by rw [if_neg q] at ho; exact ho) H locs hP hS ls hl)
theorem g_icmp_le {x y : Int32} {off : Int} {tgt : Nat} {i : Decidable (x ≤ y)} {o1 o2 : Ot} (hd : decode cc pc = .ok (.if_icmp .le off, 3)) (ht : (pc : Int) + off = (tgt : Int)) (kt : G S Γ cc nL own rk d o1 σ lv tgt st) (kf : G S Γ cc nL own rk d o2 σ lv (pc + 3) st) : G S Γ cc nL own rk d (@ite _ (x ≤ y) i o1 o2) σ lv pc (.int y :: .int x :: st) := fun hC r ho H locs hP hS ls hl => lv_icmp_le hC.1 hC.2.1 hd ht (fun q => kt hC r (by rw [if_pos q] at ho; exact ho) H locs hP hS ls hl) (fun q => kf hC r (by rw [if_neg q] at ho; exact ho) H locs hP hS ls hl)
theorem g_if_le {x : Int32} {off : Int} {tgt : Nat} {i : Decidable (x ≤ 0)} {o1 o2 : Ot} (hd : decode cc pc = .ok (.ifCond .le off, 3)) (ht : (pc : Int) + off = (tgt : Int)) (kt : G S Γ cc nL own rk d o1 σ lv tgt st) (kf : G S Γ cc nL own rk d o2 σ lv (pc + 3) st) : G S Γ cc nL own rk d (@ite _ (x ≤ 0) i o1 o2) σ lv pc (.int x :: st) := fun hC r ho H locs hP hS ls hl => lv_if_le hC.1 hC.2.1 hd ht (fun q => kt hC r (by rw [if_pos q] at ho; exact ho) H locs hP hS ls hl) (fun q => kf hC r (by rw [if_neg q] at ho; exact ho) H locs hP hS ls hl)
theorem g_goto {off : Int} {tgt : Nat} (hd : decode cc pc = .ok (.goto off, 3)) (ht : (pc : Int) + off = (tgt : Int)) (k : G S Γ cc nL own rk d o σ lv tgt st) : G S Γ cc nL own rk d o σ lv pc st := fun hC r ho H locs hP hS ls hl => lv_goto hC.1 hC.2.1 hd ht (k hC r ho H locs hP hS ls hl)
theorem g_ifnonnull {x : Nat} {off : Int} {tgt : Nat} (hd : decode cc pc = .ok (.ifnonnull off, 3)) (ht : (pc : Int) + off = (tgt : Int)) (k : G S Γ cc nL own rk d o σ lv tgt st) : G S Γ cc nL own rk d o σ lv pc (.ref x :: st) := fun hC r ho H locs hP hS ls hl => lv_ifnonnull hC.1 hC.2.1 hd ht (k hC r ho H locs hP hS ls hl)
theorem g_ifnull {x : Nat} {off : Int} (hd : decode cc pc = .ok (.ifnull off, 3)) (k : G S Γ cc nL own rk d o σ lv (pc + 3) st) : G S Γ cc nL own rk d o σ lv pc (.ref x :: st) := fun hC r ho H locs hP hS ls hl => lv_ifnull hC.1 hC.2.1 hd (k hC r ho H locs hP hS ls hl)
theorem g_ifnonnullN {off : Int} (hd : decode cc pc = .ok (.ifnonnull off, 3)) (k : G S Γ cc nL own rk d o σ lv (pc + 3) st) : G S Γ cc nL own rk d o σ lv pc (.null :: st) := fun hC r ho H locs hP hS ls hl => lv_ifnonnullN hC.1 hC.2.1 hd (k hC r ho H locs hP hS ls hl)
theorem g_ifnullN {off : Int} {tgt : Nat} (hd : decode cc pc = .ok (.ifnull off, 3)) (ht : (pc : Int) + off = (tgt : Int)) (k : G S Γ cc nL own rk d o σ lv tgt st) : G S Γ cc nL own rk d o σ lv pc (.null :: st) := fun hC r ho H locs hP hS ls hl => lv_ifnullN hC.1 hC.2.1 hd ht (k hC r ho H locs hP hS ls hl)
theorem g_tableIn {dflt lo hi : Int} {offs : Array Int} {len : Nat} {x : Int32} {off : Int} {tgt : Nat} (hd : decode cc pc = .ok (.tableswitch dflt lo hi offs, len)) (h1 : ¬ x.toInt < lo) (h2 : ¬ hi < x.toInt) (ho1 : offs[(x.toInt - lo).toNat]? = some off) (ht : (pc : Int) + off = (tgt : Int)) (k : G S Γ cc nL own rk d o σ lv tgt st) : G S Γ cc nL own rk d o σ lv pc (.int x :: st) := fun hC r ho H locs hP hS ls hl => lv_tableIn hC.1 hC.2.1 hd h1 h2 ho1 ht (k hC r ho H locs hP hS ls hl)
theorem g_tableOut {dflt lo hi : Int} {offs : Array Int} {len : Nat} {x : Int32} {tgt : Nat} (hd : decode cc pc = .ok (.tableswitch dflt lo hi offs, len)) (h : x.toInt < lo ∨ hi < x.toInt) (ht : (pc : Int) + dflt = (tgt : Int)) (k : G S Γ cc nL own rk d o σ lv tgt st) : G S Γ cc nL own rk d o σ lv pc (.int x :: st) := fun hC r ho H locs hP hS ls hl => lv_tableOut hC.1 hC.2.1 hd h ht (k hC r ho H locs hP hS ls hl)
theorem g_lookup {dflt : Int} {ps1 : Array (Int × Int)} {len : Nat} {x : Int32} {off : Int} {tgt : Nat} (hd : decode cc pc = .ok (.lookupswitch dflt ps1, len)) (hp : (ps1.toList.zip (ps1.toList.drop 1)).all (fun (a, next) => a.1 < next.1) = true) (ho1 : Op.lookupswitch.offset ps1.toList dflt x.toInt = off) (ht : (pc : Int) + off = (tgt : Int)) (k : G S Γ cc nL own rk d o σ lv tgt st) : G S Γ cc nL own rk d o σ lv pc (.int x :: st) := fun hC r ho H locs hP hS ls hl => lv_lookup hC.1 hC.2.1 hd hp ho1 ht (k hC r ho H locs hP hS ls hl)
theorem g_get (q0 : Nat) {adr ci : Nat} {fs : List Value} {C : String} {T : u_T} {N index : Nat} {v : Value} (he : (sW S σ)[q0]? = some (adr, .inr (ci, fs))) (hc : vwCl[ci]? = some (C, T, N)) (hin : ∀ w ∈ u_ws C T N, w ∈ wsL_law) (kf : Nat) (hk : kf < N) (hlink : Cond.fieldLink own index (T kf).1 (T kf).2.1 (T kf).2.2.1 ∈ wsL_law) (hv : fs[kf]? = some v) (hd : decode cc pc = .ok (.getfield index, 3)) (k : G S Γ cc nL own rk d o σ lv (pc + 3) (v :: st)) : G S Γ cc nL own rk d o σ lv pc (.ref adr :: st) := fun hC r ho H locs hP hS ls hl => va_get (D := sD S) (ref := (T kf).1) hC.1 hC.2.1 hC.2.2.2.2.2.1 hin hC.2.2.2.2.2.2.1 hC.2.2.2.2.2.2.2.1 hP q0 he hc kf hk (hC.2.2.2.2.2.1 _ hlink) (fun _ h9 => h9) hv hd (k hC r ho H locs hP hS ls hl)
theorem g_put (q0 : Nat) {adr ci : Nat} {fs : List Value} {C : String} {T : u_T} {N index : Nat} {v : Int32} {ty : FieldType} {ty0 : Nat → FieldType} {f : St → Ot} (he : (sW S σ)[q0]? = some (adr, .inr (ci, fs))) (hc : vwCl[ci]? = some (C, T, N)) (hin : ∀ w ∈ u_ws C T N, w ∈ wsL_law) (hty : ∀ k, k < N → parseFieldDescriptor (T k).2.2.1 = some (ty0 k)) (hnm : ∀ a, a < N → ∀ b, b < N → a ≠ b → (T a).2.1 ≠ (T b).2.1) (kf : Nat) (hk : kf < N) (hlink : Cond.fieldLink own index (T kf).1 (T kf).2.1 (T kf).2.2.1 ∈ wsL_law) (hfin : (T kf).2.2.2 = false) (hpd : parseFieldDescriptor (T kf).2.2.1 = some ty) (hn : narrow ty (.int v) = .int v) (hfit : fits ty (.int v) = true) (hl1 : kf < fs.length) (hset : (sW S σ).set q0 (adr, .inr (ci, fs.set kf (.int v))) = sW S (pf σ q0 kf v)) (hd : decode cc pc = .ok (.putfield index, 3)) (k : ∀ σ1 : St, G S Γ cc nL own rk d (f σ1) σ1 lv (pc + 3) st) : G S Γ cc nL own rk d (nm (pf σ q0 kf v) f) σ lv pc (.int v :: .ref adr :: st) := fun hC r ho H locs hP hS ls hl => va_put (D := sD S) (ref := (T kf).1) hC.1 hC.2.1 hC.2.2.2.2.2.1 hin ty0 hty hnm hC.2.2.2.2.2.2.1 hC.2.2.2.2.2.2.2.1 hP (hC.2.2.2.2.2.2.2.2.2.1 σ) hS q0 he hc kf hk (hC.2.2.2.2.2.1 _ hlink) (fun _ h9 => h9) hfin hpd hn hfit hl1 hd (fun H1 locs1 hP1 _ hS1 => k (pf σ q0 kf v) hC r ho H1 locs1 (by rw [hset] at hP1; exact hP1) hS1 ls hl)
theorem g_iald (q0 : Nat) {adr n : Nat} {cA : ClassId} {i : Int32} {z : Nat → Int32} (he : (sW S σ)[q0]? = some (adr, .inl (cA, n, .inl z))) (ht : (sT S)[0]? = some (cA, .int)) (hd : decode cc pc = .ok (.iaload, 1)) (k : G S Γ cc nL own rk d o σ lv (pc + 1) (.int (z i.toNatClampNeg) :: st)) : G S Γ cc nL own rk d (gd i n o) σ lv pc (.int i :: .ref adr :: st) := fun hC r ho H locs hP hS ls hl => va_iald (D := sD S) hC.1 hC.2.1 hC.2.2.2.2.2.2.2.1 hP q0 0 he ht (gd_some ho).1 hd (k hC r (gd_some ho).2 H locs hP hS ls hl)
theorem g_iast (q0 : Nat) {adr n : Nat} {cA : ClassId} {i x : Int32} {f : St → Ot} (he : (sW S σ)[q0]? = some (adr, .inl (cA, n, .inl (σ q0)))) (ht : (sT S)[0]? = some (cA, .int)) (hset : (sW S σ).set q0 (adr, .inl (cA, n, .inl (upd (σ q0) i.toNatClampNeg x))) = sW S (ps σ q0 i x)) (hd : decode cc pc = .ok (.iastore, 1)) (k : ∀ σ1 : St, G S Γ cc nL own rk d (f σ1) σ1 lv (pc + 1) st) : G S Γ cc nL own rk d (gd i n (nm (ps σ q0 i x) f)) σ lv pc (.int x :: .int i :: .ref adr :: st) := fun hC r ho H locs hP hS ls hl => va_iast (D := sD S) hC.1 hC.2.1 hC.2.2.2.2.2.2.2.1 hP (hC.2.2.2.2.2.2.2.2.2.1 σ) hS q0 0 he ht (gd_some ho).1 hd (fun H1 locs1 hP1 _ hS1 => k (ps σ q0 i x) hC r (gd_some ho).2 H1 locs1 (by rw [hset] at hP1; exact hP1) hS1 ls hl)
theorem g_alen (q0 t0 : Nat) {adr : Nat} {cA : ClassId} {z : vp_A} {ty : FieldType} {v : Int32} (he : (sW S σ)[q0]? = some (adr, .inl (cA, z))) (ht : (sT S)[t0]? = some (cA, ty)) (hv : Int32.ofNat z.1 = v) (hd : decode cc pc = .ok (.arraylength, 1)) (k : G S Γ cc nL own rk d o σ lv (pc + 1) (.int v :: st)) : G S Γ cc nL own rk d o σ lv pc (.ref adr :: st) := fun hC r ho H locs hP hS ls hl => va_alen (D := sD S) hC.1 hC.2.1 hC.2.2.2.2.2.2.2.1 hP q0 t0 he ht hv hd (k hC r ho H locs hP hS ls hl)
theorem g_iret {v : Int32} (hRT : RT S Γ (some .int)) (hd : decode cc pc = .ok (.ireturn, 1)) : G S Γ cc nL own (some .int) d (some (v, σ)) σ lv pc [.int v] := fun hC r ho H locs hP hS ls hl => by
  obtain ⟨e1, e2, e3, e4⟩ := hRT
  rw [e3] at hS
  rw [e4, e1, e2]
  cases ho
  exact W.iret (v := v) hC.1 hC.2.1 hC.2.2.2.1 (fun t ht hW => ⟨⟨v, σ, rfl, ⟨rfl, rfl⟩, (show va_P (sD S) vwCl (sW S σ) t.heap by rw [ht]; exact hP)⟩, hS.F ht⟩) hS.2.2 hd hC.2.2.2.2.1
theorem g_zret {v : Int32} (hRT : RT S Γ (some .boolean)) (hd : decode cc pc = .ok (.ireturn, 1)) : G S Γ cc nL own (some .boolean) d (zg v (some (v, σ))) σ lv pc [.int v] := fun hC r ho H locs hP hS ls hl => by
  obtain ⟨e1, e2, e3, e4⟩ := hRT
  rw [e3] at hS
  rw [e4, e1, e2]
  obtain ⟨h1, h2⟩ := zg_some ho
  cases h2
  exact W.zret (v := v) (ty := .boolean) hC.1 hC.2.1 hC.2.2.2.1 (by rcases h1 with rfl | rfl <;> decide) (fun t ht hW => ⟨⟨v, σ, rfl, ⟨rfl, rfl⟩, (show va_P (sD S) vwCl (sW S σ) t.heap by rw [ht]; exact hP)⟩, hS.F ht⟩) hS.2.2 hd hC.2.2.2.2.1
theorem g_zret1 {v : Int32} (hRT : RT S Γ (some .boolean)) (hn : narrow .boolean (.int v) = .int v) (hd : decode cc pc = .ok (.ireturn, 1)) : G S Γ cc nL own (some .boolean) d (some (v, σ)) σ lv pc [.int v] := fun hC r ho H locs hP hS ls hl => by
  obtain ⟨e1, e2, e3, e4⟩ := hRT
  rw [e3] at hS
  rw [e4, e1, e2]
  cases ho
  exact W.zret (v := v) (ty := .boolean) hC.1 hC.2.1 hC.2.2.2.1 hn (fun t ht hW => ⟨⟨v, σ, rfl, ⟨rfl, rfl⟩, (show va_P (sD S) vwCl (sW S σ) t.heap by rw [ht]; exact hP)⟩, hS.F ht⟩) hS.2.2 hd hC.2.2.2.2.1
theorem g_vret {v : Int32} (hRT : RT S Γ none) (hd : decode cc pc = .ok (.return_, 1)) : G S Γ cc nL own none d (some (v, σ)) σ lv pc [] := fun hC r ho H locs hP hS ls hl => by
  obtain ⟨e1, e2, e3, e4⟩ := hRT
  rw [e3] at hS
  rw [e4, e1, e2]
  cases ho
  exact W.vret hC.1 hC.2.1 hC.2.2.2.1 (fun t ht hW => ⟨⟨σ, rfl, rfl, (show va_P (sD S) vwCl (sW S σ) t.heap by rw [ht]; exact hP)⟩, hS.F ht⟩) hS.2.2 hd hC.2.2.2.2.1
theorem g_aret {nC : String} {x : Int32} (hRT : RT S Γ (some (.object nC))) (hd : decode cc pc = .ok (.areturn, 1)) (v : Value) (hv : v = va_rf (pq (sP S) x)) : G S Γ cc nL own (some (.object nC)) d (some (x, σ)) σ lv pc [v] := fun hC r ho H locs hP hS ls hl => by
  obtain ⟨e1, e2, e3, e4⟩ := hRT
  rw [e3] at hS
  rw [e4, e1, e2]
  cases ho
  subst hv
  exact W.aret (v := va_rf (pq (sP S) x)) (rt := .object nC) hC.1 hC.2.1 hC.2.2.2.1 (Or.inl ⟨nC, rfl⟩) (by cases pq (sP S) x with
    | none => exact Or.inl rfl
    | some z => exact Or.inr ⟨z, rfl⟩) (fun t ht hW => ⟨⟨pq (sP S) x, σ, rfl, ⟨rfl, rfl⟩, (show va_P (sD S) vwCl (sW S σ) t.heap by rw [ht]; exact hP)⟩, hS.F ht⟩) hS.2.2 hd hC.2.2.2.2.1
theorem g_eq {lv1 : List (Nat × Value)} {st1 : List Value} (h1 : lv = lv1) (h2 : st = st1) (k : G S Γ cc nL own rk d o σ lv1 pc st1) : G S Γ cc nL own rk d o σ lv pc st := by
  subst h1; subst h2; exact k
theorem g_aald (q0 t0 : Nat) {adr n : Nat} {cA : ClassId} {C : String} {i : Int32} {z : Nat → Option Nat} {v : Value} (he : (sW S σ)[q0]? = some (adr, .inl (cA, n, .inr (.inr (.inr (.inr z)))))) (ht : (sT S)[t0]? = some (cA, .object C)) (hin : vp_in i n) (hv : va_rf (z i.toNatClampNeg) = v) (hd : decode cc pc = .ok (.aaload, 1)) (k : G S Γ cc nL own rk d o σ lv (pc + 1) (v :: st)) : G S Γ cc nL own rk d o σ lv pc (.int i :: .ref adr :: st) := fun hC r ho H locs hP hS ls hl => va_aldq (D := sD S) hC.1 hC.2.1 hC.2.2.2.2.2.2.2.1 hP q0 t0 he ht hin hd (by rw [hv]; exact k hC r ho H locs hP hS ls hl)
end ROWS

/-- a callee's words, out of the tables' -/
def Wk (y : MethodName) (cc : ByteArray) (nL : Nat) (rk : Option FieldType) (n : Nat) : Prop := Cond.code y cc nL rk ∈ wsL_law ∧ Cond.initialized y.cls ∈ wsL_law ∧ (y.cls ≠ "java/lang/invoke/MethodHandle" ∧ y.cls ≠ "java/lang/invoke/VarHandle" ∧ (parseMethodDescriptor y.desc).map (fun d => d.parameters.length) = some n)
def Wv (y : MethodName) : Prop := Cond.instanceMethod y ∈ wsL_law ∧ Cond.selects y.cls y y ∈ wsL_law
theorem good_sub {y : MethodName} {cc : ByteArray} {nL : Nat} {rk : Option FieldType} (h : Cond.code y cc nL rk ∈ wsL_law) : GoodIn wsL_law (.code y cc nL rk :: wsL_law) := fun w hw => (List.mem_cons.mp hw).elim (fun e => by rw [e]; exact ⟨h, big_in h⟩) (fun h2 => ⟨h2, big_in h2⟩)
theorem pc_blind {S : Gs} {av : List Value} {σ : St} : FrameBlind (va_Pc av (fun U => va_P (sD S) vwCl (sW S σ) U.heap ∧ va_K (sD S) vwCl (sT S) U ∧ NW U)) := fun a U g mk q => by
  obtain ⟨q0, qP, qK, qN⟩ := q
  exact ⟨q0, qP, va_K.moved (u := U) (U := U.calling g mk a) (Vm.Alike.refl U.vm) qK, NW.same (u := U) (U := U.calling g mk a) rfl qN⟩
section CALLS
variable {S : Gs} {Γ : Gm} {cc c2 : ByteArray} {nL n2 index n : Nat} {own : String} {rk rk2 : Option FieldType} {d d2 : Nat} {o : Ot} {f : Int32 → St → Ot} {σ : St} {lv : List (Nat × Value)} {pc : Nat} {st st0 : List Value} {y : MethodName} {As : List Value}
theorem g_mmin {x y : Int32} {rest : List Value} (hlink : Cond.methodLink own index Lib.Math.min.name ∈ wsL_law) (hst : Cond.static Lib.Math.min.name ∈ wsL_law) (hini : Cond.initialized "java/lang/Math" ∈ wsL_law) (hcode : Cond.code Lib.Math.min.name Lib.Math.min.code 2 (some .int) ∈ wsL_law) (hd1 : 1 ≤ d) (hcat : (rest.map fun v => v.category).sum + 13 ≤ 30 * d) (hd : decode cc pc = .ok (.invokestatic index, 3)) (k : G S Γ cc nL own rk d o σ lv (pc + 3) (.int (if y < x then y else x) :: rest)) : G S Γ cc nL own rk d o σ lv pc (.int y :: .int x :: rest) := fun hC r ho H locs hP hS ls hl => by
  obtain ⟨hx, hb, hml, hret, hlk, hts, hown, hKK, hN, hDD, hsub, hfr, hlc, hce, hsl⟩ := id hC
  exact va_mmin hx hb (hml.trans hl.1.symm) hown (hts _ hlink) (hts _ hst) (hts _ hini) (hts _ hcode) (Nat.le_trans hd1 hfr) (Nat.le_trans hcat hlc) hce hsl hd (k hC r ho H locs hP hS ls hl)
theorem g_mmax {x y : Int32} {rest : List Value} (hlink : Cond.methodLink own index Lib.Math.max.name ∈ wsL_law) (hst : Cond.static Lib.Math.max.name ∈ wsL_law) (hini : Cond.initialized "java/lang/Math" ∈ wsL_law) (hcode : Cond.code Lib.Math.max.name Lib.Math.max.code 2 (some .int) ∈ wsL_law) (hd1 : 1 ≤ d) (hcat : (rest.map fun v => v.category).sum + 13 ≤ 30 * d) (hd : decode cc pc = .ok (.invokestatic index, 3)) (k : G S Γ cc nL own rk d o σ lv (pc + 3) (.int (if x < y then y else x) :: rest)) : G S Γ cc nL own rk d o σ lv pc (.int y :: .int x :: rest) := fun hC r ho H locs hP hS ls hl => by
  obtain ⟨hx, hb, hml, hret, hlk, hts, hown, hKK, hN, hDD, hsub, hfr, hlc, hce, hsl⟩ := id hC
  exact va_mmax hx hb (hml.trans hl.1.symm) hown (hts _ hlink) (hts _ hst) (hts _ hini) (hts _ hcode) (Nat.le_trans hd1 hfr) (Nat.le_trans hcat hlc) hce hsl hd (k hC r ho H locs hP hS ls hl)
def pushOf (S : Gs) (rk : Option FieldType) (x : Int32) (st : List Value) : List Value := match rk with
  | none => st
  | some (.object _) => va_rf (pq (sP S) x) :: st
  | some _ => .int x :: st
theorem g_after {m2 : Array Value} {H : Heap} {locs : List Loc} {ls : Array Slot} {Q : State → Prop} (hS : va_S (mA Γ) (mz Γ).heap H locs) (hsub : ∀ q : Nat, sA S q → mA Γ q) (r2 : Int32 × St)
    (hr : va_Run (mp Γ) (sL S) (me Γ) (mRo Γ) (mz Γ) (mm Γ) (ma Γ) (mb Γ) (mh Γ) (mc Γ) H locs (mk Γ) (ms Γ) 0 0 (F0 (mm Γ) pc ls st0) st (Qk S rk2 r2 m2) (sA S))
    (k : ∀ (H1 : Heap) (locs1 : List Loc), va_P (sD S) vwCl (sW S r2.2) H1 → va_S (mA Γ) (mz Γ).heap H1 locs1 → W (mp Γ) (sL S) (me Γ) (mRo Γ) (mz Γ) (mm Γ) (ma Γ) (mb Γ) (mh Γ) (mc Γ) H1 locs1 (mk Γ) (ms Γ) Q (F0 (mm Γ) (pc + 3) ls (pushOf S rk2 r2.1 st))) :
    W (mp Γ) (sL S) (me Γ) (mRo Γ) (mz Γ) (mm Γ) (ma Γ) (mb Γ) (mh Γ) (mc Γ) H locs (mk Γ) (ms Γ) Q (F0 (mm Γ) pc ls st0) := by
  cases rk2 with
  | none =>
    refine va_callv (a := m2) (A1 := sA S) (free := sA S) hr hS (fun q _ h => hsub q h) (fun q h => hsub q h) (fun u t H1 locs1 ht hvm hw hB hz1 hk1 hS1 => ?_)
    subst hw
    rw [ht] at hB
    exact k H1 locs1 hB hS1
  | some ty =>
    cases ty with
    | object C =>
      refine va_callq (a := m2) (A1 := sA S) (free := sA S) hr hS (fun q _ h => hsub q h) (fun q h => hsub q h) (fun x u t H1 locs1 ht hvm hw hB hz1 hk1 hS1 => ?_)
      obtain ⟨rfl, rfl⟩ := hw
      rw [ht] at hB
      exact k H1 locs1 hB hS1
    | _ =>
      refine va_calli (a := m2) (A1 := sA S) (free := sA S) hr hS (fun q _ h => hsub q h) (fun q h => hsub q h) (fun x u t H1 locs1 ht hvm hw hB hz1 hk1 hS1 => ?_)
      obtain ⟨rfl, rfl⟩ := hw
      rw [ht] at hB
      exact k H1 locs1 hB hS1

theorem g_callV (q0 : Nat) {b ci N : Nat} {T : u_T} {fs : List Value} (hK : ∀ r2 : Int32 × St, o = some r2 → Kc S y c2 n2 rk2 d2 (.ref b :: As) σ r2) (hW2 : Wk y c2 n2 rk2 n) (hWv : Wv y) (hlink : Cond.methodLink own index y ∈ wsL_law) (hq : (sW S σ)[q0]? = some (b, .inr (ci, fs))) (hci : vwCl[ci]? = some (y.cls, T, N)) (hd2 : d2 + 1 ≤ d) (hlo : 8 + (n2 + 11) + 30 * d2 ≤ 30 * d) (hn : As.length = n) (hst : st0 = As.reverse ++ .ref b :: st) (hcat : (st.map fun v => v.category).sum ≤ 8) (hd : decode cc pc = .ok (.invokevirtual index, 3)) (k : ∀ (x : Int32) (σ1 : St), G S Γ cc nL own rk d (f x σ1) σ1 lv (pc + 3) (pushOf S rk2 x st)) : G S Γ cc nL own rk d (bnd o f) σ lv pc st0 := fun hC r ho H locs hP hS ls hl => by
  obtain ⟨r2, h1, h2⟩ := bnd_some ho
  obtain ⟨hx, hb, hml, hret, hlk, hts, hown, hKK, hN, hDD, hsub, hfr, hlc, hce, hsl⟩ := id hC
  refine g_after hS hsub r2 (va_runV (As := As) (rest := st) (own := own) (C := y.cls) ⟨hx, hb, hml, hown, hts⟩ (hK r2 h1) (cwV n hts (fun w hw => ?_) rfl rfl rfl ⟨rfl, hW2.2.2⟩ ⟨Nat.le_trans hd2 hfr, Nat.le_trans hlo hlc⟩) ⟨pc_blind, va_recv hKK hP hci hq, fun U hU hW => ⟨rfl, by rw [hU]; exact hP, va_K.moved hW.alike hKK, NW.warm hW hN⟩⟩ rfl hn hl.1 hst (lv_room hcat) hd ⟨hce, hsl⟩) (fun H1 locs1 hP1 hS1 => k r2.1 r2.2 hC r h2 H1 locs1 hP1 hS1 ls hl)
  have hw2 : w ∈ wsL_law := by
    rcases List.mem_append.mp hw with hw | hw
    · simp only [List.mem_cons, List.not_mem_nil, or_false] at hw
      rcases hw with rfl | rfl | rfl | rfl
      · exact hlink
      · exact hWv.1
      · exact hWv.2
      · exact hW2.2.1
    · exact (good_sub hW2.1 w hw).1
  exact ⟨hw2, big_in hw2⟩
theorem g_callS (hK : ∀ r2 : Int32 × St, o = some r2 → Kc S y c2 n2 rk2 d2 As σ r2) (hW2 : Wk y c2 n2 rk2 n) (hst1 : Cond.static y ∈ wsL_law) (hlink : Cond.methodLink own index y ∈ wsL_law) (hd2 : d2 + 1 ≤ d) (hlo : 8 + (n2 + 11) + 30 * d2 ≤ 30 * d) (hn : As.length = n) (hst : st0 = As.reverse ++ st) (hcat : (st.map fun v => v.category).sum ≤ 8) (hd : decode cc pc = .ok (.invokestatic index, 3)) (k : ∀ (x : Int32) (σ1 : St), G S Γ cc nL own rk d (f x σ1) σ1 lv (pc + 3) (pushOf S rk2 x st)) : G S Γ cc nL own rk d (bnd o f) σ lv pc st0 := fun hC r ho H locs hP hS ls hl => by
  obtain ⟨r2, h1, h2⟩ := bnd_some ho
  obtain ⟨hx, hb, hml, hret, hlk, hts, hown, hKK, hN, hDD, hsub, hfr, hlc, hce, hsl⟩ := id hC
  have hc2 := callB_of (own := own) (rm := rmD d2) (R := mRo Γ) (mc := 0) (ms := 0) n hts (good_sub hW2.1) rfl rfl rfl (hts _ hW2.2.1) (hts _ hlink) hW2.2.2 ⟨Nat.le_trans hd2 hfr, Nat.le_trans hlo hlc⟩
  exact g_after hS hsub r2 (va_runS (As := As) (rest := st) (own := own) ⟨hx, hb, hml, hown, hts⟩ (hK r2 h1) ⟨hc2, hts _ hst1⟩ ⟨pc_blind, fun U hU hW => ⟨rfl, by rw [hU]; exact hP, va_K.moved hW.alike hKK, NW.warm hW hN⟩⟩ rfl hn hl.1 hst (lv_room hcat) hd ⟨hce, hsl⟩) (fun H1 locs1 hP1 hS1 => k r2.1 r2.2 hC r h2 H1 locs1 hP1 hS1 ls hl)
theorem g_callSN {host : String} (hK : ∀ r2 : Int32 × St, o = some r2 → Kc S y c2 n2 rk2 d2 As σ r2) (hW2 : Wk y c2 n2 rk2 n) (hst1 : Cond.static y ∈ wsL_law) (hlink : (own, index, y, host) ∈ nestL) (hd2 : d2 + 1 ≤ d) (hlo : 8 + (n2 + 11) + 30 * d2 ≤ 30 * d) (hn : As.length = n) (hst : st0 = As.reverse ++ st) (hcat : (st.map fun v => v.category).sum ≤ 8) (hd : decode cc pc = .ok (.invokestatic index, 3)) (k : ∀ (x : Int32) (σ1 : St), G S Γ cc nL own rk d (f x σ1) σ1 lv (pc + 3) (pushOf S rk2 x st)) : G S Γ cc nL own rk d (bnd o f) σ lv pc st0 := fun hC r ho H locs hP hS ls hl => by
  obtain ⟨r2, h1, h2⟩ := bnd_some ho
  obtain ⟨hx, hb, hml, hret, hlk, hts, hown, hKK, hN, hDD, hsub, hfr, hlc, hce, hsl⟩ := id hC
  exact g_after hS hsub r2 (va_runSN (As := As) (rest := st) (own := own) ⟨hx, hb, hml, hown, hts⟩ (hK r2 h1) ⟨va_cnB n hts (good_sub hW2.1) rfl rfl rfl (hN _ hlink) (hts _ hW2.2.1) hW2.2.2 ⟨Nat.le_trans hd2 hfr, Nat.le_trans hlo hlc⟩, hts _ hst1, trivial⟩ ⟨pc_blind, fun U hU hW => ⟨rfl, by rw [hU]; exact hP, va_K.moved hW.alike hKK, NW.warm hW hN⟩⟩ rfl hn hl.1 hst (lv_room hcat) hd ⟨hce, hsl⟩) (fun H1 locs1 hP1 hS1 => k r2.1 r2.2 hC r h2 H1 locs1 hP1 hS1 ls hl)
theorem g_cVi (q0 : Nat) {b ci N : Nat} {T : u_T} {fs : List Value} (hK : ∀ r2 : Int32 × St, o = some r2 → Kc S y c2 n2 (some .int) d2 (.ref b :: As) σ r2) (hW2 : Wk y c2 n2 (some .int) n) (hWv : Wv y) (hlink : Cond.methodLink own index y ∈ wsL_law) (hq : (sW S σ)[q0]? = some (b, .inr (ci, fs))) (hci : vwCl[ci]? = some (y.cls, T, N)) (hd2 : d2 + 1 ≤ d) (hlo : 8 + (n2 + 11) + 30 * d2 ≤ 30 * d) (hn : As.length = n) (hst : st0 = As.reverse ++ .ref b :: st) (hcat : (st.map fun v => v.category).sum ≤ 8) (hd : decode cc pc = .ok (.invokevirtual index, 3)) (k : ∀ (x : Int32) (σ1 : St), G S Γ cc nL own rk d (f x σ1) σ1 lv (pc + 3) (.int x :: st)) : G S Γ cc nL own rk d (bnd o f) σ lv pc st0 := g_callV q0 hK hW2 hWv hlink hq hci hd2 hlo hn hst hcat hd k
theorem g_cVz (q0 : Nat) {b ci N : Nat} {T : u_T} {fs : List Value} (hK : ∀ r2 : Int32 × St, o = some r2 → Kc S y c2 n2 (some .boolean) d2 (.ref b :: As) σ r2) (hW2 : Wk y c2 n2 (some .boolean) n) (hWv : Wv y) (hlink : Cond.methodLink own index y ∈ wsL_law) (hq : (sW S σ)[q0]? = some (b, .inr (ci, fs))) (hci : vwCl[ci]? = some (y.cls, T, N)) (hd2 : d2 + 1 ≤ d) (hlo : 8 + (n2 + 11) + 30 * d2 ≤ 30 * d) (hn : As.length = n) (hst : st0 = As.reverse ++ .ref b :: st) (hcat : (st.map fun v => v.category).sum ≤ 8) (hd : decode cc pc = .ok (.invokevirtual index, 3)) (k : ∀ (x : Int32) (σ1 : St), G S Γ cc nL own rk d (f x σ1) σ1 lv (pc + 3) (.int x :: st)) : G S Γ cc nL own rk d (bnd o f) σ lv pc st0 := g_callV q0 hK hW2 hWv hlink hq hci hd2 hlo hn hst hcat hd k
theorem g_cVv (q0 : Nat) {b ci N : Nat} {T : u_T} {fs : List Value} (hK : ∀ r2 : Int32 × St, o = some r2 → Kc S y c2 n2 none d2 (.ref b :: As) σ r2) (hW2 : Wk y c2 n2 none n) (hWv : Wv y) (hlink : Cond.methodLink own index y ∈ wsL_law) (hq : (sW S σ)[q0]? = some (b, .inr (ci, fs))) (hci : vwCl[ci]? = some (y.cls, T, N)) (hd2 : d2 + 1 ≤ d) (hlo : 8 + (n2 + 11) + 30 * d2 ≤ 30 * d) (hn : As.length = n) (hst : st0 = As.reverse ++ .ref b :: st) (hcat : (st.map fun v => v.category).sum ≤ 8) (hd : decode cc pc = .ok (.invokevirtual index, 3)) (k : ∀ (x : Int32) (σ1 : St), G S Γ cc nL own rk d (f x σ1) σ1 lv (pc + 3) st) : G S Γ cc nL own rk d (bnd o f) σ lv pc st0 := g_callV q0 hK hW2 hWv hlink hq hci hd2 hlo hn hst hcat hd k
theorem g_cVr {nC : String} (q0 : Nat) {b ci N : Nat} {T : u_T} {fs : List Value} (hK : ∀ r2 : Int32 × St, o = some r2 → Kc S y c2 n2 (some (.object nC)) d2 (.ref b :: As) σ r2) (hW2 : Wk y c2 n2 (some (.object nC)) n) (hWv : Wv y) (hlink : Cond.methodLink own index y ∈ wsL_law) (hq : (sW S σ)[q0]? = some (b, .inr (ci, fs))) (hci : vwCl[ci]? = some (y.cls, T, N)) (hd2 : d2 + 1 ≤ d) (hlo : 8 + (n2 + 11) + 30 * d2 ≤ 30 * d) (hn : As.length = n) (hst : st0 = As.reverse ++ .ref b :: st) (hcat : (st.map fun v => v.category).sum ≤ 8) (hd : decode cc pc = .ok (.invokevirtual index, 3)) (k : ∀ (x : Int32) (σ1 : St), G S Γ cc nL own rk d (f x σ1) σ1 lv (pc + 3) (va_rf (pq (sP S) x) :: st)) : G S Γ cc nL own rk d (bnd o f) σ lv pc st0 := g_callV q0 hK hW2 hWv hlink hq hci hd2 hlo hn hst hcat hd k
theorem g_cSi (hK : ∀ r2 : Int32 × St, o = some r2 → Kc S y c2 n2 (some .int) d2 As σ r2) (hW2 : Wk y c2 n2 (some .int) n) (hst1 : Cond.static y ∈ wsL_law) (hlink : Cond.methodLink own index y ∈ wsL_law) (hd2 : d2 + 1 ≤ d) (hlo : 8 + (n2 + 11) + 30 * d2 ≤ 30 * d) (hn : As.length = n) (hst : st0 = As.reverse ++ st) (hcat : (st.map fun v => v.category).sum ≤ 8) (hd : decode cc pc = .ok (.invokestatic index, 3)) (k : ∀ (x : Int32) (σ1 : St), G S Γ cc nL own rk d (f x σ1) σ1 lv (pc + 3) (.int x :: st)) : G S Γ cc nL own rk d (bnd o f) σ lv pc st0 := g_callS hK hW2 hst1 hlink hd2 hlo hn hst hcat hd k
theorem g_cSz (hK : ∀ r2 : Int32 × St, o = some r2 → Kc S y c2 n2 (some .boolean) d2 As σ r2) (hW2 : Wk y c2 n2 (some .boolean) n) (hst1 : Cond.static y ∈ wsL_law) (hlink : Cond.methodLink own index y ∈ wsL_law) (hd2 : d2 + 1 ≤ d) (hlo : 8 + (n2 + 11) + 30 * d2 ≤ 30 * d) (hn : As.length = n) (hst : st0 = As.reverse ++ st) (hcat : (st.map fun v => v.category).sum ≤ 8) (hd : decode cc pc = .ok (.invokestatic index, 3)) (k : ∀ (x : Int32) (σ1 : St), G S Γ cc nL own rk d (f x σ1) σ1 lv (pc + 3) (.int x :: st)) : G S Γ cc nL own rk d (bnd o f) σ lv pc st0 := g_callS hK hW2 hst1 hlink hd2 hlo hn hst hcat hd k
theorem g_cSv (hK : ∀ r2 : Int32 × St, o = some r2 → Kc S y c2 n2 none d2 As σ r2) (hW2 : Wk y c2 n2 none n) (hst1 : Cond.static y ∈ wsL_law) (hlink : Cond.methodLink own index y ∈ wsL_law) (hd2 : d2 + 1 ≤ d) (hlo : 8 + (n2 + 11) + 30 * d2 ≤ 30 * d) (hn : As.length = n) (hst : st0 = As.reverse ++ st) (hcat : (st.map fun v => v.category).sum ≤ 8) (hd : decode cc pc = .ok (.invokestatic index, 3)) (k : ∀ (x : Int32) (σ1 : St), G S Γ cc nL own rk d (f x σ1) σ1 lv (pc + 3) st) : G S Γ cc nL own rk d (bnd o f) σ lv pc st0 := g_callS hK hW2 hst1 hlink hd2 hlo hn hst hcat hd k
theorem g_cNi {host : String} (hK : ∀ r2 : Int32 × St, o = some r2 → Kc S y c2 n2 (some .int) d2 As σ r2) (hW2 : Wk y c2 n2 (some .int) n) (hst1 : Cond.static y ∈ wsL_law) (hlink : (own, index, y, host) ∈ nestL) (hd2 : d2 + 1 ≤ d) (hlo : 8 + (n2 + 11) + 30 * d2 ≤ 30 * d) (hn : As.length = n) (hst : st0 = As.reverse ++ st) (hcat : (st.map fun v => v.category).sum ≤ 8) (hd : decode cc pc = .ok (.invokestatic index, 3)) (k : ∀ (x : Int32) (σ1 : St), G S Γ cc nL own rk d (f x σ1) σ1 lv (pc + 3) (.int x :: st)) : G S Γ cc nL own rk d (bnd o f) σ lv pc st0 := g_callSN hK hW2 hst1 hlink hd2 hlo hn hst hcat hd k
theorem g_cNz {host : String} (hK : ∀ r2 : Int32 × St, o = some r2 → Kc S y c2 n2 (some .boolean) d2 As σ r2) (hW2 : Wk y c2 n2 (some .boolean) n) (hst1 : Cond.static y ∈ wsL_law) (hlink : (own, index, y, host) ∈ nestL) (hd2 : d2 + 1 ≤ d) (hlo : 8 + (n2 + 11) + 30 * d2 ≤ 30 * d) (hn : As.length = n) (hst : st0 = As.reverse ++ st) (hcat : (st.map fun v => v.category).sum ≤ 8) (hd : decode cc pc = .ok (.invokestatic index, 3)) (k : ∀ (x : Int32) (σ1 : St), G S Γ cc nL own rk d (f x σ1) σ1 lv (pc + 3) (.int x :: st)) : G S Γ cc nL own rk d (bnd o f) σ lv pc st0 := g_callSN hK hW2 hst1 hlink hd2 hlo hn hst hcat hd k
theorem g_cNv {host : String} (hK : ∀ r2 : Int32 × St, o = some r2 → Kc S y c2 n2 none d2 As σ r2) (hW2 : Wk y c2 n2 none n) (hst1 : Cond.static y ∈ wsL_law) (hlink : (own, index, y, host) ∈ nestL) (hd2 : d2 + 1 ≤ d) (hlo : 8 + (n2 + 11) + 30 * d2 ≤ 30 * d) (hn : As.length = n) (hst : st0 = As.reverse ++ st) (hcat : (st.map fun v => v.category).sum ≤ 8) (hd : decode cc pc = .ok (.invokestatic index, 3)) (k : ∀ (x : Int32) (σ1 : St), G S Γ cc nL own rk d (f x σ1) σ1 lv (pc + 3) st) : G S Γ cc nL own rk d (bnd o f) σ lv pc st0 := g_callSN hK hW2 hst1 hlink hd2 hlo hn hst hcat hd k
end CALLS
def lq0 (b : (St → Ot) → St → Ot) : Nat → St → Ot
  | 0 => fun _ => none
  | n + 1 => b (lq0 b n)
def jq0 (K : St → Ot) (b : (St → Ot) → Ot) : Ot := b K
theorem g_lq0 {S : Gs} {Γ : Gm} {cc : ByteArray} {nL : Nat} {own : String} {rk : Option FieldType} {d : Nat} {pc : Nat} {b : (St → Ot) → St → Ot} {lf : List (Nat × Value)} {sf : List Value} (h : ∀ k : St → Ot, (∀ (σ : St), G S Γ cc nL own rk d (k σ) σ lf pc sf) → ∀ (σ : St), G S Γ cc nL own rk d (b k σ) σ lf pc sf) (n : Nat) : ∀ (σ : St), G S Γ cc nL own rk d (lq0 b n σ) σ lf pc sf := by
  induction n with
  | zero => intro σ; exact g_none
  | succ n ih => exact h _ ih
theorem g_jq0 {S : Gs} {Γ : Gm} {cc : ByteArray} {nL : Nat} {own : String} {rk : Option FieldType} {d : Nat} {pc pc2 : Nat} {σ0 : St} {lv0 : List (Nat × Value)} {st0 : List Value} {K : St → Ot} {b : (St → Ot) → Ot} {lf : List (Nat × Value)} {sf : List Value} (hK : ∀ (σ : St), G S Γ cc nL own rk d (K σ) σ lf pc2 sf) (hb : ∀ k : St → Ot, (∀ (σ : St), G S Γ cc nL own rk d (k σ) σ lf pc2 sf) → G S Γ cc nL own rk d (b k) σ0 lv0 pc st0) : G S Γ cc nL own rk d (jq0 K b) σ0 lv0 pc st0 := hb K hK
def lq1 (b : (St → Int32 → Ot) → St → Int32 → Ot) : Nat → St → Int32 → Ot
  | 0 => fun _ _ => none
  | n + 1 => b (lq1 b n)
def jq1 (K : St → Int32 → Ot) (b : (St → Int32 → Ot) → Ot) : Ot := b K
theorem g_lq1 {S : Gs} {Γ : Gm} {cc : ByteArray} {nL : Nat} {own : String} {rk : Option FieldType} {d : Nat} {pc : Nat} {b : (St → Int32 → Ot) → St → Int32 → Ot} {lf : Int32 → List (Nat × Value)} {sf : Int32 → List Value} (h : ∀ k : St → Int32 → Ot, (∀ (σ : St) (x1 : Int32), G S Γ cc nL own rk d (k σ x1) σ (lf x1) pc (sf x1)) → ∀ (σ : St) (x1 : Int32), G S Γ cc nL own rk d (b k σ x1) σ (lf x1) pc (sf x1)) (n : Nat) : ∀ (σ : St) (x1 : Int32), G S Γ cc nL own rk d (lq1 b n σ x1) σ (lf x1) pc (sf x1) := by
  induction n with
  | zero => intro σ x1; exact g_none
  | succ n ih => exact h _ ih
theorem g_jq1 {S : Gs} {Γ : Gm} {cc : ByteArray} {nL : Nat} {own : String} {rk : Option FieldType} {d : Nat} {pc pc2 : Nat} {σ0 : St} {lv0 : List (Nat × Value)} {st0 : List Value} {K : St → Int32 → Ot} {b : (St → Int32 → Ot) → Ot} {lf : Int32 → List (Nat × Value)} {sf : Int32 → List Value} (hK : ∀ (σ : St) (x1 : Int32), G S Γ cc nL own rk d (K σ x1) σ (lf x1) pc2 (sf x1)) (hb : ∀ k : St → Int32 → Ot, (∀ (σ : St) (x1 : Int32), G S Γ cc nL own rk d (k σ x1) σ (lf x1) pc2 (sf x1)) → G S Γ cc nL own rk d (b k) σ0 lv0 pc st0) : G S Γ cc nL own rk d (jq1 K b) σ0 lv0 pc st0 := hb K hK
def lq2 (b : (St → Int32 → Int32 → Ot) → St → Int32 → Int32 → Ot) : Nat → St → Int32 → Int32 → Ot
  | 0 => fun _ _ _ => none
  | n + 1 => b (lq2 b n)
def jq2 (K : St → Int32 → Int32 → Ot) (b : (St → Int32 → Int32 → Ot) → Ot) : Ot := b K
theorem g_lq2 {S : Gs} {Γ : Gm} {cc : ByteArray} {nL : Nat} {own : String} {rk : Option FieldType} {d : Nat} {pc : Nat} {b : (St → Int32 → Int32 → Ot) → St → Int32 → Int32 → Ot} {lf : Int32 → Int32 → List (Nat × Value)} {sf : Int32 → Int32 → List Value} (h : ∀ k : St → Int32 → Int32 → Ot, (∀ (σ : St) (x1 x2 : Int32), G S Γ cc nL own rk d (k σ x1 x2) σ (lf x1 x2) pc (sf x1 x2)) → ∀ (σ : St) (x1 x2 : Int32), G S Γ cc nL own rk d (b k σ x1 x2) σ (lf x1 x2) pc (sf x1 x2)) (n : Nat) : ∀ (σ : St) (x1 x2 : Int32), G S Γ cc nL own rk d (lq2 b n σ x1 x2) σ (lf x1 x2) pc (sf x1 x2) := by
  induction n with
  | zero => intro σ x1 x2; exact g_none
  | succ n ih => exact h _ ih
theorem g_jq2 {S : Gs} {Γ : Gm} {cc : ByteArray} {nL : Nat} {own : String} {rk : Option FieldType} {d : Nat} {pc pc2 : Nat} {σ0 : St} {lv0 : List (Nat × Value)} {st0 : List Value} {K : St → Int32 → Int32 → Ot} {b : (St → Int32 → Int32 → Ot) → Ot} {lf : Int32 → Int32 → List (Nat × Value)} {sf : Int32 → Int32 → List Value} (hK : ∀ (σ : St) (x1 x2 : Int32), G S Γ cc nL own rk d (K σ x1 x2) σ (lf x1 x2) pc2 (sf x1 x2)) (hb : ∀ k : St → Int32 → Int32 → Ot, (∀ (σ : St) (x1 x2 : Int32), G S Γ cc nL own rk d (k σ x1 x2) σ (lf x1 x2) pc2 (sf x1 x2)) → G S Γ cc nL own rk d (b k) σ0 lv0 pc st0) : G S Γ cc nL own rk d (jq2 K b) σ0 lv0 pc st0 := hb K hK
def lq3 (b : (St → Int32 → Int32 → Int32 → Ot) → St → Int32 → Int32 → Int32 → Ot) : Nat → St → Int32 → Int32 → Int32 → Ot
  | 0 => fun _ _ _ _ => none
  | n + 1 => b (lq3 b n)
def jq3 (K : St → Int32 → Int32 → Int32 → Ot) (b : (St → Int32 → Int32 → Int32 → Ot) → Ot) : Ot := b K
theorem g_lq3 {S : Gs} {Γ : Gm} {cc : ByteArray} {nL : Nat} {own : String} {rk : Option FieldType} {d : Nat} {pc : Nat} {b : (St → Int32 → Int32 → Int32 → Ot) → St → Int32 → Int32 → Int32 → Ot} {lf : Int32 → Int32 → Int32 → List (Nat × Value)} {sf : Int32 → Int32 → Int32 → List Value} (h : ∀ k : St → Int32 → Int32 → Int32 → Ot, (∀ (σ : St) (x1 x2 x3 : Int32), G S Γ cc nL own rk d (k σ x1 x2 x3) σ (lf x1 x2 x3) pc (sf x1 x2 x3)) → ∀ (σ : St) (x1 x2 x3 : Int32), G S Γ cc nL own rk d (b k σ x1 x2 x3) σ (lf x1 x2 x3) pc (sf x1 x2 x3)) (n : Nat) : ∀ (σ : St) (x1 x2 x3 : Int32), G S Γ cc nL own rk d (lq3 b n σ x1 x2 x3) σ (lf x1 x2 x3) pc (sf x1 x2 x3) := by
  induction n with
  | zero => intro σ x1 x2 x3; exact g_none
  | succ n ih => exact h _ ih
theorem g_jq3 {S : Gs} {Γ : Gm} {cc : ByteArray} {nL : Nat} {own : String} {rk : Option FieldType} {d : Nat} {pc pc2 : Nat} {σ0 : St} {lv0 : List (Nat × Value)} {st0 : List Value} {K : St → Int32 → Int32 → Int32 → Ot} {b : (St → Int32 → Int32 → Int32 → Ot) → Ot} {lf : Int32 → Int32 → Int32 → List (Nat × Value)} {sf : Int32 → Int32 → Int32 → List Value} (hK : ∀ (σ : St) (x1 x2 x3 : Int32), G S Γ cc nL own rk d (K σ x1 x2 x3) σ (lf x1 x2 x3) pc2 (sf x1 x2 x3)) (hb : ∀ k : St → Int32 → Int32 → Int32 → Ot, (∀ (σ : St) (x1 x2 x3 : Int32), G S Γ cc nL own rk d (k σ x1 x2 x3) σ (lf x1 x2 x3) pc2 (sf x1 x2 x3)) → G S Γ cc nL own rk d (b k) σ0 lv0 pc st0) : G S Γ cc nL own rk d (jq3 K b) σ0 lv0 pc st0 := hb K hK
def lq4 (b : (St → Int32 → Int32 → Int32 → Int32 → Ot) → St → Int32 → Int32 → Int32 → Int32 → Ot) : Nat → St → Int32 → Int32 → Int32 → Int32 → Ot
  | 0 => fun _ _ _ _ _ => none
  | n + 1 => b (lq4 b n)
def jq4 (K : St → Int32 → Int32 → Int32 → Int32 → Ot) (b : (St → Int32 → Int32 → Int32 → Int32 → Ot) → Ot) : Ot := b K
theorem g_lq4 {S : Gs} {Γ : Gm} {cc : ByteArray} {nL : Nat} {own : String} {rk : Option FieldType} {d : Nat} {pc : Nat} {b : (St → Int32 → Int32 → Int32 → Int32 → Ot) → St → Int32 → Int32 → Int32 → Int32 → Ot} {lf : Int32 → Int32 → Int32 → Int32 → List (Nat × Value)} {sf : Int32 → Int32 → Int32 → Int32 → List Value} (h : ∀ k : St → Int32 → Int32 → Int32 → Int32 → Ot, (∀ (σ : St) (x1 x2 x3 x4 : Int32), G S Γ cc nL own rk d (k σ x1 x2 x3 x4) σ (lf x1 x2 x3 x4) pc (sf x1 x2 x3 x4)) → ∀ (σ : St) (x1 x2 x3 x4 : Int32), G S Γ cc nL own rk d (b k σ x1 x2 x3 x4) σ (lf x1 x2 x3 x4) pc (sf x1 x2 x3 x4)) (n : Nat) : ∀ (σ : St) (x1 x2 x3 x4 : Int32), G S Γ cc nL own rk d (lq4 b n σ x1 x2 x3 x4) σ (lf x1 x2 x3 x4) pc (sf x1 x2 x3 x4) := by
  induction n with
  | zero => intro σ x1 x2 x3 x4; exact g_none
  | succ n ih => exact h _ ih
theorem g_jq4 {S : Gs} {Γ : Gm} {cc : ByteArray} {nL : Nat} {own : String} {rk : Option FieldType} {d : Nat} {pc pc2 : Nat} {σ0 : St} {lv0 : List (Nat × Value)} {st0 : List Value} {K : St → Int32 → Int32 → Int32 → Int32 → Ot} {b : (St → Int32 → Int32 → Int32 → Int32 → Ot) → Ot} {lf : Int32 → Int32 → Int32 → Int32 → List (Nat × Value)} {sf : Int32 → Int32 → Int32 → Int32 → List Value} (hK : ∀ (σ : St) (x1 x2 x3 x4 : Int32), G S Γ cc nL own rk d (K σ x1 x2 x3 x4) σ (lf x1 x2 x3 x4) pc2 (sf x1 x2 x3 x4)) (hb : ∀ k : St → Int32 → Int32 → Int32 → Int32 → Ot, (∀ (σ : St) (x1 x2 x3 x4 : Int32), G S Γ cc nL own rk d (k σ x1 x2 x3 x4) σ (lf x1 x2 x3 x4) pc2 (sf x1 x2 x3 x4)) → G S Γ cc nL own rk d (b k) σ0 lv0 pc st0) : G S Γ cc nL own rk d (jq4 K b) σ0 lv0 pc st0 := hb K hK
def lq5 (b : (St → Int32 → Int32 → Int32 → Int32 → Int32 → Ot) → St → Int32 → Int32 → Int32 → Int32 → Int32 → Ot) : Nat → St → Int32 → Int32 → Int32 → Int32 → Int32 → Ot
  | 0 => fun _ _ _ _ _ _ => none
  | n + 1 => b (lq5 b n)
def jq5 (K : St → Int32 → Int32 → Int32 → Int32 → Int32 → Ot) (b : (St → Int32 → Int32 → Int32 → Int32 → Int32 → Ot) → Ot) : Ot := b K
theorem g_lq5 {S : Gs} {Γ : Gm} {cc : ByteArray} {nL : Nat} {own : String} {rk : Option FieldType} {d : Nat} {pc : Nat} {b : (St → Int32 → Int32 → Int32 → Int32 → Int32 → Ot) → St → Int32 → Int32 → Int32 → Int32 → Int32 → Ot} {lf : Int32 → Int32 → Int32 → Int32 → Int32 → List (Nat × Value)} {sf : Int32 → Int32 → Int32 → Int32 → Int32 → List Value} (h : ∀ k : St → Int32 → Int32 → Int32 → Int32 → Int32 → Ot, (∀ (σ : St) (x1 x2 x3 x4 x5 : Int32), G S Γ cc nL own rk d (k σ x1 x2 x3 x4 x5) σ (lf x1 x2 x3 x4 x5) pc (sf x1 x2 x3 x4 x5)) → ∀ (σ : St) (x1 x2 x3 x4 x5 : Int32), G S Γ cc nL own rk d (b k σ x1 x2 x3 x4 x5) σ (lf x1 x2 x3 x4 x5) pc (sf x1 x2 x3 x4 x5)) (n : Nat) : ∀ (σ : St) (x1 x2 x3 x4 x5 : Int32), G S Γ cc nL own rk d (lq5 b n σ x1 x2 x3 x4 x5) σ (lf x1 x2 x3 x4 x5) pc (sf x1 x2 x3 x4 x5) := by
  induction n with
  | zero => intro σ x1 x2 x3 x4 x5; exact g_none
  | succ n ih => exact h _ ih
theorem g_jq5 {S : Gs} {Γ : Gm} {cc : ByteArray} {nL : Nat} {own : String} {rk : Option FieldType} {d : Nat} {pc pc2 : Nat} {σ0 : St} {lv0 : List (Nat × Value)} {st0 : List Value} {K : St → Int32 → Int32 → Int32 → Int32 → Int32 → Ot} {b : (St → Int32 → Int32 → Int32 → Int32 → Int32 → Ot) → Ot} {lf : Int32 → Int32 → Int32 → Int32 → Int32 → List (Nat × Value)} {sf : Int32 → Int32 → Int32 → Int32 → Int32 → List Value} (hK : ∀ (σ : St) (x1 x2 x3 x4 x5 : Int32), G S Γ cc nL own rk d (K σ x1 x2 x3 x4 x5) σ (lf x1 x2 x3 x4 x5) pc2 (sf x1 x2 x3 x4 x5)) (hb : ∀ k : St → Int32 → Int32 → Int32 → Int32 → Int32 → Ot, (∀ (σ : St) (x1 x2 x3 x4 x5 : Int32), G S Γ cc nL own rk d (k σ x1 x2 x3 x4 x5) σ (lf x1 x2 x3 x4 x5) pc2 (sf x1 x2 x3 x4 x5)) → G S Γ cc nL own rk d (b k) σ0 lv0 pc st0) : G S Γ cc nL own rk d (jq5 K b) σ0 lv0 pc st0 := hb K hK
def lq6 (b : (St → Int32 → Int32 → Int32 → Int32 → Int32 → Int32 → Ot) → St → Int32 → Int32 → Int32 → Int32 → Int32 → Int32 → Ot) : Nat → St → Int32 → Int32 → Int32 → Int32 → Int32 → Int32 → Ot
  | 0 => fun _ _ _ _ _ _ _ => none
  | n + 1 => b (lq6 b n)
def jq6 (K : St → Int32 → Int32 → Int32 → Int32 → Int32 → Int32 → Ot) (b : (St → Int32 → Int32 → Int32 → Int32 → Int32 → Int32 → Ot) → Ot) : Ot := b K
theorem g_lq6 {S : Gs} {Γ : Gm} {cc : ByteArray} {nL : Nat} {own : String} {rk : Option FieldType} {d : Nat} {pc : Nat} {b : (St → Int32 → Int32 → Int32 → Int32 → Int32 → Int32 → Ot) → St → Int32 → Int32 → Int32 → Int32 → Int32 → Int32 → Ot} {lf : Int32 → Int32 → Int32 → Int32 → Int32 → Int32 → List (Nat × Value)} {sf : Int32 → Int32 → Int32 → Int32 → Int32 → Int32 → List Value} (h : ∀ k : St → Int32 → Int32 → Int32 → Int32 → Int32 → Int32 → Ot, (∀ (σ : St) (x1 x2 x3 x4 x5 x6 : Int32), G S Γ cc nL own rk d (k σ x1 x2 x3 x4 x5 x6) σ (lf x1 x2 x3 x4 x5 x6) pc (sf x1 x2 x3 x4 x5 x6)) → ∀ (σ : St) (x1 x2 x3 x4 x5 x6 : Int32), G S Γ cc nL own rk d (b k σ x1 x2 x3 x4 x5 x6) σ (lf x1 x2 x3 x4 x5 x6) pc (sf x1 x2 x3 x4 x5 x6)) (n : Nat) : ∀ (σ : St) (x1 x2 x3 x4 x5 x6 : Int32), G S Γ cc nL own rk d (lq6 b n σ x1 x2 x3 x4 x5 x6) σ (lf x1 x2 x3 x4 x5 x6) pc (sf x1 x2 x3 x4 x5 x6) := by
  induction n with
  | zero => intro σ x1 x2 x3 x4 x5 x6; exact g_none
  | succ n ih => exact h _ ih
theorem g_jq6 {S : Gs} {Γ : Gm} {cc : ByteArray} {nL : Nat} {own : String} {rk : Option FieldType} {d : Nat} {pc pc2 : Nat} {σ0 : St} {lv0 : List (Nat × Value)} {st0 : List Value} {K : St → Int32 → Int32 → Int32 → Int32 → Int32 → Int32 → Ot} {b : (St → Int32 → Int32 → Int32 → Int32 → Int32 → Int32 → Ot) → Ot} {lf : Int32 → Int32 → Int32 → Int32 → Int32 → Int32 → List (Nat × Value)} {sf : Int32 → Int32 → Int32 → Int32 → Int32 → Int32 → List Value} (hK : ∀ (σ : St) (x1 x2 x3 x4 x5 x6 : Int32), G S Γ cc nL own rk d (K σ x1 x2 x3 x4 x5 x6) σ (lf x1 x2 x3 x4 x5 x6) pc2 (sf x1 x2 x3 x4 x5 x6)) (hb : ∀ k : St → Int32 → Int32 → Int32 → Int32 → Int32 → Int32 → Ot, (∀ (σ : St) (x1 x2 x3 x4 x5 x6 : Int32), G S Γ cc nL own rk d (k σ x1 x2 x3 x4 x5 x6) σ (lf x1 x2 x3 x4 x5 x6) pc2 (sf x1 x2 x3 x4 x5 x6)) → G S Γ cc nL own rk d (b k) σ0 lv0 pc st0) : G S Γ cc nL own rk d (jq6 K b) σ0 lv0 pc st0 := hb K hK
def lq7 (b : (St → Int32 → Int32 → Int32 → Int32 → Int32 → Int32 → Int32 → Ot) → St → Int32 → Int32 → Int32 → Int32 → Int32 → Int32 → Int32 → Ot) : Nat → St → Int32 → Int32 → Int32 → Int32 → Int32 → Int32 → Int32 → Ot
  | 0 => fun _ _ _ _ _ _ _ _ => none
  | n + 1 => b (lq7 b n)
def jq7 (K : St → Int32 → Int32 → Int32 → Int32 → Int32 → Int32 → Int32 → Ot) (b : (St → Int32 → Int32 → Int32 → Int32 → Int32 → Int32 → Int32 → Ot) → Ot) : Ot := b K
theorem g_lq7 {S : Gs} {Γ : Gm} {cc : ByteArray} {nL : Nat} {own : String} {rk : Option FieldType} {d : Nat} {pc : Nat} {b : (St → Int32 → Int32 → Int32 → Int32 → Int32 → Int32 → Int32 → Ot) → St → Int32 → Int32 → Int32 → Int32 → Int32 → Int32 → Int32 → Ot} {lf : Int32 → Int32 → Int32 → Int32 → Int32 → Int32 → Int32 → List (Nat × Value)} {sf : Int32 → Int32 → Int32 → Int32 → Int32 → Int32 → Int32 → List Value} (h : ∀ k : St → Int32 → Int32 → Int32 → Int32 → Int32 → Int32 → Int32 → Ot, (∀ (σ : St) (x1 x2 x3 x4 x5 x6 x7 : Int32), G S Γ cc nL own rk d (k σ x1 x2 x3 x4 x5 x6 x7) σ (lf x1 x2 x3 x4 x5 x6 x7) pc (sf x1 x2 x3 x4 x5 x6 x7)) → ∀ (σ : St) (x1 x2 x3 x4 x5 x6 x7 : Int32), G S Γ cc nL own rk d (b k σ x1 x2 x3 x4 x5 x6 x7) σ (lf x1 x2 x3 x4 x5 x6 x7) pc (sf x1 x2 x3 x4 x5 x6 x7)) (n : Nat) : ∀ (σ : St) (x1 x2 x3 x4 x5 x6 x7 : Int32), G S Γ cc nL own rk d (lq7 b n σ x1 x2 x3 x4 x5 x6 x7) σ (lf x1 x2 x3 x4 x5 x6 x7) pc (sf x1 x2 x3 x4 x5 x6 x7) := by
  induction n with
  | zero => intro σ x1 x2 x3 x4 x5 x6 x7; exact g_none
  | succ n ih => exact h _ ih
theorem g_jq7 {S : Gs} {Γ : Gm} {cc : ByteArray} {nL : Nat} {own : String} {rk : Option FieldType} {d : Nat} {pc pc2 : Nat} {σ0 : St} {lv0 : List (Nat × Value)} {st0 : List Value} {K : St → Int32 → Int32 → Int32 → Int32 → Int32 → Int32 → Int32 → Ot} {b : (St → Int32 → Int32 → Int32 → Int32 → Int32 → Int32 → Int32 → Ot) → Ot} {lf : Int32 → Int32 → Int32 → Int32 → Int32 → Int32 → Int32 → List (Nat × Value)} {sf : Int32 → Int32 → Int32 → Int32 → Int32 → Int32 → Int32 → List Value} (hK : ∀ (σ : St) (x1 x2 x3 x4 x5 x6 x7 : Int32), G S Γ cc nL own rk d (K σ x1 x2 x3 x4 x5 x6 x7) σ (lf x1 x2 x3 x4 x5 x6 x7) pc2 (sf x1 x2 x3 x4 x5 x6 x7)) (hb : ∀ k : St → Int32 → Int32 → Int32 → Int32 → Int32 → Int32 → Int32 → Ot, (∀ (σ : St) (x1 x2 x3 x4 x5 x6 x7 : Int32), G S Γ cc nL own rk d (k σ x1 x2 x3 x4 x5 x6 x7) σ (lf x1 x2 x3 x4 x5 x6 x7) pc2 (sf x1 x2 x3 x4 x5 x6 x7)) → G S Γ cc nL own rk d (b k) σ0 lv0 pc st0) : G S Γ cc nL own rk d (jq7 K b) σ0 lv0 pc st0 := hb K hK
def lq8 (b : (St → Int32 → Int32 → Int32 → Int32 → Int32 → Int32 → Int32 → Int32 → Ot) → St → Int32 → Int32 → Int32 → Int32 → Int32 → Int32 → Int32 → Int32 → Ot) : Nat → St → Int32 → Int32 → Int32 → Int32 → Int32 → Int32 → Int32 → Int32 → Ot
  | 0 => fun _ _ _ _ _ _ _ _ _ => none
  | n + 1 => b (lq8 b n)
def jq8 (K : St → Int32 → Int32 → Int32 → Int32 → Int32 → Int32 → Int32 → Int32 → Ot) (b : (St → Int32 → Int32 → Int32 → Int32 → Int32 → Int32 → Int32 → Int32 → Ot) → Ot) : Ot := b K
theorem g_lq8 {S : Gs} {Γ : Gm} {cc : ByteArray} {nL : Nat} {own : String} {rk : Option FieldType} {d : Nat} {pc : Nat} {b : (St → Int32 → Int32 → Int32 → Int32 → Int32 → Int32 → Int32 → Int32 → Ot) → St → Int32 → Int32 → Int32 → Int32 → Int32 → Int32 → Int32 → Int32 → Ot} {lf : Int32 → Int32 → Int32 → Int32 → Int32 → Int32 → Int32 → Int32 → List (Nat × Value)} {sf : Int32 → Int32 → Int32 → Int32 → Int32 → Int32 → Int32 → Int32 → List Value} (h : ∀ k : St → Int32 → Int32 → Int32 → Int32 → Int32 → Int32 → Int32 → Int32 → Ot, (∀ (σ : St) (x1 x2 x3 x4 x5 x6 x7 x8 : Int32), G S Γ cc nL own rk d (k σ x1 x2 x3 x4 x5 x6 x7 x8) σ (lf x1 x2 x3 x4 x5 x6 x7 x8) pc (sf x1 x2 x3 x4 x5 x6 x7 x8)) → ∀ (σ : St) (x1 x2 x3 x4 x5 x6 x7 x8 : Int32), G S Γ cc nL own rk d (b k σ x1 x2 x3 x4 x5 x6 x7 x8) σ (lf x1 x2 x3 x4 x5 x6 x7 x8) pc (sf x1 x2 x3 x4 x5 x6 x7 x8)) (n : Nat) : ∀ (σ : St) (x1 x2 x3 x4 x5 x6 x7 x8 : Int32), G S Γ cc nL own rk d (lq8 b n σ x1 x2 x3 x4 x5 x6 x7 x8) σ (lf x1 x2 x3 x4 x5 x6 x7 x8) pc (sf x1 x2 x3 x4 x5 x6 x7 x8) := by
  induction n with
  | zero => intro σ x1 x2 x3 x4 x5 x6 x7 x8; exact g_none
  | succ n ih => exact h _ ih
theorem g_jq8 {S : Gs} {Γ : Gm} {cc : ByteArray} {nL : Nat} {own : String} {rk : Option FieldType} {d : Nat} {pc pc2 : Nat} {σ0 : St} {lv0 : List (Nat × Value)} {st0 : List Value} {K : St → Int32 → Int32 → Int32 → Int32 → Int32 → Int32 → Int32 → Int32 → Ot} {b : (St → Int32 → Int32 → Int32 → Int32 → Int32 → Int32 → Int32 → Int32 → Ot) → Ot} {lf : Int32 → Int32 → Int32 → Int32 → Int32 → Int32 → Int32 → Int32 → List (Nat × Value)} {sf : Int32 → Int32 → Int32 → Int32 → Int32 → Int32 → Int32 → Int32 → List Value} (hK : ∀ (σ : St) (x1 x2 x3 x4 x5 x6 x7 x8 : Int32), G S Γ cc nL own rk d (K σ x1 x2 x3 x4 x5 x6 x7 x8) σ (lf x1 x2 x3 x4 x5 x6 x7 x8) pc2 (sf x1 x2 x3 x4 x5 x6 x7 x8)) (hb : ∀ k : St → Int32 → Int32 → Int32 → Int32 → Int32 → Int32 → Int32 → Int32 → Ot, (∀ (σ : St) (x1 x2 x3 x4 x5 x6 x7 x8 : Int32), G S Γ cc nL own rk d (k σ x1 x2 x3 x4 x5 x6 x7 x8) σ (lf x1 x2 x3 x4 x5 x6 x7 x8) pc2 (sf x1 x2 x3 x4 x5 x6 x7 x8)) → G S Γ cc nL own rk d (b k) σ0 lv0 pc st0) : G S Γ cc nL own rk d (jq8 K b) σ0 lv0 pc st0 := hb K hK
def lq9 (b : (St → Int32 → Int32 → Int32 → Int32 → Int32 → Int32 → Int32 → Int32 → Int32 → Ot) → St → Int32 → Int32 → Int32 → Int32 → Int32 → Int32 → Int32 → Int32 → Int32 → Ot) : Nat → St → Int32 → Int32 → Int32 → Int32 → Int32 → Int32 → Int32 → Int32 → Int32 → Ot
  | 0 => fun _ _ _ _ _ _ _ _ _ _ => none
  | n + 1 => b (lq9 b n)
def jq9 (K : St → Int32 → Int32 → Int32 → Int32 → Int32 → Int32 → Int32 → Int32 → Int32 → Ot) (b : (St → Int32 → Int32 → Int32 → Int32 → Int32 → Int32 → Int32 → Int32 → Int32 → Ot) → Ot) : Ot := b K
theorem g_lq9 {S : Gs} {Γ : Gm} {cc : ByteArray} {nL : Nat} {own : String} {rk : Option FieldType} {d : Nat} {pc : Nat} {b : (St → Int32 → Int32 → Int32 → Int32 → Int32 → Int32 → Int32 → Int32 → Int32 → Ot) → St → Int32 → Int32 → Int32 → Int32 → Int32 → Int32 → Int32 → Int32 → Int32 → Ot} {lf : Int32 → Int32 → Int32 → Int32 → Int32 → Int32 → Int32 → Int32 → Int32 → List (Nat × Value)} {sf : Int32 → Int32 → Int32 → Int32 → Int32 → Int32 → Int32 → Int32 → Int32 → List Value} (h : ∀ k : St → Int32 → Int32 → Int32 → Int32 → Int32 → Int32 → Int32 → Int32 → Int32 → Ot, (∀ (σ : St) (x1 x2 x3 x4 x5 x6 x7 x8 x9 : Int32), G S Γ cc nL own rk d (k σ x1 x2 x3 x4 x5 x6 x7 x8 x9) σ (lf x1 x2 x3 x4 x5 x6 x7 x8 x9) pc (sf x1 x2 x3 x4 x5 x6 x7 x8 x9)) → ∀ (σ : St) (x1 x2 x3 x4 x5 x6 x7 x8 x9 : Int32), G S Γ cc nL own rk d (b k σ x1 x2 x3 x4 x5 x6 x7 x8 x9) σ (lf x1 x2 x3 x4 x5 x6 x7 x8 x9) pc (sf x1 x2 x3 x4 x5 x6 x7 x8 x9)) (n : Nat) : ∀ (σ : St) (x1 x2 x3 x4 x5 x6 x7 x8 x9 : Int32), G S Γ cc nL own rk d (lq9 b n σ x1 x2 x3 x4 x5 x6 x7 x8 x9) σ (lf x1 x2 x3 x4 x5 x6 x7 x8 x9) pc (sf x1 x2 x3 x4 x5 x6 x7 x8 x9) := by
  induction n with
  | zero => intro σ x1 x2 x3 x4 x5 x6 x7 x8 x9; exact g_none
  | succ n ih => exact h _ ih
theorem g_jq9 {S : Gs} {Γ : Gm} {cc : ByteArray} {nL : Nat} {own : String} {rk : Option FieldType} {d : Nat} {pc pc2 : Nat} {σ0 : St} {lv0 : List (Nat × Value)} {st0 : List Value} {K : St → Int32 → Int32 → Int32 → Int32 → Int32 → Int32 → Int32 → Int32 → Int32 → Ot} {b : (St → Int32 → Int32 → Int32 → Int32 → Int32 → Int32 → Int32 → Int32 → Int32 → Ot) → Ot} {lf : Int32 → Int32 → Int32 → Int32 → Int32 → Int32 → Int32 → Int32 → Int32 → List (Nat × Value)} {sf : Int32 → Int32 → Int32 → Int32 → Int32 → Int32 → Int32 → Int32 → Int32 → List Value} (hK : ∀ (σ : St) (x1 x2 x3 x4 x5 x6 x7 x8 x9 : Int32), G S Γ cc nL own rk d (K σ x1 x2 x3 x4 x5 x6 x7 x8 x9) σ (lf x1 x2 x3 x4 x5 x6 x7 x8 x9) pc2 (sf x1 x2 x3 x4 x5 x6 x7 x8 x9)) (hb : ∀ k : St → Int32 → Int32 → Int32 → Int32 → Int32 → Int32 → Int32 → Int32 → Int32 → Ot, (∀ (σ : St) (x1 x2 x3 x4 x5 x6 x7 x8 x9 : Int32), G S Γ cc nL own rk d (k σ x1 x2 x3 x4 x5 x6 x7 x8 x9) σ (lf x1 x2 x3 x4 x5 x6 x7 x8 x9) pc2 (sf x1 x2 x3 x4 x5 x6 x7 x8 x9)) → G S Γ cc nL own rk d (b k) σ0 lv0 pc st0) : G S Γ cc nL own rk d (jq9 K b) σ0 lv0 pc st0 := hb K hK
