/-! Constructors: a world of listed cells that grows; the judgement Cn, a rule an instruction. Written by wip/gen/mk_ctor.py. -/
def cTy (t : ClassId × ClassId × ClassId) : List (ClassId × FieldType) := [(t.1, .int), (t.2.1, .boolean), (t.2.2, .object kText)]
/-- what the tables say that no list of words keeps: the private constructors' links, the arrays of texts -/
def cN (U : State) : Prop := va_Nw (.methodLinkNest "KeyScreen$Desk" 11 y_Te_init "KeyScreen") U ∧ va_Nw (.methodLinkNest "KeyScreen$Disk" 11 y_Te_init "KeyScreen") U ∧ va_Nw (.methodLinkNest "KeyScreen$CommandLine" 11 y_Pa_init "KeyScreen") U ∧ va_AO kText U
theorem cN.warm {s U : State} (hW : s.WarmedH U.vm) (h : cN s) : cN U := ⟨va_Nw.warmM hW h.1, va_Nw.warmM hW h.2.1, va_Nw.warmM hW h.2.2.1, va_AO.moved hW.alike h.2.2.2⟩
theorem cN.calling {U : State} (g : JFrame) (mk : MethodId) (a : Array Value) (h : cN U) : cN (U.calling g mk a) := ⟨va_Nw.same rfl (u := U) (U := U.calling g mk a) rfl h.1, va_Nw.same rfl (u := U) (U := U.calling g mk a) rfl h.2.1, va_Nw.same rfl (u := U) (U := U.calling g mk a) rfl h.2.2.1, va_AO.moved (u := U) (U := U.calling g mk a) (Vm.Alike.refl U.vm) h.2.2.2⟩
def cQ (D : va_G) (t : ClassId × ClassId × ClassId) (A : Nat → Prop) (Qw : va_W → Prop) : Array Value → State → Outcome → State → Prop := fun _ st oc U =>
  (∃ ws : va_W, oc = .returned none ∧ Qw ws ∧ va_P D vwCl ws U.heap ∧ va_K D vwCl (cTy t) U ∧ va_D A ws) ∧ va_F A st U
def cC (D : va_G) (t : ClassId × ClassId × ClassId) (M : kM) (p : Program) (s : State) (m : MethodId) (args : Array Value) (meth : Method) (c : Code) (A : Nat → Prop) : Prop :=
  CallFix p m c M.2.1 M.2.2.1 s args kWS M.1 ∧ va_K D vwCl (cTy t) s ∧ meth.sig.returnType = none ∧ meth.locks = false ∧ meth.name = "<init>" ∧ cN s ∧ ∀ q, s.heap.size ≤ q → A q
def Cn (l : Launch) (D : va_G) (t : ClassId × ClassId × ClassId) (R : Room) (M : kM) (Qw : va_W → Prop) (mc ms : Nat) (pc : Nat) (lv : List (Nat × Value)) (st : List Value) (ws : va_W) (nc ns : Nat) : Prop :=
  ∀ (p : Program) (e : Env) (s : State) (m : MethodId) (args : Array Value) (below : List Frame) (meth : Method) (c : Code) (A : Nat → Prop), cC D t M p s m args meth c A →
  ∀ (ls : Array Slot) (H : Heap) (locs : List Loc), lv_has ls M.2.2.1 lv → va_P D vwCl ws H → va_D A ws → va_S A s.heap H locs →
    W p l e R s m args below meth c H locs nc ns (MQ below (cQ D t A Qw) args s mc ms A) (F0 m pc ls st)
section CR
variable {l : Launch} {D : va_G} {t : ClassId × ClassId × ClassId} {R : Room} {M : kM} {Qw : va_W → Prop} {mc ms pc nc ns : Nat} {lv : List (Nat × Value)} {st : List Value} {ws : va_W}
theorem Cn.aload_n {k : Fin 4} {x : Nat} (j : Nat) (hj : lv[j]? = some (k.val, .ref x)) (hd : decode M.2.1 pc = .ok (.aload_n k, 1)) (kk : Cn l D t R M Qw mc ms (pc + 1) lv (.ref x :: st) ws nc ns) : Cn l D t R M Qw mc ms pc lv st ws nc ns :=
  fun p e s m args below meth c A C ls H locs hL hP hD hS => lv_aload_n C.1.1 C.1.2.1 hd rfl (lv_at hL j hj) (kk p e s m args below meth c A C ls H locs hL hP hD hS)
theorem Cn.iload_n {k : Fin 4} {x : Int32} (j : Nat) (hj : lv[j]? = some (k.val, .int x)) (hd : decode M.2.1 pc = .ok (.iload_n k, 1)) (kk : Cn l D t R M Qw mc ms (pc + 1) lv (.int x :: st) ws nc ns) : Cn l D t R M Qw mc ms pc lv st ws nc ns :=
  fun p e s m args below meth c A C ls H locs hL hP hD hS => lv_iload_n C.1.1 C.1.2.1 hd rfl (lv_at hL j hj) (kk p e s m args below meth c A C ls H locs hL hP hD hS)
theorem Cn.dup {v : Value} (hv : v.category = 1) (hd : decode M.2.1 pc = .ok (.dup, 1)) (kk : Cn l D t R M Qw mc ms (pc + 1) lv (v :: v :: st) ws nc ns) : Cn l D t R M Qw mc ms pc lv (v :: st) ws nc ns :=
  fun p e s m args below meth c A C ls H locs hL hP hD hS => lv_dup C.1.1 C.1.2.1 hd hv (kk p e s m args below meth c A C ls H locs hL hP hD hS)
theorem Cn.iconst {n : Int} {v : Int32} (hv : Int32.ofInt n = v) (hd : decode M.2.1 pc = .ok (.iconst n, 1)) (kk : Cn l D t R M Qw mc ms (pc + 1) lv (.int v :: st) ws nc ns) : Cn l D t R M Qw mc ms pc lv st ws nc ns :=
  fun p e s m args below meth c A C ls H locs hL hP hD hS => lv_iconst C.1.1 C.1.2.1 hd hv (kk p e s m args below meth c A C ls H locs hL hP hD hS)
theorem Cn.bipush {n : Int} {v : Int32} (hv : (Int8.ofInt n).toInt32 = v) (hd : decode M.2.1 pc = .ok (.bipush n, 2)) (kk : Cn l D t R M Qw mc ms (pc + 2) lv (.int v :: st) ws nc ns) : Cn l D t R M Qw mc ms pc lv st ws nc ns :=
  fun p e s m args below meth c A C ls H locs hL hP hD hS => lv_bipush C.1.1 C.1.2.1 hd hv (kk p e s m args below meth c A C ls H locs hL hP hD hS)
theorem Cn.sipush {n : Int} {v : Int32} (hv : (Int16.ofInt n).toInt32 = v) (hd : decode M.2.1 pc = .ok (.sipush n, 3)) (kk : Cn l D t R M Qw mc ms (pc + 3) lv (.int v :: st) ws nc ns) : Cn l D t R M Qw mc ms pc lv st ws nc ns :=
  fun p e s m args below meth c A C ls H locs hL hP hD hS => lv_sipush C.1.1 C.1.2.1 hd hv (kk p e s m args below meth c A C ls H locs hL hP hD hS)
theorem Cn.goto {off : Int} {tgt : Nat} (ht : (pc : Int) + off = (tgt : Int)) (hd : decode M.2.1 pc = .ok (.goto off, 3)) (kk : Cn l D t R M Qw mc ms tgt lv st ws nc ns) : Cn l D t R M Qw mc ms pc lv st ws nc ns :=
  fun p e s m args below meth c A C ls H locs hL hP hD hS => lv_goto C.1.1 C.1.2.1 hd ht (kk p e s m args below meth c A C ls H locs hL hP hD hS)
theorem Cn.istore_n {k : Fin 4} {x : Int32} (lv' : List (Nat × Value)) (hl : (k.val, Value.int x) :: lv.filter (fun q => !(q.1 == k.val) && !(q.1 + 1 == k.val && q.2.category == 2)) = lv') (hi : k.val < M.2.2.1) (hd : decode M.2.1 pc = .ok (.istore_n k, 1)) (kk : Cn l D t R M Qw mc ms (pc + 1) lv' st ws nc ns) : Cn l D t R M Qw mc ms pc lv (.int x :: st) ws nc ns :=
  fun p e s m args below meth c A C ls H locs hL hP hD hS => lv_istore_n C.1.1 C.1.2.1 hd rfl hL hi hl fun ls' hL' => kk p e s m args below meth c A C ls' H locs hL' hP hD hS
theorem Cn.iinc {i : Nat} {n : Int} {x v : Int32} (lv' : List (Nat × Value)) (j : Nat) (hj : lv[j]? = some (i, .int x)) (hv : x + Int32.ofInt n = v) (hl : (i, Value.int v) :: lv.filter (fun q => !(q.1 == i) && !(q.1 + 1 == i && q.2.category == 2)) = lv') (hi : i < M.2.2.1) (hd : decode M.2.1 pc = .ok (.iinc i n, 3)) (kk : Cn l D t R M Qw mc ms (pc + 3) lv' st ws nc ns) : Cn l D t R M Qw mc ms pc lv st ws nc ns :=
  fun p e s m args below meth c A C ls H locs hL hP hD hS => lv_iinc C.1.1 C.1.2.1 hd hL hj hv hi hl fun ls' hL' => kk p e s m args below meth c A C ls' H locs hL' hP hD hS
theorem Cn.ige_t {x y : Int32} {off : Int} {tgt : Nat} (hc : y ≤ x) (ht : (pc : Int) + off = (tgt : Int)) (hd : decode M.2.1 pc = .ok (.if_icmp .ge off, 3)) (kk : Cn l D t R M Qw mc ms tgt lv st ws nc ns) : Cn l D t R M Qw mc ms pc lv (.int y :: .int x :: st) ws nc ns :=
  fun p e s m args below meth c A C ls H locs hL hP hD hS => lv_icmp_ge C.1.1 C.1.2.1 hd ht (fun _ => kk p e s m args below meth c A C ls H locs hL hP hD hS) (fun h => absurd hc h)
theorem Cn.ige_f {x y : Int32} {off : Int} {tgt : Nat} (hc : ¬ y ≤ x) (ht : (pc : Int) + off = (tgt : Int)) (hd : decode M.2.1 pc = .ok (.if_icmp .ge off, 3)) (kk : Cn l D t R M Qw mc ms (pc + 3) lv st ws nc ns) : Cn l D t R M Qw mc ms pc lv (.int y :: .int x :: st) ws nc ns :=
  fun p e s m args below meth c A C ls H locs hL hP hD hS => lv_icmp_ge C.1.1 C.1.2.1 hd ht (fun h => absurd h hc) (fun _ => kk p e s m args below meth c A C ls H locs hL hP hD hS)
theorem Cn.ifeq {x : Int32} {off : Int} {tgt : Nat} (ht : (pc : Int) + off = (tgt : Int)) (hd : decode M.2.1 pc = .ok (.ifCond .eq off, 3)) (kt : x = 0 → Cn l D t R M Qw mc ms tgt lv st ws nc ns) (kf : ¬ x = 0 → Cn l D t R M Qw mc ms (pc + 3) lv st ws nc ns) : Cn l D t R M Qw mc ms pc lv (.int x :: st) ws nc ns :=
  fun p e s m args below meth c A C ls H locs hL hP hD hS => lv_if_eq C.1.1 C.1.2.1 hd ht (fun h => kt h p e s m args below meth c A C ls H locs hL hP hD hS) (fun h => kf h p e s m args below meth c A C ls H locs hL hP hD hS)
theorem Cn.icmp_lt {x y : Int32} {off : Int} {tgt : Nat} (ht : (pc : Int) + off = (tgt : Int)) (hd : decode M.2.1 pc = .ok (.if_icmp .lt off, 3)) (kt : x < y → Cn l D t R M Qw mc ms tgt lv st ws nc ns) (kf : ¬ x < y → Cn l D t R M Qw mc ms (pc + 3) lv st ws nc ns) : Cn l D t R M Qw mc ms pc lv (.int y :: .int x :: st) ws nc ns :=
  fun p e s m args below meth c A C ls H locs hL hP hD hS => lv_icmp_lt C.1.1 C.1.2.1 hd ht (fun h => kt h p e s m args below meth c A C ls H locs hL hP hD hS) (fun h => kf h p e s m args below meth c A C ls H locs hL hP hD hS)
theorem Cn.icmp_gt {x y : Int32} {off : Int} {tgt : Nat} (ht : (pc : Int) + off = (tgt : Int)) (hd : decode M.2.1 pc = .ok (.if_icmp .gt off, 3)) (kt : y < x → Cn l D t R M Qw mc ms tgt lv st ws nc ns) (kf : ¬ y < x → Cn l D t R M Qw mc ms (pc + 3) lv st ws nc ns) : Cn l D t R M Qw mc ms pc lv (.int y :: .int x :: st) ws nc ns :=
  fun p e s m args below meth c A C ls H locs hL hP hD hS => lv_icmp_gt C.1.1 C.1.2.1 hd ht (fun h => kt h p e s m args below meth c A C ls H locs hL hP hD hS) (fun h => kf h p e s m args below meth c A C ls H locs hL hP hD hS)
theorem Cn.obj {h0 idx : Nat} (hw1 : Cond.methodLink M.1 idx Lib.objectInit ∈ kWS) (hw2 : Cond.instanceMethod Lib.objectInit ∈ kWS) (hw3 : Cond.code Lib.objectInit ⟨#[0xb1]⟩ 1 none ∈ kWS) (hR : 1 ≤ R.frames ∧ 12 ≤ R.locals) (hd : decode M.2.1 pc = .ok (.invokespecial idx, 3)) (kk : Cn l D t R M Qw mc ms (pc + 3) lv [] ws nc ns) : Cn l D t R M Qw mc ms pc lv [.ref h0] ws nc ns := by
  intro p e s m args below meth c A C ls H locs hL hP hD hS
  exact W.objInit C.1.1 C.1.2.1 C.1.2.2.2.1 (C.1.2.2.2.2 _ hw1) (C.1.2.2.2.2 _ hw2) (C.1.2.2.2.2 _ hw3) rfl (by rw [C.1.2.2.1]; exact hL.1) rfl hd hR.1 (show 2 * 0 + 0 + 12 ≤ R.locals by omega) (kk p e s m args below meth c A C ls H locs hL hP hD hS)
theorem Cn.new {idx ci N : Nat} {C0 : String} {T : u_T} {fs : List Value} (ty : Nat → FieldType) (hc : vwCl[ci]? = some (C0, T, N)) (hin : ∀ w ∈ u_ws C0 T N, w ∈ kWS) (hty : ∀ k, k < N → parseFieldDescriptor (T k).2.2.1 = some (ty k)) (hw1 : Cond.classLink M.1 idx C0 ∈ kWS) (hw2 : Cond.instantiable C0 N ∈ kWS) (hw3 : Cond.initialized C0 ∈ kWS)
    (hfs : ∀ j, j < N → defaultValue (ty j) = vp_V fs j) (h1 : nc + 1 ≤ R.cells) (h2 : ns + N ≤ R.slots) (hd : decode M.2.1 pc = .ok (.new idx, 3)) (kk : ∀ q : Nat, Cn l D t R M Qw mc ms (pc + 3) lv (.ref q :: st) (ws ++ [(q, .inr (ci, fs))]) (nc + 1) (ns + N)) : Cn l D t R M Qw mc ms pc lv st ws nc ns := by
  intro p e s m args below meth c A C ls H locs hL hP hD hS
  exact va_new (ci := ci) (fs := fs) (C := C0) (T := T) (N := N) C.1.1 C.1.2.1 C.1.2.2.2.2 hin ty hty C.1.2.2.2.1 (C.1.2.2.2.2 _ hw1) (C.1.2.2.2.2 _ hw2) (C.1.2.2.2.2 _ hw3) C.2.1 hP hD hS C.2.2.2.2.2.2 hc hfs h1 h2 hd fun q H1 hP1 hD1 hS1 => kk q p e s m args below meth c A C ls H1 locs hL hP1 hD1 hS1
theorem c_name {s : State} {a b : ClassId} {ty : FieldType} (hty : ∀ C, ty ≠ .object C) (h1 : va_RA s a ty) (h2 : va_RA s b ty) : a = b := by
  cases ty with
  | object C => exact absurd rfl (hty C)
  | _ => exact Option.some.inj ((show s.vm.findClass _ = some a from h1).symm.trans (show s.vm.findClass _ = some b from h2))
theorem Cn.newa {atype : ArrayType} {ty : FieldType} {t0 N' : Nat} {cA : ClassId} {n : Int32} (ht0 : (cTy t)[t0]? = some (cA, ty)) (hty : newarray.typeOf atype = ty) (hno : ∀ C, ty ≠ .object C) (hdf : defaultValue ty = .int 0) (hw : Cond.arrayClass ty ∈ kWS) (hn : ¬ n < 0) (hN : n.toNatClampNeg = N') (hb : N' * componentBytes ty ≤ 536870912) (h1 : nc + 1 ≤ R.cells) (h2 : ns + N' ≤ R.slots)
    (hd : decode M.2.1 pc = .ok (.newarray atype, 2)) (kk : ∀ q : Nat, Cn l D t R M Qw mc ms (pc + 2) lv (.ref q :: st) (ws ++ [(q, .inl (cA, N', .inl fun _ => 0))]) (nc + 1) (ns + N')) : Cn l D t R M Qw mc ms pc lv (.int n :: st) ws nc ns := by
  intro p e s m args below meth c A C ls H locs hL hP hD hS
  refine va_newa (a0 := (N', .inl fun _ => 0)) C.1.1 C.1.2.1 (by rw [hty]; exact C.1.2.2.2.2 _ hw) hty C.2.1 hP hD hS C.2.2.2.2.2.2 (fun cB => ?_) hn hN hb h1 h2 hd fun q cB H1 hK1 hP1 hD1 hS1 => ?_
  · show arrV cB N' (fun _ => .int 0) = _
    rw [hdf]
  · have e1 : cB = cA := c_name hno (hK1.2 (cTy t).length (cB, ty) (by simp)).2 (C.2.1.2 t0 (cA, ty) ht0).2
    subst e1
    exact kk q p e s m args below meth c A C ls H1 locs hL hP1 hD1 hS1
theorem Cn.newq {idx N' : Nat} {n : Int32} (hw1 : Cond.classLink M.1 idx kText ∈ kWS) (hn : ¬ n < 0) (hN : n.toNatClampNeg = N') (hb : N' * 4 ≤ 536870912) (h1 : nc + 1 ≤ R.cells) (h2 : ns + N' ≤ R.slots)
    (hd : decode M.2.1 pc = .ok (.anewarray idx, 3)) (kk : ∀ q : Nat, Cn l D t R M Qw mc ms (pc + 3) lv (.ref q :: st) (ws ++ [(q, .inl (t.2.2, N', .inr (.inr (.inr (.inr (fun _ => none))))))]) (nc + 1) (ns + N')) : Cn l D t R M Qw mc ms pc lv (.int n :: st) ws nc ns := by
  intro p e s m args below meth c A C ls H locs hL hP hD hS
  refine va_newq C.1.1 C.1.2.1 C.1.2.2.2.1 (C.1.2.2.2.2 _ hw1) C.2.2.2.2.2.1.2.2.2 C.2.1 hP hD hS C.2.2.2.2.2.2 hn hN hb h1 h2 hd fun q cB H1 hK1 hP1 hD1 hS1 => ?_
  have e1 : cB = t.2.2 := by
    obtain ⟨_, _, _, _, _, z1⟩ := (hK1.2 (cTy t).length (cB, .object kText) (by simp)).2
    obtain ⟨_, _, _, _, _, z2⟩ := (C.2.1.2 2 (t.2.2, .object kText) rfl).2
    exact Option.some.inj (z1.symm.trans z2)
  subst e1
  exact kk q p e s m args below meth c A C ls H1 locs hL hP1 hD1 hS1
theorem Cn.putF {idx k j N : Nat} {C0 : String} {T : u_T} {ty : FieldType} {v : Value} {a : Nat} {fs : List Value} (q0 : Nat) (ws' : va_W) (ty0 : Nat → FieldType) (hc : vwCl[k]? = some (C0, T, N)) (hin : ∀ w ∈ u_ws C0 T N, w ∈ kWS) (hty : ∀ q, q < N → parseFieldDescriptor (T q).2.2.1 = some (ty0 q)) (hnm : ∀ a, a < N → ∀ b, b < N → a ≠ b → (T a).2.1 ≠ (T b).2.1) (hlink : Cond.fieldLink M.1 idx (T j).1 (T j).2.1 (T j).2.2.1 ∈ kWS)
    (he : ws[q0]? = some (a, .inr (k, fs))) (hj : j < N) (hfin : (T j).2.2.2 = true) (hdecl : (T j).1 = M.1) (hty1 : ty0 j = ty) (hn : narrow ty v = v) (hfit : fits ty v = true) (hl : j < fs.length) (hws : ws.set q0 (a, .inr (k, fs.set j v)) = ws') (hd : decode M.2.1 pc = .ok (.putfield idx, 3)) (kk : Cn l D t R M Qw mc ms (pc + 3) lv st ws' nc ns) : Cn l D t R M Qw mc ms pc lv (v :: .ref a :: st) ws nc ns := by
  intro p e s m args below meth c A C ls H locs hL hP hD hS
  subst hws
  exact va_putF (D := D) C.1.1 C.1.2.1 C.1.2.2.2.2 hin ty0 hty hnm C.1.2.2.2.1 C.2.1 hP hD hS q0 he hc j hj (C.1.2.2.2.2 _ hlink) (fun _ h => h) hfin C.2.2.2.2.1 hdecl (ty := ty) (by rw [hty j hj, hty1]) hn hfit hl hd fun H1 locs1 hP1 hD1 hS1 => kk p e s m args below meth c A C ls H1 locs1 hL hP1 hD1 hS1
theorem Cn.put {idx k j N : Nat} {C0 : String} {T : u_T} {ty : FieldType} {v : Value} {a : Nat} {fs : List Value} (q0 : Nat) (ws' : va_W) (ty0 : Nat → FieldType) (hc : vwCl[k]? = some (C0, T, N)) (hin : ∀ w ∈ u_ws C0 T N, w ∈ kWS) (hty : ∀ q, q < N → parseFieldDescriptor (T q).2.2.1 = some (ty0 q)) (hnm : ∀ a, a < N → ∀ b, b < N → a ≠ b → (T a).2.1 ≠ (T b).2.1) (hlink : Cond.fieldLink M.1 idx (T j).1 (T j).2.1 (T j).2.2.1 ∈ kWS)
    (he : ws[q0]? = some (a, .inr (k, fs))) (hj : j < N) (hfin : (T j).2.2.2 = false) (hty1 : ty0 j = ty) (hn : narrow ty v = v) (hfit : fits ty v = true) (hl : j < fs.length) (hws : ws.set q0 (a, .inr (k, fs.set j v)) = ws') (hd : decode M.2.1 pc = .ok (.putfield idx, 3)) (kk : Cn l D t R M Qw mc ms (pc + 3) lv st ws' nc ns) : Cn l D t R M Qw mc ms pc lv (v :: .ref a :: st) ws nc ns := by
  intro p e s m args below meth c A C ls H locs hL hP hD hS
  subst hws
  exact va_put C.1.1 C.1.2.1 C.1.2.2.2.2 hin ty0 hty hnm C.1.2.2.2.1 C.2.1 hP hD hS q0 he hc j hj (C.1.2.2.2.2 _ hlink) (fun _ h => h) hfin (ty := ty) (by rw [hty j hj, hty1]) hn hfit hl hd fun H1 locs1 hP1 hD1 hS1 => kk p e s m args below meth c A C ls H1 locs1 hL hP1 hD1 hS1
theorem Cn.get {idx k j N : Nat} {C0 : String} {T : u_T} {v : Value} {a : Nat} {fs : List Value} (q0 : Nat) (hc : vwCl[k]? = some (C0, T, N)) (hin : ∀ w ∈ u_ws C0 T N, w ∈ kWS) (hlink : Cond.fieldLink M.1 idx (T j).1 (T j).2.1 (T j).2.2.1 ∈ kWS) (he : ws[q0]? = some (a, .inr (k, fs))) (hj : j < N) (hv : fs[j]? = some v) (hd : decode M.2.1 pc = .ok (.getfield idx, 3)) (kk : Cn l D t R M Qw mc ms (pc + 3) lv (v :: st) ws nc ns) : Cn l D t R M Qw mc ms pc lv (.ref a :: st) ws nc ns :=
  fun p e s m args below meth c A C ls H locs hL hP hD hS => va_get C.1.1 C.1.2.1 C.1.2.2.2.2 hin C.1.2.2.2.1 C.2.1 hP q0 he hc j hj (C.1.2.2.2.2 _ hlink) (fun _ h => h) hv hd (kk p e s m args below meth c A C ls H locs hL hP hD hS)
theorem Cn.aast {a b q0 qk n : Nat} {fs : List Value} {f : Nat → Option Nat} {i : Int32} (ws' : va_W) (he : ws[q0]? = some (a, .inl (t.2.2, n, .inr (.inr (.inr (.inr f)))))) (hv : ws[qk]? = some (b, .inr (2, fs))) (hin : vp_in i n) (hws : ws.set q0 (a, .inl (t.2.2, n, .inr (.inr (.inr (.inr (va_up f i.toNatClampNeg (some b))))))) = ws') (hd : decode M.2.1 pc = .ok (.aastore, 1)) (kk : Cn l D t R M Qw mc ms (pc + 1) lv st ws' nc ns) : Cn l D t R M Qw mc ms pc lv (.ref b :: .int i :: .ref a :: st) ws nc ns := by
  intro p e s m args below meth c A C ls H locs hL hP hD hS
  subst hws
  exact va_astq (r := ("KeyScreen$Text", T_Te, 5)) C.1.1 C.1.2.1 C.2.1 hP hD hS q0 2 qk 2 he rfl hv rfl hin hd fun H1 locs1 hP1 hD1 hS1 => kk p e s m args below meth c A C ls H1 locs1 hL hP1 hD1 hS1
theorem Cn.iast {a q0 n : Nat} {f : Nat → Int32} {i x : Int32} (ws' : va_W) (he : ws[q0]? = some (a, .inl (t.1, n, .inl f))) (hin : vp_in i n) (hws : ws.set q0 (a, .inl (t.1, n, .inl (upd f i.toNatClampNeg x))) = ws') (hd : decode M.2.1 pc = .ok (.iastore, 1)) (kk : Cn l D t R M Qw mc ms (pc + 1) lv st ws' nc ns) : Cn l D t R M Qw mc ms pc lv (.int x :: .int i :: .ref a :: st) ws nc ns := by
  intro p e s m args below meth c A C ls H locs hL hP hD hS
  subst hws
  exact va_iast C.1.1 C.1.2.1 C.2.1 hP hD hS q0 0 he rfl hin hd fun H1 locs1 hP1 hD1 hS1 => kk p e s m args below meth c A C ls H1 locs1 hL hP1 hD1 hS1
theorem Cn.mmax {idx : Nat} {x y : Int32} (hw1 : Cond.methodLink M.1 idx Lib.Math.max.name ∈ kWS) (hw2 : Cond.static Lib.Math.max.name ∈ kWS) (hw3 : Cond.initialized "java/lang/Math" ∈ kWS) (hw4 : Cond.code Lib.Math.max.name Lib.Math.max.code 2 (some .int) ∈ kWS) (hR : 1 ≤ R.frames ∧ (st.map fun v => v.category).sum + 13 ≤ R.locals) (h1 : nc ≤ R.cells) (h2 : ns ≤ R.slots)
    (hd : decode M.2.1 pc = .ok (.invokestatic idx, 3)) (kk : Cn l D t R M Qw mc ms (pc + 3) lv (.int (if x < y then y else x) :: st) ws nc ns) : Cn l D t R M Qw mc ms pc lv (.int y :: .int x :: st) ws nc ns :=
  fun p e s m args below meth c A C ls H locs hL hP hD hS => va_mmax C.1.1 C.1.2.1 (C.1.2.2.1.trans hL.1.symm) C.1.2.2.2.1 (C.1.2.2.2.2 _ hw1) (C.1.2.2.2.2 _ hw2) (C.1.2.2.2.2 _ hw3) (C.1.2.2.2.2 _ hw4) hR.1 hR.2 h1 h2 hd (kk p e s m args below meth c A C ls H locs hL hP hD hS)
theorem Cn.vret (hq : Qw ws) (h1 : nc ≤ mc) (h2 : ns ≤ ms) (hd : decode M.2.1 pc = .ok (.return_, 1)) : Cn l D t R M Qw mc ms pc lv [] ws nc ns := by
  intro p e s m args below meth c A C ls H locs hL hP hD hS
  refine W.widen h1 h2 ?_
  exact W.vret C.1.1 C.1.2.1 C.2.2.1 (fun tt ht hW => ⟨⟨ws, rfl, hq, by rw [ht]; exact hP, va_K.moved hW.alike C.2.1, hD⟩, hS.F ht⟩) hS.2.2 hd C.2.2.2.1
/-- a constructor's contract in the world of the cells that it reaches -/
def CCall (l : Launch) (D : va_G) (t : ClassId × ClassId × ClassId) (rm : Room) (y : MethodName) (M : kM) (as : List Value) (wc : va_W) (Qw : va_W → Prop) : Prop := ∀ sz : Nat,
  Met l y (.code y M.2.1 M.2.2.1 none :: kWS) rm (va_Pc as (fun U => U.heap.size = sz ∧ va_P D vwCl wc U.heap ∧ va_K D vwCl (cTy t) U ∧ cN U ∧ va_D (fun _ => True) wc)) (cQ D t (va_A wc sz) Qw) rm.cells rm.slots (va_A wc sz)
theorem CCall.of {rm : Room} {y : MethodName} {as : List Value} {wc : va_W} (hy : plainName y.cls = true) (hy2 : y.cls = M.1) (hy3 : y.name = "<init>") (hM : M.2.2.2 = none) (hlen : (lg_sl as).length ≤ M.2.2.1) (hlv : lv_args 0 as = lv) (k : Cn l D t rm M Qw rm.cells rm.slots 0 lv [] wc 0 0) : CCall l D t rm y M as wc Qw := by
  intro sz
  refine Met.ofW (cc := M.2.1) (maxL := M.2.2.1) (ret := none) hy rfl ?_
  intro p e s m args below meth c s₁ B hml hv
  obtain ⟨rfl, rfl, hP, hK, hN, hD0⟩ := hv
  have hts := atoms_spec (ws := .code y M.2.1 M.2.2.1 none :: kWS) B.pre
  have hown : s.vm.findClass M.1 = some m.cls := by rw [← hy2]; exact findClass_of_methodNamed B.named
  have hl := lv_entry as (n := M.2.2.1) hlen
  rw [hlv] at hl
  rw [lg_entry_eq]
  exact k p e s m _ below meth c (va_A wc s.heap.size) ⟨⟨B.exec, B.bytes, hml, hown, fun w h => hts w (List.mem_cons_of_mem _ h)⟩, hK, B.returns, B.notSynchronized, (name_of_methodNamed B.named B.method).1.trans hy3, hN, fun q h => Or.inr h⟩ _ s.heap [] hl hP (hD0.self (sz := s.heap.size)) va_S.rf
theorem c_sub {ws wc : va_W} {H : Heap} {isC : List Nat} (hP : va_P D vwCl ws H) (hC : isC.map (fun i => ws[i]?) = wc.map some) : va_P D vwCl wc H := by
  intro k q hk
  have h1 : (isC.map (fun i => ws[i]?))[k]? = some (some q) := by rw [hC, List.getElem?_map, hk]; rfl
  rw [List.getElem?_map] at h1
  cases hi : isC[k]? with
  | none => rw [hi] at h1; cases h1
  | some i => rw [hi] at h1; exact hP i q (Option.some.inj h1)
theorem Cn.ofRun {p : Program} {e : Env} {s : State} {m : MethodId} {args : Array Value} {below : List Frame} {meth : Method} {c : Code} {A : Nat → Prop} {ls : Array Slot} {H : Heap} {locs : List Loc} {st0 : List Value} {a : Array Value} {rm : Room} {wc wr : va_W} {Qw' : va_W → Prop} {isC isR : List Nat}
    (C : cC D t M p s m args meth c A) (hL : lv_has ls M.2.2.1 lv) (hP : va_P D vwCl ws H) (hD : va_D A ws) (hS : va_S A s.heap H locs) (hC : isC.map (fun i => ws[i]?) = wc.map some) (hR : isR.map (fun i => ws[i]?) = wr.map some) (hn : va_nd isR = true) (hdis : ∀ i ∈ isR, i ∉ isC)
    (hr : va_Run p l e R s m args below meth c H locs nc ns rm.cells rm.slots (F0 m pc ls st0) st (cQ D t (va_A wc H.size) Qw' a) (va_A wc H.size))
    (kk : ∀ w1, Qw' w1 → Cn l D t R M Qw mc ms (pc + 3) lv st (wr ++ w1) (nc + rm.cells) (ns + rm.slots)) : W p l e R s m args below meth c H locs nc ns (MQ below (cQ D t A Qw) args s mc ms A) (F0 m pc ls st0) := by
  have hF := va_free (wc := wc) hD hS C.2.2.2.2.2.2 isC hC
  intro T hT X
  obtain ⟨v, st₀, U, T', Lc, h0, X', hLc, e1, e2, ⟨⟨w1, hv, hq, hP1, hK1, hD1⟩, hz, hk⟩, stp⟩ := hr T hT X
  rw [h0] at hz hk
  have hv' : v = none := by cases hv; rfl
  subst hv'
  rw [← e1] at hz hP1
  have hk' : ∀ q : Nat, q < H.size → ¬ va_A wc H.size q → T'.heap[q]? = H[q]? := fun q h1 h2 => by rw [e1]; exact hk q h1 h2
  obtain ⟨hPj, hDj⟩ := va_join (wr := wr) (w1 := w1) hP hD isC isR hC hR hn hdis hk' hF hP1 hD1
  have hS' : va_S A s.heap T'.heap (locs ++ Lc) := ⟨Nat.le_trans hS.1 hz, fun q h1 h2 => by rw [hk' q (Nat.lt_of_lt_of_le h1 hS.1) (fun z => h2 (hF q z))]; exact hS.2.1 q h1 h2, fun q hq => by
      rcases List.mem_append.mp hq with h | h
      · exact hS.2.2 q h
      · exact hF _ (hLc q h)⟩
  obtain ⟨t2, a1, b1⟩ := kk w1 hq p e s m args below meth c A C ls T'.heap (locs ++ Lc) hL hPj hDj hS' T' rfl X'
  exact ⟨t2, stp t2 a1, b1⟩
theorem c_pre {as : List Value} {wc : va_W} {sz : Nat} {U : State} (g : JFrame) (mk : MethodId) (a : Array Value) (h : va_Pc as (fun U => U.heap.size = sz ∧ va_P D vwCl wc U.heap ∧ va_K D vwCl (cTy t) U ∧ cN U ∧ va_D (fun _ => True) wc) a U) : va_Pc as (fun U => U.heap.size = sz ∧ va_P D vwCl wc U.heap ∧ va_K D vwCl (cTy t) U ∧ cN U ∧ va_D (fun _ => True) wc) a (U.calling g mk a) :=
  ⟨h.1, h.2.1, h.2.2.1, va_K.moved (u := U) (U := U.calling g mk a) (Vm.Alike.refl U.vm) h.2.2.2.1, cN.calling g mk a h.2.2.2.2.1, h.2.2.2.2.2⟩
theorem c_good {y : MethodName} {b : ByteArray} {n : Nat} (hc : Cond.code y b n none ∈ kWS) : GoodIn kWS (Cond.code y b n none :: kWS) := fun w h => by
  have hin : w ∈ kWS := by
    rcases List.mem_cons.mp h with rfl | h
    · exact hc
    · exact h
  exact ⟨hin, kWS_good w hin⟩
/-- new C(..): the constructor's call -/
theorem Cn.call {idx n b : Nat} {y : MethodName} {M' : kM} {rm : Room} {As : List Value} {wc wr : va_W} {Qw' : va_W → Prop} (isC isR : List Nat) (hc : CCall l D t rm y M' (.ref b :: As) wc Qw') (hcode : Cond.code y M'.2.1 M'.2.2.1 none ∈ kWS) (hw1 : Cond.methodLink M.1 idx y ∈ kWS) (hw2 : Cond.instanceMethod y ∈ kWS) (hw4 : Cond.initialized y.cls ∈ kWS) (hy1 : y.name = "<init>")
    (hdesc : y.cls ≠ "java/lang/invoke/MethodHandle" ∧ y.cls ≠ "java/lang/invoke/VarHandle" ∧ (parseMethodDescriptor y.desc).map (fun d => d.parameters.length) = some n) (hlen : As.length = n) (hC : isC.map (fun i => ws[i]?) = wc.map some) (hR : isR.map (fun i => ws[i]?) = wr.map some) (hn : va_nd isC = true ∧ va_nd isR = true) (hdis : ∀ i ∈ isR, i ∉ isC)
    (hdd : rm.frames + 1 ≤ R.frames ∧ 8 + (M'.2.2.1 + 11) + rm.locals ≤ R.locals) (hst : (st.map fun v => v.category).sum ≤ 8) (hf : nc + rm.cells ≤ R.cells ∧ ns + rm.slots ≤ R.slots) (hd : decode M.2.1 pc = .ok (.invokespecial idx, 3))
    (kk : ∀ w1, Qw' w1 → Cn l D t R M Qw mc ms (pc + 3) lv st (wr ++ w1) (nc + rm.cells) (ns + rm.slots)) : Cn l D t R M Qw mc ms pc lv (As.reverse ++ .ref b :: st) ws nc ns := by
  intro p e s m args below meth c A C ls H locs hL hP hD hS
  exact Cn.ofRun C hL hP hD hS hC hR hn.2 hdis (va_runI (As := As) (rest := st) C.1 (hc H.size) (cwI n C.1.2.2.2.2 (c_good hcode) rfl rfl rfl (C.1.2.2.2.2 _ hw4) (C.1.2.2.2.2 _ hw1) (C.1.2.2.2.2 _ hw2) hy1 hdesc hdd) ⟨fun a U g mk h => c_pre g mk a h, fun U hU hW => ⟨rfl, by rw [hU], by rw [hU]; exact c_sub hP hC, va_K.moved hW.alike C.2.1, cN.warm hW C.2.2.2.2.2.1, (hD.sub isC hn.1 hC).weaken (fun _ _ _ _ => trivial)⟩⟩ rfl hlen hL.1 rfl (lv_room hst) hd hf) kk
theorem Cn.callN {idx n b : Nat} {host : String} {y : MethodName} {M' : kM} {rm : Room} {As : List Value} {wc wr : va_W} {Qw' : va_W → Prop} (isC isR : List Nat) (hc : CCall l D t rm y M' (.ref b :: As) wc Qw') (hcode : Cond.code y M'.2.1 M'.2.2.1 none ∈ kWS) (hw1 : ∀ U, cN U → va_Nw (.methodLinkNest M.1 idx y host) U) (hw2 : Cond.instanceMethod y ∈ kWS) (hw4 : Cond.initialized y.cls ∈ kWS) (hy1 : y.name = "<init>")
    (hdesc : y.cls ≠ "java/lang/invoke/MethodHandle" ∧ y.cls ≠ "java/lang/invoke/VarHandle" ∧ (parseMethodDescriptor y.desc).map (fun d => d.parameters.length) = some n) (hlen : As.length = n) (hC : isC.map (fun i => ws[i]?) = wc.map some) (hR : isR.map (fun i => ws[i]?) = wr.map some) (hn : va_nd isC = true ∧ va_nd isR = true) (hdis : ∀ i ∈ isR, i ∉ isC)
    (hdd : rm.frames + 1 ≤ R.frames ∧ 8 + (M'.2.2.1 + 11) + rm.locals ≤ R.locals) (hst : (st.map fun v => v.category).sum ≤ 8) (hf : nc + rm.cells ≤ R.cells ∧ ns + rm.slots ≤ R.slots) (hd : decode M.2.1 pc = .ok (.invokespecial idx, 3))
    (kk : ∀ w1, Qw' w1 → Cn l D t R M Qw mc ms (pc + 3) lv st (wr ++ w1) (nc + rm.cells) (ns + rm.slots)) : Cn l D t R M Qw mc ms pc lv (As.reverse ++ .ref b :: st) ws nc ns := by
  intro p e s m args below meth c A C ls H locs hL hP hD hS
  exact Cn.ofRun C hL hP hD hS hC hR hn.2 hdis (va_runIN (As := As) (rest := st) C.1 (hc H.size) ⟨va_cnB n C.1.2.2.2.2 (c_good hcode) rfl rfl rfl (hw1 s C.2.2.2.2.2.1) (C.1.2.2.2.2 _ hw4) hdesc hdd, hy1, C.1.2.2.2.2 _ hw2⟩ ⟨fun a U g mk h => c_pre g mk a h, fun U hU hW => ⟨rfl, by rw [hU], by rw [hU]; exact c_sub hP hC, va_K.moved hW.alike C.2.1, cN.warm hW C.2.2.2.2.2.1, (hD.sub isC hn.1 hC).weaken (fun _ _ _ _ => trivial)⟩⟩ rfl hlen hL.1 rfl (lv_room hst) hd hf) kk
end CR

