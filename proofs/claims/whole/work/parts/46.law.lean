/-! The law's loop. Written by wip/gen/mk_law.py. -/
def R_law : String := "KeyScreenLaw"
def lw_P (b : Addr) (xs : List Int32) (args : Array Value) (s : State) : Prop := args = #[.ref b] ∧ s.IntsAt b xs ∧ xs.length ≤ 1537 ∧ (Jvm.Cond.and given_1 narrow_1).before args s = true
def lw_Q (_ : Array Value) (s : State) (o : Outcome) (t : State) : Prop := o = .returned (some (.int 1)) ∧ Framed s o t [] 600000 7302250
def lw_Z (below : List Frame) (a : Array Value) (s : State) : State → Prop := fun t => ∃ o, t.status = .running ∧ Ended t below o ∧ lw_Q a s o t
/-- the law's own end, with 1 on the stack, nothing written that was there before, its room as the claim has it -/
theorem lw_ret {p : Program} {l : Launch} {e : Env} {s : State} {m : MethodId} {below : List Frame} {meth : Method} {c : Code} {b : Nat} (hx : p.tables.exec = Jvm.exec) (hb : c.code = code) (hr : meth.sig.returnType = ret) (hlocks : meth.locks = false) {pc : Nat} {H : Heap} {ls : Array Slot} (hdg : decode code pc = .ok (.ireturn, 1)) : W p l e room_1 s m #[Value.ref b] below meth c H [] 600000 7302250 (lw_Z below #[Value.ref b] s) (F0 m pc ls [.int 1]) := by
  intro T hT X
  obtain ⟨fs, hret, hrun, hended, hW, hframe⟩ := X.leave (v := some (.int 1)) (hlocks := hlocks) (fun h => by rw [hr] at h; cases h)
  have hmeth' : T.vm.method? m = some meth := X.method'
  refine ⟨T.setFrames fs, ?_, .returned (some (.int 1)), hrun, hended, rfl, ⟨_, rfl⟩, hW, hframe⟩
  jvm_step X.here [X.here.top, hx, hb, hdg, hmeth', hr, ret, narrow_b1]
  (try refine ⟨rfl, ?_⟩); (try refine ⟨rfl, ?_⟩)
  first | (intro acts; rw [hret _ acts rfl rfl rfl]) | rw [hret _ _ rfl rfl rfl]
  exact Steps.refl _
def lw_At (p : Program) (s : State) (m : MethodId) (meth : Method) (c : Code) (b L : Nat) (xs : Nat → Int32) : Prop :=
  p.tables.exec = Jvm.exec ∧ c.code = code ∧ meth.sig.returnType = ret ∧ c.maxLocals = 4 ∧ s.vm.findClass R_law = some m.cls ∧ (∀ w ∈ lw_tbl, w.before #[Value.ref b] s = true) ∧ va_X b L xs s s.heap ∧ b < s.heap.size ∧ meth.locks = false ∧ (Jvm.Cond.and given_1 narrow_1).before #[Value.ref b] s = true
def lHas (G : kG) (ls : Array Slot) (L : kL) : Prop := ls.size = 4 ∧ lv_wf ls ∧ ∀ (i : Nat) (v : kV), L[i]? = some (some v) → ls[i]? = some (.val (kv G v))
/-- from here the law comes to its end with true -/
def Lw (l : Launch) (G : kG) (b Ln : Nat) (xs : Nat → Int32) (nc ns : Nat) (pc : Nat) (L : kL) (st : List kV) (σ : kS) : Prop :=
  ∀ (p : Program) (e : Env) (s : State) (m : MethodId) (below : List Frame) (meth : Method) (c : Code), lw_At p s m meth c b Ln xs → va_K G.1 vwCl (ktys G) s → kOK G → (∀ q, kA G q → s.heap.size ≤ q) → kad G (99, 0) = b →
  ∀ (ls : Array Slot) (H : Heap) (locs : List Loc), lHas G ls L → va_P G.1 vwCl (kw G σ) H → va_S (fun q => s.heap.size ≤ q) s.heap H locs →
    W p l e room_1 s m #[Value.ref b] below meth c H locs nc ns (lw_Z below #[Value.ref b] s) (F0 m pc ls (st.map (kv G)))
section LL
variable {l : Launch} {G : kG} {b Ln : Nat} {xs : Nat → Int32} {nc ns pc : Nat} {L : kL} {st : List kV} {σ : kS}
theorem lHas.kh {ls : Array Slot} (h : lHas G ls L) : lv_has ls 4 (kass G L) := by
  refine ⟨h.1, h.2.1, fun q hq => ?_⟩
  obtain ⟨i, u⟩ := q
  obtain ⟨v, h1, rfl⟩ := kass_mem.mp hq
  exact h.2.2 i v h1
theorem lHas.back {ls ls' : Array Slot} {i : Nat} {v : kV} (h0 : lHas G ls L) (h : lv_has ls' 4 ((i, kv G v) :: (kass G L).filter (fun q => !(q.1 == i) && !(q.1 + 1 == i && q.2.category == 2)))) : lHas G ls' (L.set i (some v)) := by
  refine ⟨h.1, h.2.1, fun j w hj => ?_⟩
  rw [List.getElem?_set] at hj
  by_cases e : i = j
  · subst e
    rw [if_pos rfl] at hj
    by_cases hlt : i < L.length
    · rw [if_pos hlt] at hj
      cases hj
      exact h.2.2 (i, kv G v) List.mem_cons_self
    · rw [if_neg hlt] at hj
      cases hj
  · rw [if_neg e] at hj
    refine h.2.2 (j, kv G w) (List.mem_cons_of_mem _ (List.mem_filter.mpr ⟨kass_mem.mpr ⟨w, hj, rfl⟩, ?_⟩))
    have e1 : (j == i) = false := by simpa using fun q => e q.symm
    simp [e1, kv_cat]
theorem Lw.aload_n {k : Fin 4} {x : Nat × Nat} (hl : L[k.val]? = some (some (.inr x))) (hd : decode code pc = .ok (.aload_n k, 1)) (kk : Lw l G b Ln xs nc ns (pc + 1) L (.inr x :: st) σ) : Lw l G b Ln xs nc ns pc L st σ :=
  fun p e s m below meth c C hK hok hA h99 ls H locs hL hP hS => lv_aload_n C.1 C.2.1 hd rfl (hL.2.2 _ _ hl) (kk p e s m below meth c C hK hok hA h99 ls H locs hL hP hS)
theorem Lw.iload_n {k : Fin 4} {x : Int} (hl : L[k.val]? = some (some (.inl x))) (hd : decode code pc = .ok (.iload_n k, 1)) (kk : Lw l G b Ln xs nc ns (pc + 1) L (.inl x :: st) σ) : Lw l G b Ln xs nc ns pc L st σ :=
  fun p e s m below meth c C hK hok hA h99 ls H locs hL hP hS => lv_iload_n C.1 C.2.1 hd rfl (hL.2.2 _ _ hl) (kk p e s m below meth c C hK hok hA h99 ls H locs hL hP hS)
theorem Lw.iconst {n : Int} (hd : decode code pc = .ok (.iconst n, 1)) (kk : Lw l G b Ln xs nc ns (pc + 1) L (.inl n :: st) σ) : Lw l G b Ln xs nc ns pc L st σ :=
  fun p e s m below meth c C hK hok hA h99 ls H locs hL hP hS => lv_iconst C.1 C.2.1 hd rfl (kk p e s m below meth c C hK hok hA h99 ls H locs hL hP hS)
theorem Lw.bipush {n : Int} (h1 : -128 ≤ n) (h2 : n < 128) (hd : decode code pc = .ok (.bipush n, 2)) (kk : Lw l G b Ln xs nc ns (pc + 2) L (.inl n :: st) σ) : Lw l G b Ln xs nc ns pc L st σ :=
  fun p e s m below meth c C hK hok hA h99 ls H locs hL hP hS => lv_bipush C.1 C.2.1 hd (k_i8 h1 h2) (kk p e s m below meth c C hK hok hA h99 ls H locs hL hP hS)
theorem Lw.iadd {x y : Int} (hd : decode code pc = .ok (.iadd, 1)) (kk : Lw l G b Ln xs nc ns (pc + 1) L (.inl (x + y) :: st) σ) : Lw l G b Ln xs nc ns pc L (.inl y :: .inl x :: st) σ :=
  fun p e s m below meth c C hK hok hA h99 ls H locs hL hP hS => lv_iadd C.1 C.2.1 hd (by rw [← Int32.ofInt_add]; exact kk p e s m below meth c C hK hok hA h99 ls H locs hL hP hS)
theorem Lw.isub {x y : Int} (hd : decode code pc = .ok (.isub, 1)) (kk : Lw l G b Ln xs nc ns (pc + 1) L (.inl (x - y) :: st) σ) : Lw l G b Ln xs nc ns pc L (.inl y :: .inl x :: st) σ :=
  fun p e s m below meth c C hK hok hA h99 ls H locs hL hP hS => lv_isub C.1 C.2.1 hd (by rw [← Int32.ofInt_sub]; exact kk p e s m below meth c C hK hok hA h99 ls H locs hL hP hS)
theorem Lw.iand {x y : Int} (hd : decode code pc = .ok (.iand, 1)) (kk : Lw l G b Ln xs nc ns (pc + 1) L (.inl (kand x y) :: st) σ) : Lw l G b Ln xs nc ns pc L (.inl y :: .inl x :: st) σ :=
  fun p e s m below meth c C hK hok hA h99 ls H locs hL hP hS => lv_iand C.1 C.2.1 hd (by simpa only [List.map_cons, kv, kand, Int32.ofInt_toInt] using kk p e s m below meth c C hK hok hA h99 ls H locs hL hP hS)
theorem Lw.goto {off : Int} {tgt : Nat} (ht : (pc : Int) + off = (tgt : Int)) (hd : decode code pc = .ok (.goto off, 3)) (kk : Lw l G b Ln xs nc ns tgt L st σ) : Lw l G b Ln xs nc ns pc L st σ :=
  fun p e s m below meth c C hK hok hA h99 ls H locs hL hP hS => lv_goto C.1 C.2.1 hd ht (kk p e s m below meth c C hK hok hA h99 ls H locs hL hP hS)
theorem Lw.iinc {k : Nat} {n x : Int} (hl : L[k]? = some (some (.inl x))) (hi : k < 4) (hd : decode code pc = .ok (.iinc k n, 3)) (kk : Lw l G b Ln xs nc ns (pc + 3) (L.set k (some (.inl (x + n)))) st σ) : Lw l G b Ln xs nc ns pc L st σ := by
  intro p e s m below meth c C hK hok hA h99 ls H locs hL hP hS
  have hm : (k, kv G (.inl x)) ∈ kass G L := kass_mem.mpr ⟨_, hl, rfl⟩
  obtain ⟨q, hq⟩ := List.getElem?_of_mem hm
  exact lv_iinc C.1 C.2.1 hd hL.kh hq (Int32.ofInt_add x n).symm hi rfl fun ls' hL' => kk p e s m below meth c C hK hok hA h99 ls' H locs (lHas.back (v := .inl (x + n)) hL hL') hP hS
theorem Lw.slen (hLn : Ln < 2147483648) (hd : decode code pc = .ok (.arraylength, 1)) (kk : Lw l G b Ln xs nc ns (pc + 1) L (.inl (Ln : Int) :: st) σ) : Lw l G b Ln xs nc ns pc L (.inr (99, 0) :: st) σ := by
  intro p e s m below meth c C hK hok hA h99 ls H locs hL hP hS
  have z := kk p e s m below meth c C hK hok hA h99 ls H locs hL hP hS
  show W _ _ _ _ _ _ _ _ _ _ _ _ _ _ _ (F0 m pc ls (.ref (kad G (99, 0)) :: st.map (kv G)))
  rw [h99]
  refine va_slen C.1 C.2.1 C.2.2.2.2.2.2.1 C.2.2.2.2.2.2.2.1 (fun h => absurd C.2.2.2.2.2.2.2.1 (Nat.not_lt.mpr h)) hS hd ?_
  rw [← Int32.ofInt_eq_ofNat]
  exact z
theorem Lw.sld {x : Int} (hLn : Ln < 2147483648) (hx : 0 ≤ x ∧ x < Ln) (hd : decode code pc = .ok (.iaload, 1)) (kk : Lw l G b Ln xs nc ns (pc + 1) L (.inl (xs x.toNat).toInt :: st) σ) : Lw l G b Ln xs nc ns pc L (.inl x :: .inr (99, 0) :: st) σ := by
  intro p e s m below meth c C hK hok hA h99 ls H locs hL hP hS
  have z := kk p e s m below meth c C hK hok hA h99 ls H locs hL hP hS
  show W _ _ _ _ _ _ _ _ _ _ _ _ _ _ _ (F0 m pc ls (.int (Int32.ofInt x) :: .ref (kad G (99, 0)) :: st.map (kv G)))
  rw [h99]
  refine va_sld C.1 C.2.1 C.2.2.2.2.2.2.1 C.2.2.2.2.2.2.2.1 (fun h => absurd C.2.2.2.2.2.2.2.1 (Nat.not_lt.mpr h)) hS (k_in hx hLn) hd ?_
  rw [k_nat hx hLn]
  simpa only [List.map_cons, kv, Int32.ofInt_toInt] using z
theorem Lw.gt {x y off : Int} {tgt : Nat} (hx : -2147483648 ≤ x ∧ x < 2147483648) (hy : -2147483648 ≤ y ∧ y < 2147483648) (ht : (pc : Int) + off = (tgt : Int)) (hd : decode code pc = .ok (.if_icmp .gt off, 3)) (kt : y < x → Lw l G b Ln xs nc ns tgt L st σ) (kf : ¬ y < x → Lw l G b Ln xs nc ns (pc + 3) L st σ) : Lw l G b Ln xs nc ns pc L (.inl y :: .inl x :: st) σ :=
  fun p e s m below meth c C hK hok hA h99 ls H locs hL hP hS => lv_icmp_gt C.1 C.2.1 hd ht (fun h => kt ((k_lt hy hx).mp h) p e s m below meth c C hK hok hA h99 ls H locs hL hP hS) (fun h => kf (fun q => h ((k_lt hy hx).mpr q)) p e s m below meth c C hK hok hA h99 ls H locs hL hP hS)
theorem Lw.same {x off : Int} {tgt : Nat} (ht : (pc : Int) + off = (tgt : Int)) (hd : decode code pc = .ok (.if_icmp .eq off, 3)) (kt : Lw l G b Ln xs nc ns tgt L st σ) : Lw l G b Ln xs nc ns pc L (.inl x :: .inl x :: st) σ :=
  fun p e s m below meth c C hK hok hA h99 ls H locs hL hP hS => lv_icmp_eq C.1 C.2.1 hd ht (fun _ => kt p e s m below meth c C hK hok hA h99 ls H locs hL hP hS) (fun h => absurd rfl h)
theorem Lw.tableIn {x dflt lo hi off : Int} {offs : Array Int} {len tgt : Nat} (hx : -2147483648 ≤ x ∧ x < 2147483648) (hd : decode code pc = .ok (.tableswitch dflt lo hi offs, len)) (h1 : ¬ x < lo) (h2 : ¬ hi < x) (ho : offs[(x - lo).toNat]? = some off) (ht : (pc : Int) + off = (tgt : Int)) (k : Lw l G b Ln xs nc ns tgt L st σ) : Lw l G b Ln xs nc ns pc L (.inl x :: st) σ :=
  fun p e s m below meth c C hK hok hA h99 ls H locs hL hP hS => lv_tableIn C.1 C.2.1 hd (by rw [k_toInt hx]; exact h1) (by rw [k_toInt hx]; exact h2) (by rw [k_toInt hx]; exact ho) ht (k p e s m below meth c C hK hok hA h99 ls H locs hL hP hS)
theorem Lw.ret (h1 : nc ≤ 600000) (h2 : ns ≤ 7302250) (hd : decode code pc = .ok (.ireturn, 1)) : Lw l G b Ln xs nc ns pc L [.inl 1] σ := by
  intro p e s m below meth c C hK hok hA h99 ls H locs hL hP hS
  refine W.widen h1 h2 (va_forget (fun q hq => hS.2.2 q hq) ?_)
  exact lw_ret C.1 C.2.1 C.2.2.1 C.2.2.2.2.2.2.2.2.1 hd
theorem Lw.call {idx n k i : Nat} {d' : Nat × Nat} {y : MethodName} {M' : kM} (As : List kV) {P : Int → kS → Prop} (hc : Call l G d' y M' (.inr (k, i) :: As) σ (kI P)) (hw : kCV "KeyScreenLaw" idx y M' k n) (hlen : As.length = n) (hi : (k, i) ∈ kids G) (has : ∀ v ∈ As, kOkV G v) (hdd : d'.1 + 1 ≤ room_1.frames ∧ 8 + (M'.2.2.1 + 11) + d'.2 ≤ room_1.locals) (hst : st.length ≤ 8) (hf : nc ≤ room_1.cells ∧ ns ≤ room_1.slots)
    (hd : decode code pc = .ok (.invokevirtual idx, 3)) (kk : ∀ (x : Int) (σ' : kS), P x σ' → Lw l G b Ln xs nc ns (pc + 3) L (.inl x :: st) σ') : Lw l G b Ln xs nc ns pc L (As.reverse ++ .inr (k, i) :: st) σ := by
  intro p e s m below meth c C hK hok hA h99 ls H locs hL hP hS
  obtain ⟨⟨w1, w2, w3, w4, w5⟩, w6, ⟨T, N, w7, w8⟩⟩ := hw
  obtain ⟨q, hq, hwq⟩ := kw_at hi
  have he := hwq σ
  rw [kE_o (w8 i)] at he
  have hts : ∀ w ∈ kWS, w.before #[Value.ref b] s = true := fun w h => C.2.2.2.2.2.1 w (List.mem_filter.mp h).1
  have S : CallFix p m c code 4 s #[Value.ref b] kWS "KeyScreenLaw" := ⟨C.1, C.2.1, C.2.2.2.1, C.2.2.2.2.1, hts⟩
  have hg : ∀ w ∈ ([.methodLink "KeyScreenLaw" idx y, .instanceMethod y, .selects y.cls y y, .initialized y.cls] : List Cond), w ∈ kWS := by
    intro w h
    simp only [List.mem_cons, List.not_mem_nil, or_false] at h
    rcases h with rfl | rfl | rfl | rfl <;> assumption
  have hr := va_runV (C := y.cls) (b := kad G (k, i)) (As := As.map (kv G)) (rest := st.map (kv G)) (H := H) (locs := locs) (cells := nc) (slots := ns) (g := F0 m pc ls ((As.reverse ++ .inr (k, i) :: st).map (kv G))) (below := below) (meth := meth) (e := e) (R := room_1) S (hc hok (kokR hi has)) (cwV n hts (k_good (extra := [.methodLink "KeyScreenLaw" idx y, .instanceMethod y, .selects y.cls y y, .initialized y.cls]) w1 hg) rfl rfl rfl ⟨rfl, w6⟩ hdd) ⟨fun a U g mk h => k_pre g mk a h, va_recv hK hP w7 he, fun U hU hW => ⟨by simp [kv], by rw [hU]; exact hP, va_K.moved hW.alike hK⟩⟩ rfl (by rw [List.length_map]; exact hlen) hL.1 (by simp [kv]) (lv_room (by rw [k_sum]; exact hst)) hd hf
  intro T0 hT X
  obtain ⟨v, st₀, t, T', Lc, h0, X', hLc, e1, e2, ⟨⟨r, σ', hv, ⟨x, rfl, hp⟩, hP1, hK1⟩, hz, hk⟩, stp⟩ := hr T0 hT X
  rw [h0] at hz hk
  have hv' : v = some (kri x) := by cases hv; rfl
  subst hv'
  have hS' : va_S (fun q => s.heap.size ≤ q) s.heap T'.heap (locs ++ Lc) := ⟨Nat.le_trans hS.1 (by rw [e1]; exact hz), fun q h1 h2 => by rw [e1, hk q (Nat.lt_of_lt_of_le h1 hS.1) (fun z => h2 (hA q z))]; exact hS.2.1 q h1 h2, fun q hq => by
      rcases List.mem_append.mp hq with h | h
      · exact hS.2.2 q h
      · exact hA _ (hLc q h)⟩
  obtain ⟨t2, a1, b1⟩ := kk x σ' hp p e s m below meth c C hK hok hA h99 ls T'.heap (locs ++ Lc) hL (by rw [e1]; exact hP1) hS' T' rfl X'
  exact ⟨t2, stp t2 a1, b1⟩
end LL

theorem c_Law_21 : kCV "KeyScreenLaw" 21 y_Ks_key m_Ks_key 0 1 := ⟨⟨cd_Ks_key, (kmem (i := 432) (by decide +kernel) (by decide +kernel)), (kmem (i := 433) (by decide +kernel) (by decide +kernel)), (kmem (i := 434) (by decide +kernel) (by decide +kernel)), (kmem (i := 104) (by decide +kernel) (by decide +kernel))⟩, by decide +kernel, ⟨_, _, rfl, fun _ => rfl⟩⟩
theorem c_Law_25 : kCV "KeyScreenLaw" 25 y_Rm_key m_Rm_key 9 1 := ⟨⟨cd_Rm_key, (kmem (i := 1054) (by decide +kernel) (by decide +kernel)), (kmem (i := 1055) (by decide +kernel) (by decide +kernel)), (kmem (i := 1056) (by decide +kernel) (by decide +kernel)), (kmem (i := 115) (by decide +kernel) (by decide +kernel))⟩, by decide +kernel, ⟨_, _, rfl, fun _ => rfl⟩⟩
theorem c_Law_26 : kCV "KeyScreenLaw" 26 y_Ks_resize m_Ks_resize 0 1 := ⟨⟨cd_Ks_resize, (kmem (i := 819) (by decide +kernel) (by decide +kernel)), (kmem (i := 820) (by decide +kernel) (by decide +kernel)), (kmem (i := 821) (by decide +kernel) (by decide +kernel)), (kmem (i := 104) (by decide +kernel) (by decide +kernel))⟩, by decide +kernel, ⟨_, _, rfl, fun _ => rfl⟩⟩
theorem c_Law_30 : kCV "KeyScreenLaw" 30 y_Rm_resize m_Rm_resize 9 1 := ⟨⟨cd_Rm_resize, (kmem (i := 1306) (by decide +kernel) (by decide +kernel)), (kmem (i := 1307) (by decide +kernel) (by decide +kernel)), (kmem (i := 1308) (by decide +kernel) (by decide +kernel)), (kmem (i := 115) (by decide +kernel) (by decide +kernel))⟩, by decide +kernel, ⟨_, _, rfl, fun _ => rfl⟩⟩
theorem c_Law_31 : kCV "KeyScreenLaw" 31 y_Ks_sync m_Ks_sync 0 0 := ⟨⟨cd_Ks_sync, (kmem (i := 827) (by decide +kernel) (by decide +kernel)), (kmem (i := 828) (by decide +kernel) (by decide +kernel)), (kmem (i := 829) (by decide +kernel) (by decide +kernel)), (kmem (i := 104) (by decide +kernel) (by decide +kernel))⟩, by decide +kernel, ⟨_, _, rfl, fun _ => rfl⟩⟩
theorem c_Law_35 : kCV "KeyScreenLaw" 35 y_Rm_sync m_Rm_sync 9 0 := ⟨⟨cd_Rm_sync, (kmem (i := 1298) (by decide +kernel) (by decide +kernel)), (kmem (i := 1299) (by decide +kernel) (by decide +kernel)), (kmem (i := 1300) (by decide +kernel) (by decide +kernel)), (kmem (i := 115) (by decide +kernel) (by decide +kernel))⟩, by decide +kernel, ⟨_, _, rfl, fun _ => rfl⟩⟩
theorem c_Law_36 : kCV "KeyScreenLaw" 36 y_Ks_crash m_Ks_crash 0 0 := ⟨⟨cd_Ks_crash, (kmem (i := 836) (by decide +kernel) (by decide +kernel)), (kmem (i := 837) (by decide +kernel) (by decide +kernel)), (kmem (i := 838) (by decide +kernel) (by decide +kernel)), (kmem (i := 104) (by decide +kernel) (by decide +kernel))⟩, by decide +kernel, ⟨_, _, rfl, fun _ => rfl⟩⟩
theorem c_Law_39 : kCV "KeyScreenLaw" 39 y_Rm_crash m_Rm_crash 9 0 := ⟨⟨cd_Rm_crash, (kmem (i := 1302) (by decide +kernel) (by decide +kernel)), (kmem (i := 1303) (by decide +kernel) (by decide +kernel)), (kmem (i := 1304) (by decide +kernel) (by decide +kernel)), (kmem (i := 115) (by decide +kernel) (by decide +kernel))⟩, by decide +kernel, ⟨_, _, rfl, fun _ => rfl⟩⟩
theorem c_Law_40 : kCV "KeyScreenLaw" 40 y_Ks_mode m_Ks_mode 0 0 := ⟨⟨cd_Ks_mode, (kmem (i := 852) (by decide +kernel) (by decide +kernel)), (kmem (i := 853) (by decide +kernel) (by decide +kernel)), (kmem (i := 854) (by decide +kernel) (by decide +kernel)), (kmem (i := 104) (by decide +kernel) (by decide +kernel))⟩, by decide +kernel, ⟨_, _, rfl, fun _ => rfl⟩⟩
theorem c_Law_43 : kCV "KeyScreenLaw" 43 y_Rm_mode m_Rm_mode 9 0 := ⟨⟨cd_Rm_mode, (kmem (i := 1310) (by decide +kernel) (by decide +kernel)), (kmem (i := 1311) (by decide +kernel) (by decide +kernel)), (kmem (i := 1312) (by decide +kernel) (by decide +kernel)), (kmem (i := 115) (by decide +kernel) (by decide +kernel))⟩, by decide +kernel, ⟨_, _, rfl, fun _ => rfl⟩⟩
theorem c_Law_44 : kCV "KeyScreenLaw" 44 y_Ks_lines m_Ks_lines 0 0 := ⟨⟨cd_Ks_lines, (kmem (i := 856) (by decide +kernel) (by decide +kernel)), (kmem (i := 857) (by decide +kernel) (by decide +kernel)), (kmem (i := 858) (by decide +kernel) (by decide +kernel)), (kmem (i := 104) (by decide +kernel) (by decide +kernel))⟩, by decide +kernel, ⟨_, _, rfl, fun _ => rfl⟩⟩
theorem c_Law_47 : kCV "KeyScreenLaw" 47 y_Rm_lines m_Rm_lines 9 0 := ⟨⟨cd_Rm_lines, (kmem (i := 1314) (by decide +kernel) (by decide +kernel)), (kmem (i := 1315) (by decide +kernel) (by decide +kernel)), (kmem (i := 1316) (by decide +kernel) (by decide +kernel)), (kmem (i := 115) (by decide +kernel) (by decide +kernel))⟩, by decide +kernel, ⟨_, _, rfl, fun _ => rfl⟩⟩
theorem c_Law_48 : kCV "KeyScreenLaw" 48 y_Ks_length m_Ks_length 0 1 := ⟨⟨cd_Ks_length, (kmem (i := 860) (by decide +kernel) (by decide +kernel)), (kmem (i := 861) (by decide +kernel) (by decide +kernel)), (kmem (i := 862) (by decide +kernel) (by decide +kernel)), (kmem (i := 104) (by decide +kernel) (by decide +kernel))⟩, by decide +kernel, ⟨_, _, rfl, fun _ => rfl⟩⟩
theorem c_Law_51 : kCV "KeyScreenLaw" 51 y_Rm_length m_Rm_length 9 1 := ⟨⟨cd_Rm_length, (kmem (i := 1318) (by decide +kernel) (by decide +kernel)), (kmem (i := 1319) (by decide +kernel) (by decide +kernel)), (kmem (i := 1320) (by decide +kernel) (by decide +kernel)), (kmem (i := 115) (by decide +kernel) (by decide +kernel))⟩, by decide +kernel, ⟨_, _, rfl, fun _ => rfl⟩⟩
theorem c_Law_52 : kCV "KeyScreenLaw" 52 y_Ks_letter m_Ks_letter 0 2 := ⟨⟨cd_Ks_letter, (kmem (i := 865) (by decide +kernel) (by decide +kernel)), (kmem (i := 866) (by decide +kernel) (by decide +kernel)), (kmem (i := 867) (by decide +kernel) (by decide +kernel)), (kmem (i := 104) (by decide +kernel) (by decide +kernel))⟩, by decide +kernel, ⟨_, _, rfl, fun _ => rfl⟩⟩
theorem c_Law_56 : kCV "KeyScreenLaw" 56 y_Rm_letter m_Rm_letter 9 2 := ⟨⟨cd_Rm_letter, (kmem (i := 1322) (by decide +kernel) (by decide +kernel)), (kmem (i := 1323) (by decide +kernel) (by decide +kernel)), (kmem (i := 1324) (by decide +kernel) (by decide +kernel)), (kmem (i := 115) (by decide +kernel) (by decide +kernel))⟩, by decide +kernel, ⟨_, _, rfl, fun _ => rfl⟩⟩
theorem c_Law_57 : kCV "KeyScreenLaw" 57 y_Ks_cursor m_Ks_cursor 0 0 := ⟨⟨cd_Ks_cursor, (kmem (i := 870) (by decide +kernel) (by decide +kernel)), (kmem (i := 871) (by decide +kernel) (by decide +kernel)), (kmem (i := 872) (by decide +kernel) (by decide +kernel)), (kmem (i := 104) (by decide +kernel) (by decide +kernel))⟩, by decide +kernel, ⟨_, _, rfl, fun _ => rfl⟩⟩
theorem c_Law_60 : kCV "KeyScreenLaw" 60 y_Rm_cursor m_Rm_cursor 9 0 := ⟨⟨cd_Rm_cursor, (kmem (i := 1330) (by decide +kernel) (by decide +kernel)), (kmem (i := 1331) (by decide +kernel) (by decide +kernel)), (kmem (i := 1332) (by decide +kernel) (by decide +kernel)), (kmem (i := 115) (by decide +kernel) (by decide +kernel))⟩, by decide +kernel, ⟨_, _, rfl, fun _ => rfl⟩⟩
theorem c_Law_61 : kCV "KeyScreenLaw" 61 y_Ks_buffer m_Ks_buffer 0 0 := ⟨⟨cd_Ks_buffer, (kmem (i := 874) (by decide +kernel) (by decide +kernel)), (kmem (i := 875) (by decide +kernel) (by decide +kernel)), (kmem (i := 876) (by decide +kernel) (by decide +kernel)), (kmem (i := 104) (by decide +kernel) (by decide +kernel))⟩, by decide +kernel, ⟨_, _, rfl, fun _ => rfl⟩⟩
theorem c_Law_64 : kCV "KeyScreenLaw" 64 y_Rm_buffer m_Rm_buffer 9 0 := ⟨⟨cd_Rm_buffer, (kmem (i := 1334) (by decide +kernel) (by decide +kernel)), (kmem (i := 1335) (by decide +kernel) (by decide +kernel)), (kmem (i := 1336) (by decide +kernel) (by decide +kernel)), (kmem (i := 115) (by decide +kernel) (by decide +kernel))⟩, by decide +kernel, ⟨_, _, rfl, fun _ => rfl⟩⟩
theorem c_Law_65 : kCV "KeyScreenLaw" 65 y_Ks_held m_Ks_held 0 2 := ⟨⟨cd_Ks_held, (kmem (i := 878) (by decide +kernel) (by decide +kernel)), (kmem (i := 879) (by decide +kernel) (by decide +kernel)), (kmem (i := 880) (by decide +kernel) (by decide +kernel)), (kmem (i := 104) (by decide +kernel) (by decide +kernel))⟩, by decide +kernel, ⟨_, _, rfl, fun _ => rfl⟩⟩
theorem c_Law_68 : kCV "KeyScreenLaw" 68 y_Rm_held m_Rm_held 9 2 := ⟨⟨cd_Rm_held, (kmem (i := 1338) (by decide +kernel) (by decide +kernel)), (kmem (i := 1339) (by decide +kernel) (by decide +kernel)), (kmem (i := 1340) (by decide +kernel) (by decide +kernel)), (kmem (i := 115) (by decide +kernel) (by decide +kernel))⟩, by decide +kernel, ⟨_, _, rfl, fun _ => rfl⟩⟩
theorem c_Law_69 : kCV "KeyScreenLaw" 69 y_Ks_file m_Ks_file 0 0 := ⟨⟨cd_Ks_file, (kmem (i := 882) (by decide +kernel) (by decide +kernel)), (kmem (i := 883) (by decide +kernel) (by decide +kernel)), (kmem (i := 884) (by decide +kernel) (by decide +kernel)), (kmem (i := 104) (by decide +kernel) (by decide +kernel))⟩, by decide +kernel, ⟨_, _, rfl, fun _ => rfl⟩⟩
theorem c_Law_72 : kCV "KeyScreenLaw" 72 y_Rm_file m_Rm_file 9 0 := ⟨⟨cd_Rm_file, (kmem (i := 1342) (by decide +kernel) (by decide +kernel)), (kmem (i := 1343) (by decide +kernel) (by decide +kernel)), (kmem (i := 1344) (by decide +kernel) (by decide +kernel)), (kmem (i := 115) (by decide +kernel) (by decide +kernel))⟩, by decide +kernel, ⟨_, _, rfl, fun _ => rfl⟩⟩
theorem c_Law_73 : kCV "KeyScreenLaw" 73 y_Ks_stored m_Ks_stored 0 2 := ⟨⟨cd_Ks_stored, (kmem (i := 886) (by decide +kernel) (by decide +kernel)), (kmem (i := 887) (by decide +kernel) (by decide +kernel)), (kmem (i := 888) (by decide +kernel) (by decide +kernel)), (kmem (i := 104) (by decide +kernel) (by decide +kernel))⟩, by decide +kernel, ⟨_, _, rfl, fun _ => rfl⟩⟩
theorem c_Law_76 : kCV "KeyScreenLaw" 76 y_Rm_stored m_Rm_stored 9 2 := ⟨⟨cd_Rm_stored, (kmem (i := 1346) (by decide +kernel) (by decide +kernel)), (kmem (i := 1347) (by decide +kernel) (by decide +kernel)), (kmem (i := 1348) (by decide +kernel) (by decide +kernel)), (kmem (i := 115) (by decide +kernel) (by decide +kernel))⟩, by decide +kernel, ⟨_, _, rfl, fun _ => rfl⟩⟩
theorem c_Law_77 : kCV "KeyScreenLaw" 77 y_Ks_cell m_Ks_cell 0 2 := ⟨⟨cd_Ks_cell, (kmem (i := 890) (by decide +kernel) (by decide +kernel)), (kmem (i := 891) (by decide +kernel) (by decide +kernel)), (kmem (i := 892) (by decide +kernel) (by decide +kernel)), (kmem (i := 104) (by decide +kernel) (by decide +kernel))⟩, by decide +kernel, ⟨_, _, rfl, fun _ => rfl⟩⟩
theorem c_Law_79 : kCV "KeyScreenLaw" 79 y_Rm_cell m_Rm_cell 9 2 := ⟨⟨cd_Rm_cell, (kmem (i := 1350) (by decide +kernel) (by decide +kernel)), (kmem (i := 1351) (by decide +kernel) (by decide +kernel)), (kmem (i := 1352) (by decide +kernel) (by decide +kernel)), (kmem (i := 115) (by decide +kernel) (by decide +kernel))⟩, by decide +kernel, ⟨_, _, rfl, fun _ => rfl⟩⟩
theorem c_Law_80 : kCV "KeyScreenLaw" 80 y_Ks_top m_Ks_top 0 0 := ⟨⟨cd_Ks_top, (kmem (i := 898) (by decide +kernel) (by decide +kernel)), (kmem (i := 899) (by decide +kernel) (by decide +kernel)), (kmem (i := 900) (by decide +kernel) (by decide +kernel)), (kmem (i := 104) (by decide +kernel) (by decide +kernel))⟩, by decide +kernel, ⟨_, _, rfl, fun _ => rfl⟩⟩
theorem c_Law_83 : kCV "KeyScreenLaw" 83 y_Rm_top m_Rm_top 9 0 := ⟨⟨cd_Rm_top, (kmem (i := 1354) (by decide +kernel) (by decide +kernel)), (kmem (i := 1355) (by decide +kernel) (by decide +kernel)), (kmem (i := 1356) (by decide +kernel) (by decide +kernel)), (kmem (i := 115) (by decide +kernel) (by decide +kernel))⟩, by decide +kernel, ⟨_, _, rfl, fun _ => rfl⟩⟩
theorem c_Law_84 : kCV "KeyScreenLaw" 84 y_Ks_sent m_Ks_sent 0 0 := ⟨⟨cd_Ks_sent, (kmem (i := 902) (by decide +kernel) (by decide +kernel)), (kmem (i := 903) (by decide +kernel) (by decide +kernel)), (kmem (i := 904) (by decide +kernel) (by decide +kernel)), (kmem (i := 104) (by decide +kernel) (by decide +kernel))⟩, by decide +kernel, ⟨_, _, rfl, fun _ => rfl⟩⟩
theorem c_Law_87 : kCV "KeyScreenLaw" 87 y_Rm_sent m_Rm_sent 9 0 := ⟨⟨cd_Rm_sent, (kmem (i := 1358) (by decide +kernel) (by decide +kernel)), (kmem (i := 1359) (by decide +kernel) (by decide +kernel)), (kmem (i := 1360) (by decide +kernel) (by decide +kernel)), (kmem (i := 115) (by decide +kernel) (by decide +kernel))⟩, by decide +kernel, ⟨_, _, rfl, fun _ => rfl⟩⟩
theorem lw_case_0 {l : Launch} {G : kG} {b Ln : Nat} {xs : Nat → Int32} {nc ns : Nat} {i y : Int} {σ σ1 σ2 : kS} (hLn : Ln < 2147483648) (hi : 1 ≤ i ∧ i + 2 < Ln) (hi0 : (0, 0) ∈ kids G) (hi9 : (9, 0) ∈ kids G) (hf : nc ≤ room_1.cells ∧ ns ≤ room_1.slots) (h1 : f_Ks_key (xs (i + 1).toNat).toInt σ = some (some y, σ1)) (h2 : f_Rm_key (xs (i + 1).toNat).toInt σ1 = some (some y, σ2)) (kk : Lw l G b Ln xs nc ns 438 [some (.inr (99, 0)), some (.inr (0, 0)), some (.inr (9, 0)), some (.inl i)] [] σ2) : Lw l G b Ln xs nc ns 120 [some (.inr (99, 0)), some (.inr (0, 0)), some (.inr (9, 0)), some (.inl i)] [] σ := by
  refine Lw.aload_n (k := 1) rfl (by decide +kernel) ?_
  refine Lw.aload_n (k := 0) rfl (by decide +kernel) ?_
  refine Lw.iload_n (k := 3) rfl (by decide +kernel) ?_
  refine Lw.iconst (n := 1) (by decide +kernel) ?_
  refine Lw.iadd (by decide +kernel) ?_
  refine Lw.sld hLn (by omega) (by decide +kernel) ?_
  refine Lw.call (st := []) (k := 0) (i := 0) [.inl (xs (i + 1).toNat).toInt] (E_Ks_key h1) c_Law_21 rfl hi0 (kokI (fun _ h => absurd h List.not_mem_nil)) (by decide +kernel) (Nat.le_of_ble_eq_true rfl) hf (by decide +kernel) ?_
  rintro y3 σ3 ⟨e1, e2⟩
  rw [e1, e2]
  refine Lw.aload_n (k := 2) rfl (by decide +kernel) ?_
  refine Lw.aload_n (k := 0) rfl (by decide +kernel) ?_
  refine Lw.iload_n (k := 3) rfl (by decide +kernel) ?_
  refine Lw.iconst (n := 1) (by decide +kernel) ?_
  refine Lw.iadd (by decide +kernel) ?_
  refine Lw.sld hLn (by omega) (by decide +kernel) ?_
  refine Lw.call (st := [.inl y]) (k := 9) (i := 0) [.inl (xs (i + 1).toNat).toInt] (E_Rm_key h2) c_Law_25 rfl hi9 (kokI (fun _ h => absurd h List.not_mem_nil)) (by decide +kernel) (Nat.le_of_ble_eq_true rfl) hf (by decide +kernel) ?_
  rintro y3 σ3 ⟨e1, e2⟩
  rw [e1, e2]
  exact Lw.same (off := 300) (tgt := 438) (by decide) (by decide +kernel) kk
theorem lw_case_1 {l : Launch} {G : kG} {b Ln : Nat} {xs : Nat → Int32} {nc ns : Nat} {i y : Int} {σ σ1 σ2 : kS} (hLn : Ln < 2147483648) (hi : 1 ≤ i ∧ i + 2 < Ln) (hi0 : (0, 0) ∈ kids G) (hi9 : (9, 0) ∈ kids G) (hf : nc ≤ room_1.cells ∧ ns ≤ room_1.slots) (h1 : f_Ks_resize (xs (i + 1).toNat).toInt σ = some (some y, σ1)) (h2 : f_Rm_resize (xs (i + 1).toNat).toInt σ1 = some (some y, σ2)) (kk : Lw l G b Ln xs nc ns 438 [some (.inr (99, 0)), some (.inr (0, 0)), some (.inr (9, 0)), some (.inl i)] [] σ2) : Lw l G b Ln xs nc ns 143 [some (.inr (99, 0)), some (.inr (0, 0)), some (.inr (9, 0)), some (.inl i)] [] σ := by
  refine Lw.aload_n (k := 1) rfl (by decide +kernel) ?_
  refine Lw.aload_n (k := 0) rfl (by decide +kernel) ?_
  refine Lw.iload_n (k := 3) rfl (by decide +kernel) ?_
  refine Lw.iconst (n := 1) (by decide +kernel) ?_
  refine Lw.iadd (by decide +kernel) ?_
  refine Lw.sld hLn (by omega) (by decide +kernel) ?_
  refine Lw.call (st := []) (k := 0) (i := 0) [.inl (xs (i + 1).toNat).toInt] (E_Ks_resize h1) c_Law_26 rfl hi0 (kokI (fun _ h => absurd h List.not_mem_nil)) (by decide +kernel) (Nat.le_of_ble_eq_true rfl) hf (by decide +kernel) ?_
  rintro y3 σ3 ⟨e1, e2⟩
  rw [e1, e2]
  refine Lw.aload_n (k := 2) rfl (by decide +kernel) ?_
  refine Lw.aload_n (k := 0) rfl (by decide +kernel) ?_
  refine Lw.iload_n (k := 3) rfl (by decide +kernel) ?_
  refine Lw.iconst (n := 1) (by decide +kernel) ?_
  refine Lw.iadd (by decide +kernel) ?_
  refine Lw.sld hLn (by omega) (by decide +kernel) ?_
  refine Lw.call (st := [.inl y]) (k := 9) (i := 0) [.inl (xs (i + 1).toNat).toInt] (E_Rm_resize h2) c_Law_30 rfl hi9 (kokI (fun _ h => absurd h List.not_mem_nil)) (by decide +kernel) (Nat.le_of_ble_eq_true rfl) hf (by decide +kernel) ?_
  rintro y3 σ3 ⟨e1, e2⟩
  rw [e1, e2]
  exact Lw.same (off := 277) (tgt := 438) (by decide) (by decide +kernel) kk
theorem lw_case_2 {l : Launch} {G : kG} {b Ln : Nat} {xs : Nat → Int32} {nc ns : Nat} {i y : Int} {σ σ1 σ2 : kS} (hLn : Ln < 2147483648) (hi : 1 ≤ i ∧ i + 2 < Ln) (hi0 : (0, 0) ∈ kids G) (hi9 : (9, 0) ∈ kids G) (hf : nc ≤ room_1.cells ∧ ns ≤ room_1.slots) (h1 : f_Ks_sync  σ = some (some y, σ1)) (h2 : f_Rm_sync  σ1 = some (some y, σ2)) (kk : Lw l G b Ln xs nc ns 438 [some (.inr (99, 0)), some (.inr (0, 0)), some (.inr (9, 0)), some (.inl i)] [] σ2) : Lw l G b Ln xs nc ns 166 [some (.inr (99, 0)), some (.inr (0, 0)), some (.inr (9, 0)), some (.inl i)] [] σ := by
  refine Lw.aload_n (k := 1) rfl (by decide +kernel) ?_
  refine Lw.call (st := []) (k := 0) (i := 0) [] (E_Ks_sync h1) c_Law_31 rfl hi0 (fun _ h => absurd h List.not_mem_nil) (by decide +kernel) (Nat.le_of_ble_eq_true rfl) hf (by decide +kernel) ?_
  rintro y3 σ3 ⟨e1, e2⟩
  rw [e1, e2]
  refine Lw.aload_n (k := 2) rfl (by decide +kernel) ?_
  refine Lw.call (st := [.inl y]) (k := 9) (i := 0) [] (E_Rm_sync h2) c_Law_35 rfl hi9 (fun _ h => absurd h List.not_mem_nil) (by decide +kernel) (Nat.le_of_ble_eq_true rfl) hf (by decide +kernel) ?_
  rintro y3 σ3 ⟨e1, e2⟩
  rw [e1, e2]
  exact Lw.same (off := 264) (tgt := 438) (by decide) (by decide +kernel) kk
theorem lw_case_3 {l : Launch} {G : kG} {b Ln : Nat} {xs : Nat → Int32} {nc ns : Nat} {i y : Int} {σ σ1 σ2 : kS} (hLn : Ln < 2147483648) (hi : 1 ≤ i ∧ i + 2 < Ln) (hi0 : (0, 0) ∈ kids G) (hi9 : (9, 0) ∈ kids G) (hf : nc ≤ room_1.cells ∧ ns ≤ room_1.slots) (h1 : f_Ks_crash  σ = some (some y, σ1)) (h2 : f_Rm_crash  σ1 = some (some y, σ2)) (kk : Lw l G b Ln xs nc ns 438 [some (.inr (99, 0)), some (.inr (0, 0)), some (.inr (9, 0)), some (.inl i)] [] σ2) : Lw l G b Ln xs nc ns 179 [some (.inr (99, 0)), some (.inr (0, 0)), some (.inr (9, 0)), some (.inl i)] [] σ := by
  refine Lw.aload_n (k := 1) rfl (by decide +kernel) ?_
  refine Lw.call (st := []) (k := 0) (i := 0) [] (E_Ks_crash h1) c_Law_36 rfl hi0 (fun _ h => absurd h List.not_mem_nil) (by decide +kernel) (Nat.le_of_ble_eq_true rfl) hf (by decide +kernel) ?_
  rintro y3 σ3 ⟨e1, e2⟩
  rw [e1, e2]
  refine Lw.aload_n (k := 2) rfl (by decide +kernel) ?_
  refine Lw.call (st := [.inl y]) (k := 9) (i := 0) [] (E_Rm_crash h2) c_Law_39 rfl hi9 (fun _ h => absurd h List.not_mem_nil) (by decide +kernel) (Nat.le_of_ble_eq_true rfl) hf (by decide +kernel) ?_
  rintro y3 σ3 ⟨e1, e2⟩
  rw [e1, e2]
  exact Lw.same (off := 251) (tgt := 438) (by decide) (by decide +kernel) kk
theorem lw_case_4 {l : Launch} {G : kG} {b Ln : Nat} {xs : Nat → Int32} {nc ns : Nat} {i y : Int} {σ σ1 σ2 : kS} (hLn : Ln < 2147483648) (hi : 1 ≤ i ∧ i + 2 < Ln) (hi0 : (0, 0) ∈ kids G) (hi9 : (9, 0) ∈ kids G) (hf : nc ≤ room_1.cells ∧ ns ≤ room_1.slots) (h1 : f_Ks_mode  σ = some (some y, σ1)) (h2 : f_Rm_mode  σ1 = some (some y, σ2)) (kk : Lw l G b Ln xs nc ns 438 [some (.inr (99, 0)), some (.inr (0, 0)), some (.inr (9, 0)), some (.inl i)] [] σ2) : Lw l G b Ln xs nc ns 192 [some (.inr (99, 0)), some (.inr (0, 0)), some (.inr (9, 0)), some (.inl i)] [] σ := by
  refine Lw.aload_n (k := 1) rfl (by decide +kernel) ?_
  refine Lw.call (st := []) (k := 0) (i := 0) [] (E_Ks_mode h1) c_Law_40 rfl hi0 (fun _ h => absurd h List.not_mem_nil) (by decide +kernel) (Nat.le_of_ble_eq_true rfl) hf (by decide +kernel) ?_
  rintro y3 σ3 ⟨e1, e2⟩
  rw [e1, e2]
  refine Lw.aload_n (k := 2) rfl (by decide +kernel) ?_
  refine Lw.call (st := [.inl y]) (k := 9) (i := 0) [] (E_Rm_mode h2) c_Law_43 rfl hi9 (fun _ h => absurd h List.not_mem_nil) (by decide +kernel) (Nat.le_of_ble_eq_true rfl) hf (by decide +kernel) ?_
  rintro y3 σ3 ⟨e1, e2⟩
  rw [e1, e2]
  exact Lw.same (off := 238) (tgt := 438) (by decide) (by decide +kernel) kk
theorem lw_case_5 {l : Launch} {G : kG} {b Ln : Nat} {xs : Nat → Int32} {nc ns : Nat} {i y : Int} {σ σ1 σ2 : kS} (hLn : Ln < 2147483648) (hi : 1 ≤ i ∧ i + 2 < Ln) (hi0 : (0, 0) ∈ kids G) (hi9 : (9, 0) ∈ kids G) (hf : nc ≤ room_1.cells ∧ ns ≤ room_1.slots) (h1 : f_Ks_lines  σ = some (some y, σ1)) (h2 : f_Rm_lines  σ1 = some (some y, σ2)) (kk : Lw l G b Ln xs nc ns 438 [some (.inr (99, 0)), some (.inr (0, 0)), some (.inr (9, 0)), some (.inl i)] [] σ2) : Lw l G b Ln xs nc ns 205 [some (.inr (99, 0)), some (.inr (0, 0)), some (.inr (9, 0)), some (.inl i)] [] σ := by
  refine Lw.aload_n (k := 1) rfl (by decide +kernel) ?_
  refine Lw.call (st := []) (k := 0) (i := 0) [] (E_Ks_lines h1) c_Law_44 rfl hi0 (fun _ h => absurd h List.not_mem_nil) (by decide +kernel) (Nat.le_of_ble_eq_true rfl) hf (by decide +kernel) ?_
  rintro y3 σ3 ⟨e1, e2⟩
  rw [e1, e2]
  refine Lw.aload_n (k := 2) rfl (by decide +kernel) ?_
  refine Lw.call (st := [.inl y]) (k := 9) (i := 0) [] (E_Rm_lines h2) c_Law_47 rfl hi9 (fun _ h => absurd h List.not_mem_nil) (by decide +kernel) (Nat.le_of_ble_eq_true rfl) hf (by decide +kernel) ?_
  rintro y3 σ3 ⟨e1, e2⟩
  rw [e1, e2]
  exact Lw.same (off := 225) (tgt := 438) (by decide) (by decide +kernel) kk
theorem lw_case_6 {l : Launch} {G : kG} {b Ln : Nat} {xs : Nat → Int32} {nc ns : Nat} {i y : Int} {σ σ1 σ2 : kS} (hLn : Ln < 2147483648) (hi : 1 ≤ i ∧ i + 2 < Ln) (hi0 : (0, 0) ∈ kids G) (hi9 : (9, 0) ∈ kids G) (hf : nc ≤ room_1.cells ∧ ns ≤ room_1.slots) (h1 : f_Ks_length (xs (i + 1).toNat).toInt σ = some (some y, σ1)) (h2 : f_Rm_length (xs (i + 1).toNat).toInt σ1 = some (some y, σ2)) (kk : Lw l G b Ln xs nc ns 438 [some (.inr (99, 0)), some (.inr (0, 0)), some (.inr (9, 0)), some (.inl i)] [] σ2) : Lw l G b Ln xs nc ns 218 [some (.inr (99, 0)), some (.inr (0, 0)), some (.inr (9, 0)), some (.inl i)] [] σ := by
  refine Lw.aload_n (k := 1) rfl (by decide +kernel) ?_
  refine Lw.aload_n (k := 0) rfl (by decide +kernel) ?_
  refine Lw.iload_n (k := 3) rfl (by decide +kernel) ?_
  refine Lw.iconst (n := 1) (by decide +kernel) ?_
  refine Lw.iadd (by decide +kernel) ?_
  refine Lw.sld hLn (by omega) (by decide +kernel) ?_
  refine Lw.call (st := []) (k := 0) (i := 0) [.inl (xs (i + 1).toNat).toInt] (E_Ks_length h1) c_Law_48 rfl hi0 (kokI (fun _ h => absurd h List.not_mem_nil)) (by decide +kernel) (Nat.le_of_ble_eq_true rfl) hf (by decide +kernel) ?_
  rintro y3 σ3 ⟨e1, e2⟩
  rw [e1, e2]
  refine Lw.aload_n (k := 2) rfl (by decide +kernel) ?_
  refine Lw.aload_n (k := 0) rfl (by decide +kernel) ?_
  refine Lw.iload_n (k := 3) rfl (by decide +kernel) ?_
  refine Lw.iconst (n := 1) (by decide +kernel) ?_
  refine Lw.iadd (by decide +kernel) ?_
  refine Lw.sld hLn (by omega) (by decide +kernel) ?_
  refine Lw.call (st := [.inl y]) (k := 9) (i := 0) [.inl (xs (i + 1).toNat).toInt] (E_Rm_length h2) c_Law_51 rfl hi9 (kokI (fun _ h => absurd h List.not_mem_nil)) (by decide +kernel) (Nat.le_of_ble_eq_true rfl) hf (by decide +kernel) ?_
  rintro y3 σ3 ⟨e1, e2⟩
  rw [e1, e2]
  exact Lw.same (off := 202) (tgt := 438) (by decide) (by decide +kernel) kk
theorem lw_case_7 {l : Launch} {G : kG} {b Ln : Nat} {xs : Nat → Int32} {nc ns : Nat} {i y : Int} {σ σ1 σ2 : kS} (hLn : Ln < 2147483648) (hi : 1 ≤ i ∧ i + 2 < Ln) (hi0 : (0, 0) ∈ kids G) (hi9 : (9, 0) ∈ kids G) (hf : nc ≤ room_1.cells ∧ ns ≤ room_1.slots) (h1 : f_Ks_letter (xs (i + 1).toNat).toInt (xs (i + 2).toNat).toInt σ = some (some y, σ1)) (h2 : f_Rm_letter (xs (i + 1).toNat).toInt (xs (i + 2).toNat).toInt σ1 = some (some y, σ2)) (kk : Lw l G b Ln xs nc ns 438 [some (.inr (99, 0)), some (.inr (0, 0)), some (.inr (9, 0)), some (.inl i)] [] σ2) : Lw l G b Ln xs nc ns 241 [some (.inr (99, 0)), some (.inr (0, 0)), some (.inr (9, 0)), some (.inl i)] [] σ := by
  refine Lw.aload_n (k := 1) rfl (by decide +kernel) ?_
  refine Lw.aload_n (k := 0) rfl (by decide +kernel) ?_
  refine Lw.iload_n (k := 3) rfl (by decide +kernel) ?_
  refine Lw.iconst (n := 1) (by decide +kernel) ?_
  refine Lw.iadd (by decide +kernel) ?_
  refine Lw.sld hLn (by omega) (by decide +kernel) ?_
  refine Lw.aload_n (k := 0) rfl (by decide +kernel) ?_
  refine Lw.iload_n (k := 3) rfl (by decide +kernel) ?_
  refine Lw.iconst (n := 2) (by decide +kernel) ?_
  refine Lw.iadd (by decide +kernel) ?_
  refine Lw.sld hLn (by omega) (by decide +kernel) ?_
  refine Lw.call (st := []) (k := 0) (i := 0) [.inl (xs (i + 1).toNat).toInt, .inl (xs (i + 2).toNat).toInt] (E_Ks_letter h1) c_Law_52 rfl hi0 (kokI (kokI (fun _ h => absurd h List.not_mem_nil))) (by decide +kernel) (Nat.le_of_ble_eq_true rfl) hf (by decide +kernel) ?_
  rintro y3 σ3 ⟨e1, e2⟩
  rw [e1, e2]
  refine Lw.aload_n (k := 2) rfl (by decide +kernel) ?_
  refine Lw.aload_n (k := 0) rfl (by decide +kernel) ?_
  refine Lw.iload_n (k := 3) rfl (by decide +kernel) ?_
  refine Lw.iconst (n := 1) (by decide +kernel) ?_
  refine Lw.iadd (by decide +kernel) ?_
  refine Lw.sld hLn (by omega) (by decide +kernel) ?_
  refine Lw.aload_n (k := 0) rfl (by decide +kernel) ?_
  refine Lw.iload_n (k := 3) rfl (by decide +kernel) ?_
  refine Lw.iconst (n := 2) (by decide +kernel) ?_
  refine Lw.iadd (by decide +kernel) ?_
  refine Lw.sld hLn (by omega) (by decide +kernel) ?_
  refine Lw.call (st := [.inl y]) (k := 9) (i := 0) [.inl (xs (i + 1).toNat).toInt, .inl (xs (i + 2).toNat).toInt] (E_Rm_letter h2) c_Law_56 rfl hi9 (kokI (kokI (fun _ h => absurd h List.not_mem_nil))) (by decide +kernel) (Nat.le_of_ble_eq_true rfl) hf (by decide +kernel) ?_
  rintro y3 σ3 ⟨e1, e2⟩
  rw [e1, e2]
  exact Lw.same (off := 169) (tgt := 438) (by decide) (by decide +kernel) kk
theorem lw_case_8 {l : Launch} {G : kG} {b Ln : Nat} {xs : Nat → Int32} {nc ns : Nat} {i y : Int} {σ σ1 σ2 : kS} (hLn : Ln < 2147483648) (hi : 1 ≤ i ∧ i + 2 < Ln) (hi0 : (0, 0) ∈ kids G) (hi9 : (9, 0) ∈ kids G) (hf : nc ≤ room_1.cells ∧ ns ≤ room_1.slots) (h1 : f_Ks_cursor  σ = some (some y, σ1)) (h2 : f_Rm_cursor  σ1 = some (some y, σ2)) (kk : Lw l G b Ln xs nc ns 438 [some (.inr (99, 0)), some (.inr (0, 0)), some (.inr (9, 0)), some (.inl i)] [] σ2) : Lw l G b Ln xs nc ns 274 [some (.inr (99, 0)), some (.inr (0, 0)), some (.inr (9, 0)), some (.inl i)] [] σ := by
  refine Lw.aload_n (k := 1) rfl (by decide +kernel) ?_
  refine Lw.call (st := []) (k := 0) (i := 0) [] (E_Ks_cursor h1) c_Law_57 rfl hi0 (fun _ h => absurd h List.not_mem_nil) (by decide +kernel) (Nat.le_of_ble_eq_true rfl) hf (by decide +kernel) ?_
  rintro y3 σ3 ⟨e1, e2⟩
  rw [e1, e2]
  refine Lw.aload_n (k := 2) rfl (by decide +kernel) ?_
  refine Lw.call (st := [.inl y]) (k := 9) (i := 0) [] (E_Rm_cursor h2) c_Law_60 rfl hi9 (fun _ h => absurd h List.not_mem_nil) (by decide +kernel) (Nat.le_of_ble_eq_true rfl) hf (by decide +kernel) ?_
  rintro y3 σ3 ⟨e1, e2⟩
  rw [e1, e2]
  exact Lw.same (off := 156) (tgt := 438) (by decide) (by decide +kernel) kk
theorem lw_case_9 {l : Launch} {G : kG} {b Ln : Nat} {xs : Nat → Int32} {nc ns : Nat} {i y : Int} {σ σ1 σ2 : kS} (hLn : Ln < 2147483648) (hi : 1 ≤ i ∧ i + 2 < Ln) (hi0 : (0, 0) ∈ kids G) (hi9 : (9, 0) ∈ kids G) (hf : nc ≤ room_1.cells ∧ ns ≤ room_1.slots) (h1 : f_Ks_buffer  σ = some (some y, σ1)) (h2 : f_Rm_buffer  σ1 = some (some y, σ2)) (kk : Lw l G b Ln xs nc ns 438 [some (.inr (99, 0)), some (.inr (0, 0)), some (.inr (9, 0)), some (.inl i)] [] σ2) : Lw l G b Ln xs nc ns 287 [some (.inr (99, 0)), some (.inr (0, 0)), some (.inr (9, 0)), some (.inl i)] [] σ := by
  refine Lw.aload_n (k := 1) rfl (by decide +kernel) ?_
  refine Lw.call (st := []) (k := 0) (i := 0) [] (E_Ks_buffer h1) c_Law_61 rfl hi0 (fun _ h => absurd h List.not_mem_nil) (by decide +kernel) (Nat.le_of_ble_eq_true rfl) hf (by decide +kernel) ?_
  rintro y3 σ3 ⟨e1, e2⟩
  rw [e1, e2]
  refine Lw.aload_n (k := 2) rfl (by decide +kernel) ?_
  refine Lw.call (st := [.inl y]) (k := 9) (i := 0) [] (E_Rm_buffer h2) c_Law_64 rfl hi9 (fun _ h => absurd h List.not_mem_nil) (by decide +kernel) (Nat.le_of_ble_eq_true rfl) hf (by decide +kernel) ?_
  rintro y3 σ3 ⟨e1, e2⟩
  rw [e1, e2]
  exact Lw.same (off := 143) (tgt := 438) (by decide) (by decide +kernel) kk
theorem lw_case_10 {l : Launch} {G : kG} {b Ln : Nat} {xs : Nat → Int32} {nc ns : Nat} {i y : Int} {σ σ1 σ2 : kS} (hLn : Ln < 2147483648) (hi : 1 ≤ i ∧ i + 2 < Ln) (hi0 : (0, 0) ∈ kids G) (hi9 : (9, 0) ∈ kids G) (hf : nc ≤ room_1.cells ∧ ns ≤ room_1.slots) (h1 : f_Ks_held (xs (i + 1).toNat).toInt (xs (i + 2).toNat).toInt σ = some (some y, σ1)) (h2 : f_Rm_held (xs (i + 1).toNat).toInt (xs (i + 2).toNat).toInt σ1 = some (some y, σ2)) (kk : Lw l G b Ln xs nc ns 438 [some (.inr (99, 0)), some (.inr (0, 0)), some (.inr (9, 0)), some (.inl i)] [] σ2) : Lw l G b Ln xs nc ns 300 [some (.inr (99, 0)), some (.inr (0, 0)), some (.inr (9, 0)), some (.inl i)] [] σ := by
  refine Lw.aload_n (k := 1) rfl (by decide +kernel) ?_
  refine Lw.aload_n (k := 0) rfl (by decide +kernel) ?_
  refine Lw.iload_n (k := 3) rfl (by decide +kernel) ?_
  refine Lw.iconst (n := 1) (by decide +kernel) ?_
  refine Lw.iadd (by decide +kernel) ?_
  refine Lw.sld hLn (by omega) (by decide +kernel) ?_
  refine Lw.aload_n (k := 0) rfl (by decide +kernel) ?_
  refine Lw.iload_n (k := 3) rfl (by decide +kernel) ?_
  refine Lw.iconst (n := 2) (by decide +kernel) ?_
  refine Lw.iadd (by decide +kernel) ?_
  refine Lw.sld hLn (by omega) (by decide +kernel) ?_
  refine Lw.call (st := []) (k := 0) (i := 0) [.inl (xs (i + 1).toNat).toInt, .inl (xs (i + 2).toNat).toInt] (E_Ks_held h1) c_Law_65 rfl hi0 (kokI (kokI (fun _ h => absurd h List.not_mem_nil))) (by decide +kernel) (Nat.le_of_ble_eq_true rfl) hf (by decide +kernel) ?_
  rintro y3 σ3 ⟨e1, e2⟩
  rw [e1, e2]
  refine Lw.aload_n (k := 2) rfl (by decide +kernel) ?_
  refine Lw.aload_n (k := 0) rfl (by decide +kernel) ?_
  refine Lw.iload_n (k := 3) rfl (by decide +kernel) ?_
  refine Lw.iconst (n := 1) (by decide +kernel) ?_
  refine Lw.iadd (by decide +kernel) ?_
  refine Lw.sld hLn (by omega) (by decide +kernel) ?_
  refine Lw.aload_n (k := 0) rfl (by decide +kernel) ?_
  refine Lw.iload_n (k := 3) rfl (by decide +kernel) ?_
  refine Lw.iconst (n := 2) (by decide +kernel) ?_
  refine Lw.iadd (by decide +kernel) ?_
  refine Lw.sld hLn (by omega) (by decide +kernel) ?_
  refine Lw.call (st := [.inl y]) (k := 9) (i := 0) [.inl (xs (i + 1).toNat).toInt, .inl (xs (i + 2).toNat).toInt] (E_Rm_held h2) c_Law_68 rfl hi9 (kokI (kokI (fun _ h => absurd h List.not_mem_nil))) (by decide +kernel) (Nat.le_of_ble_eq_true rfl) hf (by decide +kernel) ?_
  rintro y3 σ3 ⟨e1, e2⟩
  rw [e1, e2]
  exact Lw.same (off := 110) (tgt := 438) (by decide) (by decide +kernel) kk
theorem lw_case_11 {l : Launch} {G : kG} {b Ln : Nat} {xs : Nat → Int32} {nc ns : Nat} {i y : Int} {σ σ1 σ2 : kS} (hLn : Ln < 2147483648) (hi : 1 ≤ i ∧ i + 2 < Ln) (hi0 : (0, 0) ∈ kids G) (hi9 : (9, 0) ∈ kids G) (hf : nc ≤ room_1.cells ∧ ns ≤ room_1.slots) (h1 : f_Ks_file  σ = some (some y, σ1)) (h2 : f_Rm_file  σ1 = some (some y, σ2)) (kk : Lw l G b Ln xs nc ns 438 [some (.inr (99, 0)), some (.inr (0, 0)), some (.inr (9, 0)), some (.inl i)] [] σ2) : Lw l G b Ln xs nc ns 333 [some (.inr (99, 0)), some (.inr (0, 0)), some (.inr (9, 0)), some (.inl i)] [] σ := by
  refine Lw.aload_n (k := 1) rfl (by decide +kernel) ?_
  refine Lw.call (st := []) (k := 0) (i := 0) [] (E_Ks_file h1) c_Law_69 rfl hi0 (fun _ h => absurd h List.not_mem_nil) (by decide +kernel) (Nat.le_of_ble_eq_true rfl) hf (by decide +kernel) ?_
  rintro y3 σ3 ⟨e1, e2⟩
  rw [e1, e2]
  refine Lw.aload_n (k := 2) rfl (by decide +kernel) ?_
  refine Lw.call (st := [.inl y]) (k := 9) (i := 0) [] (E_Rm_file h2) c_Law_72 rfl hi9 (fun _ h => absurd h List.not_mem_nil) (by decide +kernel) (Nat.le_of_ble_eq_true rfl) hf (by decide +kernel) ?_
  rintro y3 σ3 ⟨e1, e2⟩
  rw [e1, e2]
  exact Lw.same (off := 97) (tgt := 438) (by decide) (by decide +kernel) kk
theorem lw_case_12 {l : Launch} {G : kG} {b Ln : Nat} {xs : Nat → Int32} {nc ns : Nat} {i y : Int} {σ σ1 σ2 : kS} (hLn : Ln < 2147483648) (hi : 1 ≤ i ∧ i + 2 < Ln) (hi0 : (0, 0) ∈ kids G) (hi9 : (9, 0) ∈ kids G) (hf : nc ≤ room_1.cells ∧ ns ≤ room_1.slots) (h1 : f_Ks_stored (xs (i + 1).toNat).toInt (xs (i + 2).toNat).toInt σ = some (some y, σ1)) (h2 : f_Rm_stored (xs (i + 1).toNat).toInt (xs (i + 2).toNat).toInt σ1 = some (some y, σ2)) (kk : Lw l G b Ln xs nc ns 438 [some (.inr (99, 0)), some (.inr (0, 0)), some (.inr (9, 0)), some (.inl i)] [] σ2) : Lw l G b Ln xs nc ns 346 [some (.inr (99, 0)), some (.inr (0, 0)), some (.inr (9, 0)), some (.inl i)] [] σ := by
  refine Lw.aload_n (k := 1) rfl (by decide +kernel) ?_
  refine Lw.aload_n (k := 0) rfl (by decide +kernel) ?_
  refine Lw.iload_n (k := 3) rfl (by decide +kernel) ?_
  refine Lw.iconst (n := 1) (by decide +kernel) ?_
  refine Lw.iadd (by decide +kernel) ?_
  refine Lw.sld hLn (by omega) (by decide +kernel) ?_
  refine Lw.aload_n (k := 0) rfl (by decide +kernel) ?_
  refine Lw.iload_n (k := 3) rfl (by decide +kernel) ?_
  refine Lw.iconst (n := 2) (by decide +kernel) ?_
  refine Lw.iadd (by decide +kernel) ?_
  refine Lw.sld hLn (by omega) (by decide +kernel) ?_
  refine Lw.call (st := []) (k := 0) (i := 0) [.inl (xs (i + 1).toNat).toInt, .inl (xs (i + 2).toNat).toInt] (E_Ks_stored h1) c_Law_73 rfl hi0 (kokI (kokI (fun _ h => absurd h List.not_mem_nil))) (by decide +kernel) (Nat.le_of_ble_eq_true rfl) hf (by decide +kernel) ?_
  rintro y3 σ3 ⟨e1, e2⟩
  rw [e1, e2]
  refine Lw.aload_n (k := 2) rfl (by decide +kernel) ?_
  refine Lw.aload_n (k := 0) rfl (by decide +kernel) ?_
  refine Lw.iload_n (k := 3) rfl (by decide +kernel) ?_
  refine Lw.iconst (n := 1) (by decide +kernel) ?_
  refine Lw.iadd (by decide +kernel) ?_
  refine Lw.sld hLn (by omega) (by decide +kernel) ?_
  refine Lw.aload_n (k := 0) rfl (by decide +kernel) ?_
  refine Lw.iload_n (k := 3) rfl (by decide +kernel) ?_
  refine Lw.iconst (n := 2) (by decide +kernel) ?_
  refine Lw.iadd (by decide +kernel) ?_
  refine Lw.sld hLn (by omega) (by decide +kernel) ?_
  refine Lw.call (st := [.inl y]) (k := 9) (i := 0) [.inl (xs (i + 1).toNat).toInt, .inl (xs (i + 2).toNat).toInt] (E_Rm_stored h2) c_Law_76 rfl hi9 (kokI (kokI (fun _ h => absurd h List.not_mem_nil))) (by decide +kernel) (Nat.le_of_ble_eq_true rfl) hf (by decide +kernel) ?_
  rintro y3 σ3 ⟨e1, e2⟩
  rw [e1, e2]
  exact Lw.same (off := 64) (tgt := 438) (by decide) (by decide +kernel) kk
theorem lw_case_13 {l : Launch} {G : kG} {b Ln : Nat} {xs : Nat → Int32} {nc ns : Nat} {i y : Int} {σ σ1 σ2 : kS} (hLn : Ln < 2147483648) (hi : 1 ≤ i ∧ i + 2 < Ln) (hi0 : (0, 0) ∈ kids G) (hi9 : (9, 0) ∈ kids G) (hf : nc ≤ room_1.cells ∧ ns ≤ room_1.slots) (h1 : f_Ks_cell (xs (i + 1).toNat).toInt (xs (i + 2).toNat).toInt σ = some (some y, σ1)) (h2 : f_Rm_cell (xs (i + 1).toNat).toInt (xs (i + 2).toNat).toInt σ1 = some (some y, σ2)) (kk : Lw l G b Ln xs nc ns 438 [some (.inr (99, 0)), some (.inr (0, 0)), some (.inr (9, 0)), some (.inl i)] [] σ2) : Lw l G b Ln xs nc ns 379 [some (.inr (99, 0)), some (.inr (0, 0)), some (.inr (9, 0)), some (.inl i)] [] σ := by
  refine Lw.aload_n (k := 1) rfl (by decide +kernel) ?_
  refine Lw.aload_n (k := 0) rfl (by decide +kernel) ?_
  refine Lw.iload_n (k := 3) rfl (by decide +kernel) ?_
  refine Lw.iconst (n := 1) (by decide +kernel) ?_
  refine Lw.iadd (by decide +kernel) ?_
  refine Lw.sld hLn (by omega) (by decide +kernel) ?_
  refine Lw.aload_n (k := 0) rfl (by decide +kernel) ?_
  refine Lw.iload_n (k := 3) rfl (by decide +kernel) ?_
  refine Lw.iconst (n := 2) (by decide +kernel) ?_
  refine Lw.iadd (by decide +kernel) ?_
  refine Lw.sld hLn (by omega) (by decide +kernel) ?_
  refine Lw.call (st := []) (k := 0) (i := 0) [.inl (xs (i + 1).toNat).toInt, .inl (xs (i + 2).toNat).toInt] (E_Ks_cell h1) c_Law_77 rfl hi0 (kokI (kokI (fun _ h => absurd h List.not_mem_nil))) (by decide +kernel) (Nat.le_of_ble_eq_true rfl) hf (by decide +kernel) ?_
  rintro y3 σ3 ⟨e1, e2⟩
  rw [e1, e2]
  refine Lw.aload_n (k := 2) rfl (by decide +kernel) ?_
  refine Lw.aload_n (k := 0) rfl (by decide +kernel) ?_
  refine Lw.iload_n (k := 3) rfl (by decide +kernel) ?_
  refine Lw.iconst (n := 1) (by decide +kernel) ?_
  refine Lw.iadd (by decide +kernel) ?_
  refine Lw.sld hLn (by omega) (by decide +kernel) ?_
  refine Lw.aload_n (k := 0) rfl (by decide +kernel) ?_
  refine Lw.iload_n (k := 3) rfl (by decide +kernel) ?_
  refine Lw.iconst (n := 2) (by decide +kernel) ?_
  refine Lw.iadd (by decide +kernel) ?_
  refine Lw.sld hLn (by omega) (by decide +kernel) ?_
  refine Lw.call (st := [.inl y]) (k := 9) (i := 0) [.inl (xs (i + 1).toNat).toInt, .inl (xs (i + 2).toNat).toInt] (E_Rm_cell h2) c_Law_79 rfl hi9 (kokI (kokI (fun _ h => absurd h List.not_mem_nil))) (by decide +kernel) (Nat.le_of_ble_eq_true rfl) hf (by decide +kernel) ?_
  rintro y3 σ3 ⟨e1, e2⟩
  rw [e1, e2]
  exact Lw.same (off := 31) (tgt := 438) (by decide) (by decide +kernel) kk
theorem lw_case_14 {l : Launch} {G : kG} {b Ln : Nat} {xs : Nat → Int32} {nc ns : Nat} {i y : Int} {σ σ1 σ2 : kS} (hLn : Ln < 2147483648) (hi : 1 ≤ i ∧ i + 2 < Ln) (hi0 : (0, 0) ∈ kids G) (hi9 : (9, 0) ∈ kids G) (hf : nc ≤ room_1.cells ∧ ns ≤ room_1.slots) (h1 : f_Ks_top  σ = some (some y, σ1)) (h2 : f_Rm_top  σ1 = some (some y, σ2)) (kk : Lw l G b Ln xs nc ns 438 [some (.inr (99, 0)), some (.inr (0, 0)), some (.inr (9, 0)), some (.inl i)] [] σ2) : Lw l G b Ln xs nc ns 412 [some (.inr (99, 0)), some (.inr (0, 0)), some (.inr (9, 0)), some (.inl i)] [] σ := by
  refine Lw.aload_n (k := 1) rfl (by decide +kernel) ?_
  refine Lw.call (st := []) (k := 0) (i := 0) [] (E_Ks_top h1) c_Law_80 rfl hi0 (fun _ h => absurd h List.not_mem_nil) (by decide +kernel) (Nat.le_of_ble_eq_true rfl) hf (by decide +kernel) ?_
  rintro y3 σ3 ⟨e1, e2⟩
  rw [e1, e2]
  refine Lw.aload_n (k := 2) rfl (by decide +kernel) ?_
  refine Lw.call (st := [.inl y]) (k := 9) (i := 0) [] (E_Rm_top h2) c_Law_83 rfl hi9 (fun _ h => absurd h List.not_mem_nil) (by decide +kernel) (Nat.le_of_ble_eq_true rfl) hf (by decide +kernel) ?_
  rintro y3 σ3 ⟨e1, e2⟩
  rw [e1, e2]
  exact Lw.same (off := 18) (tgt := 438) (by decide) (by decide +kernel) kk
theorem lw_case_15 {l : Launch} {G : kG} {b Ln : Nat} {xs : Nat → Int32} {nc ns : Nat} {i y : Int} {σ σ1 σ2 : kS} (hLn : Ln < 2147483648) (hi : 1 ≤ i ∧ i + 2 < Ln) (hi0 : (0, 0) ∈ kids G) (hi9 : (9, 0) ∈ kids G) (hf : nc ≤ room_1.cells ∧ ns ≤ room_1.slots) (h1 : f_Ks_sent  σ = some (some y, σ1)) (h2 : f_Rm_sent  σ1 = some (some y, σ2)) (kk : Lw l G b Ln xs nc ns 438 [some (.inr (99, 0)), some (.inr (0, 0)), some (.inr (9, 0)), some (.inl i)] [] σ2) : Lw l G b Ln xs nc ns 425 [some (.inr (99, 0)), some (.inr (0, 0)), some (.inr (9, 0)), some (.inl i)] [] σ := by
  refine Lw.aload_n (k := 1) rfl (by decide +kernel) ?_
  refine Lw.call (st := []) (k := 0) (i := 0) [] (E_Ks_sent h1) c_Law_84 rfl hi0 (fun _ h => absurd h List.not_mem_nil) (by decide +kernel) (Nat.le_of_ble_eq_true rfl) hf (by decide +kernel) ?_
  rintro y3 σ3 ⟨e1, e2⟩
  rw [e1, e2]
  refine Lw.aload_n (k := 2) rfl (by decide +kernel) ?_
  refine Lw.call (st := [.inl y]) (k := 9) (i := 0) [] (E_Rm_sent h2) c_Law_87 rfl hi9 (fun _ h => absurd h List.not_mem_nil) (by decide +kernel) (Nat.le_of_ble_eq_true rfl) hf (by decide +kernel) ?_
  rintro y3 σ3 ⟨e1, e2⟩
  rw [e1, e2]
  exact Lw.same (off := 5) (tgt := 438) (by decide) (by decide +kernel) kk
/-- both answer alike, and the invariant holds again -/
def kSame (J : kS → Prop) (f g : kS → kRes) (σ : kS) : Prop := ∃ y σ1 σ2, f σ = some (some y, σ1) ∧ g σ1 = some (some y, σ2) ∧ J σ2
def kStep (J : kS → Prop) (σ : kS) : Prop := (∀ x : Int, -2147483648 ≤ x ∧ x < 2147483648 → kSame J (f_Ks_key x) (f_Rm_key x) σ) ∧
  (∀ x : Int, -2147483648 ≤ x ∧ x < 2147483648 → kSame J (f_Ks_resize x) (f_Rm_resize x) σ) ∧
  kSame J f_Ks_sync f_Rm_sync σ ∧
  kSame J f_Ks_crash f_Rm_crash σ ∧
  kSame J f_Ks_mode f_Rm_mode σ ∧
  kSame J f_Ks_lines f_Rm_lines σ ∧
  (∀ x : Int, -2147483648 ≤ x ∧ x < 2147483648 → kSame J (f_Ks_length x) (f_Rm_length x) σ) ∧
  (∀ x z : Int, -2147483648 ≤ x ∧ x < 2147483648 → -2147483648 ≤ z ∧ z < 2147483648 → kSame J (f_Ks_letter x z) (f_Rm_letter x z) σ) ∧
  kSame J f_Ks_cursor f_Rm_cursor σ ∧
  kSame J f_Ks_buffer f_Rm_buffer σ ∧
  (∀ x z : Int, -2147483648 ≤ x ∧ x < 2147483648 → -2147483648 ≤ z ∧ z < 2147483648 → kSame J (f_Ks_held x z) (f_Rm_held x z) σ) ∧
  kSame J f_Ks_file f_Rm_file σ ∧
  (∀ x z : Int, -2147483648 ≤ x ∧ x < 2147483648 → -2147483648 ≤ z ∧ z < 2147483648 → kSame J (f_Ks_stored x z) (f_Rm_stored x z) σ) ∧
  (∀ x z : Int, -2147483648 ≤ x ∧ x < 2147483648 → -2147483648 ≤ z ∧ z < 2147483648 → kSame J (f_Ks_cell x z) (f_Rm_cell x z) σ) ∧
  kSame J f_Ks_top f_Rm_top σ ∧
  kSame J f_Ks_sent f_Rm_sent σ
theorem k_rng (x : Int32) : -2147483648 ≤ x.toInt ∧ x.toInt < 2147483648 := ⟨by have := x.le_toInt; omega, by have := x.toInt_lt; omega⟩
theorem k_and15 (x : Int) : 0 ≤ kand x 15 ∧ kand x 15 ≤ 15 := by
  have e : kand x 15 = ((Int32.ofInt x).toBitVec &&& 15#32).toInt := rfl
  have h1 : ((Int32.ofInt x).toBitVec &&& 15#32).toNat ≤ 15 := by
    rw [BitVec.toNat_and]
    exact Nat.and_le_right
  rw [e, BitVec.toInt_eq_toNat_cond]
  rw [if_pos (by omega)]
  omega
theorem lw_switch {l : Launch} {G : kG} {b Ln : Nat} {xs : Nat → Int32} {nc ns : Nat} {i : Int} {σ : kS} {J : kS → Prop} (hLn : Ln < 2147483648) (hi : 1 ≤ i ∧ i + 2 < Ln) (hi0 : (0, 0) ∈ kids G) (hi9 : (9, 0) ∈ kids G) (hf : nc ≤ room_1.cells ∧ ns ≤ room_1.slots) (h : kStep J σ) (kk : ∀ σ2, J σ2 → Lw l G b Ln xs nc ns 438 [some (.inr (99, 0)), some (.inr (0, 0)), some (.inr (9, 0)), some (.inl i)] [] σ2) {x : Int} (hx : 0 ≤ x ∧ x ≤ 15) : Lw l G b Ln xs nc ns 42 [some (.inr (99, 0)), some (.inr (0, 0)), some (.inr (9, 0)), some (.inl i)] [.inl x] σ := by
  rcases (show x = 0 ∨ x = 1 ∨ x = 2 ∨ x = 3 ∨ x = 4 ∨ x = 5 ∨ x = 6 ∨ x = 7 ∨ x = 8 ∨ x = 9 ∨ x = 10 ∨ x = 11 ∨ x = 12 ∨ x = 13 ∨ x = 14 ∨ x = 15 by omega) with e | e | e | e | e | e | e | e | e | e | e | e | e | e | e | e
  · obtain ⟨y, σ1, σ2, g1, g2, g3⟩ := h.1 _ (k_rng _)
    exact Lw.tableIn (dflt := 396) (lo := 0) (hi := 15) (offs := #[78, 101, 124, 137, 150, 163, 176, 199, 232, 245, 258, 291, 304, 337, 370, 383]) (off := 78) (tgt := 120) (len := 78) (by omega) (by decide +kernel) (by omega) (by omega) (by rw [e]; rfl) (by decide) (lw_case_0 hLn hi hi0 hi9 hf g1 g2 (kk σ2 g3))
  · obtain ⟨y, σ1, σ2, g1, g2, g3⟩ := h.2.1 _ (k_rng _)
    exact Lw.tableIn (dflt := 396) (lo := 0) (hi := 15) (offs := #[78, 101, 124, 137, 150, 163, 176, 199, 232, 245, 258, 291, 304, 337, 370, 383]) (off := 101) (tgt := 143) (len := 78) (by omega) (by decide +kernel) (by omega) (by omega) (by rw [e]; rfl) (by decide) (lw_case_1 hLn hi hi0 hi9 hf g1 g2 (kk σ2 g3))
  · obtain ⟨y, σ1, σ2, g1, g2, g3⟩ := h.2.2.1
    exact Lw.tableIn (dflt := 396) (lo := 0) (hi := 15) (offs := #[78, 101, 124, 137, 150, 163, 176, 199, 232, 245, 258, 291, 304, 337, 370, 383]) (off := 124) (tgt := 166) (len := 78) (by omega) (by decide +kernel) (by omega) (by omega) (by rw [e]; rfl) (by decide) (lw_case_2 hLn hi hi0 hi9 hf g1 g2 (kk σ2 g3))
  · obtain ⟨y, σ1, σ2, g1, g2, g3⟩ := h.2.2.2.1
    exact Lw.tableIn (dflt := 396) (lo := 0) (hi := 15) (offs := #[78, 101, 124, 137, 150, 163, 176, 199, 232, 245, 258, 291, 304, 337, 370, 383]) (off := 137) (tgt := 179) (len := 78) (by omega) (by decide +kernel) (by omega) (by omega) (by rw [e]; rfl) (by decide) (lw_case_3 hLn hi hi0 hi9 hf g1 g2 (kk σ2 g3))
  · obtain ⟨y, σ1, σ2, g1, g2, g3⟩ := h.2.2.2.2.1
    exact Lw.tableIn (dflt := 396) (lo := 0) (hi := 15) (offs := #[78, 101, 124, 137, 150, 163, 176, 199, 232, 245, 258, 291, 304, 337, 370, 383]) (off := 150) (tgt := 192) (len := 78) (by omega) (by decide +kernel) (by omega) (by omega) (by rw [e]; rfl) (by decide) (lw_case_4 hLn hi hi0 hi9 hf g1 g2 (kk σ2 g3))
  · obtain ⟨y, σ1, σ2, g1, g2, g3⟩ := h.2.2.2.2.2.1
    exact Lw.tableIn (dflt := 396) (lo := 0) (hi := 15) (offs := #[78, 101, 124, 137, 150, 163, 176, 199, 232, 245, 258, 291, 304, 337, 370, 383]) (off := 163) (tgt := 205) (len := 78) (by omega) (by decide +kernel) (by omega) (by omega) (by rw [e]; rfl) (by decide) (lw_case_5 hLn hi hi0 hi9 hf g1 g2 (kk σ2 g3))
  · obtain ⟨y, σ1, σ2, g1, g2, g3⟩ := h.2.2.2.2.2.2.1 _ (k_rng _)
    exact Lw.tableIn (dflt := 396) (lo := 0) (hi := 15) (offs := #[78, 101, 124, 137, 150, 163, 176, 199, 232, 245, 258, 291, 304, 337, 370, 383]) (off := 176) (tgt := 218) (len := 78) (by omega) (by decide +kernel) (by omega) (by omega) (by rw [e]; rfl) (by decide) (lw_case_6 hLn hi hi0 hi9 hf g1 g2 (kk σ2 g3))
  · obtain ⟨y, σ1, σ2, g1, g2, g3⟩ := h.2.2.2.2.2.2.2.1 _ _ (k_rng _) (k_rng _)
    exact Lw.tableIn (dflt := 396) (lo := 0) (hi := 15) (offs := #[78, 101, 124, 137, 150, 163, 176, 199, 232, 245, 258, 291, 304, 337, 370, 383]) (off := 199) (tgt := 241) (len := 78) (by omega) (by decide +kernel) (by omega) (by omega) (by rw [e]; rfl) (by decide) (lw_case_7 hLn hi hi0 hi9 hf g1 g2 (kk σ2 g3))
  · obtain ⟨y, σ1, σ2, g1, g2, g3⟩ := h.2.2.2.2.2.2.2.2.1
    exact Lw.tableIn (dflt := 396) (lo := 0) (hi := 15) (offs := #[78, 101, 124, 137, 150, 163, 176, 199, 232, 245, 258, 291, 304, 337, 370, 383]) (off := 232) (tgt := 274) (len := 78) (by omega) (by decide +kernel) (by omega) (by omega) (by rw [e]; rfl) (by decide) (lw_case_8 hLn hi hi0 hi9 hf g1 g2 (kk σ2 g3))
  · obtain ⟨y, σ1, σ2, g1, g2, g3⟩ := h.2.2.2.2.2.2.2.2.2.1
    exact Lw.tableIn (dflt := 396) (lo := 0) (hi := 15) (offs := #[78, 101, 124, 137, 150, 163, 176, 199, 232, 245, 258, 291, 304, 337, 370, 383]) (off := 245) (tgt := 287) (len := 78) (by omega) (by decide +kernel) (by omega) (by omega) (by rw [e]; rfl) (by decide) (lw_case_9 hLn hi hi0 hi9 hf g1 g2 (kk σ2 g3))
  · obtain ⟨y, σ1, σ2, g1, g2, g3⟩ := h.2.2.2.2.2.2.2.2.2.2.1 _ _ (k_rng _) (k_rng _)
    exact Lw.tableIn (dflt := 396) (lo := 0) (hi := 15) (offs := #[78, 101, 124, 137, 150, 163, 176, 199, 232, 245, 258, 291, 304, 337, 370, 383]) (off := 258) (tgt := 300) (len := 78) (by omega) (by decide +kernel) (by omega) (by omega) (by rw [e]; rfl) (by decide) (lw_case_10 hLn hi hi0 hi9 hf g1 g2 (kk σ2 g3))
  · obtain ⟨y, σ1, σ2, g1, g2, g3⟩ := h.2.2.2.2.2.2.2.2.2.2.2.1
    exact Lw.tableIn (dflt := 396) (lo := 0) (hi := 15) (offs := #[78, 101, 124, 137, 150, 163, 176, 199, 232, 245, 258, 291, 304, 337, 370, 383]) (off := 291) (tgt := 333) (len := 78) (by omega) (by decide +kernel) (by omega) (by omega) (by rw [e]; rfl) (by decide) (lw_case_11 hLn hi hi0 hi9 hf g1 g2 (kk σ2 g3))
  · obtain ⟨y, σ1, σ2, g1, g2, g3⟩ := h.2.2.2.2.2.2.2.2.2.2.2.2.1 _ _ (k_rng _) (k_rng _)
    exact Lw.tableIn (dflt := 396) (lo := 0) (hi := 15) (offs := #[78, 101, 124, 137, 150, 163, 176, 199, 232, 245, 258, 291, 304, 337, 370, 383]) (off := 304) (tgt := 346) (len := 78) (by omega) (by decide +kernel) (by omega) (by omega) (by rw [e]; rfl) (by decide) (lw_case_12 hLn hi hi0 hi9 hf g1 g2 (kk σ2 g3))
  · obtain ⟨y, σ1, σ2, g1, g2, g3⟩ := h.2.2.2.2.2.2.2.2.2.2.2.2.2.1 _ _ (k_rng _) (k_rng _)
    exact Lw.tableIn (dflt := 396) (lo := 0) (hi := 15) (offs := #[78, 101, 124, 137, 150, 163, 176, 199, 232, 245, 258, 291, 304, 337, 370, 383]) (off := 337) (tgt := 379) (len := 78) (by omega) (by decide +kernel) (by omega) (by omega) (by rw [e]; rfl) (by decide) (lw_case_13 hLn hi hi0 hi9 hf g1 g2 (kk σ2 g3))
  · obtain ⟨y, σ1, σ2, g1, g2, g3⟩ := h.2.2.2.2.2.2.2.2.2.2.2.2.2.2.1
    exact Lw.tableIn (dflt := 396) (lo := 0) (hi := 15) (offs := #[78, 101, 124, 137, 150, 163, 176, 199, 232, 245, 258, 291, 304, 337, 370, 383]) (off := 370) (tgt := 412) (len := 78) (by omega) (by decide +kernel) (by omega) (by omega) (by rw [e]; rfl) (by decide) (lw_case_14 hLn hi hi0 hi9 hf g1 g2 (kk σ2 g3))
  · obtain ⟨y, σ1, σ2, g1, g2, g3⟩ := h.2.2.2.2.2.2.2.2.2.2.2.2.2.2.2
    exact Lw.tableIn (dflt := 396) (lo := 0) (hi := 15) (offs := #[78, 101, 124, 137, 150, 163, 176, 199, 232, 245, 258, 291, 304, 337, 370, 383]) (off := 383) (tgt := 425) (len := 78) (by omega) (by decide +kernel) (by omega) (by omega) (by rw [e]; rfl) (by decide) (lw_case_15 hLn hi hi0 hi9 hf g1 g2 (kk σ2 g3))
/-- the loop: with n calls done -/
theorem lw_loop {l : Launch} {G : kG} {b Ln : Nat} {xs : Nat → Int32} {nc ns : Nat} {J : Nat → kS → Prop} (B : Nat) (hLn : Ln ≤ 3 * B + 1) (hB : B < 1000000) (hi0 : (0, 0) ∈ kids G) (hi9 : (9, 0) ∈ kids G) (hf : nc ≤ room_1.cells ∧ ns ≤ room_1.slots) (hs : ∀ n σ, n < B → J n σ → kStep (J (n + 1)) σ) :
    ∀ (m n : Nat) (σ : kS), n + m = B + 1 → J n σ → Lw l G b Ln xs nc ns 28 [some (.inr (99, 0)), some (.inr (0, 0)), some (.inr (9, 0)), some (.inl (3 * (n : Int) + 1))] [] σ := by
  intro m
  induction m with
  | zero =>
    intro n σ h hJ
    refine Lw.iload_n (k := 3) rfl (by decide +kernel) (Lw.aload_n (k := 0) rfl (by decide +kernel) (Lw.slen (by omega) (by decide +kernel) (Lw.iconst (n := 3) (by decide +kernel) (Lw.isub (by decide +kernel) (Lw.gt (off := 411) (tgt := 444) (by omega) (by omega) (by decide) (by decide +kernel) (fun _ => ?_) (fun h2 => ?_))))))
    · exact Lw.iconst (n := 1) (by decide +kernel) (Lw.ret hf.1 hf.2 (by decide +kernel))
    · omega
  | succ m ih =>
    intro n σ h hJ
    refine Lw.iload_n (k := 3) rfl (by decide +kernel) (Lw.aload_n (k := 0) rfl (by decide +kernel) (Lw.slen (by omega) (by decide +kernel) (Lw.iconst (n := 3) (by decide +kernel) (Lw.isub (by decide +kernel) (Lw.gt (off := 411) (tgt := 444) (by omega) (by omega) (by decide) (by decide +kernel) (fun _ => ?_) (fun h2 => ?_))))))
    · exact Lw.iconst (n := 1) (by decide +kernel) (Lw.ret hf.1 hf.2 (by decide +kernel))
    · refine Lw.aload_n (k := 0) rfl (by decide +kernel) (Lw.iload_n (k := 3) rfl (by decide +kernel) (Lw.sld (by omega) (by omega) (by decide +kernel) (Lw.bipush (n := 15) (by decide) (by decide) (by decide +kernel) (Lw.iand (by decide +kernel) ?_))))
      refine lw_switch (J := J (n + 1)) (by omega) (by omega) hi0 hi9 hf (hs n σ (by omega) hJ) (fun σ2 hJ2 => ?_) (k_and15 _)
      refine Lw.iinc (k := 3) (n := 3) rfl (by decide) (by decide +kernel) (Lw.goto (off := -413) (tgt := 28) (by decide) (by decide +kernel) ?_)
      have z := ih (n + 1) σ2 (by omega) hJ2
      have e : (3 * ((n + 1 : Nat) : Int) + 1) = 3 * (n : Int) + 1 + 3 := by omega
      rw [e] at z
      exact z
