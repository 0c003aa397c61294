/-! The law from its entry. Written by wip/gen/mk_start2.py. -/
abbrev m_Law_cell : kM := ("KeyScreenLaw", method_2_code, 2, some .int)
set_option maxRecDepth 100000 in
theorem cd_Law_cell : Cond.code y_Law_cell m_Law_cell.2.1 m_Law_cell.2.2.1 m_Law_cell.2.2.2 ∈ kWS := kmem (i := 908) rfl (by decide +kernel)
theorem c_Law_cell (l : Launch) (b Ln : Nat) (xs : Nat → Int32) (hLn : Ln < 2147483648) : Met l y_Law_cell (.code y_Law_cell m_Law_cell.2.1 m_Law_cell.2.2.1 m_Law_cell.2.2.2 :: kWS) (kR (0, 0)) (va_Pc [.ref b, .int 0] (fun U => va_X b Ln xs U U.heap)) (fun _ st oc t => oc = .returned (some (.int (if 0 < Ln then xs 0 else 0))) ∧ t.heap = st.heap) 0 0 (fun _ => False) := by
  refine Met.ofW (cc := method_2_code) (maxL := 2) (ret := some .int) (by decide +kernel) rfl ?_
  intro p e s m args below meth c s₁ B hml hv
  obtain ⟨rfl, hX⟩ := hv
  have hbl : b < s.heap.size := by
    obtain ⟨scr, h1, -⟩ := hX
    exact (Array.getElem?_eq_some_iff.mp h1).1
  have hl := lv_entry ([.ref b, .int 0]) (n := 2) (Nat.le_of_ble_eq_true rfl)
  rw [lg_entry_eq]
  generalize (lg_sl ([.ref b, .int 0]) ++ List.replicate (2 - (lg_sl ([.ref b, .int 0])).length) Slot.unset).toArray = ls at hl ⊢
  have hl : lv_has ls 2 [(0, .ref b), (1, .int 0)] := hl
  have hS : va_S (fun _ => False) s.heap s.heap [] := va_S.rf
  have hx := B.exec
  have hb := B.bytes
  refine lv_iload_n hx hb (k := 1) (by decide +kernel) rfl (lv_at hl 1 rfl) ?_
  refine lv_aload_n hx hb (k := 0) (by decide +kernel) rfl (lv_at hl 0 rfl) ?_
  refine va_slen hx hb hX hbl (fun h => h) hS (by decide +kernel) ?_
  have e0 : (0 : Int32) = Int32.ofInt 0 := rfl
  have hle : Int32.ofNat Ln ≤ 0 ↔ Ln ≤ 0 := by
    rw [e0, ← Int32.ofInt_eq_ofNat, k_le ⟨by omega, by omega⟩ (by decide)]
    omega
  refine lv_icmp_ge hx hb (off := 9) (tgt := 12) (by decide +kernel) (by decide) (fun h => ?_) (fun h => ?_)
  · have hL0 : ¬ 0 < Ln := by
      have := hle.mp h
      omega
    refine lv_iconst hx hb (n := 0) (v := 0) (by decide +kernel) rfl ?_
    exact W.iret hx hb B.returns (fun t ht hW => ⟨by rw [if_neg hL0], ht⟩) (fun q h => by cases h) (by decide +kernel) B.notSynchronized
  · have hL1 : 0 < Ln := by
      rcases Nat.eq_zero_or_pos Ln with z | z
      · exact absurd (hle.mpr (by omega)) h
      · exact z
    refine lv_aload_n hx hb (k := 0) (by decide +kernel) rfl (lv_at hl 0 rfl) ?_
    refine lv_iload_n hx hb (k := 1) (by decide +kernel) rfl (lv_at hl 1 rfl) ?_
    refine va_sld hx hb hX hbl (fun h => h) hS (vp_in_iff.mpr ⟨by decide, by show (0 : Int) < _; omega⟩) (by decide +kernel) ?_
    refine lv_goto hx hb (off := 4) (tgt := 13) (by decide +kernel) (by decide) ?_
    exact W.iret hx hb B.returns (fun t ht hW => ⟨by rw [if_pos hL1]; rfl, ht⟩) (fun q h => by cases h) (by decide +kernel) B.notSynchronized
theorem k_ex (X : Int32) : ∃ x : Int, (-2147483648 ≤ x ∧ x < 2147483648) ∧ X = Int32.ofInt x := ⟨X.toInt, k_rng X, (Int32.ofInt_toInt X).symm⟩
section LE
variable {p : Program} {l : Launch} {e : Env} {s : State} {m : MethodId} {below : List Frame} {meth : Method} {c : Code} {b Ln : Nat} {xs : Nat → Int32} {H : Heap} {locs : List Loc} {nc ns pc : Nat} {ls : Array Slot} {rest : List Value} {Q : State → Prop}
theorem lw_fix (C : lw_At p s m meth c b Ln xs) : CallFix p m c code 4 s #[Value.ref b] kWS "KeyScreenLaw" := ⟨C.1, C.2.1, C.2.2.2.1, C.2.2.2.2.1, fun w h => C.2.2.2.2.2.1 w (List.mem_filter.mp h).1⟩
theorem lw_cell (C : lw_At p s m meth c b Ln xs) (hLn : Ln < 2147483648) (hX : va_X b Ln xs s H) (hls : ls.size = 4) (hst : (rest.map fun v => v.category).sum ≤ 8) (hf : nc ≤ room_1.cells ∧ ns ≤ room_1.slots) (hd : decode code pc = .ok (.invokestatic 9, 3))
    (kk : W p l e room_1 s m #[Value.ref b] below meth c H locs nc ns Q (F0 m (pc + 3) ls (.int (if 0 < Ln then xs 0 else 0) :: rest))) : W p l e room_1 s m #[Value.ref b] below meth c H locs nc ns Q (F0 m pc ls (.int 0 :: .ref b :: rest)) := by
  have S := lw_fix C
  have hg : ∀ w ∈ ([.methodLink "KeyScreenLaw" 9 y_Law_cell, .static y_Law_cell, .initialized y_Law_cell.cls] : List Cond), w ∈ kWS := by
    intro w h
    simp only [List.mem_cons, List.not_mem_nil, or_false] at h
    rcases h with rfl | rfl | rfl
    · exact (kmem (i := 906) (by decide +kernel) (by decide +kernel))
    · exact (kmem (i := 907) (by decide +kernel) (by decide +kernel))
    · exact (kmem (i := 103) (by decide +kernel) (by decide +kernel))
  have hr := va_runS (As := [.ref b, .int 0]) (rest := rest) (H := H) (locs := locs) (cells := nc) (slots := ns) (g := F0 m pc ls (.int 0 :: .ref b :: rest)) (below := below) (meth := meth) (e := e) (R := room_1) S (c_Law_cell l b Ln xs hLn) (va_cwS 2 S.2.2.2.2 (k_good (M' := m_Law_cell) (extra := [.methodLink "KeyScreenLaw" 9 y_Law_cell, .static y_Law_cell, .initialized y_Law_cell.cls]) cd_Law_cell hg) rfl rfl rfl (by decide +kernel) (by decide +kernel)) ⟨fun a U g mk h => ⟨h.1, va_X.moved (u := U) (U := U.calling g mk a) (Vm.Alike.refl U.vm) h.2⟩, fun U hU hW => ⟨rfl, show va_X b Ln xs U U.heap by rw [hU]; exact va_X.moved hW.alike hX⟩⟩ rfl rfl hls rfl (lv_room hst) hd hf
  intro T0 hT X
  obtain ⟨v, st₀, t, T', Lc, h0, X', hLc, e1, e2, ⟨hv, hh⟩, stp⟩ := hr T0 hT X
  have hv' : v = some (.int (if 0 < Ln then xs 0 else 0)) := by cases hv; rfl
  subst hv'
  have hLc' : Lc = [] := by
    cases Lc with
    | nil => rfl
    | cons a r => exact (hLc a List.mem_cons_self).elim
  subst hLc'
  rw [List.append_nil] at X'
  obtain ⟨t2, a1, b1⟩ := kk T' (by rw [e1, hh, h0]) X'
  exact ⟨t2, stp t2 a1, b1⟩
/-- a constructor's call in the law -/
theorem lw_init {D : va_G} {t : ClassId × ClassId × ClassId} {A : Nat → Prop} {idx n a : Nat} {y : MethodName} {M' : kM} {rm : Room} {As : List Value} {ws wc wr : va_W} {Qw' : va_W → Prop} (isC isR : List Nat) (C : lw_At p s m meth c b Ln xs) (hK : va_K D vwCl (cTy t) s) (hN : cN s) (hA : ∀ q, s.heap.size ≤ q → A q) (hP : va_P D vwCl ws H) (hD : va_D A ws) (hS : va_S A s.heap H locs)
    (hc : CCall l D t rm y M' (.ref a :: As) wc Qw') (hcode : Cond.code y M'.2.1 M'.2.2.1 none ∈ kWS) (hw1 : Cond.methodLink "KeyScreenLaw" idx y ∈ kWS) (hw2 : Cond.instanceMethod y ∈ kWS) (hw4 : Cond.initialized y.cls ∈ kWS) (hy1 : y.name = "<init>")
    (hdesc : y.cls ≠ "java/lang/invoke/MethodHandle" ∧ y.cls ≠ "java/lang/invoke/VarHandle" ∧ (parseMethodDescriptor y.desc).map (fun d => d.parameters.length) = some n) (hlen : As.length = n) (hC : isC.map (fun i => ws[i]?) = wc.map some) (hR : isR.map (fun i => ws[i]?) = wr.map some) (hn : va_nd isC = true ∧ va_nd isR = true) (hdis : ∀ i ∈ isR, i ∉ isC)
    (hdd : rm.frames + 1 ≤ room_1.frames ∧ 8 + (M'.2.2.1 + 11) + rm.locals ≤ room_1.locals) (hls : ls.size = 4) (hst : (rest.map fun v => v.category).sum ≤ 8) (hf : nc + rm.cells ≤ room_1.cells ∧ ns + rm.slots ≤ room_1.slots) (hd : decode code pc = .ok (.invokespecial idx, 3))
    (kk : ∀ (w1 : va_W) (H1 : Heap) (locs1 : List Loc), Qw' w1 → va_P D vwCl (wr ++ w1) H1 → va_D A (wr ++ w1) → va_S A s.heap H1 locs1 → W p l e room_1 s m #[Value.ref b] below meth c H1 locs1 (nc + rm.cells) (ns + rm.slots) Q (F0 m (pc + 3) ls rest)) : W p l e room_1 s m #[Value.ref b] below meth c H locs nc ns Q (F0 m pc ls (As.reverse ++ .ref a :: rest)) := by
  have S := lw_fix C
  have hF := va_free (wc := wc) hD hS hA isC hC
  have hr := va_runI (As := As) (rest := rest) (H := H) (locs := locs) (cells := nc) (slots := ns) (g := F0 m pc ls (As.reverse ++ .ref a :: rest)) (below := below) (meth := meth) (e := e) (R := room_1) S (hc H.size) (cwI n S.2.2.2.2 (c_good hcode) rfl rfl rfl (S.2.2.2.2 _ hw4) (S.2.2.2.2 _ hw1) (S.2.2.2.2 _ hw2) hy1 hdesc hdd) ⟨fun a U g mk h => c_pre g mk a h, fun U hU hW => ⟨rfl, by rw [hU], by rw [hU]; exact c_sub hP hC, va_K.moved hW.alike hK, cN.warm hW hN, (hD.sub isC hn.1 hC).weaken (fun _ _ _ _ => trivial)⟩⟩ rfl hlen hls rfl (lv_room hst) hd hf
  intro T hT X
  obtain ⟨v, st₀, U, T', Lc, h0, X', hLc, e1, e2, ⟨⟨w1, hv, hq, hP1, hK1, hD1⟩, hz, hk⟩, stp⟩ := hr T hT X
  rw [h0] at hz hk
  have hv' : v = none := by cases hv; rfl
  subst hv'
  rw [← e1] at hz hP1
  have hk' : ∀ q : Nat, q < H.size → ¬ va_A wc H.size q → T'.heap[q]? = H[q]? := fun q h1 h2 => by rw [e1]; exact hk q h1 h2
  obtain ⟨hPj, hDj⟩ := va_join (wr := wr) (w1 := w1) hP hD isC isR hC hR hn.2 hdis hk' hF hP1 hD1
  have hS' : va_S A s.heap T'.heap (locs ++ Lc) := ⟨Nat.le_trans hS.1 hz, fun q h1 h2 => by rw [hk' q (Nat.lt_of_lt_of_le h1 hS.1) (fun z => h2 (hF q z))]; exact hS.2.1 q h1 h2, fun q hq => by
      rcases List.mem_append.mp hq with h | h
      · exact hS.2.2 q h
      · exact hF _ (hLc q h)⟩
  obtain ⟨t2, a1, b1⟩ := kk w1 T'.heap (locs ++ Lc) hq hPj hDj hS' T' rfl X'
  exact ⟨t2, stp t2 a1, b1⟩
end LE
/-- the tables of the classes and of the arrays -/
theorem lw_tabs {s : State} {b : Nat} (hts : ∀ w ∈ lw_tbl, w.before #[Value.ref b] s = true) : ∃ (D : va_G) (t : ClassId × ClassId × ClassId), va_K D vwCl (cTy t) s ∧ cN s := by
  have hk : ∀ w ∈ kWS, w.before #[Value.ref b] s = true := fun w h => hts w (List.mem_filter.mp h).1
  obtain ⟨c0, i0, k0⟩ := u_known hk in_Ks (hk (.instantiable "KeyScreen" 4) (kmem (i := 119) (by decide +kernel) (by decide +kernel)))
  obtain ⟨c1, i1, k1⟩ := u_known hk in_De (hk (.instantiable "KeyScreen$Desk" 6) (kmem (i := 127) (by decide +kernel) (by decide +kernel)))
  obtain ⟨c2, i2, k2⟩ := u_known hk in_Te (hk (.instantiable "KeyScreen$Text" 5) (kmem (i := 133) (by decide +kernel) (by decide +kernel)))
  obtain ⟨c3, i3, k3⟩ := u_known hk in_Di (hk (.instantiable "KeyScreen$Disk" 7) (kmem (i := 207) (by decide +kernel) (by decide +kernel)))
  obtain ⟨c4, i4, k4⟩ := u_known hk in_Wi (hk (.instantiable "KeyScreen$Window" 5) (kmem (i := 240) (by decide +kernel) (by decide +kernel)))
  obtain ⟨c5, i5, k5⟩ := u_known hk in_Kb (hk (.instantiable "KeyScreen$Keyboard" 13) (kmem (i := 270) (by decide +kernel) (by decide +kernel)))
  obtain ⟨c6, i6, k6⟩ := u_known hk in_Ke (hk (.instantiable "KeyScreen$Keys" 2) (kmem (i := 359) (by decide +kernel) (by decide +kernel)))
  obtain ⟨c7, i7, k7⟩ := u_known hk in_Cl (hk (.instantiable "KeyScreen$CommandLine" 18) (kmem (i := 272) (by decide +kernel) (by decide +kernel)))
  obtain ⟨c8, i8, k8⟩ := u_known hk in_Pa (hk (.instantiable "KeyScreen$Pattern" 5) (kmem (i := 278) (by decide +kernel) (by decide +kernel)))
  obtain ⟨c9, i9, k9⟩ := u_known hk in_Rm (hk (.instantiable "KeyScreenModel" 42) (kmem (i := 910) (by decide +kernel) (by decide +kernel)))
  obtain ⟨cI, kI, pI, a1, a2, a3⟩ := Cond.arrayClass_spec (hk (.arrayClass .int) (kmem (i := 175) (by decide +kernel) (by decide +kernel)))
  obtain ⟨cZ, kZ, pZ, b1, b2, b3⟩ := Cond.arrayClass_spec (hk (.arrayClass .boolean) (kmem (i := 238) (by decide +kernel) (by decide +kernel)))
  have hAO : va_AO kText s := va_AO.of (hts (.arrayOver (.object kText)) (List.mem_of_getElem? (i := 214) (by decide +kernel)))
  obtain ⟨pT, cT, kT, d1, d2, d3, d4, d5⟩ := Cond.arrayOver_spec hAO
  refine ⟨(fun k => ([c0, c1, c2, c3, c4, c5, c6, c7, c8, c9] : List ClassId).getD k c0, fun k => ([i0, i1, i2, i3, i4, i5, i6, i7, i8, i9] : List (Nat → Nat)).getD k i0), (cI, cZ, cT), ⟨fun c q hq => ?_, fun k q hq => ?_⟩, va_Nw.of rfl (hts _ (List.mem_of_getElem? (i := 134) (by decide +kernel))), va_Nw.of rfl (hts _ (List.mem_of_getElem? (i := 213) (by decide +kernel))), va_Nw.of rfl (hts _ (List.mem_of_getElem? (i := 279) (by decide +kernel))), hAO⟩
  · have hlt : c < 10 := (List.getElem?_eq_some_iff.mp hq).1
    rcases (show c = 0 ∨ c = 1 ∨ c = 2 ∨ c = 3 ∨ c = 4 ∨ c = 5 ∨ c = 6 ∨ c = 7 ∨ c = 8 ∨ c = 9 by omega) with rfl | rfl | rfl | rfl | rfl | rfl | rfl | rfl | rfl | rfl <;> cases hq
    · exact k0
    · exact k1
    · exact k2
    · exact k3
    · exact k4
    · exact k5
    · exact k6
    · exact k7
    · exact k8
    · exact k9
  · have hlt : k < 3 := (List.getElem?_eq_some_iff.mp hq).1
    rcases (show k = 0 ∨ k = 1 ∨ k = 2 by omega) with rfl | rfl | rfl <;> cases hq
    · exact ⟨fun n z => ⟨fun k h => (by cases h), kI, a2, pI, a3⟩, a1⟩
    · exact ⟨fun n z => ⟨fun k h => (by cases h), kZ, b2, pZ, b3⟩, b1⟩
    · exact ⟨fun n z => ⟨fun k h => (by cases h), kT, d3, pT, d4⟩, kT, pT, d3, d4, d1, d5⟩
set_option maxHeartbeats 4000000 in
set_option maxRecDepth 100000 in
/-- the law's walk, given that both sides answer alike in every state that may come -/
theorem whole_open {J : Nat → kS → Prop} (hJ0 : ∀ v : Int, 5 ≤ v → v ≤ 20 → J 0 (sgA v)) (hJs : ∀ n σ, n < 512 → J n σ → kStep (J (n + 1)) σ) {p : Program} {e : Env} {s : State} {m : MethodId} {below : List Frame} {meth : Method} {c : Code} (l : Launch) {b L : Nat} {xs : Nat → Int32} (hL : L ≤ 1537) (C0 : lw_At p s m meth c b L xs) : W p l e room_1 s m #[Value.ref b] below meth c s.heap [] 0 0 (lw_Z below #[Value.ref b] s) (entryFrame m ([Value.ref b] : List Value).toArray 4) := by
  obtain ⟨D, t, hK, hN⟩ := lw_tabs C0.2.2.2.2.2.1
  have hx := C0.1
  have hb := C0.2.1
  have hown := C0.2.2.2.2.1
  have hk : ∀ w ∈ kWS, w.before #[Value.ref b] s = true := fun w h => C0.2.2.2.2.2.1 w (List.mem_filter.mp h).1
  have hX0 := C0.2.2.2.2.2.2.1
  have hbl := C0.2.2.2.2.2.2.2.1
  have hl := lv_entry ([.ref b]) (n := 4) (Nat.le_of_ble_eq_true rfl)
  rw [lg_entry_eq]
  generalize (lg_sl ([.ref b]) ++ List.replicate (4 - (lg_sl ([.ref b])).length) Slot.unset).toArray = ls at hl ⊢
  have hl : lv_has ls 4 [(0, .ref b)] := hl
  generalize hAe : (fun q : Nat => s.heap.size ≤ q) = A
  have hA : ∀ q, s.heap.size ≤ q → A q := fun q h => by rw [← hAe]; exact h
  have hAn : ∀ q, A q → s.heap.size ≤ q := fun q h => by rw [← hAe] at h; exact h
  have hbA : ¬ A b := fun h => absurd hbl (Nat.not_lt.mpr (hAn b h))
  have hXk : ∀ (H : Heap) (locs : List Loc), va_S A s.heap H locs → va_X b L xs s H := fun H locs h => hX0.kept (h.2.1 b hbl hbA)
  have hP0 : va_P D vwCl [] s.heap := fun k q h => by simp at h
  have hD0 : va_D A [] := ⟨fun i j p q h => by simp at h, fun k q h => by simp at h⟩
  have hS0 : va_S A s.heap s.heap [] := va_S.rf
  have hLn : L < 2147483648 := by omega
  refine va_new (ci := 0) (fs := [.null, .null, .null, .null]) (C := "KeyScreen") (T := T_Ks) (N := 4) hx hb hk in_Ks t_Ks ok_Ks hown (hk (.classLink "KeyScreenLaw" 7 "KeyScreen") (kmem (i := 118) (by decide +kernel) (by decide +kernel))) (hk _ (kmem (i := 119) (by decide +kernel) (by decide +kernel))) (hk _ (kmem (i := 104) (by decide +kernel) (by decide +kernel))) hK hP0 hD0 hS0 hA rfl (by decide +kernel) (by decide +kernel) (by decide +kernel) (by decide +kernel) (fun q0 H hP hD hS => ?_)
  refine lv_dup hx hb (by decide +kernel) rfl ?_
  refine lv_aload_n hx hb (k := 0) (by decide +kernel) rfl (lv_at hl 0 rfl) ?_
  refine lv_iconst hx hb (n := 0) (v := 0) (by decide +kernel) rfl ?_
  refine lw_cell C0 hLn (hXk H _ hS) hl.1 (Nat.le_of_ble_eq_true rfl) (by decide +kernel) (by decide +kernel) ?_
  obtain ⟨x, hxr, hxe⟩ := k_ex (if 0 < L then xs 0 else 0)
  rw [hxe]
  refine lw_init (idx := 15) (n := 1) (a := q0) (M' := m_Ks_init) (As := [.int (Int32.ofInt x)]) (wr := []) (rest := [.ref q0]) [0] [] C0 hK hN hA hP hD hS (c_Ks_init l D t q0 hxr) cd_Ks_init (kmem (i := 120) (by decide +kernel) (by decide +kernel)) (kmem (i := 121) (by decide +kernel) (by decide +kernel)) (kmem (i := 104) (by decide +kernel) (by decide +kernel)) rfl (by decide +kernel) rfl rfl rfl (by decide) (by decide) (by decide +kernel) hl.1 (Nat.le_of_ble_eq_true rfl) (by decide +kernel) (by decide +kernel) ?_
  rintro w1 H1 locs1 ⟨u1, rfl⟩ hP hD hS
  refine lv_astore_n hx hb (k := 1) (by decide +kernel) rfl hl (by decide) rfl (fun ls1 hl1 => ?_)
  have hl1 : lv_has ls1 4 [(1, .ref q0), (0, .ref b)] := hl1
  refine va_new (ci := 9) (fs := [.null, .null, .null, .null, .null, .int 0, .int 0, .int 0, .int 0, .int 0, .int 0, .null, .int 0, .null, .int 0, .int 0, .int 0, .int 0, .int 0, .null, .int 0, .int 0, .int 0, .int 0, .null, .null, .null, .null, .int 0, .int 0, .int 0, .int 0, .null, .null, .int 0, .null, .null, .int 0, .int 0, .int 0, .null, .null]) (C := "KeyScreenModel") (T := T_Rm) (N := 42) hx hb hk in_Rm t_Rm ok_Rm hown (hk (.classLink "KeyScreenLaw" 18 "KeyScreenModel") (kmem (i := 909) (by decide +kernel) (by decide +kernel))) (hk _ (kmem (i := 910) (by decide +kernel) (by decide +kernel))) (hk _ (kmem (i := 115) (by decide +kernel) (by decide +kernel))) hK hP hD hS hA rfl (by decide +kernel) (by decide +kernel) (by decide +kernel) (by decide +kernel) (fun q1 H2 hP hD hS => ?_)
  refine lv_dup hx hb (by decide +kernel) rfl ?_
  refine lv_aload_n hx hb (k := 0) (by decide +kernel) rfl (lv_at hl1 1 rfl) ?_
  refine lv_iconst hx hb (n := 0) (v := 0) (by decide +kernel) rfl ?_
  refine lw_cell C0 hLn (hXk H2 _ hS) hl1.1 (Nat.le_of_ble_eq_true rfl) (by decide +kernel) (by decide +kernel) ?_
  rw [hxe]
  refine lw_init (idx := 20) (n := 1) (a := q1) (M' := m_Rm_init) (As := [.int (Int32.ofInt x)]) (wr := W_Ks_init t q0 (kwid0 x) u1) (rest := [.ref q1]) [49] [0, 1, 2, 3, 4, 5, 6, 7, 8, 9, 10, 11, 12, 13, 14, 15, 16, 17, 18, 19, 20, 21, 22, 23, 24, 25, 26, 27, 28, 29, 30, 31, 32, 33, 34, 35, 36, 37, 38, 39, 40, 41, 42, 43, 44, 45, 46, 47, 48] C0 hK hN hA hP hD hS (c_Rm_init l D t q1 hxr) cd_Rm_init (kmem (i := 911) (by decide +kernel) (by decide +kernel)) (kmem (i := 912) (by decide +kernel) (by decide +kernel)) (kmem (i := 115) (by decide +kernel) (by decide +kernel)) rfl (by decide +kernel) rfl rfl rfl (by decide) (by decide) (by decide +kernel) hl1.1 (Nat.le_of_ble_eq_true rfl) (by decide +kernel) (by decide +kernel) ?_
  rintro w2 H3 locs3 ⟨u2, rfl⟩ hP hD hS
  refine lv_astore_n hx hb (k := 2) (by decide +kernel) rfl hl1 (by decide) rfl (fun ls2 hl2 => ?_)
  refine lv_iconst hx hb (n := 1) (v := Int32.ofInt 1) (by decide +kernel) rfl ?_
  refine lv_istore_n hx hb (k := 3) (by decide +kernel) rfl hl2 (by decide) rfl (fun ls3 hl3 => ?_)
  have hl3 : lv_has ls3 4 [(3, .int (Int32.ofInt 1)), (2, .ref q1), (1, .ref q0), (0, .ref b)] := hl3
  have hv : 5 ≤ kwid0 x ∧ kwid0 x ≤ 20 := by
    unfold kwid0
    split <;> omega
  have hPA := kwA_P (b := b) hP
  have hDA := kwA_D (b := b) hD
  have hok : kOK (D, t, adA b q0 q1 u1 u2, kAid) := kOK_of kA_chk (kinj_of (G := (D, t, adA b q0 q1 u1 u2, kAid)) hDA.1)
  have hkA : ∀ q, kA (D, t, adA b q0 q1 u1 u2, kAid) q → s.heap.size ≤ q := by
    rintro q ⟨c1, hc1, rfl⟩
    obtain ⟨k1, -, hk1⟩ := kw_at (G := (D, t, adA b q0 q1 u1 u2, kAid)) hc1
    exact hAn _ (hDA.2 k1 _ (hk1 (sgA (kwid0 x))))
  refine lw_loop (G := (D, t, adA b q0 q1 u1 u2, kAid)) (J := J) 512 (by omega) (by omega) (show (0, 0) ∈ kAid by decide) (show (9, 0) ∈ kAid by decide) (by decide +kernel) hJs 513 0 _ (by omega) (hJ0 _ hv.1 hv.2) p e s m below meth c C0 hK hok hkA rfl ls3 H3 locs3 ⟨hl3.1, hl3.2.1, fun i v hi => ?_⟩ hPA (by rw [hAe]; exact hS)
  rcases i with _ | _ | _ | _ | i
  · cases hi; exact lv_at hl3 3 rfl
  · cases hi; exact lv_at hl3 2 rfl
  · cases hi; exact lv_at hl3 1 rfl
  · cases hi; exact lv_at hl3 0 rfl
  · simp at hi
