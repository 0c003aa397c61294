/-! The worlds of the class and of its reference. A value is an int or a cell (its kind, its number); a state gives every cell's slots as ints. -/
abbrev kV : Type := Int ⊕ (Nat × Nat)
abbrev kS : Type := Nat → Nat → Nat → Int
abbrev kL : Type := List (Option kV)
abbrev kG : Type := va_G × (ClassId × ClassId × ClassId) × (Nat → Nat → Nat) × List (Nat × Nat)
/-- a method: its class, its code, its locals, what it answers -/
abbrev kM : Type := String × ByteArray × Nat × Option FieldType
def kup (σ : kS) (k i j : Nat) (x : Int) : kS := fun a b c => if a = k ∧ b = i ∧ c = j then x else σ a b c
def kupA (σ : kS) (k i : Nat) (f : Nat → Int) : kS := fun a b c => if a = k ∧ b = i then f c else σ a b c
abbrev kad (G : kG) (c : Nat × Nat) : Nat := G.2.2.1 c.1 c.2
abbrev kids (G : kG) : List (Nat × Nat) := G.2.2.2
def kv (G : kG) : kV → Value
  | .inl x => .int (Int32.ofInt x)
  | .inr c => .ref (kad G c)
def kslot (G : kG) (σ : kS) (c : Nat × Nat) (j : Nat) : Value := match kty c.1 j with
  | 2 => .ref (kad G (krf c.1 c.2 j))
  | 3 => .ref (kad G (kdy (σ c.1 c.2 j)))
  | _ => .int (Int32.ofInt (σ c.1 c.2 j))
def kget (σ : kS) (k i j : Nat) : kV := match kty k j with
  | 2 => .inr (krf k i j)
  | 3 => .inr (kdy (σ k i j))
  | _ => .inl (σ k i j)
def kE (G : kG) (σ : kS) (c : Nat × Nat) : va_E := match ksh c.1 c.2 with
  | (0, n) => .inl (G.2.1.1, n, .inl fun j => Int32.ofInt (σ c.1 c.2 j))
  | (1, n) => .inl (G.2.1.2.1, n, .inl fun j => Int32.ofInt (σ c.1 c.2 j))
  | (2, n) => .inl (G.2.1.2.2, n, .inr (.inr (.inr (.inr fun j => some (kad G (krf c.1 c.2 j))))))
  | (_, n) => .inr (c.1, (List.range n).map (kslot G σ c))
def kw (G : kG) (σ : kS) : va_W := (kids G).map fun c => (kad G c, kE G σ c)
def ktys (G : kG) : List (ClassId × FieldType) := [(G.2.1.1, .int), (G.2.1.2.1, .boolean), (G.2.1.2.2, .object kText)]
def kA (G : kG) : Nat → Prop := fun q => ∃ c ∈ kids G, q = kad G c
/-- the cells are apart, and what they name is among them -/
def kOK (G : kG) : Prop := (∀ (i j : Nat) (c : Nat × Nat), (kids G)[i]? = some c → (kids G)[j]? = some c → i = j) ∧ (∀ c ∈ kids G, ∀ d ∈ kids G, kad G c = kad G d → c = d) ∧
  (∀ c ∈ kids G, ∀ j, j < (ksh c.1 c.2).2 → kty c.1 j = 2 → krf c.1 c.2 j ∈ kids G) ∧ (∀ c ∈ kids G, ∀ j v, j < (ksh c.1 c.2).2 → kty c.1 j = 3 → kdy v ∈ kids G) ∧
  ∀ c ∈ kids G, (ksh c.1 c.2).1 = 2 → ∀ j, j < (ksh c.1 c.2).2 → krf c.1 c.2 j ∈ kids G
theorem kv_get (G : kG) (σ : kS) (k i j : Nat) : kv G (kget σ k i j) = kslot G σ (k, i) j := by
  unfold kget kslot
  dsimp only
  split <;> rfl
theorem kE_i {G : kG} {σ : kS} {k i n : Nat} (h : ksh k i = (0, n)) : kE G σ (k, i) = .inl (G.2.1.1, n, .inl fun j => Int32.ofInt (σ k i j)) := by simp only [kE, h]
theorem kE_z {G : kG} {σ : kS} {k i n : Nat} (h : ksh k i = (1, n)) : kE G σ (k, i) = .inl (G.2.1.2.1, n, .inl fun j => Int32.ofInt (σ k i j)) := by simp only [kE, h]
theorem kE_q {G : kG} {σ : kS} {k i n : Nat} (h : ksh k i = (2, n)) : kE G σ (k, i) = .inl (G.2.1.2.2, n, .inr (.inr (.inr (.inr fun j => some (kad G (krf k i j)))))) := by simp only [kE, h]
theorem kE_o {G : kG} {σ : kS} {k i n : Nat} (h : ksh k i = (3, n)) : kE G σ (k, i) = .inr (k, (List.range n).map (kslot G σ (k, i))) := by simp only [kE, h]
theorem kE_ne {G : kG} {σ σ' : kS} {c : Nat × Nat} (h : ∀ j, σ' c.1 c.2 j = σ c.1 c.2 j) : kE G σ' c = kE G σ c := by
  have e : σ' c.1 c.2 = σ c.1 c.2 := funext h
  have e2 : kslot G σ' c = kslot G σ c := by funext j; simp only [kslot, e]
  simp only [kE, e, e2]
theorem kw_at {G : kG} {c : Nat × Nat} (h : c ∈ kids G) : ∃ q : Nat, (kids G)[q]? = some c ∧ ∀ σ, (kw G σ)[q]? = some (kad G c, kE G σ c) := by
  obtain ⟨q, hq⟩ := List.getElem?_of_mem h
  exact ⟨q, hq, fun σ => by simp only [kw, List.getElem?_map, hq, Option.map_some]⟩
theorem kw_set {G : kG} {σ σ' : kS} {c : Nat × Nat} {q : Nat} {e : va_E} (hok : kOK G) (hq : (kids G)[q]? = some c) (h1 : kE G σ' c = e) (h2 : ∀ d, d ≠ c → kE G σ' d = kE G σ d) : (kw G σ).set q (kad G c, e) = kw G σ' := by
  apply List.ext_getElem?
  intro j
  simp only [kw, List.getElem?_set, List.getElem?_map, List.length_map]
  by_cases hj : q = j
  · subst hj
    have hlt : q < (kids G).length := (List.getElem?_eq_some_iff.mp hq).1
    rw [if_pos rfl, if_pos hlt, hq, Option.map_some, h1]
  · rw [if_neg hj]
    cases hc : (kids G)[j]? with
    | none => rfl
    | some d =>
      have hd : d ≠ c := fun e => hj (hok.1 q j c hq (e ▸ hc))
      simp only [Option.map_some, h2 d hd]
theorem kD {G : kG} (hok : kOK G) (σ : kS) : va_D (kA G) (kw G σ) := by
  constructor
  · intro i j p q hp hq hpq
    simp only [kw, List.getElem?_map, Option.map_eq_some_iff] at hp hq
    obtain ⟨c, hc, rfl⟩ := hp
    obtain ⟨d, hd, rfl⟩ := hq
    have h := hok.2.1 c (List.mem_of_getElem? hc) d (List.mem_of_getElem? hd) hpq
    subst h
    exact hok.1 i j c hc hd
  · intro k q hq
    simp only [kw, List.getElem?_map, Option.map_eq_some_iff] at hq
    obtain ⟨c, hc, rfl⟩ := hq
    exact ⟨c, List.mem_of_getElem? hc, rfl⟩
def kOkV (G : kG) : kV → Prop
  | .inl _ => True
  | .inr c => c ∈ kids G
def kHas (G : kG) (ls : Array Slot) (n : Nat) (L : kL) : Prop := ls.size = n ∧ lv_wf ls ∧ ∀ (i : Nat) (v : kV), L[i]? = some (some v) → ls[i]? = some (.val (kv G v)) ∧ kOkV G v
def kass (G : kG) (L : kL) : List (Nat × Value) := L.zipIdx.filterMap fun q => q.1.map fun v => (q.2, kv G v)
theorem kass_mem {G : kG} {L : kL} {i : Nat} {u : Value} : (i, u) ∈ kass G L ↔ ∃ v, L[i]? = some (some v) ∧ u = kv G v := by
  unfold kass
  rw [List.mem_filterMap]
  constructor
  · rintro ⟨⟨o, j⟩, h1, h2⟩
    rw [List.mk_mem_zipIdx_iff_getElem?] at h1
    cases o with
    | none => cases h2
    | some v =>
      simp only [Option.map_some, Option.some.injEq, Prod.mk.injEq] at h2
      obtain ⟨rfl, rfl⟩ := h2
      exact ⟨v, h1, rfl⟩
  · rintro ⟨v, h1, rfl⟩
    exact ⟨(some v, i), List.mk_mem_zipIdx_iff_getElem?.mpr h1, rfl⟩
theorem kv_cat (G : kG) (v : kV) : (kv G v).category = 1 := by cases v <;> rfl
theorem kHas.lv {G : kG} {ls : Array Slot} {n : Nat} {L : kL} (h : kHas G ls n L) : lv_has ls n (kass G L) := by
  refine ⟨h.1, h.2.1, fun q hq => ?_⟩
  obtain ⟨i, u⟩ := q
  obtain ⟨v, h1, rfl⟩ := kass_mem.mp hq
  exact (h.2.2 i v h1).1
theorem kHas.back {G : kG} {ls ls' : Array Slot} {n i : Nat} {L : kL} {v : kV} (h0 : kHas G ls n L) (hv : kOkV G v) (h : lv_has ls' n ((i, kv G v) :: (kass G L).filter (fun q => !(q.1 == i) && !(q.1 + 1 == i && q.2.category == 2)))) : kHas G ls' n (L.set i (some v)) := by
  refine ⟨h.1, h.2.1, fun j w hj => ?_⟩
  rw [List.getElem?_set] at hj
  by_cases e : i = j
  · subst e
    rw [if_pos rfl] at hj
    by_cases hlt : i < L.length
    · rw [if_pos hlt] at hj
      cases hj
      exact ⟨h.2.2 (i, kv G v) List.mem_cons_self, hv⟩
    · rw [if_neg hlt] at hj
      cases hj
  · rw [if_neg e] at hj
    refine ⟨h.2.2 (j, kv G w) (List.mem_cons_of_mem _ (List.mem_filter.mpr ⟨kass_mem.mpr ⟨w, hj, rfl⟩, ?_⟩)), (h0.2.2 j w hj).2⟩
    have e1 : (j == i) = false := by simpa using fun q => e q.symm
    simp [e1, kv_cat]
/-- locals that are known no more -/
theorem kHas.less {G : kG} {ls : Array Slot} {n : Nat} {L L' : kL} (h : kHas G ls n L) (hle : ∀ (i : Nat) (v : kV), L'[i]? = some (some v) → L[i]? = some (some v)) : kHas G ls n L' := ⟨h.1, h.2.1, fun i v hi => h.2.2 i v (hle i v hi)⟩
def kR (d : Nat × Nat) : Room := { frames := d.1, cells := 0, slots := 0, locals := d.2 }
def kri (x : Int) : Value := .int (Int32.ofInt x)
def kQ (G : kG) (Q : Option Int → kS → Prop) : Array Value → State → Outcome → State → Prop := fun _ st oc t =>
  (∃ (r : Option Int) (σ : kS), oc = .returned (r.map kri) ∧ Q r σ ∧ va_P G.1 vwCl (kw G σ) t.heap ∧ va_K G.1 vwCl (ktys G) t) ∧ va_F (kA G) st t
def kCx (l : Launch) (G : kG) (d : Nat × Nat) (M : kM) (p : Program) (e : Env) (s : State) (m : MethodId) (args : Array Value) (below : List Frame) (meth : Method) (c : Code) : Prop :=
  CallFix p m c M.2.1 M.2.2.1 s args kWS M.1 ∧ va_K G.1 vwCl (ktys G) s ∧ meth.sig.returnType = M.2.2.2 ∧ meth.locks = false ∧ kOK G
/-- from here the method comes to its end with Q -/
def Rn (l : Launch) (G : kG) (d : Nat × Nat) (M : kM) (Q : Option Int → kS → Prop) (pc : Nat) (L : kL) (st : List kV) (σ : kS) : Prop :=
  ∀ (p : Program) (e : Env) (s : State) (m : MethodId) (args : Array Value) (below : List Frame) (meth : Method) (c : Code), kCx l G d M p e s m args below meth c →
  ∀ (ls : Array Slot) (H : Heap) (locs : List Loc), kHas G ls M.2.2.1 L → (∀ v ∈ st, kOkV G v) → va_P G.1 vwCl (kw G σ) H → va_S (kA G) s.heap H locs →
    W p l e (kR d) s m args below meth c H locs 0 0 (MQ below (kQ G Q) args s 0 0 (kA G)) (F0 m pc ls (st.map (kv G)))
section KR
variable {l : Launch} {G : kG} {d : Nat × Nat} {M : kM} {Q : Option Int → kS → Prop} {pc : Nat} {L L' : kL} {st st' : List kV} {σ σ' : kS}
theorem Rn.less (hle : ∀ (i : Nat) (v : kV), L'[i]? = some (some v) → L[i]? = some (some v)) (k : Rn l G d M Q pc L' st σ) : Rn l G d M Q pc L st σ :=
  fun p e s m args below meth c C ls H locs hL hs hP hS => k p e s m args below meth c C ls H locs (hL.less hle) hs hP hS
theorem Rn.pure {pc' : Nat} (hst : (∀ v ∈ st, kOkV G v) → ∀ v ∈ st', kOkV G v)
    (h : ∀ (p : Program) (e : Env) (s : State) (m : MethodId) (args : Array Value) (below : List Frame) (meth : Method) (c : Code), kCx l G d M p e s m args below meth c → ∀ (ls : Array Slot) (H : Heap) (locs : List Loc),
      W p l e (kR d) s m args below meth c H locs 0 0 (MQ below (kQ G Q) args s 0 0 (kA G)) (F0 m pc' ls (st'.map (kv G))) → W p l e (kR d) s m args below meth c H locs 0 0 (MQ below (kQ G Q) args s 0 0 (kA G)) (F0 m pc ls (st.map (kv G))))
    (k : Rn l G d M Q pc' L st' σ) : Rn l G d M Q pc L st σ :=
  fun p e s m args below meth c C ls H locs hL hs hP hS => h p e s m args below meth c C ls H locs (k p e s m args below meth c C ls H locs hL (hst hs) hP hS)
theorem kok2 {a : kV} {b : List kV} (h : ∀ v ∈ a :: b, kOkV G v) : kOkV G a ∧ ∀ v ∈ b, kOkV G v := ⟨h a List.mem_cons_self, fun v hv => h v (List.mem_cons_of_mem _ hv)⟩
theorem kokI {x : Int} {b : List kV} (h : ∀ v ∈ b, kOkV G v) : ∀ v ∈ (.inl x : kV) :: b, kOkV G v := fun v hv => by
  rcases List.mem_cons.mp hv with rfl | hv
  · exact trivial
  · exact h v hv
theorem kokR {c : Nat × Nat} {b : List kV} (hc : c ∈ kids G) (h : ∀ v ∈ b, kOkV G v) : ∀ v ∈ (.inr c : kV) :: b, kOkV G v := fun v hv => by
  rcases List.mem_cons.mp hv with rfl | hv
  · exact hc
  · exact h v hv
theorem kokV {a : kV} {b : List kV} (hc : kOkV G a) (h : ∀ v ∈ b, kOkV G v) : ∀ v ∈ a :: b, kOkV G v := fun v hv => by
  rcases List.mem_cons.mp hv with rfl | hv
  · exact hc
  · exact h v hv
theorem Rn.iconst {n : Int} (hd : decode M.2.1 pc = .ok (.iconst n, 1)) (k : Rn l G d M Q (pc + 1) L (.inl n :: st) σ) : Rn l G d M Q pc L st σ :=
  Rn.pure kokI (fun p e s m args below meth c C ls H locs w => lv_iconst C.1.1 C.1.2.1 hd rfl w) k
theorem k_i8 {n : Int} (h1 : -128 ≤ n) (h2 : n < 128) : (Int8.ofInt n).toInt32 = Int32.ofInt n := by
  apply Int32.toInt_inj.mp
  rw [Int8.toInt_toInt32, Int8.toInt_ofInt_of_le (by omega) (by omega), Int32.toInt_ofInt_of_le (by omega) (by omega)]
theorem k_i16 {n : Int} (h1 : -32768 ≤ n) (h2 : n < 32768) : (Int16.ofInt n).toInt32 = Int32.ofInt n := by
  apply Int32.toInt_inj.mp
  rw [Int16.toInt_toInt32, Int16.toInt_ofInt_of_le (by omega) (by omega), Int32.toInt_ofInt_of_le (by omega) (by omega)]
theorem Rn.bipush {n : Int} (h1 : -128 ≤ n) (h2 : n < 128) (hd : decode M.2.1 pc = .ok (.bipush n, 2)) (k : Rn l G d M Q (pc + 2) L (.inl n :: st) σ) : Rn l G d M Q pc L st σ :=
  Rn.pure kokI (fun p e s m args below meth c C ls H locs w => lv_bipush C.1.1 C.1.2.1 hd (k_i8 h1 h2) w) k
theorem Rn.sipush {n : Int} (h1 : -32768 ≤ n) (h2 : n < 32768) (hd : decode M.2.1 pc = .ok (.sipush n, 3)) (k : Rn l G d M Q (pc + 3) L (.inl n :: st) σ) : Rn l G d M Q pc L st σ :=
  Rn.pure kokI (fun p e s m args below meth c C ls H locs w => lv_sipush C.1.1 C.1.2.1 hd (k_i16 h1 h2) w) k

theorem Rn.iload_n {k : Fin 4} {x : Int} (hd : decode M.2.1 pc = .ok (.iload_n k, 1)) (hl : L[k.val]? = some (some (.inl x))) (kk : Rn l G d M Q (pc + 1) L (.inl x :: st) σ) : Rn l G d M Q pc L st σ :=
  fun p e s m args below meth c C ls H locs hL hs hP hS => lv_iload_n C.1.1 C.1.2.1 hd rfl (hL.2.2 _ _ hl).1 (kk p e s m args below meth c C ls H locs hL (kokV (hL.2.2 _ _ hl).2 hs) hP hS)
theorem Rn.iload {k : Nat} {x : Int} (hd : decode M.2.1 pc = .ok (.iload k, 2)) (hl : L[k]? = some (some (.inl x))) (kk : Rn l G d M Q (pc + 2) L (.inl x :: st) σ) : Rn l G d M Q pc L st σ :=
  fun p e s m args below meth c C ls H locs hL hs hP hS => lv_iload C.1.1 C.1.2.1 hd (hL.2.2 _ _ hl).1 (kk p e s m args below meth c C ls H locs hL (kokV (hL.2.2 _ _ hl).2 hs) hP hS)
theorem Rn.aload_n {k : Fin 4} {x : Nat × Nat} (hd : decode M.2.1 pc = .ok (.aload_n k, 1)) (hl : L[k.val]? = some (some (.inr x))) (kk : Rn l G d M Q (pc + 1) L (.inr x :: st) σ) : Rn l G d M Q pc L st σ :=
  fun p e s m args below meth c C ls H locs hL hs hP hS => lv_aload_n C.1.1 C.1.2.1 hd rfl (hL.2.2 _ _ hl).1 (kk p e s m args below meth c C ls H locs hL (kokV (hL.2.2 _ _ hl).2 hs) hP hS)
theorem Rn.aload {k : Nat} {x : Nat × Nat} (hd : decode M.2.1 pc = .ok (.aload k, 2)) (hl : L[k]? = some (some (.inr x))) (kk : Rn l G d M Q (pc + 2) L (.inr x :: st) σ) : Rn l G d M Q pc L st σ :=
  fun p e s m args below meth c C ls H locs hL hs hP hS => lv_aload C.1.1 C.1.2.1 hd (hL.2.2 _ _ hl).1 (kk p e s m args below meth c C ls H locs hL (kokV (hL.2.2 _ _ hl).2 hs) hP hS)
theorem Rn.istore_n {k : Fin 4} {x : Int} (hd : decode M.2.1 pc = .ok (.istore_n k, 1)) (hi : k.val < M.2.2.1) (kk : Rn l G d M Q (pc + 1) (L.set k.val (some (.inl x))) st σ) : Rn l G d M Q pc L (.inl x :: st) σ :=
  fun p e s m args below meth c C ls H locs hL hs hP hS => lv_istore_n C.1.1 C.1.2.1 hd rfl hL.lv hi rfl fun ls' hL' => kk p e s m args below meth c C ls' H locs (kHas.back (v := .inl x) hL (kok2 hs).1 hL') (kok2 hs).2 hP hS
theorem Rn.istore {k : Nat} {x : Int} (hd : decode M.2.1 pc = .ok (.istore k, 2)) (hi : k < M.2.2.1) (kk : Rn l G d M Q (pc + 2) (L.set k (some (.inl x))) st σ) : Rn l G d M Q pc L (.inl x :: st) σ :=
  fun p e s m args below meth c C ls H locs hL hs hP hS => lv_istore C.1.1 C.1.2.1 hd hL.lv hi rfl fun ls' hL' => kk p e s m args below meth c C ls' H locs (kHas.back (v := .inl x) hL (kok2 hs).1 hL') (kok2 hs).2 hP hS
theorem Rn.astore_n {k : Fin 4} {x : Nat × Nat} (hd : decode M.2.1 pc = .ok (.astore_n k, 1)) (hi : k.val < M.2.2.1) (kk : Rn l G d M Q (pc + 1) (L.set k.val (some (.inr x))) st σ) : Rn l G d M Q pc L (.inr x :: st) σ :=
  fun p e s m args below meth c C ls H locs hL hs hP hS => lv_astore_n C.1.1 C.1.2.1 hd rfl hL.lv hi rfl fun ls' hL' => kk p e s m args below meth c C ls' H locs (kHas.back (v := .inr x) hL (kok2 hs).1 hL') (kok2 hs).2 hP hS
theorem Rn.astore {k : Nat} {x : Nat × Nat} (hd : decode M.2.1 pc = .ok (.astore k, 2)) (hi : k < M.2.2.1) (kk : Rn l G d M Q (pc + 2) (L.set k (some (.inr x))) st σ) : Rn l G d M Q pc L (.inr x :: st) σ :=
  fun p e s m args below meth c C ls H locs hL hs hP hS => lv_astore C.1.1 C.1.2.1 hd hL.lv hi rfl fun ls' hL' => kk p e s m args below meth c C ls' H locs (kHas.back (v := .inr x) hL (kok2 hs).1 hL') (kok2 hs).2 hP hS
theorem Rn.iinc {k : Nat} {n x : Int} (hd : decode M.2.1 pc = .ok (.iinc k n, 3)) (hl : L[k]? = some (some (.inl x))) (hi : k < M.2.2.1) (kk : Rn l G d M Q (pc + 3) (L.set k (some (.inl (x + n)))) st σ) : Rn l G d M Q pc L st σ := by
  intro p e s m args below meth c C ls H locs hL hs hP hS
  have hm : (k, kv G (.inl x)) ∈ kass G L := kass_mem.mpr ⟨_, hl, rfl⟩
  obtain ⟨q, hq⟩ := List.getElem?_of_mem hm
  exact lv_iinc C.1.1 C.1.2.1 hd hL.lv hq (Int32.ofInt_add x n).symm hi rfl fun ls' hL' => kk p e s m args below meth c C ls' H locs (kHas.back (v := .inl (x + n)) hL trivial hL') hs hP hS
def kand (x y : Int) : Int := (Int32.ofInt x &&& Int32.ofInt y).toInt
def kor (x y : Int) : Int := (Int32.ofInt x ||| Int32.ofInt y).toInt
def kxor (x y : Int) : Int := (Int32.ofInt x ^^^ Int32.ofInt y).toInt
def kshl (x y : Int) : Int := (Int32.ofInt x <<< (Int32.ofInt y &&& 31)).toInt
def kshr (x y : Int) : Int := (Int32.ofInt x >>> (Int32.ofInt y &&& 31)).toInt
def kdiv (x y : Int) : Int := (Int32.ofInt x / Int32.ofInt y).toInt
def kmod (x y : Int) : Int := (Int32.ofInt x - Int32.ofInt x / Int32.ofInt y * Int32.ofInt y).toInt
theorem Rn.iadd {x y : Int} (hd : decode M.2.1 pc = .ok (.iadd, 1)) (k : Rn l G d M Q (pc + 1) L (.inl (x + y) :: st) σ) : Rn l G d M Q pc L (.inl y :: .inl x :: st) σ :=
  Rn.pure (fun h => kokI (kok2 (kok2 h).2).2) (fun p e s m args below meth c C ls H locs w => lv_iadd C.1.1 C.1.2.1 hd (by rw [← Int32.ofInt_add]; exact w)) k
theorem Rn.isub {x y : Int} (hd : decode M.2.1 pc = .ok (.isub, 1)) (k : Rn l G d M Q (pc + 1) L (.inl (x - y) :: st) σ) : Rn l G d M Q pc L (.inl y :: .inl x :: st) σ :=
  Rn.pure (fun h => kokI (kok2 (kok2 h).2).2) (fun p e s m args below meth c C ls H locs w => lv_isub C.1.1 C.1.2.1 hd (by rw [← Int32.ofInt_sub]; exact w)) k
theorem Rn.imul {x y : Int} (hd : decode M.2.1 pc = .ok (.imul, 1)) (k : Rn l G d M Q (pc + 1) L (.inl (x * y) :: st) σ) : Rn l G d M Q pc L (.inl y :: .inl x :: st) σ :=
  Rn.pure (fun h => kokI (kok2 (kok2 h).2).2) (fun p e s m args below meth c C ls H locs w => lv_imul C.1.1 C.1.2.1 hd (by rw [← Int32.ofInt_mul]; exact w)) k
theorem Rn.iand {x y : Int} (hd : decode M.2.1 pc = .ok (.iand, 1)) (k : Rn l G d M Q (pc + 1) L (.inl (kand x y) :: st) σ) : Rn l G d M Q pc L (.inl y :: .inl x :: st) σ :=
  Rn.pure (fun h => kokI (kok2 (kok2 h).2).2) (fun p e s m args below meth c C ls H locs w => lv_iand C.1.1 C.1.2.1 hd (by simpa only [List.map_cons, kv, kand, Int32.ofInt_toInt] using w)) k
theorem Rn.ior {x y : Int} (hd : decode M.2.1 pc = .ok (.ior, 1)) (k : Rn l G d M Q (pc + 1) L (.inl (kor x y) :: st) σ) : Rn l G d M Q pc L (.inl y :: .inl x :: st) σ :=
  Rn.pure (fun h => kokI (kok2 (kok2 h).2).2) (fun p e s m args below meth c C ls H locs w => lv_ior C.1.1 C.1.2.1 hd (by simpa only [List.map_cons, kv, kor, Int32.ofInt_toInt] using w)) k
theorem Rn.ixor {x y : Int} (hd : decode M.2.1 pc = .ok (.ixor, 1)) (k : Rn l G d M Q (pc + 1) L (.inl (kxor x y) :: st) σ) : Rn l G d M Q pc L (.inl y :: .inl x :: st) σ :=
  Rn.pure (fun h => kokI (kok2 (kok2 h).2).2) (fun p e s m args below meth c C ls H locs w => lv_ixor C.1.1 C.1.2.1 hd (by simpa only [List.map_cons, kv, kxor, Int32.ofInt_toInt] using w)) k
theorem Rn.ishl {x y : Int} (hd : decode M.2.1 pc = .ok (.ishl, 1)) (k : Rn l G d M Q (pc + 1) L (.inl (kshl x y) :: st) σ) : Rn l G d M Q pc L (.inl y :: .inl x :: st) σ :=
  Rn.pure (fun h => kokI (kok2 (kok2 h).2).2) (fun p e s m args below meth c C ls H locs w => lv_ishl C.1.1 C.1.2.1 hd (by simpa only [List.map_cons, kv, kshl, Int32.ofInt_toInt] using w)) k
theorem Rn.ishr {x y : Int} (hd : decode M.2.1 pc = .ok (.ishr, 1)) (k : Rn l G d M Q (pc + 1) L (.inl (kshr x y) :: st) σ) : Rn l G d M Q pc L (.inl y :: .inl x :: st) σ :=
  Rn.pure (fun h => kokI (kok2 (kok2 h).2).2) (fun p e s m args below meth c C ls H locs w => lv_ishr C.1.1 C.1.2.1 hd (by simpa only [List.map_cons, kv, kshr, Int32.ofInt_toInt] using w)) k
theorem Rn.idiv {x y : Int} (hy : ¬ Int32.ofInt y = 0) (hd : decode M.2.1 pc = .ok (.idiv, 1)) (k : Rn l G d M Q (pc + 1) L (.inl (kdiv x y) :: st) σ) : Rn l G d M Q pc L (.inl y :: .inl x :: st) σ :=
  Rn.pure (fun h => kokI (kok2 (kok2 h).2).2) (fun p e s m args below meth c C ls H locs w => lv_idiv C.1.1 C.1.2.1 hd hy (by simpa only [List.map_cons, kv, kdiv, Int32.ofInt_toInt] using w)) k
theorem Rn.irem {x y : Int} (hy : ¬ Int32.ofInt y = 0) (hd : decode M.2.1 pc = .ok (.irem, 1)) (k : Rn l G d M Q (pc + 1) L (.inl (kmod x y) :: st) σ) : Rn l G d M Q pc L (.inl y :: .inl x :: st) σ :=
  Rn.pure (fun h => kokI (kok2 (kok2 h).2).2) (fun p e s m args below meth c C ls H locs w => lv_irem C.1.1 C.1.2.1 hd hy (by simpa only [List.map_cons, kv, kmod, Int32.ofInt_toInt] using w)) k
theorem Rn.ineg {x : Int} (hd : decode M.2.1 pc = .ok (.ineg, 1)) (k : Rn l G d M Q (pc + 1) L (.inl (-x) :: st) σ) : Rn l G d M Q pc L (.inl x :: st) σ :=
  Rn.pure (fun h => kokI (kok2 h).2) (fun p e s m args below meth c C ls H locs w => lv_ineg C.1.1 C.1.2.1 hd (by rw [← Int32.ofInt_neg]; exact w)) k
theorem Rn.dup {a : kV} (hd : decode M.2.1 pc = .ok (.dup, 1)) (k : Rn l G d M Q (pc + 1) L (a :: a :: st) σ) : Rn l G d M Q pc L (a :: st) σ :=
  Rn.pure (fun h => kokV (kok2 h).1 h) (fun p e s m args below meth c C ls H locs w => lv_dup C.1.1 C.1.2.1 hd (kv_cat G a) w) k
theorem Rn.pop {a : kV} (hd : decode M.2.1 pc = .ok (.pop, 1)) (k : Rn l G d M Q (pc + 1) L st σ) : Rn l G d M Q pc L (a :: st) σ :=
  Rn.pure (fun h => (kok2 h).2) (fun p e s m args below meth c C ls H locs w => lv_pop C.1.1 C.1.2.1 hd (kv_cat G a) w) k
theorem Rn.dup_x1 {a b : kV} (hd : decode M.2.1 pc = .ok (.dup_x1, 1)) (k : Rn l G d M Q (pc + 1) L (a :: b :: a :: st) σ) : Rn l G d M Q pc L (a :: b :: st) σ :=
  Rn.pure (fun h => kokV (kok2 h).1 (kokV (kok2 (kok2 h).2).1 (kokV (kok2 h).1 (kok2 (kok2 h).2).2))) (fun p e s m args below meth c C ls H locs w => lv_dup_x1 C.1.1 C.1.2.1 hd (kv_cat G a) (kv_cat G b) w) k
theorem Rn.dup2 {a b : kV} (hd : decode M.2.1 pc = .ok (.dup2, 1)) (k : Rn l G d M Q (pc + 1) L (a :: b :: a :: b :: st) σ) : Rn l G d M Q pc L (a :: b :: st) σ :=
  Rn.pure (fun h => kokV (kok2 h).1 (kokV (kok2 (kok2 h).2).1 h)) (fun p e s m args below meth c C ls H locs w => lv_dup2_11 C.1.1 C.1.2.1 hd (kv_cat G a) (kv_cat G b) w) k
theorem Rn.goto {off : Int} {tgt : Nat} (hd : decode M.2.1 pc = .ok (.goto off, 3)) (ht : (pc : Int) + off = (tgt : Int)) (k : Rn l G d M Q tgt L st σ) : Rn l G d M Q pc L st σ :=
  Rn.pure (fun h => h) (fun p e s m args below meth c C ls H locs w => lv_goto C.1.1 C.1.2.1 hd ht w) k
theorem k_toInt {x : Int} (h : -2147483648 ≤ x ∧ x < 2147483648) : (Int32.ofInt x).toInt = x := Int32.toInt_ofInt_of_le (by omega) (by omega)
theorem k_eq {x y : Int} (hx : -2147483648 ≤ x ∧ x < 2147483648) (hy : -2147483648 ≤ y ∧ y < 2147483648) : (Int32.ofInt x = Int32.ofInt y) ↔ x = y := by
  rw [← Int32.toInt_inj, k_toInt hx, k_toInt hy]
theorem k_lt {x y : Int} (hx : -2147483648 ≤ x ∧ x < 2147483648) (hy : -2147483648 ≤ y ∧ y < 2147483648) : (Int32.ofInt x < Int32.ofInt y) ↔ x < y := by
  rw [Int32.lt_iff_toInt_lt, k_toInt hx, k_toInt hy]
theorem k_le {x y : Int} (hx : -2147483648 ≤ x ∧ x < 2147483648) (hy : -2147483648 ≤ y ∧ y < 2147483648) : (Int32.ofInt x ≤ Int32.ofInt y) ↔ x ≤ y := by
  rw [Int32.le_iff_toInt_le, k_toInt hx, k_toInt hy]
theorem k_0 : Int32.ofInt 0 = 0 := rfl
theorem Rn.icmp_eq {x y off : Int} {tgt : Nat} (hx : -2147483648 ≤ x ∧ x < 2147483648) (hy : -2147483648 ≤ y ∧ y < 2147483648) (hd : decode M.2.1 pc = .ok (.if_icmp .eq off, 3)) (ht : (pc : Int) + off = (tgt : Int)) (kt : x = y → Rn l G d M Q tgt L st σ) (kf : ¬ x = y → Rn l G d M Q (pc + 3) L st σ) : Rn l G d M Q pc L (.inl y :: .inl x :: st) σ :=
  fun p e s m args below meth c C ls H locs hL hs hP hS => lv_icmp_eq C.1.1 C.1.2.1 hd ht (fun h => kt ((k_eq hx hy).mp h) p e s m args below meth c C ls H locs hL (kok2 (kok2 hs).2).2 hP hS) (fun h => kf (fun q => h ((k_eq hx hy).mpr q)) p e s m args below meth c C ls H locs hL (kok2 (kok2 hs).2).2 hP hS)
theorem Rn.if_eq {x off : Int} {tgt : Nat} (hx : -2147483648 ≤ x ∧ x < 2147483648) (hd : decode M.2.1 pc = .ok (.ifCond .eq off, 3)) (ht : (pc : Int) + off = (tgt : Int)) (kt : x = 0 → Rn l G d M Q tgt L st σ) (kf : ¬ x = 0 → Rn l G d M Q (pc + 3) L st σ) : Rn l G d M Q pc L (.inl x :: st) σ :=
  fun p e s m args below meth c C ls H locs hL hs hP hS => lv_if_eq C.1.1 C.1.2.1 hd ht (fun h => kt ((k_eq hx (by decide : -2147483648 ≤ (0 : Int) ∧ (0 : Int) < 2147483648)).mp h) p e s m args below meth c C ls H locs hL (kok2 hs).2 hP hS) (fun h => kf (fun q => h ((k_eq hx (by decide : -2147483648 ≤ (0 : Int) ∧ (0 : Int) < 2147483648)).mpr q)) p e s m args below meth c C ls H locs hL (kok2 hs).2 hP hS)
theorem Rn.icmp_ne {x y off : Int} {tgt : Nat} (hx : -2147483648 ≤ x ∧ x < 2147483648) (hy : -2147483648 ≤ y ∧ y < 2147483648) (hd : decode M.2.1 pc = .ok (.if_icmp .ne off, 3)) (ht : (pc : Int) + off = (tgt : Int)) (kt : ¬ x = y → Rn l G d M Q tgt L st σ) (kf : x = y → Rn l G d M Q (pc + 3) L st σ) : Rn l G d M Q pc L (.inl y :: .inl x :: st) σ :=
  fun p e s m args below meth c C ls H locs hL hs hP hS => lv_icmp_ne C.1.1 C.1.2.1 hd ht (fun h => kt (fun q => h ((k_eq hx hy).mpr q)) p e s m args below meth c C ls H locs hL (kok2 (kok2 hs).2).2 hP hS) (fun h => kf ((k_eq hx hy).mp h) p e s m args below meth c C ls H locs hL (kok2 (kok2 hs).2).2 hP hS)
theorem Rn.if_ne {x off : Int} {tgt : Nat} (hx : -2147483648 ≤ x ∧ x < 2147483648) (hd : decode M.2.1 pc = .ok (.ifCond .ne off, 3)) (ht : (pc : Int) + off = (tgt : Int)) (kt : ¬ x = 0 → Rn l G d M Q tgt L st σ) (kf : x = 0 → Rn l G d M Q (pc + 3) L st σ) : Rn l G d M Q pc L (.inl x :: st) σ :=
  fun p e s m args below meth c C ls H locs hL hs hP hS => lv_if_ne C.1.1 C.1.2.1 hd ht (fun h => kt (fun q => h ((k_eq hx (by decide : -2147483648 ≤ (0 : Int) ∧ (0 : Int) < 2147483648)).mpr q)) p e s m args below meth c C ls H locs hL (kok2 hs).2 hP hS) (fun h => kf ((k_eq hx (by decide : -2147483648 ≤ (0 : Int) ∧ (0 : Int) < 2147483648)).mp h) p e s m args below meth c C ls H locs hL (kok2 hs).2 hP hS)
theorem Rn.icmp_lt {x y off : Int} {tgt : Nat} (hx : -2147483648 ≤ x ∧ x < 2147483648) (hy : -2147483648 ≤ y ∧ y < 2147483648) (hd : decode M.2.1 pc = .ok (.if_icmp .lt off, 3)) (ht : (pc : Int) + off = (tgt : Int)) (kt : x < y → Rn l G d M Q tgt L st σ) (kf : ¬ x < y → Rn l G d M Q (pc + 3) L st σ) : Rn l G d M Q pc L (.inl y :: .inl x :: st) σ :=
  fun p e s m args below meth c C ls H locs hL hs hP hS => lv_icmp_lt C.1.1 C.1.2.1 hd ht (fun h => kt ((k_lt hx hy).mp h) p e s m args below meth c C ls H locs hL (kok2 (kok2 hs).2).2 hP hS) (fun h => kf (fun q => h ((k_lt hx hy).mpr q)) p e s m args below meth c C ls H locs hL (kok2 (kok2 hs).2).2 hP hS)
theorem Rn.if_lt {x off : Int} {tgt : Nat} (hx : -2147483648 ≤ x ∧ x < 2147483648) (hd : decode M.2.1 pc = .ok (.ifCond .lt off, 3)) (ht : (pc : Int) + off = (tgt : Int)) (kt : x < 0 → Rn l G d M Q tgt L st σ) (kf : ¬ x < 0 → Rn l G d M Q (pc + 3) L st σ) : Rn l G d M Q pc L (.inl x :: st) σ :=
  fun p e s m args below meth c C ls H locs hL hs hP hS => lv_if_lt C.1.1 C.1.2.1 hd ht (fun h => kt ((k_lt hx (by decide : -2147483648 ≤ (0 : Int) ∧ (0 : Int) < 2147483648)).mp h) p e s m args below meth c C ls H locs hL (kok2 hs).2 hP hS) (fun h => kf (fun q => h ((k_lt hx (by decide : -2147483648 ≤ (0 : Int) ∧ (0 : Int) < 2147483648)).mpr q)) p e s m args below meth c C ls H locs hL (kok2 hs).2 hP hS)
theorem Rn.icmp_ge {x y off : Int} {tgt : Nat} (hx : -2147483648 ≤ x ∧ x < 2147483648) (hy : -2147483648 ≤ y ∧ y < 2147483648) (hd : decode M.2.1 pc = .ok (.if_icmp .ge off, 3)) (ht : (pc : Int) + off = (tgt : Int)) (kt : y ≤ x → Rn l G d M Q tgt L st σ) (kf : ¬ y ≤ x → Rn l G d M Q (pc + 3) L st σ) : Rn l G d M Q pc L (.inl y :: .inl x :: st) σ :=
  fun p e s m args below meth c C ls H locs hL hs hP hS => lv_icmp_ge C.1.1 C.1.2.1 hd ht (fun h => kt ((k_le hy hx).mp h) p e s m args below meth c C ls H locs hL (kok2 (kok2 hs).2).2 hP hS) (fun h => kf (fun q => h ((k_le hy hx).mpr q)) p e s m args below meth c C ls H locs hL (kok2 (kok2 hs).2).2 hP hS)
theorem Rn.if_ge {x off : Int} {tgt : Nat} (hx : -2147483648 ≤ x ∧ x < 2147483648) (hd : decode M.2.1 pc = .ok (.ifCond .ge off, 3)) (ht : (pc : Int) + off = (tgt : Int)) (kt : 0 ≤ x → Rn l G d M Q tgt L st σ) (kf : ¬ 0 ≤ x → Rn l G d M Q (pc + 3) L st σ) : Rn l G d M Q pc L (.inl x :: st) σ :=
  fun p e s m args below meth c C ls H locs hL hs hP hS => lv_if_ge C.1.1 C.1.2.1 hd ht (fun h => kt ((k_le (by decide : -2147483648 ≤ (0 : Int) ∧ (0 : Int) < 2147483648) hx).mp h) p e s m args below meth c C ls H locs hL (kok2 hs).2 hP hS) (fun h => kf (fun q => h ((k_le (by decide : -2147483648 ≤ (0 : Int) ∧ (0 : Int) < 2147483648) hx).mpr q)) p e s m args below meth c C ls H locs hL (kok2 hs).2 hP hS)
theorem Rn.icmp_gt {x y off : Int} {tgt : Nat} (hx : -2147483648 ≤ x ∧ x < 2147483648) (hy : -2147483648 ≤ y ∧ y < 2147483648) (hd : decode M.2.1 pc = .ok (.if_icmp .gt off, 3)) (ht : (pc : Int) + off = (tgt : Int)) (kt : y < x → Rn l G d M Q tgt L st σ) (kf : ¬ y < x → Rn l G d M Q (pc + 3) L st σ) : Rn l G d M Q pc L (.inl y :: .inl x :: st) σ :=
  fun p e s m args below meth c C ls H locs hL hs hP hS => lv_icmp_gt C.1.1 C.1.2.1 hd ht (fun h => kt ((k_lt hy hx).mp h) p e s m args below meth c C ls H locs hL (kok2 (kok2 hs).2).2 hP hS) (fun h => kf (fun q => h ((k_lt hy hx).mpr q)) p e s m args below meth c C ls H locs hL (kok2 (kok2 hs).2).2 hP hS)
theorem Rn.if_gt {x off : Int} {tgt : Nat} (hx : -2147483648 ≤ x ∧ x < 2147483648) (hd : decode M.2.1 pc = .ok (.ifCond .gt off, 3)) (ht : (pc : Int) + off = (tgt : Int)) (kt : 0 < x → Rn l G d M Q tgt L st σ) (kf : ¬ 0 < x → Rn l G d M Q (pc + 3) L st σ) : Rn l G d M Q pc L (.inl x :: st) σ :=
  fun p e s m args below meth c C ls H locs hL hs hP hS => lv_if_gt C.1.1 C.1.2.1 hd ht (fun h => kt ((k_lt (by decide : -2147483648 ≤ (0 : Int) ∧ (0 : Int) < 2147483648) hx).mp h) p e s m args below meth c C ls H locs hL (kok2 hs).2 hP hS) (fun h => kf (fun q => h ((k_lt (by decide : -2147483648 ≤ (0 : Int) ∧ (0 : Int) < 2147483648) hx).mpr q)) p e s m args below meth c C ls H locs hL (kok2 hs).2 hP hS)
theorem Rn.icmp_le {x y off : Int} {tgt : Nat} (hx : -2147483648 ≤ x ∧ x < 2147483648) (hy : -2147483648 ≤ y ∧ y < 2147483648) (hd : decode M.2.1 pc = .ok (.if_icmp .le off, 3)) (ht : (pc : Int) + off = (tgt : Int)) (kt : x ≤ y → Rn l G d M Q tgt L st σ) (kf : ¬ x ≤ y → Rn l G d M Q (pc + 3) L st σ) : Rn l G d M Q pc L (.inl y :: .inl x :: st) σ :=
  fun p e s m args below meth c C ls H locs hL hs hP hS => lv_icmp_le C.1.1 C.1.2.1 hd ht (fun h => kt ((k_le hx hy).mp h) p e s m args below meth c C ls H locs hL (kok2 (kok2 hs).2).2 hP hS) (fun h => kf (fun q => h ((k_le hx hy).mpr q)) p e s m args below meth c C ls H locs hL (kok2 (kok2 hs).2).2 hP hS)
theorem Rn.if_le {x off : Int} {tgt : Nat} (hx : -2147483648 ≤ x ∧ x < 2147483648) (hd : decode M.2.1 pc = .ok (.ifCond .le off, 3)) (ht : (pc : Int) + off = (tgt : Int)) (kt : x ≤ 0 → Rn l G d M Q tgt L st σ) (kf : ¬ x ≤ 0 → Rn l G d M Q (pc + 3) L st σ) : Rn l G d M Q pc L (.inl x :: st) σ :=
  fun p e s m args below meth c C ls H locs hL hs hP hS => lv_if_le C.1.1 C.1.2.1 hd ht (fun h => kt ((k_le hx (by decide : -2147483648 ≤ (0 : Int) ∧ (0 : Int) < 2147483648)).mp h) p e s m args below meth c C ls H locs hL (kok2 hs).2 hP hS) (fun h => kf (fun q => h ((k_le hx (by decide : -2147483648 ≤ (0 : Int) ∧ (0 : Int) < 2147483648)).mpr q)) p e s m args below meth c C ls H locs hL (kok2 hs).2 hP hS)
theorem Rn.lookup {x dflt off : Int} {ps : Array (Int × Int)} {len tgt : Nat} (hx : -2147483648 ≤ x ∧ x < 2147483648) (hd : decode M.2.1 pc = .ok (.lookupswitch dflt ps, len)) (hp : (ps.toList.zip (ps.toList.drop 1)).all (fun (a, next) => a.1 < next.1) = true) (ho : Op.lookupswitch.offset ps.toList dflt x = off) (ht : (pc : Int) + off = (tgt : Int)) (k : Rn l G d M Q tgt L st σ) : Rn l G d M Q pc L (.inl x :: st) σ :=
  fun p e s m args below meth c C ls H locs hL hs hP hS => lv_lookup C.1.1 C.1.2.1 hd hp (by rw [k_toInt hx]; exact ho) ht (k p e s m args below meth c C ls H locs hL (kok2 hs).2 hP hS)
theorem Rn.tableOut {x dflt lo hi : Int} {offs : Array Int} {len tgt : Nat} (hx : -2147483648 ≤ x ∧ x < 2147483648) (hd : decode M.2.1 pc = .ok (.tableswitch dflt lo hi offs, len)) (h : x < lo ∨ hi < x) (ht : (pc : Int) + dflt = (tgt : Int)) (k : Rn l G d M Q tgt L st σ) : Rn l G d M Q pc L (.inl x :: st) σ :=
  fun p e s m args below meth c C ls H locs hL hs hP hS => lv_tableOut C.1.1 C.1.2.1 hd (by rw [k_toInt hx]; exact h) ht (k p e s m args below meth c C ls H locs hL (kok2 hs).2 hP hS)
theorem Rn.tableIn {x dflt lo hi off : Int} {offs : Array Int} {len tgt : Nat} (hx : -2147483648 ≤ x ∧ x < 2147483648) (hd : decode M.2.1 pc = .ok (.tableswitch dflt lo hi offs, len)) (h1 : ¬ x < lo) (h2 : ¬ hi < x) (ho : offs[(x - lo).toNat]? = some off) (ht : (pc : Int) + off = (tgt : Int)) (k : Rn l G d M Q tgt L st σ) : Rn l G d M Q pc L (.inl x :: st) σ :=
  fun p e s m args below meth c C ls H locs hL hs hP hS => lv_tableIn C.1.1 C.1.2.1 hd (by rw [k_toInt hx]; exact h1) (by rw [k_toInt hx]; exact h2) (by rw [k_toInt hx]; exact ho) ht (k p e s m args below meth c C ls H locs hL (kok2 hs).2 hP hS)
/-- a field that a method of class 'own' names at 'idx': slot j of a cell of kind k, with N slots, of type ty -/
def kFL (own : String) (idx k j N : Nat) (ty : FieldType) : Prop := ∃ (C : String) (T : u_T) (ty0 : Nat → FieldType), vwCl[k]? = some (C, T, N) ∧ j < N ∧ (∀ w ∈ u_ws C T N, w ∈ kWS) ∧ Cond.fieldLink own idx (T j).1 (T j).2.1 (T j).2.2.1 ∈ kWS ∧
  (∀ q, q < N → parseFieldDescriptor (T q).2.2.1 = some (ty0 q)) ∧ (∀ a, a < N → ∀ b, b < N → a ≠ b → (T a).2.1 ≠ (T b).2.1) ∧ ty0 j = ty
def kFP (k j : Nat) : Prop := ∃ (C : String) (T : u_T) (N : Nat), vwCl[k]? = some (C, T, N) ∧ (T j).2.2.2 = false
theorem Rn.get {idx k i j N : Nat} {ty : FieldType} {v : kV} (hf : kFL M.1 idx k j N ty) (hsh : ksh k i = (3, N)) (hv : kget σ k i j = v) (hd : decode M.2.1 pc = .ok (.getfield idx, 3)) (kk : Rn l G d M Q (pc + 3) L (v :: st) σ) : Rn l G d M Q pc L (.inr (k, i) :: st) σ := by
  intro p e s m args below meth c C ls H locs hL hs hP hS
  subst hv
  obtain ⟨C0, T, ty0, h1, h2, h3, h4, h5, h6, h7⟩ := hf
  have hm : (k, i) ∈ kids G := (kok2 hs).1
  obtain ⟨q, hq, hw⟩ := kw_at hm
  have he := hw σ
  rw [kE_o hsh] at he
  have hvv : ((List.range N).map (kslot G σ (k, i)))[j]? = some (kv G (kget σ k i j)) := by
    rw [List.getElem?_map, List.getElem?_range h2, Option.map_some, kv_get]
  refine va_get C.1.1 C.1.2.1 C.1.2.2.2.2 h3 C.1.2.2.2.1 C.2.1 hP q he h1 j h2 (C.1.2.2.2.2 _ h4) (fun _ h => h) hvv hd (kk p e s m args below meth c C ls H locs hL (kokV ?_ (kok2 hs).2) hP hS)
  have hok := C.2.2.2.2
  unfold kget
  split
  · exact hok.2.2.1 (k, i) hm j (by rw [hsh]; exact h2) (by assumption)
  · exact hok.2.2.2.1 (k, i) hm j _ (by rw [hsh]; exact h2) (by assumption)
  · exact trivial
theorem k_setfs {G : kG} {σ σ' : kS} {k i j N : Nat} {v : Value} (h1 : ∀ q, q ≠ j → kslot G σ' (k, i) q = kslot G σ (k, i) q) (h2 : kslot G σ' (k, i) j = v) : ((List.range N).map (kslot G σ (k, i))).set j v = (List.range N).map (kslot G σ' (k, i)) := by
  apply List.ext_getElem?
  intro q
  rw [List.getElem?_set, List.getElem?_map, List.getElem?_map, List.length_map, List.length_range]
  by_cases hq : j = q
  · subst hq
    rw [if_pos rfl]
    by_cases hlt : j < N
    · rw [if_pos hlt, List.getElem?_range hlt, Option.map_some, h2]
    · rw [if_neg hlt, List.getElem?_eq_none (by simp; omega)]
      rfl
  · rw [if_neg hq]
    by_cases hlt : q < N
    · rw [List.getElem?_range hlt, Option.map_some, Option.map_some, h1 q (fun e => hq e.symm)]
    · rw [List.getElem?_eq_none (by simp; omega)]
      rfl
theorem kup_self (σ : kS) (k i j : Nat) (x : Int) : kup σ k i j x k i j = x := by simp [kup]
theorem kup_slot {σ : kS} {k i j q : Nat} {x : Int} (h : q ≠ j) : kup σ k i j x k i q = σ k i q := by simp [kup, h]
theorem kup_cell {σ : kS} {k i j : Nat} {x : Int} {c : Nat × Nat} (h : c ≠ (k, i)) (q : Nat) : kup σ k i j x c.1 c.2 q = σ c.1 c.2 q := by
  unfold kup
  rw [if_neg]
  rintro ⟨h1, h2, -⟩
  exact h (Prod.ext h1 h2)
theorem kupA_cell {σ : kS} {k i : Nat} {f : Nat → Int} {c : Nat × Nat} (h : c ≠ (k, i)) (q : Nat) : kupA σ k i f c.1 c.2 q = σ c.1 c.2 q := by
  unfold kupA
  rw [if_neg]
  rintro ⟨h1, h2⟩
  exact h (Prod.ext h1 h2)
theorem Rn.putv {idx k i j N : Nat} {ty : FieldType} {v : kV} {x : Int} (hf : kFL M.1 idx k j N ty) (hfp : kFP k j) (hsh : ksh k i = (3, N)) (hn : ∀ G : kG, narrow ty (kv G v) = kv G v) (hfit : ∀ G : kG, fits ty (kv G v) = true) (hsl : ∀ G : kG, kslot G (kup σ k i j x) (k, i) j = kv G v) (hd : decode M.2.1 pc = .ok (.putfield idx, 3)) (kk : Rn l G d M Q (pc + 3) L st (kup σ k i j x)) : Rn l G d M Q pc L (v :: .inr (k, i) :: st) σ := by
  intro p e s m args below meth c C ls H locs hL hs hP hS
  obtain ⟨C0, T, ty0, h1, h2, h3, h4, h5, h6, h7⟩ := hf
  obtain ⟨C1, T1, N1, g1, g2⟩ := hfp
  have hT : T1 = T := by
    have := g1.symm.trans h1
    simp only [Option.some.injEq, Prod.mk.injEq] at this
    exact this.2.1
  subst hT
  have hm : (k, i) ∈ kids G := (kok2 (kok2 hs).2).1
  obtain ⟨q, hq, hw⟩ := kw_at hm
  have he := hw σ
  rw [kE_o hsh] at he
  have hok := C.2.2.2.2
  refine va_put C.1.1 C.1.2.1 C.1.2.2.2.2 h3 ty0 h5 h6 C.1.2.2.2.1 C.2.1 hP (kD hok σ) hS q he h1 j h2 (C.1.2.2.2.2 _ h4) (fun _ h => h) g2 (ty := ty) (by rw [h5 j h2, h7]) (hn G) (hfit G) (by simp; exact h2) hd fun H1 locs1 hP1 hD1 hS1 => ?_
  have e1 : (kw G σ).set q (kad G (k, i), .inr (k, ((List.range N).map (kslot G σ (k, i))).set j (kv G v))) = kw G (kup σ k i j x) := by
    refine kw_set hok hq ?_ (fun c hc => kE_ne (kup_cell hc))
    rw [kE_o hsh, k_setfs (σ' := kup σ k i j x) (fun q hq => ?_) (hsl G)]
    simp only [kslot, kup_slot hq]
  rw [e1] at hP1
  exact kk p e s m args below meth c C ls H1 locs1 hL (kok2 (kok2 hs).2).2 hP1 hS1
theorem Rn.puti {idx k i j N : Nat} {x : Int} (hf : kFL M.1 idx k j N .int) (hfp : kFP k j) (hty : kty k j = 0) (hsh : ksh k i = (3, N)) (hd : decode M.2.1 pc = .ok (.putfield idx, 3)) (kk : Rn l G d M Q (pc + 3) L st (kup σ k i j x)) : Rn l G d M Q pc L (.inl x :: .inr (k, i) :: st) σ :=
  Rn.putv (x := x) hf hfp hsh (fun _ => rfl) (fun _ => rfl) (fun G => by simp only [kslot, hty, kup_self, kv]) hd kk
theorem Rn.putz {idx k i j N : Nat} {x : Int} (hx : x = 0 ∨ x = 1) (hf : kFL M.1 idx k j N .boolean) (hfp : kFP k j) (hty : kty k j = 1) (hsh : ksh k i = (3, N)) (hd : decode M.2.1 pc = .ok (.putfield idx, 3)) (kk : Rn l G d M Q (pc + 3) L st (kup σ k i j x)) : Rn l G d M Q pc L (.inl x :: .inr (k, i) :: st) σ :=
  Rn.putv (x := x) hf hfp hsh (fun _ => by rcases hx with rfl | rfl <;> rfl) (fun _ => by rcases hx with rfl | rfl <;> rfl) (fun G => by simp only [kslot, hty, kup_self, kv]) hd kk
theorem Rn.puta {idx k i j N : Nat} {x : Int} {c : Nat × Nat} {ty : FieldType} (hc : kdy x = c) (hf : kFL M.1 idx k j N ty) (hta : ∀ a : Nat, narrow ty (.ref a) = .ref a ∧ fits ty (.ref a) = true) (hfp : kFP k j) (hty : kty k j = 3) (hsh : ksh k i = (3, N)) (hd : decode M.2.1 pc = .ok (.putfield idx, 3)) (kk : Rn l G d M Q (pc + 3) L st (kup σ k i j x)) : Rn l G d M Q pc L (.inr c :: .inr (k, i) :: st) σ :=
  Rn.putv (x := x) hf hfp hsh (fun G => (hta _).1) (fun G => (hta _).2) (fun G => by simp only [kslot, hty, kup_self, kv, hc]) hd kk
theorem k_nat {x : Int} {n : Nat} (h : 0 ≤ x ∧ x < n) (hn : n < 2147483648) : (Int32.ofInt x).toNatClampNeg = x.toNat := Int32.toNatClampNeg_ofInt_of_le (by omega) (by omega)
theorem k_in {x : Int} {n : Nat} (h : 0 ≤ x ∧ x < n) (hn : n < 2147483648) : vp_in (Int32.ofInt x) n := by
  rw [vp_in_iff, k_toInt ⟨by omega, by omega⟩]
  exact h
theorem Rn.iaload {k i n : Nat} {x : Int} (hsh : ksh k i = (0, n)) (hn : n < 2147483648) (hx : 0 ≤ x ∧ x < n) (hd : decode M.2.1 pc = .ok (.iaload, 1)) (kk : Rn l G d M Q (pc + 1) L (.inl (σ k i x.toNat) :: st) σ) : Rn l G d M Q pc L (.inl x :: .inr (k, i) :: st) σ := by
  intro p e s m args below meth c C ls H locs hL hs hP hS
  obtain ⟨q, hq, hw⟩ := kw_at (kok2 (kok2 hs).2).1
  have he := hw σ
  rw [kE_i hsh] at he
  refine va_iald C.1.1 C.1.2.1 C.2.1 hP q 0 he rfl (k_in hx hn) hd ?_
  rw [k_nat hx hn]
  exact kk p e s m args below meth c C ls H locs hL (kokI (kok2 (kok2 hs).2).2) hP hS
theorem Rn.baload {k i n : Nat} {x : Int} (hsh : ksh k i = (1, n)) (hn : n < 2147483648) (hx : 0 ≤ x ∧ x < n) (hd : decode M.2.1 pc = .ok (.baload, 1)) (kk : Rn l G d M Q (pc + 1) L (.inl (σ k i x.toNat) :: st) σ) : Rn l G d M Q pc L (.inl x :: .inr (k, i) :: st) σ := by
  intro p e s m args below meth c C ls H locs hL hs hP hS
  obtain ⟨q, hq, hw⟩ := kw_at (kok2 (kok2 hs).2).1
  have he := hw σ
  rw [kE_z hsh] at he
  refine va_zald C.1.1 C.1.2.1 C.2.1 hP q 1 he rfl (k_in hx hn) hd ?_
  rw [k_nat hx hn]
  exact kk p e s m args below meth c C ls H locs hL (kokI (kok2 (kok2 hs).2).2) hP hS
theorem Rn.aaload {k i n : Nat} {x : Int} (hsh : ksh k i = (2, n)) (hn : n < 2147483648) (hx : 0 ≤ x ∧ x < n) (hd : decode M.2.1 pc = .ok (.aaload, 1)) (kk : Rn l G d M Q (pc + 1) L (.inr (krf k i x.toNat) :: st) σ) : Rn l G d M Q pc L (.inl x :: .inr (k, i) :: st) σ := by
  intro p e s m args below meth c C ls H locs hL hs hP hS
  have hm : (k, i) ∈ kids G := (kok2 (kok2 hs).2).1
  obtain ⟨q, hq, hw⟩ := kw_at hm
  have he := hw σ
  rw [kE_q hsh] at he
  refine va_aldq C.1.1 C.1.2.1 C.2.1 hP q 2 he rfl (k_in hx hn) hd ?_
  rw [k_nat hx hn]
  exact kk p e s m args below meth c C ls H locs hL (kokR (C.2.2.2.2.2.2.2.2 (k, i) hm (by rw [hsh]) _ (by rw [hsh]; show x.toNat < n; omega)) (kok2 (kok2 hs).2).2) hP hS
theorem Rn.alen {k i n t : Nat} (hsh : ksh k i = (t, n)) (ht : t < 3) (hd : decode M.2.1 pc = .ok (.arraylength, 1)) (kk : Rn l G d M Q (pc + 1) L (.inl (n : Int) :: st) σ) : Rn l G d M Q pc L (.inr (k, i) :: st) σ := by
  intro p e s m args below meth c C ls H locs hL hs hP hS
  obtain ⟨q, hq, hw⟩ := kw_at (kok2 hs).1
  have he := hw σ
  have hk := kk p e s m args below meth c C ls H locs hL (kokI (kok2 hs).2) hP hS
  rcases (show t = 0 ∨ t = 1 ∨ t = 2 by omega) with rfl | rfl | rfl
  · rw [kE_i hsh] at he
    exact va_alen C.1.1 C.1.2.1 C.2.1 hP q 0 he rfl (v := Int32.ofInt n) (Int32.ofInt_eq_ofNat).symm hd hk
  · rw [kE_z hsh] at he
    exact va_alen C.1.1 C.1.2.1 C.2.1 hP q 1 he rfl (v := Int32.ofInt n) (Int32.ofInt_eq_ofNat).symm hd hk
  · rw [kE_q hsh] at he
    exact va_alen C.1.1 C.1.2.1 C.2.1 hP q 2 he rfl (v := Int32.ofInt n) (Int32.ofInt_eq_ofNat).symm hd hk
theorem k_updA {σ : kS} {k i j : Nat} {x : Int} : (upd (fun q => Int32.ofInt (σ k i q)) j (Int32.ofInt x)) = fun q => Int32.ofInt (kup σ k i j x k i q) := by
  funext q
  by_cases h : q = j
  · subst h
    simp [upd, kup_self]
  · rw [kup_slot h]
    simp [upd, h]
theorem Rn.iastore {k i n : Nat} {x v : Int} (hsh : ksh k i = (0, n)) (hn : n < 2147483648) (hx : 0 ≤ x ∧ x < n) (hd : decode M.2.1 pc = .ok (.iastore, 1)) (kk : Rn l G d M Q (pc + 1) L st (kup σ k i x.toNat v)) : Rn l G d M Q pc L (.inl v :: .inl x :: .inr (k, i) :: st) σ := by
  intro p e s m args below meth c C ls H locs hL hs hP hS
  obtain ⟨q, hq, hw⟩ := kw_at (kok2 (kok2 (kok2 hs).2).2).1
  have he := hw σ
  rw [kE_i hsh] at he
  have hok := C.2.2.2.2
  refine va_iast C.1.1 C.1.2.1 C.2.1 hP (kD hok σ) hS q 0 he rfl (k_in hx hn) hd fun H1 locs1 hP1 hD1 hS1 => ?_
  rw [k_nat hx hn, k_updA, kw_set (σ' := kup σ k i x.toNat v) hok hq (kE_i hsh) (fun c hc => kE_ne (kup_cell hc))] at hP1
  exact kk p e s m args below meth c C ls H1 locs1 hL (kok2 (kok2 (kok2 hs).2).2).2 hP1 hS1
theorem Rn.bastore {k i n : Nat} {x v : Int} (hsh : ksh k i = (1, n)) (hn : n < 2147483648) (hx : 0 ≤ x ∧ x < n) (hv : v = 0 ∨ v = 1) (hd : decode M.2.1 pc = .ok (.bastore, 1)) (kk : Rn l G d M Q (pc + 1) L st (kup σ k i x.toNat v)) : Rn l G d M Q pc L (.inl v :: .inl x :: .inr (k, i) :: st) σ := by
  intro p e s m args below meth c C ls H locs hL hs hP hS
  obtain ⟨q, hq, hw⟩ := kw_at (kok2 (kok2 (kok2 hs).2).2).1
  have he := hw σ
  rw [kE_z hsh] at he
  have hok := C.2.2.2.2
  refine va_zast C.1.1 C.1.2.1 C.2.1 hP (kD hok σ) hS q 1 he rfl (k_in hx hn) hd fun H1 locs1 hP1 hD1 hS1 => ?_
  have hnar : vp_nar .boolean (Int32.ofInt v) = Int32.ofInt v := by rcases hv with rfl | rfl <;> rfl
  rw [hnar, k_nat hx hn, k_updA, kw_set (σ' := kup σ k i x.toNat v) hok hq (kE_z hsh) (fun c hc => kE_ne (kup_cell hc))] at hP1
  exact kk p e s m args below meth c C ls H1 locs1 hL (kok2 (kok2 (kok2 hs).2).2).2 hP1 hS1
theorem k_cpy {f g : Nat → Int} {sp dp n : Nat} : va_cpy (fun q => Int32.ofInt (f q)) (fun q => Int32.ofInt (g q)) sp dp n = fun q => Int32.ofInt (va_cpy f g sp dp n q) := by
  funext q
  unfold va_cpy
  split <;> rfl
theorem k_natp {x : Int} (h : 0 ≤ x) (h2 : x < 2147483648) : (Int32.ofInt x).toNatClampNeg = x.toNat := Int32.toNatClampNeg_ofInt_of_le (by omega) (by omega)
theorem k_nneg {x : Int} (h : 0 ≤ x) (h2 : x < 2147483648) : ¬ Int32.ofInt x < 0 := by
  rw [← k_0, k_lt ⟨by omega, by omega⟩ ⟨by omega, by omega⟩]
  omega
/-- System.arraycopy between arrays of ints, that may be one -/
theorem Rn.copy {idx k i n k' i' n' : Nat} {sp dp z : Int} (hw1 : Cond.methodLink M.1 idx arraycopyName ∈ kWS) (hw2 : Cond.native arraycopyName ∈ kWS) (hw3 : Cond.static arraycopyName ∈ kWS) (hw4 : Cond.initialized "java/lang/System" ∈ kWS)
    (hsh : ksh k i = (0, n)) (hsh' : ksh k' i' = (0, n')) (hn : n < 2147483648) (hn' : n' < 2147483648) (h1 : 0 ≤ sp ∧ 0 ≤ dp ∧ 0 ≤ z ∧ sp + z ≤ n ∧ dp + z ≤ n') (hst : st.length ≤ 8) (hdp : 1 ≤ d.1 ∧ 26 ≤ d.2)
    (hd : decode M.2.1 pc = .ok (.invokestatic idx, 3)) (kk : Rn l G d M Q (pc + 3) L st (kupA σ k' i' (va_cpy (σ k i) (σ k' i') sp.toNat dp.toNat z.toNat))) : Rn l G d M Q pc L (.inl z :: .inl dp :: .inr (k', i') :: .inl sp :: .inr (k, i) :: st) σ := by
  intro p e s m args below meth c C ls H locs hL hs hP hS
  obtain ⟨q', hq', hw'⟩ := kw_at (kok2 (kok2 (kok2 hs).2).2).1
  obtain ⟨q, hq, hw⟩ := kw_at (kok2 (kok2 (kok2 (kok2 (kok2 hs).2).2).2).2).1
  have he := hw σ
  have he' := hw' σ
  rw [kE_i hsh] at he
  rw [kE_i hsh'] at he'
  have hok := C.2.2.2.2
  have hsum : ((st.map (kv G)).map fun v => v.category).sum = st.length := by
    clear hs hst kk
    induction st with
    | nil => rfl
    | cons a b ih => simp only [List.map_cons, List.sum_cons, kv_cat, List.length_cons, ih]; omega
  refine va_copyi C.1.1 C.1.2.1 (C.1.2.2.1.trans hL.1.symm) C.1.2.2.2.1 (C.1.2.2.2.2 _ hw1) (C.1.2.2.2.2 _ hw2) (C.1.2.2.2.2 _ hw3) (C.1.2.2.2.2 _ hw4) C.2.1 hP (kD hok σ) hS q q' 0 0 he he' rfl rfl rfl (k_nneg (by omega) (by omega)) (k_nneg (by omega) (by omega)) (k_nneg (by omega) (by omega))
    (by rw [k_natp (by omega) (by omega), k_natp (by omega) (by omega)]; omega) (by rw [k_natp (by omega) (by omega), k_natp (by omega) (by omega)]; omega) (fun _ _ => rfl) hdp.1 ?_ hd fun H1 locs1 hP1 hD1 hS1 => ?_
  · rw [hsum]
    have : nativeFrameWords "java/lang/System" "arraycopy" 5 = 7 := by decide +kernel
    rw [this]
    show st.length + (7 + 11) ≤ d.2
    omega
  · rw [k_natp (by omega) (by omega), k_natp (by omega) (by omega), k_natp (by omega) (by omega), k_cpy, kw_set (σ' := kupA σ k' i' (va_cpy (σ k i) (σ k' i') sp.toNat dp.toNat z.toNat)) hok hq' ((kE_i hsh').trans ?_) (fun c hc => kE_ne (kupA_cell hc))] at hP1
    · exact kk p e s m args below meth c C ls H1 locs1 hL (kok2 (kok2 (kok2 (kok2 (kok2 hs).2).2).2).2).2 hP1 hS1
    · simp only [kupA, and_self, if_true]
end KR

section KC
variable {l : Launch} {G : kG} {d : Nat × Nat} {M : kM} {Q : Option Int → kS → Prop} {pc : Nat} {L L' : kL} {st st' : List kV} {σ σ' : kS}
theorem k_sum (G : kG) (st : List kV) : ((st.map (kv G)).map fun v => v.category).sum = st.length := by
  induction st with
  | nil => rfl
  | cons a b ih => simp only [List.map_cons, List.sum_cons, kv_cat, List.length_cons, ih]; omega
theorem Rn.mmax {idx : Nat} {x y : Int} (hx : -2147483648 ≤ x ∧ x < 2147483648) (hy : -2147483648 ≤ y ∧ y < 2147483648) (hw1 : Cond.methodLink M.1 idx Lib.Math.max.name ∈ kWS) (hw2 : Cond.static Lib.Math.max.name ∈ kWS) (hw3 : Cond.initialized "java/lang/Math" ∈ kWS) (hw4 : Cond.code Lib.Math.max.name Lib.Math.max.code 2 (some .int) ∈ kWS) (hst : st.length ≤ 8) (hdp : 1 ≤ d.1 ∧ 26 ≤ d.2)
    (hd : decode M.2.1 pc = .ok (.invokestatic idx, 3)) (kk : Rn l G d M Q (pc + 3) L (.inl (max x y) :: st) σ) : Rn l G d M Q pc L (.inl y :: .inl x :: st) σ := by
  intro p e s m args below meth c C ls H locs hL hs hP hS
  refine va_mmax C.1.1 C.1.2.1 (C.1.2.2.1.trans hL.1.symm) C.1.2.2.2.1 (C.1.2.2.2.2 _ hw1) (C.1.2.2.2.2 _ hw2) (C.1.2.2.2.2 _ hw3) (C.1.2.2.2.2 _ hw4) hdp.1 (by rw [k_sum]; show st.length + 13 ≤ d.2; omega) (Nat.le_refl _) (Nat.le_refl _) hd ?_
  have e1 : (if Int32.ofInt x < Int32.ofInt y then Int32.ofInt y else Int32.ofInt x) = Int32.ofInt (max x y) := by
    by_cases h : x < y
    · rw [if_pos ((k_lt hx hy).mpr h), show max x y = y by omega]
    · rw [if_neg (fun q => h ((k_lt hx hy).mp q)), show max x y = x by omega]
  rw [e1]
  exact kk p e s m args below meth c C ls H locs hL (kokI (kok2 (kok2 hs).2).2) hP hS
theorem Rn.mmin {idx : Nat} {x y : Int} (hx : -2147483648 ≤ x ∧ x < 2147483648) (hy : -2147483648 ≤ y ∧ y < 2147483648) (hw1 : Cond.methodLink M.1 idx Lib.Math.min.name ∈ kWS) (hw2 : Cond.static Lib.Math.min.name ∈ kWS) (hw3 : Cond.initialized "java/lang/Math" ∈ kWS) (hw4 : Cond.code Lib.Math.min.name Lib.Math.min.code 2 (some .int) ∈ kWS) (hst : st.length ≤ 8) (hdp : 1 ≤ d.1 ∧ 26 ≤ d.2)
    (hd : decode M.2.1 pc = .ok (.invokestatic idx, 3)) (kk : Rn l G d M Q (pc + 3) L (.inl (min x y) :: st) σ) : Rn l G d M Q pc L (.inl y :: .inl x :: st) σ := by
  intro p e s m args below meth c C ls H locs hL hs hP hS
  refine va_mmin C.1.1 C.1.2.1 (C.1.2.2.1.trans hL.1.symm) C.1.2.2.2.1 (C.1.2.2.2.2 _ hw1) (C.1.2.2.2.2 _ hw2) (C.1.2.2.2.2 _ hw3) (C.1.2.2.2.2 _ hw4) hdp.1 (by rw [k_sum]; show st.length + 13 ≤ d.2; omega) (Nat.le_refl _) (Nat.le_refl _) hd ?_
  have e1 : (if Int32.ofInt y < Int32.ofInt x then Int32.ofInt y else Int32.ofInt x) = Int32.ofInt (min x y) := by
    by_cases h : y < x
    · rw [if_pos ((k_lt hy hx).mpr h), show min x y = y by omega]
    · rw [if_neg (fun q => h ((k_lt hy hx).mp q)), show min x y = x by omega]
  rw [e1]
  exact kk p e s m args below meth c C ls H locs hL (kokI (kok2 (kok2 hs).2).2) hP hS
/-- the end of a method -/
theorem Rn.iret {x : Int} {ty : FieldType} (hr : M.2.2.2 = some ty) (hn : narrow ty (.int (Int32.ofInt x)) = .int (Int32.ofInt x)) (hq : Q (some x) σ) (hd : decode M.2.1 pc = .ok (.ireturn, 1)) : Rn l G d M Q pc L [.inl x] σ := by
  intro p e s m args below meth c C ls H locs hL hs hP hS
  exact W.zret C.1.1 C.1.2.1 (C.2.2.1.trans hr) hn (fun t ht hW => ⟨⟨some x, σ, rfl, hq, by rw [ht]; exact hP, va_K.moved hW.alike C.2.1⟩, hS.F ht⟩) hS.2.2 hd C.2.2.2.1
theorem Rn.vret (hr : M.2.2.2 = none) (hq : Q none σ) (hd : decode M.2.1 pc = .ok (.return_, 1)) : Rn l G d M Q pc L [] σ := by
  intro p e s m args below meth c C ls H locs hL hs hP hS
  exact W.vret C.1.1 C.1.2.1 (C.2.2.1.trans hr) (fun t ht hW => ⟨⟨none, σ, rfl, hq, by rw [ht]; exact hP, va_K.moved hW.alike C.2.1⟩, hS.F ht⟩) hS.2.2 hd C.2.2.2.1
/-- a method's contract at a start: it ends with Q -/
def Call (l : Launch) (G : kG) (d : Nat × Nat) (y : MethodName) (M : kM) (as : List kV) (σ : kS) (Q : Option Int → kS → Prop) : Prop := kOK G → (∀ v ∈ as, kOkV G v) →
  Met l y (.code y M.2.1 M.2.2.1 M.2.2.2 :: kWS) (kR d) (va_Pc (as.map (kv G)) (fun U => va_P G.1 vwCl (kw G σ) U.heap ∧ va_K G.1 vwCl (ktys G) U)) (kQ G Q) 0 0 (kA G)
theorem lg_map (G : kG) (as : List kV) : lg_sl (as.map (kv G)) = as.map fun v => Slot.val (kv G v) := by
  induction as with
  | nil => rfl
  | cons a b ih =>
    show (if (kv G a).category = 2 then [.val (kv G a), .second] else [.val (kv G a)]) ++ lg_sl (b.map (kv G)) = _
    rw [kv_cat, if_neg (by decide), ih]
    rfl
theorem lv_args_map (G : kG) (as : List kV) : ∀ n, lv_args n (as.map (kv G)) = (as.zipIdx n).map fun q => (q.2, kv G q.1) := by
  induction as with
  | nil => intro n; rfl
  | cons a b ih =>
    intro n
    show (n, kv G a) :: lv_args (if (kv G a).category = 2 then n + 2 else n + 1) (b.map (kv G)) = _
    rw [kv_cat, if_neg (by decide), ih]
    rfl
theorem Call.of {y : MethodName} {as : List kV} (hy : plainName y.cls = true) (hy2 : y.cls = M.1) (hlen : as.length ≤ M.2.2.1)
    (k : Rn l G d M Q 0 (as.map some ++ List.replicate (M.2.2.1 - as.length) none) [] σ) : Call l G d y M as σ Q := by
  intro hok has
  refine Met.ofW (cc := M.2.1) (maxL := M.2.2.1) (ret := M.2.2.2) hy rfl ?_
  intro p e s m args below meth c s₁ B hml hv
  obtain ⟨rfl, hP, hK⟩ := hv
  have hts := atoms_spec (ws := .code y M.2.1 M.2.2.1 M.2.2.2 :: kWS) B.pre
  have hown : s.vm.findClass M.1 = some m.cls := by rw [← hy2]; exact findClass_of_methodNamed B.named
  have hl := lv_entry (as.map (kv G)) (n := M.2.2.1) (by rw [lg_map, List.length_map]; exact hlen)
  rw [lg_entry_eq]
  refine k p e s m _ below meth c ⟨⟨B.exec, B.bytes, hml, hown, fun w h => hts w (List.mem_cons_of_mem _ h)⟩, hK, B.returns, B.notSynchronized, hok⟩ _ s.heap [] ⟨hl.1, hl.2.1, fun i v hi => ?_⟩ (fun v h => by cases h) hP va_S.rf
  have hlt : i < as.length := by
    rcases Nat.lt_or_ge i as.length with h | h
    · exact h
    · rw [List.getElem?_append_right (by simp; exact h), List.length_map] at hi
      have := List.mem_of_getElem? hi
      simp at this
  rw [List.getElem?_append_left (by simp; exact hlt), List.getElem?_map] at hi
  cases ha : as[i]? with
  | none => rw [ha] at hi; cases hi
  | some w =>
    rw [ha, Option.map_some, Option.some.injEq, Option.some.injEq] at hi
    subst hi
    refine ⟨hl.2.2 (i, kv G w) ?_, has w (List.mem_of_getElem? ha)⟩
    rw [lv_args_map]
    exact List.mem_map.mpr ⟨(w, i), List.mk_mem_zipIdx_iff_getElem?.mpr ha, rfl⟩
theorem Rn.mono {Q' : Option Int → kS → Prop} (h : ∀ r σ', Q r σ' → Q' r σ') (k : Rn l G d M Q pc L st σ) : Rn l G d M Q' pc L st σ := by
  intro p e s m args below meth c C ls H locs hL hs hP hS T hT X
  obtain ⟨t, a, o, b1, b2, ⟨⟨r, σ', c1, c2, c3⟩, c4⟩, b4⟩ := k p e s m args below meth c C ls H locs hL hs hP hS T hT X
  exact ⟨t, a, o, b1, b2, ⟨⟨r, σ', c1, h _ _ c2, c3⟩, c4⟩, b4⟩
/-- behind a call -/
theorem Rn.ofRun {p : Program} {e : Env} {s : State} {m : MethodId} {args : Array Value} {below : List Frame} {meth : Method} {c : Code} {ls : Array Slot} {H : Heap} {locs : List Loc} {st0 : List Value} {a : Array Value} {Q1 : Option Int → kS → Prop}
    (C : kCx l G d M p e s m args below meth c) (hL : kHas G ls M.2.2.1 L) (hs : ∀ v ∈ st, kOkV G v) (hS : va_S (kA G) s.heap H locs) (hr : va_Run p l e (kR d) s m args below meth c H locs 0 0 0 0 (F0 m pc ls st0) (st.map (kv G)) (kQ G Q1 a) (kA G))
    (kk : ∀ (r : Option Int) (σ' : kS), Q1 r σ' → Rn l G d M Q (pc + 3) L (r.toList.map .inl ++ st) σ') : W p l e (kR d) s m args below meth c H locs 0 0 (MQ below (kQ G Q) args s 0 0 (kA G)) (F0 m pc ls st0) := by
  intro T hT X
  obtain ⟨v, st₀, t, T', Lc, h0, X', hLc, e1, e2, ⟨⟨r, σ', hv, hp, hP1, hK1⟩, hz, hk⟩, stp⟩ := hr T hT X
  rw [h0] at hz hk
  have hv' : v = r.map kri := by cases hv; rfl
  subst hv'
  have hS' : va_S (kA G) s.heap T'.heap (locs ++ Lc) := ⟨Nat.le_trans hS.1 (by rw [e1]; exact hz), fun q h1 h2 => by rw [e1, hk q (Nat.lt_of_lt_of_le h1 hS.1) h2]; exact hS.2.1 q h1 h2, fun q hq => by
      rcases List.mem_append.mp hq with h | h
      · exact hS.2.2 q h
      · exact hLc q h⟩
  have hst : ∀ v ∈ r.toList.map (Sum.inl : Int → kV) ++ st, kOkV G v := by
    intro v hv
    rcases List.mem_append.mp hv with h | h
    · obtain ⟨x, -, rfl⟩ := List.mem_map.mp h
      exact trivial
    · exact hs v h
  have hm : (r.toList.map (Sum.inl : Int → kV) ++ st).map (kv G) = (r.map kri).toList ++ st.map (kv G) := by
    cases r <;> rfl
  have hk2 := kk r σ' hp p e s m args below meth c C ls T'.heap (locs ++ Lc) hL hst (by rw [e1]; exact hP1) hS'
  rw [hm] at hk2
  obtain ⟨t2, a1, b1⟩ := hk2 T' rfl X'
  exact ⟨t2, stp t2 a1, b1⟩
theorem k_pre {as : List kV} {U : State} (g : JFrame) (mk : MethodId) (a : Array Value) (h : va_Pc (as.map (kv G)) (fun U => va_P G.1 vwCl (kw G σ) U.heap ∧ va_K G.1 vwCl (ktys G) U) a U) : va_Pc (as.map (kv G)) (fun U => va_P G.1 vwCl (kw G σ) U.heap ∧ va_K G.1 vwCl (ktys G) U) a (U.calling g mk a) :=
  ⟨h.1, h.2.1, va_K.moved (u := U) (U := U.calling g mk a) (Vm.Alike.refl U.vm) h.2.2⟩
theorem k_good {y : MethodName} {M' : kM} {extra : List Cond} (hc : Cond.code y M'.2.1 M'.2.2.1 M'.2.2.2 ∈ kWS) (he : ∀ w ∈ extra, w ∈ kWS) : GoodIn kWS (extra ++ .code y M'.2.1 M'.2.2.1 M'.2.2.2 :: kWS) := by
  intro w h
  have hin : w ∈ kWS := by
    rcases List.mem_append.mp h with h | h
    · exact he w h
    · rcases List.mem_cons.mp h with rfl | h
      · exact hc
      · exact h
  exact ⟨hin, kWS_good w hin⟩
/-- a method of an object (invokevirtual), of the class that declares it -/
theorem Rn.callV {idx n k i : Nat} {d' : Nat × Nat} {y : MethodName} {M' : kM} {As : List kV} {Q1 : Option Int → kS → Prop} (hc : Call l G d' y M' (.inr (k, i) :: As) σ Q1) (hcode : Cond.code y M'.2.1 M'.2.2.1 M'.2.2.2 ∈ kWS)
    (hw1 : Cond.methodLink M.1 idx y ∈ kWS) (hw2 : Cond.instanceMethod y ∈ kWS) (hw3 : Cond.selects y.cls y y ∈ kWS) (hw4 : Cond.initialized y.cls ∈ kWS) (hdesc : y.cls ≠ "java/lang/invoke/MethodHandle" ∧ y.cls ≠ "java/lang/invoke/VarHandle" ∧ (parseMethodDescriptor y.desc).map (fun d => d.parameters.length) = some n)
    {N : Nat} {T : u_T} (hcl : vwCl[k]? = some (y.cls, T, N)) (hsh : ksh k i = (3, N)) (hlen : As.length = n) (hdd : d'.1 + 1 ≤ d.1 ∧ 8 + (M'.2.2.1 + 11) + d'.2 ≤ d.2) (hst : st.length ≤ 8) (hd : decode M.2.1 pc = .ok (.invokevirtual idx, 3))
    (kk : ∀ (r : Option Int) (σ' : kS), Q1 r σ' → Rn l G d M Q (pc + 3) L (r.toList.map .inl ++ st) σ') : Rn l G d M Q pc L (As.reverse ++ .inr (k, i) :: st) σ := by
  intro p e s m args below meth c C ls H locs hL hs hP hS
  have hs2 : ∀ v ∈ (.inr (k, i) : kV) :: st, kOkV G v := fun v hv => hs v (List.mem_append_right _ hv)
  have hsa : ∀ v ∈ (.inr (k, i) : kV) :: As, kOkV G v := fun v hv => by
    rcases List.mem_cons.mp hv with rfl | h
    · exact (kok2 hs2).1
    · exact hs v (List.mem_append_left _ (List.mem_reverse.mpr h))
  obtain ⟨q, hq, hw⟩ := kw_at (kok2 hs2).1
  have he := hw σ
  rw [kE_o hsh] at he
  refine Rn.ofRun (Q1 := Q1) C hL (kok2 hs2).2 hS (va_runV (C := y.cls) (b := kad G (k, i)) (As := As.map (kv G)) (rest := st.map (kv G)) C.1 (hc C.2.2.2.2 hsa) (cwV n C.1.2.2.2.2 (k_good (extra := [.methodLink M.1 idx y, .instanceMethod y, .selects y.cls y y, .initialized y.cls]) hcode ?_) rfl rfl rfl ⟨rfl, hdesc⟩ hdd) ⟨fun a U g mk h => k_pre g mk a h, va_recv C.2.1 hP hcl he, fun U hU hW => ⟨by simp [kv], by rw [hU]; exact hP, va_K.moved hW.alike C.2.1⟩⟩ rfl (by rw [List.length_map]; exact hlen) hL.1 (by simp [kv]) (lv_room (by rw [k_sum]; exact hst)) hd ⟨Nat.le_refl _, Nat.le_refl _⟩) kk
  · intro w h
    simp only [List.mem_cons, List.not_mem_nil, or_false] at h
    rcases h with rfl | rfl | rfl | rfl <;> assumption
/-- a static method of the class itself or of another -/
theorem Rn.callS {idx n : Nat} {d' : Nat × Nat} {y : MethodName} {M' : kM} {As : List kV} {Q1 : Option Int → kS → Prop} (hc : Call l G d' y M' As σ Q1) (hcode : Cond.code y M'.2.1 M'.2.2.1 M'.2.2.2 ∈ kWS)
    (hw1 : Cond.methodLink M.1 idx y ∈ kWS) (hw2 : Cond.static y ∈ kWS) (hw4 : Cond.initialized y.cls ∈ kWS) (hdesc : y.cls ≠ "java/lang/invoke/MethodHandle" ∧ y.cls ≠ "java/lang/invoke/VarHandle" ∧ (parseMethodDescriptor y.desc).map (fun d => d.parameters.length) = some n)
    (hlen : As.length = n) (hdd : d'.1 + 1 ≤ d.1 ∧ 8 + (M'.2.2.1 + 11) + d'.2 ≤ d.2) (hst : st.length ≤ 8) (hd : decode M.2.1 pc = .ok (.invokestatic idx, 3))
    (kk : ∀ (r : Option Int) (σ' : kS), Q1 r σ' → Rn l G d M Q (pc + 3) L (r.toList.map .inl ++ st) σ') : Rn l G d M Q pc L (As.reverse ++ st) σ := by
  intro p e s m args below meth c C ls H locs hL hs hP hS
  have hs2 : ∀ v ∈ st, kOkV G v := fun v hv => hs v (List.mem_append_right _ hv)
  have hsa : ∀ v ∈ As, kOkV G v := fun v hv => hs v (List.mem_append_left _ (List.mem_reverse.mpr hv))
  refine Rn.ofRun (Q1 := Q1) C hL hs2 hS (va_runS (As := As.map (kv G)) (rest := st.map (kv G)) C.1 (hc C.2.2.2.2 hsa) (va_cwS n C.1.2.2.2.2 (k_good (extra := [.methodLink M.1 idx y, .static y, .initialized y.cls]) hcode ?_) rfl rfl rfl hdesc hdd) ⟨fun a U g mk h => k_pre g mk a h, fun U hU hW => ⟨rfl, by rw [hU]; exact hP, va_K.moved hW.alike C.2.1⟩⟩ rfl (by rw [List.length_map]; exact hlen) hL.1 (by simp) (lv_room (by rw [k_sum]; exact hst)) hd ⟨Nat.le_refl _, Nat.le_refl _⟩) kk
  · intro w h
    simp only [List.mem_cons, List.not_mem_nil, or_false] at h
    rcases h with rfl | rfl | rfl <;> assumption
/-- what a method computes: nothing, or an answer and a state -/
abbrev kRes : Type := Option (Option Int × kS)
def kg (p : Prop) [Decidable p] (x : kRes) : kRes := if p then x else none
theorem kg_some {p : Prop} [Decidable p] {x : kRes} {r : Option Int × kS} (h : kg p x = some r) : p ∧ x = some r := by
  unfold kg at h
  split at h
  · exact ⟨by assumption, h⟩
  · cases h
theorem kg_pos {p : Prop} [Decidable p] {x : kRes} (h : p) : kg p x = x := if_pos h
def kbi (o : kRes) (k : Int → kS → kRes) : kRes := match o with
  | some (some y, σ) => k y σ
  | _ => none
def kbu (o : kRes) (k : kS → kRes) : kRes := match o with
  | some (none, σ) => k σ
  | _ => none
theorem kbi_some {o : kRes} {k : Int → kS → kRes} {r : Option Int × kS} (h : kbi o k = some r) : ∃ y σ, o = some (some y, σ) ∧ k y σ = some r := by
  unfold kbi at h
  split at h
  · exact ⟨_, _, rfl, h⟩
  · cases h
theorem kbu_some {o : kRes} {k : kS → kRes} {r : Option Int × kS} (h : kbu o k = some r) : ∃ σ, o = some (none, σ) ∧ k σ = some r := by
  unfold kbu at h
  split at h
  · exact ⟨_, rfl, h⟩
  · cases h
def kI (P : Int → kS → Prop) : Option Int → kS → Prop := fun r σ => ∃ x, r = some x ∧ P x σ
def kU (P : kS → Prop) : Option Int → kS → Prop := fun r σ => r = none ∧ P σ
/-- the words of a call: of a method y with code M' on a cell of kind k, and of a static one -/
def kCV (own : String) (idx : Nat) (y : MethodName) (M' : kM) (k n : Nat) : Prop := (Cond.code y M'.2.1 M'.2.2.1 M'.2.2.2 ∈ kWS ∧ Cond.methodLink own idx y ∈ kWS ∧ Cond.instanceMethod y ∈ kWS ∧ Cond.selects y.cls y y ∈ kWS ∧ Cond.initialized y.cls ∈ kWS) ∧
  (y.cls ≠ "java/lang/invoke/MethodHandle" ∧ y.cls ≠ "java/lang/invoke/VarHandle" ∧ (parseMethodDescriptor y.desc).map (fun d => d.parameters.length) = some n) ∧ (∃ (T : u_T) (N : Nat), vwCl[k]? = some (y.cls, T, N) ∧ ∀ i, ksh k i = (3, N))
def kCS (own : String) (idx : Nat) (y : MethodName) (M' : kM) (n : Nat) : Prop := (Cond.code y M'.2.1 M'.2.2.1 M'.2.2.2 ∈ kWS ∧ Cond.methodLink own idx y ∈ kWS ∧ Cond.static y ∈ kWS ∧ Cond.initialized y.cls ∈ kWS) ∧
  (y.cls ≠ "java/lang/invoke/MethodHandle" ∧ y.cls ≠ "java/lang/invoke/VarHandle" ∧ (parseMethodDescriptor y.desc).map (fun d => d.parameters.length) = some n)
theorem Rn.cvi {idx n k i : Nat} {d' : Nat × Nat} {y : MethodName} {M' : kM} (As : List kV) {P : Int → kS → Prop} (hw : kCV M.1 idx y M' k n) (hlen : As.length = n) (hst : st.length ≤ 8) (hd : decode M.2.1 pc = .ok (.invokevirtual idx, 3)) (hdd : d'.1 + 1 ≤ d.1 ∧ 8 + (M'.2.2.1 + 11) + d'.2 ≤ d.2) (hc : Call l G d' y M' (.inr (k, i) :: As) σ (kI P))
    (kk : ∀ (x : Int) (σ' : kS), P x σ' → Rn l G d M Q (pc + 3) L (.inl x :: st) σ') : Rn l G d M Q pc L (As.reverse ++ .inr (k, i) :: st) σ := by
  obtain ⟨⟨h1, h2, h3, h4, h5⟩, h6, ⟨T, N, h7, h8⟩⟩ := hw
  refine Rn.callV hc h1 h2 h3 h4 h5 h6 h7 (h8 i) hlen hdd hst hd ?_
  rintro r σ' ⟨x, rfl, hx⟩
  exact kk x σ' hx
theorem Rn.cvu {idx n k i : Nat} {d' : Nat × Nat} {y : MethodName} {M' : kM} (As : List kV) {P : kS → Prop} (hw : kCV M.1 idx y M' k n) (hlen : As.length = n) (hst : st.length ≤ 8) (hd : decode M.2.1 pc = .ok (.invokevirtual idx, 3)) (hdd : d'.1 + 1 ≤ d.1 ∧ 8 + (M'.2.2.1 + 11) + d'.2 ≤ d.2) (hc : Call l G d' y M' (.inr (k, i) :: As) σ (kU P))
    (kk : ∀ (σ' : kS), P σ' → Rn l G d M Q (pc + 3) L st σ') : Rn l G d M Q pc L (As.reverse ++ .inr (k, i) :: st) σ := by
  obtain ⟨⟨h1, h2, h3, h4, h5⟩, h6, ⟨T, N, h7, h8⟩⟩ := hw
  refine Rn.callV hc h1 h2 h3 h4 h5 h6 h7 (h8 i) hlen hdd hst hd ?_
  rintro r σ' ⟨rfl, hx⟩
  exact kk σ' hx
theorem Rn.csi {idx n : Nat} {d' : Nat × Nat} {y : MethodName} {M' : kM} (As : List kV) {P : Int → kS → Prop} (hw : kCS M.1 idx y M' n) (hlen : As.length = n) (hst : st.length ≤ 8) (hd : decode M.2.1 pc = .ok (.invokestatic idx, 3)) (hdd : d'.1 + 1 ≤ d.1 ∧ 8 + (M'.2.2.1 + 11) + d'.2 ≤ d.2) (hc : Call l G d' y M' As σ (kI P))
    (kk : ∀ (x : Int) (σ' : kS), P x σ' → Rn l G d M Q (pc + 3) L (.inl x :: st) σ') : Rn l G d M Q pc L (As.reverse ++ st) σ := by
  obtain ⟨⟨h1, h2, h3, h5⟩, h6⟩ := hw
  refine Rn.callS hc h1 h2 h3 h5 h6 hlen hdd hst hd ?_
  rintro r σ' ⟨x, rfl, hx⟩
  exact kk x σ' hx
theorem Rn.csu {idx n : Nat} {d' : Nat × Nat} {y : MethodName} {M' : kM} (As : List kV) {P : kS → Prop} (hw : kCS M.1 idx y M' n) (hlen : As.length = n) (hst : st.length ≤ 8) (hd : decode M.2.1 pc = .ok (.invokestatic idx, 3)) (hdd : d'.1 + 1 ≤ d.1 ∧ 8 + (M'.2.2.1 + 11) + d'.2 ≤ d.2) (hc : Call l G d' y M' As σ (kU P))
    (kk : ∀ (σ' : kS), P σ' → Rn l G d M Q (pc + 3) L st σ') : Rn l G d M Q pc L (As.reverse ++ st) σ := by
  obtain ⟨⟨h1, h2, h3, h5⟩, h6⟩ := hw
  refine Rn.callS hc h1 h2 h3 h5 h6 hlen hdd hst hd ?_
  rintro r σ' ⟨rfl, hx⟩
  exact kk σ' hx
end KC

