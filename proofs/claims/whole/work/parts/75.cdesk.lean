/-! Pure: the class's desk: what is held, dropped, put. -/
def orE (T : Tx) : Tx := if T.length = 0 then [[]] else T
def dropT (T : Tx) (a b : Nat) : Tx := orE (cut T a (b + 1))
def dropX (T : Tx) (a b : Nat) : Tc := (dropT T a b, cl a ((dropT T a b).length - 1), 0)
theorem SC.holdLines {g : Int} {x : Tc} {o : Option Tc} {b : Int × Tx} {q : Qd} {m : Md} {l : Int × List Int} {i j : Nat} {xi xj : Int} (hi : xi = i) (hj : xj = j) (hij : i ≤ j) (hjl : j < x.1.length) : SC g (f_De_holdLines xi xj) none (x, o, b, q, m, l) (x, o, ((j : Int) - i + 1, slc x.1 i (j + 1)), q, m, l) := by
  subst hi hj
  unfold f_De_holdLines fb_De_holdLines_0
  refine SC.u (SC.t3 fun σ c => C_copyLines (t := 3) (u := 0) c.1.1 c.1.2.1 (by decide) hij hjl) ?_
  intro σ h
  obtain ⟨c1, c2, c3, c4, c5, c6, c7⟩ := h
  have hn : σ 2 3 2 = ((slc x.1 i (j + 1)).length : Int) := c3.2.2
  refine ⟨_, rfl, ⟨c1, ?_, ⟨?_, c3.2.1, c3.2.2⟩, c4, c5, c6, c7⟩, frE.rfl.kup (by decide)⟩
  · cases o with
    | none => exact c2
    | some y => exact c2
  · show σ 2 3 2 = (j : Int) - i + 1
    rw [hn, slc_len (by omega)]
    omega
theorem SC.holdLetters {g : Int} {x : Tc} {o : Option Tc} {b : Int × Tx} {q : Qd} {m : Md} {l : Int × List Int} {i j : Nat} {xi xj : Int} (hi : xi = i) (hj : xj = j) (hij : i ≤ j) (hx : 0 ≤ x.2.1 ∧ x.2.1 < x.1.length) (hjl : j ≤ (ln x.1 x.2.1.toNat).length) : SC g (f_De_holdLetters xi xj) none (x, o, b, q, m, l) (x, o, (0, [slc (ln x.1 x.2.1.toNat) i j]), q, m, l) := by
  subst hi hj
  refine SC.u (A1 := (x, o, (b.1, [slc (ln x.1 x.2.1.toNat) i j]), q, m, l)) (SC.t3 fun σ c => ?_) ?_
  · have h3 : σ 2 0 3 = ((x.2.1.toNat : Nat) : Int) := by
      have : σ 2 0 3 = x.2.1 := c.1.2.2.1
      omega
    rw [h3]
    exact C_copyLetters (t := 3) (u := 0) c.1.1 c.1.2.1 (by decide) (by omega) hij hjl
  · intro σ h
    obtain ⟨c1, c2, c3, c4, c5, c6, c7⟩ := h
    refine ⟨_, rfl, ⟨c1, ?_, ⟨rfl, c3.2.1, c3.2.2⟩, c4, c5, c6, c7⟩, frE.rfl.kup (by decide)⟩
    cases o with
    | none => exact c2
    | some y => exact c2
theorem SC.dropLines {g : Int} {x : Tc} {o : Option Tc} {b : Int × Tx} {q : Qd} {m : Md} {l : Int × List Int} {i j : Nat} {xi xj : Int} (hi : xi = i) (hj : xj = j) (hij : i ≤ j) (hjl : j < x.1.length) (hl : x.1.length ≤ 10) : SC g (f_De_dropLines xi xj) none (x, o, b, q, m, l) (dropX x.1 i j, o, b, q, m, l) := by
  subst hi hj
  have hcl : (cut x.1 i (j + 1)).length = x.1.length - (j + 1 - i) := cut_len (by omega) (by omega)
  unfold f_De_dropLines fb_De_dropLines_0
  refine SC.u (SC.t0 fun σ c => C_closeLines c.1.1 c.1.2.1 hij hjl) ?_
  have h26 : ∀ (T : Tx) (w : Int × Int), 0 < T.length → T.length ≤ 10 → SC g (fb_De_dropLines_26 i j) none ((T, w), o, b, q, m, l) ((T, cl i (T.length - 1), 0), o, b, q, m, l) := by
    intro T w hT hl
    refine SC.u (A1 := ((T, cl i (T.length - 1), 0), o, b, q, m, l)) ?_ SC.ret
    have := SC.stand (g := g) (x := (T, w)) (o := o) (b := b) (q := q) (m := m) (l := l) (r := i) (c := 0) hT (by omega) (by omega)
    have e : ∀ n : Int, -1 ≤ n → cl 0 n = 0 := fun n hn => by
      unfold cl
      omega
    rw [e _ (by omega)] at this
    exact this
  by_cases h0 : (cut x.1 i (j + 1)).length = 0
  · have hd : dropT x.1 i j = [[]] := by
      unfold dropT orE
      rw [if_pos h0]
    unfold dropX
    rw [hd]
    refine SC.cg (f := fun σ => kbu (f_Te_reset 0 σ) fun σ1 => fb_De_dropLines_26 i j σ1) (SC.u (A1 := (([[]], 0, 0), o, b, q, m, l)) ?_ (h26 [[]] (0, 0) (by decide) (by decide))) ?_
    · intro σ h
      obtain ⟨c1, c2, c3, c4, c5, c6, c7⟩ := h
      refine ⟨_, rfl, ⟨⟨TR_1 rfl, rfl, rfl, rfl⟩, ?_, c3, c4, c5, c6, c7⟩, (((frE.rfl.kup (by decide)).kup (by decide)).kup (by decide)).kup (by decide)⟩
      cases o with
      | none => exact c2
      | some y => exact c2
    · intro σ c
      have : σ 2 0 2 = ((cut x.1 i (j + 1)).length : Int) := c.1.2.1
      unfold fb_De_dropLines_9 fb_De_dropLines_19
      rw [this, kg_pos (by omega), if_pos (by omega)]
  · have hd : dropT x.1 i j = cut x.1 i (j + 1) := by
      unfold dropT orE
      rw [if_neg h0]
    unfold dropX
    rw [hd]
    refine SC.cg (h26 (cut x.1 i (j + 1)) x.2 (by omega) (by omega)) ?_
    intro σ c
    have : σ 2 0 2 = ((cut x.1 i (j + 1)).length : Int) := c.1.2.1
    unfold fb_De_dropLines_9
    rw [this, kg_pos (by omega), if_neg (by omega)]
theorem cut_all {α : Type} (X : List α) : cut X 0 X.length = [] := by
  unfold cut
  rw [List.take_zero, List.drop_length, List.nil_append]
theorem cut_nil {α : Type} (X : List α) (a : Nat) : cut X a a = X := by
  unfold cut
  exact List.take_append_drop a X
theorem ln_set {T : Tx} {p q : Nat} {L : List Int} (hp : p < T.length) : ln (T.set p L) q = if q = p then L else ln T q := gd_set T [] L hp q
theorem SC.emptyLines {g : Int} {x : Tc} {o : Option Tc} {b : Int × Tx} {q : Qd} {m : Md} {l : Int × List Int} {i j : Nat} {xi xj : Int} (hi : xi = i) (hj : xj = j) (hij : i ≤ j) (hjl : j < x.1.length) (hl : x.1.length ≤ 10) : SC g (f_De_emptyLines xi xj) none (x, o, b, q, m, l) ((cut (x.1.set i []) (i + 1) (j + 1), x.2), o, b, q, m, l) := by
  subst hi hj
  unfold f_De_emptyLines fb_De_emptyLines_0
  refine SC.i (y := (ln x.1 i).length) (A1 := (x, o, b, q, m, l)) (SC.read fun σ c => ?_) ?_
  · rw [← szo_in (by omega)]
    exact P_sizeOf c.1.1 c.1.2.1 (by omega)
  refine SC.u (A1 := ((x.1.set i [], x.2), o, b, q, m, l)) (SC.t0 fun σ c => ?_) ?_
  · have := C_closeLetters (σ := σ) (t := 0) (T := x.1) (p := i) (a := 0) (b := (ln x.1 i).length) c.1.1 c.1.2.1 (by omega) (by omega) (by omega)
    rw [cut_all] at this
    exact this
  refine SC.u (A1 := ((cut (x.1.set i []) (i + 1) (j + 1), x.2), o, b, q, m, l)) ?_ SC.ret
  by_cases h : i = j
  · subst h
    rw [cut_nil]
    refine SC.read fun σ c => ?_
    have hc : σ 2 0 2 = ((x.1.set i []).length : Int) := c.1.2.1
    rw [List.length_set] at hc
    unfold f_Te_closeLines fb_Te_closeLines_0 fb_Te_closeLines_4
    rw [kg_pos (by omega), if_neg (by omega), kg_pos (by omega), if_pos (by omega)]
    rfl
  · refine SC.t0 (x := (x.1.set i [], x.2)) fun σ c => ?_
    have := C_closeLines (σ := σ) (t := 0) (T := x.1.set i []) (a := i + 1) (b := j) c.1.1 c.1.2.1 (by omega) (by rw [List.length_set]; omega)
    exact this
