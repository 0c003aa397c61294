/-! Pure: the class's operators and plain commands. -/
def chL (g : Int) (A : kEd) : Int × List Int := if g = 0 then ((A.2.2.2.1.2.2.2.length : Int), A.2.2.2.1.2.2.2) else A.2.2.2.2.2
/-- an operator on whole lines, on characters of the cursor's line -/
def opL (g : Int) (A : kEd) (i j : Nat) : kEd :=
  if A.2.2.2.1.1 = 121 then (A.1, A.2.1, ((j : Int) - i + 1, slc A.1.1 i (j + 1)), A.2.2.2)
  else if A.2.2.2.1.1 = 100 then (dropX A.1.1 i j, some A.1, ((j : Int) - i + 1, slc A.1.1 i (j + 1)), A.2.2.2.1, A.2.2.2.2.1, chL g A)
  else ((cut (A.1.1.set i []) (i + 1) (j + 1), (i : Int), 0), some A.1, ((j : Int) - i + 1, slc A.1.1 i (j + 1)), A.2.2.2.1, (1, 0, 0, []), chL g A)
def opC (g : Int) (A : kEd) (i j : Nat) : kEd :=
  if A.2.2.2.1.1 = 121 then (A.1, A.2.1, (0, [slc (ln A.1.1 A.1.2.1.toNat) i j]), A.2.2.2)
  else if A.2.2.2.1.1 = 100 then ((A.1.1.set A.1.2.1.toNat (cut (ln A.1.1 A.1.2.1.toNat) i j), A.1.2.1, cl i (((cut (ln A.1.1 A.1.2.1.toNat) i j).length : Int) - 1)), some A.1, (0, [slc (ln A.1.1 A.1.2.1.toNat) i j]), A.2.2.2.1, A.2.2.2.2.1, chL g A)
  else ((A.1.1.set A.1.2.1.toNat (cut (ln A.1.1 A.1.2.1.toNat) i j), A.1.2.1, (i : Int)), some A.1, (0, [slc (ln A.1.1 A.1.2.1.toNat) i j]), A.2.2.2.1, (1, (i : Int), 0, []), chL g A)
theorem SC.opL1 {g : Int} {x : Tc} {o : Option Tc} {b : Int × Tx} {q : Qd} {s : Int × Int} {l : Int × List Int} {i j : Nat} {xi xj : Int} (hg : g = 0 ∨ g = 1) (hi : xi = i) (hj : xj = j) (hij : i ≤ j) (hjl : j < x.1.length) (hl : x.1.length ≤ 10) (hq : q.2.2.2.length ≤ 4) (hop : isOp q.1) : SC g (f_Kb_operateOnLines xi xj) (some 1) (x, o, b, q, (0, s.1, s.2, []), l) (opL g (x, o, b, q, (0, s.1, s.2, []), l) i j) := by
  have ho : -1000 ≤ q.1 ∧ q.1 ≤ 1000 := by
    unfold isOp at hop
    omega
  unfold f_Kb_operateOnLines fb_Kb_operateOnLines_0
  refine SC.u (SC.holdLines hi hj hij hjl) ?_
  unfold opL
  dsimp only
  by_cases h1 : q.1 = 121
  · rw [if_pos h1]
    refine SC.cg SC.ret fun σ c => ?_
    have : σ 5 0 9 = q.1 := c.2.2.2.1.1
    unfold fb_Kb_operateOnLines_9 fb_Kb_operateOnLines_18
    rw [this, kg_pos (by omega), if_pos h1]
  · rw [if_neg h1]
    refine SC.cg (f := fb_Kb_operateOnLines_20 xi xj) ?_ fun σ c => ?_
    · unfold fb_Kb_operateOnLines_20
      refine SC.u (SC.begin hg hq) ?_
      by_cases h2 : q.1 = 100
      · rw [if_pos h2]
        refine SC.cg (f := fb_Kb_operateOnLines_33 xi xj) ?_ fun σ c => ?_
        · unfold fb_Kb_operateOnLines_33
          exact SC.u (SC.dropLines hi hj hij hjl hl) SC.ret
        · have : σ 5 0 9 = q.1 := c.2.2.2.1.1
          unfold fb_Kb_operateOnLines_24
          rw [this, kg_pos (by omega), if_pos h2]
      · rw [if_neg h2]
        refine SC.cg (f := fb_Kb_operateOnLines_45 xi xj) ?_ fun σ c => ?_
        · unfold fb_Kb_operateOnLines_45
          refine SC.u (SC.emptyLines hi hj hij hjl hl) ?_
          rw [hi]
          exact SC.u (SC.bins (s := s)) SC.ret
        · have : σ 5 0 9 = q.1 := c.2.2.2.1.1
          unfold fb_Kb_operateOnLines_24
          rw [this, kg_pos (by omega), if_neg h2]
    · have : σ 5 0 9 = q.1 := c.2.2.2.1.1
      unfold fb_Kb_operateOnLines_9
      rw [this, kg_pos (by omega), if_neg h1]
theorem SC.opC1 {g : Int} {x : Tc} {o : Option Tc} {b : Int × Tx} {q : Qd} {s : Int × Int} {l : Int × List Int} {i j : Nat} {xi xj : Int} (hg : g = 0 ∨ g = 1) (hi : xi = i) (hj : xj = j) (hij : i < j) (hx : wfX x) (hjl : j ≤ (ln x.1 x.2.1.toNat).length) (hq : q.2.2.2.length ≤ 4) (hop : isOp q.1) : SC g (f_Kb_operateOnLetters xi xj) (some 1) (x, o, b, q, (0, s.1, s.2, []), l) (opC g (x, o, b, q, (0, s.1, s.2, []), l) i j) := by
  have ho : -1000 ≤ q.1 ∧ q.1 ≤ 1000 := by
    unfold isOp at hop
    omega
  obtain ⟨w1, w2, w3, w4, w5, w6, w7, w8⟩ := hx.sz
  have hcl : (cut (ln x.1 x.2.1.toNat) i j).length = (ln x.1 x.2.1.toNat).length - (j - i) := cut_len (by omega) hjl
  refine SC.cg (f := fb_Kb_operateOnLetters_7 xi xj) ?_ fun σ c => ?_
  · unfold fb_Kb_operateOnLetters_7
    refine SC.u (SC.holdLetters hi hj (by omega) (by omega) hjl) ?_
    unfold opC
    dsimp only
    by_cases h1 : q.1 = 121
    · rw [if_pos h1]
      refine SC.cg SC.ret fun σ c => ?_
      have : σ 5 0 9 = q.1 := c.2.2.2.1.1
      unfold fb_Kb_operateOnLetters_16 fb_Kb_operateOnLetters_25
      rw [this, kg_pos (by omega), if_pos h1]
    · rw [if_neg h1]
      refine SC.cg (f := fb_Kb_operateOnLetters_27 xi xj) ?_ fun σ c => ?_
      · unfold fb_Kb_operateOnLetters_27
        refine SC.u (SC.begin hg hq) ?_
        unfold fb_Kb_operateOnLetters_31
        refine SC.u (A1 := ((x.1.set x.2.1.toNat (cut (ln x.1 x.2.1.toNat) i j), x.2), _)) (SC.t0 (f := fun σ => f_Te_closeLetters (σ 2 0 3) xi xj 0 σ) fun σ c => ?_) ?_
        · have h3 : σ 2 0 3 = ((x.2.1.toNat : Nat) : Int) := (show σ 2 0 3 = x.2.1 from c.1.2.2.1).trans w8.symm
          rw [h3, hi, hj]
          exact C_closeLetters (T := x.1) c.1.1 c.1.2.1 w2 (by omega) hjl
        by_cases h2 : q.1 = 100
        · rw [if_pos h2]
          refine SC.cg (f := fun σ => kbu (f_Te_stand x.2.1 xi 0 σ) fun σ1 => fb_Kb_operateOnLetters_71 xi xj σ1) ?_ fun σ c => ?_
          · have hst := SC.stand (g := g) (x := (x.1.set x.2.1.toNat (cut (ln x.1 x.2.1.toNat) i j), x.2)) (o := some x) (b := (0, [slc (ln x.1 x.2.1.toNat) i j])) (q := q) (m := (0, s.1, s.2, [])) (l := if g = 0 then ((q.2.2.2.length : Int), q.2.2.2) else l) (r := x.2.1) (c := xi) (by rw [List.length_set]; omega) (by omega) (by omega)
            dsimp only at hst
            have e1 : cl x.2.1 ((x.1.length : Int) - 1) = x.2.1 := by
              unfold cl
              omega
            rw [List.length_set, e1, ln_set w2, if_pos rfl, hi] at hst
            rw [hi]
            exact SC.u hst SC.ret
          · have h5 : σ 5 0 9 = q.1 := c.2.2.2.1.1
            have h3 : σ 2 0 3 = x.2.1 := c.1.2.2.1
            unfold fb_Kb_operateOnLetters_47 fb_Kb_operateOnLetters_56
            rw [h5, kg_pos (by omega), if_pos h2, h3]
        · rw [if_neg h2]
          refine SC.cg (f := fun σ => kbu (f_Kb_beginInsert x.2.1 xi σ) fun σ1 => fb_Kb_operateOnLetters_86 xi xj σ1) ?_ fun σ c => ?_
          · rw [hi]
            exact SC.u (SC.bins (s := s)) SC.ret
          · have h5 : σ 5 0 9 = q.1 := c.2.2.2.1.1
            have h3 : σ 2 0 3 = x.2.1 := c.1.2.2.1
            unfold fb_Kb_operateOnLetters_47 fb_Kb_operateOnLetters_74
            rw [h5, kg_pos (by omega), if_neg h2, h3]
      · have : σ 5 0 9 = q.1 := c.2.2.2.1.1
        unfold fb_Kb_operateOnLetters_16
        rw [this, kg_pos (by omega), if_neg h1]
  · unfold f_Kb_operateOnLetters fb_Kb_operateOnLetters_0
    rw [kg_pos (by omega), if_pos (by omega)]
theorem SC.opC0 {g : Int} {A : kEd} {xi xj : Int} (h : xj ≤ xi) (h2 : -1000 ≤ xj) (h3 : xi ≤ 1000) : SC g (f_Kb_operateOnLetters xi xj) (some 0) A A := by
  refine SC.read fun σ c => ?_
  unfold f_Kb_operateOnLetters fb_Kb_operateOnLetters_0
  rw [kg_pos (by omega), if_neg (by omega)]
  rfl
/-- a change that begins INSERT in the cursor's line -/
def insF (g : Int) (A : kEd) (k : Int) : kEd := ((A.1.1, A.1.2.1, k), some A.1, A.2.2.1, A.2.2.2.1, (1, k, 0, []), chL g A)
theorem SC.insF1 {g : Int} {x : Tc} {o : Option Tc} {b : Int × Tx} {q : Qd} {s : Int × Int} {l : Int × List Int} {k : Int} (hg : g = 0 ∨ g = 1) (hq : q.2.2.2.length ≤ 4) : SC g (f_Kb_insertFrom k) (some 1) (x, o, b, q, (0, s.1, s.2, []), l) (insF g (x, o, b, q, (0, s.1, s.2, []), l) k) := by
  unfold f_Kb_insertFrom fb_Kb_insertFrom_0
  refine SC.u (SC.begin hg hq) ?_
  refine SC.cg (f := fun σ => kbu (f_Kb_beginInsert x.2.1 k σ) fun σ1 => fb_Kb_insertFrom_16 k σ1) (SC.u (SC.bins (s := s)) SC.ret) fun σ c => ?_
  have h3 : σ 2 0 3 = x.2.1 := c.1.2.2.1
  unfold fb_Kb_insertFrom_4
  rw [h3]
def putX (x : Tc) (b : Int × Tx) (p : Nat) (k : Nat) : Tc := if 0 < b.1 then (ins x.1 p b.2, (p : Int), 0) else (x.1.set x.2.1.toNat (ins (ln x.1 x.2.1.toNat) k (ln b.2 0)), x.2.1, (k : Int) + (ln b.2 0).length - 1)
def putA (g : Int) (A : kEd) (p k : Nat) : kEd := if canP A.1 A.2.2.1 = 1 then (putX A.1 A.2.2.1 p k, some A.1, A.2.2.1, A.2.2.2.1, A.2.2.2.2.1, chL g A) else A
theorem SC.putA1 {g : Int} {x : Tc} {o : Option Tc} {b : Int × Tx} {q : Qd} {m : Md} {l : Int × List Int} {p k : Nat} {xp xk : Int} (hg : g = 0 ∨ g = 1) (hxp : xp = p) (hxk : xk = k) (hx : wfX x) (hb : wfB b) (hp : p ≤ x.1.length) (hk : k ≤ (ln x.1 x.2.1.toNat).length) (hq : q.2.2.2.length ≤ 4) : SC g (f_Kb_put xp xk) (some (canP x b)) (x, o, b, q, m, l) (putA g (x, o, b, q, m, l) p k) := by
  have hb' := hb.1
  have hb'' := hb.2.1
  unfold f_Kb_put fb_Kb_put_0
  refine SC.i (SC.canPut hx hb) ?_
  unfold putA putX
  dsimp only
  have h01 : canP x b = 0 ∨ canP x b = 1 := by
    unfold canP
    repeat' split
    all_goals omega
  by_cases h1 : canP x b = 1
  · rw [if_pos h1, h1]
    refine SC.cg (f := fb_Kb_put_12 xp xk) ?_ fun σ c => ?_
    · unfold fb_Kb_put_12
      refine SC.u (SC.begin hg hq) ?_
      by_cases h2 : 0 < b.1
      · rw [if_pos h2]
        refine SC.cg (f := fb_Kb_put_26 xp xk) ?_ fun σ c => ?_
        · unfold fb_Kb_put_26
          refine SC.u (SC.putLines hxp hx hb h2 ?_ hp) SC.ret
          unfold canP at h1
          rw [if_neg (by omega)] at h1
          by_cases h3 : 0 < b.1 ∧ (x.1.length : Int) + b.1 ≤ 10
          · exact h3.2
          · rw [if_neg h3] at h1
            exact absurd h1 (by decide)
        · have : σ 1 0 4 = b.1 := c.2.2.1.1
          unfold fb_Kb_put_16
          rw [this, kg_pos (by omega), if_neg (by omega)]
      · rw [if_neg h2]
        have h0 : b.1 = 0 := by
          unfold canP at h1
          by_cases h4 : b.1 = 0
          · exact h4
          · rw [if_neg h4, if_neg (by omega)] at h1
            exact absurd h1 (by decide)
        refine SC.cg (f := fb_Kb_put_37 xp xk) ?_ fun σ c => ?_
        · unfold fb_Kb_put_37
          refine SC.u (SC.putLetters hxk hx hb h0 ?_ hk) SC.ret
          unfold canP at h1
          rw [if_pos h0] at h1
          by_cases h3 : (ln x.1 x.2.1.toNat).length + (ln b.2 0).length ≤ 20
          · exact h3
          · rw [if_neg h3] at h1
            exact absurd h1 (by decide)
        · have : σ 1 0 4 = b.1 := c.2.2.1.1
          unfold fb_Kb_put_16
          rw [this, kg_pos (by omega), if_pos (by omega)]
    · unfold fb_Kb_put_7
      rw [kg_pos (by decide), if_neg (by decide)]
  · rw [if_neg h1]
    have h0 : canP x b = 0 := by omega
    rw [h0]
    refine SC.read fun σ c => ?_
    unfold fb_Kb_put_7
    rw [kg_pos (by decide), if_pos rfl]
    rfl
/-- o and O -/
def opnA (g : Int) (A : kEd) (p : Nat) : kEd := if A.1.1.length < 10 then ((ins A.1.1 p [List.replicate (ind (ln A.1.1 A.1.2.1.toNat)) 32], (p : Int), (ind (ln A.1.1 A.1.2.1.toNat) : Int)), some A.1, A.2.2.1, A.2.2.2.1, (1, (ind (ln A.1.1 A.1.2.1.toNat) : Int), 0, []), chL g A) else A
theorem ins_set {T : Tx} {p : Nat} {L M : List Int} (hp : p ≤ T.length) : (ins T p [L]).set p M = ins T p [M] := by
  have h1 : (ins T p [L]).length = T.length + 1 := ins_len hp
  have h2 : (ins T p [M]).length = T.length + 1 := ins_len hp
  refine gd_ext [] (by rw [List.length_set, h1, h2]) fun k hk => ?_
  rw [gd_set _ _ _ (by omega), ins_gd _ hp, ins_gd _ hp]
  simp only [List.length_singleton]
  by_cases h : k = p
  · subst h
    rw [if_pos rfl, if_neg (by omega), if_pos (by omega), Nat.sub_self]
    rfl
  · rw [if_neg h]
    by_cases h3 : k < p
    · rw [if_pos h3, if_pos h3]
    · rw [if_neg h3, if_neg h3, if_neg (by omega), if_neg (by omega)]
theorem ins_nil {α : Type} (Y : List α) : ins ([] : List α) 0 Y = Y := by
  unfold ins
  simp
theorem SC.opnA1 {g : Int} {x : Tc} {o : Option Tc} {b : Int × Tx} {q : Qd} {s : Int × Int} {l : Int × List Int} {p : Nat} {xp : Int} (hg : g = 0 ∨ g = 1) (hxp : xp = p) (hx : wfX x) (hp : p ≤ x.1.length) (hq : q.2.2.2.length ≤ 4) : SC g (f_Kb_openLine xp) (some (if x.1.length < 10 then 1 else 0)) (x, o, b, q, (0, s.1, s.2, []), l) (opnA g (x, o, b, q, (0, s.1, s.2, []), l) p) := by
  obtain ⟨w1, w2, w3, w4, w5, w6, w7, w8⟩ := hx.sz
  unfold opnA
  dsimp only
  by_cases h1 : x.1.length < 10
  · rw [if_pos h1, if_pos h1]
    have hi := ind_le (ln x.1 x.2.1.toNat)
    refine SC.cg (f := fb_Kb_openLine_14 xp) ?_ fun σ c => ?_
    · unfold fb_Kb_openLine_14
      refine SC.u (SC.begin hg hq) ?_
      refine SC.i (y := (ind (ln x.1 x.2.1.toNat) : Int)) (f := fun σ => f_Te_indentOf (σ 2 0 3) 0 σ) (SC.read fun σ c => ?_) ?_
      · have h3 : σ 2 0 3 = ((x.2.1.toNat : Nat) : Int) := (show σ 2 0 3 = x.2.1 from c.1.2.2.1).trans w8.symm
        rw [h3]
        exact C_indentOf (T := x.1) c.1.1 c.1.2.1 w2 hx.1.2.2.1
      · subst hxp
        refine SC.i (y := 1) (f := f_Te_openLines p 1 0) (SC.t0 (T := ins x.1 p [[]]) fun σ c => ?_) ?_
        · exact C_openLines (T := x.1) (m := 1) c.1.1 c.1.2.1 hp (by omega)
        · have hil : (ins x.1 p [([] : List Int)]).length = x.1.length + 1 := ins_len hp
          have hln : ln (ins x.1 p [([] : List Int)]) p = [] := by
            have : ln (ins x.1 p [([] : List Int)]) p = _ := ins_gd [] hp p
            rw [this, if_neg (by omega), if_pos (by rw [List.length_singleton]; omega), Nat.sub_self]
            rfl
          refine SC.i (y := 1) (f := f_Te_openLetters p 0 (ind (ln x.1 x.2.1.toNat) : Int) 0) (A1 := ((ins x.1 p [List.replicate (ind (ln x.1 x.2.1.toNat)) 32], x.2), _)) (SC.t0 (x := (ins x.1 p [[]], x.2)) fun σ c => ?_) ?_
          · have := C_openLetters (σ := σ) (t := 0) (T := ins x.1 p [[]]) (p := p) (a := 0) (m := ind (ln x.1 x.2.1.toNat)) c.1.1 c.1.2.1 (by omega) (by omega) (by rw [hln]; exact Nat.le_trans (by rw [List.length_nil]; omega) w1)
            rw [hln, ins_nil, ins_set hp] at this
            exact this
          · exact SC.u (SC.bins (s := s)) SC.ret
    · have : σ 2 0 2 = x.1.length := c.1.2.1
      unfold f_Kb_openLine fb_Kb_openLine_0
      rw [this, kg_pos (by omega), if_pos (by omega)]
  · rw [if_neg h1, if_neg h1]
    refine SC.read fun σ c => ?_
    have : σ 2 0 2 = x.1.length := c.1.2.1
    unfold f_Kb_openLine fb_Kb_openLine_0
    rw [this, kg_pos (by omega), if_neg (by omega)]
    rfl
/-- u -/
def undA (A : kEd) : kEd := A.2.1.elim A (fun y => (y, some A.1, A.2.2))
theorem SC.undA1 {g : Int} {x : Tc} {o : Option Tc} {b : Int × Tx} {q : Qd} {m : Md} {l : Int × List Int} : SC g f_De_exchange (some (if o.isSome then 1 else 0)) (x, o, b, q, m, l) (undA (x, o, b, q, m, l)) := by
  cases o with
  | none =>
    refine SC.read fun σ c => ?_
    have : σ 1 0 5 = 0 := c.2.1
    unfold f_De_exchange fb_De_exchange_0
    rw [this, kg_pos (by decide), if_pos rfl]
    rfl
  | some y =>
    intro σ c
    obtain ⟨c1, ⟨c2, c2'⟩, c3, c4, c5, c6, c7⟩ := c
    have h5 : σ 1 0 5 = 1 := c2
    have hx1 : CX σ 0 x := c1
    have hx2 : CX σ 1 y := c2'
    unfold f_De_exchange fb_De_exchange_0
    rw [h5, kg_pos (by decide), if_neg (by decide)]
    unfold fb_De_exchange_9
    obtain ⟨F, G, e1, t1⟩ := C_copy (σ := σ) (t := 2) (u := 0) hx1 (by decide)
    rw [kbu_eq e1]
    unfold fb_De_exchange_20
    have hx2' : CX (kup (kup (sT σ 2 F G x.1.length) 2 2 3 x.2.1) 2 2 4 x.2.2) 1 y := hx2
    have hx3 : CX (kup (kup (sT σ 2 F G x.1.length) 2 2 3 x.2.1) 2 2 4 x.2.2) 2 x := ⟨t1, rfl, rfl, rfl⟩
    have hfr : frE σ (kup (kup (sT σ 2 F G x.1.length) 2 2 3 x.2.1) 2 2 4 x.2.2) := ((frE.rfl.sT (by decide)).kup (by decide)).kup (by decide)
    have k3 : CB (kup (kup (sT σ 2 F G x.1.length) 2 2 3 x.2.1) 2 2 4 x.2.2) b := c3
    have k4 : CQ (kup (kup (sT σ 2 F G x.1.length) 2 2 3 x.2.1) 2 2 4 x.2.2) q := c4
    have k5 : CM (kup (kup (sT σ 2 F G x.1.length) 2 2 3 x.2.1) 2 2 4 x.2.2) m := c5
    have k6 : CL (kup (kup (sT σ 2 F G x.1.length) 2 2 3 x.2.1) 2 2 4 x.2.2) l := c6
    have k7 : kup (kup (sT σ 2 F G x.1.length) 2 2 3 x.2.1) 2 2 4 x.2.2 5 0 12 = g := c7
    have k1 : kup (kup (sT σ 2 F G x.1.length) 2 2 3 x.2.1) 2 2 4 x.2.2 1 0 5 = 1 := h5
    clear e1
    generalize kup (kup (sT σ 2 F G x.1.length) 2 2 3 x.2.1) 2 2 4 x.2.2 = τ at hx2' hx3 hfr k1 k3 k4 k5 k6 k7
    obtain ⟨F2, G2, e2, t2⟩ := C_copy (σ := τ) (t := 0) (u := 1) hx2' (by decide)
    rw [kbu_eq e2]
    unfold fb_De_exchange_31
    have hx3' : CX (kup (kup (sT τ 0 F2 G2 y.1.length) 2 0 3 y.2.1) 2 0 4 y.2.2) 2 x := hx3
    obtain ⟨F3, G3, e3, t3⟩ := C_copy (σ := kup (kup (sT τ 0 F2 G2 y.1.length) 2 0 3 y.2.1) 2 0 4 y.2.2) (t := 1) (u := 2) hx3' (by decide)
    rw [kbu_eq e3]
    exact ⟨_, rfl, ⟨⟨t2, rfl, rfl, rfl⟩, ⟨k1, t3, rfl, rfl, rfl⟩, k3, k4, k5, k6, k7⟩, hfr.tr (((((frE.rfl.sT (by decide)).kup (by decide)).kup (by decide)).tr ((((frE.rfl.sT (by decide)).kup (by decide)).kup (by decide)))))⟩
