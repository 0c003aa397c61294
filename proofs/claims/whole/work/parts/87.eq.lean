/-! Pure: in COMMAND both sides end alike. -/
def okA (A : kEd) : Prop := (0 ≤ A.2.2.2.2.1.1 ∧ A.2.2.2.2.1.1 ≤ 2) ∧ A.2.2.2.1.2.2.2.length ≤ 4 ∧ (0 ≤ A.1.2.1 ∧ A.1.2.1 < A.1.1.length) ∧ -1000 ≤ A.1.2.2 ∧ A.1.2.2 ≤ 1000
def EQ (g : Int) (B : Tc) (R C : Int × kEd) : Prop := (R.1 = 0 ∨ R.1 = 2 ∨ R.1 = 3) ∧ okA R.2 ∧ finA g B R.1 R.2 = dropQ C.2 ∧ C.1 = (if R.1 = 0 then 0 else 1)
theorem clip_id {x : Tc} (hx : wfX x) (hon : onC x) : clipX x = x := by
  obtain ⟨w1, w2, w3, w4, w5, w6, w7, w8⟩ := hx.sz
  unfold onC at hon
  unfold clipX
  rw [if_pos (by omega)]
theorem EQ.ring {g : Int} {x : Tc} {o : Option Tc} {b : Int × Tx} {q : Qd} {s : Int × Int} {l : Int × List Int} {B : Tc} (hx : wfX x) (hon : onC x) (hq : q.2.2.2.length ≤ 4) : EQ g B (0, (x, o, b, q, (0, s.1, s.2, []), l)) (0, (x, o, b, q, (0, s.1, s.2, []), l)) := by
  obtain ⟨w1, w2, w3, w4, w5, w6, w7, w8⟩ := hx.sz
  refine ⟨.inl rfl, ⟨⟨(by decide : (0 : Int) ≤ 0), (by decide : (0 : Int) ≤ 2)⟩, hq, ⟨w5, by show x.2.1 < x.1.length; omega⟩, by show -1000 ≤ x.2.2; omega, by show x.2.2 ≤ 1000; omega⟩, ?_, rfl⟩
  unfold finA dropQ
  dsimp only
  rw [if_pos rfl, if_neg (by decide), if_neg (by decide), clip_id hx hon]
theorem EQ.ch {g : Int} {x : Tc} {o : Option Tc} {b : Int × Tx} {q : Qd} {s : Int × Int} {l : Int × List Int} {i j : Int} (hx : wfX x) (hon : onC x) (hq : q.2.2.2.length ≤ 4) (hop : isOp q.1) (hi : 0 ≤ i) (hj : 0 ≤ j) (hjl : j ≤ (ln x.1 x.2.1.toNat).length) : EQ g x (chR (x, o, b, q, (0, s.1, s.2, []), l) i j) (chA g (x, o, b, q, (0, s.1, s.2, []), l) i j) := by
  unfold chR chA
  by_cases h : i < j
  · rw [if_pos h, if_pos h]
    obtain ⟨w1, w2, w3, w4, w5, w6, w7, w8⟩ := hx.sz
    have hcl : (cut (ln x.1 x.2.1.toNat) i.toNat j.toNat).length = (ln x.1 x.2.1.toNat).length - (j.toNat - i.toNat) := cut_len (by omega) (by omega)
    unfold isOp at hop
    unfold opCr opC
    dsimp only
    by_cases h1 : q.1 = 121
    · rw [if_pos h1, if_pos h1]
      refine ⟨.inr (.inl rfl), ⟨⟨(by decide : (0 : Int) ≤ 0), (by decide : (0 : Int) ≤ 2)⟩, hq, ⟨w5, by show x.2.1 < x.1.length; omega⟩, by show -1000 ≤ x.2.2; omega, by show x.2.2 ≤ 1000; omega⟩, ?_, rfl⟩
      unfold finA dropQ
      dsimp only
      rw [if_pos rfl, if_neg (by decide), if_neg (by decide), clip_id hx hon]
    · rw [if_neg h1, if_neg h1]
      by_cases h2 : q.1 = 99
      · rw [if_pos h2, if_neg (by omega)]
        refine ⟨.inr (.inr rfl), ⟨⟨by show (0 : Int) ≤ 1; decide, by show (1 : Int) ≤ 2; decide⟩, hq, ⟨w5, by show x.2.1 < ((x.1.set x.2.1.toNat _).length : Nat); rw [List.length_set]; omega⟩, by show -1000 ≤ ((i.toNat : Nat) : Int); omega, by show ((i.toNat : Nat) : Int) ≤ 1000; omega⟩, ?_, rfl⟩
        unfold finA dropQ
        dsimp only
        rw [if_neg (by decide), if_pos rfl, if_pos rfl]
        rfl
      · rw [if_neg h2, if_pos (by omega)]
        refine ⟨.inr (.inr rfl), ⟨⟨(by decide : (0 : Int) ≤ 0), (by decide : (0 : Int) ≤ 2)⟩, hq, ⟨w5, by show x.2.1 < ((x.1.set x.2.1.toNat _).length : Nat); rw [List.length_set]; omega⟩, by show -1000 ≤ ((i.toNat : Nat) : Int); omega, by show ((i.toNat : Nat) : Int) ≤ 1000; omega⟩, ?_, rfl⟩
        unfold finA dropQ clipX
        dsimp only
        rw [if_pos rfl, if_pos rfl, if_pos rfl, ln_set w2, if_pos rfl]
        have e : (if ((i.toNat : Nat) : Int) ≤ max 0 (((cut (ln x.1 x.2.1.toNat) i.toNat j.toNat).length : Int) - 1) then ((i.toNat : Nat) : Int) else max 0 (((cut (ln x.1 x.2.1.toNat) i.toNat j.toNat).length : Int) - 1)) = cl ((i.toNat : Nat) : Int) (((cut (ln x.1 x.2.1.toNat) i.toNat j.toNat).length : Int) - 1) := by
          unfold cl
          split <;> omega
        rw [e]
        rfl
  · rw [if_neg h, if_neg h]
    exact EQ.ring hx hon hq
theorem dropX_len {T : Tx} {i j : Nat} (hij : i ≤ j) (hj : j < T.length) : 0 < (dropT T i j).length ∧ (dropT T i j).length ≤ max 1 T.length := by
  have hcl : (cut T i (j + 1)).length = T.length - (j + 1 - i) := cut_len (by omega) (by omega)
  unfold dropT orE
  split
  · exact ⟨by decide, by show (1 : Nat) ≤ _; omega⟩
  · omega
theorem EQ.lns {g : Int} {x : Tc} {o : Option Tc} {b : Int × Tx} {q : Qd} {s : Int × Int} {l : Int × List Int} {i j : Int} (hx : wfX x) (hon : onC x) (hq : q.2.2.2.length ≤ 4) (hop : isOp q.1) (hi : 0 ≤ i) (hij : i ≤ j) (hj : j < x.1.length) : EQ g x (lnR (x, o, b, q, (0, s.1, s.2, []), l) i j) (lnA g (x, o, b, q, (0, s.1, s.2, []), l) i j) := by
  obtain ⟨w1, w2, w3, w4, w5, w6, w7, w8⟩ := hx.sz
  unfold isOp at hop
  unfold lnR lnA opLr opL
  dsimp only
  by_cases h1 : q.1 = 121
  · rw [if_pos h1, if_pos h1]
    refine ⟨.inr (.inl rfl), ⟨⟨(by decide : (0 : Int) ≤ 0), (by decide : (0 : Int) ≤ 2)⟩, hq, ⟨w5, by show x.2.1 < x.1.length; omega⟩, by show -1000 ≤ x.2.2; omega, by show x.2.2 ≤ 1000; omega⟩, ?_, rfl⟩
    unfold finA dropQ
    dsimp only
    rw [if_pos rfl, if_neg (by decide), if_neg (by decide), clip_id hx hon]
  · rw [if_neg h1, if_neg h1]
    by_cases h2 : q.1 = 100
    · rw [if_pos h2, if_pos h2]
      obtain ⟨d1, d2⟩ := dropX_len (T := x.1) (i := i.toNat) (j := j.toNat) (by omega) (by omega)
      refine ⟨.inr (.inr rfl), ⟨⟨(by decide : (0 : Int) ≤ 0), (by decide : (0 : Int) ≤ 2)⟩, hq, ⟨?_, ?_⟩, (by decide : (-1000 : Int) ≤ 0), (by decide : (0 : Int) ≤ 1000)⟩, ?_, rfl⟩
      · show 0 ≤ cl _ _
        unfold cl
        omega
      · show cl ((i.toNat : Nat) : Int) (((dropT x.1 i.toNat j.toNat).length : Int) - 1) < ((dropT x.1 i.toNat j.toNat).length : Int)
        unfold cl
        omega
      · unfold finA dropQ clipX dropX
        dsimp only
        rw [if_pos rfl, if_pos rfl, if_pos rfl, if_pos (by omega)]
        rfl
    · rw [if_neg h2, if_neg h2]
      have hl : (cut (x.1.set i.toNat []) (i.toNat + 1) (j.toNat + 1)).length = x.1.length - (j.toNat + 1 - (i.toNat + 1)) := by
        rw [cut_len (by omega) (by rw [List.length_set]; omega), List.length_set]
      refine ⟨.inr (.inr rfl), ⟨⟨by show (0 : Int) ≤ 1; decide, by show (1 : Int) ≤ 2; decide⟩, hq, ⟨by show 0 ≤ ((i.toNat : Nat) : Int); omega, ?_⟩, (by decide : (-1000 : Int) ≤ 0), (by decide : (0 : Int) ≤ 1000)⟩, ?_, rfl⟩
      · show ((i.toNat : Nat) : Int) < ((cut (x.1.set i.toNat []) (i.toNat + 1) (j.toNat + 1)).length : Int)
        omega
      · unfold finA dropQ
        dsimp only
        rw [if_neg (by decide), if_pos rfl, if_pos rfl]
        rfl
theorem EQ.oprs {g : Int} {x : Tc} {o : Option Tc} {b : Int × Tx} {q : Qd} {s : Int × Int} {l : Int × List Int} {c p p' : Int} (hx : wfX x) (hon : onC x) (hq : q.2.2.2.length ≤ 4) (hop : isOp q.1) (hn : 0 ≤ q.2.1 ∧ q.2.1 ≤ 99) (hp : p = -1 ∨ 0 ≤ p ∧ p / 32 < x.1.length) (hp2 : c = 119 ∨ c = 98 → 0 ≤ p → p / 32 = x.2.1 → p % 32 ≤ (ln x.1 x.2.1.toNat).length) (hpp : p' = p ∨ c = 108) : EQ g x (oprR (x, o, b, q, (0, s.1, s.2, []), l) c p') (opr g (x, o, b, q, (0, s.1, s.2, []), l) c p) := by
  obtain ⟨w1, w2, w3, w4, w5, w6, w7, w8⟩ := hx.sz
  unfold oprR opr
  dsimp only
  by_cases h6 : c = 108
  · rw [if_neg (by omega), if_neg (by omega), if_neg (by omega), if_neg (by omega), if_neg (by omega), if_pos h6, if_neg (by omega), if_neg (by omega), if_neg (by omega), if_neg (by omega), if_neg (by omega), if_pos h6]
    exact EQ.ch hx hon hq hop (by omega) (by omega) (by omega)
  have hpe : p' = p := hpp.resolve_right h6
  subst hpe
  by_cases h1 : c = 36
  · rw [if_pos h1, if_pos h1]
    by_cases h0 : p' < 0
    · rw [if_pos h0, if_pos h0]
      exact EQ.ring hx hon hq
    · rw [if_neg h0, if_neg h0]
      exact EQ.ch hx hon hq hop (by omega) (by omega) (by omega)
  rw [if_neg h1, if_neg h1]
  by_cases h2 : c = 48
  · rw [if_pos h2, if_pos h2]
    by_cases h0 : p' < 0
    · rw [if_pos h0, if_pos h0]
      exact EQ.ring hx hon hq
    · rw [if_neg h0, if_neg h0]
      exact EQ.ch hx hon hq hop (by omega) (by omega) (by omega)
  rw [if_neg h2, if_neg h2]
  by_cases h3 : c = 71 ∨ c = 106 ∨ c = 107
  · rw [if_pos h3, if_pos h3]
    by_cases h0 : p' < 0
    · rw [if_pos h0, if_pos h0]
      exact EQ.ring hx hon hq
    · rw [if_neg h0, if_neg h0]
      exact EQ.lns hx hon hq hop (by omega) (by omega) (by omega)
  rw [if_neg h3, if_neg h3]
  by_cases h4 : c = 98
  · rw [if_pos h4, if_pos h4]
    by_cases h0 : 0 ≤ p' ∧ p' / 32 = x.2.1
    · rw [if_pos h0, if_pos h0]
      exact EQ.ch hx hon hq hop (by omega) (by omega) (by omega)
    · rw [if_neg h0, if_neg h0]
      exact EQ.ring hx hon hq
  rw [if_neg h4, if_neg h4]
  by_cases h5 : c = 104
  · rw [if_pos h5, if_pos h5]
    exact EQ.ch hx hon hq hop (by omega) (by omega) (by omega)
  rw [if_neg h5, if_neg h5, if_neg h6, if_neg h6]
  by_cases h7 : c = 119
  · rw [if_pos h7, if_pos h7]
    refine EQ.ch hx hon hq hop (by omega) ?_ ?_
    · split <;> omega
    · split
      · rename_i h0
        exact hp2 (.inl h7) h0.1 h0.2
      · omega
  rw [if_neg h7, if_neg h7]
  by_cases h8 : c = q.1 ∧ x.2.1 + max 1 q.2.1 ≤ x.1.length
  · rw [if_pos h8, if_pos h8]
    exact EQ.lns hx hon hq hop (by omega) (by omega) (by omega)
  · rw [if_neg h8, if_neg h8]
    exact EQ.ring hx hon hq
theorem EQ.inss {g : Int} {x : Tc} {o : Option Tc} {b : Int × Tx} {q : Qd} {s : Int × Int} {l : Int × List Int} {k : Int} (hx : wfX x) (hq : q.2.2.2.length ≤ 4) (hk : -1000 ≤ k ∧ k ≤ 1000) : EQ g x (3, insR (x, o, b, q, (0, s.1, s.2, []), l) k) (1, insF g (x, o, b, q, (0, s.1, s.2, []), l) k) := by
  obtain ⟨w1, w2, w3, w4, w5, w6, w7, w8⟩ := hx.sz
  refine ⟨.inr (.inr rfl), ⟨⟨by show (0 : Int) ≤ 1; decide, by show (1 : Int) ≤ 2; decide⟩, hq, ⟨w5, by show x.2.1 < x.1.length; omega⟩, hk.1, hk.2⟩, ?_, rfl⟩
  unfold finA dropQ insR insF
  dsimp only
  rw [if_neg (by decide), if_pos rfl, if_pos rfl]
  rfl
theorem EQ.opn {g : Int} {x : Tc} {o : Option Tc} {b : Int × Tx} {q : Qd} {s : Int × Int} {l : Int × List Int} {p : Nat} (hx : wfX x) (hon : onC x) (hq : q.2.2.2.length ≤ 4) (hp : p ≤ x.1.length) : EQ g x (opnR (x, o, b, q, (0, s.1, s.2, []), l) p) ((if x.1.length < 10 then 1 else 0), opnA g (x, o, b, q, (0, s.1, s.2, []), l) p) := by
  obtain ⟨w1, w2, w3, w4, w5, w6, w7, w8⟩ := hx.sz
  have hi := ind_le (ln x.1 x.2.1.toNat)
  unfold opnR opnA
  dsimp only
  by_cases h : x.1.length < 10
  · rw [if_pos h, if_pos h, if_pos h]
    have hl : (ins x.1 p [List.replicate (ind (ln x.1 x.2.1.toNat)) (32 : Int)]).length = x.1.length + 1 := ins_len hp
    refine ⟨.inr (.inr rfl), ⟨⟨by show (0 : Int) ≤ 1; decide, by show (1 : Int) ≤ 2; decide⟩, hq, ⟨by show 0 ≤ ((p : Nat) : Int); omega, ?_⟩, ?_, ?_⟩, ?_, rfl⟩
    · show (p : Int) < ((ins x.1 p [List.replicate (ind (ln x.1 x.2.1.toNat)) (32 : Int)]).length : Int)
      omega
    · show -1000 ≤ ((ind (ln x.1 x.2.1.toNat) : Nat) : Int)
      omega
    · show ((ind (ln x.1 x.2.1.toNat) : Nat) : Int) ≤ 1000
      omega
    · unfold finA dropQ
      dsimp only
      rw [if_neg (by decide), if_pos rfl, if_pos rfl]
      rfl
  · rw [if_neg h, if_neg h, if_neg h]
    exact EQ.ring hx hon hq
theorem EQ.put {g : Int} {x : Tc} {o : Option Tc} {b : Int × Tx} {q : Qd} {s : Int × Int} {l : Int × List Int} {p k : Nat} (hx : wfX x) (hon : onC x) (hb : wfB b) (hq : q.2.2.2.length ≤ 4) (hp : p ≤ x.1.length) (hk : k ≤ (ln x.1 x.2.1.toNat).length) : EQ g x (putR (x, o, b, q, (0, s.1, s.2, []), l) p k) (canP x b, putA g (x, o, b, q, (0, s.1, s.2, []), l) p k) := by
  obtain ⟨w1, w2, w3, w4, w5, w6, w7, w8⟩ := hx.sz
  unfold putR putA
  dsimp only
  by_cases h : canP x b = 1
  · rw [if_pos h, if_pos h, h]
    unfold canP at h
    have hpos : okA (putX x b p k, o, b, q, (0, s.1, s.2, []), l) ∧ clipX (putX x b p k) = putX x b p k := by
      unfold putX
      by_cases h0 : 0 < b.1
      · rw [if_pos h0]
        obtain ⟨b1, b2⟩ := hb.p h0
        have hl : (ins x.1 p b.2).length = x.1.length + b.2.length := ins_len hp
        refine ⟨⟨⟨(by decide : (0 : Int) ≤ 0), (by decide : (0 : Int) ≤ 2)⟩, hq, ⟨by show 0 ≤ ((p : Nat) : Int); omega, by show (p : Int) < ((ins x.1 p b.2).length : Int); omega⟩, (by decide : (-1000 : Int) ≤ 0), (by decide : (0 : Int) ≤ 1000)⟩, ?_⟩
        unfold clipX
        dsimp only
        rw [if_pos (by omega)]
      · rw [if_neg h0]
        have hb0 : b.1 = 0 := by
          by_cases z : b.1 = 0
          · exact z
          · rw [if_neg z, if_neg (by omega)] at h
            exact absurd h (by decide)
        rw [if_pos hb0] at h
        have hlen : (ln x.1 x.2.1.toNat).length + (ln b.2 0).length ≤ 20 := by
          by_cases z : (ln x.1 x.2.1.toNat).length + (ln b.2 0).length ≤ 20
          · exact z
          · rw [if_neg z] at h
            exact absurd h (by decide)
        obtain ⟨b1, b2, b3⟩ := hb.z hb0
        have hil : (ins (ln x.1 x.2.1.toNat) k (ln b.2 0)).length = (ln x.1 x.2.1.toNat).length + (ln b.2 0).length := ins_len hk
        refine ⟨⟨⟨(by decide : (0 : Int) ≤ 0), (by decide : (0 : Int) ≤ 2)⟩, hq, ⟨w5, by show x.2.1 < ((x.1.set x.2.1.toNat _).length : Nat); rw [List.length_set]; omega⟩, ?_, ?_⟩, ?_⟩
        · show -1000 ≤ (k : Int) + (ln b.2 0).length - 1
          omega
        · show (k : Int) + (ln b.2 0).length - 1 ≤ 1000
          omega
        · unfold clipX
          dsimp only
          rw [ln_set w2, if_pos rfl, if_pos (by omega)]
    refine ⟨.inr (.inr rfl), hpos.1, ?_, rfl⟩
    unfold finA dropQ
    dsimp only
    rw [if_pos rfl, if_pos rfl, if_pos rfl, hpos.2]
    rfl
  · rw [if_neg h, if_neg h, (canP_01 x b).resolve_right h]
    exact EQ.ring hx hon hq
theorem EQ.und {g : Int} {x : Tc} {o : Option Tc} {b : Int × Tx} {q : Qd} {s : Int × Int} {l : Int × List Int} (hx : wfX x) (hon : onC x) (ho : wfO o) (hq : q.2.2.2.length ≤ 4) : EQ g x ((if o.isSome then 2 else 0), undA (x, o, b, q, (0, s.1, s.2, []), l)) ((if o.isSome then 1 else 0), undA (x, o, b, q, (0, s.1, s.2, []), l)) := by
  cases o with
  | none => exact EQ.ring hx hon hq
  | some y =>
    have hy : wfX y ∧ onC y := ho
    obtain ⟨w1, w2, w3, w4, w5, w6, w7, w8⟩ := hy.1.sz
    refine ⟨.inr (.inl rfl), ⟨⟨(by decide : (0 : Int) ≤ 0), (by decide : (0 : Int) ≤ 2)⟩, hq, ⟨w5, by show y.2.1 < y.1.length; omega⟩, by show -1000 ≤ y.2.2; omega, by show y.2.2 ≤ 1000; omega⟩, ?_, rfl⟩
    show finA g x 2 (y, some x, b, q, (0, s.1, s.2, []), l) = dropQ (y, some x, b, q, (0, s.1, s.2, []), l)
    unfold finA dropQ
    dsimp only
    rw [if_pos rfl, if_neg (by decide), if_neg (by decide), clip_id hy.1 hy.2]
theorem EQ.pln {g : Int} {x : Tc} {o : Option Tc} {b : Int × Tx} {q : Qd} {s : Int × Int} {l : Int × List Int} {c : Int} (hx : wfX x) (hon : onC x) (ho : wfO o) (hb : wfB b) (hq : q.2.2.2.length ≤ 4) : EQ g x (if c = 47 ∨ c = 58 then (2, (x, o, b, q, (2, 0, if c = 47 then 1 else 0, []), l)) else plnR (x, o, b, q, (0, s.1, s.2, []), l) c) (plnA g (x, o, b, q, (0, s.1, s.2, []), l) c) := by
  obtain ⟨w1, w2, w3, w4, w5, w6, w7, w8⟩ := hx.sz
  have hi := ind_le (ln x.1 x.2.1.toNat)
  unfold plnR plnA
  dsimp only
  by_cases c0 : c = 47 ∨ c = 58
  · rw [if_pos c0, if_pos c0]
    refine ⟨.inr (.inl rfl), ⟨⟨by show (0 : Int) ≤ 2; decide, by show (2 : Int) ≤ 2; decide⟩, hq, ⟨w5, by show x.2.1 < x.1.length; omega⟩, by show -1000 ≤ x.2.2; omega, by show x.2.2 ≤ 1000; omega⟩, ?_, rfl⟩
    unfold finA dropQ
    dsimp only
    rw [if_neg (show ¬ (2 : Int) = 0 by decide), if_neg (show ¬ (2 : Int) = 3 by decide), if_neg (show ¬ (2 : Int) = 3 by decide)]
  rw [if_neg c0, if_neg c0]
  by_cases c1 : c = 65
  · rw [if_pos c1, if_pos c1]
    exact EQ.inss hx hq (by omega)
  rw [if_neg c1, if_neg c1]
  by_cases c2 : c = 73
  · rw [if_pos c2, if_pos c2]
    exact EQ.inss hx hq (by omega)
  rw [if_neg c2, if_neg c2]
  by_cases c3 : c = 79
  · rw [if_pos c3, if_pos c3]
    exact EQ.opn hx hon hq (by omega)
  rw [if_neg c3, if_neg c3]
  by_cases c4 : c = 80
  · rw [if_pos c4, if_pos c4]
    exact EQ.put hx hon hb hq (by omega) (by omega)
  rw [if_neg c4, if_neg c4]
  by_cases c5 : c = 97
  · rw [if_pos c5, if_pos c5]
    exact EQ.inss hx hq (by omega)
  rw [if_neg c5, if_neg c5]
  by_cases c6 : c = 105
  · rw [if_pos c6, if_pos c6]
    exact EQ.inss hx hq (by omega)
  rw [if_neg c6, if_neg c6]
  by_cases c7 : c = 111
  · rw [if_pos c7, if_pos c7]
    exact EQ.opn hx hon hq (by omega)
  rw [if_neg c7, if_neg c7]
  by_cases c8 : c = 112
  · rw [if_pos c8, if_pos c8]
    exact EQ.put hx hon hb hq (by omega) (by omega)
  rw [if_neg c8, if_neg c8]
  by_cases c9 : c = 117
  · rw [if_pos c9, if_pos c9]
    exact EQ.und hx hon ho hq
  rw [if_neg c9, if_neg c9]
  exact EQ.ring hx hon hq
theorem EQ.cmd {g : Int} {x : Tc} {o : Option Tc} {b : Int × Tx} {q : Qd} {s : Int × Int} {l : Int × List Int} {c : Int} (hc : c ≠ 27) (hx : wfX x) (hon : onC x) (ho : wfO o) (hb : wfB b) (hq : wfQ q) (hp : pend (q.1, q.2.1, q.2.2.1) c = none) : EQ g x (cmdR (x, o, b, q, (0, s.1, s.2, []), l) c) (cmdA g (x, o, b, q, (0, s.1, s.2, []), l) c) := by
  obtain ⟨w1, w2, w3, w4, w5, w6, w7, w8⟩ := hx.sz
  obtain ⟨q1, q2, q3, q4, q5, q6, q7, q8⟩ := hq
  have hn : 0 ≤ q.2.1 ∧ q.2.1 ≤ 99 := by omega
  have hk : (q.2.2.2 ++ [c]).length ≤ 4 := by
    rw [List.length_append, List.length_singleton]
    split at q8 <;> omega
  have hlr := lead_r (c := c) hx hn
  have hdd : ∀ A : kEd, dropQ (dropQ A) = dropQ A := fun A => rfl
  have hEQd : ∀ {R C : Int × kEd}, EQ g x R C → EQ g x R (C.1, dropQ C.2) := fun h => h
  unfold cmdR cmdA addK
  dsimp only
  rw [hp]
  show EQ g x (if q.1 ≠ 0 then _ else _ : Int × kEd) (if c = 27 then _ else _ : Int × kEd)
  rw [if_neg hc]
  by_cases p4 : q.1 ≠ 0
  · rw [if_pos p4, if_pos p4]
    refine hEQd (EQ.oprs (q := (q.1, q.2.1, q.2.2.1, q.2.2.2 ++ [c])) hx hon hk (q7.resolve_left p4) hn hlr ?_ (.inl rfl))
    intro h1 h2 h3
    have := lead_wb h1 h2
    rw [h3] at this
    omega
  rw [if_neg p4, if_neg p4]
  by_cases p5 : c = 120
  · rw [if_pos p5, if_pos p5]
    exact hEQd (EQ.oprs (q := (100, q.2.1, q.2.2.1, q.2.2.2 ++ [c])) (c := 108) hx hon hk (.inl rfl) hn hlr (fun h => by omega) (.inr rfl))
  rw [if_neg p5, if_neg p5]
  by_cases p6 : 0 ≤ lead x c q.2.1
  · rw [if_pos p6, if_pos p6]
    refine ⟨.inr (.inl rfl), ⟨⟨(by decide : (0 : Int) ≤ 0), (by decide : (0 : Int) ≤ 2)⟩, hk, ⟨by show 0 ≤ lead x c q.2.1 / 32; omega, by show lead x c q.2.1 / 32 < x.1.length; omega⟩, by show -1000 ≤ lead x c q.2.1 % 32; omega, by show lead x c q.2.1 % 32 ≤ 1000; omega⟩, ?_, rfl⟩
    unfold finA dropQ clipX
    dsimp only
    rw [if_pos rfl, if_neg (show ¬ (2 : Int) = 3 by decide), if_neg (show ¬ (2 : Int) = 3 by decide)]
    have e1 : cl (lead x c q.2.1 / 32) ((x.1.length : Int) - 1) = lead x c q.2.1 / 32 := by
      unfold cl
      omega
    rw [e1]
    have e2 : ∀ n : Int, (if lead x c q.2.1 % 32 ≤ max 0 (n - 1) then lead x c q.2.1 % 32 else max 0 (n - 1)) = cl (lead x c q.2.1 % 32) (n - 1) := fun n => by
      unfold cl
      split <;> omega
    rw [e2]
  rw [if_neg p6, if_neg p6]
  by_cases p7 : q.2.2.1 = 0
  · rw [if_pos p7, if_pos p7]
    exact hEQd (EQ.pln (q := (0, q.2.1, q.2.2.1, q.2.2.2 ++ [c])) hx hon ho hb hk)
  · rw [if_neg p7, if_neg p7]
    exact EQ.ring (q := (0, q.2.1, q.2.2.1, q.2.2.2 ++ [c])) hx hon hk
