/-! Pure: the class's editing, step by step. -/
def frE (σ σ' : kS) : Prop := (∀ a, a = 3 ∨ a = 4 ∨ a = 9 ∨ 12 ≤ a ∧ a ≤ 15 ∨ 20 ≤ a → σ' a = σ a) ∧ ∀ t, 4 ≤ t → σ' 2 t = σ 2 t ∧ σ' 10 t = σ 10 t ∧ σ' 11 t = σ 11 t
theorem frE.rfl {σ : kS} : frE σ σ := ⟨fun _ _ => Eq.refl _, fun _ _ => ⟨Eq.refl _, Eq.refl _, Eq.refl _⟩⟩
theorem frE.tr {σ σ' σ'' : kS} (h : frE σ σ') (h2 : frE σ' σ'') : frE σ σ'' := ⟨fun a ha => (h2.1 a ha).trans (h.1 a ha), fun t ht => ⟨(h2.2 t ht).1.trans (h.2 t ht).1, (h2.2 t ht).2.1.trans (h.2 t ht).2.1, (h2.2 t ht).2.2.trans (h.2 t ht).2.2⟩⟩
theorem kup_ii {σ : kS} {k i j a b : Nat} {x : Int} (h : ¬ (a = k ∧ b = i)) : kup σ k i j x a b = σ a b := by
  rw [kup_f, if_neg h]
theorem kupA_ii {σ : kS} {k i a b : Nat} {f : Nat → Int} (h : ¬ (a = k ∧ b = i)) : kupA σ k i f a b = σ a b := by
  rw [kupA_f, if_neg h]
theorem frE.kup {σ σ' : kS} {k i j : Nat} {x : Int} (h : frE σ σ') (hk : k = 1 ∨ k = 5 ∨ k = 6 ∨ k = 7 ∨ k = 8 ∨ k = 16 ∨ k = 17 ∨ k = 18 ∨ (k = 2 ∨ k = 10 ∨ k = 11) ∧ i < 4) : frE σ (kup σ' k i j x) :=
  h.tr ⟨fun a ha => kup_kk (by omega), fun t ht => ⟨kup_ii (by omega), kup_ii (by omega), kup_ii (by omega)⟩⟩
theorem frE.kupA {σ σ' : kS} {k i : Nat} {f : Nat → Int} (h : frE σ σ') (hk : k = 1 ∨ k = 5 ∨ k = 6 ∨ k = 7 ∨ k = 8 ∨ k = 16 ∨ k = 17 ∨ k = 18 ∨ (k = 2 ∨ k = 10 ∨ k = 11) ∧ i < 4) : frE σ (kupA σ' k i f) :=
  h.tr ⟨fun a ha => kupA_kk (by omega), fun t ht => ⟨kupA_ii (by omega), kupA_ii (by omega), kupA_ii (by omega)⟩⟩
theorem frE.sT {σ σ' : kS} {t : Nat} {F G : Nat → Int} {n : Int} (h : frE σ σ') (ht : t < 4) : frE σ (sT σ' t F G n) := ((h.kupA (by omega)).kupA (by omega)).kup (by omega)
theorem frE.frC {σ σ' : kS} (h : frE σ σ') : frC σ σ' := fun a ha => h.1 a (by omega)
theorem CD.frE {D : kDk} {σ σ' : kS} (h : CD D σ) (f : frE σ σ') : CD D σ' := by
  obtain ⟨⟨h1, h2⟩, ⟨h3, h4⟩, h5, o, h6, h7, h8⟩ := h
  have g : ∀ t T, 4 ≤ t → CT σ t T → CT σ' t T := fun t T ht h => by
    unfold CT
    rw [(f.2 t ht).2.1, (f.2 t ht).2.2]
    exact h
  have g2 : ∀ t, 4 ≤ t → σ' 2 t = σ 2 t := fun t ht => (f.2 t ht).1
  refine ⟨⟨g 4 _ (by decide) h1, (congrFun (g2 4 (by decide)) 2).trans h2⟩, ⟨g 5 _ (by decide) h3, (congrFun (g2 5 (by decide)) 2).trans h4⟩, (congrFun (congrFun (f.1 3 (by decide)) 0) 6).trans h5, o, h6, (congrFun (congrFun (f.1 3 (by decide)) 0) 5).trans h7, fun k hk => ?_⟩
  obtain ⟨e1, e2, e3, e4⟩ := h8 k hk
  rw [f.1 13 (by decide), f.1 14 (by decide), g2 _ (by omega)]
  exact ⟨e1, e2, g _ _ (by omega) e3, e4⟩
theorem CW.frE {W : kWn} {σ σ' : kS} (h : CW W σ) (f : frE σ σ') : CW W σ' := h.cg (f.1 4 (by decide)) (congrFun (f.1 15 (by decide)) 0)
/-- a step of the class's editor -/
def SC (g : Int) (f : kS → kRes) (r : Option Int) (A A' : kEd) : Prop := ∀ σ, CE g A σ → ∃ σ', f σ = some (r, σ') ∧ CE g A' σ' ∧ frE σ σ'
theorem SC.u {g : Int} {f k : kS → kRes} {r : Option Int} {A A1 A2 : kEd} (h : SC g f none A A1) (h2 : SC g k r A1 A2) : SC g (fun σ => kbu (f σ) k) r A A2 := by
  intro σ c
  obtain ⟨σ1, e1, c1, f1⟩ := h σ c
  obtain ⟨σ2, e2, c2, f2⟩ := h2 σ1 c1
  exact ⟨σ2, (kbu_eq e1).trans e2, c2, f1.tr f2⟩
theorem SC.i {g y : Int} {f : kS → kRes} {k : Int → kS → kRes} {r : Option Int} {A A1 A2 : kEd} (h : SC g f (some y) A A1) (h2 : SC g (k y) r A1 A2) : SC g (fun σ => kbi (f σ) k) r A A2 := by
  intro σ c
  obtain ⟨σ1, e1, c1, f1⟩ := h σ c
  obtain ⟨σ2, e2, c2, f2⟩ := h2 σ1 c1
  exact ⟨σ2, (kbi_eq e1).trans e2, c2, f1.tr f2⟩
theorem SC.cg {g : Int} {f f' : kS → kRes} {r : Option Int} {A A' : kEd} (h : SC g f r A A') (e : ∀ σ, CE g A σ → f' σ = f σ) : SC g f' r A A' := by
  intro σ c
  rw [e σ c]
  exact h σ c
theorem SC.ret {g : Int} {r : Option Int} {A : kEd} : SC g (fun σ => some (r, σ)) r A A := fun σ c => ⟨σ, Eq.refl _, c, frE.rfl⟩
theorem SC.read {g : Int} {f : kS → kRes} {r : Option Int} {A : kEd} (h : ∀ σ, CE g A σ → f σ = some (r, σ)) : SC g f r A A := fun σ c => ⟨σ, h σ c, c, frE.rfl⟩
theorem SC.ro {g : Int} {f : kS → kRes} {r r' : Option Int} {A A' : kEd} (h : SC g f r A A') (e : r' = r) : SC g f r' A A' := by
  rw [e]
  exact h
/-- an effect on the text, on the buffer's text -/
theorem SC.t0 {g : Int} {f : kS → kRes} {r : Option Int} {x : Tc} {o : Option Tc} {b : Int × Tx} {q : Qd} {m : Md} {l : Int × List Int} {T : Tx} (h : ∀ σ, CE g (x, o, b, q, m, l) σ → ToT (f σ) r σ 0 T) : SC g f r (x, o, b, q, m, l) ((T, x.2), o, b, q, m, l) := by
  intro σ c
  obtain ⟨F, G, e, hT⟩ := h σ c
  obtain ⟨c1, c2, c3, c4, c5, c6, c7⟩ := c
  refine ⟨_, e, ⟨⟨hT, rfl, c1.2.2.1, c1.2.2.2⟩, ?_, c3, c4, c5, c6, c7⟩, frE.rfl.sT (by decide)⟩
  cases o with
  | none => exact c2
  | some y => exact c2
theorem SC.t3 {g : Int} {f : kS → kRes} {r : Option Int} {x : Tc} {o : Option Tc} {b : Int × Tx} {q : Qd} {m : Md} {l : Int × List Int} {T : Tx} (h : ∀ σ, CE g (x, o, b, q, m, l) σ → ToT (f σ) r σ 3 T) : SC g f r (x, o, b, q, m, l) (x, o, (b.1, T), q, m, l) := by
  intro σ c
  obtain ⟨F, G, e, hT⟩ := h σ c
  obtain ⟨c1, c2, c3, c4, c5, c6, c7⟩ := c
  refine ⟨_, e, ⟨c1, ?_, ⟨c3.1, hT, rfl⟩, c4, c5, c6, c7⟩, frE.rfl.sT (by decide)⟩
  cases o with
  | none => exact c2
  | some y => exact c2
theorem SC.stand {g : Int} {x : Tc} {o : Option Tc} {b : Int × Tx} {q : Qd} {m : Md} {l : Int × List Int} {r c : Int} (hT : 0 < x.1.length) (hr : -1000 ≤ r ∧ r ≤ 1000) (hc : -1000 ≤ c ∧ c ≤ 1000) : SC g (f_Te_stand r c 0) none (x, o, b, q, m, l) ((x.1, cl r (x.1.length - 1), cl c ((ln x.1 (cl r (x.1.length - 1)).toNat).length - 1)), o, b, q, m, l) := by
  intro σ h
  obtain ⟨c1, c2, c3, c4, c5, c6, c7⟩ := h
  refine ⟨_, C_stand c1.1 c1.2.1 hT (by omega) (by omega), ⟨⟨c1.1, c1.2.1, rfl, rfl⟩, ?_, c3, c4, c5, c6, c7⟩, (frE.rfl.kup (by decide)).kup (by decide)⟩
  cases o with
  | none => exact c2
  | some y => exact c2
/-- one field of a text's cursor, of the command, of the mode -/
theorem SC.row {g : Int} {x : Tc} {o : Option Tc} {b : Int × Tx} {q : Qd} {m : Md} {l : Int × List Int} {v : Int} {σ : kS} (h : CE g (x, o, b, q, m, l) σ) : CE g ((x.1, v, x.2.2), o, b, q, m, l) (kup σ 2 0 3 v) ∧ frE σ (kup σ 2 0 3 v) := by
  obtain ⟨c1, c2, c3, c4, c5, c6, c7⟩ := h
  refine ⟨⟨⟨c1.1, c1.2.1, rfl, c1.2.2.2⟩, ?_, c3, c4, c5, c6, c7⟩, frE.rfl.kup (by decide)⟩
  cases o with
  | none => exact c2
  | some y => exact c2
theorem SC.col {g : Int} {x : Tc} {o : Option Tc} {b : Int × Tx} {q : Qd} {m : Md} {l : Int × List Int} {v : Int} {σ : kS} (h : CE g (x, o, b, q, m, l) σ) : CE g ((x.1, x.2.1, v), o, b, q, m, l) (kup σ 2 0 4 v) ∧ frE σ (kup σ 2 0 4 v) := by
  obtain ⟨c1, c2, c3, c4, c5, c6, c7⟩ := h
  refine ⟨⟨⟨c1.1, c1.2.1, c1.2.2.1, rfl⟩, ?_, c3, c4, c5, c6, c7⟩, frE.rfl.kup (by decide)⟩
  cases o with
  | none => exact c2
  | some y => exact c2
theorem SC.drop {g : Int} {x : Tc} {o : Option Tc} {b : Int × Tx} {q : Qd} {m : Md} {l : Int × List Int} : SC g f_Kb_dropCommand none (x, o, b, q, m, l) (x, o, b, (0, 0, 0, []), m, l) := by
  intro σ h
  obtain ⟨c1, c2, c3, c4, c5, c6, c7⟩ := h
  refine ⟨_, rfl, ⟨c1, ?_, c3, ⟨rfl, rfl, rfl, rfl, kArr_0⟩, c5, c6, c7⟩, (((frE.rfl.kup (by decide)).kup (by decide)).kup (by decide)).kup (by decide)⟩
  cases o with
  | none => exact c2
  | some y => exact c2
theorem SC.bins {g : Int} {x : Tc} {o : Option Tc} {b : Int × Tx} {q : Qd} {s : Int × Int} {md : Int} {l : Int × List Int} {r c : Int} : SC g (f_Kb_beginInsert r c) none (x, o, b, q, (md, s.1, s.2, []), l) ((x.1, r, c), o, b, q, (1, c, 0, []), l) := by
  intro σ h
  obtain ⟨c1, c2, c3, c4, c5, c6, c7⟩ := h
  refine ⟨_, rfl, ⟨⟨c1.1, c1.2.1, rfl, rfl⟩, ?_, c3, c4, ⟨rfl, fun _ => rfl, fun h => absurd h (show ¬ (1 : Int) = 2 by decide), c5.2.2.2.1, kArr_0⟩, c6, c7⟩, (((frE.rfl.kup (by decide)).kup (by decide)).kup (by decide)).kup (by decide)⟩
  cases o with
  | none => exact c2
  | some y => exact c2
theorem kArr_add {f : Nat → Int} {ks : List Int} {c : Int} (h : kArr f ks) : kArr (fun j => if j = ks.length then c else f j) (ks ++ [c]) := by
  intro i hi
  rw [List.length_append, List.length_singleton] at hi
  dsimp only
  rw [gd_app]
  by_cases h1 : i = ks.length
  · subst h1
    rw [if_pos rfl, if_neg (by omega), Nat.sub_self]
    rfl
  · rw [if_neg h1, if_pos (by omega)]
    exact h i (by omega)
theorem SC.add {g : Int} {x : Tc} {o : Option Tc} {b : Int × Tx} {q : Qd} {m : Md} {l : Int × List Int} {c : Int} (hq : q.2.2.2.length ≤ 3) : SC g (f_Ke_add c 0) none (x, o, b, q, m, l) (x, o, b, (q.1, q.2.1, q.2.2.1, q.2.2.2 ++ [c]), m, l) := by
  intro σ h
  obtain ⟨c1, c2, c3, c4, c5, c6, c7⟩ := h
  obtain ⟨q1, q2, q3, q4, q5⟩ := c4
  have q4' : σ 6 0 1 = q.2.2.2.length := q4
  refine ⟨kup (kup σ 16 0 q.2.2.2.length c) 6 0 1 ((q.2.2.2 ++ [c]).length : Nat), ?_, ⟨c1, ?_, c3, ⟨q1, q2, q3, rfl, ?_⟩, c5, c6, c7⟩, (frE.rfl.kup (by decide)).kup (by decide)⟩
  · unfold f_Ke_add fb_Ke_add_0 fb_Ke_add_12 fb_Ke_add_22
    have q6 : kup σ 16 0 q.2.2.2.length c 6 0 1 = q.2.2.2.length := q4'
    rw [q4', if_pos rfl, kg_pos (by omega), if_neg (by omega), kg_pos (by omega), Int.toNat_natCast, q6, kg_pos (by omega), show min ((q.2.2.2.length : Int) + 1) (((4 : Nat) : Int) + 1) = ((q.2.2.2 ++ [c]).length : Nat) by rw [List.length_append, List.length_singleton]; omega]
  · cases o with
    | none => exact c2
    | some y => exact c2
  · show kArr (kup (kup σ 16 0 q.2.2.2.length c) 6 0 1 _ 16 0) (q.2.2.2 ++ [c])
    have e : kup (kup σ 16 0 q.2.2.2.length c) 6 0 1 ((q.2.2.2 ++ [c]).length : Nat) 16 0 = fun j => if j = q.2.2.2.length then c else σ 16 0 j := by
      rw [kup_ii (by decide), kup_f, if_pos (by decide)]
    rw [e]
    exact kArr_add q5
theorem SC.begin {g : Int} {x : Tc} {o : Option Tc} {b : Int × Tx} {q : Qd} {m : Md} {l : Int × List Int} (hg : g = 0 ∨ g = 1) (hq : q.2.2.2.length ≤ 4) : SC g f_Kb_beginChange none (x, o, b, q, m, l) (x, some x, b, q, m, if g = 0 then ((q.2.2.2.length : Int), q.2.2.2) else l) := by
  intro σ h
  obtain ⟨c1, c2, c3, c4, c5, c6, c7⟩ := h
  obtain ⟨F, G, e, hT⟩ := C_copy (σ := σ) (t := 1) (u := 0) c1 (by decide)
  unfold f_Kb_beginChange fb_Kb_beginChange_0
  rw [kbu_eq e]
  have q4 : σ 6 0 1 = q.2.2.2.length := c4.2.2.2.1
  have q5 : kArr (σ 16 0) q.2.2.2 := c4.2.2.2.2
  have c7' : σ 5 0 12 = g := c7
  have hfr : frE σ (kup (kup (kup (sT σ 1 F G x.1.length) 2 1 3 x.2.1) 2 1 4 x.2.2) 1 0 5 1) := (((frE.rfl.sT (by decide)).kup (by decide)).kup (by decide)).kup (by decide)
  unfold fb_Kb_beginChange_14
  have g7 : kup (kup (kup (sT σ 1 F G x.1.length) 2 1 3 x.2.1) 2 1 4 x.2.2) 1 0 5 1 5 0 12 = g := c7'
  rw [g7, kg_pos (by omega)]
  by_cases h0 : g = 0
  · rw [if_pos h0, if_pos h0]
    unfold fb_Kb_beginChange_29 f_Ke_copy fb_Ke_copy_0 fb_Ke_copy_41
    have g4 : kup (kup (kup (sT σ 1 F G x.1.length) 2 1 3 x.2.1) 2 1 4 x.2.2) 1 0 5 1 6 0 1 = q.2.2.2.length := q4
    have g16 : kup (kup (kup (sT σ 1 F G x.1.length) 2 1 3 x.2.1) 2 1 4 x.2.2) 1 0 5 1 16 0 = σ 16 0 := rfl
    rw [g4, show min ((q.2.2.2.length : Nat) : Int) (min (((if (0 : Nat) = 0 then 4 else if (0 : Nat) = 1 then 8 else 30 : Nat)) : Int) (((if (1 : Nat) = 0 then 4 else if (1 : Nat) = 1 then 8 else 30 : Nat)) : Int)) = q.2.2.2.length by rw [if_pos rfl, if_neg (by decide), if_pos rfl]; omega, kup_self]
    rw [kg_pos (by rw [if_pos rfl, if_neg (by decide), if_pos rfl]; omega), kbu_eq rfl]
    refine ⟨_, rfl, ⟨c1, ⟨rfl, hT, rfl, rfl, rfl⟩, c3, c4, c5, ⟨rfl, ?_⟩, c7⟩, (hfr.kup (by decide)).kupA (by decide)⟩
    intro i hi
    have hi' : i < q.2.2.2.length := hi
    rw [kupA_f, if_pos (by decide)]
    unfold va_cpy
    rw [if_pos (by omega)]
    have := q5 i hi
    rw [← this]
    exact congrArg (σ 16 0) (by omega)
  · rw [if_neg h0, if_neg h0]
    exact ⟨_, rfl, ⟨c1, ⟨rfl, hT, rfl, rfl, rfl⟩, c3, c4, c5, c6, c7⟩, hfr⟩
