/-! Pure: a change of the command line, the class's side. -/
abbrev Ex : Type := Pt × Nat × Nat × Bool
/-- the lines that are meant -/
def mnA (ks : List Int) (gl : Option Pt) (T : Tx) : Nat → Bool := gl.elim (fun _ => true) fun P i => innA ks P (ln T i)
def nts (ks : List Int) (gl : Option Pt) (T : Tx) (a b : Nat) : List Nat := ntL (mnA ks gl T) a (b + 1 - a)
/-- d (none) or s at a range; gl: the pattern of g -/
def chgA (ks : List Int) (gl : Option Pt) (c : Option Ex) (a b : Nat) (x : Tc) (bf : Int × Tx) : Option (Tc × Int × Tx) :=
  if (nts ks gl x.1 a b).length = 0 then none
  else c.elim (some (gl.elim (dropX x.1 a b, ((b : Int) - a + 1, slc x.1 a (b + 1))) fun _ => dlF (nts ks gl x.1 a b) 0 (x, bf))) fun v => (exF (lnB ks v.1 v.2.1 v.2.2.1 v.2.2.2) (nts ks gl x.1 a b) (x.1, none)).elim none fun r => if r.2.isNone && gl.isNone then none else some ((r.1, r.2.elim x.2 fun p => ((p : Int), 0)), bf)
/-- what the class has read of a change -/
def CPa (ks : List Int) (gl : Option Pt) (c : Option Ex) (a b : Nat) (σ : kS) : Prop := σ 7 0 7 = 1 ∧ σ 7 0 11 = a ∧ σ 7 0 12 = b ∧ σ 7 0 13 = b2 gl.isSome ∧ σ 7 0 14 = b2 c.isNone ∧ (∀ P, gl = some P → PCt ks σ 1 P) ∧ ∀ v, c = some v → PCt ks σ 0 v.1 ∧ σ 7 0 15 = b2 v.2.2.2 ∧ σ 7 0 16 = v.2.1 ∧ σ 7 0 17 = v.2.2.1 ∧ v.2.2.1 < ks.length ∧ skE ks 40 v.2.1 = v.2.2.1
theorem CPa.to {ks : List Int} {gl : Option Pt} {c : Option Ex} {a b : Nat} {σ σ' : kS} (h : CPa ks gl c a b σ) (e7 : σ' 7 = σ 7) (e8 : σ' 8 = σ 8) (e17 : σ' 17 = σ 17) : CPa ks gl c a b σ' := by
  unfold CPa PCt
  rw [e7, e8, e17]
  exact h
theorem ntL_none {f : Nat → Bool} : ∀ (m p : Nat), (ntL f p m).length = 0 → ∀ i, p ≤ i → i < p + m → f i = false := by
  intro m
  induction m with
  | zero => intro p _ i h1 h2; omega
  | succ m ih =>
    intro p h i h1 h2
    unfold ntL at h
    cases hf : f p with
    | true =>
      rw [hf, if_pos rfl, List.length_cons] at h
      omega
    | false =>
      rw [hf, if_neg Bool.false_ne_true] at h
      by_cases hi : i = p
      · rw [hi]
        exact hf
      · exact ih (p + 1) h i (by omega) (by omega)
theorem ntL_no {f : Nat → Bool} (h : ∀ i, f i = false) : ∀ m p, ntL f p m = [] := by
  intro m
  induction m with
  | zero => intro p; rfl
  | succ m ih =>
    intro p
    unfold ntL
    rw [h p, if_neg Bool.false_ne_true]
    exact ih _
theorem nts_all {ks : List Int} {T : Tx} {a b : Nat} (hab : a ≤ b) : ¬ (nts ks none T a b).length = 0 := by
  intro h
  have := ntL_none _ _ h a (Nat.le_refl _) (by omega)
  exact nomatch this
section
variable {g : Int} {o : Option Tc} {q : Qd} {l : Int × List Int} {ks : List Int} {bf : Int × Tx} {md : Md} {x : Tc} {σ : kS}
/-- a copy of the text is laid aside -/
theorem C_spare (c : CE g (x, o, bf, q, md, l) σ) : ∃ σ', f_Te_copy 2 0 σ = some (none, σ') ∧ CE g (x, o, bf, q, md, l) σ' ∧ CX σ' 2 x ∧ frE σ σ' ∧ ∀ a, a = 7 ∨ a = 8 ∨ a = 17 → σ' a = σ a := by
  obtain ⟨F, G, e, hT⟩ := C_copy (σ := σ) (t := 2) (u := 0) c.1 (by decide)
  obtain ⟨c1, c2, c3, c4, c5, c6, c7⟩ := c
  refine ⟨_, e, ⟨c1, ?_, c3, c4, c5, c6, c7⟩, ⟨hT, rfl, rfl, rfl⟩, ((frE.rfl.sT (by decide)).kup (by decide)).kup (by decide), fun a ha => ?_⟩
  · cases o with
    | none => exact c2
    | some y => exact c2
  · unfold sT
    rw [kup_kk (by omega), kup_kk (by omega), kup_kk (by omega), kupA_kk (by omega), kupA_kk (by omega)]
theorem C_back {y : Tc} (c : CE g (y, o, bf, q, md, l) σ) (h : CX σ 2 x) : ∃ σ', f_Te_copy 0 2 σ = some (none, σ') ∧ CE g (x, o, bf, q, md, l) σ' ∧ frE σ σ' := by
  obtain ⟨F, G, e, hT⟩ := C_copy (σ := σ) (t := 0) (u := 2) h (by decide)
  obtain ⟨c1, c2, c3, c4, c5, c6, c7⟩ := c
  refine ⟨_, e, ⟨⟨hT, rfl, rfl, rfl⟩, ?_, c3, c4, c5, c6, c7⟩, ((frE.rfl.sT (by decide)).kup (by decide)).kup (by decide)⟩
  cases o with
  | none => exact c2
  | some y => exact c2
theorem C_other {y : Tc} {x1 : Int} (c : CE g (y, o, bf, q, md, l) σ) (h : CX σ 2 x) : ∃ σ', fb_Cl_change_111 x1 σ = some (some 1, σ') ∧ CE g (y, some x, bf, q, md, l) σ' ∧ frE σ σ' := by
  obtain ⟨F, G, e, hT⟩ := C_copy (σ := σ) (t := 1) (u := 2) h (by decide)
  obtain ⟨c1, c2, c3, c4, c5, c6, c7⟩ := c
  unfold fb_Cl_change_111
  rw [kbu_eq e]
  exact ⟨_, rfl, ⟨c1, ⟨rfl, hT, rfl, rfl, rfl⟩, c3, c4, c5, c6, c7⟩, (((frE.rfl.sT (by decide)).kup (by decide)).kup (by decide)).kup (by decide)⟩
end
section
variable {g : Int} {o : Option Tc} {q : Qd} {l : Int × List Int} {ks : List Int} {bf : Int × Tx} {md : Int × Int × Int} {x : Tc} {σ : kS}
theorem C_change {gl : Option Pt} {ex : Option Ex} {a b : Nat} (c : CE g (x, o, bf, q, (md.1, md.2.1, md.2.2, ks), l) σ) (hx : wfX x) (hl : ks.length ≤ 30) (hks : ∀ c ∈ ks, 32 ≤ c ∧ c ≤ 126) (hp : CPa ks gl ex a b σ) (hab : a ≤ b) (hb : b < x.1.length) : ∃ σ' y, f_Cl_change σ = some (some y, σ') ∧ frE σ σ' ∧ ((chgA ks gl ex a b x bf = none ∧ y = 0 ∧ CE g (x, o, bf, q, (md.1, md.2.1, md.2.2, ks), l) σ') ∨ ∃ r, chgA ks gl ex a b x bf = some r ∧ y = 1 ∧ CE g (r.1, some x, r.2, q, (md.1, md.2.1, md.2.2, ks), l) σ') := by
  obtain ⟨w1, w2, w3, w4, w5, w6, w7, w8⟩ := hx.sz
  have hp' := hp
  obtain ⟨p7, p11, p12, p13, p14, pg, pe⟩ := hp
  unfold chgA
  -- the notes
  obtain ⟨w, mn, hw, h13, hmn, e0⟩ : ∃ (w : Nat) (mn : Nat → Bool), w < 1025 ∧ (σ 7 0 13 = 0 ∧ mn = (fun _ => true) ∧ gl = none ∨ σ 7 0 13 = 1 ∧ mn = w.testBit ∧ gl.isSome = true ∧ (w = 0 ↔ (nts ks gl x.1 a b).length = 0)) ∧ ntL mn a (b + 1 - a) = nts ks gl x.1 a b ∧ f_Cl_change σ = fb_Cl_change_15 (w : Int) σ := by
    cases gl with
    | none =>
      refine ⟨0, fun _ => true, by decide, .inl ⟨p13, rfl, rfl⟩, rfl, ?_⟩
      unfold f_Cl_change fb_Cl_change_0
      rw [p13, kg_pos (by decide), if_pos (by rfl)]
      rfl
    | some P =>
      obtain ⟨w, n1, n2, n3⟩ := C_note (pg P rfl) c.1.1 c.1.2.1 hx.1.2.2.1 hab hb p11 p12
      have hnt : ntL w.testBit a (b + 1 - a) = nts ks (some P) x.1 a b := ntL_ext _ _ fun i h1 h2 => by
        rw [n3, decide_eq_true (by omega), Bool.true_and]
        rfl
      refine ⟨w, w.testBit, n2, .inr ⟨p13, rfl, rfl, ?_, ?_⟩, hnt, ?_⟩
      · intro h0
        rw [← hnt, h0, ntL_no fun i => Nat.zero_testBit i]
        rfl
      · intro h0
        rw [← hnt] at h0
        refine Nat.eq_of_testBit_eq fun i => ?_
        rw [Nat.zero_testBit]
        by_cases hi : a ≤ i ∧ i ≤ b
        · exact ntL_none _ _ h0 i hi.1 (by omega)
        · rw [n3, decide_eq_false hi, Bool.false_and]
      · unfold f_Cl_change fb_Cl_change_0 fb_Cl_change_7
        rw [show σ 7 0 13 = 1 from p13, kg_pos (by decide), if_neg (by decide), kbi_eq n1]
        rfl
  rw [e0]
  -- nothing is noted, or a copy is laid aside
  have e29 : fb_Cl_change_15 (w : Int) σ = if (nts ks gl x.1 a b).length = 0 then some (some 0, σ) else fb_Cl_change_29 (w : Int) σ := by
    unfold fb_Cl_change_15 fb_Cl_change_23 fb_Cl_change_27
    rcases h13 with ⟨z1, z2, z3⟩ | ⟨z1, z2, z3, z4⟩
    · rw [z1, kg_pos (by decide), if_pos rfl, if_neg]
      rw [z3]
      exact nts_all hab
    · rw [z1, kg_pos (by decide), if_neg (by decide), kg_pos (by omega)]
      by_cases h0 : w = 0
      · rw [if_pos (by omega), if_pos (z4.1 h0)]
      · rw [if_neg (by omega), if_neg (fun h => h0 (z4.2 h))]
  rw [e29]
  by_cases h0 : (nts ks gl x.1 a b).length = 0
  · rw [if_pos h0, if_pos h0]
    exact ⟨σ, 0, rfl, frE.rfl, .inl ⟨rfl, rfl, c⟩⟩
  rw [if_neg h0, if_neg h0]
  unfold fb_Cl_change_29
  obtain ⟨τ, s1, s2, s3, s4, s5⟩ := C_spare c
  rw [kbu_eq s1]
  unfold fb_Cl_change_43
  have t7 := s5 7 (by decide)
  have hpt := hp'.to t7 (s5 8 (by decide)) (s5 17 (by decide))
  obtain ⟨q7, q11, q12, q13, q14, qg, qe⟩ := hpt
  have g01 := b2_01 ex.isNone
  rw [q14, kg_pos (by omega)]
  cases ex with
  | none =>
    rw [if_neg (show ¬ b2 (none : Option Ex).isNone = 0 by decide)]
    unfold fb_Cl_change_50 fb_Cl_change_55
    obtain ⟨υ, d1, d2, d3⟩ : ∃ υ, f_Cl_deleteLines (w : Int) τ = some (none, υ) ∧ CE g ((gl.elim (dropX x.1 a b, ((b : Int) - a + 1, slc x.1 a (b + 1))) fun _ => dlF (nts ks gl x.1 a b) 0 (x, bf)).1, o, (gl.elim (dropX x.1 a b, ((b : Int) - a + 1, slc x.1 a (b + 1))) fun _ => dlF (nts ks gl x.1 a b) 0 (x, bf)).2, q, (md.1, md.2.1, md.2.2, ks), l) υ ∧ frG τ υ := by
      rcases h13 with ⟨z1, z2, z3⟩ | ⟨z1, z2, z3, z4⟩
      · subst z3
        exact C_del1 s2 q11 q12 (by rw [t7]; exact z1) hab hb (by omega)
      · cases gl with
        | none => exact nomatch z3
        | some P =>
          have := C_del2 (w := w) s2 q11 q12 (by rw [t7]; exact z1) hw hab hb (by omega)
          rw [← z2, hmn] at this
          exact this
    rw [kbu_eq d1]
    obtain ⟨σ', v1, v2, v3⟩ := C_other (x1 := (w : Int)) d2 (s3.frG d3)
    exact ⟨σ', 1, v1, (s4.tr d3.1).tr v3, .inr ⟨_, rfl, rfl, v2⟩⟩
  | some v =>
    rw [if_pos (show b2 (some v : Option Ex).isNone = 0 from rfl)]
    unfold fb_Cl_change_58
    obtain ⟨r0, r15, r16, r17, re, rw_⟩ := qe v rfl
    obtain ⟨υ, y, d1, d2, d3⟩ := C_exch (w := w) (mn := mn) (wk := 40) s2 hx hl hks q7 q11 q12 (by rw [t7]; exact h13.imp (fun h => ⟨h.1, h.2.1⟩) (fun h => ⟨h.1, h.2.1⟩)) r15 r16 r17 r0 re rw_ hw hab hb
    rw [kbi_eq d1]
    rw [hmn] at d3
    unfold fb_Cl_change_63
    show ∃ σ' y_1, _ ∧ frE σ σ' ∧ (((exF (lnB ks v.1 v.2.1 v.2.2.1 v.2.2.2) (nts ks gl x.1 a b) (x.1, none)).elim none fun r => if r.2.isNone && gl.isNone then none else some ((r.1, r.2.elim x.2 fun p => ((p : Int), 0)), bf)) = none ∧ _ ∨ ∃ r, ((exF (lnB ks v.1 v.2.1 v.2.2.1 v.2.2.2) (nts ks gl x.1 a b) (x.1, none)).elim none fun r => if r.2.isNone && gl.isNone then none else some ((r.1, r.2.elim x.2 fun p => ((p : Int), 0)), bf)) = some r ∧ _)
    -- it goes back
    have hback : ∀ (T : Tx) (x2 : Int), CE g ((T, x.2), o, bf, q, (md.1, md.2.1, md.2.2, ks), l) υ → ∃ σ', fb_Cl_change_82 (w : Int) x2 υ = some (some 0, σ') ∧ CE g (x, o, bf, q, (md.1, md.2.1, md.2.2, ks), l) σ' ∧ frE υ σ' := by
      intro T x2 cT
      obtain ⟨σ', v1, v2, v3⟩ := C_back cT (s3.frH d2)
      refine ⟨σ', ?_, v2, v3⟩
      unfold fb_Cl_change_82
      rw [kbu_eq v1]
      rfl
    rcases d3 with ⟨en, rfl, T, cT⟩ | ⟨r, er, rfl, cr, hwf, hlen, hch⟩
    · rw [en, kg_pos (by decide), if_pos rfl]
      obtain ⟨σ', v1, v2, v3⟩ := hback T (-2) cT
      exact ⟨σ', 0, v1, (s4.tr d2.1).tr v3, .inl ⟨rfl, rfl, v2⟩⟩
    · rw [er]
      show ∃ σ' y_1, _ ∧ frE σ σ' ∧ ((if r.2.isNone && gl.isNone then none else some ((r.1, r.2.elim x.2 fun p => ((p : Int), 0)), bf)) = none ∧ _ ∨ ∃ r_1, (if r.2.isNone && gl.isNone then none else some ((r.1, r.2.elim x.2 fun p => ((p : Int), 0)), bf)) = some r_1 ∧ _)
      obtain ⟨T, ch⟩ := r
      dsimp only at cr hwf hlen hch ⊢
      unfold fb_Cl_change_70 fb_Cl_change_75 fb_Cl_change_98
      have u13 : υ 7 0 13 = b2 gl.isSome := (d2.2.2.1 13 (by decide)).trans q13
      have u01 := b2_01 gl.isSome
      cases ch with
      | none =>
        rw [show (Option.elim (none : Option Nat) (-1) fun p => (p : Int)) = -1 from rfl, kg_pos (by decide), if_neg (by decide), kg_pos (by decide), if_pos rfl, u13, kg_pos (by omega)]
        cases gl with
        | none =>
          rw [if_pos (show b2 (none : Option Pt).isSome = 0 from rfl)]
          obtain ⟨σ', v1, v2, v3⟩ := hback T (-1) cr
          exact ⟨σ', 0, v1, (s4.tr d2.1).tr v3, .inl ⟨rfl, rfl, v2⟩⟩
        | some P =>
          rw [if_neg (show ¬ b2 (some P : Option Pt).isSome = 0 by show ¬ (1 : Int) = 0; decide), kg_pos (by decide), if_pos (by decide)]
          obtain ⟨σ', v1, v2, v3⟩ := C_other (x1 := (w : Int)) cr (s3.frH d2)
          exact ⟨σ', 1, v1, (s4.tr d2.1).tr v3, .inr ⟨_, rfl, rfl, v2⟩⟩
      | some p =>
        have hp1 := hch p rfl
        rw [show (Option.elim (some p) (-1) fun p => (p : Int)) = (p : Int) from rfl, kg_pos (by omega), if_neg (by omega), kg_pos (by omega), if_neg (by omega), kg_pos (by omega), if_neg (by omega)]
        unfold fb_Cl_change_102
        obtain ⟨ω, m1, m2, m3⟩ := SG.stand (g := g) (x := (T, x.2)) (o := o) (b := bf) (q := q) (m := (md.1, md.2.1, md.2.2, ks)) (l := l) (r := (p : Int)) (c := 0) hwf.1 (by omega) (by omega) υ cr
        have ecl : cl (p : Int) (((T, x.2) : Tc).1.length - 1) = p := by
          unfold cl
          dsimp only
          omega
        have e0 : ∀ n : Int, -1 ≤ n → cl 0 n = 0 := fun n hn => by
          unfold cl
          omega
        rw [ecl, e0 _ (by omega)] at m2
        rw [kbu_eq m1]
        obtain ⟨σ', v1, v2, v3⟩ := C_other (x1 := (w : Int)) m2 ((s3.frH d2).frG m3)
        exact ⟨σ', 1, v1, ((s4.tr d2.1).tr m3.1).tr v3, .inr ⟨_, rfl, rfl, v2⟩⟩
end
