/-! Pure: ranges. -/
def adB (c : Int) : Bool := decide (c = 46 ∨ c = 36 ∨ c = 47) || isDb c
/-- the range that a line begins with: given?, first, last, where it ends -/
def rgA (ks : List Int) (T : Tx) (r : Nat) : Option (Bool × Nat × Nat × Nat) :=
  if ks.getD 0 0 = 37 then some (true, 0, T.length - 1, 1)
  else if adB (ks.getD 0 0) then (adrA ks T r 0).elim none fun a => if ks.getD a.2 0 = 44 then (adrA ks T r (a.2 + 1)).elim none fun b => if a.1 ≤ b.1 then some (true, a.1, b.1, b.2) else none else some (true, a.1, a.1, a.2)
  else some (false, r, r, 0)
def CRg (σ : kS) (v : Bool × Nat × Nat × Nat) : Prop := σ 7 0 10 = b2 v.1 ∧ σ 7 0 11 = v.2.1 ∧ σ 7 0 12 = v.2.2.1
section
variable {ks : List Int} {σ : kS}
theorem CX.frX {σ σ' : kS} {t : Nat} {x : Tc} (h : CX σ t x) (f : frX σ σ') : CX σ' t x := by
  unfold CX CT
  rw [f 2 (by decide) (by decide) (by decide) (by decide), f 10 (by decide) (by decide) (by decide) (by decide), f 11 (by decide) (by decide) (by decide) (by decide)]
  exact h
theorem C_range {x : Tc} (hx : wfX x) (hX : CX σ 0 x) (h : CLs ks σ 0) (hl : ks.length ≤ 30) (hks : ∀ c ∈ ks, 32 ≤ c ∧ c ≤ 126) : ∃ σ', f_Cl_readRange σ = some (some ((rgA ks x.1 x.2.1.toNat).elim 0 fun _ => 1), σ') ∧ frX σ σ' ∧ ∀ v, rgA ks x.1 x.2.1.toNat = some v → CLs ks σ' v.2.2.2 ∧ CRg σ' v ∧ v.2.1 ≤ v.2.2.1 ∧ v.2.2.1 < x.1.length ∧ v.2.2.2 ≤ 32 := by
  obtain ⟨w1, w2, w3, w4, w5, w6, w7, w8⟩ := hx.sz
  have hX' := hX
  obtain ⟨x1, x2, x3, x4⟩ := hX'
  have r0 := gd_rng hks 0
  unfold f_Cl_readRange fb_Cl_readRange_0
  have e3 : kup σ 7 0 11 (σ 2 0 3) 2 0 3 = σ 2 0 3 := kup_k (by decide)
  rw [e3, x3]
  have f1 : frX σ (kup (kup (kup σ 7 0 11 x.2.1) 7 0 12 x.2.1) 7 0 10 0) := ((frX.rfl.kup (by decide)).kup (by decide)).kup (by decide)
  have hC1 : CLs ks (kup (kup (kup σ 7 0 11 x.2.1) 7 0 12 x.2.1) 7 0 10 0) 0 := h
  have a10 : kup (kup (kup σ 7 0 11 x.2.1) 7 0 12 x.2.1) 7 0 10 0 7 0 10 = 0 := rfl
  have a11 : kup (kup (kup σ 7 0 11 x.2.1) 7 0 12 x.2.1) 7 0 10 0 7 0 11 = x.2.1 := rfl
  have a12 : kup (kup (kup σ 7 0 11 x.2.1) 7 0 12 x.2.1) 7 0 10 0 7 0 12 = x.2.1 := rfl
  generalize kup (kup (kup σ 7 0 11 x.2.1) 7 0 12 x.2.1) 7 0 10 0 = τ at f1 hC1 a10 a11 a12
  have hXt : CX τ 0 x := hX.frX f1
  rw [kbi_eq (C_here hC1 hl (by decide))]
  unfold fb_Cl_readRange_31 rgA
  rw [kg_pos (by omega)]
  by_cases c1 : ks.getD 0 0 = 37
  · rw [if_pos c1, if_pos c1]
    unfold fb_Cl_readRange_38 f_Cl_takeAllIfNoRange fb_Cl_takeAllIfNoRange_0
    unfold fb_Cl_takeAllIfNoRange_7 fb_Cl_takeAllIfNoRange_25
    rw [a10, kg_pos (by decide), if_pos rfl, kbu_eq rfl]
    refine ⟨kup (kup (kup (kup τ 7 0 11 0) 7 0 12 (τ 2 0 2 - 1)) 7 0 10 1) 7 0 9 (τ 7 0 9 + 1), rfl, (((f1.kup (by decide)).kup (by decide)).kup (by decide)).kup (by decide), fun v hv => ?_⟩
    cases hv
    refine ⟨⟨hC1.1, hC1.2.1, ?_, hC1.2.2.2⟩, ⟨rfl, rfl, ?_⟩, Nat.zero_le _, by dsimp only; omega, by show (1 : Nat) ≤ 32; decide⟩
    · show τ 7 0 9 + 1 = ((1 : Nat) : Int)
      rw [hC1.2.2.1]
      rfl
    · show τ 2 0 2 - 1 = ((x.1.length - 1 : Nat) : Int)
      rw [hXt.2.1]
      omega
  rw [if_neg c1, if_neg c1]
  have hI : -2147483648 ≤ ks.getD 0 0 ∧ ks.getD 0 0 < 2147483648 := by omega
  have hD := C_isDigit (σ := τ) r0
  by_cases hA : adB (ks.getD 0 0) = true
  · rw [if_pos hA]
    have e86 : fb_Cl_readRange_59 (ks.getD 0 0) τ = fb_Cl_readRange_86 (ks.getD 0 0) τ := by
      unfold fb_Cl_readRange_59 fb_Cl_readRange_65 fb_Cl_readRange_71
      simp only [kg_pos hI]
      by_cases z1 : ks.getD 0 0 = 46
      · rw [if_pos z1]
      by_cases z2 : ks.getD 0 0 = 36
      · rw [if_neg z1, if_pos z2]
      by_cases z3 : ks.getD 0 0 = 47
      · rw [if_neg z1, if_neg z2, if_pos z3]
      rw [if_neg z1, if_neg z2, if_neg z3]
      unfold fb_Cl_readRange_77
      rw [kbi_eq hD]
      unfold adB at hA
      rw [decide_eq_false (by omega), Bool.false_or] at hA
      rw [hA]
      unfold fb_Cl_readRange_81
      rw [kg_pos (by decide), if_neg (show ¬ b2 true = 0 by decide)]
    rw [e86]
    unfold fb_Cl_readRange_86
    have f2 : frX σ (kup τ 7 0 10 1) := f1.kup (by decide)
    have hC2 : CLs ks (kup τ 7 0 10 1) 0 := hC1
    have hX2 : CX (kup τ 7 0 10 1) 0 x := hX.frX f2
    have b10 : kup τ 7 0 10 1 7 0 10 = 1 := rfl
    generalize kup τ 7 0 10 1 = υ at f2 hC2 hX2 b10
    obtain ⟨φ, e, g1, g2, g3⟩ := C_addr hx hX2 hC2 hl hks (by decide)
    have f3 : frX σ φ := f2.tr g1
    have s10 : ∀ p q : Int, kup (kup φ 7 0 11 p) 7 0 12 q 7 0 10 = 1 := fun p q => (g2 10 (by decide)).trans b10
    have hself : ∀ p : Int, kup φ 7 0 11 p 7 0 11 = p := fun p => rfl
    cases ha : adrA ks x.1 x.2.1.toNat 0 with
    | none =>
      rw [kbi_eq (show f_Cl_readAddress υ = some (some (-1), φ) by rw [e, ha]; rfl)]
      unfold fb_Cl_readRange_96
      rw [hself]
      have z11 : kup (kup φ 7 0 11 (-1)) 7 0 12 (-1) 7 0 11 = -1 := rfl
      rw [z11, kg_pos (by decide), if_pos (by decide)]
      refine ⟨kup (kup φ 7 0 11 (-1)) 7 0 12 (-1), ?_, (f3.kup (by decide)).kup (by decide), fun v hv => (nomatch hv)⟩
      unfold fb_Cl_readRange_141
      rw [z11, kg_pos (by decide), if_pos (by decide)]
      rfl
    | some a =>
      obtain ⟨hCa, hal, ha32⟩ := g3 a ha
      rw [kbi_eq (show f_Cl_readAddress υ = some (some (a.1 : Int), φ) by rw [e, ha]; rfl)]
      unfold fb_Cl_readRange_96
      rw [hself]
      have z11 : kup (kup φ 7 0 11 (a.1 : Int)) 7 0 12 (a.1 : Int) 7 0 11 = a.1 := rfl
      have z12 : kup (kup φ 7 0 11 (a.1 : Int)) 7 0 12 (a.1 : Int) 7 0 12 = a.1 := rfl
      have z10 := s10 (a.1 : Int) (a.1 : Int)
      have f4 : frX σ (kup (kup φ 7 0 11 (a.1 : Int)) 7 0 12 (a.1 : Int)) := (f3.kup (by decide)).kup (by decide)
      have hC4 : CLs ks (kup (kup φ 7 0 11 (a.1 : Int)) 7 0 12 (a.1 : Int)) a.2 := hCa
      rw [z11, kg_pos (by omega), if_neg (by omega)]
      generalize kup (kup φ 7 0 11 (a.1 : Int)) 7 0 12 (a.1 : Int) = ψ at f4 hC4 z10 z11 z12
      have ra := gd_rng hks a.2
      unfold fb_Cl_readRange_114
      rw [kbi_eq (C_here hC4 hl (by omega))]
      unfold fb_Cl_readRange_118
      rw [kg_pos (by omega)]
      have h141 : ∀ (ω : kS) (last : Int), ω 7 0 11 = a.1 → ω 7 0 12 = last → -1 ≤ last → last ≤ 100 → fb_Cl_readRange_141 (ks.getD 0 0) ω = some (some (if (a.1 : Int) ≤ last then 1 else 0), ω) := by
        intro ω last w1 w2 hl1 hl2
        unfold fb_Cl_readRange_141 fb_Cl_readRange_148 fb_Cl_readRange_163 fb_Cl_readRange_159 fb_Cl_readRange_164
        rw [w1, w2, kg_pos (by omega), if_neg (by omega), kg_pos (by omega), kg_pos (by decide), kg_pos (by decide)]
        by_cases z : (a.1 : Int) ≤ last
        · rw [if_pos z, if_neg (by omega)]
        · rw [if_neg z, if_pos (by omega)]
      show ∃ σ', _ = some (some ((if ks.getD a.2 0 = 44 then (adrA ks x.1 x.2.1.toNat (a.2 + 1)).elim none fun b => if a.1 ≤ b.1 then some (true, a.1, b.1, b.2) else none else some (true, a.1, a.1, a.2) : Option (Bool × Nat × Nat × Nat)).elim 0 fun _ => 1), σ') ∧ frX σ σ' ∧ ∀ v, (if ks.getD a.2 0 = 44 then (adrA ks x.1 x.2.1.toNat (a.2 + 1)).elim none fun b => if a.1 ≤ b.1 then some (true, a.1, b.1, b.2) else none else some (true, a.1, a.1, a.2) : Option (Bool × Nat × Nat × Nat)) = some v → CLs ks σ' v.2.2.2 ∧ CRg σ' v ∧ v.2.1 ≤ v.2.2.1 ∧ v.2.2.1 < x.1.length ∧ v.2.2.2 ≤ 32
      by_cases c44 : ks.getD a.2 0 = 44
      · rw [if_pos c44, if_pos c44]
        have hal30 : a.2 < ks.length := by
          by_cases z : a.2 < ks.length
          · exact z
          · rw [gd_ge ks 0 (by omega)] at c44
            exact absurd c44 (by decide)
        unfold fb_Cl_readRange_123
        rw [hC4.2.2.1]
        have f5 : frX σ (kup ψ 7 0 9 ((a.2 : Int) + 1)) := f4.kup (by decide)
        have hC5 : CLs ks (kup ψ 7 0 9 ((a.2 : Int) + 1)) (a.2 + 1) := hC4.at (by omega)
        have o5 : ∀ j, j ≠ 9 → kup ψ 7 0 9 ((a.2 : Int) + 1) 7 0 j = ψ 7 0 j := fun j hj => kup_j hj
        generalize kup ψ 7 0 9 ((a.2 : Int) + 1) = χ at f5 hC5 o5
        obtain ⟨ω, e5, q1, q2, q3⟩ := C_addr hx (hX.frX f5) hC5 hl hks (by omega)
        rw [kbi_eq e5]
        unfold fb_Cl_readRange_138
        have o11 : ∀ p, kup ω 7 0 12 p 7 0 11 = a.1 := fun p => (q2 11 (by decide)).trans ((o5 11 (by decide)).trans z11)
        have o10 : ∀ p, kup ω 7 0 12 p 7 0 10 = 1 := fun p => (q2 10 (by decide)).trans ((o5 10 (by decide)).trans z10)
        cases hb : adrA ks x.1 x.2.1.toNat (a.2 + 1) with
        | none =>
          refine ⟨kup ω 7 0 12 (-1), ?_, (f5.tr q1).kup (by decide), fun v hv => (nomatch hv)⟩
          exact (h141 _ (-1) (o11 _) (kup_self _ _ _ _ _) (by omega) (by omega)).trans (by rw [if_neg (by omega)]; rfl)
        | some b =>
          obtain ⟨hCb, hbl, hb32⟩ := q3 b hb
          refine ⟨kup ω 7 0 12 (b.1 : Int), ?_, (f5.tr q1).kup (by decide), fun v hv => ?_⟩
          · refine (h141 _ (b.1 : Int) (o11 _) (kup_self _ _ _ _ _) (by omega) (by omega)).trans ?_
            show _ = some (some ((if a.1 ≤ b.1 then some (true, a.1, b.1, b.2) else none : Option (Bool × Nat × Nat × Nat)).elim 0 fun _ => 1), _)
            by_cases z : a.1 ≤ b.1
            · rw [if_pos (by omega), if_pos z]
              rfl
            · rw [if_neg (by omega), if_neg z]
              rfl
          · have hv' : (if a.1 ≤ b.1 then some (true, a.1, b.1, b.2) else none : Option (Bool × Nat × Nat × Nat)) = some v := hv
            by_cases z : a.1 ≤ b.1
            · rw [if_pos z] at hv'
              cases hv'
              exact ⟨hCb, ⟨o10 _, o11 _, kup_self _ _ _ _ _⟩, z, hbl, hb32⟩
            · rw [if_neg z] at hv'
              exact nomatch hv'
      · rw [if_neg c44, if_neg c44]
        refine ⟨ψ, (h141 ψ a.1 z11 z12 (by omega) (by omega)).trans (by rw [if_pos (by omega)]; rfl), f4, fun v hv => ?_⟩
        cases hv
        exact ⟨hC4, ⟨z10, z11, z12⟩, Nat.le_refl _, hal, ha32⟩
  · rw [if_neg hA]
    have hA' : adB (ks.getD 0 0) = false := by
      cases z : adB (ks.getD 0 0) with
      | true => exact absurd z hA
      | false => rfl
    unfold adB at hA'
    rw [Bool.or_eq_false_iff] at hA'
    have hn := of_decide_eq_false hA'.1
    refine ⟨τ, ?_, f1, fun v hv => ?_⟩
    · unfold fb_Cl_readRange_59 fb_Cl_readRange_65 fb_Cl_readRange_71
      simp only [kg_pos hI]
      rw [if_neg (by omega), if_neg (by omega), if_neg (by omega)]
      unfold fb_Cl_readRange_77
      rw [kbi_eq hD, hA'.2]
      unfold fb_Cl_readRange_81
      rw [kg_pos (by decide), if_pos (show b2 false = 0 from rfl)]
      rfl
    · cases hv
      exact ⟨hC1, ⟨a10, a11.trans w8.symm, a12.trans w8.symm⟩, Nat.le_refl _, w2, by show (0 : Nat) ≤ 32; decide⟩
theorem R_range {x : Tc} (hx : wfX x) (hX : RX σ 0 x) (h : RLs ks σ 0) : ∃ σ', frZ σ σ' ∧ ((rgA ks x.1 x.2.1.toNat = none ∧ fb_Rm_line_19 σ = some (some 0, σ')) ∨ ∃ v, rgA ks x.1 x.2.1.toNat = some v ∧ fb_Rm_line_19 σ = fb_Rm_line_136 ((v.2.1 : Int) + 1) ((v.2.2.1 : Int) + 1) (b2 v.1) σ' ∧ RLs ks σ' v.2.2.2 ∧ v.2.1 ≤ v.2.2.1 ∧ v.2.2.1 < x.1.length ∧ v.2.2.2 ≤ 32) := by
  obtain ⟨w1, w2, w3, w4, w5, w6, w7, w8⟩ := hx.sz
  have hks := h.1.2.2.2
  have hl := h.1.2.2.1
  have h23 : σ 23 0 0 = x.2.1 := hX.2.2.1
  have r0 := gd_rng hks 0
  unfold fb_Rm_line_19
  obtain ⟨τ, e, z1, z2, z3, z4⟩ := R_take (v := 37) h (by decide) (by decide)
  rw [kbi_eq e, h23]
  have hXt : RX τ 0 x := hX.frZ z1
  -- the end
  have h107 : ∀ (a b gv : Int) (ω : kS), RX ω 0 x → ω 9 0 23 = 0 ∨ ω 9 0 23 = 1 → 0 ≤ a → a ≤ 100 → 0 ≤ b → b ≤ 100 → fb_Rm_line_107 a b gv ω = if ω 9 0 23 = 0 ∧ 1 ≤ a ∧ a ≤ b ∧ b ≤ x.1.length then fb_Rm_line_136 a b gv ω else some (some 0, ω) := by
    intro a b gv ω hXo hbad ha ha2 hb hb2
    have h22 : ω 22 0 0 = x.1.length := hXo.2.1
    unfold fb_Rm_line_107 fb_Rm_line_114 fb_Rm_line_119 fb_Rm_line_124 fb_Rm_line_134
    rw [h22, kg_pos (by omega), kg_pos (by omega), kg_pos (by omega), kg_pos (by omega)]
    repeat' split
    all_goals first | rfl | (exfalso; omega)
  unfold fb_Rm_line_38 rgA
  by_cases c1 : ks.getD 0 0 = 37
  · rw [if_pos c1] at z4
    rw [if_pos c1, if_pos c1, kg_pos (by decide), if_neg (by decide)]
    unfold fb_Rm_line_41
    have h22 : τ 22 0 0 = x.1.length := hXt.2.1
    rw [h22, h107 1 x.1.length 1 τ hXt (.inl z4.2.2) (by decide) (by decide) (by omega) (by omega), if_pos ⟨z4.2.2, by omega, by omega, by omega⟩]
    refine ⟨τ, z1, .inr ⟨(true, 0, x.1.length - 1, 1), rfl, ?_, z4, Nat.zero_le _, by dsimp only; omega, by show (1 : Nat) ≤ 32; decide⟩⟩
    show fb_Rm_line_136 1 (x.1.length : Int) 1 τ = fb_Rm_line_136 (((0 : Nat) : Int) + 1) (((x.1.length - 1 : Nat) : Int) + 1) (b2 true) τ
    rw [show ((x.1.length - 1 : Nat) : Int) + 1 = (x.1.length : Int) by omega]
    rfl
  rw [if_neg c1] at z4
  rw [if_neg c1, if_neg c1, kg_pos (by decide), if_pos rfl]
  unfold fb_Rm_line_53
  have hadr : f_Rm_addressed τ = some (some (b2 (adB (ks.getD 0 0))), τ) := by
    unfold f_Rm_addressed fb_Rm_addressed_0
    rw [kbi_eq (R_see z4 (by decide))]
    unfold fb_Rm_addressed_8
    rw [kbi_eq (R_digit z4 (by decide))]
    unfold fb_Rm_addressed_13 fb_Rm_addressed_16 fb_Rm_addressed_22 fb_Rm_addressed_28 fb_Rm_addressed_34 fb_Rm_addressed_38 fb_Rm_addressed_39 adB
    have h01 := b2_01 (isDb (ks.getD 0 0))
    simp only [kg_pos (show -2147483648 ≤ ks.getD 0 0 ∧ ks.getD 0 0 < 2147483648 by omega)]
    rw [kg_pos (by omega), kg_pos (by decide), kg_pos (by decide)]
    cases isDb (ks.getD 0 0) with
    | true => rw [if_neg (show ¬ b2 true = 0 by decide), Bool.or_true]; rfl
    | false =>
      rw [if_pos (show b2 false = 0 from rfl), Bool.or_false]
      by_cases z : ks.getD 0 0 = 46 ∨ ks.getD 0 0 = 36 ∨ ks.getD 0 0 = 47
      · rw [decide_eq_true z]
        repeat' split
        all_goals first | rfl | (exfalso; omega)
      · rw [decide_eq_false z]
        repeat' split
        all_goals first | rfl | (exfalso; omega)
  rw [kbi_eq hadr]
  unfold fb_Rm_line_57
  cases hA : adB (ks.getD 0 0) with
  | false =>
    rw [kg_pos (by decide), if_pos (show b2 false = 0 from rfl)]
    simp only [Bool.false_eq_true, if_false]
    unfold fb_Rm_line_105
    rw [h107 _ _ 0 τ hXt (.inl z4.2.2) (by omega) (by omega) (by omega) (by omega), if_pos ⟨z4.2.2, by omega, by omega, by omega⟩]
    refine ⟨τ, z1, .inr ⟨_, rfl, ?_, z4, Nat.le_refl _, w2, by show (0 : Nat) ≤ 32; decide⟩⟩
    show fb_Rm_line_136 (x.2.1 + 1) (x.2.1 + 1) 0 τ = fb_Rm_line_136 (((x.2.1.toNat : Nat) : Int) + 1) (((x.2.1.toNat : Nat) : Int) + 1) (b2 false) τ
    rw [w8]
    rfl
  | true =>
    rw [kg_pos (by decide), if_neg (show ¬ b2 true = 0 by decide), if_pos rfl]
    unfold fb_Rm_line_60
    obtain ⟨υ, v, e2, y1, y2, ⟨y3, jj, y4, y5⟩, y6⟩ := R_addr (xr := τ 23 0 0) hx hXt hXt.2.2.1 z4 (by decide)
    rw [kbi_eq e2]
    unfold fb_Rm_line_70
    have hXu : RX υ 0 x := hXt.frZ y1
    rw [kg_pos (by omega)]
    rcases y6 with ⟨hn, hbadv⟩ | ⟨a, ha, hv, hRa, hal, ha32⟩
    · rw [hn]
      -- it rings, whatever follows
      by_cases hb0 : υ 9 0 23 = 0
      · rw [if_pos hb0]
        unfold fb_Rm_line_78
        have hRu : ∃ σ', fb_Rm_line_78 v (x.2.1 + 1) 1 υ = some (some 0, σ') ∧ frZ υ σ' := by
          have hTu : TyR ks υ := (h.1.frZ z1).frZ y1
          have hRL : RLs ks υ jj := ⟨hTu, y4, hb0⟩
          obtain ⟨φ, e3, q1, q2, q3, q4⟩ := R_take (v := 44) hRL y5 (by decide)
          unfold fb_Rm_line_78
          rw [kbi_eq e3]
          unfold fb_Rm_line_84
          have hXf : RX φ 0 x := hXu.frZ q1
          by_cases c44 : ks.getD jj 0 = 44
          · rw [if_pos c44] at q4
            have hjl : jj < ks.length := by
              by_cases z : jj < ks.length
              · exact z
              · rw [gd_ge ks 0 (by omega)] at c44
                exact absurd c44 (by decide)
            rw [if_pos c44, kg_pos (by decide), if_neg (by decide)]
            unfold fb_Rm_line_87
            obtain ⟨ω, v2, e4, s1, s2, ⟨s3, j3, s4, s5⟩, s6⟩ := R_addr (xr := φ 23 0 0) hx hXf hXf.2.2.1 q4 (by omega)
            rw [kbi_eq e4]
            unfold fb_Rm_line_97 fb_Rm_line_101
            rw [h107 v v2 1 ω (hXf.frZ s1) s3 (by omega) (by omega) (by omega) (by omega), if_neg (by omega)]
            exact ⟨ω, rfl, q1.tr s1⟩
          · rw [if_neg c44] at q4
            rw [if_neg c44, kg_pos (by decide), if_pos rfl]
            unfold fb_Rm_line_100 fb_Rm_line_101
            rw [h107 v v 1 φ hXf (.inl q4.2.2) (by omega) (by omega) (by omega) (by omega), if_neg (by omega)]
            exact ⟨φ, rfl, q1⟩
        obtain ⟨σ', e5, q1⟩ := hRu
        exact ⟨σ', (z1.tr y1).tr q1, .inl ⟨rfl, e5⟩⟩
      · rw [if_neg hb0]
        unfold fb_Rm_line_100 fb_Rm_line_101
        rw [h107 v v 1 υ hXu y3 (by omega) (by omega) (by omega) (by omega), if_neg (by omega)]
        exact ⟨υ, z1.tr y1, .inl ⟨rfl, rfl⟩⟩
    · rw [ha, if_pos hRa.2.2]
      show ∃ σ', frZ σ σ' ∧ (((if ks.getD a.2 0 = 44 then (adrA ks x.1 x.2.1.toNat (a.2 + 1)).elim none fun b => if a.1 ≤ b.1 then some (true, a.1, b.1, b.2) else none else some (true, a.1, a.1, a.2) : Option (Bool × Nat × Nat × Nat)) = none ∧ _) ∨ ∃ v', (if ks.getD a.2 0 = 44 then (adrA ks x.1 x.2.1.toNat (a.2 + 1)).elim none fun b => if a.1 ≤ b.1 then some (true, a.1, b.1, b.2) else none else some (true, a.1, a.1, a.2) : Option (Bool × Nat × Nat × Nat)) = some v' ∧ _)
      unfold fb_Rm_line_78
      obtain ⟨φ, e3, q1, q2, q3, q4⟩ := R_take (v := 44) hRa (by omega) (by decide)
      rw [kbi_eq e3]
      unfold fb_Rm_line_84
      have hXf : RX φ 0 x := hXu.frZ q1
      by_cases c44 : ks.getD a.2 0 = 44
      · rw [if_pos c44] at q4
        have hjl : a.2 < ks.length := by
          by_cases z : a.2 < ks.length
          · exact z
          · rw [gd_ge ks 0 (by omega)] at c44
            exact absurd c44 (by decide)
        rw [if_pos c44, if_pos c44, kg_pos (by decide), if_neg (by decide)]
        unfold fb_Rm_line_87
        obtain ⟨ω, v2, e4, s1, s2, ⟨s3, j3, s4, s5⟩, s6⟩ := R_addr (xr := φ 23 0 0) hx hXf hXf.2.2.1 q4 (by omega)
        rw [kbi_eq e4]
        unfold fb_Rm_line_97 fb_Rm_line_101
        rw [h107 v v2 1 ω (hXf.frZ s1) s3 (by omega) (by omega) (by omega) (by omega)]
        have ff : frZ σ ω := ((z1.tr y1).tr q1).tr s1
        rcases s6 with ⟨hn, hbadv⟩ | ⟨b, hb, hv2, hRb, hbl, hb32⟩
        · rw [hn, if_neg (by omega)]
          exact ⟨ω, ff, .inl ⟨rfl, rfl⟩⟩
        · rw [hb]
          show ∃ σ', frZ σ σ' ∧ (((if a.1 ≤ b.1 then some (true, a.1, b.1, b.2) else none : Option (Bool × Nat × Nat × Nat)) = none ∧ _) ∨ ∃ v', (if a.1 ≤ b.1 then some (true, a.1, b.1, b.2) else none : Option (Bool × Nat × Nat × Nat)) = some v' ∧ _)
          by_cases z : a.1 ≤ b.1
          · rw [if_pos z, if_pos ⟨hRb.2.2, by omega, by omega, by omega⟩, hv, hv2]
            exact ⟨ω, ff, .inr ⟨_, rfl, rfl, hRb, z, hbl, hb32⟩⟩
          · rw [if_neg z, if_neg (by omega)]
            exact ⟨ω, ff, .inl ⟨rfl, rfl⟩⟩
      · rw [if_neg c44] at q4
        rw [if_neg c44, if_neg c44, kg_pos (by decide), if_pos rfl]
        unfold fb_Rm_line_100 fb_Rm_line_101
        rw [h107 v v 1 φ hXf (.inl q4.2.2) (by omega) (by omega) (by omega) (by omega), if_pos ⟨q4.2.2, by omega, by omega, by omega⟩, hv]
        exact ⟨φ, (z1.tr y1).tr q1, .inr ⟨_, rfl, rfl, q4, Nat.le_refl _, hal, ha32⟩⟩
end
