/-! Pure: a COMMAND line, the class's side. -/
/-- a COMMAND line; none: it rings -/
def caA (ks : List Int) (x : Tc) (o : Option Tc) (bf : Int × Tx) (D : kDk) : Option ((Tc × Option Tc × Int × Tx) × kDk) :=
  if ks.length = 0 then some ((x, o, bf), D)
  else (rgA ks x.1 x.2.1.toNat).elim none fun v =>
    if ks.getD v.2.2.2 0 = 0 then some (((x.1, (v.2.2.1 : Int), 0), o, bf), D)
    else if ks.getD v.2.2.2 0 = 119 then (if v.2.2.2 + 1 = ks.length ∧ D.2.2.length < 3 then some ((x, o, bf), joA D 0 x.1 (gA1 v true) (gA2 v true x.1.length)) else none)
    else if ks.getD v.2.2.2 0 = 112 then (if ks.length = v.2.2.2 + 3 ∧ ks.getD (v.2.2.2 + 1) 0 = 114 ∧ ks.getD (v.2.2.2 + 2) 0 = 101 ∧ D.2.2.length < 3 then some ((x, o, bf), joA D 1 x.1 0 (x.1.length - 1)) else none)
    else (chP ks v.2.2.2).elim none fun u => (chgA ks u.1 u.2 (gA1 v u.1.isSome) (gA2 v u.1.isSome x.1.length) x bf).map fun r => ((r.1, some x, r.2), D)
theorem gA_rng {v : Bool × Nat × Nat × Nat} {n : Nat} (g : Bool) (h1 : v.2.1 ≤ v.2.2.1) (h2 : v.2.2.1 < n) : gA1 v g ≤ gA2 v g n ∧ gA2 v g n < n := by
  unfold gA1 gA2
  split
  · omega
  · omega
section
variable {g : Int} {o : Option Tc} {q : Qd} {l : Int × List Int} {ks : List Int} {bf : Int × Tx} {md : Int × Int × Int} {x : Tc} {σ : kS} {D : kDk}
theorem C_carry (c : CE g (x, o, bf, q, (md.1, md.2.1, md.2.2, ks), l) σ) (d : CD D σ) (hx : wfX x) (hD : D.2.2.length ≤ 3) (hl : ks.length ≤ 30) (hks : ∀ c ∈ ks, 32 ≤ c ∧ c ≤ 126) : ∃ σ' y, f_Cl_carryOut σ = some (some y, σ') ∧ (∀ k, k = 4 ∨ k = 9 ∨ k = 15 ∨ 20 ≤ k → σ' k = σ k) ∧ ((caA ks x o bf D = none ∧ y = 0 ∧ CE g (x, o, bf, q, (md.1, md.2.1, md.2.2, ks), l) σ' ∧ CD D σ') ∨ ∃ r, caA ks x o bf D = some r ∧ y = 1 ∧ CE g (r.1.1, r.1.2.1, r.1.2.2, q, (md.1, md.2.1, md.2.2, ks), l) σ' ∧ CD r.2 σ') := by
  obtain ⟨w1, w2, w3, w4, w5, w6, w7, w8⟩ := hx.sz
  have h6 : σ 6 2 1 = ks.length := c.2.2.2.2.1.2.2.2.1
  have ha : kArr (σ 16 2) ks := c.2.2.2.2.1.2.2.2.2
  unfold f_Cl_carryOut fb_Cl_carryOut_0 f_Cl_begin fb_Cl_begin_0
  have e6 : kup σ 7 0 7 1 6 2 1 = ks.length := h6
  rw [e6, kg_pos (by omega), kbu_eq rfl]
  have f1 : frX σ (kup (kup (kup σ 7 0 7 1) 7 0 8 (min (ks.length : Int) 30)) 7 0 9 0) := ((frX.rfl.kup (by decide)).kup (by decide)).kup (by decide)
  have t7 : kup (kup (kup σ 7 0 7 1) 7 0 8 (min (ks.length : Int) 30)) 7 0 9 0 7 0 7 = 1 := rfl
  have t9 : kup (kup (kup σ 7 0 7 1) 7 0 8 (min (ks.length : Int) 30)) 7 0 9 0 7 0 9 = ((0 : Nat) : Int) := rfl
  have t8 : kup (kup (kup σ 7 0 7 1) 7 0 8 (min (ks.length : Int) 30)) 7 0 9 0 7 0 8 = ks.length := by
    show min (ks.length : Int) 30 = ks.length
    omega
  generalize kup (kup (kup σ 7 0 7 1) 7 0 8 (min (ks.length : Int) 30)) 7 0 9 0 = τ at f1 t7 t8 t9
  have cτ : CE g (x, o, bf, q, (md.1, md.2.1, md.2.2, ks), l) τ := c.frX f1
  have hC : CLs ks τ 0 := ⟨t7, t8, t9, cτ.2.2.2.2.1.2.2.2.2⟩
  unfold fb_Cl_carryOut_5 caA
  rw [t8, kg_pos (by omega)]
  -- nothing but scratch has changed
  have hsc : ∀ υ, frX σ υ → CE g (x, o, bf, q, (md.1, md.2.1, md.2.2, ks), l) υ ∧ CD D υ ∧ ∀ k, k = 4 ∨ k = 9 ∨ k = 15 ∨ 20 ≤ k → υ k = σ k := fun υ f => ⟨c.frX f, d.frE f.frE, fun k hk => f k (by omega) (by omega) (by omega) (by omega)⟩
  have hE : ∀ υ, frE σ υ → CD D υ ∧ ∀ k, k = 4 ∨ k = 9 ∨ k = 15 ∨ 20 ≤ k → υ k = σ k := fun υ f => ⟨d.frE f, fun k hk => f.1 k (by omega)⟩
  by_cases h0 : ks.length = 0
  · rw [if_pos (by omega), if_pos h0]
    exact ⟨τ, 1, rfl, (hsc τ f1).2.2, .inr ⟨_, rfl, rfl, (hsc τ f1).1, (hsc τ f1).2.1⟩⟩
  rw [if_neg (by omega), if_neg h0]
  unfold fb_Cl_carryOut_14
  obtain ⟨υ, r1, r2, r3⟩ := C_range hx cτ.1 hC hl hks
  rw [kbi_eq r1]
  have f2 := f1.tr r2
  unfold fb_Cl_carryOut_18
  cases hrg : rgA ks x.1 x.2.1.toNat with
  | none =>
    rw [show (Option.elim (none : Option (Bool × Nat × Nat × Nat)) (0 : Int) fun _ => 1) = 0 from rfl, kg_pos (by decide), if_pos rfl]
    exact ⟨υ, 0, rfl, (hsc υ f2).2.2, .inl ⟨rfl, rfl, (hsc υ f2).1, (hsc υ f2).2.1⟩⟩
  | some v =>
    obtain ⟨hCv, hRv, hv1, hv2, hv3⟩ := r3 v hrg
    rw [show (Option.elim (some v) (0 : Int) fun _ => 1) = 1 from rfl, kg_pos (by decide), if_neg (by decide)]
    unfold fb_Cl_carryOut_23
    have hr := gd_rng hks v.2.2.2
    rw [kbi_eq (C_here hCv hl (by omega))]
    unfold fb_Cl_carryOut_27
    rw [kg_pos (by omega)]
    show ∃ σ' y, _ ∧ _ ∧ ((if ks.getD v.2.2.2 0 = 0 then some (((x.1, (v.2.2.1 : Int), 0), o, bf), D) else if ks.getD v.2.2.2 0 = 119 then (if v.2.2.2 + 1 = ks.length ∧ D.2.2.length < 3 then some ((x, o, bf), joA D 0 x.1 (gA1 v true) (gA2 v true x.1.length)) else none) else if ks.getD v.2.2.2 0 = 112 then (if ks.length = v.2.2.2 + 3 ∧ ks.getD (v.2.2.2 + 1) 0 = 114 ∧ ks.getD (v.2.2.2 + 2) 0 = 101 ∧ D.2.2.length < 3 then some ((x, o, bf), joA D 1 x.1 0 (x.1.length - 1)) else none) else (chP ks v.2.2.2).elim none fun u => (chgA ks u.1 u.2 (gA1 v u.1.isSome) (gA2 v u.1.isSome x.1.length) x bf).map fun r => ((r.1, some x, r.2), D)) = none ∧ _ ∨ ∃ r, (if ks.getD v.2.2.2 0 = 0 then some (((x.1, (v.2.2.1 : Int), 0), o, bf), D) else if ks.getD v.2.2.2 0 = 119 then (if v.2.2.2 + 1 = ks.length ∧ D.2.2.length < 3 then some ((x, o, bf), joA D 0 x.1 (gA1 v true) (gA2 v true x.1.length)) else none) else if ks.getD v.2.2.2 0 = 112 then (if ks.length = v.2.2.2 + 3 ∧ ks.getD (v.2.2.2 + 1) 0 = 114 ∧ ks.getD (v.2.2.2 + 2) 0 = 101 ∧ D.2.2.length < 3 then some ((x, o, bf), joA D 1 x.1 0 (x.1.length - 1)) else none) else (chP ks v.2.2.2).elim none fun u => (chgA ks u.1 u.2 (gA1 v u.1.isSome) (gA2 v u.1.isSome x.1.length) x bf).map fun r => ((r.1, some x, r.2), D)) = some r ∧ _)
    obtain ⟨cu, du, ku⟩ := hsc υ f2
    by_cases c0 : ks.getD v.2.2.2 0 = 0
    · rw [if_pos c0, if_pos c0]
      unfold fb_Cl_carryOut_60
      rw [hRv.2.2]
      obtain ⟨ω, m1, m2, m3⟩ := SC.stand (g := g) (x := x) (o := o) (b := bf) (q := q) (m := (md.1, md.2.1, md.2.2, ks)) (l := l) (r := (v.2.2.1 : Int)) (c := 0) w4 (by omega) (by omega) υ cu
      rw [kbu_eq m1]
      have ecl : cl (v.2.2.1 : Int) ((x.1.length : Int) - 1) = v.2.2.1 := by
        unfold cl
        omega
      have e0 : ∀ n : Int, -1 ≤ n → cl 0 n = 0 := fun n hn => by
        unfold cl
        omega
      rw [ecl, e0 _ (by omega)] at m2
      have := hE ω (f2.frE.tr m3)
      exact ⟨ω, 1, rfl, this.2, .inr ⟨_, rfl, rfl, m2, this.1⟩⟩
    rw [if_neg c0, if_neg c0]
    have hkl : v.2.2.2 < ks.length := by
      by_cases hlt : v.2.2.2 < ks.length
      · exact hlt
      · exact absurd (gd_ge ks 0 (by omega)) c0
    by_cases c112 : ks.getD v.2.2.2 0 = 112
    · rw [if_pos c112, if_neg (show ¬ ks.getD v.2.2.2 0 = 119 by omega), if_pos c112]
      unfold fb_Cl_carryOut_128
      have e50 : f_Cl_readPreserve υ = some (some (if ks.length = v.2.2.2 + 3 ∧ ks.getD (v.2.2.2 + 1) 0 = 114 ∧ ks.getD (v.2.2.2 + 2) 0 = 101 then 1 else 0), υ) := by
        unfold f_Cl_readPreserve fb_Cl_readPreserve_0 fb_Cl_readPreserve_13 fb_Cl_readPreserve_29 fb_Cl_readPreserve_45 fb_Cl_readPreserve_49 fb_Cl_readPreserve_50
        rw [hCv.2.1, hCv.2.2.1, kg_pos (by omega)]
        by_cases z1 : ks.length = v.2.2.2 + 3
        · have hq1 := gd_rng hks (v.2.2.2 + 1)
          have hq2 := gd_rng hks (v.2.2.2 + 2)
          rw [if_pos (by omega), show ((v.2.2.2 : Int) + 1).toNat = v.2.2.2 + 1 by omega, show ((v.2.2.2 : Int) + 2).toNat = v.2.2.2 + 2 by omega, hCv.2.2.2 (v.2.2.2 + 1) (by omega), hCv.2.2.2 (v.2.2.2 + 2) (by omega), kg_pos ⟨hCv.1, by omega, by omega⟩]
          by_cases z2 : ks.getD (v.2.2.2 + 1) 0 = 114
          · rw [if_pos z2, kg_pos ⟨hCv.1, by omega, by omega⟩]
            by_cases z3 : ks.getD (v.2.2.2 + 2) 0 = 101
            · rw [if_pos z3, kg_pos (by decide), if_pos ⟨z1, z2, z3⟩]
            · rw [if_neg z3, kg_pos (by decide), if_neg (fun h => z3 h.2.2)]
          · rw [if_neg z2, kg_pos (by decide), if_neg (fun h => z2 h.2.1)]
        · rw [if_neg (by omega), kg_pos (by decide), if_neg (fun h => z1 h.1)]
      rw [kbi_eq e50]
      unfold fb_Cl_carryOut_132 fb_Cl_carryOut_164 fb_Cl_carryOut_165
      by_cases z : ks.length = v.2.2.2 + 3 ∧ ks.getD (v.2.2.2 + 1) 0 = 114 ∧ ks.getD (v.2.2.2 + 2) 0 = 101
      · rw [if_pos z, kg_pos (by decide), if_neg (by decide)]
        unfold fb_Cl_carryOut_135 fb_Cl_carryOut_157 fb_Cl_carryOut_160 fb_Cl_carryOut_164 fb_Cl_carryOut_165
        have u22 : υ 2 0 2 = x.1.length := cu.1.2.1
        obtain ⟨ω, m1, m2, m3, m4⟩ := C_job (xa := 0) (xb := (x.1.length : Int) - 1) (fs := 1) (a := 0) (b := x.1.length - 1) rfl (by omega) cu du hD (.inr rfl) (by omega) (by omega) (by omega)
        rw [u22, kbi_eq m1]
        have kw : ∀ k, k = 4 ∨ k = 9 ∨ k = 15 ∨ 20 ≤ k → ω k = σ k := fun k hk => (m4 k hk).trans (ku k hk)
        by_cases z3 : D.2.2.length < 3
        · rw [if_pos z3] at m3
          rw [if_pos z3, kg_pos (by decide), if_neg (by decide), kg_pos (by decide), if_pos ⟨z.1, z.2.1, z.2.2, z3⟩]
          exact ⟨ω, 1, rfl, kw, .inr ⟨_, rfl, rfl, m2, m3⟩⟩
        · rw [if_neg z3] at m3
          rw [if_neg z3, kg_pos (by decide), if_pos rfl, kg_pos (by decide), if_neg (fun h => z3 h.2.2.2)]
          exact ⟨ω, 0, rfl, kw, .inl ⟨rfl, rfl, m2, m3⟩⟩
      · rw [if_neg z, kg_pos (by decide), if_pos rfl, kg_pos (by decide), if_neg (fun h => z ⟨h.1, h.2.1, h.2.2.1⟩)]
        exact ⟨υ, 0, rfl, ku, .inl ⟨rfl, rfl, cu, du⟩⟩
    rw [if_neg c112]
    by_cases c119 : ks.getD v.2.2.2 0 = 119
    · rw [if_pos c119, if_pos c119]
      unfold fb_Cl_carryOut_74
      rw [hCv.2.2.1]
      have C2 : CLs ks (kup υ 7 0 9 ((v.2.2.2 : Int) + 1)) (v.2.2.2 + 1) := hCv.at (by omega)
      have X2 : CX (kup υ 7 0 9 ((v.2.2.2 : Int) + 1)) 0 x := cu.1
      have R2 : CRg (kup υ 7 0 9 ((v.2.2.2 : Int) + 1)) v := hRv
      have f3 : frX σ (kup υ 7 0 9 ((v.2.2.2 : Int) + 1)) := f2.kup (by decide)
      generalize kup υ 7 0 9 ((v.2.2.2 : Int) + 1) = φ at C2 X2 R2 f3
      obtain ⟨ψ, z1, z2, z3, z4, z5, z6⟩ := C_takeAll X2 hx R2
      rw [kbu_eq z1]
      have f4 := f3.tr z2
      obtain ⟨cp, dp, kp⟩ := hsc ψ f4
      unfold fb_Cl_carryOut_88 fb_Cl_carryOut_126 fb_Cl_carryOut_127
      rw [z5 9 (by decide) (by decide), z5 8 (by decide) (by decide), C2.2.1, C2.2.2.1, kg_pos (by omega)]
      by_cases z : v.2.2.2 + 1 = ks.length
      · rw [if_pos (by omega)]
        unfold fb_Cl_carryOut_99 fb_Cl_carryOut_119 fb_Cl_carryOut_122 fb_Cl_carryOut_126 fb_Cl_carryOut_127
        have hgr := gA_rng (n := x.1.length) true hv1 hv2
        obtain ⟨ω, m1, m2, m3, m4⟩ := C_job (fs := 0) (a := gA1 v true) (b := gA2 v true x.1.length) z3 z4 cp dp hD (.inl rfl) hgr.1 hgr.2 (by omega)
        rw [kbi_eq m1]
        have kw : ∀ k, k = 4 ∨ k = 9 ∨ k = 15 ∨ 20 ≤ k → ω k = σ k := fun k hk => (m4 k hk).trans (kp k hk)
        by_cases y3 : D.2.2.length < 3
        · rw [if_pos y3] at m3
          rw [if_pos y3, kg_pos (by decide), if_neg (by decide), kg_pos (by decide), if_pos ⟨z, y3⟩]
          exact ⟨ω, 1, rfl, kw, .inr ⟨_, rfl, rfl, m2, m3⟩⟩
        · rw [if_neg y3] at m3
          rw [if_neg y3, kg_pos (by decide), if_pos rfl, kg_pos (by decide), if_neg (fun h => y3 h.2)]
          exact ⟨ω, 0, rfl, kw, .inl ⟨rfl, rfl, m2, m3⟩⟩
      · rw [if_neg (by omega), kg_pos (by decide), if_neg (fun h => z h.1)]
        exact ⟨ψ, 0, rfl, kp, .inl ⟨rfl, rfl, cp, dp⟩⟩
    rw [if_neg c119, if_neg c119, if_neg c112]
    unfold fb_Cl_carryOut_166
    obtain ⟨φ, y, z1, z2, z3⟩ := C_readChange hCv cu.1 hx hRv hl hks hkl
    rw [kbi_eq z1]
    have f3 := f2.tr z2
    obtain ⟨cp, dp, kp⟩ := hsc φ f3
    unfold fb_Cl_carryOut_170 fb_Cl_carryOut_184 fb_Cl_carryOut_185
    rcases z3 with ⟨en, rfl⟩ | ⟨u, eu, rfl, hpa⟩
    · rw [en, kg_pos (by decide), if_pos rfl, kg_pos (by decide)]
      exact ⟨φ, 0, rfl, kp, .inl ⟨rfl, rfl, cp, dp⟩⟩
    · rw [eu, kg_pos (by decide), if_neg (by decide)]
      unfold fb_Cl_carryOut_173
      have hgr := gA_rng (n := x.1.length) u.1.isSome hv1 hv2
      obtain ⟨ω, y, y1, y2, y3⟩ := C_change cp hx hl hks hpa hgr.1 hgr.2
      rw [kbi_eq y1]
      have := hE ω (f3.frE.tr y2)
      unfold fb_Cl_carryOut_177 fb_Cl_carryOut_180 fb_Cl_carryOut_184 fb_Cl_carryOut_185
      show ∃ σ' y, _ ∧ _ ∧ (((chgA ks u.1 u.2 (gA1 v u.1.isSome) (gA2 v u.1.isSome x.1.length) x bf).map fun r => ((r.1, some x, r.2), D)) = none ∧ _ ∨ ∃ r, ((chgA ks u.1 u.2 (gA1 v u.1.isSome) (gA2 v u.1.isSome x.1.length) x bf).map fun r => ((r.1, some x, r.2), D)) = some r ∧ _)
      rcases y3 with ⟨en, rfl, cn⟩ | ⟨r, er, rfl, cr⟩
      · rw [en, kg_pos (by decide), if_pos rfl, kg_pos (by decide)]
        exact ⟨ω, 0, rfl, this.2, .inl ⟨rfl, rfl, cn, this.1⟩⟩
      · rw [er, kg_pos (by decide), if_neg (by decide), kg_pos (by decide)]
        exact ⟨ω, 1, rfl, this.2, .inr ⟨_, rfl, rfl, cr, this.1⟩⟩
end
