/-! Pure: a COMMAND line, the reference's side. -/
def frU (σ σ' : kS) : Prop := (∀ a, a ≠ 9 → a < 20 → σ' a = σ a) ∧ (∀ c, 37 ≤ c → σ' 9 0 c = σ 9 0 c) ∧ σ' 36 = σ 36
theorem frU.rfl {σ : kS} : frU σ σ := ⟨fun _ _ _ => Eq.refl _, fun _ _ => Eq.refl _, Eq.refl _⟩
theorem frU.tr {σ σ' σ'' : kS} (h : frU σ σ') (h2 : frU σ' σ'') : frU σ σ'' := ⟨fun a ha hb => (h2.1 a ha hb).trans (h.1 a ha hb), fun c hc => (h2.2.1 c hc).trans (h.2.1 c hc), h2.2.2.trans h.2.2⟩
theorem frF.u {σ σ' : kS} (h : frF σ σ') : frU σ σ' := ⟨h.1, fun c hc => h.2.2.1 c (.inr hc), h.2.1 36 (by decide)⟩
theorem RW.frU {W : kWn} {σ σ' : kS} (h : RW W σ) (f : frU σ σ') : RW W σ' := h.cg (fun c hc => f.2.1 c hc) f.2.2
theorem gd_lt0 {ks : List Int} {k : Nat} (h : ks.getD k 0 ≠ 0) : k < ks.length := by
  by_cases hlt : k < ks.length
  · exact hlt
  · exact absurd (gd_ge ks 0 (by omega)) h
theorem dlA_le {ks : List Int} {k : Nat} {d : Pt × Nat} (h : dlA ks k = some d) : d.2 ≤ ks.length := by
  unfold dlA at h
  split at h
  · exact nomatch h
  · cases hp : parA ks (k + 1) (findI ks 47 ks.length 40 (k + 1)) with
    | none =>
      rw [hp] at h
      exact nomatch h
    | some P =>
      rw [hp] at h
      cases h
      dsimp only
      omega
theorem isDb_0 {c : Int} (h : isDb c = true) : c ≠ 0 := by
  have : 48 ≤ c ∧ c ≤ 57 := of_decide_eq_true h
  omega
theorem adrA_le {ks : List Int} {T : Tx} {r k : Nat} {a : Nat × Nat} (h : adrA ks T r k = some a) : a.2 ≤ ks.length := by
  unfold adrA at h
  split at h
  · cases hd : dlA ks k with
    | none =>
      rw [hd] at h
      exact nomatch h
    | some d =>
      have hle := dlA_le hd
      rw [hd] at h
      have h' : (nxA ks d.1 T r).map (fun n => (n, d.2)) = some a := h
      cases hn : nxA ks d.1 T r with
      | none =>
        rw [hn] at h'
        exact nomatch h'
      | some n =>
        rw [hn] at h'
        cases h'
        exact hle
  · split at h
    · cases h
      rename_i h46
      exact gd_lt h46 (by decide)
    · split at h
      · cases h
        rename_i h36
        exact gd_lt h36 (by decide)
      · split at h
        · rename_i hdb
          have hk0 := gd_lt0 (isDb_0 hdb)
          split at h
          · rename_i hdb1
            have hk1 := gd_lt0 (isDb_0 hdb1)
            split at h
            · cases h
              exact hk1
            · exact nomatch h
          · split at h
            · cases h
              exact hk0
            · exact nomatch h
        · exact nomatch h
theorem rgA_le {ks : List Int} {T : Tx} {r : Nat} {v : Bool × Nat × Nat × Nat} (h : rgA ks T r = some v) : v.2.2.2 ≤ ks.length := by
  unfold rgA at h
  split at h
  · cases h
    rename_i h37
    exact gd_lt h37 (by decide)
  · split at h
    · cases ha : adrA ks T r 0 with
      | none =>
        rw [ha] at h
        exact nomatch h
      | some a =>
        have hle := adrA_le ha
        rw [ha] at h
        have h' : (if ks.getD a.2 0 = 44 then (adrA ks T r (a.2 + 1)).elim none fun b => if a.1 ≤ b.1 then some (true, a.1, b.1, b.2) else none else some (true, a.1, a.1, a.2)) = some v := h
        split at h'
        · cases hb : adrA ks T r (a.2 + 1) with
          | none =>
            rw [hb] at h'
            exact nomatch h'
          | some b =>
            have hle2 := adrA_le hb
            rw [hb] at h'
            have h'' : (if a.1 ≤ b.1 then some (true, a.1, b.1, b.2) else none) = some v := h'
            split at h''
            · cases h''
              exact hle2
            · exact nomatch h''
        · cases h'
          exact hle
    · cases h
      exact Nat.zero_le _
/-- what stands behind the range, where something stands there -/
def cbA (ks : List Int) (v : Bool × Nat × Nat × Nat) (x : Tc) (o : Option Tc) (bf : Int × Tx) (D : kDk) : Option ((Tc × Option Tc × Int × Tx) × kDk) :=
  if ks.getD v.2.2.2 0 = 119 then (if v.2.2.2 + 1 = ks.length ∧ D.2.2.length < 3 then some ((x, o, bf), joA D 0 x.1 (gA1 v true) (gA2 v true x.1.length)) else none)
  else if ks.getD v.2.2.2 0 = 112 then (if ks.length = v.2.2.2 + 3 ∧ ks.getD (v.2.2.2 + 1) 0 = 114 ∧ ks.getD (v.2.2.2 + 2) 0 = 101 ∧ D.2.2.length < 3 then some ((x, o, bf), joA D 1 x.1 0 (x.1.length - 1)) else none)
  else (chP ks v.2.2.2).elim none fun u => (chgA ks u.1 u.2 (gA1 v u.1.isSome) (gA2 v u.1.isSome x.1.length) x bf).map fun r => ((r.1, some x, r.2), D)
theorem caA_eq (ks : List Int) (x : Tc) (o : Option Tc) (bf : Int × Tx) (D : kDk) : caA ks x o bf D = if ks.length = 0 then some ((x, o, bf), D) else (rgA ks x.1 x.2.1.toNat).elim none fun v => if ks.getD v.2.2.2 0 = 0 then some (((x.1, (v.2.2.1 : Int), 0), o, bf), D) else cbA ks v x o bf D := rfl
def isWG (c : Int) : Bool := decide (c = 119 ∨ c = 103)
section
variable {g : Int} {B : Option Tc} {o : Option Tc} {q : Qd} {md : Md} {l : Int × List Int} {ks : List Int} {bf : Int × Tx} {D : kDk}
theorem R_carry {xa xb : Int} {v : Bool × Nat × Nat × Nat} {x : Tc} {σ : kS} (hxa : xa = gA1 v (isWG (ks.getD v.2.2.2 0))) (hxb : xb = gA2 v (isWG (ks.getD v.2.2.2 0)) x.1.length) (c : RE2 g B (x, o, bf, q, md, l) σ) (d : RD D σ) (hD : D.2.2.length ≤ 3) (hx : wfX x) (h : RLs ks σ v.2.2.2) (hk : v.2.2.2 < ks.length) (h0 : ks.getD v.2.2.2 0 ≠ 0) (hv1 : v.2.1 ≤ v.2.2.1) (hv2 : v.2.2.1 < x.1.length) : ∃ σ' y, f_Rm_carryOut xa xb σ = some (some y, σ') ∧ frU σ σ' ∧ ((cbA ks v x o bf D = none ∧ y = 0 ∧ (∃ T' cu', RE2 g B ((T', cu'), o, bf, q, md, l) σ') ∧ RD D σ') ∨ (∃ D', cbA ks v x o bf D = some ((x, o, bf), D') ∧ y = 2 ∧ RE2 g B (x, o, bf, q, md, l) σ' ∧ RD D' σ') ∨ ∃ z : Tc × Int × Tx, cbA ks v x o bf D = some ((z.1, some x, z.2), D) ∧ y = 3 ∧ RE2 g B (z.1, o, z.2, q, md, l) σ' ∧ RD D σ') := by
  have hl := h.1.2.2.1
  have hr := gd_rng h.1.2.2.2 v.2.2.2
  have hgr := gA_rng (n := x.1.length) (isWG (ks.getD v.2.2.2 0)) hv1 hv2
  obtain ⟨w1, w2, w3, w4, w5, w6, w7, w8⟩ := hx.sz
  unfold f_Rm_carryOut fb_Rm_carryOut_0
  obtain ⟨τ, e1, f1, o1, k1, h1⟩ := R_take (v := 119) h (by omega) (by decide)
  rw [kbi_eq e1]
  have c1 := c.frZ f1
  have d1 := d.frF f1.frF
  unfold fb_Rm_carryOut_6 cbA
  by_cases c119 : ks.getD v.2.2.2 0 = 119
  · rw [if_pos c119] at h1
    have hwg : isWG (ks.getD v.2.2.2 0) = true := by
      unfold isWG
      exact decide_eq_true (.inl c119)
    rw [hwg] at hxa hxb hgr
    rw [if_pos c119, if_pos c119, kg_pos (by decide), if_neg (by decide)]
    unfold fb_Rm_carryOut_9
    rw [kbi_eq (R_ended h1.1 h1.2.1 (by omega) h1.2.2 (.inl rfl))]
    unfold fb_Rm_carryOut_13 fb_Rm_carryOut_30 fb_Rm_carryOut_31
    by_cases ce : v.2.2.2 + 1 = ks.length
    · rw [if_pos (show (0 : Int) = 0 ∧ v.2.2.2 + 1 = ks.length from ⟨rfl, ce⟩), kg_pos (by decide), if_neg (by decide)]
      unfold fb_Rm_carryOut_16
      obtain ⟨ω, m1, m2, m3, m4, m5, m6⟩ := R_job (xw := 5) (fs := 0) (a := gA1 v true) (b := gA2 v true x.1.length) (by decide) hxa hxb c1 d1 hD hgr.1 hgr.2 (by omega)
      rw [kbi_eq m1]
      have fu : frU σ ω := f1.frF.u.tr ⟨fun a ha hb => m4 a hb ha, fun c hc => m5 c (by omega), m6⟩
      unfold fb_Rm_carryOut_23 fb_Rm_carryOut_26 fb_Rm_carryOut_30 fb_Rm_carryOut_31
      by_cases z3 : D.2.2.length < 3
      · rw [if_pos z3] at m3
        rw [if_pos z3, kg_pos (by decide), if_neg (by decide), if_pos ⟨ce, z3⟩]
        exact ⟨ω, 2, rfl, fu, .inr (.inl ⟨_, rfl, rfl, m2, m3⟩)⟩
      · rw [if_neg z3] at m3
        rw [if_neg z3, kg_pos (by decide), if_pos rfl, if_neg (fun h => z3 h.2)]
        exact ⟨ω, 0, rfl, fu, .inl ⟨rfl, rfl, ⟨x.1, x.2, m2⟩, m3⟩⟩
    · rw [if_neg (show ¬ ((0 : Int) = 0 ∧ v.2.2.2 + 1 = ks.length) from fun h => ce h.2), kg_pos (by decide), if_pos rfl, if_neg (fun h => ce h.1)]
      exact ⟨τ, 0, rfl, f1.frF.u, .inl ⟨rfl, rfl, ⟨x.1, x.2, c1⟩, d1⟩⟩
  rw [if_neg c119] at h1
  rw [if_neg c119, if_neg c119, kg_pos (by decide), if_pos rfl]
  unfold fb_Rm_carryOut_32
  obtain ⟨υ, e2, f2, o2, k2, h2⟩ := R_take (v := 112) h1 (by omega) (by decide)
  rw [kbi_eq e2]
  have f12 := f1.tr f2
  have c2 := c.frZ f12
  have d2 := d.frF f12.frF
  unfold fb_Rm_carryOut_38
  by_cases c112 : ks.getD v.2.2.2 0 = 112
  · rw [if_pos c112] at h2
    rw [if_pos c112, if_pos c112, kg_pos (by decide), if_neg (by decide)]
    unfold fb_Rm_carryOut_41
    obtain ⟨φ, e3, f3, o3, k3, h3⟩ := R_take (v := 114) h2 (by omega) (by decide)
    rw [kbi_eq e3]
    have f13 := f12.tr f3
    have c3 := c.frZ f13
    have d3 := d.frF f13.frF
    unfold fb_Rm_carryOut_47 fb_Rm_carryOut_88 fb_Rm_carryOut_89
    by_cases c114 : ks.getD (v.2.2.2 + 1) 0 = 114
    · have hk1 := gd_lt c114 (by decide)
      rw [if_pos c114] at h3
      rw [if_pos c114, kg_pos (by decide), if_neg (by decide)]
      unfold fb_Rm_carryOut_50
      obtain ⟨ψ, e4, f4, o4, k4, h4⟩ := R_take (v := 101) h3 (by omega) (by decide)
      rw [kbi_eq e4]
      have f14 := f13.tr f4
      have c4 := c.frZ f14
      have d4 := d.frF f14.frF
      unfold fb_Rm_carryOut_56 fb_Rm_carryOut_88 fb_Rm_carryOut_89
      by_cases c101 : ks.getD (v.2.2.2 + 2) 0 = 101
      · have hk2 := gd_lt c101 (by decide)
        rw [if_pos c101] at h4
        rw [if_pos c101, kg_pos (by decide), if_neg (by decide)]
        unfold fb_Rm_carryOut_59
        rw [kbi_eq (R_ended h4.1 h4.2.1 (by omega) h4.2.2 (.inl rfl))]
        unfold fb_Rm_carryOut_63 fb_Rm_carryOut_88 fb_Rm_carryOut_89
        by_cases ce : ks.length = v.2.2.2 + 3
        · rw [if_pos (show (0 : Int) = 0 ∧ v.2.2.2 + 1 + 1 + 1 = ks.length from ⟨rfl, by omega⟩), kg_pos (by decide), if_neg (by decide)]
          unfold fb_Rm_carryOut_66
          have u22 : ψ 22 0 0 = x.1.length := c4.1.1.2.1
          obtain ⟨ω, m1, m2, m3, m4, m5, m6⟩ := R_job (xw := 6) (xa := 0) (xb := (x.1.length : Int) - 1) (fs := 1) (a := 0) (b := x.1.length - 1) (by decide) rfl (by omega) c4 d4 hD (by omega) (by omega) (by omega)
          rw [u22, kbi_eq m1]
          have fu : frU σ ω := f14.frF.u.tr ⟨fun a ha hb => m4 a hb ha, fun c hc => m5 c (by omega), m6⟩
          unfold fb_Rm_carryOut_81 fb_Rm_carryOut_84 fb_Rm_carryOut_88 fb_Rm_carryOut_89
          by_cases z3 : D.2.2.length < 3
          · rw [if_pos z3] at m3
            rw [if_pos z3, kg_pos (by decide), if_neg (by decide), if_pos ⟨ce, c114, c101, z3⟩]
            exact ⟨ω, 2, rfl, fu, .inr (.inl ⟨_, rfl, rfl, m2, m3⟩)⟩
          · rw [if_neg z3] at m3
            rw [if_neg z3, kg_pos (by decide), if_pos rfl, if_neg (fun h => z3 h.2.2.2)]
            exact ⟨ω, 0, rfl, fu, .inl ⟨rfl, rfl, ⟨x.1, x.2, m2⟩, m3⟩⟩
        · rw [if_neg (show ¬ ((0 : Int) = 0 ∧ v.2.2.2 + 1 + 1 + 1 = ks.length) from fun h => ce (by omega)), kg_pos (by decide), if_pos rfl, if_neg (fun h => ce h.1)]
          exact ⟨ψ, 0, rfl, f14.frF.u, .inl ⟨rfl, rfl, ⟨x.1, x.2, c4⟩, d4⟩⟩
      · rw [if_neg c101, kg_pos (by decide), if_pos rfl, if_neg (fun h => c101 h.2.2.1)]
        exact ⟨ψ, 0, rfl, f14.frF.u, .inl ⟨rfl, rfl, ⟨x.1, x.2, c4⟩, d4⟩⟩
    · rw [if_neg c114, kg_pos (by decide), if_pos rfl, if_neg (fun h => c114 h.2.1)]
      exact ⟨φ, 0, rfl, f13.frF.u, .inl ⟨rfl, rfl, ⟨x.1, x.2, c3⟩, d3⟩⟩
  rw [if_neg c112] at h2
  rw [if_neg c112, if_neg c112, kg_pos (by decide), if_pos rfl]
  unfold fb_Rm_carryOut_90
  obtain ⟨φ, e3, f3, o3, k3, h3⟩ := R_take (v := 103) h2 (by omega) (by decide)
  rw [kbi_eq e3]
  have f13 := f12.tr f3
  have c3 := c.frZ f13
  have d3 := d.frF f13.frF
  unfold fb_Rm_carryOut_96 chP
  by_cases c103 : ks.getD v.2.2.2 0 = 103
  · rw [if_pos c103] at h3
    have hwg : isWG (ks.getD v.2.2.2 0) = true := by
      unfold isWG
      exact decide_eq_true (.inr c103)
    rw [hwg] at hxa hxb hgr
    rw [if_pos c103, if_pos c103, kg_pos (by decide), if_neg (by decide)]
    unfold fb_Rm_carryOut_99
    obtain ⟨ω, y, m1, m2, m3⟩ := R_all hxa hxb c3 hx h3 (by omega) hgr.1 hgr.2
    rw [kbi_eq m1]
    have fu : frU σ ω := f13.frF.u.tr m2.u
    have dw := d3.frF m2
    unfold fb_Rm_carryOut_105 fb_Rm_carryOut_108 fb_Rm_carryOut_112 fb_Rm_carryOut_113
    -- the two readings agree
    have habs : ((if ks.getD (v.2.2.2 + 1) 0 = 47 then (dlA ks (v.2.2.2 + 1)).elim none fun d => (ccP ks d.2).map fun c => (some d.1, c) else none : Option (Option Pt × Option Ex)).elim none fun u => (chgA ks u.1 u.2 (gA1 v u.1.isSome) (gA2 v u.1.isSome x.1.length) x bf).map fun r => (((r.1, some x, r.2), D) : (Tc × Option Tc × Int × Tx) × kDk)) = (if ks.getD (v.2.2.2 + 1) 0 = 47 then (dlA ks (v.2.2.2 + 1)).elim none fun d => (ccP ks d.2).elim none fun e => chgA ks (some d.1) e (gA1 v true) (gA2 v true x.1.length) x bf else none).map fun r => ((r.1, some x, r.2), D) := by
      split
      · cases dlA ks (v.2.2.2 + 1) with
        | none => rfl
        | some d =>
          show Option.elim ((ccP ks d.2).map fun c => (some d.1, c)) none _ = Option.map _ ((ccP ks d.2).elim none _)
          cases ccP ks d.2 with
          | none => rfl
          | some e => rfl
      · rfl
    rw [habs]
    rcases m3 with ⟨en, rfl, hT'⟩ | ⟨r, er, rfl, cr⟩
    · rw [en, kg_pos (by decide), if_pos rfl]
      exact ⟨ω, 0, rfl, fu, .inl ⟨rfl, rfl, hT', dw⟩⟩
    · rw [er, kg_pos (by decide), if_neg (by decide)]
      exact ⟨ω, 3, rfl, fu, .inr (.inr ⟨r, rfl, rfl, cr, dw⟩)⟩
  · rw [if_neg c103] at h3
    have hwg : isWG (ks.getD v.2.2.2 0) = false := by
      unfold isWG
      exact decide_eq_false (fun h => h.elim c119 c103)
    rw [hwg] at hxa hxb hgr
    rw [if_neg c103, if_neg c103, kg_pos (by decide), if_pos rfl]
    unfold fb_Rm_carryOut_114
    rw [kbi_eq (R_see h3 (by omega))]
    unfold fb_Rm_carryOut_122
    obtain ⟨c4, f4⟩ := c3.f9 (j := 31) (v := 0) (by decide)
    have R4 : RLs ks (kup φ 9 0 31 0) v.2.2.2 := h3
    have a31 : kup φ 9 0 31 0 9 0 31 = 0 := kup_self _ _ _ _ _
    generalize kup φ 9 0 31 0 = ψ at c4 f4 R4 a31
    obtain ⟨ω, y, m1, m2, m3⟩ := R_one (cu0 := x.2) (ch := none) (T := x.1) hxa hxb c4 R4 (by omega) (fun _ _ => hx.1) (fun p hp => nomatch hp) hgr.1 hgr.2
    rw [kbi_eq m1]
    have ff : frF σ ω := (f13.frF.tr f4).tr m2.1
    have dw := d.frF ff
    unfold fb_Rm_carryOut_134 fb_Rm_carryOut_137 fb_Rm_carryOut_143 fb_Rm_carryOut_150 fb_Rm_carryOut_154 fb_Rm_carryOut_155
    have habs : (((ccP ks v.2.2.2).map fun c => ((none : Option Pt), c)).elim none fun u => (chgA ks u.1 u.2 (gA1 v u.1.isSome) (gA2 v u.1.isSome x.1.length) x bf).map fun r => (((r.1, some x, r.2), D) : (Tc × Option Tc × Int × Tx) × kDk)) = (ccP ks v.2.2.2).elim none fun e => (chgA ks none e (gA1 v false) (gA2 v false x.1.length) x bf).map fun r => ((r.1, some x, r.2), D) := by
      cases ccP ks v.2.2.2 <;> rfl
    rw [habs]
    have hnn : ¬ (nts ks none x.1 (gA1 v false) (gA2 v false x.1.length)).length = 0 := nts_all hgr.1
    rcases m3 with ⟨en, rfl, cn⟩ | ⟨en, rfl, cn, -⟩ | ⟨ev, hv, hr3⟩
    · rw [en, kg_pos (by decide), if_pos rfl]
      exact ⟨ω, 0, rfl, ff.u, .inl ⟨rfl, rfl, ⟨x.1, x.2, cn⟩, dw⟩⟩
    · rw [en, kg_pos (by decide), if_neg (by decide), kg_pos (by omega)]
      have h100 : ks.getD v.2.2.2 0 = 100 ∨ ks.getD v.2.2.2 0 ≠ 115 := by
        unfold ccP at en
        split at en
        · left
          assumption
        · split at en
          · exfalso
            cases hee : exP ks (v.2.2.2 + 1) with
            | none =>
              rw [hee] at en
              exact nomatch en
            | some u =>
              rw [hee] at en
              have : (if u.2 = ks.length then some (some u.1) else none) = some (none : Option Ex) := en
              split at this
              · exact nomatch this
              · exact nomatch this
          · exact nomatch en
      rw [if_neg (by omega)]
      refine ⟨ω, 3, rfl, ff.u, .inr (.inr ⟨(dropX x.1 (gA1 v false) (gA2 v false x.1.length), (((gA2 v false x.1.length : Nat) : Int) - (gA1 v false : Nat) + 1, slc x.1 (gA1 v false) (gA2 v false x.1.length + 1))), ?_, rfl, cn, dw⟩)⟩
      show Option.map _ (chgA ks none none (gA1 v false) (gA2 v false x.1.length) x bf) = _
      unfold chgA
      rw [if_neg hnn]
      rfl
    · have h115 : ks.getD v.2.2.2 0 = 115 := by
        unfold ccP at hv
        split at hv
        · split at hv
          · exact nomatch hv
          · exact nomatch hv
        · split at hv
          · assumption
          · exact nomatch hv
      rw [hv]
      show ∃ σ' y', _ ∧ _ ∧ (Option.map _ (chgA ks none (some ev) (gA1 v false) (gA2 v false x.1.length) x bf) = none ∧ _ ∨ (∃ D', Option.map _ (chgA ks none (some ev) (gA1 v false) (gA2 v false x.1.length) x bf) = some ((x, o, bf), D') ∧ _) ∨ ∃ z : Tc × Int × Tx, Option.map _ (chgA ks none (some ev) (gA1 v false) (gA2 v false x.1.length) x bf) = some ((z.1, some x, z.2), D) ∧ _)
      have hchg : chgA ks none (some ev) (gA1 v false) (gA2 v false x.1.length) x bf = (exF (lnB ks ev.1 ev.2.1 ev.2.2.1 ev.2.2.2) (ntL (fun _ => true) (gA1 v false) (gA2 v false x.1.length + 1 - gA1 v false)) (x.1, none)).elim none fun r => if r.2.isNone && true then none else some ((r.1, r.2.elim x.2 fun p => ((p : Int), 0)), bf) := by
        unfold chgA
        rw [if_neg hnn]
        rfl
      rw [hchg]
      rcases hr3 with ⟨en, rfl, hT'⟩ | ⟨r, er, rfl, cr, r1, r2, r3, r4, dd, dd1, dd2, dd3, dd4⟩
      · rw [en, kg_pos (by decide), if_pos rfl]
        exact ⟨ω, 0, rfl, ff.u, .inl ⟨rfl, rfl, hT', dw⟩⟩
      · rw [er, kg_pos (by decide), if_neg (by decide), kg_pos (by omega), if_pos h115, dd1, a31, kg_pos (by omega)]
        show ∃ σ' y', _ ∧ _ ∧ (Option.map _ (if r.2.isNone && true then none else some ((r.1, r.2.elim x.2 fun p => ((p : Int), 0)), bf)) = none ∧ _ ∨ (∃ D', Option.map _ (if r.2.isNone && true then none else some ((r.1, r.2.elim x.2 fun p => ((p : Int), 0)), bf)) = some ((x, o, bf), D') ∧ _) ∨ ∃ z : Tc × Int × Tx, Option.map _ (if r.2.isNone && true then none else some ((r.1, r.2.elim x.2 fun p => ((p : Int), 0)), bf)) = some ((z.1, some x, z.2), D) ∧ _)
        by_cases hd0 : dd = 0
        · rw [if_pos (by omega), show r.2 = none from dd3 hd0]
          refine ⟨ω, 0, rfl, ff.u, .inl ⟨rfl, rfl, ⟨r.1, _, cr⟩, dw⟩⟩
        · rw [if_neg (by omega)]
          have hsn : r.2.isNone = false := by
            cases hr2 : r.2 with
            | none => exact absurd hr2 (dd4 hd0)
            | some p => rfl
          rw [hsn, Bool.false_and, if_neg Bool.false_ne_true]
          exact ⟨ω, 3, rfl, ff.u, .inr (.inr ⟨_, rfl, rfl, cr, dw⟩)⟩
/-- a COMMAND line, the reference's side -/
theorem R_line {x : Tc} {σ : kS} (c : RE2 g B (x, o, bf, q, md, l) σ) (d : RD D σ) (hD : D.2.2.length ≤ 3) (hx : wfX x) (hy : TyR ks σ) : ∃ σ' y, f_Rm_line σ = some (some y, σ') ∧ frU σ σ' ∧ ((caA ks x o bf D = none ∧ y = 0 ∧ (∃ T' cu', RE2 g B ((T', cu'), o, bf, q, md, l) σ') ∧ RD D σ') ∨ (∃ x' D', caA ks x o bf D = some ((x', o, bf), D') ∧ y = 2 ∧ RE2 g B (x', o, bf, q, md, l) σ' ∧ RD D' σ') ∨ ∃ z : Tc × Int × Tx, caA ks x o bf D = some ((z.1, some x, z.2), D) ∧ y = 3 ∧ RE2 g B (z.1, o, z.2, q, md, l) σ' ∧ RD D σ') := by
  have hl := hy.2.2.1
  obtain ⟨w1, w2, w3, w4, w5, w6, w7, w8⟩ := hx.sz
  rw [caA_eq]
  unfold f_Rm_line fb_Rm_line_0
  have f1 : frZ σ (kup (kup σ 9 0 22 0) 9 0 23 0) := (frZ.rfl.kup (by decide)).kup (by decide)
  have R1 : RLs ks (kup (kup σ 9 0 22 0) 9 0 23 0) 0 := ⟨hy.frZ f1, rfl, rfl⟩
  have c1 := c.frZ f1
  have d1 := d.frF f1.frF
  have e20 : kup (kup σ 9 0 22 0) 9 0 23 0 9 0 20 = ks.length := R1.1.1
  rw [e20, kg_pos (by omega)]
  generalize kup (kup σ 9 0 22 0) 9 0 23 0 = τ at f1 R1 c1 d1
  by_cases h0 : ks.length = 0
  · rw [if_pos (by omega), if_pos h0]
    exact ⟨τ, 2, rfl, f1.frF.u, .inr (.inl ⟨x, D, rfl, rfl, c1, d1⟩)⟩
  rw [if_neg (by omega), if_neg h0]
  obtain ⟨υ, f2, hr⟩ := R_range hx c1.1.1 R1
  have f12 := f1.tr f2
  have c2 := c.frZ f12
  have d2 := d.frF f12.frF
  rcases hr with ⟨hn, e2⟩ | ⟨v, hv, e2, R2, hv1, hv2, hv3⟩
  · rw [hn, e2]
    exact ⟨υ, 0, rfl, f12.frF.u, .inl ⟨rfl, rfl, ⟨x.1, x.2, c2⟩, d2⟩⟩
  rw [hv, e2]
  have hle := rgA_le hv
  show ∃ σ' y, _ ∧ _ ∧ ((if ks.getD v.2.2.2 0 = 0 then some (((x.1, (v.2.2.1 : Int), 0), o, bf), D) else cbA ks v x o bf D) = none ∧ _ ∨ (∃ x' D', (if ks.getD v.2.2.2 0 = 0 then some (((x.1, (v.2.2.1 : Int), 0), o, bf), D) else cbA ks v x o bf D) = some ((x', o, bf), D') ∧ _) ∨ ∃ z : Tc × Int × Tx, (if ks.getD v.2.2.2 0 = 0 then some (((x.1, (v.2.2.1 : Int), 0), o, bf), D) else cbA ks v x o bf D) = some ((z.1, some x, z.2), D) ∧ _)
  unfold fb_Rm_line_136
  rw [R2.2.1, R2.1.1, kg_pos (by omega)]
  by_cases he : v.2.2.2 = ks.length
  · rw [if_pos (show ((v.2.2.2 : Nat) : Int) = (ks.length : Int) by omega), if_pos (gd_ge ks 0 (by omega))]
    unfold fb_Rm_line_147 fb_Rm_line_155
    obtain ⟨ω, e3, c3, f3⟩ := SR.place (g := g) (B := B) (x := x) (o := o) (b := bf) (q := q) (m := md) (l := l) (r := (v.2.2.1 : Int) + 1 - 1) (c := 0) υ c2
    rw [kbu_eq e3]
    rw [show (v.2.2.1 : Int) + 1 - 1 = v.2.2.1 by omega] at c3
    exact ⟨ω, 2, rfl, f12.frF.u.tr f3.u, .inr (.inl ⟨_, D, rfl, rfl, c3, d2.frF f3⟩)⟩
  · have hkl : v.2.2.2 < ks.length := by omega
    have hm := gd_mem (ks := ks) (k := v.2.2.2) hkl
    have hch := hy.2.2.2 _ hm
    have h00 : ks.getD v.2.2.2 0 ≠ 0 := by omega
    rw [if_neg (show ¬ ((v.2.2.2 : Nat) : Int) = (ks.length : Int) by omega), if_neg h00]
    have u22 : υ 22 0 0 = x.1.length := c2.1.1.2.1
    have h01 := b2_01 v.1
    obtain ⟨x4, e157⟩ : ∃ x4 : Int, fb_Rm_line_157 ((v.2.1 : Int) + 1) ((v.2.2.1 : Int) + 1) (b2 v.1) υ = fb_Rm_line_226 ((v.2.1 : Int) + 1) ((v.2.2.1 : Int) + 1) (b2 v.1) x4 ((gA2 v (isWG (ks.getD v.2.2.2 0)) x.1.length : Nat) : Int) ((gA1 v (isWG (ks.getD v.2.2.2 0)) : Nat) : Int) υ := by
      have e191 : gA1 v (isWG (ks.getD v.2.2.2 0)) = v.2.1 → gA2 v (isWG (ks.getD v.2.2.2 0)) x.1.length = v.2.2.1 → fb_Rm_line_191 ((v.2.1 : Int) + 1) ((v.2.2.1 : Int) + 1) (b2 v.1) υ = fb_Rm_line_226 ((v.2.1 : Int) + 1) ((v.2.2.1 : Int) + 1) (b2 v.1) 0 ((gA2 v (isWG (ks.getD v.2.2.2 0)) x.1.length : Nat) : Int) ((gA1 v (isWG (ks.getD v.2.2.2 0)) : Nat) : Int) υ := by
        intro q1 q2
        rw [q1, q2]
        unfold fb_Rm_line_191 fb_Rm_line_192 fb_Rm_line_204 fb_Rm_line_207 fb_Rm_line_223
        rw [kg_pos (by decide), if_pos rfl, kg_pos (by decide), if_pos rfl, show (v.2.2.1 : Int) + 1 - 1 = v.2.2.1 by omega, show (v.2.1 : Int) + 1 - 1 = v.2.1 by omega]
      have e187 : gA1 v (isWG (ks.getD v.2.2.2 0)) = 0 → gA2 v (isWG (ks.getD v.2.2.2 0)) x.1.length = x.1.length - 1 → fb_Rm_line_187 ((v.2.1 : Int) + 1) ((v.2.2.1 : Int) + 1) (b2 v.1) υ = fb_Rm_line_226 ((v.2.1 : Int) + 1) ((v.2.2.1 : Int) + 1) (b2 v.1) 1 ((gA2 v (isWG (ks.getD v.2.2.2 0)) x.1.length : Nat) : Int) ((gA1 v (isWG (ks.getD v.2.2.2 0)) : Nat) : Int) υ := by
        intro q1 q2
        rw [q1, q2]
        unfold fb_Rm_line_187 fb_Rm_line_192 fb_Rm_line_200 fb_Rm_line_207 fb_Rm_line_212
        rw [kg_pos (by decide), if_neg (by decide), kg_pos (by decide), if_neg (by decide), u22, show ((x.1.length - 1 : Nat) : Int) = (x.1.length : Int) - 1 by omega]
        rfl
      unfold fb_Rm_line_157 fb_Rm_line_161
      rw [kg_pos (by omega)]
      cases hv0 : v.1 with
      | true =>
        rw [if_neg (show ¬ b2 true = 0 by decide)]
        rw [hv0] at e191
        exact ⟨0, e191 (by unfold gA1; rw [hv0, Bool.not_true, Bool.and_false]; rfl) (by unfold gA2; rw [hv0, Bool.not_true, Bool.and_false]; rfl)⟩
      | false =>
        rw [hv0] at e191 e187
        rw [if_pos (show b2 false = 0 from rfl), kbi_eq (R_see R2 (by omega))]
        unfold fb_Rm_line_169 fb_Rm_line_174
        rw [kg_pos (by omega)]
        by_cases c119 : ks.getD v.2.2.2 0 = 119
        · rw [if_pos c119]
          have hwg : isWG (ks.getD v.2.2.2 0) = true := by
            unfold isWG
            exact decide_eq_true (.inl c119)
          exact ⟨1, e187 (by unfold gA1; rw [hv0, hwg]; rfl) (by unfold gA2; rw [hv0, hwg]; rfl)⟩
        · rw [if_neg c119, kbi_eq (R_see R2 (by omega))]
          unfold fb_Rm_line_182
          rw [kg_pos (by omega)]
          by_cases c103 : ks.getD v.2.2.2 0 = 103
          · rw [if_pos c103]
            have hwg : isWG (ks.getD v.2.2.2 0) = true := by
              unfold isWG
              exact decide_eq_true (.inr c103)
            exact ⟨1, e187 (by unfold gA1; rw [hv0, hwg]; rfl) (by unfold gA2; rw [hv0, hwg]; rfl)⟩
          · rw [if_neg c103]
            have hwg : isWG (ks.getD v.2.2.2 0) = false := by
              unfold isWG
              exact decide_eq_false (fun h => h.elim c119 c103)
            exact ⟨0, e191 (by unfold gA1; rw [hwg, Bool.false_and]; rfl) (by unfold gA2; rw [hwg, Bool.false_and]; rfl)⟩
    rw [e157]
    unfold fb_Rm_line_226
    obtain ⟨ω, y, m1, m2, m3⟩ := R_carry (v := v) rfl rfl c2 d2 hD hx R2 hkl h00 hv1 hv2
    rw [kbi_eq m1]
    refine ⟨ω, y, rfl, f12.frF.u.tr m2, ?_⟩
    rcases m3 with m3 | ⟨D', q1, q2, q3, q4⟩ | m3
    · exact .inl m3
    · exact .inr (.inl ⟨x, D', q1, q2, q3, q4⟩)
    · exact .inr (.inr m3)
end
