/-! Pure: the reference's operate and simple. -/
def chR (A : kEd) (i j : Int) : Int × kEd := if i < j then opCr A i.toNat j.toNat else (0, A)
def lnR (A : kEd) (i j : Int) : Int × kEd := opLr A i.toNat j.toNat
def oprR (A : kEd) (c p : Int) : Int × kEd :=
  if c = 36 then (if p < 0 then (0, A) else chR A A.1.2.2 (ln A.1.1 A.1.2.1.toNat).length)
  else if c = 48 then (if p < 0 then (0, A) else chR A 0 A.1.2.2)
  else if c = 71 ∨ c = 106 ∨ c = 107 then (if p < 0 then (0, A) else lnR A (min A.1.2.1 (p / 32)) (max A.1.2.1 (p / 32)))
  else if c = 98 then (if 0 ≤ p ∧ p / 32 = A.1.2.1 then chR A (p % 32) A.1.2.2 else (0, A))
  else if c = 104 then chR A (max 0 (A.1.2.2 - max 1 A.2.2.2.1.2.1)) A.1.2.2
  else if c = 108 then chR A A.1.2.2 (min (ln A.1.1 A.1.2.1.toNat).length (A.1.2.2 + max 1 A.2.2.2.1.2.1))
  else if c = 119 then chR A A.1.2.2 (if 0 ≤ p ∧ p / 32 = A.1.2.1 then p % 32 else (ln A.1.1 A.1.2.1.toNat).length)
  else if c = A.2.2.2.1.1 ∧ A.1.2.1 + max 1 A.2.2.2.1.2.1 ≤ A.1.1.length then lnR A A.1.2.1 (A.1.2.1 + max 1 A.2.2.2.1.2.1 - 1)
  else (0, A)
theorem SR.chR1 {g : Int} {B : Option Tc} {x : Tc} {o : Option Tc} {b : Int × Tx} {q : Qd} {s : Int × Int} {l : Int × List Int} {i j : Int} (hi : 0 ≤ i ∧ i ≤ 1000) (hj : 0 ≤ j) (hx : wfX x) (hjl : j ≤ (ln x.1 x.2.1.toNat).length) (hop : isOp q.1) : SR g B (f_Rm_characters i j) (some (chR (x, o, b, q, (0, s.1, s.2, []), l) i j).1) (x, o, b, q, (0, s.1, s.2, []), l) (chR (x, o, b, q, (0, s.1, s.2, []), l) i j).2 := by
  unfold chR
  by_cases h : i < j
  · rw [if_pos h]
    exact SR.opC (by omega) (by omega) (by omega) hx (by omega) hop
  · rw [if_neg h]
    have := hx.sz.1
    exact SR.opC0 (by omega) (by omega) (by omega)
theorem SR.sTo {g : Int} {B : Option Tc} {A : kEd} {f : kS → kRes} {k : Int → kS → kRes} {z : Int} {r : Option Int} {A' : kEd} (h : ∀ σ, RE2 g B A σ → ToS (f σ) σ z) (h0 : z = -1 → SR g B (k 0) r A A') (h1 : ∀ u v : Int, 0 ≤ u → 0 ≤ v → v < 32 → z = 32 * u + v → ∀ σ, RE2 g B A σ → σ 9 0 16 = u → σ 9 0 17 = v → ∃ σ', k 1 σ = some (r, σ') ∧ RE2 g B A' σ' ∧ frF σ σ') : SR g B (fun σ => kbi (f σ) k) r A A' := by
  intro σ c
  obtain ⟨y, u, v, e, hy⟩ := h σ c
  obtain ⟨c1, f1⟩ := c.sTo (u := u) (v := v)
  dsimp only
  rw [kbi_eq e]
  rcases hy with ⟨rfl, hz⟩ | ⟨rfl, hu, hv, hv2, hz⟩
  · obtain ⟨σ', y1, y2, y3⟩ := h0 hz _ c1
    exact ⟨σ', y1, y2, f1.tr y3⟩
  · obtain ⟨σ', y1, y2, y3⟩ := h1 u v hu hv hv2 hz _ c1 rfl rfl
    exact ⟨σ', y1, y2, f1.tr y3⟩
theorem SR.opr {g : Int} {B : Option Tc} {x : Tc} {o : Option Tc} {b : Int × Tx} {q : Qd} {s : Int × Int} {l : Int × List Int} {c m : Int} (hc : 0 ≤ c ∧ c ≤ 126) (hx : wfX x) (hon : onC x) (hop : isOp q.1) (hn : 0 ≤ q.2.1 ∧ q.2.1 ≤ 99) (hd : 0 ≤ q.2.2.1 ∧ q.2.2.1 ≤ 2 ∧ (q.2.2.1 = 0 ↔ q.2.1 = 0)) (hm : m = max 1 q.2.1) : SR g B (f_Rm_operate c m) (some (oprR (x, o, b, q, (0, s.1, s.2, []), l) c (lead x c q.2.1)).1) (x, o, b, q, (0, s.1, s.2, []), l) (oprR (x, o, b, q, (0, s.1, s.2, []), l) c (lead x c q.2.1)).2 := by
  have ho : -1000 ≤ q.1 ∧ q.1 ≤ 1000 := by
    unfold isOp at hop
    omega
  have hop' := hop
  unfold isOp at hop'
  obtain ⟨w1, w2, w3, w4, w5, w6, w7, w8⟩ := hx.sz
  have hlr := lead_r (c := c) hx hn
  have g8 : ∀ {σ}, RE2 g B (x, o, b, q, (0, s.1, s.2, []), l) σ → σ 9 0 8 = q.1 := fun k => k.1.2.2.2.1.1
  have g10 : ∀ {σ}, RE2 g B (x, o, b, q, (0, s.1, s.2, []), l) σ → σ 9 0 10 = q.2.2.1 := fun k => k.1.2.2.2.1.2.2.1
  have g23 : ∀ {σ}, RE2 g B (x, o, b, q, (0, s.1, s.2, []), l) σ → σ 23 0 0 = x.2.1 := fun k => k.1.1.2.2.1
  have g24 : ∀ {σ}, RE2 g B (x, o, b, q, (0, s.1, s.2, []), l) σ → σ 24 0 0 = x.2.2 := fun k => k.1.1.2.2.2
  have g22 : ∀ {σ}, RE2 g B (x, o, b, q, (0, s.1, s.2, []), l) σ → σ 22 0 0 = x.1.length := fun k => k.1.1.2.1
  have g21 : ∀ {σ}, RE2 g B (x, o, b, q, (0, s.1, s.2, []), l) σ → σ 21 0 x.2.1.toNat = (ln x.1 x.2.1.toNat).length := fun k => Q_sz (T := x.1) w8.symm k.1.1.1 w2
  have hL : ∀ i j : Int, 0 ≤ i → i ≤ j → j < x.1.length → SR g B (f_Rm_wholeLines i j) (some (lnR (x, o, b, q, (0, s.1, s.2, []), l) i j).1) (x, o, b, q, (0, s.1, s.2, []), l) (lnR (x, o, b, q, (0, s.1, s.2, []), l) i j).2 := fun i j h1 h2 h3 => SR.opL (by omega) (by omega) (by omega) (by omega) w3 hop
  have hC : ∀ i j : Int, 0 ≤ i → i ≤ 1000 → 0 ≤ j → j ≤ (ln x.1 x.2.1.toNat).length → SR g B (f_Rm_characters i j) (some (chR (x, o, b, q, (0, s.1, s.2, []), l) i j).1) (x, o, b, q, (0, s.1, s.2, []), l) (chR (x, o, b, q, (0, s.1, s.2, []), l) i j).2 := fun i j h1 h2 h3 h4 => SR.chR1 ⟨h1, h2⟩ h3 hx h4 hop
  have hmot : (c = 36 ∨ c = 48 → q.2.1 = 0) → ∀ σ, RE2 g B (x, o, b, q, (0, s.1, s.2, []), l) σ → ToS (f_Rm_motion c m σ) σ (lead x c q.2.1) := fun h0 σ k => R_motion k.1.1 hx hon (g10 k) hd hc hn hm h0
  unfold oprR
  dsimp only
  -- the operator itself
  by_cases e0 : c = q.1
  · rw [if_neg (by omega), if_neg (by omega), if_neg (by omega), if_neg (by omega), if_neg (by omega), if_neg (by omega), if_neg (by omega)]
    by_cases h1 : x.2.1 + max 1 q.2.1 ≤ x.1.length
    · rw [if_pos ⟨e0, h1⟩]
      refine SR.cg (f := fun σ => kbi (f_Rm_wholeLines x.2.1 (x.2.1 + m - 1) σ) fun y σ1 => fb_Rm_operate_41 c m x.2.1 y σ1) ?_ fun σ k => ?_
      · rw [← hm]
        exact SR.i (hL _ _ (by omega) (by omega) (by omega)) SR.ret
      · unfold f_Rm_operate fb_Rm_operate_0
        rw [g8 k, g23 k, kg_pos (by omega), if_pos e0]
        unfold fb_Rm_operate_15
        rw [g22 k, kg_pos (by omega), if_pos (by omega)]
        rfl
    · rw [if_neg (fun z => h1 z.2)]
      refine SR.read fun σ k => ?_
      unfold f_Rm_operate fb_Rm_operate_0
      rw [g8 k, g23 k, kg_pos (by omega), if_pos e0]
      unfold fb_Rm_operate_15
      rw [g22 k, kg_pos (by omega), if_neg (by omega)]
      rfl
  have e42 : ∀ {σ}, RE2 g B (x, o, b, q, (0, s.1, s.2, []), l) σ → f_Rm_operate c m σ = fb_Rm_operate_42 c m x.2.1 σ := fun {σ} k => by
    unfold f_Rm_operate fb_Rm_operate_0
    rw [g8 k, g23 k, kg_pos (by omega), if_neg e0]
  have hI : -2147483648 ≤ c ∧ c < 2147483648 := by omega
  by_cases c0 : c = 36 ∨ c = 48
  · by_cases hz : q.2.2.1 = 0
    · have hn0 : q.2.1 = 0 := by omega
      have hl0 : ¬ lead x c q.2.1 < 0 := by
        unfold lead
        rcases c0 with h | h
        · rw [if_pos h, if_pos (by omega)]
          omega
        · rw [if_neg (by omega), if_pos h, if_pos (by omega)]
          omega
      have e63 : ∀ {σ}, RE2 g B (x, o, b, q, (0, s.1, s.2, []), l) σ → f_Rm_operate c m σ = fb_Rm_operate_63 c m x.2.1 σ := fun {σ} k => by
        rw [e42 k]
        unfold fb_Rm_operate_42 fb_Rm_operate_48 fb_Rm_operate_54
        rw [g10 k]
        rcases c0 with h | h
        · rw [kg_pos hI, if_neg (by omega), kg_pos hI, if_pos h, kg_pos (by omega), if_pos (by omega)]
        · rw [kg_pos hI, if_pos h, kg_pos (by omega), if_pos (by omega)]
      by_cases h1 : c = 36
      · rw [if_pos h1, if_neg hl0]
        refine SR.cg (f := fun σ => kbi (f_Rm_characters x.2.2 (ln x.1 x.2.1.toNat).length σ) fun y σ1 => fb_Rm_operate_99 c m x.2.1 y σ1) (SR.i (hC _ _ (by omega) (by omega) (by omega) (by omega)) SR.ret) fun σ k => ?_
        rw [e63 k]
        unfold fb_Rm_operate_63 fb_Rm_operate_83
        rw [kg_pos hI, if_neg (by omega), kg_pos (by omega), g24 k, g21 k]
      · rw [if_neg h1, if_pos (by omega), if_neg hl0]
        refine SR.cg (f := fun σ => kbi (f_Rm_characters 0 x.2.2 σ) fun y σ1 => fb_Rm_operate_80 c m x.2.1 y σ1) (SR.i (hC _ _ (by omega) (by omega) (by omega) (by omega)) SR.ret) fun σ k => ?_
        rw [e63 k]
        unfold fb_Rm_operate_63 fb_Rm_operate_69
        rw [kg_pos hI, if_pos (by omega), g24 k]
    · have hl0 : lead x c q.2.1 < 0 := by
        unfold lead
        rcases c0 with h | h
        · rw [if_pos h, if_neg (by omega)]
          decide
        · rw [if_neg (by omega), if_pos h, if_neg (by omega)]
          decide
      have e : (if c = 36 then (if lead x c q.2.1 < 0 then ((0 : Int), (x, o, b, q, (0, s.1, s.2, []), l)) else chR (x, o, b, q, (0, s.1, s.2, []), l) x.2.2 (ln x.1 x.2.1.toNat).length) else if c = 48 then (if lead x c q.2.1 < 0 then ((0 : Int), (x, o, b, q, (0, s.1, s.2, []), l)) else chR (x, o, b, q, (0, s.1, s.2, []), l) 0 x.2.2) else (0, (x, o, b, q, (0, s.1, s.2, []), l)) : Int × kEd) = (0, (x, o, b, q, (0, s.1, s.2, []), l)) := by
        rw [if_pos hl0, if_pos hl0]
        split
        · rfl
        · exact ite_self _
      have hr : SR g B (f_Rm_operate c m) (some 0) (x, o, b, q, (0, s.1, s.2, []), l) (x, o, b, q, (0, s.1, s.2, []), l) := SR.read fun σ k => by
        rw [e42 k]
        unfold fb_Rm_operate_42 fb_Rm_operate_48 fb_Rm_operate_54 fb_Rm_operate_61
        rw [g10 k]
        rcases c0 with h | h
        · rw [kg_pos hI, if_neg (by omega), kg_pos hI, if_pos h, kg_pos (by omega), if_neg (by omega)]
        · rw [kg_pos hI, if_pos h, kg_pos (by omega), if_neg (by omega)]
      by_cases h1 : c = 36
      · rw [if_pos h1, if_pos hl0]
        exact hr
      · rw [if_neg h1, if_pos (by omega), if_pos hl0]
        exact hr
  have hm' := hmot (fun h => absurd h c0)
  rw [if_neg (by omega), if_neg (by omega)]
  have e100 : ∀ {σ}, RE2 g B (x, o, b, q, (0, s.1, s.2, []), l) σ → f_Rm_operate c m σ = (if c = 71 ∨ c = 106 ∨ c = 107 then fb_Rm_operate_118 c m x.2.1 σ else if c = 98 then fb_Rm_operate_263 c m x.2.1 σ else if c = 104 then fb_Rm_operate_165 c m x.2.1 σ else if c = 108 then fb_Rm_operate_204 c m x.2.1 σ else if c = 119 then fb_Rm_operate_263 c m x.2.1 σ else some (some 0, σ)) := fun {σ} k => by
    rw [e42 k]
    unfold fb_Rm_operate_42 fb_Rm_operate_48 fb_Rm_operate_100 fb_Rm_operate_106 fb_Rm_operate_112 fb_Rm_operate_159 fb_Rm_operate_198 fb_Rm_operate_249 fb_Rm_operate_255 fb_Rm_operate_261
    simp only [kg_pos hI]
    rw [if_neg (by omega), if_neg (by omega)]
    repeat' split
    all_goals first | rfl | (exfalso; omega)
  by_cases h3 : c = 71 ∨ c = 106 ∨ c = 107
  · rw [if_pos h3]
    refine SR.cg (f := fb_Rm_operate_118 c m x.2.1) ?_ fun σ k => by rw [e100 k, if_pos h3]
    unfold fb_Rm_operate_118
    refine SR.sTo hm' (fun h => ?_) (fun u v hu hv hv2 hz σ k k16 k17 => ?_)
    · rw [if_pos (by omega)]
      refine SR.read fun σ k => ?_
      unfold fb_Rm_operate_124
      rw [kg_pos (by decide), if_pos rfl]
      rfl
    · rw [if_neg (by omega)]
      have hu2 : lead x c q.2.1 / 32 = u := by omega
      rw [hu2]
      unfold fb_Rm_operate_124
      rw [kg_pos (by decide), if_neg (by decide)]
      unfold fb_Rm_operate_129
      rw [k16, kg_pos (by omega)]
      by_cases h4 : x.2.1 ≤ u
      · rw [if_pos h4]
        unfold fb_Rm_operate_149
        rw [k16, show min x.2.1 u = x.2.1 by omega, show max x.2.1 u = u by omega]
        exact SR.i (k := fun y σ1 => fb_Rm_operate_158 c m x.2.1 y σ1) (hL x.2.1 u (by omega) h4 (by omega)) SR.ret σ k
      · rw [if_neg h4]
        unfold fb_Rm_operate_137
        rw [k16, show min x.2.1 u = u by omega, show max x.2.1 u = x.2.1 by omega]
        exact SR.i (k := fun y σ1 => fb_Rm_operate_146 c m x.2.1 y σ1) (hL u x.2.1 (by omega) (by omega) (by omega)) SR.ret σ k
  rw [if_neg h3]
  by_cases h4 : c = 98
  · rw [if_pos h4]
    refine SR.cg (f := fb_Rm_operate_263 c m x.2.1) ?_ fun σ k => by rw [e100 k, if_neg h3, if_pos h4]
    unfold fb_Rm_operate_263
    refine SR.sTo hm' (fun h => ?_) (fun u v hu hv hv2 hz σ k k16 k17 => ?_)
    · rw [if_neg (by omega)]
      refine SR.read fun σ k => ?_
      unfold fb_Rm_operate_269 fb_Rm_operate_284 fb_Rm_operate_285 fb_Rm_operate_322
      rw [kg_pos (by decide), if_pos rfl, kg_pos hI, if_neg (by omega), kg_pos (by decide), if_pos rfl]
      rfl
    · unfold fb_Rm_operate_269
      rw [kg_pos (by decide), if_neg (by decide)]
      unfold fb_Rm_operate_272
      rw [k16, kg_pos (by omega)]
      have hw := lead_wb (x := x) (n := q.2.1) (.inr h4) (by omega)
      by_cases h5 : u = x.2.1
      · rw [if_pos h5, if_pos (by omega)]
        unfold fb_Rm_operate_280 fb_Rm_operate_285 fb_Rm_operate_322 fb_Rm_operate_327
        rw [kg_pos hI, if_neg (by omega), kg_pos (by decide), if_neg (by decide), k17, g24 k, show lead x c q.2.1 % 32 = v by omega]
        exact SR.i (k := fun y σ1 => fb_Rm_operate_341 c m x.2.1 1 y σ1) (hC v x.2.2 (by omega) (by omega) (by omega) (by omega)) SR.ret σ k
      · rw [if_neg h5, if_neg (by omega)]
        refine ⟨σ, ?_, k, frF.rfl⟩
        unfold fb_Rm_operate_284 fb_Rm_operate_285 fb_Rm_operate_322
        rw [kg_pos hI, if_neg (by omega), kg_pos (by decide), if_pos rfl]
        rfl
  rw [if_neg h4]
  by_cases h5 : c = 104
  · rw [if_pos h5]
    refine SR.cg (f := fun σ => kbi (f_Rm_characters (max 0 (x.2.2 - max 1 q.2.1)) x.2.2 σ) fun y σ1 => fb_Rm_operate_197 c m x.2.1 y σ1) (SR.i (hC _ _ (by omega) (by omega) (by omega) (by omega)) SR.ret) fun σ k => ?_
    rw [e100 k, if_neg h3, if_neg h4, if_pos h5]
    unfold fb_Rm_operate_165 fb_Rm_operate_176 fb_Rm_operate_187 fb_Rm_operate_188
    rw [g24 k, kg_pos (by omega)]
    split
    · rw [show max 0 (x.2.2 - max 1 q.2.1) = 0 by omega]
    · rw [show max 0 (x.2.2 - max 1 q.2.1) = x.2.2 - m by omega]
  rw [if_neg h5]
  by_cases h6 : c = 108
  · rw [if_pos h6]
    refine SR.cg (f := fun σ => kbi (f_Rm_characters x.2.2 (min (ln x.1 x.2.1.toNat).length (x.2.2 + max 1 q.2.1)) σ) fun y σ1 => fb_Rm_operate_248 c m x.2.1 y σ1) (SR.i (hC _ _ (by omega) (by omega) (by omega) (by omega)) SR.ret) fun σ k => ?_
    rw [e100 k, if_neg h3, if_neg h4, if_neg h5, if_pos h6]
    unfold fb_Rm_operate_204 fb_Rm_operate_239 fb_Rm_operate_228 fb_Rm_operate_245
    rw [g24 k, g21 k, kg_pos (by omega), kg_pos (by omega)]
    split
    · rw [show min ((ln x.1 x.2.1.toNat).length : Int) (x.2.2 + max 1 q.2.1) = (ln x.1 x.2.1.toNat).length by omega]
    · rw [show min ((ln x.1 x.2.1.toNat).length : Int) (x.2.2 + max 1 q.2.1) = x.2.2 + m by omega]
  rw [if_neg h6]
  by_cases h7 : c = 119
  · rw [if_pos h7]
    refine SR.cg (f := fb_Rm_operate_263 c m x.2.1) ?_ fun σ k => by rw [e100 k, if_neg h3, if_neg h4, if_neg h5, if_neg h6, if_pos h7]
    unfold fb_Rm_operate_263
    have e312 : ∀ {σ}, RE2 g B (x, o, b, q, (0, s.1, s.2, []), l) σ → fb_Rm_operate_284 c m x.2.1 σ = kbi (f_Rm_characters x.2.2 (ln x.1 x.2.1.toNat).length σ) (fun y σ1 => fb_Rm_operate_321 c m x.2.1 0 y σ1) := fun {σ} k => by
      unfold fb_Rm_operate_284 fb_Rm_operate_285 fb_Rm_operate_293 fb_Rm_operate_312 fb_Rm_operate_318
      rw [kg_pos hI, if_pos h7, kg_pos (by decide), if_pos rfl, kg_pos (by omega), g24 k, g21 k]
    refine SR.sTo hm' (fun h => ?_) (fun u v hu hv hv2 hz σ k k16 k17 => ?_)
    · rw [if_neg (by omega)]
      refine SR.cg (SR.i (k := fun y σ1 => fb_Rm_operate_321 c m x.2.1 0 y σ1) (hC x.2.2 (ln x.1 x.2.1.toNat).length (by omega) (by omega) (by omega) (by omega)) SR.ret) fun σ k => ?_
      unfold fb_Rm_operate_269
      rw [kg_pos (by decide), if_pos rfl, e312 k]
    · unfold fb_Rm_operate_269
      rw [kg_pos (by decide), if_neg (by decide)]
      unfold fb_Rm_operate_272
      rw [k16, kg_pos (by omega)]
      have hw := lead_wb (x := x) (n := q.2.1) (.inl h7) (by omega)
      by_cases h5 : u = x.2.1
      · rw [if_pos h5, if_pos (by omega)]
        have hw2 : (lead x c q.2.1 / 32).toNat = x.2.1.toNat := by omega
        rw [hw2] at hw
        unfold fb_Rm_operate_280 fb_Rm_operate_285 fb_Rm_operate_293 fb_Rm_operate_305 fb_Rm_operate_318
        rw [kg_pos hI, if_pos h7, kg_pos (by decide), if_neg (by decide), k17, g24 k, show lead x c q.2.1 % 32 = v by omega]
        by_cases h9 : v ≤ (ln x.1 x.2.1.toNat).length
        · exact SR.i (k := fun y σ1 => fb_Rm_operate_321 c m x.2.1 1 y σ1) (hC x.2.2 v (by omega) (by omega) (by omega) h9) SR.ret σ k
        · exfalso
          omega
      · rw [if_neg h5, if_neg (by omega), e312 k]
        exact SR.i (k := fun y σ1 => fb_Rm_operate_321 c m x.2.1 0 y σ1) (hC x.2.2 (ln x.1 x.2.1.toNat).length (by omega) (by omega) (by omega) (by omega)) SR.ret σ k
  rw [if_neg h7, if_neg (fun z => e0 z.1)]
  refine SR.read fun σ k => ?_
  rw [e100 k, if_neg h3, if_neg h4, if_neg h5, if_neg h6, if_neg h7]
def insR (A : kEd) (k : Int) : kEd := ((A.1.1, A.1.2.1, k), A.2.1, A.2.2.1, A.2.2.2.1, (1, k, 0, []), A.2.2.2.2.2)
def opnR (A : kEd) (p : Nat) : Int × kEd := if A.1.1.length < 10 then (3, ((ins A.1.1 p [List.replicate (ind (ln A.1.1 A.1.2.1.toNat)) 32], (p : Int), (ind (ln A.1.1 A.1.2.1.toNat) : Int)), A.2.1, A.2.2.1, A.2.2.2.1, (1, (ind (ln A.1.1 A.1.2.1.toNat) : Int), 0, []), A.2.2.2.2.2)) else (0, A)
def putR (A : kEd) (p k : Nat) : Int × kEd := if canP A.1 A.2.2.1 = 1 then (3, (putX A.1 A.2.2.1 p k, A.2)) else (0, A)
def plnR (A : kEd) (c : Int) : Int × kEd :=
  if c = 65 then (3, insR A (ln A.1.1 A.1.2.1.toNat).length)
  else if c = 73 then (3, insR A (ind (ln A.1.1 A.1.2.1.toNat) : Int))
  else if c = 79 then opnR A A.1.2.1.toNat
  else if c = 80 then putR A A.1.2.1.toNat A.1.2.2.toNat
  else if c = 97 then (3, insR A (min ((ln A.1.1 A.1.2.1.toNat).length : Int) (A.1.2.2 + 1)))
  else if c = 105 then (3, insR A A.1.2.2)
  else if c = 111 then opnR A (A.1.2.1.toNat + 1)
  else if c = 112 then putR A (A.1.2.1.toNat + 1) (min ((ln A.1.1 A.1.2.1.toNat).length : Int) (A.1.2.2 + 1)).toNat
  else if c = 117 then (if A.2.1.isSome then 2 else 0, undA A)
  else (0, A)
theorem SR.putR1 {g : Int} {B : Option Tc} {x : Tc} {o : Option Tc} {b : Int × Tx} {q : Qd} {m : Md} {l : Int × List Int} {p k : Nat} {c x2 x3 : Int} (hc : c = 80 ∨ c = 112) (hx : wfX x) (hb : wfB b) (hx2 : x2 = x.2.1) (hx3 : x3 = (ln x.1 x.2.1.toNat).length) (hp : (p : Int) = if c = 80 then x.2.1 else x.2.1 + 1) (hk : (k : Int) = if c = 80 then x.2.2 else if x3 = 0 then x.2.2 else x.2.2 + 1) (hk2 : k ≤ (ln x.1 x.2.1.toNat).length) : SR g B (fb_Rm_simple_96 c x2 x3) (some (putR (x, o, b, q, m, l) p k).1) (x, o, b, q, m, l) (putR (x, o, b, q, m, l) p k).2 := by
  obtain ⟨w1, w2, w3, w4, w5, w6, w7, w8⟩ := hx.sz
  have hb1 := hb.1
  have hb2 := hb.2.1
  have g7 : ∀ {σ}, RE2 g B (x, o, b, q, m, l) σ → σ 9 0 7 = b.1 := fun k => k.1.2.2.1.1
  have g24 : ∀ {σ}, RE2 g B (x, o, b, q, m, l) σ → σ 24 0 0 = x.2.2 := fun k => k.1.1.2.2.2
  have hpl : p ≤ x.1.length := by
    split at hp <;> omega
  unfold putR putX
  dsimp only
  by_cases h0 : b.1 = 0
  · rw [if_neg (show ¬ 0 < b.1 by omega)]
    refine SR.cg (f := fun σ => kbi (f_Rm_putCharacters (k : Int) σ) fun y σ1 => fb_Rm_simple_134 c x2 x3 y σ1) ?_ fun σ k' => ?_
    · have hC := SR.i (k := fun y σ1 => fb_Rm_simple_134 c x2 x3 y σ1) (SR.putC (g := g) (B := B) (o := o) (q := q) (m := m) (l := l) (k := k) rfl hx hb h0 hk2) SR.ret
      by_cases h1 : canP x b = 1
      · rw [if_pos h1]
        rw [if_pos h1, if_pos h1] at hC
        exact hC
      · rw [if_neg h1]
        rw [if_neg h1, if_neg h1] at hC
        exact hC
    · unfold fb_Rm_simple_96 fb_Rm_simple_103 fb_Rm_simple_110 fb_Rm_simple_114 fb_Rm_simple_123 fb_Rm_simple_131
      rw [g7 k', g24 k', kg_pos (by omega), if_pos h0, kg_pos (by omega), kg_pos (by omega)]
      rcases hc with h | h
      · rw [if_pos h] at hk ⊢
        rw [hk]
      · rw [if_neg (by omega)] at hk ⊢
        rw [hk]
        split <;> rfl
  · refine SR.cg (f := fun σ => kbi (f_Rm_putLines (p : Int) σ) fun y σ1 => fb_Rm_simple_154 c x2 x3 y σ1) ?_ fun σ k' => ?_
    · have hL := SR.i (k := fun y σ1 => fb_Rm_simple_154 c x2 x3 y σ1) (SR.putL (g := g) (B := B) (o := o) (q := q) (m := m) (l := l) (p := p) rfl hx hb h0 hpl) SR.ret
      by_cases h1 : canP x b = 1
      · have h2 : 0 < b.1 := by
          unfold canP at h1
          rw [if_neg h0] at h1
          by_cases h3 : 0 < b.1
          · exact h3
          · rw [if_neg (fun z => h3 z.1)] at h1
            exact absurd h1 (by decide)
        rw [if_pos h1, if_pos h2]
        rw [if_pos h1, if_pos h1] at hL
        exact hL
      · rw [if_neg h1]
        rw [if_neg h1, if_neg h1] at hL
        exact hL
    · unfold fb_Rm_simple_96 fb_Rm_simple_137 fb_Rm_simple_144 fb_Rm_simple_148 fb_Rm_simple_151
      rw [g7 k', kg_pos (by omega), if_neg h0, kg_pos (by omega)]
      rcases hc with h | h
      · rw [if_pos h] at hp ⊢
        rw [hp, hx2]
      · rw [if_neg (by omega)] at hp ⊢
        rw [hp, hx2]
theorem SR.opnR1 {g : Int} {B : Option Tc} {x : Tc} {o : Option Tc} {b : Int × Tx} {q : Qd} {s : Int × Int} {l : Int × List Int} {p : Nat} {c x2 x3 : Int} (hc : c = 111 ∨ c = 79) (hx : wfX x) (hx2 : x2 = x.2.1) (hp : (p : Int) = if c = 111 then x.2.1 + 1 else x.2.1) : SR g B (fb_Rm_simple_240 c x2 x3) (some (opnR (x, o, b, q, (0, s.1, s.2, []), l) p).1) (x, o, b, q, (0, s.1, s.2, []), l) (opnR (x, o, b, q, (0, s.1, s.2, []), l) p).2 := by
  obtain ⟨w1, w2, w3, w4, w5, w6, w7, w8⟩ := hx.sz
  have hi := ind_le (ln x.1 x.2.1.toNat)
  have g22 : ∀ {σ}, RE2 g B (x, o, b, q, (0, s.1, s.2, []), l) σ → σ 22 0 0 = x.1.length := fun k => k.1.1.2.1
  have hpl : p ≤ x.1.length := by
    split at hp <;> omega
  unfold opnR
  dsimp only
  by_cases h1 : x.1.length < 10
  · rw [if_pos h1]
    refine SR.cg (f := fb_Rm_simple_253 c x2 x3) ?_ fun σ k => ?_
    · unfold fb_Rm_simple_253
      refine SR.i (y := (ind (ln x.1 x.2.1.toNat) : Int)) (SR.read fun σ k => ?_) ?_
      · rw [hx2, ← w8]
        exact R_blanks (T := x.1) k.1.1.1 w2 hx.1.2.2.1
      · refine SR.cg (f := fun σ => kbu (f_Rm_openLine (p : Int) σ) fun σ1 => fl_Rm_simple_284 3000 c x2 x3 (ind (ln x.1 x.2.1.toNat) : Int) (p : Int) ((0 : Nat) : Int) σ1) ?_ fun σ k => ?_
        · exact SR.u (SR.openLine rfl hpl h1) (SR.blankL (by omega) (ind (ln x.1 x.2.1.toNat)) 3000 0 x.1 x.2 (by omega) hpl h1 (by omega))
        · unfold fb_Rm_simple_258 fb_Rm_simple_266 fb_Rm_simple_272 fb_Rm_simple_273 fb_Rm_simple_281
          rw [kg_pos (by omega)]
          rcases hc with h | h
          · rw [if_pos h] at hp ⊢
            rw [hp, hx2]
            rfl
          · rw [if_neg (by omega)] at hp ⊢
            rw [hp, hx2]
            rfl
    · unfold fb_Rm_simple_240
      rw [g22 k, kg_pos (by omega), if_neg (by omega)]
  · rw [if_neg h1]
    refine SR.read fun σ k => ?_
    unfold fb_Rm_simple_240
    rw [g22 k, kg_pos (by omega), if_pos (by omega)]
    rfl
theorem SR.pln {g : Int} {B : Option Tc} {x : Tc} {o : Option Tc} {b : Int × Tx} {q : Qd} {s : Int × Int} {l : Int × List Int} {c : Int} (hc : 0 ≤ c ∧ c ≤ 126) (hx : wfX x) (hon : onC x) (hb : wfB b) : SR g B (f_Rm_simple c) (some (plnR (x, o, b, q, (0, s.1, s.2, []), l) c).1) (x, o, b, q, (0, s.1, s.2, []), l) (plnR (x, o, b, q, (0, s.1, s.2, []), l) c).2 := by
  obtain ⟨w1, w2, w3, w4, w5, w6, w7, w8⟩ := hx.sz
  have hi := ind_le (ln x.1 x.2.1.toNat)
  have g23 : ∀ {σ}, RE2 g B (x, o, b, q, (0, s.1, s.2, []), l) σ → σ 23 0 0 = x.2.1 := fun k => k.1.1.2.2.1
  have g24 : ∀ {σ}, RE2 g B (x, o, b, q, (0, s.1, s.2, []), l) σ → σ 24 0 0 = x.2.2 := fun k => k.1.1.2.2.2
  have g21 : ∀ {σ}, RE2 g B (x, o, b, q, (0, s.1, s.2, []), l) σ → σ 21 0 x.2.1.toNat = (ln x.1 x.2.1.toNat).length := fun k => Q_sz (T := x.1) w8.symm k.1.1.1 w2
  have hmin : min ((ln x.1 x.2.1.toNat).length : Int) (x.2.2 + 1) = if ((ln x.1 x.2.1.toNat).length : Int) = 0 then x.2.2 else x.2.2 + 1 := by
    unfold onC at hon
    split <;> omega
  unfold plnR
  dsimp only
  generalize hz : ((ln x.1 x.2.1.toNat).length : Int) = z at hmin
  have e0 : ∀ {σ}, RE2 g B (x, o, b, q, (0, s.1, s.2, []), l) σ → f_Rm_simple c σ = (if c = 65 then fb_Rm_simple_232 c x.2.1 z σ else if c = 73 then fb_Rm_simple_220 c x.2.1 z σ else if c = 79 then fb_Rm_simple_240 c x.2.1 z σ else if c = 80 then fb_Rm_simple_96 c x.2.1 z σ else if c = 97 then fb_Rm_simple_197 c x.2.1 z σ else if c = 105 then fb_Rm_simple_184 c x.2.1 z σ else if c = 111 then fb_Rm_simple_240 c x.2.1 z σ else if c = 112 then fb_Rm_simple_96 c x.2.1 z σ else if c = 117 then fb_Rm_simple_155 c x.2.1 z σ else fb_Rm_simple_317 c x.2.1 z σ) := fun {σ} k => by
    unfold f_Rm_simple fb_Rm_simple_0
    rw [g23 k, g21 k, hz, kg_pos (by omega)]
  by_cases c1 : c = 65
  · rw [if_pos c1]
    refine SR.cg (f := fb_Rm_simple_232 c x.2.1 z) ?_ fun σ k => by rw [e0 k, if_pos c1]
    unfold fb_Rm_simple_232
    exact SR.u (SR.bins (s := s)) SR.ret
  rw [if_neg c1]
  by_cases c2 : c = 73
  · rw [if_pos c2]
    refine SR.cg (f := fb_Rm_simple_220 c x.2.1 z) ?_ fun σ k => by rw [e0 k, if_neg c1, if_pos c2]
    unfold fb_Rm_simple_220
    refine SR.i (y := (ind (ln x.1 x.2.1.toNat) : Int)) (SR.read fun σ k => ?_) (SR.u (SR.bins (s := s)) SR.ret)
    have := R_blanks (T := x.1) k.1.1.1 w2 hx.1.2.2.1
    rw [w8] at this
    exact this
  rw [if_neg c2]
  by_cases c3 : c = 79
  · rw [if_pos c3]
    refine SR.cg (f := fb_Rm_simple_240 c x.2.1 z) ?_ fun σ k => by rw [e0 k, if_neg c1, if_neg c2, if_pos c3]
    exact SR.opnR1 (.inr c3) hx rfl (by rw [if_neg (by omega)]; exact w8)
  rw [if_neg c3]
  by_cases c4 : c = 80
  · rw [if_pos c4]
    refine SR.cg (f := fb_Rm_simple_96 c x.2.1 z) ?_ fun σ k => by rw [e0 k, if_neg c1, if_neg c2, if_neg c3, if_pos c4]
    exact SR.putR1 (.inl c4) hx hb rfl hz.symm (by rw [if_pos c4]; exact w8) (by rw [if_pos c4]; omega) (by omega)
  rw [if_neg c4]
  by_cases c5 : c = 97
  · rw [if_pos c5]
    refine SR.cg (f := fun σ => kbu (f_Rm_beginInsert x.2.1 (min z (x.2.2 + 1)) σ) fun σ1 => fb_Rm_simple_218 c x.2.1 z σ1) (SR.u (SR.bins (s := s)) SR.ret) fun σ k => ?_
    rw [e0 k, if_neg c1, if_neg c2, if_neg c3, if_neg c4, if_pos c5, hmin]
    unfold fb_Rm_simple_197 fb_Rm_simple_203 fb_Rm_simple_207 fb_Rm_simple_215
    rw [kg_pos (by omega), g24 k]
    by_cases h : z = 0
    · rw [if_pos h, if_pos h, show x.2.2 = 0 by omega]
    · rw [if_neg h, if_neg h]
  rw [if_neg c5]
  by_cases c6 : c = 105
  · rw [if_pos c6]
    refine SR.cg (f := fun σ => kbu (f_Rm_beginInsert x.2.1 x.2.2 σ) fun σ1 => fb_Rm_simple_195 c x.2.1 z σ1) (SR.u (SR.bins (s := s)) SR.ret) fun σ k => ?_
    rw [e0 k, if_neg c1, if_neg c2, if_neg c3, if_neg c4, if_neg c5, if_pos c6]
    unfold fb_Rm_simple_184
    rw [g24 k]
  rw [if_neg c6]
  by_cases c7 : c = 111
  · rw [if_pos c7]
    refine SR.cg (f := fb_Rm_simple_240 c x.2.1 z) ?_ fun σ k => by rw [e0 k, if_neg c1, if_neg c2, if_neg c3, if_neg c4, if_neg c5, if_neg c6, if_pos c7]
    exact SR.opnR1 (.inl c7) hx rfl (by rw [if_pos c7]; omega)
  rw [if_neg c7]
  by_cases c8 : c = 112
  · rw [if_pos c8]
    refine SR.cg (f := fb_Rm_simple_96 c x.2.1 z) ?_ fun σ k => by rw [e0 k, if_neg c1, if_neg c2, if_neg c3, if_neg c4, if_neg c5, if_neg c6, if_neg c7, if_pos c8]
    refine SR.putR1 (.inr c8) hx hb rfl hz.symm (by rw [if_neg (by omega)]; omega) ?_ (by omega)
    rw [if_neg (by omega), ← hmin]
    omega
  rw [if_neg c8]
  by_cases c9 : c = 117
  · rw [if_pos c9]
    refine SR.cg (f := fb_Rm_simple_155 c x.2.1 z) ?_ fun σ k => by rw [e0 k, if_neg c1, if_neg c2, if_neg c3, if_neg c4, if_neg c5, if_neg c6, if_neg c7, if_neg c8, if_pos c9]
    exact SR.undA1
  rw [if_neg c9]
  refine SR.read fun σ k => ?_
  rw [e0 k, if_neg c1, if_neg c2, if_neg c3, if_neg c4, if_neg c5, if_neg c6, if_neg c7, if_neg c8, if_neg c9]
  rfl
