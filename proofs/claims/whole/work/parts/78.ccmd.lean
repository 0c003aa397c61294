/-! Pure: a key in COMMAND, the class's side. -/
def chA (g : Int) (A : kEd) (i j : Int) : Int × kEd := if i < j then (1, opC g A i.toNat j.toNat) else (0, A)
def lnA (g : Int) (A : kEd) (i j : Int) : Int × kEd := (1, opL g A i.toNat j.toNat)
/-- the operator with the key behind it, which leads to place p -/
def opr (g : Int) (A : kEd) (c p : Int) : Int × kEd :=
  if c = 36 then (if p < 0 then (0, A) else chA g A A.1.2.2 (ln A.1.1 A.1.2.1.toNat).length)
  else if c = 48 then (if p < 0 then (0, A) else chA g A 0 A.1.2.2)
  else if c = 71 ∨ c = 106 ∨ c = 107 then (if p < 0 then (0, A) else lnA g A (min A.1.2.1 (p / 32)) (max A.1.2.1 (p / 32)))
  else if c = 98 then (if 0 ≤ p ∧ p / 32 = A.1.2.1 then chA g A (p % 32) A.1.2.2 else (0, A))
  else if c = 104 then chA g A (max 0 (A.1.2.2 - max 1 A.2.2.2.1.2.1)) A.1.2.2
  else if c = 108 then chA g A A.1.2.2 (min (ln A.1.1 A.1.2.1.toNat).length (A.1.2.2 + max 1 A.2.2.2.1.2.1))
  else if c = 119 then chA g A A.1.2.2 (if 0 ≤ p ∧ p / 32 = A.1.2.1 then p % 32 else (ln A.1.1 A.1.2.1.toNat).length)
  else if c = A.2.2.2.1.1 ∧ A.1.2.1 + max 1 A.2.2.2.1.2.1 ≤ A.1.1.length then lnA g A A.1.2.1 (A.1.2.1 + max 1 A.2.2.2.1.2.1 - 1)
  else (0, A)
theorem SC.chA1 {g : Int} {x : Tc} {o : Option Tc} {b : Int × Tx} {q : Qd} {s : Int × Int} {l : Int × List Int} {i j : Int} (hg : g = 0 ∨ g = 1) (hi : 0 ≤ i ∧ i ≤ 1000) (hj : 0 ≤ j) (hx : wfX x) (hjl : j ≤ (ln x.1 x.2.1.toNat).length) (hq : q.2.2.2.length ≤ 4) (hop : isOp q.1) : SC g (f_Kb_operateOnLetters i j) (some (chA g (x, o, b, q, (0, s.1, s.2, []), l) i j).1) (x, o, b, q, (0, s.1, s.2, []), l) (chA g (x, o, b, q, (0, s.1, s.2, []), l) i j).2 := by
  unfold chA
  by_cases h : i < j
  · rw [if_pos h]
    exact SC.opC1 hg (by omega) (by omega) (by omega) hx (by omega) hq hop
  · rw [if_neg h]
    have := hx.sz.1
    exact SC.opC0 (by omega) (by omega) (by omega)
theorem SC.bool {g y : Int} {A : kEd} (hy : y = 0 ∨ y = 1) : SC g (fun σ => kg (y = 0 ∨ y = 1) (some (some y, σ))) (some y) A A := SC.read fun σ _ => kg_pos hy
theorem SC.bool2 {g y : Int} {A : kEd} (hy : y = 0 ∨ y = 1) : SC g (fun σ => kg (-2147483648 ≤ y ∧ y < 2147483648) (if y = 0 then kg ((0 : Int) = 0 ∨ (0 : Int) = 1) (some (some 0, σ)) else kg ((1 : Int) = 0 ∨ (1 : Int) = 1) (some (some 1, σ)))) (some y) A A := SC.read fun σ _ => by
  rw [kg_pos (by omega), kg_pos (by decide), kg_pos (by decide)]
  rcases hy with h | h
  · rw [if_pos h, h]
  · rw [if_neg (by omega), h]
theorem chA_01 (g : Int) (A : kEd) (i j : Int) : (chA g A i j).1 = 0 ∨ (chA g A i j).1 = 1 := by
  unfold chA
  split
  · exact .inr rfl
  · exact .inl rfl
theorem SC.opr1 {g : Int} {x : Tc} {o : Option Tc} {b : Int × Tx} {q : Qd} {s : Int × Int} {l : Int × List Int} {c p : Int} (hg : g = 0 ∨ g = 1) (hc : 0 ≤ c ∧ c ≤ 126) (hx : wfX x) (hq : q.2.2.2.length ≤ 4) (hop : isOp q.1) (hn : 0 ≤ q.2.1 ∧ q.2.1 ≤ 99) (hp : p = -1 ∨ 0 ≤ p ∧ p / 32 < x.1.length) (hp2 : c = 119 ∨ c = 98 → 0 ≤ p → p / 32 = x.2.1 → p % 32 ≤ (ln x.1 x.2.1.toNat).length) : SC g (f_Kb_operate c p) (some (opr g (x, o, b, q, (0, s.1, s.2, []), l) c p).1) (x, o, b, q, (0, s.1, s.2, []), l) (opr g (x, o, b, q, (0, s.1, s.2, []), l) c p).2 := by
  have ho : -1000 ≤ q.1 ∧ q.1 ≤ 1000 := by
    unfold isOp at hop
    omega
  obtain ⟨w1, w2, w3, w4, w5, w6, w7, w8⟩ := hx.sz
  -- down to fb_60
  refine SC.cg (f := fb_Kb_operate_60 c p (max 1 q.2.1) x.2.1 x.2.2 (ln x.1 x.2.1.toNat).length (kdiv p 32) (if 0 ≤ p ∧ p / 32 = x.2.1 then 1 else 0)) ?_ fun σ k => ?_
  rotate_left
  · have h7 : σ 5 0 7 = q.2.1 := k.2.2.2.1.2.1
    have h3 : σ 2 0 3 = x.2.1 := k.1.2.2.1
    have h4 : σ 2 0 4 = x.2.2 := k.1.2.2.2
    unfold f_Kb_operate fb_Kb_operate_0
    rw [kg_pos (by omega), kbi_eq (SC.sizeRow hx k), h7, h3, h4]
    unfold fb_Kb_operate_36 fb_Kb_operate_59
    rw [kg_pos (by omega)]
    by_cases h0 : p < 0
    · rw [if_pos h0, if_neg (by omega)]
    · rw [if_neg h0]
      unfold fb_Kb_operate_48 fb_Kb_operate_55 fb_Kb_operate_59
      rw [k_div (by omega) (by decide), kg_pos (by omega)]
      by_cases h1 : p / 32 = x.2.1
      · rw [if_pos h1, if_pos (by omega)]
      · rw [if_neg h1, if_neg (by omega)]
  -- the branches
  have hL : ∀ i j : Int, 0 ≤ i → i ≤ j → j < x.1.length → SC g (f_Kb_operateOnLines i j) (some 1) (x, o, b, q, (0, s.1, s.2, []), l) (lnA g (x, o, b, q, (0, s.1, s.2, []), l) i j).2 := fun i j h1 h2 h3 => SC.opL1 hg (by omega) (by omega) (by omega) (by omega) w3 hq hop
  have hC : ∀ i j : Int, 0 ≤ i → i ≤ 1000 → 0 ≤ j → j ≤ (ln x.1 x.2.1.toNat).length → SC g (f_Kb_operateOnLetters i j) (some (chA g (x, o, b, q, (0, s.1, s.2, []), l) i j).1) (x, o, b, q, (0, s.1, s.2, []), l) (chA g (x, o, b, q, (0, s.1, s.2, []), l) i j).2 := fun i j h1 h2 h3 h4 => SC.chA1 hg ⟨h1, h2⟩ h3 hx h4 hq hop
  have hdiv : 0 ≤ p → kdiv p 32 = p / 32 := fun h => k_div (by omega) (by decide)
  have hmod : 0 ≤ p → kmod p 32 = p % 32 := fun h => k_mod (by omega) (by decide)
  generalize hE : (if 0 ≤ p ∧ p / 32 = x.2.1 then (1 : Int) else 0) = e
  have he : e = 0 ∨ e = 1 := by
    rw [← hE]
    split
    · exact .inr rfl
    · exact .inl rfl
  have he1 : e = 1 ↔ 0 ≤ p ∧ p / 32 = x.2.1 := by
    rw [← hE]
    by_cases h : 0 ≤ p ∧ p / 32 = x.2.1
    · rw [if_pos h]
      exact ⟨fun _ => h, fun _ => rfl⟩
    · rw [if_neg h]
      exact ⟨fun z => absurd z (by decide), fun z => absurd z h⟩
  unfold opr
  dsimp only
  have h60 : ∀ (f : kS → kRes), (∀ σ, (if c = 36 then fb_Kb_operate_226 c p (max 1 q.2.1) x.2.1 x.2.2 (ln x.1 x.2.1.toNat).length (kdiv p 32) e σ else if c = 48 then fb_Kb_operate_206 c p (max 1 q.2.1) x.2.1 x.2.2 (ln x.1 x.2.1.toNat).length (kdiv p 32) e σ else if c = 71 then fb_Kb_operate_144 c p (max 1 q.2.1) x.2.1 x.2.2 (ln x.1 x.2.1.toNat).length (kdiv p 32) e σ else if c = 98 then fb_Kb_operate_268 c p (max 1 q.2.1) x.2.1 x.2.2 (ln x.1 x.2.1.toNat).length (kdiv p 32) e σ else if c = 104 then fb_Kb_operate_175 c p (max 1 q.2.1) x.2.1 x.2.2 (ln x.1 x.2.1.toNat).length (kdiv p 32) e σ else if c = 106 then fb_Kb_operate_144 c p (max 1 q.2.1) x.2.1 x.2.2 (ln x.1 x.2.1.toNat).length (kdiv p 32) e σ else if c = 107 then fb_Kb_operate_144 c p (max 1 q.2.1) x.2.1 x.2.2 (ln x.1 x.2.1.toNat).length (kdiv p 32) e σ else if c = 108 then fb_Kb_operate_190 c p (max 1 q.2.1) x.2.1 x.2.2 (ln x.1 x.2.1.toNat).length (kdiv p 32) e σ else if c = 119 then fb_Kb_operate_247 c p (max 1 q.2.1) x.2.1 x.2.2 (ln x.1 x.2.1.toNat).length (kdiv p 32) e σ else fb_Kb_operate_292 c p (max 1 q.2.1) x.2.1 x.2.2 (ln x.1 x.2.1.toNat).length (kdiv p 32) e σ) = f σ) → ∀ σ, fb_Kb_operate_60 c p (max 1 q.2.1) x.2.1 x.2.2 (ln x.1 x.2.1.toNat).length (kdiv p 32) e σ = f σ := fun f h σ => by
    unfold fb_Kb_operate_60
    rw [kg_pos (by omega)]
    exact h σ
  by_cases h1 : c = 36
  · rw [if_pos h1]
    refine SC.cg (f := fb_Kb_operate_226 c p (max 1 q.2.1) x.2.1 x.2.2 (ln x.1 x.2.1.toNat).length (kdiv p 32) e) ?_ fun σ _ => h60 _ (fun σ => by rw [if_pos h1]) σ
    by_cases h0 : p < 0
    · rw [if_pos h0]
      refine SC.read fun σ _ => ?_
      unfold fb_Kb_operate_226
      rw [kg_pos (by omega), if_pos h0]
      rfl
    · rw [if_neg h0]
      refine SC.cg (f := fb_Kb_operate_230 c p (max 1 q.2.1) x.2.1 x.2.2 (ln x.1 x.2.1.toNat).length (kdiv p 32) e) ?_ fun σ _ => by
        unfold fb_Kb_operate_226
        rw [kg_pos (by omega), if_neg h0]
      unfold fb_Kb_operate_230
      exact SC.i (hC _ _ (by omega) (by omega) (by omega) (by omega)) (SC.bool2 (chA_01 _ _ _ _))
  rw [if_neg h1]
  by_cases h2 : c = 48
  · rw [if_pos h2]
    refine SC.cg (f := fb_Kb_operate_206 c p (max 1 q.2.1) x.2.1 x.2.2 (ln x.1 x.2.1.toNat).length (kdiv p 32) e) ?_ fun σ _ => h60 _ (fun σ => by rw [if_neg h1, if_pos h2]) σ
    by_cases h0 : p < 0
    · rw [if_pos h0]
      refine SC.read fun σ _ => ?_
      unfold fb_Kb_operate_206
      rw [kg_pos (by omega), if_pos h0]
      rfl
    · rw [if_neg h0]
      refine SC.cg (f := fb_Kb_operate_210 c p (max 1 q.2.1) x.2.1 x.2.2 (ln x.1 x.2.1.toNat).length (kdiv p 32) e) ?_ fun σ _ => by
        unfold fb_Kb_operate_206
        rw [kg_pos (by omega), if_neg h0]
      unfold fb_Kb_operate_210
      exact SC.i (hC _ _ (by omega) (by omega) (by omega) (by omega)) (SC.bool2 (chA_01 _ _ _ _))
  rw [if_neg h2]
  by_cases h3 : c = 71 ∨ c = 106 ∨ c = 107
  · rw [if_pos h3]
    refine SC.cg (f := fb_Kb_operate_144 c p (max 1 q.2.1) x.2.1 x.2.2 (ln x.1 x.2.1.toNat).length (kdiv p 32) e) ?_ fun σ _ => h60 _ (fun σ => by
      rw [if_neg h1, if_neg h2]
      rcases h3 with h | h | h
      · rw [if_pos h]
      · rw [if_neg (by omega), if_neg (by omega), if_neg (by omega), if_pos h]
      · rw [if_neg (by omega), if_neg (by omega), if_neg (by omega), if_neg (by omega), if_pos h]) σ
    by_cases h0 : p < 0
    · rw [if_pos h0]
      refine SC.read fun σ _ => ?_
      unfold fb_Kb_operate_144
      rw [kg_pos (by omega), if_pos h0]
      rfl
    · rw [if_neg h0]
      have hd := hdiv (by omega)
      refine SC.cg (f := fun σ => kbi (f_Kb_operateOnLines (min x.2.1 (p / 32)) (max x.2.1 (p / 32)) σ) fun y σ1 => fb_Kb_operate_166 c p (max 1 q.2.1) x.2.1 x.2.2 (ln x.1 x.2.1.toNat).length (kdiv p 32) e y σ1) ?_ fun σ _ => by
        unfold fb_Kb_operate_144 fb_Kb_operate_148
        rw [kg_pos (by omega), if_neg h0, kg_pos (by omega), hd]
      exact SC.i (hL _ _ (by omega) (by omega) (by omega)) (SC.bool2 (.inr rfl))
  rw [if_neg h3]
  by_cases h4 : c = 98
  · rw [if_pos h4]
    refine SC.cg (f := fb_Kb_operate_268 c p (max 1 q.2.1) x.2.1 x.2.2 (ln x.1 x.2.1.toNat).length (kdiv p 32) e) ?_ fun σ _ => h60 _ (fun σ => by rw [if_neg h1, if_neg h2, if_neg (by omega), if_pos h4]) σ
    by_cases h0 : 0 ≤ p ∧ p / 32 = x.2.1
    · rw [if_pos h0]
      have hm := hmod h0.1
      have hp3 := hp2 (.inr h4) h0.1 h0.2
      refine SC.cg (f := fun σ => kbi (f_Kb_operateOnLetters (p % 32) x.2.2 σ) fun y σ1 => fb_Kb_operate_283 c p (max 1 q.2.1) x.2.1 x.2.2 (ln x.1 x.2.1.toNat).length (kdiv p 32) e y σ1) ?_ fun σ _ => by
        unfold fb_Kb_operate_268 fb_Kb_operate_273
        rw [kg_pos (by omega), if_neg (by omega), hm]
      exact SC.i (hC _ _ (by omega) (by omega) (by omega) (by omega)) (SC.bool2 (chA_01 _ _ _ _))
    · rw [if_neg h0]
      refine SC.read fun σ _ => ?_
      unfold fb_Kb_operate_268
      rw [kg_pos (by omega), if_pos (by omega)]
      rfl
  rw [if_neg h4]
  by_cases h5 : c = 104
  · rw [if_pos h5]
    refine SC.cg (f := fun σ => kbi (f_Kb_operateOnLetters (max 0 (x.2.2 - max 1 q.2.1)) x.2.2 σ) fun y σ1 => fb_Kb_operate_189 c p (max 1 q.2.1) x.2.1 x.2.2 (ln x.1 x.2.1.toNat).length (kdiv p 32) e y σ1) ?_ fun σ _ => (h60 (fb_Kb_operate_175 c p (max 1 q.2.1) x.2.1 x.2.2 (ln x.1 x.2.1.toNat).length (kdiv p 32) e) (fun σ => by
      rw [if_neg h1, if_neg h2, if_neg (by omega), if_neg h4, if_pos h5]) σ).trans (by
      unfold fb_Kb_operate_175
      rw [kg_pos (by omega)])
    exact SC.i (hC _ _ (by omega) (by omega) (by omega) (by omega)) (SC.bool (chA_01 _ _ _ _))
  rw [if_neg h5]
  by_cases h6 : c = 108
  · rw [if_pos h6]
    refine SC.cg (f := fun σ => kbi (f_Kb_operateOnLetters x.2.2 (min (ln x.1 x.2.1.toNat).length (x.2.2 + max 1 q.2.1)) σ) fun y σ1 => fb_Kb_operate_205 c p (max 1 q.2.1) x.2.1 x.2.2 (ln x.1 x.2.1.toNat).length (kdiv p 32) e y σ1) ?_ fun σ _ => (h60 (fb_Kb_operate_190 c p (max 1 q.2.1) x.2.1 x.2.2 (ln x.1 x.2.1.toNat).length (kdiv p 32) e) (fun σ => by
      rw [if_neg h1, if_neg h2, if_neg (by omega), if_neg h4, if_neg h5, if_neg (by omega), if_neg (by omega), if_pos h6]) σ).trans (by
      unfold fb_Kb_operate_190
      rw [kg_pos (by omega)])
    exact SC.i (hC _ _ (by omega) (by omega) (by omega) (by omega)) (SC.bool (chA_01 _ _ _ _))
  rw [if_neg h6]
  by_cases h7 : c = 119
  · rw [if_pos h7]
    refine SC.cg (f := fun σ => kbi (f_Kb_operateOnLetters x.2.2 (if 0 ≤ p ∧ p / 32 = x.2.1 then p % 32 else (ln x.1 x.2.1.toNat).length) σ) fun y σ1 => fb_Kb_operate_267 c p (max 1 q.2.1) x.2.1 x.2.2 (ln x.1 x.2.1.toNat).length (kdiv p 32) e y σ1) ?_ fun σ _ => (h60 (fb_Kb_operate_247 c p (max 1 q.2.1) x.2.1 x.2.2 (ln x.1 x.2.1.toNat).length (kdiv p 32) e) (fun σ => by
      rw [if_neg h1, if_neg h2, if_neg (by omega), if_neg h4, if_neg h5, if_neg (by omega), if_neg (by omega), if_neg h6, if_pos h7]) σ).trans (by
      unfold fb_Kb_operate_247 fb_Kb_operate_262 fb_Kb_operate_255 fb_Kb_operate_264
      rw [kg_pos (by omega)]
      by_cases h0 : 0 ≤ p ∧ p / 32 = x.2.1
      · rw [if_neg (by omega), if_pos h0, hmod h0.1]
      · rw [if_pos (by omega), if_neg h0])
    refine SC.i (hC _ _ (by omega) (by omega) ?_ ?_) (SC.bool (chA_01 _ _ _ _))
    · split <;> omega
    · split
      · rename_i h0
        exact hp2 (.inl h7) h0.1 h0.2
      · omega
  rw [if_neg h7]
  have e292 : ∀ σ, CE g (x, o, b, q, (0, s.1, s.2, []), l) σ → fb_Kb_operate_60 c p (max 1 q.2.1) x.2.1 x.2.2 (ln x.1 x.2.1.toNat).length (kdiv p 32) e σ = if c = q.1 ∧ x.2.1 + max 1 q.2.1 ≤ x.1.length then fb_Kb_operate_314 c p (max 1 q.2.1) x.2.1 x.2.2 (ln x.1 x.2.1.toNat).length (kdiv p 32) e σ else some (some 0, σ) := fun σ k => h60 (fun σ => if σ 5 0 9 = q.1 ∧ σ 2 0 2 = x.1.length then (if c = q.1 ∧ x.2.1 + max 1 q.2.1 ≤ x.1.length then fb_Kb_operate_314 c p (max 1 q.2.1) x.2.1 x.2.2 (ln x.1 x.2.1.toNat).length (kdiv p 32) e σ else some (some 0, σ)) else fb_Kb_operate_292 c p (max 1 q.2.1) x.2.1 x.2.2 (ln x.1 x.2.1.toNat).length (kdiv p 32) e σ) (fun σ => by
    rw [if_neg h1, if_neg h2, if_neg (by omega), if_neg h4, if_neg h5, if_neg (by omega), if_neg (by omega), if_neg h6, if_neg h7]
    by_cases hh : σ 5 0 9 = q.1 ∧ σ 2 0 2 = x.1.length
    · rw [if_pos hh]
      unfold fb_Kb_operate_292 fb_Kb_operate_300
      rw [hh.1, hh.2, kg_pos (by omega), kg_pos (by omega)]
      by_cases hc1 : c = q.1
      · rw [if_pos hc1]
        by_cases hc2 : x.2.1 + max 1 q.2.1 ≤ x.1.length
        · rw [if_neg (by omega), if_pos ⟨hc1, hc2⟩]
        · rw [if_pos (by omega), if_neg (fun z => hc2 z.2)]
          rfl
      · rw [if_neg hc1, if_neg (fun z => hc1 z.1)]
        rfl
    · rw [if_neg hh]) σ |>.trans (if_pos ⟨k.2.2.2.1.1, k.1.2.1⟩)
  refine SC.cg ?_ e292
  by_cases h8 : c = q.1 ∧ x.2.1 + max 1 q.2.1 ≤ x.1.length
  · simp only [if_pos h8]
    unfold fb_Kb_operate_314
    exact SC.i (hL _ _ (by omega) (by omega) (by omega)) (SC.bool2 (.inr rfl))
  · simp only [if_neg h8]
    exact SC.ret
