/-! Pure: plain commands and the key in COMMAND, the class's side. -/
def plnA (g : Int) (A : kEd) (c : Int) : Int × kEd :=
  if c = 47 ∨ c = 58 then (1, (A.1, A.2.1, A.2.2.1, A.2.2.2.1, (2, 0, if c = 47 then 1 else 0, []), A.2.2.2.2.2))
  else if c = 65 then (1, insF g A (ln A.1.1 A.1.2.1.toNat).length)
  else if c = 73 then (1, insF g A (ind (ln A.1.1 A.1.2.1.toNat) : Int))
  else if c = 79 then (if A.1.1.length < 10 then 1 else 0, opnA g A A.1.2.1.toNat)
  else if c = 80 then (canP A.1 A.2.2.1, putA g A A.1.2.1.toNat A.1.2.2.toNat)
  else if c = 97 then (1, insF g A (min ((ln A.1.1 A.1.2.1.toNat).length : Int) (A.1.2.2 + 1)))
  else if c = 105 then (1, insF g A A.1.2.2)
  else if c = 111 then (if A.1.1.length < 10 then 1 else 0, opnA g A (A.1.2.1.toNat + 1))
  else if c = 112 then (canP A.1 A.2.2.1, putA g A (A.1.2.1.toNat + 1) (min ((ln A.1.1 A.1.2.1.toNat).length : Int) (A.1.2.2 + 1)).toNat)
  else if c = 117 then (if A.2.1.isSome then 1 else 0, undA A)
  else (0, A)
theorem canP_01 (x : Tc) (b : Int × Tx) : canP x b = 0 ∨ canP x b = 1 := by
  unfold canP
  repeat' split
  all_goals omega
theorem SC.pln {g : Int} {x : Tc} {o : Option Tc} {b : Int × Tx} {q : Qd} {s : Int × Int} {l : Int × List Int} {c : Int} (hg : g = 0 ∨ g = 1) (hc : 0 ≤ c ∧ c ≤ 126) (hx : wfX x) (hb : wfB b) (hq : q.2.2.2.length ≤ 4) : SC g (f_Kb_plain c) (some (plnA g (x, o, b, q, (0, s.1, s.2, []), l) c).1) (x, o, b, q, (0, s.1, s.2, []), l) (plnA g (x, o, b, q, (0, s.1, s.2, []), l) c).2 := by
  obtain ⟨w1, w2, w3, w4, w5, w6, w7, w8⟩ := hx.sz
  unfold f_Kb_plain fb_Kb_plain_0
  refine SC.i (y := (ln x.1 x.2.1.toNat).length) (f := fun σ => f_Te_sizeOf (σ 2 0 3) 0 σ) (SC.read fun σ k => SC.sizeRow hx k) ?_
  have hi := ind_le (ln x.1 x.2.1.toNat)
  generalize hz : ((ln x.1 x.2.1.toNat).length : Int) = z
  have hz2 : 0 ≤ z ∧ z ≤ 20 := by omega
  unfold plnA
  dsimp only
  rw [hz]
  have h14 : ∀ (f : kS → kRes), (∀ σ, (if c = 47 then fb_Kb_plain_251 c z σ else if c = 58 then fb_Kb_plain_251 c z σ else if c = 65 then fb_Kb_plain_211 c z σ else if c = 73 then fb_Kb_plain_192 c z σ else if c = 79 then fb_Kb_plain_231 c z σ else if c = 80 then fb_Kb_plain_143 c z σ else if c = 97 then fb_Kb_plain_174 c z σ else if c = 105 then fb_Kb_plain_162 c z σ else if c = 111 then fb_Kb_plain_217 c z σ else if c = 112 then fb_Kb_plain_116 c z σ else if c = 117 then fb_Kb_plain_243 c z σ else fb_Kb_plain_273 c z σ) = f σ) → ∀ σ, fb_Kb_plain_14 c z σ = f σ := fun f h σ => by
    unfold fb_Kb_plain_14
    rw [kg_pos (by omega)]
    exact h σ
  have h3 : ∀ {σ}, CE g (x, o, b, q, (0, s.1, s.2, []), l) σ → σ 2 0 3 = x.2.1 := fun k => k.1.2.2.1
  have h4 : ∀ {σ}, CE g (x, o, b, q, (0, s.1, s.2, []), l) σ → σ 2 0 4 = x.2.2 := fun k => k.1.2.2.2
  by_cases c1 : c = 47 ∨ c = 58
  · rw [if_pos c1]
    refine SC.cg (f := fb_Kb_plain_251 c z) ?_ fun σ _ => h14 _ (fun σ => by
      rcases c1 with h | h
      · rw [if_pos h]
      · rw [if_neg (by omega), if_pos h]) σ
    refine SC.cg (f := fun σ => some (some 1, kup (kup σ 5 0 11 (if c = 47 then 1 else 0)) 5 0 6 2)) ?_ fun σ _ => by
      unfold fb_Kb_plain_251 fb_Kb_plain_258 fb_Kb_plain_262 fb_Kb_plain_263
      rw [kg_pos (by omega), kg_pos (by decide), kg_pos (by decide)]
      split <;> rfl
    intro σ k
    obtain ⟨k1, k2, k3, k4, k5, k6, k7⟩ := k
    refine ⟨_, rfl, ⟨k1, ?_, k3, k4, ⟨rfl, fun h => absurd h (show ¬ (2 : Int) = 1 by decide), fun _ => rfl, k5.2.2.2.1, kArr_0⟩, k6, k7⟩, (frE.rfl.kup (by decide)).kup (by decide)⟩
    cases o with
    | none => exact k2
    | some y => exact k2
  rw [if_neg c1]
  by_cases c2 : c = 65
  · rw [if_pos c2]
    refine SC.cg (f := fb_Kb_plain_211 c z) ?_ fun σ _ => h14 _ (fun σ => by rw [if_neg (by omega), if_neg (by omega), if_pos c2]) σ
    unfold fb_Kb_plain_211
    exact SC.i (SC.insF1 hg hq) (SC.bool (.inr rfl))
  rw [if_neg c2]
  by_cases c3 : c = 73
  · rw [if_pos c3]
    refine SC.cg (f := fb_Kb_plain_192 c z) ?_ fun σ _ => h14 _ (fun σ => by rw [if_neg (by omega), if_neg (by omega), if_neg c2, if_pos c3]) σ
    unfold fb_Kb_plain_192
    refine SC.i (y := (ind (ln x.1 x.2.1.toNat) : Int)) (f := fun σ => f_Te_indentOf (σ 2 0 3) 0 σ) (SC.read fun σ k => ?_) (SC.i (SC.insF1 hg hq) (SC.bool (.inr rfl)))
    rw [h3 k, ← w8]
    exact C_indentOf (T := x.1) k.1.1 k.1.2.1 w2 hx.1.2.2.1
  rw [if_neg c3]
  by_cases c4 : c = 79
  · rw [if_pos c4]
    refine SC.cg (f := fun σ => kbi (f_Kb_openLine x.2.1 σ) fun y σ1 => fb_Kb_plain_242 c z y σ1) ?_ fun σ k => (h14 (fb_Kb_plain_231 c z) (fun σ => by rw [if_neg (by omega), if_neg (by omega), if_neg c2, if_neg c3, if_pos c4]) σ).trans (by
      unfold fb_Kb_plain_231
      rw [h3 k])
    exact SC.i (SC.opnA1 hg w8.symm hx (by omega) hq) (SC.bool (by split; exact .inr rfl; exact .inl rfl))
  rw [if_neg c4]
  by_cases c5 : c = 80
  · rw [if_pos c5]
    refine SC.cg (f := fun σ => kbi (f_Kb_put x.2.1 x.2.2 σ) fun y σ1 => fb_Kb_plain_161 c z y σ1) ?_ fun σ k => (h14 (fb_Kb_plain_143 c z) (fun σ => by rw [if_neg (by omega), if_neg (by omega), if_neg c2, if_neg c3, if_neg c4, if_pos c5]) σ).trans (by
      unfold fb_Kb_plain_143
      rw [h3 k, h4 k])
    exact SC.i (SC.putA1 hg w8.symm (by omega) hx hb (by omega) (by omega) hq) (SC.bool (canP_01 x b))
  rw [if_neg c5]
  by_cases c6 : c = 97
  · rw [if_pos c6]
    refine SC.cg (f := fun σ => kbi (f_Kb_insertFrom (min z (x.2.2 + 1)) σ) fun y σ1 => fb_Kb_plain_191 c z y σ1) ?_ fun σ k => (h14 (fb_Kb_plain_174 c z) (fun σ => by rw [if_neg (by omega), if_neg (by omega), if_neg c2, if_neg c3, if_neg c4, if_neg c5, if_pos c6]) σ).trans (by
      unfold fb_Kb_plain_174
      rw [h4 k, kg_pos (by omega)])
    exact SC.i (SC.insF1 hg hq) (SC.bool (.inr rfl))
  rw [if_neg c6]
  by_cases c7 : c = 105
  · rw [if_pos c7]
    refine SC.cg (f := fun σ => kbi (f_Kb_insertFrom x.2.2 σ) fun y σ1 => fb_Kb_plain_173 c z y σ1) ?_ fun σ k => (h14 (fb_Kb_plain_162 c z) (fun σ => by rw [if_neg (by omega), if_neg (by omega), if_neg c2, if_neg c3, if_neg c4, if_neg c5, if_neg c6, if_pos c7]) σ).trans (by
      unfold fb_Kb_plain_162
      rw [h4 k])
    exact SC.i (SC.insF1 hg hq) (SC.bool (.inr rfl))
  rw [if_neg c7]
  by_cases c8 : c = 111
  · rw [if_pos c8]
    refine SC.cg (f := fun σ => kbi (f_Kb_openLine (x.2.1 + 1) σ) fun y σ1 => fb_Kb_plain_230 c z y σ1) ?_ fun σ k => (h14 (fb_Kb_plain_217 c z) (fun σ => by rw [if_neg (by omega), if_neg (by omega), if_neg c2, if_neg c3, if_neg c4, if_neg c5, if_neg c6, if_neg c7, if_pos c8]) σ).trans (by
      unfold fb_Kb_plain_217
      rw [h3 k])
    exact SC.i (SC.opnA1 hg (by omega) hx (by omega) hq) (SC.bool (by split; exact .inr rfl; exact .inl rfl))
  rw [if_neg c8]
  by_cases c9 : c = 112
  · rw [if_pos c9]
    refine SC.cg (f := fun σ => kbi (f_Kb_put (x.2.1 + 1) (min z (x.2.2 + 1)) σ) fun y σ1 => fb_Kb_plain_142 c z y σ1) ?_ fun σ k => (h14 (fb_Kb_plain_116 c z) (fun σ => by rw [if_neg (by omega), if_neg (by omega), if_neg c2, if_neg c3, if_neg c4, if_neg c5, if_neg c6, if_neg c7, if_neg c8, if_pos c9]) σ).trans (by
      unfold fb_Kb_plain_116
      rw [h3 k, h4 k, kg_pos (by omega)])
    exact SC.i (SC.putA1 hg (by omega) (by omega) hx hb (by omega) (by omega) hq) (SC.bool (canP_01 x b))
  rw [if_neg c9]
  by_cases c10 : c = 117
  · rw [if_pos c10]
    refine SC.cg (f := fb_Kb_plain_243 c z) ?_ fun σ _ => h14 _ (fun σ => by rw [if_neg (by omega), if_neg (by omega), if_neg c2, if_neg c3, if_neg c4, if_neg c5, if_neg c6, if_neg c7, if_neg c8, if_neg c9, if_pos c10]) σ
    unfold fb_Kb_plain_243
    exact SC.i SC.undA1 (SC.bool (by split; exact .inr rfl; exact .inl rfl))
  rw [if_neg c10]
  refine SC.read fun σ _ => ?_
  exact h14 (fun σ => some (some 0, σ)) (fun σ => by
    rw [if_neg (by omega), if_neg (by omega), if_neg c2, if_neg c3, if_neg c4, if_neg c5, if_neg c6, if_neg c7, if_neg c8, if_neg c9, if_neg c10]
    rfl) σ
def dropQ (A : kEd) : kEd := (A.1, A.2.1, A.2.2.1, (0, 0, 0, []), A.2.2.2.2)
def addK (A : kEd) (op c : Int) : kEd := (A.1, A.2.1, A.2.2.1, (op, A.2.2.2.1.2.1, A.2.2.2.1.2.2.1, A.2.2.2.1.2.2.2 ++ [c]), A.2.2.2.2)
/-- a key in COMMAND (1: taken, 0: it rings) -/
def cmdA (g : Int) (A : kEd) (c : Int) : Int × kEd :=
  (pend (A.2.2.2.1.1, A.2.2.2.1.2.1, A.2.2.2.1.2.2.1) c).elim
    (if c = 27 then (1, dropQ A)
     else if A.2.2.2.1.1 ≠ 0 then ((opr g (addK A A.2.2.2.1.1 c) c (lead A.1 c A.2.2.2.1.2.1)).1, dropQ (opr g (addK A A.2.2.2.1.1 c) c (lead A.1 c A.2.2.2.1.2.1)).2)
     else if c = 120 then ((opr g (addK A 100 c) 108 (lead A.1 c A.2.2.2.1.2.1)).1, dropQ (opr g (addK A 100 c) 108 (lead A.1 c A.2.2.2.1.2.1)).2)
     else if 0 ≤ lead A.1 c A.2.2.2.1.2.1 then (1, dropQ ((A.1.1, cl (lead A.1 c A.2.2.2.1.2.1 / 32) (A.1.1.length - 1), cl (lead A.1 c A.2.2.2.1.2.1 % 32) ((ln A.1.1 (cl (lead A.1 c A.2.2.2.1.2.1 / 32) (A.1.1.length - 1)).toNat).length - 1)), A.2))
     else if A.2.2.2.1.2.2.1 = 0 then ((plnA g (addK A 0 c) c).1, dropQ (plnA g (addK A 0 c) c).2)
     else (0, dropQ A))
    (fun q => (1, (A.1, A.2.1, A.2.2.1, (q.1, q.2.1, q.2.2, A.2.2.2.1.2.2.2 ++ [c]), A.2.2.2.2)))
theorem lead_r {x : Tc} {c n : Int} (hx : wfX x) (hn : 0 ≤ n ∧ n ≤ 99) : lead x c n = -1 ∨ 0 ≤ lead x c n ∧ lead x c n / 32 < x.1.length := by
  obtain ⟨w1, w2, w3, w4, w5, w6, w7, w8⟩ := hx.sz
  unfold lead
  repeat' split
  all_goals first
    | omega
    | (have := sbw_ge x.1 (32 * x.2.1 + x.2.2).toNat (max 1 n).toNat; omega)
    | (have := sfw_ge x.1 (32 * (x.1.length : Int) - (32 * x.2.1 + x.2.2 + 1)).toNat (32 * x.2.1 + x.2.2 + 1).toNat (max 1 n).toNat; omega)
theorem stI_in {T : Tx} {p c : Nat} (h : stI T p c = 1) : c < max 1 (ln T p).length := by
  by_cases h1 : max 1 (ln T p).length ≤ c
  · rw [stI_off h1] at h
    exact absurd h (by decide)
  · omega
theorem lead_wb {x : Tc} {c n : Int} (hc : c = 119 ∨ c = 98) (h0 : 0 ≤ lead x c n) : (lead x c n % 32).toNat < max 1 (ln x.1 (lead x c n / 32).toNat).length := by
  have e1 : (lead x c n % 32).toNat = (lead x c n).toNat % 32 := by omega
  have e2 : (lead x c n / 32).toNat = (lead x c n).toNat / 32 := by omega
  rw [e1, e2]
  refine stI_in ?_
  unfold lead at h0 ⊢
  rcases hc with h | h
  · subst h
    simp only [Int.reduceEq, if_false, if_true] at h0 ⊢
    exact (sfw_st _ _ _ _).resolve_left (by omega)
  · subst h
    simp only [Int.reduceEq, if_false, if_true] at h0 ⊢
    exact (sbw_st _ _ _).resolve_left (by omega)
theorem SC.dropE {g : Int} {A : kEd} : SC g f_Kb_dropCommand none A (dropQ A) := SC.drop
theorem SC.cmd {g : Int} {x : Tc} {o : Option Tc} {b : Int × Tx} {q : Qd} {s : Int × Int} {l : Int × List Int} {c : Int} (hg : g = 0 ∨ g = 1) (hc : 0 ≤ c ∧ c ≤ 126) (hx : wfX x) (hb : wfB b) (hq : wfQ q) : SC g (f_Kb_command c) (some (cmdA g (x, o, b, q, (0, s.1, s.2, []), l) c).1) (x, o, b, q, (0, s.1, s.2, []), l) (cmdA g (x, o, b, q, (0, s.1, s.2, []), l) c).2 := by
  obtain ⟨w1, w2, w3, w4, w5, w6, w7, w8⟩ := hx.sz
  obtain ⟨q1, q2, q3, q4, q5, q6, q7, q8⟩ := hq
  have hn : 0 ≤ q.2.1 ∧ q.2.1 ≤ 99 := by omega
  have hop : -1000 ≤ q.1 ∧ q.1 ≤ 1000 := by
    rcases q7 with h | h
    · omega
    · unfold isOp at h
      omega
  have hk : q.2.2.2.length ≤ 3 := by
    split at q8 <;> omega
  have hk' : (q.2.2.2 ++ [c]).length ≤ 4 := by
    rw [List.length_append, List.length_singleton]
    omega
  unfold f_Kb_command fb_Kb_command_0
  refine SC.u (SC.add hk) ?_
  have g9 : ∀ {σ}, CE g (x, o, b, (q.1, q.2.1, q.2.2.1, q.2.2.2 ++ [c]), (0, s.1, s.2, []), l) σ → σ 5 0 9 = q.1 := fun k => k.2.2.2.1.1
  have g7 : ∀ {σ}, CE g (x, o, b, (q.1, q.2.1, q.2.2.1, q.2.2.2 ++ [c]), (0, s.1, s.2, []), l) σ → σ 5 0 7 = q.2.1 := fun k => k.2.2.2.1.2.1
  have g8 : ∀ {σ}, CE g (x, o, b, (q.1, q.2.1, q.2.2.1, q.2.2.2 ++ [c]), (0, s.1, s.2, []), l) σ → σ 5 0 8 = q.2.2.1 := fun k => k.2.2.2.1.2.2.1
  unfold cmdA pend
  dsimp only
  -- count keys and operators
  have hcount : ∀ {σ}, CE g (x, o, b, (q.1, q.2.1, q.2.2.1, q.2.2.2 ++ [c]), (0, s.1, s.2, []), l) σ → f_Kb_isCountKey c σ = some (some (if q.2.2.1 = 1 ∧ 48 ≤ c ∧ c ≤ 57 ∨ q.2.2.1 = 0 ∧ 49 ≤ c ∧ c ≤ 57 then 1 else 0), σ) := by
    intro σ k
    unfold f_Kb_isCountKey fb_Kb_isCountKey_0 fb_Kb_isCountKey_8 fb_Kb_isCountKey_14 fb_Kb_isCountKey_22 fb_Kb_isCountKey_27 fb_Kb_isCountKey_29 fb_Kb_isCountKey_32 fb_Kb_isCountKey_36 fb_Kb_isCountKey_37
    rw [g8 k, kg_pos (by omega), kg_pos (by omega), kg_pos (by omega), kg_pos (by omega), kg_pos (by omega), kg_pos (by omega), kg_pos (by omega)]
    by_cases h : q.2.2.1 = 1 ∧ 48 ≤ c ∧ c ≤ 57 ∨ q.2.2.1 = 0 ∧ 49 ≤ c ∧ c ≤ 57
    · rw [if_pos h, if_neg (by omega), if_neg (by omega)]
      by_cases h2 : q.2.2.1 = 0
      · rw [if_pos h2, if_neg (by omega)]
      · rw [if_neg h2, if_neg (by omega)]
    · rw [if_neg h]
      repeat' split
      all_goals first | rfl | (exfalso; omega)
  have hoper : ∀ σ : kS, f_Kb_isOperator c σ = some (some (if c = 100 ∨ c = 99 ∨ c = 121 then 1 else 0), σ) := by
    intro σ
    unfold f_Kb_isOperator fb_Kb_isOperator_0 fb_Kb_isOperator_6 fb_Kb_isOperator_12 fb_Kb_isOperator_18 fb_Kb_isOperator_22 fb_Kb_isOperator_23
    simp only [kg_pos (show -2147483648 ≤ c ∧ c < 2147483648 by omega)]
    rw [kg_pos (by decide), kg_pos (by decide)]
    repeat' split
    all_goals first | rfl | (exfalso; omega)
  by_cases p1 : q.1 = 0 ∧ (q.2.2.1 = 1 ∧ 48 ≤ c ∧ c ≤ 57 ∨ q.2.2.1 = 0 ∧ 49 ≤ c ∧ c ≤ 57)
  · rw [if_pos p1]
    refine SC.cg (f := fb_Kb_command_23 c) ?_ fun σ k => ?_
    · intro σ k
      have z7 := g7 k
      have z8 := g8 k
      obtain ⟨k1, k2, k3, k4, k5, k6, k7⟩ := k
      unfold fb_Kb_command_23
      refine ⟨_, rfl, ⟨k1, ?_, k3, ⟨k4.1.trans p1.1, ?_, ?_, k4.2.2.2⟩, k5, k6, k7⟩, (frE.rfl.kup (by decide)).kup (by decide)⟩
      · cases o with
        | none => exact k2
        | some y => exact k2
      · show σ 5 0 7 * 10 + c - 48 = 10 * q.2.1 + c - 48
        omega
      · show σ 5 0 8 + 1 = q.2.2.1 + 1
        omega
    · unfold fb_Kb_command_8
      rw [g9 k, kg_pos (by omega), if_pos p1.1]
      unfold fb_Kb_command_15
      rw [kbi_eq (hcount k), if_pos p1.2]
      unfold fb_Kb_command_20
      rw [kg_pos (by decide), if_neg (by decide)]
  rw [if_neg p1]
  have e51 : ∀ {σ}, CE g (x, o, b, (q.1, q.2.1, q.2.2.1, q.2.2.2 ++ [c]), (0, s.1, s.2, []), l) σ → fb_Kb_command_8 c σ = fb_Kb_command_51 c σ := by
    intro σ k
    unfold fb_Kb_command_8
    rw [g9 k, kg_pos (by omega)]
    by_cases h : q.1 = 0
    · rw [if_pos h]
      unfold fb_Kb_command_15
      rw [kbi_eq (hcount k), if_neg (fun z => p1 ⟨h, z⟩)]
      unfold fb_Kb_command_20
      rw [kg_pos (by decide), if_pos rfl]
    · rw [if_neg h]
  by_cases p2 : q.1 = 0 ∧ (c = 100 ∨ c = 99 ∨ c = 121)
  · rw [if_pos p2]
    refine SC.cg (f := fb_Kb_command_65 c) ?_ fun σ k => ?_
    · intro σ k
      obtain ⟨k1, k2, k3, k4, k5, k6, k7⟩ := k
      unfold fb_Kb_command_65
      refine ⟨_, rfl, ⟨k1, ?_, k3, ⟨rfl, k4.2⟩, k5, k6, k7⟩, frE.rfl.kup (by decide)⟩
      cases o with
      | none => exact k2
      | some y => exact k2
    · rw [e51 k]
      unfold fb_Kb_command_51
      rw [g9 k, kg_pos (by omega), if_pos p2.1]
      unfold fb_Kb_command_58
      rw [kbi_eq (hoper σ), if_pos p2.2]
      unfold fb_Kb_command_62
      rw [kg_pos (by decide), if_neg (by decide)]
  rw [if_neg p2]
  have e72 : ∀ {σ}, CE g (x, o, b, (q.1, q.2.1, q.2.2.1, q.2.2.2 ++ [c]), (0, s.1, s.2, []), l) σ → fb_Kb_command_8 c σ = (if q.1 = 0 ∨ c = 27 then fb_Kb_command_110 c 1 (lead x c q.2.1) σ else fb_Kb_command_100 c 1 (lead x c q.2.1) σ) := by
    intro σ k
    have hX : CX σ 0 x := k.1
    have e : fb_Kb_command_8 c σ = fb_Kb_command_72 c σ := by
      rw [e51 k]
      unfold fb_Kb_command_51
      rw [g9 k, kg_pos (by omega)]
      by_cases h : q.1 = 0
      · rw [if_pos h]
        unfold fb_Kb_command_58
        rw [kbi_eq (hoper σ), if_neg (fun z => p2 ⟨h, z⟩)]
        unfold fb_Kb_command_62
        rw [kg_pos (by decide), if_pos rfl]
      · rw [if_neg h]
    rw [e]
    unfold fb_Kb_command_72
    rw [g7 k, kbi_eq (C_lead hX hx hc hn)]
    unfold fb_Kb_command_86
    rw [g9 k, kg_pos (by omega)]
    by_cases h : q.1 = 0
    · rw [if_pos h, if_pos (.inl h)]
    · rw [if_neg h]
      unfold fb_Kb_command_94
      rw [kg_pos (by omega)]
      by_cases h2 : c = 27
      · rw [if_pos h2, if_pos (.inr h2)]
      · rw [if_neg h2, if_neg (by omega)]
  show SC g _ (some (if c = 27 then _ else _ : Int × kEd).1) _ (if c = 27 then _ else _ : Int × kEd).2
  have hlr := lead_r (c := c) hx hn
  have hend : ∀ (y p : Int) (A : kEd), y = 0 ∨ y = 1 → SC g (fb_Kb_command_182 c y p) (some y) A (dropQ A) := by
    intro y p A hy
    unfold fb_Kb_command_182
    exact SC.u SC.dropE (SC.read fun σ _ => by
      unfold fb_Kb_command_186
      rw [kg_pos hy])
  have hoprR : ∀ A cc pp, (opr g A cc pp).1 = 0 ∨ (opr g A cc pp).1 = 1 := by
    intro A cc pp
    unfold opr
    repeat' split
    all_goals first | exact .inl rfl | exact .inr rfl | exact chA_01 _ _ _ _
  by_cases p3 : c = 27
  · rw [if_pos p3]
    refine SC.cg (f := fb_Kb_command_182 c 1 (lead x c q.2.1)) (hend 1 _ _ (.inr rfl)) fun σ k => ?_
    rw [e72 k, if_pos (.inr p3)]
    have hl : lead x c q.2.1 = -1 := by
      unfold lead
      subst p3
      simp only [Int.reduceEq, if_false]
    rw [hl]
    unfold fb_Kb_command_110
    rw [kg_pos (by omega), if_neg (by omega)]
    unfold fb_Kb_command_133
    rw [kg_pos (by decide), if_pos (by decide)]
    unfold fb_Kb_command_155
    rw [kg_pos (by omega), if_pos p3]
  rw [if_neg p3]
  by_cases p4 : q.1 ≠ 0
  · rw [if_pos p4]
    refine SC.cg (f := fb_Kb_command_100 c 1 (lead x c q.2.1)) ?_ fun σ k => by rw [e72 k, if_neg (by omega)]
    unfold fb_Kb_command_100
    refine SC.i (SC.opr1 (q := (q.1, q.2.1, q.2.2.1, q.2.2.2 ++ [c])) hg hc hx hk' (q7.resolve_left p4) hn hlr ?_) (hend _ _ _ (hoprR _ _ _))
    intro h1 h2 h3
    have := lead_wb h1 h2
    rw [h3] at this
    omega
  rw [if_neg p4]
  have p4' : q.1 = 0 := by omega
  by_cases p5 : c = 120
  · rw [if_pos p5]
    refine SC.cg (f := fb_Kb_command_116 c 1 (lead x c q.2.1)) ?_ fun σ k => by
      rw [e72 k, if_pos (.inl p4')]
      unfold fb_Kb_command_110
      rw [kg_pos (by omega), if_pos p5]
    unfold fb_Kb_command_116
    intro σ k
    have hk2 : CE g (x, o, b, (100, q.2.1, q.2.2.1, q.2.2.2 ++ [c]), (0, s.1, s.2, []), l) (kup σ 5 0 9 100) ∧ frE σ (kup σ 5 0 9 100) := by
      obtain ⟨k1, k2, k3, k4, k5, k6, k7⟩ := k
      refine ⟨⟨k1, ?_, k3, ⟨rfl, k4.2⟩, k5, k6, k7⟩, frE.rfl.kup (by decide)⟩
      cases o with
      | none => exact k2
      | some y => exact k2
    obtain ⟨σ2, y1, y2, y3⟩ := SC.i (k := fun y σ1 => fb_Kb_command_129 c 1 (lead x c q.2.1) y σ1) (SC.opr1 (g := g) (x := x) (o := o) (b := b) (q := (100, q.2.1, q.2.2.1, q.2.2.2 ++ [c])) (s := s) (l := l) (c := 108) (p := lead x c q.2.1) hg (by decide) hx hk' (.inl rfl) hn hlr (fun h => by omega)) (hend _ (lead x c q.2.1) _ (hoprR _ _ _)) (kup σ 5 0 9 100) hk2.1
    exact ⟨σ2, y1, y2, hk2.2.tr y3⟩
  rw [if_neg p5]
  by_cases p6 : 0 ≤ lead x c q.2.1
  · rw [if_pos p6]
    refine SC.cg (f := fun σ => kbu (f_Te_stand (lead x c q.2.1 / 32) (lead x c q.2.1 % 32) 0 σ) fun σ1 => fb_Kb_command_152 c 1 (lead x c q.2.1) σ1) ?_ fun σ k => by
      rw [e72 k, if_pos (.inl p4')]
      unfold fb_Kb_command_110
      rw [kg_pos (by omega), if_neg p5]
      unfold fb_Kb_command_133
      rw [kg_pos (by omega), if_neg (by omega)]
      unfold fb_Kb_command_137
      rw [k_div (by omega) (by decide), k_mod (by omega) (by decide)]
    exact SC.u (SC.stand w4 (by omega) (by omega)) (hend 1 _ _ (.inr rfl))
  rw [if_neg p6]
  have e161 : ∀ {σ}, CE g (x, o, b, (q.1, q.2.1, q.2.2.1, q.2.2.2 ++ [c]), (0, s.1, s.2, []), l) σ → fb_Kb_command_8 c σ = (if q.2.2.1 = 0 then fb_Kb_command_168 c 1 (lead x c q.2.1) σ else fb_Kb_command_182 c 0 (lead x c q.2.1) σ) := by
    intro σ k
    rw [e72 k, if_pos (.inl p4')]
    unfold fb_Kb_command_110
    rw [kg_pos (by omega), if_neg p5]
    unfold fb_Kb_command_133
    rw [kg_pos (by omega), if_pos (by omega)]
    unfold fb_Kb_command_155
    rw [kg_pos (by omega), if_neg p3]
    unfold fb_Kb_command_161
    rw [g8 k, kg_pos (by omega)]
    rfl
  by_cases p7 : q.2.2.1 = 0
  · rw [if_pos p7]
    refine SC.cg (f := fb_Kb_command_168 c 1 (lead x c q.2.1)) ?_ fun σ k => by rw [e161 k, if_pos p7]
    unfold fb_Kb_command_168
    have hpR : ∀ A, (plnA g A c).1 = 0 ∨ (plnA g A c).1 = 1 := by
      intro A
      unfold plnA
      repeat' split
      all_goals first | exact .inl rfl | exact .inr rfl | exact canP_01 _ _
    have hpl := SC.pln (g := g) (x := x) (o := o) (b := b) (q := (0, q.2.1, q.2.2.1, q.2.2.2 ++ [c])) (s := s) (l := l) (c := c) hg hc hx hb hk'
    rw [p4']
    refine SC.i hpl (SC.cg (hend _ (lead x c q.2.1) _ (hpR _)) fun σ _ => ?_)
    have h01 := hpR (x, o, b, (0, q.2.1, q.2.2.1, q.2.2.2 ++ [c]), (0, s.1, s.2, []), l)
    unfold fb_Kb_command_173 fb_Kb_command_180 fb_Kb_command_176 fb_Kb_command_181
    rw [kg_pos (by omega)]
    rcases h01 with h | h
    · rw [if_pos h]
      exact (congrArg (fun y => fb_Kb_command_182 c y (lead x c q.2.1) σ) h).symm
    · rw [if_neg (by omega)]
      exact (congrArg (fun y => fb_Kb_command_182 c y (lead x c q.2.1) σ) h).symm
  · rw [if_neg p7]
    refine SC.cg (f := fb_Kb_command_182 c 0 (lead x c q.2.1)) (hend 0 _ _ (.inl rfl)) fun σ k => by rw [e161 k, if_neg p7]
