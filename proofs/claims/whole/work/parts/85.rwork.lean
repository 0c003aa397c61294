/-! Pure: the reference's command, and its work in COMMAND. -/
def cmdR (A : kEd) (c : Int) : Int × kEd :=
  (pend (A.2.2.2.1.1, A.2.2.2.1.2.1, A.2.2.2.1.2.2.1) c).elim
    (if A.2.2.2.1.1 ≠ 0 then oprR (addK A A.2.2.2.1.1 c) c (lead A.1 c A.2.2.2.1.2.1)
     else if c = 120 then oprR (addK A 100 c) 108 (lead A.1 108 A.2.2.2.1.2.1)
     else if 0 ≤ lead A.1 c A.2.2.2.1.2.1 then (2, ((A.1.1, lead A.1 c A.2.2.2.1.2.1 / 32, lead A.1 c A.2.2.2.1.2.1 % 32), (addK A 0 c).2))
     else if A.2.2.2.1.2.2.1 = 0 then (if c = 47 ∨ c = 58 then (2, (A.1, A.2.1, A.2.2.1, (addK A 0 c).2.2.2.1, (2, 0, if c = 47 then 1 else 0, []), A.2.2.2.2.2)) else plnR (addK A 0 c) c)
     else (0, addK A 0 c))
    (fun q => (1, (A.1, A.2.1, A.2.2.1, (q.1, q.2.1, q.2.2, A.2.2.2.1.2.2.2 ++ [c]), A.2.2.2.2)))
theorem SR.cmd {g : Int} {B : Option Tc} {x : Tc} {o : Option Tc} {b : Int × Tx} {q : Qd} {s : Int × Int} {l : Int × List Int} {c : Int} (hc : 0 ≤ c ∧ c ≤ 126) (hx : wfX x) (hon : onC x) (hb : wfB b) (hq : wfQ q) : SR g B (f_Rm_command c) (some (cmdR (x, o, b, q, (0, s.1, s.2, []), l) c).1) (addK (x, o, b, q, (0, s.1, s.2, []), l) q.1 c) (cmdR (x, o, b, q, (0, s.1, s.2, []), l) c).2 := by
  obtain ⟨w1, w2, w3, w4, w5, w6, w7, w8⟩ := hx.sz
  obtain ⟨q1, q2, q3, q4, q5, q6, q7, q8⟩ := hq
  have hn : 0 ≤ q.2.1 ∧ q.2.1 ≤ 99 := by omega
  have hd : 0 ≤ q.2.2.1 ∧ q.2.2.1 ≤ 2 ∧ (q.2.2.1 = 0 ↔ q.2.1 = 0) := by omega
  have hop : -1000 ≤ q.1 ∧ q.1 ≤ 1000 := by
    rcases q7 with h | h
    · omega
    · unfold isOp at h
      omega
  unfold addK
  dsimp only
  have g8 : ∀ {σ}, RE2 g B (x, o, b, (q.1, q.2.1, q.2.2.1, q.2.2.2 ++ [c]), (0, s.1, s.2, []), l) σ → σ 9 0 8 = q.1 := fun k => k.1.2.2.2.1.1
  have g9 : ∀ {σ}, RE2 g B (x, o, b, (q.1, q.2.1, q.2.2.1, q.2.2.2 ++ [c]), (0, s.1, s.2, []), l) σ → σ 9 0 9 = q.2.1 := fun k => k.1.2.2.2.1.2.1
  have g10 : ∀ {σ}, RE2 g B (x, o, b, (q.1, q.2.1, q.2.2.1, q.2.2.2 ++ [c]), (0, s.1, s.2, []), l) σ → σ 9 0 10 = q.2.2.1 := fun k => k.1.2.2.2.1.2.2.1
  have hI : -2147483648 ≤ c ∧ c < 2147483648 := by omega
  unfold cmdR pend
  dsimp only
  by_cases p1 : q.1 = 0 ∧ (q.2.2.1 = 1 ∧ 48 ≤ c ∧ c ≤ 57 ∨ q.2.2.1 = 0 ∧ 49 ≤ c ∧ c ≤ 57)
  · rw [if_pos p1]
    refine SR.cg (f := fb_Rm_command_46 c) ?_ fun σ k => ?_
    · intro σ k
      have z9 := g9 k
      have z10 := g10 k
      obtain ⟨⟨k1, k2, k3, k4, k5, k6, k7⟩, k8⟩ := k
      unfold fb_Rm_command_46
      refine ⟨_, rfl, ⟨⟨k1, ?_, k3, ⟨k4.1.trans p1.1, ?_, ?_, k4.2.2.2⟩, k5, k6, k7⟩, k8⟩, (frF.rfl.kup (by decide)).kup (by decide)⟩
      · cases o with
        | none => exact k2
        | some y => exact k2
      · show 10 * σ 9 0 9 + c - 48 = 10 * q.2.1 + c - 48
        omega
      · show σ 9 0 10 + 1 = q.2.2.1 + 1
        omega
    · unfold f_Rm_command fb_Rm_command_0 fb_Rm_command_7 fb_Rm_command_15 fb_Rm_command_21 fb_Rm_command_27 fb_Rm_command_34 fb_Rm_command_40
      rw [g8 k, g10 k, kg_pos (by omega), if_pos p1.1, kg_pos (by omega)]
      by_cases h : q.2.2.1 = 1
      · rw [if_pos h, kg_pos hI, if_neg (by omega), kg_pos hI, if_pos (by omega)]
      · rw [if_neg h, kg_pos (by omega), if_pos (by omega), kg_pos hI, if_neg (by omega), kg_pos hI, if_neg (by omega)]
  rw [if_neg p1]
  have e74 : ∀ {σ}, RE2 g B (x, o, b, (q.1, q.2.1, q.2.2.1, q.2.2.2 ++ [c]), (0, s.1, s.2, []), l) σ → f_Rm_command c σ = fb_Rm_command_89 c (max 1 q.2.1) σ := by
    intro σ k
    have e : f_Rm_command c σ = fb_Rm_command_74 c σ := by
      unfold f_Rm_command fb_Rm_command_0
      rw [g8 k, kg_pos (by omega)]
      by_cases h : q.1 = 0
      · rw [if_pos h]
        unfold fb_Rm_command_7 fb_Rm_command_15 fb_Rm_command_21 fb_Rm_command_27 fb_Rm_command_34 fb_Rm_command_40
        rw [g10 k]
        simp only [kg_pos hI]
        rw [kg_pos (by omega), kg_pos (by omega)]
        repeat' split
        all_goals first | rfl | (exfalso; omega)
      · rw [if_neg h]
    rw [e]
    unfold fb_Rm_command_74 fb_Rm_command_81 fb_Rm_command_88
    rw [g10 k, g9 k, kg_pos (by omega)]
    by_cases h : q.2.2.1 ≤ 0
    · rw [if_pos h, show max 1 q.2.1 = 1 by omega]
    · rw [if_neg h, show max 1 q.2.1 = q.2.1 by omega]
  by_cases p4 : q.1 ≠ 0
  · rw [if_neg (fun z => p4 z.1)]
    show SR g B _ (some (if q.1 ≠ 0 then _ else _ : Int × kEd).1) _ (if q.1 ≠ 0 then _ else _ : Int × kEd).2
    rw [if_pos p4]
    refine SR.cg (f := fb_Rm_command_97 c (max 1 q.2.1)) ?_ fun σ k => by
      rw [e74 k]
      unfold fb_Rm_command_89
      rw [g8 k, kg_pos (by omega), if_neg p4]
    unfold fb_Rm_command_97
    exact SR.i (SR.opr (q := (q.1, q.2.1, q.2.2.1, q.2.2.2 ++ [c])) hc hx hon (q7.resolve_left p4) hn hd rfl) SR.ret
  have p4' : q.1 = 0 := by omega
  -- which keys may have a count
  have e104 : ∀ {σ}, RE2 g B (x, o, b, (q.1, q.2.1, q.2.2.1, q.2.2.2 ++ [c]), (0, s.1, s.2, []), l) σ → f_Rm_command c σ = (if 0 < q.2.2.1 ∧ ¬ (c = 104 ∨ c = 108 ∨ c = 106 ∨ c = 107 ∨ c = 71 ∨ c = 119 ∨ c = 98 ∨ c = 100 ∨ c = 99 ∨ c = 121 ∨ c = 120) then some (some 0, σ) else fb_Rm_command_189 c (max 1 q.2.1) (if c = 104 ∨ c = 108 ∨ c = 106 ∨ c = 107 ∨ c = 71 ∨ c = 119 ∨ c = 98 ∨ c = 100 ∨ c = 99 ∨ c = 121 ∨ c = 120 then 1 else 0) σ) := by
    intro σ k
    rw [e74 k]
    unfold fb_Rm_command_89
    rw [g8 k, kg_pos (by omega), if_pos p4']
    have e : fb_Rm_command_104 c (max 1 q.2.1) σ = fb_Rm_command_175 c (max 1 q.2.1) (if c = 104 ∨ c = 108 ∨ c = 106 ∨ c = 107 ∨ c = 71 ∨ c = 119 ∨ c = 98 ∨ c = 100 ∨ c = 99 ∨ c = 121 ∨ c = 120 then 1 else 0) σ := by
      unfold fb_Rm_command_104 fb_Rm_command_110 fb_Rm_command_116 fb_Rm_command_122 fb_Rm_command_128 fb_Rm_command_134 fb_Rm_command_140 fb_Rm_command_146 fb_Rm_command_152 fb_Rm_command_158 fb_Rm_command_164 fb_Rm_command_170 fb_Rm_command_174
      simp only [kg_pos hI]
      by_cases h : c = 104 ∨ c = 108 ∨ c = 106 ∨ c = 107 ∨ c = 71 ∨ c = 119 ∨ c = 98 ∨ c = 100 ∨ c = 99 ∨ c = 121 ∨ c = 120
      · rw [if_pos h]
        repeat' split
        all_goals first | rfl | (exfalso; omega)
      · rw [if_neg h, if_neg (by omega), if_neg (by omega), if_neg (by omega), if_neg (by omega), if_neg (by omega), if_neg (by omega), if_neg (by omega), if_neg (by omega), if_neg (by omega), if_neg (by omega), if_neg (by omega)]
    rw [e]
    unfold fb_Rm_command_175 fb_Rm_command_183 fb_Rm_command_187
    rw [g10 k, kg_pos (by omega)]
    by_cases h : c = 104 ∨ c = 108 ∨ c = 106 ∨ c = 107 ∨ c = 71 ∨ c = 119 ∨ c = 98 ∨ c = 100 ∨ c = 99 ∨ c = 121 ∨ c = 120
    · rw [if_pos h]
      by_cases h2 : q.2.2.1 ≤ 0
      · rw [if_pos h2, if_neg (fun z => z.2 h)]
      · rw [if_neg h2, kg_pos (by decide), if_neg (by decide), if_neg (fun z => z.2 h)]
    · rw [if_neg h, kg_pos (by decide), if_pos rfl]
      by_cases h2 : q.2.2.1 ≤ 0
      · rw [if_pos h2, if_neg (fun z => by omega)]
      · rw [if_neg h2, if_pos ⟨by omega, h⟩]
  by_cases p2 : q.1 = 0 ∧ (c = 100 ∨ c = 99 ∨ c = 121)
  · rw [if_pos p2]
    refine SR.cg (f := fun σ => some (some 1, kup σ 9 0 8 c)) ?_ fun σ k => ?_
    · intro σ k
      obtain ⟨⟨k1, k2, k3, k4, k5, k6, k7⟩, k8⟩ := k
      refine ⟨_, rfl, ⟨⟨k1, ?_, k3, ⟨rfl, k4.2⟩, k5, k6, k7⟩, k8⟩, frF.rfl.kup (by decide)⟩
      cases o with
      | none => exact k2
      | some y => exact k2
    · rw [e104 k, if_neg (fun z => z.2 (by omega))]
      unfold fb_Rm_command_189 fb_Rm_command_195 fb_Rm_command_201 fb_Rm_command_207
      simp only [kg_pos hI]
      repeat' split
      all_goals first | rfl | (exfalso; omega)
  rw [if_neg p2]
  show SR g B _ (some (if q.1 ≠ 0 then _ else _ : Int × kEd).1) _ (if q.1 ≠ 0 then _ else _ : Int × kEd).2
  rw [if_neg p4]
  have p2' : ¬ (c = 100 ∨ c = 99 ∨ c = 121) := fun z => p2 ⟨p4', z⟩
  have e214 : ∀ v σ, fb_Rm_command_189 c (max 1 q.2.1) v σ = fb_Rm_command_214 c (max 1 q.2.1) v σ := by
    intro v σ
    unfold fb_Rm_command_189 fb_Rm_command_195 fb_Rm_command_201
    simp only [kg_pos hI]
    rw [if_neg (by omega), if_neg (by omega), if_neg (by omega)]
  by_cases p5 : c = 120
  · rw [if_pos p5]
    refine SR.cg (f := fb_Rm_command_220 c (max 1 q.2.1) 1) ?_ fun σ k => by
      rw [e104 k, if_neg (fun z => z.2 (by omega)), if_pos (by omega), e214]
      unfold fb_Rm_command_214
      rw [kg_pos hI, if_pos p5]
    unfold fb_Rm_command_220
    intro σ k
    have hk2 : RE2 g B (x, o, b, (100, q.2.1, q.2.2.1, q.2.2.2 ++ [c]), (0, s.1, s.2, []), l) (kup σ 9 0 8 100) ∧ frF σ (kup σ 9 0 8 100) := by
      obtain ⟨⟨k1, k2, k3, k4, k5, k6, k7⟩, k8⟩ := k
      refine ⟨⟨⟨k1, ?_, k3, ⟨rfl, k4.2⟩, k5, k6, k7⟩, k8⟩, frF.rfl.kup (by decide)⟩
      cases o with
      | none => exact k2
      | some y => exact k2
    obtain ⟨σ2, y1, y2, y3⟩ := SR.i (k := fun y σ1 => fb_Rm_command_233 c (max 1 q.2.1) 1 y σ1) (SR.opr (g := g) (B := B) (x := x) (o := o) (b := b) (q := (100, q.2.1, q.2.2.1, q.2.2.2 ++ [c])) (s := s) (l := l) (c := 108) (by decide) hx hon (.inl rfl) hn hd rfl) SR.ret (kup σ 9 0 8 100) hk2.1
    exact ⟨σ2, y1, y2, hk2.2.tr y3⟩
  rw [if_neg p5]
  have hsm : ¬ (c = 36 ∨ c = 48 → q.2.1 = 0) → lead x c q.2.1 = -1 := by
    intro h
    have h1 : c = 36 ∨ c = 48 := by
      rcases Classical.em (c = 36 ∨ c = 48) with z | z
      · exact z
      · exact absurd (fun y => absurd y z) h
    have h2 : q.2.1 ≠ 0 := fun z => h fun _ => z
    unfold lead
    rcases h1 with z | z
    · rw [if_pos z, if_neg (by omega)]
    · rw [if_neg (by omega), if_pos z, if_neg (by omega)]
  by_cases hcnt : 0 < q.2.2.1 ∧ ¬ (c = 104 ∨ c = 108 ∨ c = 106 ∨ c = 107 ∨ c = 71 ∨ c = 119 ∨ c = 98 ∨ c = 100 ∨ c = 99 ∨ c = 121 ∨ c = 120)
  · have hl : lead x c q.2.1 = -1 := by
      by_cases z : c = 36 ∨ c = 48
      · exact hsm (fun y => by have := y z; omega)
      · unfold lead
        rw [if_neg (by omega), if_neg (by omega), if_neg (by omega), if_neg (by omega), if_neg (by omega), if_neg (by omega), if_neg (by omega), if_neg (by omega), if_neg (by omega)]
    rw [if_neg (by omega), if_neg (by omega)]
    have hS : SR g B (f_Rm_command c) (some 0) (x, o, b, (q.1, q.2.1, q.2.2.1, q.2.2.2 ++ [c]), (0, s.1, s.2, []), l) (x, o, b, (q.1, q.2.1, q.2.2.1, q.2.2.2 ++ [c]), (0, s.1, s.2, []), l) := SR.read fun σ k => by rw [e104 k, if_pos hcnt]
    rw [p4'] at hS ⊢
    exact hS
  have h0 : c = 36 ∨ c = 48 → q.2.1 = 0 := fun z => by
    have : ¬ 0 < q.2.2.1 := fun y => hcnt ⟨y, by omega⟩
    omega
  have e214' : ∀ {σ}, RE2 g B (x, o, b, (q.1, q.2.1, q.2.2.1, q.2.2.2 ++ [c]), (0, s.1, s.2, []), l) σ → ∃ v, f_Rm_command c σ = fb_Rm_command_234 c (max 1 q.2.1) v σ := fun k => ⟨_, by
    rw [e104 k, if_neg hcnt, e214]
    unfold fb_Rm_command_214
    rw [kg_pos hI, if_neg p5]⟩
  by_cases p6 : c = 47 ∨ c = 58
  · have hl : lead x c q.2.1 = -1 := by
      unfold lead
      rw [if_neg (by omega), if_neg (by omega), if_neg (by omega), if_neg (by omega), if_neg (by omega), if_neg (by omega), if_neg (by omega), if_neg (by omega), if_neg (by omega)]
    have hdz : q.2.2.1 = 0 := by
      have : ¬ 0 < q.2.2.1 := fun y => hcnt ⟨y, by omega⟩
      omega
    rw [if_neg (by omega), if_pos hdz, if_pos p6]
    refine SR.cg (f := fun σ => some (some 2, kup (kup (kup σ 9 0 5 2) 9 0 21 c) 9 0 20 0)) ?_ fun σ k => ?_
    · intro σ k
      obtain ⟨⟨k1, k2, k3, k4, k5, k6, k7⟩, k8⟩ := k
      refine ⟨_, rfl, ⟨⟨k1, ?_, k3, ⟨k4.1.trans p4', k4.2⟩, ⟨rfl, fun h => absurd h (show ¬ (2 : Int) = 1 by decide), fun _ => ⟨?_, rfl, kArr_0⟩⟩, k6, k7⟩, k8⟩, ((frF.rfl.kup (by decide)).kup (by decide)).kup (by decide)⟩
      · cases o with
        | none => exact k2
        | some y => exact k2
      · show c = if (if c = 47 then (1 : Int) else 0) = 1 then 47 else 58
        rcases p6 with h | h
        · rw [if_pos h, if_pos rfl, h]
        · rw [if_neg (by omega), h]
    · obtain ⟨v, e⟩ := e214' k
      rw [e]
      unfold fb_Rm_command_234 fb_Rm_command_240 fb_Rm_command_246
      simp only [kg_pos hI]
      repeat' split
      all_goals first | rfl | (exfalso; omega)
  have e263 : ∀ {σ}, RE2 g B (x, o, b, (q.1, q.2.1, q.2.2.1, q.2.2.2 ++ [c]), (0, s.1, s.2, []), l) σ → f_Rm_command c σ = kbi (f_Rm_motion c (max 1 q.2.1) σ) (fun y σ1 => if y = 0 then kbi (f_Rm_simple c σ1) (fun y σ2 => some (some y, σ2)) else kbu (f_Rm_place (σ1 9 0 16) (σ1 9 0 17) σ1) fun σ2 => some (some 2, σ2)) := by
    intro σ k
    obtain ⟨v, e⟩ := e214' k
    rw [e]
    unfold fb_Rm_command_234 fb_Rm_command_240
    simp only [kg_pos hI]
    rw [if_neg (by omega), if_neg (by omega)]
    obtain ⟨y, u, v', e2, hy⟩ := R_motion k.1.1 hx hon (g10 k) hd hc hn rfl h0
    unfold fb_Rm_command_263
    rw [kbi_eq e2, kbi_eq e2]
    unfold fb_Rm_command_269
    rw [kg_pos (by omega)]
    rfl
  refine SR.cg (SR.sTo (A' := _) (z := lead x c q.2.1) (fun σ k => R_motion (x := x) k.1.1 hx hon (g10 k) hd hc hn rfl h0) (fun h => ?_) (fun u v hu hv hv2 hz σ k k16 k17 => ?_)) fun σ k => e263 k
  · rw [if_neg (show ¬ 0 ≤ lead x c q.2.1 by omega), p4']
    have hdz : ¬ (q.2.2.1 = 0) → (plnR (x, o, b, (0, q.2.1, q.2.2.1, q.2.2.2 ++ [c]), (0, s.1, s.2, []), l) c) = (0, (x, o, b, (0, q.2.1, q.2.2.1, q.2.2.2 ++ [c]), (0, s.1, s.2, []), l)) := by
      intro z
      have : c = 104 ∨ c = 108 ∨ c = 106 ∨ c = 107 ∨ c = 71 ∨ c = 119 ∨ c = 98 ∨ c = 100 ∨ c = 99 ∨ c = 121 ∨ c = 120 := by
        rcases Classical.em (c = 104 ∨ c = 108 ∨ c = 106 ∨ c = 107 ∨ c = 71 ∨ c = 119 ∨ c = 98 ∨ c = 100 ∨ c = 99 ∨ c = 121 ∨ c = 120) with y | y
        · exact y
        · exact absurd ⟨by omega, y⟩ hcnt
      unfold plnR
      rw [if_neg (by omega), if_neg (by omega), if_neg (by omega), if_neg (by omega), if_neg (by omega), if_neg (by omega), if_neg (by omega), if_neg (by omega), if_neg (by omega)]
    have hS := SR.pln (g := g) (B := B) (x := x) (o := o) (b := b) (q := (0, q.2.1, q.2.2.1, q.2.2.2 ++ [c])) (s := s) (l := l) (c := c) hc hx hon hb
    have hS2 := SR.i (k := fun y σ2 => some (some y, σ2)) hS SR.ret
    have e0 : (fun σ1 => if (0 : Int) = 0 then kbi (f_Rm_simple c σ1) (fun y σ2 => some (some y, σ2)) else kbu (f_Rm_place (σ1 9 0 16) (σ1 9 0 17) σ1) fun σ2 => some (some 2, σ2)) = (fun σ1 => kbi (f_Rm_simple c σ1) (fun y σ2 => some (some y, σ2))) := by
      funext σ1
      rw [if_pos rfl]
    rw [e0]
    by_cases z : q.2.2.1 = 0
    · rw [if_pos z, if_neg p6]
      exact hS2
    · rw [if_neg z]
      rw [hdz z] at hS2
      exact hS2
  · (try dsimp only)
    rw [if_pos (show 0 ≤ lead x c q.2.1 by omega), if_neg (show ¬ (1 : Int) = 0 by decide), k16, k17, show lead x c q.2.1 / 32 = u by omega, show lead x c q.2.1 % 32 = v by omega]
    have hP := SR.u (k := fun σ2 => some (some 2, σ2)) (SR.place (g := g) (B := B) (x := x) (o := o) (b := b) (q := (q.1, q.2.1, q.2.2.1, q.2.2.2 ++ [c])) (m := (0, s.1, s.2, [])) (l := l) (r := u) (c := v)) SR.ret σ k
    rw [p4'] at hP
    exact hP
