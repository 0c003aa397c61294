/-! Pure: the reference's editing, step by step. B: the text as it was (BEFORE). -/
def frF (σ σ' : kS) : Prop := (∀ a, a ≠ 9 → a < 20 → σ' a = σ a) ∧ (∀ a, 34 ≤ a → σ' a = σ a) ∧ (∀ c, c = 34 ∨ 37 ≤ c → σ' 9 0 c = σ 9 0 c) ∧ (∀ j, 1000 ≤ j → σ' 20 0 j = σ 20 0 j) ∧ (∀ j, 50 ≤ j → σ' 21 0 j = σ 21 0 j) ∧ (∀ k, 22 ≤ k → k ≤ 24 → ∀ j, 5 ≤ j → σ' k 0 j = σ k 0 j)
theorem frF.rfl {σ : kS} : frF σ σ := ⟨fun _ _ _ => Eq.refl _, fun _ _ => Eq.refl _, fun _ _ => Eq.refl _, fun _ _ => Eq.refl _, fun _ _ => Eq.refl _, fun _ _ _ _ _ => Eq.refl _⟩
theorem frF.tr {σ σ' σ'' : kS} (h : frF σ σ') (h2 : frF σ' σ'') : frF σ σ'' := ⟨fun a ha hb => (h2.1 a ha hb).trans (h.1 a ha hb), fun a ha => (h2.2.1 a ha).trans (h.2.1 a ha), fun a ha => (h2.2.2.1 a ha).trans (h.2.2.1 a ha), fun a ha => (h2.2.2.2.1 a ha).trans (h.2.2.2.1 a ha), fun a ha => (h2.2.2.2.2.1 a ha).trans (h.2.2.2.2.1 a ha), fun k h3 h4 j h5 => (h2.2.2.2.2.2 k h3 h4 j h5).trans (h.2.2.2.2.2 k h3 h4 j h5)⟩
theorem kup_jj {σ : kS} {k i j a b c : Nat} {x : Int} (h : ¬ (a = k ∧ b = i ∧ c = j)) : kup σ k i j x a b c = σ a b c := if_neg h
theorem frF.kup {σ σ' : kS} {k j : Nat} {x : Int} (h : frF σ σ') (hk : k = 9 ∧ j ≠ 34 ∧ j < 37 ∨ 25 ≤ k ∧ k < 34 ∨ k = 20 ∧ j < 1000 ∨ k = 21 ∧ j < 50 ∨ 22 ≤ k ∧ k ≤ 24 ∧ j < 5) : frF σ (kup σ' k 0 j x) :=
  h.tr ⟨fun a ha hb => kup_kk (by omega), fun a ha => kup_kk (by omega), fun c hc => kup_jj (by omega), fun c hc => kup_jj (by omega), fun c hc => kup_jj (by omega), fun a ha hb c hc => kup_jj (by omega)⟩
theorem frF.frR {σ σ' : kS} (h : frF σ σ') : frR σ σ' := h.1
theorem frF.sM1 {σ σ' : kS} {F G : Nat → Int} (h : frF σ σ') (h1 : ∀ j, 1000 ≤ j → F j = σ' 20 0 j) (h2 : ∀ j, 50 ≤ j → G j = σ' 21 0 j) : frF σ (sM σ' F G) := by
  refine h.tr ⟨fun a ha hb => ?_, fun a ha => ?_, fun c hc => ?_, fun c hc => ?_, fun c hc => ?_, fun a ha hb c hc => ?_⟩
  · unfold sM
    rw [kupA_kk (by omega), kupA_kk (by omega)]
  · unfold sM
    rw [kupA_kk (by omega), kupA_kk (by omega)]
  · rw [sM_o (by decide) (by decide)]
  · rw [sM_20]
    exact h1 c hc
  · rw [sM_21]
    exact h2 c hc
  · rw [sM_o (by omega) (by omega)]
theorem frF.sX {σ σ' : kS} {a b : Nat} (h : frF σ σ') (hb : b < 5) : frF σ (sX σ' a b) := by
  refine h.tr ⟨fun k h1 h2 => ?_, fun k h1 => ?_, fun c hc => ?_, fun c hc => ?_, fun c hc => ?_, fun k h1 h2 c hc => ?_⟩
  · funext i
    exact sX_o _ _ _ (.inl h2) i
  · funext i
    exact sX_o _ _ _ (.inr (by omega)) i
  · rw [sX_o _ _ _ (.inl (by decide))]
  · rw [sX_20]
    dsimp only
    rw [if_neg (by omega)]
  · rw [sX_21]
    dsimp only
    rw [if_neg (by omega)]
  · rw [sX_n _ _ _ (by omega), if_neg (by omega)]
theorem RD.frF {D : kDk} {σ σ' : kS} (h : RD D σ) (f : frF σ σ') : RD D σ' := by
  obtain ⟨f1, f2, f3, f4, f5, f6⟩ := f
  obtain ⟨⟨h1, h2⟩, ⟨h3, h4⟩, h5, h6⟩ := h
  refine ⟨⟨h1.fr (fun j _ _ => f4 j (by omega)) (fun j _ _ => f5 j (by omega)), (f6 22 (by decide) (by decide) 5 (by decide)).trans h2⟩, ⟨h3.fr (fun j _ _ => f4 j (by omega)) (fun j _ _ => f5 j (by omega)), (f6 22 (by decide) (by decide) 6 (by decide)).trans h4⟩, (f3 34 (.inl rfl)).trans h5, fun k hk => ?_⟩
  obtain ⟨e1, e2, e3, e4⟩ := h6 k hk
  rw [f2 34 (by decide), f2 35 (by decide), f6 22 (by decide) (by decide) _ (by omega)]
  exact ⟨e1, e2, e3.fr (fun j _ _ => f4 j (by omega)) (fun j _ _ => f5 j (by omega)), e4⟩
theorem RW.frF {W : kWn} {σ σ' : kS} (h : RW W σ) (f : frF σ σ') : RW W σ' := h.cg (fun c hc => f.2.2.1 c (.inr hc)) (f.2.1 36 (by decide))
/-- the reference's editor, and BEFORE -/
def RE2 (g : Int) (B : Option Tc) (A : kEd) (σ : kS) : Prop := RE g A σ ∧ ∀ y, B = some y → RX σ 2 y
def SR (g : Int) (B : Option Tc) (f : kS → kRes) (r : Option Int) (A A' : kEd) : Prop := ∀ σ, RE2 g B A σ → ∃ σ', f σ = some (r, σ') ∧ RE2 g B A' σ' ∧ frF σ σ'
theorem SR.u {g : Int} {B : Option Tc} {f k : kS → kRes} {r : Option Int} {A A1 A2 : kEd} (h : SR g B f none A A1) (h2 : SR g B k r A1 A2) : SR g B (fun σ => kbu (f σ) k) r A A2 := by
  intro σ c
  obtain ⟨σ1, e1, c1, f1⟩ := h σ c
  obtain ⟨σ2, e2, c2, f2⟩ := h2 σ1 c1
  exact ⟨σ2, (kbu_eq e1).trans e2, c2, f1.tr f2⟩
theorem SR.i {g y : Int} {B : Option Tc} {f : kS → kRes} {k : Int → kS → kRes} {r : Option Int} {A A1 A2 : kEd} (h : SR g B f (some y) A A1) (h2 : SR g B (k y) r A1 A2) : SR g B (fun σ => kbi (f σ) k) r A A2 := by
  intro σ c
  obtain ⟨σ1, e1, c1, f1⟩ := h σ c
  obtain ⟨σ2, e2, c2, f2⟩ := h2 σ1 c1
  exact ⟨σ2, (kbi_eq e1).trans e2, c2, f1.tr f2⟩
theorem SR.cg {g : Int} {B : Option Tc} {f f' : kS → kRes} {r : Option Int} {A A' : kEd} (h : SR g B f r A A') (e : ∀ σ, RE2 g B A σ → f' σ = f σ) : SR g B f' r A A' := by
  intro σ c
  rw [e σ c]
  exact h σ c
theorem SR.ret {g : Int} {B : Option Tc} {r : Option Int} {A : kEd} : SR g B (fun σ => some (r, σ)) r A A := fun σ c => ⟨σ, Eq.refl _, c, frF.rfl⟩
theorem SR.read {g : Int} {B : Option Tc} {f : kS → kRes} {r : Option Int} {A : kEd} (h : ∀ σ, RE2 g B A σ → f σ = some (r, σ)) : SR g B f r A A := fun σ c => ⟨σ, h σ c, c, frF.rfl⟩
/-- an effect on the text -/
theorem RE2.t0 {g : Int} {B : Option Tc} {x : Tc} {o : Option Tc} {b : Int × Tx} {q : Qd} {m : Md} {l : Int × List Int} {T : Tx} {F G : Nat → Int} {σ : kS} (c : RE2 g B (x, o, b, q, m, l) σ) (hT : TR F G T) (hF : oF σ F G) : RE2 g B ((T, x.2), o, b, q, m, l) (sR σ F G T.length) ∧ frF σ (sR σ F G T.length) := by
  obtain ⟨⟨c1, c2, c3, c4, c5, c6, c7⟩, c8⟩ := c
  have e20 : ∀ j, 200 ≤ j → sR σ F G T.length 20 0 j = σ 20 0 j := fun j hj => by
    rw [sR_20]
    exact hF.1 j hj
  have e21 : ∀ j, 10 ≤ j → sR σ F G T.length 21 0 j = σ 21 0 j := fun j hj => by
    rw [sR_21]
    exact hF.2 j hj
  have e22 : ∀ k, 22 ≤ k → k ≤ 24 → ∀ j, 1 ≤ j → sR σ F G T.length k 0 j = σ k 0 j := fun k h1 h2 j hj => by
    by_cases h : k = 22
    · subst h
      exact sR_22' (by omega)
    · rw [sR_o (by omega) (by omega) (by omega)]
  refine ⟨⟨⟨⟨RT0.mpr ?_, ?_, c1.2.2.1, c1.2.2.2⟩, ?_, ⟨c3.1, c3.2.fr (fun j _ _ => e20 j (by omega)) (fun j _ _ => e21 j (by omega))⟩, c4, c5, c6, c7⟩, fun y hy => (c8 y hy).fr (fun j _ _ => e20 j (by omega)) (fun j _ _ => e21 j (by omega)) (fun k h1 h2 => e22 k h1 h2 2 (by decide))⟩, ?_⟩
  · rw [sR_20, sR_21]
    exact hT
  · exact sR_22 _ _ _ _
  · cases o with
    | none => exact c2
    | some y => exact ⟨c2.1, c2.2.fr (fun j _ _ => e20 j (by omega)) (fun j _ _ => e21 j (by omega)) (fun k h1 h2 => e22 k h1 h2 1 (by decide))⟩
  · exact ((frF.rfl).sM1 (fun j hj => hF.1 j (by omega)) (fun j hj => hF.2 j (by omega))).kup (by decide)
theorem SR.t0 {g : Int} {B : Option Tc} {x : Tc} {f : kS → kRes} {r : Option Int} {o : Option Tc} {b : Int × Tx} {q : Qd} {m : Md} {l : Int × List Int} {T : Tx} (h : ∀ σ, RE2 g B (x, o, b, q, m, l) σ → ToR (f σ) r σ T) : SR g B f r (x, o, b, q, m, l) ((T, x.2), o, b, q, m, l) := by
  intro σ c
  obtain ⟨F, G, e, hT, hF⟩ := h σ c
  obtain ⟨z1, z2⟩ := c.t0 hT hF
  exact ⟨_, e, z1, z2⟩
/-- a field of the object that the editor's state doesn't name -/
theorem RE.cg3 {g : Int} {A : kEd} {σ σ' : kS} (h : RE g A σ) (e9 : ∀ c, c < 22 → c ≠ 16 → c ≠ 17 → c ≠ 19 → σ' 9 0 c = σ 9 0 c) (e : ∀ k, 20 ≤ k → k ≤ 27 → σ' k = σ k) : RE g A σ' := by
  unfold RE RX RO RB RQ RM RL RX RT at h ⊢
  rw [e 20 (by decide) (by decide), e 21 (by decide) (by decide), e 22 (by decide) (by decide), e 23 (by decide) (by decide), e 24 (by decide) (by decide), e 25 (by decide) (by decide), e 26 (by decide) (by decide), e 27 (by decide) (by decide), e9 5 (by decide) (by decide) (by decide) (by decide), e9 6 (by decide) (by decide) (by decide) (by decide), e9 7 (by decide) (by decide) (by decide) (by decide), e9 8 (by decide) (by decide) (by decide) (by decide), e9 9 (by decide) (by decide) (by decide) (by decide), e9 10 (by decide) (by decide) (by decide) (by decide), e9 12 (by decide) (by decide) (by decide) (by decide), e9 14 (by decide) (by decide) (by decide) (by decide), e9 15 (by decide) (by decide) (by decide) (by decide), e9 18 (by decide) (by decide) (by decide) (by decide), e9 20 (by decide) (by decide) (by decide) (by decide), e9 21 (by decide) (by decide) (by decide) (by decide)]
  exact h
theorem RE2.f9 {g : Int} {B : Option Tc} {A : kEd} {σ : kS} {j : Nat} {v : Int} (c : RE2 g B A σ) (hj : j = 16 ∨ j = 17 ∨ 22 ≤ j ∧ j < 34) : RE2 g B A (kup σ 9 0 j v) ∧ frF σ (kup σ 9 0 j v) :=
  ⟨⟨c.1.cg3 (fun i h1 h2 h3 _ => kup_jj (by omega)) (fun k h1 h2 => kup_kk (by omega)), c.2⟩, frF.rfl.kup (by omega)⟩
theorem RE2.sTo {g : Int} {B : Option Tc} {A : kEd} {σ : kS} {u v : Int} (c : RE2 g B A σ) : RE2 g B A (sTo σ u v) ∧ frF σ (sTo σ u v) := by
  obtain ⟨c1, f1⟩ := c.f9 (j := 16) (v := u) (.inl rfl)
  obtain ⟨c2, f2⟩ := c1.f9 (j := 17) (v := v) (.inr (.inl rfl))
  exact ⟨c2, f1.tr f2⟩
theorem SR.place {g : Int} {B : Option Tc} {x : Tc} {o : Option Tc} {b : Int × Tx} {q : Qd} {m : Md} {l : Int × List Int} {r c : Int} : SR g B (f_Rm_place r c) none (x, o, b, q, m, l) ((x.1, r, c), o, b, q, m, l) := by
  intro σ h
  obtain ⟨⟨c1, c2, c3, c4, c5, c6, c7⟩, c8⟩ := h
  refine ⟨_, rfl, ⟨⟨⟨c1.1, c1.2.1, rfl, rfl⟩, ?_, c3, c4, c5, c6, c7⟩, c8⟩, (frF.rfl.kup (by decide)).kup (by decide)⟩
  cases o with
  | none => exact c2
  | some y => exact c2
theorem SR.bins {g : Int} {B : Option Tc} {x : Tc} {o : Option Tc} {b : Int × Tx} {q : Qd} {s : Int × Int} {md : Int} {l : Int × List Int} {r c : Int} : SR g B (f_Rm_beginInsert r c) none (x, o, b, q, (md, s.1, s.2, []), l) ((x.1, r, c), o, b, q, (1, c, 0, []), l) := by
  intro σ h
  obtain ⟨⟨c1, c2, c3, c4, c5, c6, c7⟩, c8⟩ := h
  refine ⟨_, rfl, ⟨⟨⟨c1.1, c1.2.1, rfl, rfl⟩, ?_, c3, c4, ⟨rfl, fun _ => rfl, fun h => absurd h (show ¬ (1 : Int) = 2 by decide)⟩, c6, c7⟩, c8⟩, (((frF.rfl.kup (by decide)).kup (by decide)).kup (by decide)).kup (by decide)⟩
  cases o with
  | none => exact c2
  | some y => exact c2
theorem SR.drop {g : Int} {B : Option Tc} {x : Tc} {o : Option Tc} {b : Int × Tx} {q : Qd} {m : Md} {l : Int × List Int} : SR g B f_Rm_drop none (x, o, b, q, m, l) (x, o, b, (0, 0, 0, []), m, l) := by
  intro σ h
  obtain ⟨⟨c1, c2, c3, c4, c5, c6, c7⟩, c8⟩ := h
  refine ⟨_, rfl, ⟨⟨c1, ?_, c3, ⟨rfl, rfl, rfl, rfl, kArr_0⟩, c5, c6, c7⟩, c8⟩, (((frF.rfl.kup (by decide)).kup (by decide)).kup (by decide)).kup (by decide)⟩
  cases o with
  | none => exact c2
  | some y => exact c2
def clipX (x : Tc) : Tc := (x.1, x.2.1, if x.2.2 ≤ max 0 (((ln x.1 x.2.1.toNat).length : Int) - 1) then x.2.2 else max 0 (((ln x.1 x.2.1.toNat).length : Int) - 1))
theorem SR.clip {g : Int} {B : Option Tc} {x : Tc} {o : Option Tc} {b : Int × Tx} {q : Qd} {m : Md} {l : Int × List Int} (hr : 0 ≤ x.2.1 ∧ x.2.1 < x.1.length) (hc : -1000 ≤ x.2.2 ∧ x.2.2 ≤ 1000) : SR g B f_Rm_clip none (x, o, b, q, m, l) (clipX x, o, b, q, m, l) := by
  intro σ h
  obtain ⟨⟨c1, c2, c3, c4, c5, c6, c7⟩, c8⟩ := h
  have hX : RX σ 0 x := c1
  obtain ⟨x1, x2, x3, x4⟩ := hX
  have hl := x1.1
  have h20 := (x1.2 x.2.1.toNat (by omega)).2.1
  have hs : σ 21 0 x.2.1.toNat = (ln x.1 x.2.1.toNat).length := Q_sz (by omega) x1 (by omega)
  have e31 : f_Rm_clip σ = fb_Rm_clip_31 (max 0 (((ln x.1 x.2.1.toNat).length : Int) - 1)) σ := by
    unfold f_Rm_clip fb_Rm_clip_0 fb_Rm_clip_14 fb_Rm_clip_30
    rw [x3, hs, kg_pos (by omega), kg_pos (by omega)]
    split
    · exact congrArg (fun z => fb_Rm_clip_31 z σ) (by omega)
    · exact congrArg (fun z => fb_Rm_clip_31 z σ) (by omega)
  have e : f_Rm_clip σ = some (none, kup σ 24 0 0 (clipX x).2.2) := by
    rw [e31]
    unfold fb_Rm_clip_31 fb_Rm_clip_47 fb_Rm_clip_51 fb_Rm_clip_57 clipX
    rw [x4, kg_pos (by omega), kg_pos (by decide), kg_pos (by decide)]
    dsimp only
    split <;> rfl
  refine ⟨_, e, ⟨⟨⟨c1.1, c1.2.1, c1.2.2.1, rfl⟩, ?_, c3, c4, c5, c6, c7⟩, c8⟩, frF.rfl.kup (by decide)⟩
  cases o with
  | none => exact c2
  | some y => exact c2
