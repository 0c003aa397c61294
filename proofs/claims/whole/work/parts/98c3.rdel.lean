/-! Pure: d and the noted lines, the reference's side. -/
/-- besides frF: the reference's other fields and arrays stay -/
def frM (σ σ' : kS) : Prop := (∀ a, 25 ≤ a → σ' a = σ a) ∧ ∀ c, c ≠ 7 → σ' 9 0 c = σ 9 0 c
theorem frM.rfl {σ : kS} : frM σ σ := ⟨fun _ _ => Eq.refl _, fun _ _ => Eq.refl _⟩
theorem frM.tr {σ σ' σ'' : kS} (h : frM σ σ') (h2 : frM σ' σ'') : frM σ σ'' := ⟨fun a ha => (h2.1 a ha).trans (h.1 a ha), fun c hc => (h2.2 c hc).trans (h.2 c hc)⟩
theorem frM.kup {σ σ' : kS} {k i j : Nat} {x : Int} (h : frM σ σ') (hk : k < 25 ∧ (k = 9 → j = 7)) : frM σ (kup σ' k i j x) := h.tr ⟨fun a ha => kup_kk (by omega), fun c hc => kup_jj (by omega)⟩
theorem frM.m1 {σ σ' : kS} {F G : Nat → Int} (h : frM σ σ') : frM σ (sM σ' F G) := h.tr ⟨fun a ha => by unfold sM; rw [kupA_kk (by omega), kupA_kk (by omega)], fun c hc => by rw [sM_o (by decide) (by decide)]⟩
def frK (σ σ' : kS) : Prop := frF σ σ' ∧ frM σ σ'
theorem frK.rfl {σ : kS} : frK σ σ := ⟨frF.rfl, frM.rfl⟩
theorem frK.tr {σ σ' σ'' : kS} (h : frK σ σ') (h2 : frK σ' σ'') : frK σ σ'' := ⟨h.1.tr h2.1, h.2.tr h2.2⟩
def SK (g : Int) (B : Option Tc) (f : kS → kRes) (r : Option Int) (A A' : kEd) : Prop := ∀ σ, RE2 g B A σ → ∃ σ', f σ = some (r, σ') ∧ RE2 g B A' σ' ∧ frK σ σ'
theorem SK.u {g : Int} {B : Option Tc} {f k : kS → kRes} {r : Option Int} {A A1 A2 : kEd} (h : SK g B f none A A1) (h2 : SK g B k r A1 A2) : SK g B (fun σ => kbu (f σ) k) r A A2 := by
  intro σ c
  obtain ⟨σ1, e1, c1, f1⟩ := h σ c
  obtain ⟨σ2, e2, c2, f2⟩ := h2 σ1 c1
  exact ⟨σ2, (kbu_eq e1).trans e2, c2, f1.tr f2⟩
theorem SK.cg {g : Int} {B : Option Tc} {f f' : kS → kRes} {r : Option Int} {A A' : kEd} (h : SK g B f r A A') (e : ∀ σ, RE2 g B A σ → f' σ = f σ) : SK g B f' r A A' := by
  intro σ c
  rw [e σ c]
  exact h σ c
theorem SK.ret {g : Int} {B : Option Tc} {r : Option Int} {A : kEd} : SK g B (fun σ => some (r, σ)) r A A := fun σ c => ⟨σ, Eq.refl _, c, frK.rfl⟩
theorem SK.t0 {g : Int} {B : Option Tc} {x : Tc} {f : kS → kRes} {r : Option Int} {o : Option Tc} {b : Int × Tx} {q : Qd} {m : Md} {l : Int × List Int} {T : Tx} (h : ∀ σ, RE2 g B (x, o, b, q, m, l) σ → ToR (f σ) r σ T) : SK g B f r (x, o, b, q, m, l) ((T, x.2), o, b, q, m, l) := by
  intro σ c
  obtain ⟨F, G, e, hT, hF⟩ := h σ c
  obtain ⟨z1, z2⟩ := c.t0 hT hF
  refine ⟨_, e, z1, z2, ?_⟩
  unfold sR
  exact (frM.m1 frM.rfl).kup ⟨by decide, fun h => absurd h (by decide)⟩
theorem SK.place {g : Int} {B : Option Tc} {x : Tc} {o : Option Tc} {b : Int × Tx} {q : Qd} {m : Md} {l : Int × List Int} {r c : Int} : SK g B (f_Rm_place r c) none (x, o, b, q, m, l) ((x.1, r, c), o, b, q, m, l) := by
  intro σ h
  obtain ⟨⟨c1, c2, c3, c4, c5, c6, c7⟩, c8⟩ := h
  refine ⟨_, rfl, ⟨⟨⟨c1.1, c1.2.1, rfl, rfl⟩, ?_, c3, c4, c5, c6, c7⟩, c8⟩, (frF.rfl.kup (by decide)).kup (by decide), (frM.rfl.kup (by decide)).kup (by decide)⟩
  cases o with
  | none => exact c2
  | some y => exact c2
theorem SK.hold {g : Int} {B : Option Tc} {x : Tc} {o : Option Tc} {b : Int × Tx} {q : Qd} {m : Md} {l : Int × List Int} {i j : Nat} {xi xj : Int} (hi : xi = i) (hj : xj = j) (hij : i ≤ j) (hjl : j < x.1.length) (hl : x.1.length ≤ 10) : SK g B (f_Rm_hold xi xj) none (x, o, b, q, m, l) (x, o, ((j : Int) - i + 1, slc x.1 i (j + 1)), q, m, l) := by
  subst hi hj
  intro σ c
  obtain ⟨c1, f1⟩ := c.kind (v := (j : Int) - i + 1)
  have g1 : frM σ (kup σ 9 0 7 ((j : Int) - i + 1)) := frM.rfl.kup (by decide)
  have e := L_hold (σ := kup σ 9 0 7 ((j : Int) - i + 1)) (a := i) (b := j) (by omega) (j + 1 - i) 3000 i (kup σ 9 0 7 ((j : Int) - i + 1) 20 0) (kup σ 9 0 7 ((j : Int) - i + 1) 21 0) (by omega) (by omega) (by omega)
  rw [sM_id] at e
  have hX : RT (kup σ 9 0 7 ((j : Int) - i + 1)) 0 x.1 := c.1.1.1
  unfold f_Rm_hold fb_Rm_hold_0
  generalize kup σ 9 0 7 ((j : Int) - i + 1) = τ at c1 f1 g1 e hX ⊢
  have hs := slc_len (X := x.1) (a := i) (b := j + 1) (by omega)
  have hTR : TR (fun p => (fun k => if 800 + 20 * (i - i) ≤ k ∧ k < 800 + 20 * (j + 1 - i) then τ 20 0 (20 * i + (k - 800)) else τ 20 0 k) (800 + p)) (fun p => (fun k => if 40 + (i - i) ≤ k ∧ k < 40 + (j + 1 - i) then τ 21 0 (i + (k - 40)) else τ 21 0 k) (40 + p)) (slc x.1 i (j + 1)) := by
    refine ⟨by omega, fun p hp => ?_⟩
    have hg : ln (slc x.1 i (j + 1)) p = ln x.1 (i + p) := slc_gd [] (by omega)
    obtain ⟨t1, t2, t3⟩ := hX.2 (i + p) (by omega)
    rw [hg]
    refine ⟨?_, t2, fun c hc => ?_⟩
    · dsimp only
      rw [if_pos (by omega), ← t1]
      exact congrArg (τ 21 0) (by omega)
    · dsimp only
      rw [if_pos (by omega), ← t3 c hc]
      exact congrArg (τ 20 0) (by omega)
  obtain ⟨c2, f2⟩ := c1.t4 (F := fun k => if 800 + 20 * (i - i) ≤ k ∧ k < 800 + 20 * (j + 1 - i) then τ 20 0 (20 * i + (k - 800)) else τ 20 0 k) (G := fun k => if 40 + (i - i) ≤ k ∧ k < 40 + (j + 1 - i) then τ 21 0 (i + (k - 40)) else τ 21 0 k) hTR (fun k hk => if_neg (by omega)) (fun k hk => if_neg (by omega))
  exact ⟨_, e, c2, f1.tr f2, g1.m1⟩
theorem SK.closeLine {g : Int} {B : Option Tc} {x : Tc} {o : Option Tc} {b : Int × Tx} {q : Qd} {m : Md} {l : Int × List Int} {p : Nat} {xp : Int} (hxp : xp = p) (hp : p < x.1.length) : SK g B (f_Rm_closeLine xp) none (x, o, b, q, m, l) ((cut x.1 p (p + 1), x.2), o, b, q, m, l) :=
  SK.t0 fun _ c => R_closeLine (T := x.1) hxp c.1.1.1 c.1.1.2.1 hp
theorem SK.openLine {g : Int} {B : Option Tc} {x : Tc} {o : Option Tc} {b : Int × Tx} {q : Qd} {m : Md} {l : Int × List Int} {p : Nat} {xp : Int} (hxp : xp = p) (hp : p ≤ x.1.length) (hl : x.1.length < 10) : SK g B (f_Rm_openLine xp) none (x, o, b, q, m, l) ((ins x.1 p [[]], x.2), o, b, q, m, l) :=
  SK.t0 fun _ c => R_openLine (T := x.1) hxp c.1.1.1 c.1.1.2.1 hp hl
theorem SK.takeL {g : Int} {B : Option Tc} {o : Option Tc} {b : Int × Tx} {q : Qd} {mm : Md} {l : Int × List Int} {i j : Nat} (hj : j < 10) : ∀ (m n k : Nat) (T : Tx) (w : Int × Int), k + m = j + 1 → i + m ≤ T.length → m < n → T.length ≤ 10 → SK g B (fl_Rm_takeLines_2 n (i : Int) (j : Int) (k : Int)) none ((T, w), o, b, q, mm, l) ((orE (cut T i (i + m)), cl i (((orE (cut T i (i + m))).length : Int) - 1), 0), o, b, q, mm, l) := by
  intro m
  induction m with
  | zero =>
    intro n k T w h1 h2 h3 hl
    obtain ⟨n, rfl⟩ : ∃ n', n = n' + 1 := ⟨n - 1, by omega⟩
    have ec : cut T i (i + 0) = T := cut_nil T i
    rw [ec]
    have h32 : ∀ (T : Tx) (w : Int × Int), 0 < T.length → T.length ≤ 10 → i ≤ T.length → SK g B (fb_Rm_takeLines_32 (i : Int) (j : Int) (k : Int)) none ((T, w), o, b, q, mm, l) ((T, cl i ((T.length : Int) - 1), 0), o, b, q, mm, l) := by
      intro T w hT hT2 hi
      refine SK.cg (f := fun σ => kbu (f_Rm_place (cl i ((T.length : Int) - 1)) 0 σ) fun σ1 => fb_Rm_takeLines_59 (i : Int) (j : Int) (k : Int) σ1) (SK.u SK.place SK.ret) fun σ c => ?_
      have hc : σ 22 0 0 = T.length := c.1.1.2.1
      unfold fb_Rm_takeLines_32 fb_Rm_takeLines_43 fb_Rm_takeLines_47 fb_Rm_takeLines_55
      rw [hc, kg_pos (by omega)]
      unfold cl
      split
      · rw [show max 0 (min (i : Int) ((T.length : Int) - 1)) = (T.length : Int) - 1 by omega]
      · rw [show max 0 (min (i : Int) ((T.length : Int) - 1)) = (i : Int) by omega]
    by_cases h0 : T.length = 0
    · have hT : T = [] := List.eq_nil_of_length_eq_zero h0
      subst hT
      refine SK.cg (f := fb_Rm_takeLines_27 (i : Int) (j : Int) (k : Int)) ?_ fun σ c => ?_
      · unfold fb_Rm_takeLines_27
        have := SK.openLine (g := g) (B := B) (x := (([] : Tx), w)) (o := o) (b := b) (q := q) (m := mm) (l := l) (p := 0) (xp := 0) rfl (Nat.zero_le _) (show (0 : Nat) < 10 by decide)
        refine SK.u this ?_
        have hi : i = 0 := by
          rw [List.length_nil] at h2
          omega
        subst hi
        exact h32 [[]] w (by decide) (by decide) (by decide)
      · have hc : σ 22 0 0 = (([] : Tx).length : Int) := c.1.1.2.1
        simp only [fl_Rm_takeLines_2, fb_Rm_takeLines_2, fb_Rm_takeLines_18]
        rw [hc, kg_pos (by omega), if_pos (by omega), kg_pos (by decide), if_pos (by decide)]
    · have e : orE T = T := if_neg h0
      rw [e]
      refine SK.cg (h32 T w (by omega) hl (by omega)) fun σ c => ?_
      have hc : σ 22 0 0 = (T.length : Int) := c.1.1.2.1
      simp only [fl_Rm_takeLines_2, fb_Rm_takeLines_2, fb_Rm_takeLines_18]
      rw [hc, kg_pos (by omega), if_pos (by omega), kg_pos (by omega), if_neg (by omega)]
  | succ m ih =>
    intro n k T w h1 h2 h3 hl
    obtain ⟨n, rfl⟩ : ∃ n', n = n' + 1 := ⟨n - 1, by omega⟩
    have hcl : (cut T i (i + 1)).length = T.length - 1 := by
      rw [cut_len (by omega) (by omega)]
      omega
    refine SK.cg (f := fun σ => kbu (f_Rm_closeLine (i : Int) σ) fun σ1 => fl_Rm_takeLines_2 n (i : Int) (j : Int) ((k + 1 : Nat) : Int) σ1) ?_ fun σ c => ?_
    · have := ih n (k + 1) (cut T i (i + 1)) w (by omega) (by omega) (by omega) (by omega)
      rw [cut_cut (by omega)] at this
      exact SK.u (SK.closeLine rfl (show i < T.length by omega)) this
    · simp only [fl_Rm_takeLines_2, fb_Rm_takeLines_2, fb_Rm_takeLines_7, fb_Rm_takeLines_12]
      rw [kg_pos (by omega), if_neg (by omega)]
      rfl
theorem SK.take {g : Int} {B : Option Tc} {x : Tc} {o : Option Tc} {b : Int × Tx} {q : Qd} {m : Md} {l : Int × List Int} {i j : Nat} {xi xj : Int} (hi : xi = i) (hj : xj = j) (hij : i ≤ j) (hjl : j < x.1.length) (hl : x.1.length ≤ 10) : SK g B (f_Rm_takeLines xi xj) none (x, o, b, q, m, l) (dropX x.1 i j, o, b, q, m, l) := by
  subst hi hj
  have := SK.takeL (g := g) (B := B) (o := o) (b := b) (q := q) (mm := m) (l := l) (i := i) (j := j) (by omega) (j + 1 - i) 3000 i x.1 x.2 (by omega) (by omega) (by omega) hl
  rw [show i + (j + 1 - i) = j + 1 by omega] at this
  exact this
