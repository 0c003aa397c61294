/-! Pure: the reference holds, takes and empties lines; takes characters. -/
theorem L_hold {σ : kS} {a b : Nat} (hb : b < 10) : ∀ (m n k : Nat) (F G : Nat → Int), k + m = b + 1 → a ≤ k → m < n → fl_Rm_hold_11 n (a : Int) (b : Int) (k : Int) (sM σ F G) = some (none, sM σ (fun j => if 800 + 20 * (k - a) ≤ j ∧ j < 800 + 20 * (b + 1 - a) then F (20 * a + (j - 800)) else F j) (fun i => if 40 + (k - a) ≤ i ∧ i < 40 + (b + 1 - a) then G (a + (i - 40)) else G i)) := by
  intro m
  induction m with
  | zero =>
    intro n k F G h1 h2 h3
    obtain ⟨n, rfl⟩ : ∃ n', n = n' + 1 := ⟨n - 1, by omega⟩
    simp only [fl_Rm_hold_11, fb_Rm_hold_11, fb_Rm_hold_32]
    rw [kg_pos (by omega), if_pos (by omega)]
    congr 3
    · funext j
      rw [if_neg (by omega)]
    · funext i
      rw [if_neg (by omega)]
  | succ m ih =>
    intro n k F G h1 h2 h3
    obtain ⟨n, rfl⟩ : ∃ n', n = n' + 1 := ⟨n - 1, by omega⟩
    simp only [fl_Rm_hold_11, fb_Rm_hold_11, fb_Rm_hold_16, fb_Rm_hold_26]
    rw [kg_pos (by omega), if_neg (by omega), kbu_eq (R_copyLine (xa := 0) (xb := 4) (a := 0) (p := k) (b := 4) (q := k - a) F G rfl rfl rfl (by omega) (by omega) (by omega) (by omega))]
    have e := ih n (k + 1) (cpF F (10 * 0 + k) (10 * 4 + (k - a)) 0) (cpG G (10 * 0 + k) (10 * 4 + (k - a))) (by omega) (by omega) (by omega)
    rw [show ((k : Int) + 1) = ((k + 1 : Nat) : Int) by omega, e]
    congr 3
    · funext j
      unfold cpF
      by_cases h : 800 + 20 * (k - a) ≤ j ∧ j < 800 + 20 * (b + 1 - a)
      · rw [if_pos h]
        by_cases h4 : j < 800 + 20 * (k - a) + 20
        · rw [if_neg (by omega), if_pos (by omega)]
          exact congrArg F (by omega)
        · rw [if_pos (by omega), if_neg (by omega)]
      · rw [if_neg h, if_neg (by omega), if_neg (by omega)]
    · funext i
      unfold cpG
      by_cases h : 40 + (k - a) ≤ i ∧ i < 40 + (b + 1 - a)
      · rw [if_pos h]
        by_cases h4 : i = 10 * 4 + (k - a)
        · rw [if_neg (by omega), if_pos h4]
          exact congrArg G (by omega)
        · rw [if_pos (by omega), if_neg (by omega)]
      · rw [if_neg h, if_neg (by omega), if_neg (by omega)]
/-- an effect on the buffer's text -/
theorem RE2.t4 {g : Int} {B : Option Tc} {x : Tc} {o : Option Tc} {b : Int × Tx} {q : Qd} {m : Md} {l : Int × List Int} {T : Tx} {F G : Nat → Int} {σ : kS} (c : RE2 g B (x, o, b, q, m, l) σ) (hT : TR (fun j => F (800 + j)) (fun p => G (40 + p)) T) (h1 : ∀ j, ¬ (800 ≤ j ∧ j < 1000) → F j = σ 20 0 j) (h2 : ∀ p, ¬ (40 ≤ p ∧ p < 50) → G p = σ 21 0 p) : RE2 g B (x, o, (b.1, T), q, m, l) (sM σ F G) ∧ frF σ (sM σ F G) := by
  obtain ⟨⟨c1, c2, c3, c4, c5, c6, c7⟩, c8⟩ := c
  have e20 : ∀ j, ¬ (800 ≤ j ∧ j < 1000) → sM σ F G 20 0 j = σ 20 0 j := fun j hj => by
    rw [sM_20]
    exact h1 j hj
  have e21 : ∀ j, ¬ (40 ≤ j ∧ j < 50) → sM σ F G 21 0 j = σ 21 0 j := fun j hj => by
    rw [sM_21]
    exact h2 j hj
  have e22 : ∀ k, 22 ≤ k → k ≤ 24 → ∀ j, sM σ F G k 0 j = σ k 0 j := fun k h1 h2 j => by
    rw [sM_o (by omega) (by omega)]
  refine ⟨⟨⟨c1.fr (fun j _ _ => e20 j (by omega)) (fun j _ _ => e21 j (by omega)) (fun k h1 h2 => e22 k h1 h2 0), ?_, ⟨c3.1, ?_⟩, c4, c5, c6, c7⟩, fun y hy => (c8 y hy).fr (fun j _ _ => e20 j (by omega)) (fun j _ _ => e21 j (by omega)) (fun k h1 h2 => e22 k h1 h2 2)⟩, frF.rfl.sM1 (fun j hj => h1 j (by omega)) (fun j hj => h2 j (by omega))⟩
  · cases o with
    | none => exact c2
    | some y => exact ⟨c2.1, c2.2.fr (fun j _ _ => e20 j (by omega)) (fun j _ _ => e21 j (by omega)) (fun k h1 h2 => e22 k h1 h2 1)⟩
  · unfold RT
    rw [sM_20, sM_21]
    exact hT
theorem RE2.kind {g : Int} {B : Option Tc} {x : Tc} {o : Option Tc} {b : Int × Tx} {q : Qd} {m : Md} {l : Int × List Int} {v : Int} {σ : kS} (c : RE2 g B (x, o, b, q, m, l) σ) : RE2 g B (x, o, (v, b.2), q, m, l) (kup σ 9 0 7 v) ∧ frF σ (kup σ 9 0 7 v) := by
  obtain ⟨⟨c1, c2, c3, c4, c5, c6, c7⟩, c8⟩ := c
  refine ⟨⟨⟨c1, ?_, ⟨rfl, c3.2⟩, c4, c5, c6, c7⟩, c8⟩, frF.rfl.kup (by decide)⟩
  cases o with
  | none => exact c2
  | some y => exact c2
theorem SR.hold {g : Int} {B : Option Tc} {x : Tc} {o : Option Tc} {b : Int × Tx} {q : Qd} {m : Md} {l : Int × List Int} {i j : Nat} {xi xj : Int} (hi : xi = i) (hj : xj = j) (hij : i ≤ j) (hjl : j < x.1.length) (hl : x.1.length ≤ 10) : SR g B (f_Rm_hold xi xj) none (x, o, b, q, m, l) (x, o, ((j : Int) - i + 1, slc x.1 i (j + 1)), q, m, l) := by
  subst hi hj
  intro σ c
  obtain ⟨c1, f1⟩ := c.kind (v := (j : Int) - i + 1)
  have e := L_hold (σ := kup σ 9 0 7 ((j : Int) - i + 1)) (a := i) (b := j) (by omega) (j + 1 - i) 3000 i (kup σ 9 0 7 ((j : Int) - i + 1) 20 0) (kup σ 9 0 7 ((j : Int) - i + 1) 21 0) (by omega) (by omega) (by omega)
  rw [sM_id] at e
  have hX : RT (kup σ 9 0 7 ((j : Int) - i + 1)) 0 x.1 := c.1.1.1
  unfold f_Rm_hold fb_Rm_hold_0
  generalize kup σ 9 0 7 ((j : Int) - i + 1) = τ at c1 f1 e hX ⊢
  have hs := slc_len (X := x.1) (a := i) (b := j + 1) (by omega)
  have hTR : TR (fun p => (fun k => if 800 + 20 * (i - i) ≤ k ∧ k < 800 + 20 * (j + 1 - i) then τ 20 0 (20 * i + (k - 800)) else τ 20 0 k) (800 + p)) (fun p => (fun k => if 40 + (i - i) ≤ k ∧ k < 40 + (j + 1 - i) then τ 21 0 (i + (k - 40)) else τ 21 0 k) (40 + p)) (slc x.1 i (j + 1)) := by
    refine ⟨by omega, fun p hp => ?_⟩
    have hg : ln (slc x.1 i (j + 1)) p = ln x.1 (i + p) := slc_gd [] (by omega)
    obtain ⟨t1, t2, t3⟩ := hX.2 (i + p) (by omega)
    rw [hg]
    refine ⟨?_, t2, fun c hc => ?_⟩
    · dsimp only
      rw [if_pos (by omega), ← t1]
      exact congrArg (τ 21 0) (by omega)
    · dsimp only
      rw [if_pos (by omega), ← t3 c hc]
      exact congrArg (τ 20 0) (by omega)
  obtain ⟨c2, f2⟩ := c1.t4 (F := fun k => if 800 + 20 * (i - i) ≤ k ∧ k < 800 + 20 * (j + 1 - i) then τ 20 0 (20 * i + (k - 800)) else τ 20 0 k) (G := fun k => if 40 + (i - i) ≤ k ∧ k < 40 + (j + 1 - i) then τ 21 0 (i + (k - 40)) else τ 21 0 k) hTR (fun k hk => if_neg (by omega)) (fun k hk => if_neg (by omega))
  exact ⟨_, e, c2, f1.tr f2⟩
theorem SR.closeLine {g : Int} {B : Option Tc} {x : Tc} {o : Option Tc} {b : Int × Tx} {q : Qd} {m : Md} {l : Int × List Int} {p : Nat} {xp : Int} (hxp : xp = p) (hp : p < x.1.length) : SR g B (f_Rm_closeLine xp) none (x, o, b, q, m, l) ((cut x.1 p (p + 1), x.2), o, b, q, m, l) :=
  SR.t0 fun _ c => R_closeLine (T := x.1) hxp c.1.1.1 c.1.1.2.1 hp
theorem SR.openLine {g : Int} {B : Option Tc} {x : Tc} {o : Option Tc} {b : Int × Tx} {q : Qd} {m : Md} {l : Int × List Int} {p : Nat} {xp : Int} (hxp : xp = p) (hp : p ≤ x.1.length) (hl : x.1.length < 10) : SR g B (f_Rm_openLine xp) none (x, o, b, q, m, l) ((ins x.1 p [[]], x.2), o, b, q, m, l) :=
  SR.t0 fun _ c => R_openLine (T := x.1) hxp c.1.1.1 c.1.1.2.1 hp hl
theorem cut_cut {α : Type} {X : List α} {a m : Nat} (h : a + m + 1 ≤ X.length) : cut (cut X a (a + 1)) a (a + m) = cut X a (a + (m + 1)) := by
  unfold cut
  have h2 : (X.take a).length = a := by
    rw [List.length_take]
    omega
  rw [List.take_append_of_le_length (by omega), List.take_of_length_le (by omega), List.drop_append, h2, List.drop_of_length_le (by omega), List.nil_append, List.drop_drop]
  congr 2
  omega
theorem SR.takeL {g : Int} {B : Option Tc} {o : Option Tc} {b : Int × Tx} {q : Qd} {mm : Md} {l : Int × List Int} {i j : Nat} (hj : j < 10) : ∀ (m n k : Nat) (T : Tx) (w : Int × Int), k + m = j + 1 → i + m ≤ T.length → m < n → T.length ≤ 10 → SR g B (fl_Rm_takeLines_2 n (i : Int) (j : Int) (k : Int)) none ((T, w), o, b, q, mm, l) ((orE (cut T i (i + m)), cl i (((orE (cut T i (i + m))).length : Int) - 1), 0), o, b, q, mm, l) := by
  intro m
  induction m with
  | zero =>
    intro n k T w h1 h2 h3 hl
    obtain ⟨n, rfl⟩ : ∃ n', n = n' + 1 := ⟨n - 1, by omega⟩
    have ec : cut T i (i + 0) = T := cut_nil T i
    rw [ec]
    have h32 : ∀ (T : Tx) (w : Int × Int), 0 < T.length → T.length ≤ 10 → i ≤ T.length → SR g B (fb_Rm_takeLines_32 (i : Int) (j : Int) (k : Int)) none ((T, w), o, b, q, mm, l) ((T, cl i ((T.length : Int) - 1), 0), o, b, q, mm, l) := by
      intro T w hT hT2 hi
      refine SR.cg (f := fun σ => kbu (f_Rm_place (cl i ((T.length : Int) - 1)) 0 σ) fun σ1 => fb_Rm_takeLines_59 (i : Int) (j : Int) (k : Int) σ1) (SR.u SR.place SR.ret) fun σ c => ?_
      have hc : σ 22 0 0 = T.length := c.1.1.2.1
      unfold fb_Rm_takeLines_32 fb_Rm_takeLines_43 fb_Rm_takeLines_47 fb_Rm_takeLines_55
      rw [hc, kg_pos (by omega)]
      unfold cl
      split
      · rw [show max 0 (min (i : Int) ((T.length : Int) - 1)) = (T.length : Int) - 1 by omega]
      · rw [show max 0 (min (i : Int) ((T.length : Int) - 1)) = (i : Int) by omega]
    by_cases h0 : T.length = 0
    · have hT : T = [] := List.eq_nil_of_length_eq_zero h0
      subst hT
      refine SR.cg (f := fb_Rm_takeLines_27 (i : Int) (j : Int) (k : Int)) ?_ fun σ c => ?_
      · unfold fb_Rm_takeLines_27
        have := SR.openLine (g := g) (B := B) (x := (([] : Tx), w)) (o := o) (b := b) (q := q) (m := mm) (l := l) (p := 0) (xp := 0) rfl (Nat.zero_le _) (show (0 : Nat) < 10 by decide)
        refine SR.u this ?_
        have hi : i = 0 := by
          rw [List.length_nil] at h2
          omega
        subst hi
        exact h32 [[]] w (by decide) (by decide) (by decide)
      · have hc : σ 22 0 0 = (([] : Tx).length : Int) := c.1.1.2.1
        simp only [fl_Rm_takeLines_2, fb_Rm_takeLines_2, fb_Rm_takeLines_18]
        rw [hc, kg_pos (by omega), if_pos (by omega), kg_pos (by decide), if_pos (by decide)]
    · have e : orE T = T := if_neg h0
      rw [e]
      refine SR.cg (h32 T w (by omega) hl (by omega)) fun σ c => ?_
      have hc : σ 22 0 0 = (T.length : Int) := c.1.1.2.1
      simp only [fl_Rm_takeLines_2, fb_Rm_takeLines_2, fb_Rm_takeLines_18]
      rw [hc, kg_pos (by omega), if_pos (by omega), kg_pos (by omega), if_neg (by omega)]
  | succ m ih =>
    intro n k T w h1 h2 h3 hl
    obtain ⟨n, rfl⟩ : ∃ n', n = n' + 1 := ⟨n - 1, by omega⟩
    have hcl : (cut T i (i + 1)).length = T.length - 1 := by
      rw [cut_len (by omega) (by omega)]
      omega
    refine SR.cg (f := fun σ => kbu (f_Rm_closeLine (i : Int) σ) fun σ1 => fl_Rm_takeLines_2 n (i : Int) (j : Int) ((k + 1 : Nat) : Int) σ1) ?_ fun σ c => ?_
    · have := ih n (k + 1) (cut T i (i + 1)) w (by omega) (by omega) (by omega) (by omega)
      rw [cut_cut (by omega)] at this
      exact SR.u (SR.closeLine rfl (show i < T.length by omega)) this
    · simp only [fl_Rm_takeLines_2, fb_Rm_takeLines_2, fb_Rm_takeLines_7, fb_Rm_takeLines_12]
      rw [kg_pos (by omega), if_neg (by omega)]
      rfl
theorem SR.take {g : Int} {B : Option Tc} {x : Tc} {o : Option Tc} {b : Int × Tx} {q : Qd} {m : Md} {l : Int × List Int} {i j : Nat} {xi xj : Int} (hi : xi = i) (hj : xj = j) (hij : i ≤ j) (hjl : j < x.1.length) (hl : x.1.length ≤ 10) : SR g B (f_Rm_takeLines xi xj) none (x, o, b, q, m, l) (dropX x.1 i j, o, b, q, m, l) := by
  subst hi hj
  have := SR.takeL (g := g) (B := B) (o := o) (b := b) (q := q) (mm := m) (l := l) (i := i) (j := j) (by omega) (j + 1 - i) 3000 i x.1 x.2 (by omega) (by omega) (by omega) hl
  rw [show i + (j + 1 - i) = j + 1 by omega] at this
  exact this
theorem cut_set {T : Tx} {i j : Nat} (h : i < j) (hj : j < T.length) : (cut T (i + 1) (j + 1)).set i [] = cut (T.set i []) (i + 1) (j + 1) := by
  have h1 : (cut T (i + 1) (j + 1)).length = T.length - (j + 1 - (i + 1)) := cut_len (by omega) (by omega)
  have h2 : (cut (T.set i []) (i + 1) (j + 1)).length = T.length - (j + 1 - (i + 1)) := by
    rw [cut_len (by omega) (by rw [List.length_set]; omega), List.length_set]
  refine gd_ext [] (by rw [List.length_set, h1, h2]) fun k hk => ?_
  rw [gd_set _ _ _ (by omega), cut_gd _ (by omega) (by omega), cut_gd _ (by omega) (by rw [List.length_set]; omega), gd_set _ _ _ (by omega), gd_set _ _ _ (by omega)]
  by_cases h3 : k = i
  · rw [if_pos h3, if_pos (by omega), if_pos h3]
  · rw [if_neg h3, if_neg h3]
    by_cases h4 : k < i + 1
    · rw [if_pos h4, if_pos h4]
    · rw [if_neg h4, if_neg h4, if_neg (by omega)]
