/-! Pure: the start, resize, crash -/
theorem PC.win {A : kEd} {D : kDk} {W W' : kWn} {σ σ' : kS} (h : PC A D W σ) (e : ∀ a, a ≠ 4 → a ≠ 15 → σ' a = σ a) (hw : CW W' σ') : PC A D W' σ' :=
  ⟨h.1.cg (e 1 (by decide) (by decide)) (e 2 (by decide) (by decide)) (e 5 (by decide) (by decide)) (e 6 (by decide) (by decide)) (e 10 (by decide) (by decide)) (e 11 (by decide) (by decide)) (e 16 (by decide) (by decide)), h.2.1.cg (e 2 (by decide) (by decide)) (e 3 (by decide) (by decide)) (e 10 (by decide) (by decide)) (e 11 (by decide) (by decide)) (e 13 (by decide) (by decide)) (e 14 (by decide) (by decide)), hw⟩
theorem PR.win {A : kEd} {D : kDk} {W W' : kWn} {σ σ' : kS} (h : PR A D W σ) (e : ∀ a, a ≠ 9 → a ≠ 36 → a ≠ 37 → σ' a = σ a) (e9 : ∀ c, c < 37 → σ' 9 0 c = σ 9 0 c) (hw : RW W' σ') : PR A D W' σ' :=
  ⟨h.1.cg (fun c hc => e9 c (by omega)) (fun k h1 h2 => e k (by omega) (by omega) (by omega)), h.2.1.cg (e9 34 (by decide)) (e 20 (by decide) (by decide) (by decide)) (e 21 (by decide) (by decide) (by decide)) (e 22 (by decide) (by decide) (by decide)) (e 34 (by decide) (by decide) (by decide)) (e 35 (by decide) (by decide) (by decide)), hw⟩
/-- show and draw at the end of a call -/
theorem PC.show {n : Nat} {A : kEd} {D : kDk} {W : kWn} {σ : kS} (hx : wfX A.1) (hW : wfW n W) (h : PC A D W σ) : ∃ σ', f_Wi_show σ = some (none, σ') ∧ PC A D (showW A.1 W) σ' ∧ frC σ σ' := by
  obtain ⟨σ', e1, e2, e3⟩ := S_show hx hW h.1.1 h.2.2
  exact ⟨σ', e1, h.win e3 e2, fun a ha => e3 a (by omega) (by omega)⟩
theorem PR.draw {n : Nat} {A : kEd} {D : kDk} {W : kWn} {σ : kS} (hx : wfX A.1) (hW : wfW n W) (h : PR A D W σ) : ∃ σ', f_Rm_draw σ = some (none, σ') ∧ PR A D (showW A.1 W) σ' ∧ frR σ σ' := by
  obtain ⟨σ', e1, e2, e3, e4⟩ := S_draw hx hW h.1.1 h.2.2
  exact ⟨σ', e1, h.win e3 (fun c hc => e4 c (by omega)) e2, fun a ha hb => e3 a (by omega) (by omega) (by omega)⟩
def wipeW (x : Int) (W : kWn) : kWn := (x, W.2.1, W.2.2.1, fun _ _ => 32)
theorem wipeW_wf {n : Nat} {x : Int} {W : kWn} (hx : 5 ≤ x ∧ x ≤ 20) (hW : wfW n W) : wfW n (wipeW x W) := by
  obtain ⟨w1, w2, w3, w4, w5, w6, w7⟩ := hW
  exact ⟨hx.1, hx.2, w3, w4, w5, w6, fun r c _ _ => (by decide : (0 : Int) ≤ 32 ∧ (32 : Int) ≤ 126)⟩
theorem st_resize {n : Nat} {σ : kS} (hJ : J n σ) (x : Int) (hx : -2147483648 ≤ x ∧ x < 2147483648) : kSame (J (n + 1)) (f_Ks_resize x) (f_Rm_resize x) σ := by
  obtain ⟨A, D, W, w, c, r⟩ := hJ
  by_cases h : 5 ≤ x ∧ x ≤ 20
  · have hw := wipeW_wf h w.2.2.2
    refine kSame.mk (y := 1) (A' := A) (D' := D) (W' := showW A.1 (wipeW x W)) ?_ ?_ ⟨w.1, w.2.1, w.2.2.1, showW_wf w.1.1 hw⟩ c r
    · intro σ c
      obtain ⟨σ0, hσ0⟩ : ∃ σ0 : kS, σ0 = fun a b c => if a = 15 ∧ b = 0 ∧ c < 100 then 32 else kup σ 4 0 2 x a b c := ⟨_, rfl⟩
      have e0 : ∀ a, a ≠ 4 → a ≠ 15 → σ0 a = σ a := by
        intro a h1 h2
        funext b c
        rw [hσ0]
        show (if a = 15 ∧ b = 0 ∧ c < 100 then 32 else kup σ 4 0 2 x a b c) = σ a b c
        rw [if_neg (fun z => h2 z.1), kup_k h1]
      have c0 : PC A D (wipeW x W) σ0 := c.win e0 (by
        refine ⟨?_, ?_, ?_, fun r c hr hc => ?_⟩
        · rw [hσ0]; show (if 4 = 15 ∧ 0 = 0 ∧ 2 < 100 then 32 else kup σ 4 0 2 x 4 0 2) = x; rw [if_neg (by decide), kup_self]
        · rw [hσ0]; show (if 4 = 15 ∧ 0 = 0 ∧ 3 < 100 then 32 else kup σ 4 0 2 x 4 0 3) = _; rw [if_neg (by decide), kup_j (by decide)]; exact c.2.2.2.1
        · rw [hσ0]; show (if 4 = 15 ∧ 0 = 0 ∧ 4 < 100 then 32 else kup σ 4 0 2 x 4 0 4) = _; rw [if_neg (by decide), kup_j (by decide)]; exact c.2.2.2.2.1
        · have hc' : (c : Int) < x := hc
          have a3 := lt_100 (w := x.toNat) (r := r) (c := c) (by omega) hr (by omega)
          rw [hσ0]
          show (if 15 = 15 ∧ 0 = 0 ∧ r * x.toNat + c < 100 then (32 : Int) else kup σ 4 0 2 x 15 0 (r * x.toNat + c)) = (32 : Int)
          exact if_pos ⟨rfl, rfl, a3.2⟩)
      obtain ⟨σ1, e1, c1, f1⟩ := c0.show w.1.1 hw
      refine ⟨σ1, ?_, c1, frC.tr (fun a ha => e0 a (by omega) (by omega)) f1⟩
      unfold f_Ks_resize fb_Ks_resize_0 fb_Ks_resize_4 fb_Ks_resize_9 fb_Ks_resize_17 fb_Ks_resize_31 f_Wi_wipe fb_Wi_wipe_0 fb_Wi_wipe_14
      rw [kbi_eq (P_isWidth hx σ), if_pos h, kg_pos (by decide), if_neg (by decide), P_fill2, ← hσ0]
      show kbu (f_Wi_show σ0) _ = _
      rw [kbu_eq e1]
    · intro σ c
      obtain ⟨σ0, hσ0⟩ : ∃ σ0 : kS, σ0 = fun a b c => if a = 36 ∧ b = 0 ∧ c < 100 then 32 else kup σ 9 0 37 x a b c := ⟨_, rfl⟩
      have e0 : ∀ a, a ≠ 9 → a ≠ 36 → σ0 a = σ a := by
        intro a h1 h2
        funext b c
        rw [hσ0]
        show (if a = 36 ∧ b = 0 ∧ c < 100 then 32 else kup σ 9 0 37 x a b c) = σ a b c
        rw [if_neg (fun z => h2 z.1), kup_k h1]
      have e9 : ∀ c, c ≠ 37 → σ0 9 0 c = σ 9 0 c := by
        intro c h1
        rw [hσ0]
        show (if 9 = 36 ∧ 0 = 0 ∧ c < 100 then 32 else kup σ 9 0 37 x 9 0 c) = σ 9 0 c
        rw [if_neg (by omega), kup_j h1]
      have c0 : PR A D (wipeW x W) σ0 := c.win (fun a h1 h2 _ => e0 a h1 h2) (fun c hc => e9 c (by omega)) (by
        refine ⟨?_, ?_, ?_, fun r c hr hc => ?_⟩
        · rw [hσ0]; show (if 9 = 36 ∧ 0 = 0 ∧ 37 < 100 then 32 else kup σ 9 0 37 x 9 0 37) = x; rw [if_neg (by decide), kup_self]
        · rw [e9 38 (by decide)]; exact c.2.2.2.1
        · rw [e9 39 (by decide)]; exact c.2.2.2.2.1
        · have hc' : (c : Int) < x := hc
          rw [hσ0]
          show (if 36 = 36 ∧ 0 = 0 ∧ 20 * r + c < 100 then (32 : Int) else kup σ 9 0 37 x 36 0 (20 * r + c)) = (32 : Int)
          exact if_pos ⟨rfl, rfl, by omega⟩)
      obtain ⟨σ1, e1, c1, f1⟩ := c0.draw w.1.1 hw
      refine ⟨σ1, ?_, c1, frR.tr (fun a ha hb => e0 a ha (by omega)) f1⟩
      unfold f_Rm_resize fb_Rm_resize_0 fb_Rm_resize_5 fb_Rm_resize_13 fb_Rm_resize_22 fb_Rm_resize_26
      rw [kg_pos hx, if_neg (by omega), kg_pos hx, if_pos (by omega), P_blank, ← hσ0]
      show kbu (f_Rm_draw σ0) _ = _
      rw [kbu_eq e1]
  · refine kSame.mk (y := 0) (A' := A) (D' := D) (W' := W) (fun σ c => ⟨σ, ?_, c, frC.rfl⟩) (fun σ c => ⟨σ, ?_, c, frR.rfl⟩) w.up c r
    · unfold f_Ks_resize fb_Ks_resize_0 fb_Ks_resize_4 fb_Ks_resize_7
      rw [kbi_eq (P_isWidth hx σ), if_neg h, kg_pos (by decide), if_pos rfl]
    · unfold f_Rm_resize fb_Rm_resize_0 fb_Rm_resize_5 fb_Rm_resize_11
      rw [kg_pos hx]
      by_cases h2 : x < 5
      · rw [if_pos h2]
      · rw [if_neg h2, kg_pos hx, if_neg (by omega)]
def A0 : kEd := (([[]], 0, 0), none, (-1, []), (0, 0, 0, []), (0, 0, 0, []), (0, []))
theorem ln_1 (p : Nat) : ln [[]] p = [] := by
  unfold ln
  cases p <;> rfl
theorem pr_1 : printable [[]] := by
  intro p _ c hc
  rw [ln_1] at hc
  exact absurd hc (Nat.not_lt_zero c)
theorem wfT_1 : wfText [[]] := ⟨by decide, by decide, pr_1, fun p _ => by rw [ln_1]; exact Nat.zero_le _⟩
theorem pr_0 : printable [] := fun p hp => absurd hp (Nat.not_lt_zero p)
theorem TR_1 {F G : Nat → Int} (h : G 0 = 0) : TR F G [[]] := by
  refine ⟨by decide, fun p hp => ?_⟩
  have e : p = 0 := by
    have : ([[]] : Tx).length = 1 := rfl
    omega
  rw [ln_1, e]
  exact ⟨h, Nat.zero_le _, fun c hc => absurd hc (Nat.not_lt_zero c)⟩
theorem TR_0 {F G : Nat → Int} : TR F G [] := ⟨by decide, fun p hp => absurd hp (Nat.not_lt_zero p)⟩
theorem kArr_0 {f : Nat → Int} : kArr f [] := fun i hi => absurd hi (Nat.not_lt_zero i)
theorem wfB_0 : wfB (-1, []) := ⟨by decide, by decide, by decide, pr_0, fun p hp => absurd hp (Nat.not_lt_zero p), fun h => absurd h (by decide)⟩
theorem wfQ_0 : wfQ (0, 0, 0, []) := ⟨by decide, by decide, by decide, fun _ => rfl, fun h => absurd h (by decide), fun h => absurd h (by decide), .inl rfl, rfl⟩
theorem wfM_0 (x : Tc) : wfM x (0, 0, 0, []) := ⟨.inl rfl, fun h => absurd h (show ¬ (0 : Int) = 1 by decide), fun h => absurd h (show ¬ (0 : Int) = 2 by decide), Nat.zero_le _, fun c hc => absurd hc List.not_mem_nil, fun _ => rfl⟩
theorem wfL_0 {b : Bool} (hb : b = true) : wfL b (0, []) := ⟨Int.le_refl 0, show (0 : Int) ≤ 9 by decide, rfl, fun h => absurd h (show ¬ (0 : Int) < 0 by decide), fun h => absurd (hb.symm.trans h) (by decide)⟩
theorem wfX_0 {T : Tx} (hT : wfText T) : wfX (T, 0, 0) := by
  have h0 : 0 < T.length := hT.1
  refine ⟨hT, Int.le_refl 0, ?_, Int.le_refl 0, Int.natCast_nonneg _⟩
  show (0 : Int) < (T.length : Int)
  omega
theorem wfE_x {T : Tx} (hT : wfText T) : wfE ((T, 0, 0), none, (-1, []), (0, 0, 0, []), (0, 0, 0, []), (0, [])) :=
  ⟨wfX_0 hT, fun _ => .inr rfl, trivial, wfB_0, wfQ_0, fun h => absurd rfl h, rfl, fun c hc => absurd hc List.not_mem_nil, wfM_0 _⟩
theorem J_init {v : Int} (h1 : 5 ≤ v) (h2 : v ≤ 20) : J 0 (sgA v) := by
  refine ⟨A0, ([], [], []), (v, 0, 0, fun _ _ => 32), ⟨wfE_x wfT_1, wfL_0 rfl, ⟨pr_0, .inl rfl, by decide, fun k hk => absurd hk (Nat.not_lt_zero k)⟩, ⟨h1, h2, (by decide : (0 : Int) ≤ 0), (by decide : (0 : Int) < 10), (by decide : (0 : Int) ≤ 0), (by decide : (0 : Int) ≤ 115 * ((0 : Nat) : Int)), fun r c _ _ => (by decide : (0 : Int) ≤ 32 ∧ (32 : Int) ≤ 126)⟩⟩, ⟨⟨⟨TR_1 rfl, rfl, rfl, rfl⟩, rfl, ⟨rfl, TR_0, rfl⟩, ⟨rfl, rfl, rfl, rfl, kArr_0⟩, ⟨rfl, fun h => absurd h (show ¬ (0 : Int) = 1 by decide), fun h => absurd h (show ¬ (0 : Int) = 2 by decide), rfl, kArr_0⟩, ⟨rfl, kArr_0⟩, rfl⟩, ⟨⟨TR_0, rfl⟩, ⟨TR_0, rfl⟩, rfl, 0, by decide, rfl, fun k hk => absurd hk (Nat.not_lt_zero k)⟩, ⟨rfl, rfl, rfl, fun r c hr hc => ?_⟩⟩, ⟨⟨⟨RT0.mpr (TR_1 rfl), rfl, rfl, rfl⟩, rfl, ⟨rfl, TR_0⟩, ⟨rfl, rfl, rfl, rfl, kArr_0⟩, ⟨rfl, fun h => absurd h (show ¬ (0 : Int) = 1 by decide), fun h => absurd h (show ¬ (0 : Int) = 2 by decide)⟩, ⟨rfl, kArr_0⟩, rfl⟩, ⟨⟨TR_0, rfl⟩, ⟨TR_0, rfl⟩, rfl, fun k hk => absurd hk (Nat.not_lt_zero k)⟩, ⟨rfl, rfl, rfl, fun r c hr hc => ?_⟩⟩⟩
  · have hc' : (c : Int) < v := hc
    have a3 := lt_100 (w := v.toNat) (r := r) (c := c) (by omega) hr (by omega)
    exact if_pos (⟨rfl, rfl, a3.2⟩ : 15 = 15 ∧ 0 = 0 ∧ r * v.toNat + c < 100)
  · have hc' : (c : Int) < v := hc
    exact if_pos (⟨rfl, rfl, by omega⟩ : 36 = 36 ∧ 0 = 0 ∧ 20 * r + c < 100)
