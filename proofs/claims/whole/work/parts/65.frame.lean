/-! Pure: what a run leaves as it was -/
theorem CE.cg {g : Int} {A : kEd} {σ σ' : kS} (h : CE g A σ) (e1 : σ' 1 = σ 1) (e2 : σ' 2 = σ 2) (e3 : σ' 5 = σ 5) (e4 : σ' 6 = σ 6) (e5 : σ' 10 = σ 10) (e6 : σ' 11 = σ 11) (e7 : σ' 16 = σ 16) : CE g A σ' := by
  unfold CE CX CO CB CQ CM CL CX CT at h ⊢
  rw [e1, e2, e3, e4, e5, e6, e7]
  exact h
theorem CD.cg {D : kDk} {σ σ' : kS} (h : CD D σ) (e1 : σ' 2 = σ 2) (e2 : σ' 3 = σ 3) (e3 : σ' 10 = σ 10) (e4 : σ' 11 = σ 11) (e5 : σ' 13 = σ 13) (e6 : σ' 14 = σ 14) : CD D σ' := by
  unfold CD CT at h ⊢
  rw [e1, e2, e3, e4, e5, e6]
  exact h
theorem CW.cg {W : kWn} {σ σ' : kS} (h : CW W σ) (e1 : σ' 4 = σ 4) (e2 : σ' 15 0 = σ 15 0) : CW W σ' := by
  unfold CW at h ⊢
  rw [e1, e2]
  exact h
theorem RE.cg {g : Int} {A : kEd} {σ σ' : kS} (h : RE g A σ) (e9 : ∀ c, c < 34 → σ' 9 0 c = σ 9 0 c) (e : ∀ k, 20 ≤ k → k ≤ 27 → σ' k = σ k) : RE g A σ' := by
  unfold RE RX RO RB RQ RM RL RX RT at h ⊢
  rw [e 20 (by decide) (by decide), e 21 (by decide) (by decide), e 22 (by decide) (by decide), e 23 (by decide) (by decide), e 24 (by decide) (by decide), e 25 (by decide) (by decide), e 26 (by decide) (by decide), e 27 (by decide) (by decide), e9 5 (by decide), e9 6 (by decide), e9 7 (by decide), e9 8 (by decide), e9 9 (by decide), e9 10 (by decide), e9 12 (by decide), e9 14 (by decide), e9 15 (by decide), e9 18 (by decide), e9 20 (by decide), e9 21 (by decide)]
  exact h
theorem RD.cg {D : kDk} {σ σ' : kS} (h : RD D σ) (e9 : σ' 9 0 34 = σ 9 0 34) (e1 : σ' 20 = σ 20) (e2 : σ' 21 = σ 21) (e3 : σ' 22 = σ 22) (e4 : σ' 34 = σ 34) (e5 : σ' 35 = σ 35) : RD D σ' := by
  unfold RD RT at h ⊢
  rw [e1, e2, e3, e4, e5, e9]
  exact h
theorem RW.cg {W : kWn} {σ σ' : kS} (h : RW W σ) (e9 : ∀ c, 37 ≤ c → σ' 9 0 c = σ 9 0 c) (e2 : σ' 36 = σ 36) : RW W σ' := by
  unfold RW at h ⊢
  rw [e2, e9 37 (by decide), e9 38 (by decide), e9 39 (by decide)]
  exact h
/-- the class's run leaves the reference, the reference's the class -/
def frC (σ σ' : kS) : Prop := ∀ a, (a = 9 ∨ 20 ≤ a) → σ' a = σ a
def frR (σ σ' : kS) : Prop := ∀ a, a ≠ 9 → a < 20 → σ' a = σ a
theorem frC.tr {σ σ' σ'' : kS} (h : frC σ σ') (h2 : frC σ' σ'') : frC σ σ'' := fun a ha => (h2 a ha).trans (h a ha)
theorem frR.tr {σ σ' σ'' : kS} (h : frR σ σ') (h2 : frR σ' σ'') : frR σ σ'' := fun a ha hb => (h2 a ha hb).trans (h a ha hb)
theorem frC.rfl {σ : kS} : frC σ σ := fun _ _ => Eq.refl _
theorem frR.rfl {σ : kS} : frR σ σ := fun _ _ _ => Eq.refl _
theorem kup_kk {σ : kS} {k i j a : Nat} {x : Int} (h : a ≠ k) : kup σ k i j x a = σ a := by
  funext b
  rw [kup_f, if_neg (fun z => h z.1)]
theorem kupA_kk {σ : kS} {k i a : Nat} {f : Nat → Int} (h : a ≠ k) : kupA σ k i f a = σ a := by
  funext b
  rw [kupA_f, if_neg (fun z => h z.1)]
theorem frC.kup {σ σ' : kS} {k i j : Nat} {x : Int} (h : frC σ σ') (hk : k ≠ 9) (hk2 : k < 20) : frC σ (kup σ' k i j x) := fun a ha => (kup_kk (by omega)).trans (h a ha)
theorem frC.kupA {σ σ' : kS} {k i : Nat} {f : Nat → Int} (h : frC σ σ') (hk : k ≠ 9) (hk2 : k < 20) : frC σ (kupA σ' k i f) := fun a ha => (kupA_kk (by omega)).trans (h a ha)
theorem frC.sT {σ σ' : kS} {t : Nat} {F G : Nat → Int} {n : Int} (h : frC σ σ') : frC σ (sT σ' t F G n) := ((h.kupA (by decide) (by decide)).kupA (by decide) (by decide)).kup (by decide) (by decide)
theorem frR.kup {σ σ' : kS} {k i j : Nat} {x : Int} (h : frR σ σ') (hk : k = 9 ∨ 20 ≤ k) : frR σ (kup σ' k i j x) := fun a ha hb => (kup_kk (by omega)).trans (h a ha hb)
theorem frR.kupA {σ σ' : kS} {k i : Nat} {f : Nat → Int} (h : frR σ σ') (hk : k = 9 ∨ 20 ≤ k) : frR σ (kupA σ' k i f) := fun a ha hb => (kupA_kk (by omega)).trans (h a ha hb)
theorem frR.sM {σ σ' : kS} {F G : Nat → Int} (h : frR σ σ') : frR σ (sM σ' F G) := (h.kupA (by decide)).kupA (by decide)
theorem frR.sX {σ σ' : kS} {a b : Nat} (h : frR σ σ') : frR σ (sX σ' a b) := ((frR.kup (frR.kup (frR.kup ((frR.sM (h)) ) (by decide)) (by decide)) (by decide)))
theorem PR.fr {A : kEd} {D : kDk} {W : kWn} {σ σ' : kS} (h : PR A D W σ) (f : frC σ σ') : PR A D W σ' :=
  ⟨h.1.cg (fun c _ => congrFun (congrFun (f 9 (by decide)) 0) c) (fun k h1 h2 => f k (by omega)), h.2.1.cg (congrFun (congrFun (f 9 (by decide)) 0) 34) (f 20 (by decide)) (f 21 (by decide)) (f 22 (by decide)) (f 34 (by decide)) (f 35 (by decide)), h.2.2.cg (fun c _ => congrFun (congrFun (f 9 (by decide)) 0) c) (f 36 (by decide))⟩
theorem PC.fr {A : kEd} {D : kDk} {W : kWn} {σ σ' : kS} (h : PC A D W σ) (f : frR σ σ') : PC A D W σ' :=
  ⟨h.1.cg (f 1 (by decide) (by decide)) (f 2 (by decide) (by decide)) (f 5 (by decide) (by decide)) (f 6 (by decide) (by decide)) (f 10 (by decide) (by decide)) (f 11 (by decide) (by decide)) (f 16 (by decide) (by decide)), h.2.1.cg (f 2 (by decide) (by decide)) (f 3 (by decide) (by decide)) (f 10 (by decide) (by decide)) (f 11 (by decide) (by decide)) (f 13 (by decide) (by decide)) (f 14 (by decide) (by decide)), h.2.2.cg (f 4 (by decide) (by decide)) (congrFun (f 15 (by decide) (by decide)) 0)⟩
/-- both sides do the same step -/
def Cc (f : kS → kRes) (r : Option Int) (A : kEd) (D : kDk) (W : kWn) (A' : kEd) (D' : kDk) (W' : kWn) : Prop := ∀ σ, PC A D W σ → ∃ σ', f σ = some (r, σ') ∧ PC A' D' W' σ' ∧ frC σ σ'
def Cr (f : kS → kRes) (r : Option Int) (A : kEd) (D : kDk) (W : kWn) (A' : kEd) (D' : kDk) (W' : kWn) : Prop := ∀ σ, PR A D W σ → ∃ σ', f σ = some (r, σ') ∧ PR A' D' W' σ' ∧ frR σ σ'
theorem kSame.mk {n : Nat} {f g : kS → kRes} {y : Int} {A A' : kEd} {D D' : kDk} {W W' : kWn} {σ : kS} (hC : Cc f (some y) A D W A' D' W') (hR : Cr g (some y) A D W A' D' W') (hW : WF n A' D' W') (hc : PC A D W σ) (hr : PR A D W σ) : kSame (J n) f g σ := by
  obtain ⟨σ1, e1, c1, f1⟩ := hC σ hc
  obtain ⟨σ2, e2, c2, f2⟩ := hR σ1 (hr.fr f1)
  exact ⟨y, σ1, σ2, e1, e2, A', D', W', hW, c1.fr f2, c2⟩
/-- the window after it was brought up to date -/
def showW (x : Tc) (W : kWn) : kWn := (W.1, (newTop x.1 W.1.toNat x.2.1.toNat W.2.1.toNat : Nat), W.2.2.1 + tot (fun r c => decide (¬ W.2.2.2 r c = wantF x.1 W.1.toNat (newTop x.1 W.1.toNat x.2.1.toNat W.2.1.toNat) (r * W.1.toNat + c))) W.1.toNat 5 0, fun r c => wantF x.1 W.1.toNat (newTop x.1 W.1.toNat x.2.1.toNat W.2.1.toNat) (r * W.1.toNat + c))
theorem showW_wf {n : Nat} {x : Tc} {W : kWn} (hx : wfX x) (hW : wfW n W) : wfW (n + 1) (showW x W) := by
  obtain ⟨⟨x1, x2, x3, x4⟩, x5, x6, x7, x8⟩ := hx
  obtain ⟨w1, w2, w3, w4, w5, w6, w7⟩ := hW
  have a1 := newTop_le x.1 W.1.toNat x.2.1.toNat W.2.1.toNat
  have a2 := tot_le (fun r c => decide (¬ W.2.2.2 r c = wantF x.1 W.1.toNat (newTop x.1 W.1.toNat x.2.1.toNat W.2.1.toNat) (r * W.1.toNat + c))) (w := W.1.toNat) (by omega) 5 0
  refine ⟨w1, w2, ?_, ?_, ?_, ?_, fun r c hr hc => ?_⟩
  · show (0 : Int) ≤ ((newTop x.1 W.1.toNat x.2.1.toNat W.2.1.toNat : Nat) : Int)
    omega
  · show ((newTop x.1 W.1.toNat x.2.1.toNat W.2.1.toNat : Nat) : Int) < 10
    omega
  · show (0 : Int) ≤ W.2.2.1 + tot _ _ 5 0
    omega
  · show W.2.2.1 + tot _ _ 5 0 ≤ 115 * ((n + 1 : Nat) : Int)
    omega
  · have hc' : (c : Int) < W.1 := hc
    have a3 := (lt_100 (w := W.1.toNat) (r := r) (c := c) (by omega) hr (by omega)).2
    have a4 := paintF_rng (T := x.1) (w := W.1.toNat) x3 (x.1.length - newTop x.1 W.1.toNat x.2.1.toNat W.2.1.toNat) (newTop x.1 W.1.toNat x.2.1.toNat W.2.1.toNat) 0 f32 (by omega) (fun i hi => by unfold f32; rw [if_pos hi]; decide) _ a3
    exact ⟨by have := a4.1; exact Int.le_trans (by decide) this, a4.2⟩
theorem S_show {n : Nat} {x : Tc} {W : kWn} {σ : kS} (hx : wfX x) (hW : wfW n W) (hX : CX σ 0 x) (hw : CW W σ) : ∃ σ', f_Wi_show σ = some (none, σ') ∧ CW (showW x W) σ' ∧ ∀ a, a ≠ 4 → a ≠ 15 → σ' a = σ a := by
  obtain ⟨⟨x1, x2, x3, x4⟩, x5, x6, x7, x8⟩ := hx
  obtain ⟨w1, w2, w3, w4, w5, w6, w7⟩ := hW
  obtain ⟨c1, c2, c3, c4⟩ := hw
  obtain ⟨b1, b2, b3, b4⟩ := hX
  have hnt := newTop_le x.1 W.1.toNat x.2.1.toNat W.2.1.toNat
  obtain ⟨W1, e1, e2⟩ := P_show (w := W.1.toNat) (r := x.2.1.toNat) (t := W.2.1.toNat) (D := fun r c => decide (¬ W.2.2.2 r c = wantF x.1 W.1.toNat (newTop x.1 W.1.toNat x.2.1.toNat W.2.1.toNat) (r * W.1.toNat + c))) b1 b2 x3 (by omega) (by omega) (by omega) (by omega) (by omega) (by omega) (fun r c hr hc => by
    rw [c4 r c hr (by omega)]
    have := w7 r c hr (by omega)
    omega) (fun r c hr hc => by
    rw [c4 r c hr (by omega)]
    exact decide_eq_true_iff)
  refine ⟨_, e2, ⟨?_, ?_, ?_, ?_⟩, ?_⟩
  · rw [Sx_j (by decide) (by decide), kupA_k (by decide), kup_j (by decide)]
    exact c1
  · rw [Sx_j (by decide) (by decide), kupA_k (by decide), kup_self]
    rfl
  · rw [Sx_z, c3]
    rfl
  · intro r c hr hc
    have hc' : (c : Int) < W.1 := hc
    have a3 := lt_100 (w := W.1.toNat) (r := r) (c := c) (by omega) hr (by omega)
    rw [Sx_arr (by decide)]
    show (if 0 * W.1.toNat ≤ r * W.1.toNat + c ∧ r * W.1.toNat + c < 5 * W.1.toNat then W1 (r * W.1.toNat + c) else σ 15 0 (r * W.1.toNat + c)) = _
    rw [if_pos ⟨by omega, a3.1⟩, e1 _ a3.2]
    rfl
  · intro a h1 h2
    funext b c
    rw [Sx_o h2 h1, kupA_k h2, kup_k h1]
theorem S_draw {n : Nat} {x : Tc} {W : kWn} {σ : kS} (hx : wfX x) (hW : wfW n W) (hX : RX σ 0 x) (hw : RW W σ) : ∃ σ', f_Rm_draw σ = some (none, σ') ∧ RW (showW x W) σ' ∧ (∀ a, a ≠ 9 → a ≠ 36 → a ≠ 37 → σ' a = σ a) ∧ ∀ c, c < 38 → σ' 9 0 c = σ 9 0 c := by
  obtain ⟨⟨x1, x2, x3, x4⟩, x5, x6, x7, x8⟩ := hx
  obtain ⟨w1, w2, w3, w4, w5, w6, w7⟩ := hW
  obtain ⟨c1, c2, c3, c4⟩ := hw
  obtain ⟨b1, b2, b3, b4⟩ := hX
  have hnt := newTop_le x.1 W.1.toNat x.2.1.toNat W.2.1.toNat
  obtain ⟨g, e1, e2⟩ := P_draw (w := W.1.toNat) (r := x.2.1.toNat) (t := W.2.1.toNat) (D := fun r c => decide (¬ W.2.2.2 r c = wantF x.1 W.1.toNat (newTop x.1 W.1.toNat x.2.1.toNat W.2.1.toNat) (r * W.1.toNat + c))) b1 b2 x3 (by omega) (by omega) (by omega) (by omega) (by omega) (by omega) (fun r c hr hc => by
    rw [c4 r c hr (by omega)]
    have := w7 r c hr (by omega)
    omega) (fun r c hr hc => by
    rw [c4 r c hr (by omega)]
    exact decide_eq_true_iff)
  refine ⟨_, e2, ⟨?_, ?_, ?_, ?_⟩, ?_, ?_⟩
  · rw [Sx_j (by decide) (by decide), kupA_k (by decide), kup_j (by decide)]
    exact c1
  · rw [Sx_j (by decide) (by decide), kupA_k (by decide), kup_self]
    rfl
  · rw [Sx_z, c3]
    rfl
  · intro r c hr hc
    have hc' : (c : Int) < W.1 := hc
    rw [Sx_arr (by decide)]
    show (if 0 ≤ (20 * r + c) / 20 ∧ (20 * r + c) / 20 < 5 ∧ (20 * r + c) % 20 < W.1.toNat then g (20 * r + c) else σ 36 0 (20 * r + c)) = _
    rw [if_pos (by omega), e1 r c hr (by omega)]
    rfl
  · intro a h1 h2 h3
    funext b c
    rw [Sx_o h2 h1, kupA_k h3, kup_k h1]
  · intro c hc
    rw [Sx_j (by decide) (by omega), kupA_k (by decide), kup_j (by omega)]
