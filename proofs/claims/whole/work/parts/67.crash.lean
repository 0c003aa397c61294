/-! Pure: crash -/
theorem RE.fr2 {g : Int} {A : kEd} {σ σ' : kS} (h : RE g A σ) (e9 : ∀ c, c < 34 → σ' 9 0 c = σ 9 0 c) (e20 : ∀ j, j < 1000 → σ' 20 0 j = σ 20 0 j) (e21 : ∀ j, j < 50 → σ' 21 0 j = σ 21 0 j) (e22 : ∀ k, 22 ≤ k → k ≤ 24 → ∀ j, j < 5 → σ' k 0 j = σ k 0 j) (e25 : σ' 25 = σ 25) (e26 : σ' 26 = σ 26) (e27 : σ' 27 = σ 27) : RE g A σ' := by
  obtain ⟨h1, h2, h3, h4, h5, h6, h7⟩ := h
  refine ⟨h1.fr (fun j _ _ => e20 j (by omega)) (fun j _ _ => e21 j (by omega)) (fun k a b => e22 k a b 0 (by omega)), ?_, ⟨(e9 7 (by decide)).trans h3.1, h3.2.fr (fun j _ _ => e20 j (by omega)) (fun j _ _ => e21 j (by omega))⟩, ?_, ?_, ?_, (e9 15 (by decide)).trans h7⟩
  · unfold RO at h2 ⊢
    revert h2
    cases A.2.1 with
    | none => intro h2; exact (e9 6 (by decide)).trans h2
    | some x =>
      intro h2
      exact ⟨(e9 6 (by decide)).trans h2.1, h2.2.fr (fun j _ _ => e20 j (by omega)) (fun j _ _ => e21 j (by omega)) (fun k a b => e22 k a b 1 (by omega))⟩
  · unfold RQ at h4 ⊢
    rw [e9 8 (by decide), e9 9 (by decide), e9 10 (by decide), e9 12 (by decide), e25]
    exact h4
  · unfold RM at h5 ⊢
    rw [e9 5 (by decide), e9 18 (by decide), e9 20 (by decide), e9 21 (by decide), e27]
    exact h5
  · unfold RL at h6 ⊢
    rw [e9 14 (by decide), e26]
    exact h6
theorem slc_all {α : Type} {X : List α} : slc X 0 X.length = X := by
  unfold slc
  rw [List.drop_zero, Nat.sub_zero, List.take_length]
def csA (σ : kS) : kS := kup (kup (kup (kup (kup (kup (kup (kup (kup (kup (kup (kup (kup (kup σ 2 0 2 1) 11 0 0 0) 2 0 3 0) 2 0 4 0) 2 3 2 0) 1 0 4 (-1)) 1 0 5 0) 5 0 6 0) 6 0 1 0) 5 0 7 0) 5 0 8 0) 5 0 9 0) 6 1 1 0) 6 2 1 0
def csB (σ : kS) : kS := kup (csA σ) 3 0 6 0
def nTx (S : Tx) : Tx := if S.length = 0 then [[]] else S
def crA (S : Tx) : kEd := ((nTx S, 0, 0), none, (-1, []), (0, 0, 0, []), (0, 0, 0, []), (0, []))
def crW (W : kWn) : kWn := (W.1, 0, W.2.2.1, W.2.2.2)
theorem crW_wf {n : Nat} {W : kWn} (h : wfW n W) : wfW n (crW W) := by
  obtain ⟨w1, w2, w3, w4, w5, w6, w7⟩ := h
  exact ⟨w1, w2, Int.le_refl 0, show (0 : Int) < 10 by decide, w5, w6, w7⟩
theorem frC_csB (σ : kS) : frC σ (csB σ) := by
  unfold csB csA
  repeat refine frC.kup ?_ (by decide) (by decide)
  exact frC.rfl
theorem crashC {n : Nat} {A : kEd} {D : kDk} {W : kWn} (w : WF n A D W) (hS : wfText (nTx D.2.1)) : Cc f_Ks_crash (some ((nTx D.2.1).length : Int)) A D W (crA D.2.1) (D.1, D.2.1, []) (showW (nTx D.2.1, 0, 0) (crW W)) := by
  intro σ c
  have hx : wfX (crA D.2.1).1 := wfX_0 hS
  obtain ⟨c1, ⟨d1, d2, d3, o, d4, d5, d6⟩, ⟨w1, w2, w3, w4⟩⟩ := c
  have hrec : ∃ σ1, f_Di_recover 0 (csA σ) = some (none, σ1) ∧ PC (crA D.2.1) (D.1, D.2.1, []) (crW W) (kup σ1 4 0 3 0) ∧ frC σ (kup σ1 4 0 3 0) := by
    have e2 : csB σ 2 5 2 = D.2.1.length := d2.2
    have hl := d2.1.1
    by_cases h : D.2.1.length = 0
    · have hn : nTx D.2.1 = [[]] := by
        unfold nTx
        rw [if_pos h]
      refine ⟨csB σ, ?_, ⟨⟨?_, rfl, ⟨rfl, TR_0, rfl⟩, ⟨rfl, rfl, rfl, rfl, kArr_0⟩, ⟨rfl, fun h => absurd h (show ¬ (0 : Int) = 1 by decide), fun h => absurd h (show ¬ (0 : Int) = 2 by decide), rfl, kArr_0⟩, ⟨rfl, kArr_0⟩, c1.2.2.2.2.2.2⟩, ⟨d1, d2, rfl, o, d4, d5, fun k hk => absurd hk (Nat.not_lt_zero k)⟩, ⟨w1, rfl, w3, w4⟩⟩, (frC_csB σ).kup (by decide) (by decide)⟩
      · unfold f_Di_recover fb_Di_recover_0 fb_Di_recover_33
        show kg (-2147483648 ≤ csB σ 2 5 2 ∧ csB σ 2 5 2 < 2147483648) (if csB σ 2 5 2 ≤ 0 then some (none, csB σ) else _) = _
        rw [e2, kg_pos (by omega), if_pos (by omega)]
      · unfold crA
        rw [hn]
        exact ⟨TR_1 rfl, rfl, rfl, rfl⟩
    · have hn : nTx D.2.1 = D.2.1 := by
        unfold nTx
        rw [if_neg h]
      obtain ⟨F, G, z1, z2⟩ := C_copyLines (σ := csB σ) (t := 0) (u := 5) (T := D.2.1) (a := 0) (b := D.2.1.length - 1) d2.1 e2 (by decide) (by omega) (by omega)
      rw [show D.2.1.length - 1 + 1 = D.2.1.length by omega, slc_all] at z1 z2
      refine ⟨sT (csB σ) 0 F G D.2.1.length, ?_, ⟨⟨?_, rfl, ⟨rfl, TR_0, rfl⟩, ⟨rfl, rfl, rfl, rfl, kArr_0⟩, ⟨rfl, fun h => absurd h (show ¬ (0 : Int) = 1 by decide), fun h => absurd h (show ¬ (0 : Int) = 2 by decide), rfl, kArr_0⟩, ⟨rfl, kArr_0⟩, c1.2.2.2.2.2.2⟩, ⟨d1, d2, rfl, o, d4, d5, fun k hk => absurd hk (Nat.not_lt_zero k)⟩, ⟨w1, rfl, w3, w4⟩⟩, ((frC_csB σ).sT).kup (by decide) (by decide)⟩
      · unfold f_Di_recover fb_Di_recover_0 fb_Di_recover_15 fb_Di_recover_33
        show kg (-2147483648 ≤ csB σ 2 5 2 ∧ csB σ 2 5 2 < 2147483648) (if csB σ 2 5 2 ≤ 0 then some (none, csB σ) else kbu (f_Te_copyLines 0 (csB σ 2 5 2 - 1) 0 5 (csB σ)) _) = _
        have e3 : (D.2.1.length : Int) - 1 = ((D.2.1.length - 1 : Nat) : Int) := by omega
        rw [e2, kg_pos (by omega), if_neg (by omega), e3]
        have z1' : f_Te_copyLines 0 ((D.2.1.length - 1 : Nat) : Int) 0 5 (csB σ) = _ := z1
        rw [kbu_eq z1']
      · unfold crA
        rw [hn]
        exact ⟨z2, rfl, rfl, rfl⟩
  obtain ⟨σ1, e1, p1, f1⟩ := hrec
  obtain ⟨σ2, e2, p2, f2⟩ := p1.show hx (crW_wf w.2.2.2)
  refine ⟨σ2, ?_, p2, f1.tr f2⟩
  show kbu (f_Di_recover 0 (csA σ)) (fun σ1 => fb_Ks_crash_28 σ1) = _
  rw [kbu_eq e1]
  unfold fb_Ks_crash_28 fb_Ks_crash_50
  rw [kbu_eq e2]
  have : σ2 2 0 2 = ((nTx D.2.1).length : Int) := p2.1.1.2.1
  rw [this]
theorem crashR {n : Nat} {A : kEd} {D : kDk} {W : kWn} (w : WF n A D W) (hS : wfText (nTx D.2.1)) : Cr f_Rm_crash (some ((nTx D.2.1).length : Int)) A D W (crA D.2.1) (D.1, D.2.1, []) (showW (nTx D.2.1, 0, 0) (crW W)) := by
  intro σ c
  have hx : wfX (crA D.2.1).1 := wfX_0 hS
  obtain ⟨c1, ⟨d1, d2, d3, d4⟩, ⟨w1, w2, w3, w4⟩⟩ := c
  have e21 : ∀ p, p ≠ 0 → rsR σ 21 0 p = σ 21 0 p := by
    intro p hp
    show (if 21 = 21 ∧ 0 = 0 ∧ p = 0 then 0 else σ 21 0 p) = σ 21 0 p
    rw [if_neg (fun z => hp z.2.2)]
  have t5 : RT (rsR σ) 5 D.1 := d1.1.fr (fun j _ _ => rfl) (fun p h _ => e21 p (by omega))
  have t6 : RT (rsR σ) 6 D.2.1 := d2.1.fr (fun j _ _ => rfl) (fun p h _ => e21 p (by omega))
  have hfr : frR σ (rsR σ) := by
    unfold rsR rsD
    repeat refine frR.kup ?_ (by decide)
    exact frR.rfl
  have hrec : ∃ σ1, fb_Rm_crash_4 (rsR σ) = fb_Rm_crash_27 σ1 ∧ PR (crA D.2.1) (D.1, D.2.1, []) (crW W) σ1 ∧ frR σ σ1 := by
    have hl := d2.1.1
    have e2 : rsR σ 22 0 6 = cnt1 D.2.1 := d2.2
    unfold cnt1 at e2
    by_cases h : D.2.1.length = 0
    · have hn : nTx D.2.1 = [[]] := by
        unfold nTx
        rw [if_pos h]
      rw [if_pos h] at e2
      refine ⟨rsR σ, ?_, ⟨⟨?_, rfl, ⟨rfl, TR_0⟩, ⟨rfl, rfl, rfl, rfl, kArr_0⟩, ⟨rfl, fun h => absurd h (show ¬ (0 : Int) = 1 by decide), fun h => absurd h (show ¬ (0 : Int) = 2 by decide)⟩, ⟨rfl, kArr_0⟩, c1.2.2.2.2.2.2⟩, ⟨⟨t5, d1.2⟩, ⟨t6, d2.2⟩, rfl, fun k hk => absurd hk (Nat.not_lt_zero k)⟩, ⟨w1, rfl, w3, w4⟩⟩, hfr⟩
      · unfold fb_Rm_crash_4
        rw [e2, kg_pos (by decide), if_pos (by decide)]
      · unfold crA
        rw [hn]
        exact ⟨RT0.mpr (TR_1 rfl), rfl, rfl, rfl⟩
    · have hn : nTx D.2.1 = D.2.1 := by
        unfold nTx
        rw [if_neg h]
      rw [if_neg h] at e2
      have x6 : RX (rsR σ) 6 (D.2.1, rsR σ 23 0 6, rsR σ 24 0 6) := ⟨t6, e2, rfl, rfl⟩
      have x0 := sX_b (b := 0) x6
      have y5 := sX_T (a := 6) (b := 0) t5 (by decide)
      have y6 := sX_T (a := 6) (b := 0) t6 (by decide)
      have n5 : sX (rsR σ) 6 0 22 0 5 = rsR σ 22 0 5 := by rw [sX_n _ _ _ (.inl rfl), if_neg (by decide)]
      have n6 : sX (rsR σ) 6 0 22 0 6 = rsR σ 22 0 6 := by rw [sX_n _ _ _ (.inl rfl), if_neg (by decide)]
      have h9 : sX (rsR σ) 6 0 9 0 = rsR σ 9 0 := sX_o _ _ _ (by decide) 0
      have h36 : sX (rsR σ) 6 0 36 0 = rsR σ 36 0 := sX_o _ _ _ (by decide) 0
      generalize hq : sX (rsR σ) 6 0 = q at x0 y5 y6 n5 n6 h9 h36
      have g9 : ∀ c, q 9 0 c = rsR σ 9 0 c := fun c => congrFun h9 c
      refine ⟨kup (kup q 23 0 0 0) 24 0 0 0, ?_, ⟨⟨?_, g9 6, ⟨g9 7, TR_0⟩, ⟨g9 8, g9 9, g9 10, g9 12, kArr_0⟩, ⟨g9 5, fun h => absurd h (show ¬ (0 : Int) = 1 by decide), fun h => absurd h (show ¬ (0 : Int) = 2 by decide)⟩, ⟨g9 14, kArr_0⟩, (g9 15).trans c1.2.2.2.2.2.2⟩, ⟨⟨y5, n5.trans d1.2⟩, ⟨y6, n6.trans d2.2⟩, g9 34, fun k hk => absurd hk (Nat.not_lt_zero k)⟩, ⟨(g9 37).trans w1, g9 38, (g9 39).trans w3, fun r c hr hc => (congrFun h36 _).trans (w4 r c hr hc)⟩⟩, ?_⟩
      · unfold fb_Rm_crash_4 fb_Rm_crash_14 fb_Rm_crash_21 f_Rm_place fb_Rm_place_0
        rw [e2, kg_pos (by omega), if_neg (by omega), kbu_eq (R_copyText (a := 6) (b := 0) (xa := 6) (xb := 0) rfl rfl (by decide) (by decide) (by decide)), hq]
        rfl
      · unfold crA
        rw [hn]
        exact ⟨x0.1, x0.2.1, rfl, rfl⟩
      · rw [← hq]
        exact (hfr.sX.kup (by decide)).kup (by decide)
  obtain ⟨σ1, e1, p1, f1⟩ := hrec
  obtain ⟨σ2, e2, p2, f2⟩ := p1.draw hx (crW_wf w.2.2.2)
  refine ⟨σ2, ?_, p2, f1.tr f2⟩
  unfold f_Rm_crash fb_Rm_crash_0
  rw [kbu_eq (P_reset σ), e1]
  unfold fb_Rm_crash_27 fb_Rm_crash_31
  rw [kbu_eq e2]
  have : σ2 22 0 0 = ((nTx D.2.1).length : Int) := p2.1.1.2.1
  rw [this]
theorem st_crash {n : Nat} {σ : kS} (hJ : J n σ) : kSame (J (n + 1)) f_Ks_crash f_Rm_crash σ := by
  obtain ⟨A, D, W, w, c, r⟩ := hJ
  have hS : wfText (nTx D.2.1) := by
    unfold nTx
    rcases w.2.2.1.2.1 with h | h
    · rw [if_pos h]
      exact wfT_1
    · rw [if_neg (by have := h.1; omega)]
      exact h
  exact kSame.mk (crashC w hS) (crashR w hS) ⟨wfE_x hS, wfL_0 rfl, ⟨w.2.2.1.1, w.2.2.1.2.1, Nat.zero_le _, fun k hk => absurd hk (Nat.not_lt_zero k)⟩, showW_wf (wfX_0 hS) (crW_wf w.2.2.2)⟩ c r
