/-! Pure: sync, the reference's side -/
def JobR (σ : kS) (i : Nat) (j : Int × Int × Tx) : Prop := σ 34 0 i = 5 + j.1 ∧ σ 35 0 i = j.2.1 ∧ RT σ (7 + i) j.2.2 ∧ σ 22 0 (7 + i) = j.2.2.length
/-- only the jobs' cells change -/
def frS (σ σ' : kS) : Prop := (∀ a, a < 20 → σ' a = σ a) ∧ (∀ a, 25 ≤ a → a ≠ 34 → a ≠ 35 → σ' a = σ a) ∧ (∀ j, j < 1400 → σ' 20 0 j = σ 20 0 j) ∧ (∀ j, j < 70 → σ' 21 0 j = σ 21 0 j) ∧ (∀ k, 22 ≤ k → k ≤ 24 → ∀ j, j < 7 → σ' k 0 j = σ k 0 j)
theorem frS.rfl {σ : kS} : frS σ σ := ⟨fun _ _ => Eq.refl _, fun _ _ _ _ => Eq.refl _, fun _ _ => Eq.refl _, fun _ _ => Eq.refl _, fun _ _ _ _ _ => Eq.refl _⟩
theorem frS.tr {σ σ' σ'' : kS} (h : frS σ σ') (g : frS σ' σ'') : frS σ σ'' :=
  ⟨fun a x => (g.1 a x).trans (h.1 a x), fun a x y z => (g.2.1 a x y z).trans (h.2.1 a x y z), fun a x => (g.2.2.1 a x).trans (h.2.2.1 a x), fun a x => (g.2.2.2.1 a x).trans (h.2.2.2.1 a x), fun k x y j z => (g.2.2.2.2 k x y j z).trans (h.2.2.2.2 k x y j z)⟩
theorem frS_sX {σ : kS} {a b : Nat} (hb : 7 ≤ b) : frS σ (sX σ a b) := by
  refine ⟨fun k hk => ?_, fun k h1 h2 h3 => ?_, fun j hj => ?_, fun j hj => ?_, fun k h1 h2 j hj => ?_⟩
  · funext i
    exact sX_o _ _ _ (by omega) i
  · funext i
    exact sX_o _ _ _ (by omega) i
  · rw [sX_20]
    exact if_neg (by omega)
  · rw [sX_21]
    exact if_neg (by omega)
  · rw [sX_n _ _ _ (by omega), if_neg (by omega)]
theorem frS_kup {σ : kS} {k j : Nat} {x : Int} (h : k = 34 ∨ k = 35) : frS σ (kup σ k 0 j x) :=
  ⟨fun a ha => kup_kk (by omega), fun a h1 h2 h3 => kup_kk (by omega), fun i _ => kup_k (by omega), fun i _ => kup_k (by omega), fun a h1 h2 i _ => kup_k (by omega)⟩
theorem L_syncR {js : List (Int × Int × Tx)} (hl : js.length ≤ 2) : ∀ (m n k : Nat) (σ : kS), k + m = js.length → m < n → σ 9 0 34 = js.length → (∀ i, i < k → JobR σ i (js.getD i (0, 0, []))) → (∀ i, k ≤ i → i < js.length → JobR σ (i + 1) (js.getD i (0, 0, []))) → ∃ σ', fl_Rm_sync_52 n (k : Int) σ = fb_Rm_sync_108 σ' ∧ (∀ i, i < js.length → JobR σ' i (js.getD i (0, 0, []))) ∧ frS σ σ' := by
  intro m
  induction m with
  | zero =>
    intro n k σ h1 h2 h3 h4 h5
    obtain ⟨n, rfl⟩ : ∃ n', n = n' + 1 := ⟨n - 1, by omega⟩
    refine ⟨σ, ?_, fun i hi => h4 i (by omega), frS.rfl⟩
    simp only [fl_Rm_sync_52, fb_Rm_sync_52]
    rw [h3, kg_pos (by omega), if_pos (by omega)]
  | succ m ih =>
    intro n k σ h1 h2 h3 h4 h5
    obtain ⟨n, rfl⟩ : ∃ n', n = n' + 1 := ⟨n - 1, by omega⟩
    obtain ⟨q1, q2, q3, q4⟩ := h5 k (by omega) (by omega)
    have q0 : RX σ (7 + (k + 1)) ((js.getD k (0, 0, [])).2.2, σ 23 0 (7 + (k + 1)), σ 24 0 (7 + (k + 1))) := ⟨q3, q4, rfl, rfl⟩
    have f0 : frS σ (sX σ (7 + (k + 1)) (7 + k)) := frS_sX (by omega)
    have x0 := sX_b (b := 7 + k) q0
    generalize hq : sX σ (7 + (k + 1)) (7 + k) = σ1 at f0 x0
    have r34 : σ1 34 = σ 34 := by
      funext i
      rw [← hq]
      exact sX_o _ _ _ (by omega) i
    have r35 : σ1 35 = σ 35 := by
      funext i
      rw [← hq]
      exact sX_o _ _ _ (by omega) i
    have keep : ∀ i j, i ≠ k → JobR σ i j → JobR (kup (kup σ1 34 0 k (σ1 34 0 (k + 1))) 35 0 k (σ1 35 0 (k + 1))) i j := by
      intro i j hi hj
      refine ⟨?_, ?_, ?_, ?_⟩
      · rw [kup_k (by decide), kup_j hi, r34]
        exact hj.1
      · rw [kup_j hi, kup_k (by decide), r35]
        exact hj.2.1
      · refine RT.fr (σ := σ1) ?_ (fun j _ _ => by rw [kup_k (by decide), kup_k (by decide)]) (fun j _ _ => by rw [kup_k (by decide), kup_k (by decide)])
        rw [← hq]
        exact sX_T hj.2.2.1 (by omega)
      · rw [kup_k (by decide), kup_k (by decide), ← hq, sX_n _ _ _ (.inl rfl), if_neg (by omega)]
        exact hj.2.2.2
    have fr1 : frS σ (kup (kup σ1 34 0 k (σ1 34 0 (k + 1))) 35 0 k (σ1 35 0 (k + 1))) := (f0.tr (frS_kup (.inl rfl))).tr (frS_kup (.inr rfl))
    obtain ⟨σ', e1, e2, e3⟩ := ih n (k + 1) (kup (kup σ1 34 0 k (σ1 34 0 (k + 1))) 35 0 k (σ1 35 0 (k + 1))) (by omega) (by omega) ((congrFun (congrFun (fr1.1 9 (by decide)) 0) 34).trans h3) (fun i hi => by
      by_cases hik : i = k
      · subst hik
        refine ⟨?_, ?_, ?_, ?_⟩
        · rw [kup_k (by decide), kup_self, r34]
          exact q1
        · rw [kup_self, r35]
          exact q2
        · exact RT.fr x0.1 (fun j _ _ => by rw [kup_k (by decide), kup_k (by decide)]) (fun j _ _ => by rw [kup_k (by decide), kup_k (by decide)])
        · rw [kup_k (by decide), kup_k (by decide)]
          exact x0.2.1
      · exact keep i _ hik (h4 i (by omega))) (fun i h6 h7 => keep (i + 1) _ (by omega) (h5 i (by omega) h7))
    refine ⟨σ', ?_, e2, fr1.tr e3⟩
    simp only [fl_Rm_sync_52, fb_Rm_sync_52, fb_Rm_sync_60, fb_Rm_sync_74]
    have c1 : 7 + (k : Int) + 1 = ((7 + (k + 1) : Nat) : Int) := by omega
    have c2 : 7 + (k : Int) = ((7 + k : Nat) : Int) := by omega
    have c3 : (k : Int) + 1 = ((k + 1 : Nat) : Int) := by omega
    rw [h3, kg_pos (by omega), if_neg (by omega), c1, c2, kbu_eq (R_copyText (a := 7 + (k + 1)) (b := 7 + k) rfl rfl (by omega) (by omega) (by omega)), hq, c3, kg_pos (by omega), Int.toNat_natCast, Int.toNat_natCast, kup_k (by decide)]
    exact e1
theorem syncR0 {σ : kS} {T : Tx} {js : List (Int × Int × Tx)} {b : Nat} (hl : js.length ≤ 2) (hb : b = 5 ∨ b = 6) (h34 : σ 34 0 0 = b) (h9 : σ 9 0 34 = ((js.length + 1 : Nat) : Int)) (hX : RX σ 7 (T, σ 23 0 7, σ 24 0 7)) (hk : ∀ k, k < js.length → JobR σ (k + 1) (js.getD k (0, 0, []))) :
    ∃ σ', fb_Rm_sync_28 σ = some (some (sumB js), σ') ∧ (RT σ' b T ∧ σ' 22 0 b = T.length) ∧ (∀ j, j < 1400 → ¬ (200 * b ≤ j ∧ j < 200 * b + 200) → σ' 20 0 j = σ 20 0 j) ∧ (∀ j, j < 70 → ¬ (10 * b ≤ j ∧ j < 10 * b + 10) → σ' 21 0 j = σ 21 0 j) ∧ (∀ k, 22 ≤ k → k ≤ 24 → ∀ j, j < 7 → j ≠ b → σ' k 0 j = σ k 0 j) ∧ (∀ c, c ≠ 34 → σ' 9 0 c = σ 9 0 c) ∧ σ' 9 0 34 = js.length ∧ (∀ k, k < js.length → JobR σ' k (js.getD k (0, 0, []))) ∧ (∀ a, 25 ≤ a → a ≠ 34 → a ≠ 35 → σ' a = σ a) ∧ frR σ σ' := by
  have x0 := sX_b (b := b) hX
  have hb7 : b < 7 := by omega
  have jk : ∀ k, k < js.length → JobR (sX σ 7 b) (k + 1) (js.getD k (0, 0, [])) := by
    intro k hk'
    obtain ⟨q1, q2, q3, q4⟩ := hk k hk'
    refine ⟨?_, ?_, sX_T q3 (by omega), ?_⟩
    · rw [sX_o _ _ _ (by omega)]
      exact q1
    · rw [sX_o _ _ _ (by omega)]
      exact q2
    · rw [sX_n _ _ _ (.inl rfl), if_neg (by omega)]
      exact q4
  have f20 : ∀ j, ¬ (200 * b ≤ j ∧ j < 200 * b + 200) → sX σ 7 b 20 0 j = σ 20 0 j := fun j h => by
    rw [sX_20]
    exact if_neg h
  have f21 : ∀ j, ¬ (10 * b ≤ j ∧ j < 10 * b + 10) → sX σ 7 b 21 0 j = σ 21 0 j := fun j h => by
    rw [sX_21]
    exact if_neg h
  have f22 : ∀ k, 22 ≤ k → k ≤ 24 → ∀ j, j ≠ b → sX σ 7 b k 0 j = σ k 0 j := fun k h1 h2 j h => by rw [sX_n _ _ _ (by omega), if_neg h]
  have fo : ∀ a, a < 20 ∨ 24 < a → sX σ 7 b a = σ a := fun a h => funext fun i => sX_o _ _ _ h i
  have hcp := R_copyText (σ := σ) (a := 7) (b := b) (xa := 7) rfl h34 (by decide) (by omega) (by omega)
  generalize sX σ 7 b = σb at x0 jk f20 f21 f22 fo hcp
  have h9b : σb 9 0 34 - 1 = js.length := by
    rw [fo 9 (by decide), h9]
    omega
  obtain ⟨σ', e1, e2, e3⟩ := L_syncR hl js.length 3000 0 (kup σb 9 0 34 js.length) (by omega) (by omega) (kup_self _ _ _ _ _) (fun i hi => absurd hi (Nat.not_lt_zero i)) (fun i _ hi => jk i hi)
  have g9 : σ' 9 = (kup σb 9 0 34 js.length) 9 := e3.1 9 (by decide)
  have g34 : σ' 9 0 34 = js.length := by
    rw [g9, kup_self]
  refine ⟨σ', ?_, ⟨RT.fr x0.1 (fun j _ _ => (e3.2.2.1 j (by omega)).trans (kup_k (by decide))) (fun j _ _ => (e3.2.2.2.1 j (by omega)).trans (kup_k (by decide))), ?_⟩, fun j h1 h2 => ?_, fun j h1 h2 => ?_, fun k h1 h2 j h3 h4 => ?_, fun c hc => ?_, g34, e2, fun a h1 h2 h3 => ?_, fun a h1 h2 => ?_⟩
  · unfold fb_Rm_sync_28 fb_Rm_sync_40
    rw [kbu_eq hcp, h9b]
    have e1' : fl_Rm_sync_52 3000 0 (kup σb 9 0 34 js.length) = _ := e1
    rw [e1']
    unfold fb_Rm_sync_108
    have z := L_sumR (σ := σ') (js := js) g34 (by omega) (fun k hk => (e2 k hk).2.1) js.length 3000 0 0 (by omega) (by omega)
    rw [List.drop_zero, Int.zero_add] at z
    exact z
  · rw [e3.2.2.2.2 22 (by decide) (by decide) b hb7, kup_k (by decide)]
    exact x0.2.1
  · rw [e3.2.2.1 j h1, kup_k (by decide)]
    exact f20 j h2
  · rw [e3.2.2.2.1 j h1, kup_k (by decide)]
    exact f21 j h2
  · rw [e3.2.2.2.2 k h1 h2 j h3, kup_k (by omega)]
    exact f22 k h1 h2 j h4
  · rw [g9, kup_j hc, fo 9 (by decide)]
  · rw [e3.2.1 a h1 h2 h3, kup_kk (by omega)]
    exact fo a (by omega)
  · rw [e3.1 a h2, kup_kk (by omega)]
    exact fo a (by omega)
theorem syncR {A : kEd} {f s : Tx} {j : Int × Int × Tx} {js : List (Int × Int × Tx)} {W : kWn} (hl : js.length ≤ 2) (hj : (j.1 = 0 ∨ j.1 = 1) ∧ 1 ≤ j.2.1 ∧ j.2.1 ≤ 12) (hT : 0 < j.2.2.length) : Cr f_Rm_sync (some (sumB (syD f s j js).2.2)) A (f, s, j :: js) W A (syD f s j js) W := by
  intro σ c
  obtain ⟨c1, ⟨d1, d2, d3, d6⟩, cw⟩ := c
  have d3' : σ 9 0 34 = ((js.length + 1 : Nat) : Int) := d3
  have k0 : JobR σ 0 j := d6 0 (Nat.succ_pos _)
  have k6 : ∀ k, k < js.length → JobR σ (k + 1) (js.getD k (0, 0, [])) := fun k hk => d6 (k + 1) (Nat.succ_lt_succ hk)
  obtain ⟨k1, k2, k3, k4⟩ := k0
  have ea : kup σ 35 0 0 (j.2.1 - 1) 35 0 0 = j.2.1 - 1 := kup_self _ _ _ _ _
  have e0 : f_Rm_sync σ = if j.2.1 - 1 = 0 then fb_Rm_sync_28 (kup σ 35 0 0 (j.2.1 - 1)) else fb_Rm_sync_108 (kup σ 35 0 0 (j.2.1 - 1)) := by
    unfold f_Rm_sync fb_Rm_sync_0 fb_Rm_sync_9
    rw [d3', kg_pos (by omega), if_neg (by omega), k2, ea, kg_pos (by omega)]
  rw [e0]
  unfold syD
  have keep : ∀ i jj, i ≠ 0 → JobR σ i jj → JobR (kup σ 35 0 0 (j.2.1 - 1)) i jj := fun i jj hi hj => ⟨hj.1, (kup_j hi).trans hj.2.1, hj.2.2.1, hj.2.2.2⟩
  by_cases hz : j.2.1 - 1 = 0
  · rw [if_pos hz, if_pos hz]
    have hX : RX (kup σ 35 0 0 (j.2.1 - 1)) 7 (j.2.2, kup σ 35 0 0 (j.2.1 - 1) 23 0 7, kup σ 35 0 0 (j.2.1 - 1) 24 0 7) := ⟨k3, k4, rfl, rfl⟩
    have kk : ∀ k, k < js.length → JobR (kup σ 35 0 0 (j.2.1 - 1)) (k + 1) (js.getD k (0, 0, [])) := fun k hk => keep (k + 1) _ (by omega) (k6 k hk)
    have hp : (j.2.2.length : Int) = cnt1 j.2.2 := by
      unfold cnt1
      rw [if_neg (by omega)]
    rcases hj.1 with h0 | h0
    · have h5 : kup σ 35 0 0 (j.2.1 - 1) 34 0 0 = ((5 : Nat) : Int) := by
        have q : σ 34 0 0 = 5 + j.1 := k1
        rw [kup_k (by decide), q, h0]
        rfl
      obtain ⟨σ', z1, z2, z3, z4, z5, z6, z7, z8, z9, z10⟩ := syncR0 (σ := kup σ 35 0 0 (j.2.1 - 1)) (b := 5) hl (.inl rfl) h5 (show σ 9 0 34 = _ from d3') hX kk
      rw [h0, if_pos rfl, if_pos rfl]
      refine ⟨σ', z1, ⟨?_, ⟨⟨z2.1, z2.2.trans hp⟩, ⟨d2.1.fr (fun i _ _ => z3 i (by omega) (by omega)) (fun i _ _ => z4 i (by omega) (by omega)), (z5 22 (by decide) (by decide) 6 (by decide) (by decide)).trans d2.2⟩, z7, z8⟩, ?_⟩, ?_⟩
      · exact c1.fr2 (fun c hc => z6 c (by omega)) (fun i hi => z3 i (by omega) (by omega)) (fun i hi => z4 i (by omega) (by omega)) (fun k h1 h2 i hi => (z5 k h1 h2 i (by omega) (by omega)).trans (kup_k (by omega))) (z9 25 (by decide) (by decide) (by decide)) (z9 26 (by decide) (by decide) (by decide)) (z9 27 (by decide) (by decide) (by decide))
      · exact cw.cg (fun c hc => z6 c (by omega)) (z9 36 (by decide) (by decide) (by decide))
      · exact (frR.rfl.kup (by decide)).tr z10
    · have h6 : kup σ 35 0 0 (j.2.1 - 1) 34 0 0 = ((6 : Nat) : Int) := by
        have q : σ 34 0 0 = 5 + j.1 := k1
        rw [kup_k (by decide), q, h0]
        rfl
      obtain ⟨σ', z1, z2, z3, z4, z5, z6, z7, z8, z9, z10⟩ := syncR0 (σ := kup σ 35 0 0 (j.2.1 - 1)) (b := 6) hl (.inr rfl) h6 (show σ 9 0 34 = _ from d3') hX kk
      rw [h0, if_neg (by decide), if_neg (by decide)]
      refine ⟨σ', z1, ⟨?_, ⟨⟨d1.1.fr (fun i _ _ => z3 i (by omega) (by omega)) (fun i _ _ => z4 i (by omega) (by omega)), (z5 22 (by decide) (by decide) 5 (by decide) (by decide)).trans d1.2⟩, ⟨z2.1, z2.2.trans hp⟩, z7, z8⟩, ?_⟩, ?_⟩
      · exact c1.fr2 (fun c hc => z6 c (by omega)) (fun i hi => z3 i (by omega) (by omega)) (fun i hi => z4 i (by omega) (by omega)) (fun k h1 h2 i hi => (z5 k h1 h2 i (by omega) (by omega)).trans (kup_k (by omega))) (z9 25 (by decide) (by decide) (by decide)) (z9 26 (by decide) (by decide) (by decide)) (z9 27 (by decide) (by decide) (by decide))
      · exact cw.cg (fun c hc => z6 c (by omega)) (z9 36 (by decide) (by decide) (by decide))
      · exact (frR.rfl.kup (by decide)).tr z10
  · rw [if_neg hz, if_neg hz]
    refine ⟨kup σ 35 0 0 (j.2.1 - 1), ?_, ⟨c1, ⟨d1, d2, d3', fun k hk => ?_⟩, cw⟩, frR.rfl.kup (by decide)⟩
    · unfold fb_Rm_sync_108
      have z := L_sumR (σ := kup σ 35 0 0 (j.2.1 - 1)) (js := (j.1, j.2.1 - 1, j.2.2) :: js) d3' (by rw [List.length_cons]; omega) (fun k hk => ?_) (js.length + 1) 3000 0 0 (by rw [List.length_cons]; omega) (by omega)
      · rw [List.drop_zero, Int.zero_add] at z
        exact z
      · cases k with
        | zero => exact ea
        | succ k => exact (keep (k + 1) _ (by omega) (k6 k (by rw [List.length_cons] at hk; omega))).2.1
    · have hk' : k < js.length + 1 := hk
      cases k with
      | zero => exact ⟨k1, ea, k3, k4⟩
      | succ k => exact keep (k + 1) _ (by omega) (k6 k (by omega))
theorem st_sync {n : Nat} {σ : kS} (hJ : J n σ) : kSame (J (n + 1)) f_Ks_sync f_Rm_sync σ := by
  obtain ⟨A, ⟨f, s, js⟩, W, w, c, r⟩ := hJ
  cases js with
  | nil =>
    refine kSame.mk (y := -1) (fun σ c => ⟨σ, ?_, c, frC.rfl⟩) (fun σ c => ⟨σ, ?_, c, frR.rfl⟩) w.up c r
    · have h : σ 3 0 6 = 0 := c.2.1.2.2.1
      unfold f_Ks_sync fb_Ks_sync_0 fb_Ks_sync_7 f_Di_writeBlock fb_Di_writeBlock_0 fb_Di_writeBlock_7
      rw [h, kg_pos (by decide), if_pos rfl]
      rfl
    · have h : σ 9 0 34 = 0 := c.2.1.2.2.1
      unfold f_Rm_sync fb_Rm_sync_0 fb_Rm_sync_7
      rw [h, kg_pos (by decide), if_pos rfl]
  | cons j js =>
    obtain ⟨w1, w2, w3, w4⟩ := w.2.2.1
    have hl : js.length ≤ 2 := by
      have : (j :: js).length ≤ 3 := w3
      rw [List.length_cons] at this
      omega
    obtain ⟨v1, v2, v3, v4⟩ := w4 0 (Nat.succ_pos _)
    have v1 : j.1 = 0 ∨ j.1 = 1 := v1
    have v2 : 1 ≤ j.2.1 := v2
    have v3 : j.2.1 ≤ 12 := v3
    have v4 : wfText j.2.2 := v4
    have v5 : ∀ k, k < js.length → ((js.getD k (0, 0, [])).1 = 0 ∨ (js.getD k (0, 0, [])).1 = 1) ∧ 1 ≤ (js.getD k (0, 0, [])).2.1 ∧ (js.getD k (0, 0, [])).2.1 ≤ 12 ∧ wfText (js.getD k (0, 0, [])).2.2 := fun k hk => w4 (k + 1) (Nat.succ_lt_succ hk)
    refine kSame.mk (syncC hl ⟨v1, v2, v3⟩) (syncR hl ⟨v1, v2, v3⟩ v4.1) ⟨w.1, w.2.1, ?_, w.2.2.2.up⟩ c r
    unfold syD
    by_cases hz : j.2.1 - 1 = 0
    · rw [if_pos hz]
      refine ⟨?_, ?_, by show js.length ≤ 3; omega, v5⟩
      · show printable (if j.1 = 0 then j.2.2 else f)
        split
        · exact v4.2.2.1
        · exact w1
      · show (if j.1 = 0 then s else j.2.2).length = 0 ∨ wfText (if j.1 = 0 then s else j.2.2)
        split
        · exact w2
        · exact .inr v4
    · rw [if_neg hz]
      refine ⟨w1, w2, by show (js.length + 1) ≤ 3; omega, fun k hk => ?_⟩
      have hk' : k < js.length + 1 := hk
      cases k with
      | zero => exact ⟨v1, by show 1 ≤ j.2.1 - 1; omega, by show j.2.1 - 1 ≤ 12; omega, v4⟩
      | succ k => exact v5 k (by omega)
