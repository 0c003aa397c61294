/-! Pure: the window follows the cursor -/
theorem RT.of {σ σ' : kS} {b : Nat} {T : Tx} (h : RT σ b T) (h1 : ∀ j, σ' 20 0 j = σ 20 0 j) (h2 : ∀ j, σ' 21 0 j = σ 21 0 j) : RT σ' b T := by
  refine ⟨h.1, fun p hp => ?_⟩
  obtain ⟨a, b1, c⟩ := h.2 p hp
  exact ⟨(h2 _).trans a, b1, fun q hq => (h1 _).trans (c q hq)⟩
theorem CT.of {σ σ' : kS} {t : Nat} {T : Tx} (h : CT σ t T) (h1 : ∀ j, σ' 10 t j = σ 10 t j) (h2 : ∀ j, σ' 11 t j = σ 11 t j) : CT σ' t T := by
  refine ⟨h.1, fun p hp => ?_⟩
  obtain ⟨a, b1, c⟩ := h.2 p hp
  exact ⟨(h2 _).trans a, b1, fun q hq => (h1 _).trans (c q hq)⟩
theorem kup_id (σ : kS) (k i j : Nat) {x : Int} (h : σ k i j = x) : kup σ k i j x = σ := by
  funext a b c
  unfold kup
  split
  · rename_i e
    obtain ⟨rfl, rfl, rfl⟩ := e
    exact h.symm
  · rfl
theorem kup_kup (σ : kS) (k i j : Nat) (x y : Int) : kup (kup σ k i j x) k i j y = kup σ k i j y := by
  funext a b c
  unfold kup
  split <;> rfl
/-- a slot of another kind -/
theorem kup_k {σ : kS} {k i j a b c : Nat} {x : Int} (h : a ≠ k) : kup σ k i j x a b c = σ a b c := by
  unfold kup
  rw [if_neg (fun e => h e.1)]
/-- another slot -/
theorem kup_j {σ : kS} {k i j a b c : Nat} {x : Int} (h : c ≠ j) : kup σ k i j x a b c = σ a b c := by
  unfold kup
  rw [if_neg (fun e => h e.2.2)]
theorem L_topR {T : Tx} {r : Nat} (hrl : r < T.length) : ∀ (m n t : Nat) (σ : kS), RT σ 0 T → σ 23 0 0 = r → 5 ≤ σ 9 0 37 ∧ σ 9 0 37 ≤ 20 → σ 9 0 38 = t → t + m = r → m < n → fl_Rm_draw_30 n σ = fb_Rm_draw_51 (kup σ 9 0 38 (topF T (σ 9 0 37) m t)) := by
  intro m
  induction m with
  | zero =>
    intro n t σ hT hr hw ht h1 h2
    obtain ⟨n, rfl⟩ : ∃ n', n = n' + 1 := ⟨n - 1, by omega⟩
    have hs := sumR_le (T := T) hw (r + 1 - t) t (fun p hp => (hT.2 p (by omega)).2.1)
    simp only [fl_Rm_draw_30, fb_Rm_draw_30, fb_Rm_draw_34, topF]
    rw [kbi_eq (P_needed hT hr hrl hw ht (by omega)), kg_pos ⟨by omega, by omega⟩, if_pos (by omega), kup_id σ 9 0 38 ht]
  | succ m ih =>
    intro n t σ hT hr hw ht h1 h2
    obtain ⟨n, rfl⟩ : ∃ n', n = n' + 1 := ⟨n - 1, by omega⟩
    have hl := hT.1
    have hs := sumR_le (T := T) hw (r + 1 - t) t (fun p hp => (hT.2 p (by omega)).2.1)
    simp only [fl_Rm_draw_30, fb_Rm_draw_30, fb_Rm_draw_34, fb_Rm_draw_38, topF]
    rw [kbi_eq (P_needed hT hr hrl hw ht (by omega)), kg_pos ⟨by omega, by omega⟩]
    have e : r + 1 - t = m + 2 := by omega
    rw [e]
    by_cases h : sumR T (σ 9 0 37) t (m + 2) ≤ 5
    · rw [if_pos h, if_pos h, kup_id σ 9 0 38 ht]
    · rw [if_neg h, if_neg h]
      have hw' : kup σ 9 0 38 (σ 9 0 38 + 1) 9 0 37 = σ 9 0 37 := kup_j (by decide)
      rw [ih n (t + 1) (kup σ 9 0 38 (σ 9 0 38 + 1)) (hT.of (fun j => kup_k (by decide)) (fun j => kup_k (by decide))) (by rw [kup_k (by decide)]; exact hr) (by rw [hw']; exact hw) (by rw [kup_self]; omega) (by omega) (by omega), hw', kup_kup]
theorem P_topR {σ : kS} {T : Tx} {r t : Nat} (hT : RT σ 0 T) (hr : σ 23 0 0 = r) (hrl : r < T.length) (hw : 5 ≤ σ 9 0 37 ∧ σ 9 0 37 ≤ 20) (ht : σ 9 0 38 = t) (ht2 : t < 10) : f_Rm_draw σ = fb_Rm_draw_51 (kup σ 9 0 38 (topF T (σ 9 0 37) (r - min t r) (min t r))) := by
  have hl := hT.1
  unfold f_Rm_draw fb_Rm_draw_0 fb_Rm_draw_23 fb_Rm_draw_14 fb_Rm_draw_27
  rw [kg_pos ⟨by omega, by omega⟩]
  have key : ∀ s0 : Int, s0 = ((min t r : Nat) : Int) → fl_Rm_draw_30 3000 (kup σ 9 0 38 s0) = fb_Rm_draw_51 (kup σ 9 0 38 (topF T (σ 9 0 37) (r - min t r) (min t r))) := by
    intro s0 hs0
    have hw' : kup σ 9 0 38 s0 9 0 37 = σ 9 0 37 := kup_j (by decide)
    rw [L_topR hrl (r - min t r) 3000 (min t r) (kup σ 9 0 38 s0) (hT.of (fun j => kup_k (by decide)) (fun j => kup_k (by decide))) (by rw [kup_k (by decide)]; exact hr) (by rw [hw']; exact hw) (by rw [kup_self]; exact hs0) (by omega) (by omega), hw', kup_kup]
  by_cases h : σ 9 0 38 ≤ σ 23 0 0
  · rw [if_pos h]
    exact key _ (by omega)
  · rw [if_neg h]
    exact key _ (by omega)
theorem L_fol1 {σ : kS} {T : Tx} {r : Nat} (hT : CT σ 0 T) (hc : σ 2 0 2 = T.length) (hr : σ 2 0 3 = r) (hrl : r < T.length) (hw : 5 ≤ σ 4 0 2 ∧ σ 4 0 2 ≤ 20) : ∀ (m n p : Nat) (acc : Int), p + m = r + 1 → m < n → fl_Wi_follow_22 n acc p σ = fl_Wi_follow_45 3000 (acc + sumR T (σ 4 0 2) p m) (r + 1 : Nat) σ := by
  have hl := hT.1
  intro m
  induction m with
  | zero =>
    intro n p acc h1 h2
    obtain ⟨n, rfl⟩ : ∃ n', n = n' + 1 := ⟨n - 1, by omega⟩
    simp only [fl_Wi_follow_22, fb_Wi_follow_22, sumR]
    rw [kg_pos ⟨by omega, by omega⟩, if_pos (by omega), Int.add_zero, show p = r + 1 by omega]
  | succ m ih =>
    intro n p acc h1 h2
    obtain ⟨n, rfl⟩ : ∃ n', n = n' + 1 := ⟨n - 1, by omega⟩
    simp only [fl_Wi_follow_22, fb_Wi_follow_22, fb_Wi_follow_30, fb_Wi_follow_37, sumR]
    rw [kg_pos ⟨by omega, by omega⟩, if_neg (by omega), kbi_eq (P_rowsOf hT hc (show p < T.length by omega) rfl hw)]
    have e : (p : Int) + 1 = ((p + 1 : Nat) : Int) := by omega
    rw [e, ih n (p + 1) _ (by omega) (by omega), Int.add_assoc]
theorem L_fol2 {T : Tx} {r : Nat} (hrl : r < T.length) (x3 : Int) : ∀ (m n t : Nat) (σ : kS), CT σ 0 T → σ 2 0 2 = T.length → σ 2 0 3 = r → 5 ≤ σ 4 0 2 ∧ σ 4 0 2 ≤ 20 → σ 4 0 3 = t → t + m = r → m < n → fl_Wi_follow_45 n (sumR T (σ 4 0 2) t (m + 1)) x3 σ = some (none, kup σ 4 0 3 (topF T (σ 4 0 2) m t)) := by
  intro m
  induction m with
  | zero =>
    intro n t σ hT hc hr hw ht h1 h2
    have hl := hT.1
    obtain ⟨n, rfl⟩ : ∃ n', n = n' + 1 := ⟨n - 1, by omega⟩
    simp only [fl_Wi_follow_45, fb_Wi_follow_45, fb_Wi_follow_86, topF]
    rw [kg_pos ⟨by omega, by omega⟩, if_pos (by omega), kup_id σ 4 0 3 ht]
  | succ m ih =>
    intro n t σ hT hc hr hw ht h1 h2
    have hl := hT.1
    obtain ⟨n, rfl⟩ : ∃ n', n = n' + 1 := ⟨n - 1, by omega⟩
    have hs := sumR_le (T := T) hw (m + 1 + 1) t (fun p hp => (hT.2 p (by omega)).2.1)
    simp only [fl_Wi_follow_45, fb_Wi_follow_45, fb_Wi_follow_56, fb_Wi_follow_61, fb_Wi_follow_71, fb_Wi_follow_86, topF]
    rw [kg_pos ⟨by omega, by omega⟩, if_neg (by omega), kg_pos ⟨by omega, by omega⟩]
    by_cases h : sumR T (σ 4 0 2) t (m + 1 + 1) ≤ 5
    · rw [if_pos h, if_pos h, kup_id σ 4 0 3 ht]
    · rw [if_neg h, if_neg h, kbi_eq (P_rowsOf hT hc (show t < T.length by omega) ht hw)]
      have hw' : kup σ 4 0 3 (σ 4 0 3 + 1) 4 0 2 = σ 4 0 2 := kup_j (by decide)
      have e : sumR T (σ 4 0 2) t (m + 1 + 1) - rws T (σ 4 0 2) t = sumR T (kup σ 4 0 3 (σ 4 0 3 + 1) 4 0 2) (t + 1) (m + 1) := by
        rw [hw']
        simp only [sumR]
        omega
      rw [e, ih n (t + 1) (kup σ 4 0 3 (σ 4 0 3 + 1)) (hT.of (fun j => kup_k (by decide)) (fun j => kup_k (by decide))) (by rw [kup_k (by decide)]; exact hc) (by rw [kup_k (by decide)]; exact hr) (by rw [hw']; exact hw) (by rw [kup_self]; omega) (by omega) (by omega), hw', kup_kup]
theorem P_follow {σ : kS} {T : Tx} {r t : Nat} (hT : CT σ 0 T) (hc : σ 2 0 2 = T.length) (hr : σ 2 0 3 = r) (hrl : r < T.length) (hw : 5 ≤ σ 4 0 2 ∧ σ 4 0 2 ≤ 20) (ht : σ 4 0 3 = t) (ht2 : t < 10) : f_Wi_follow σ = some (none, kup σ 4 0 3 (topF T (σ 4 0 2) (r - min t r) (min t r))) := by
  have hl := hT.1
  unfold f_Wi_follow fb_Wi_follow_0
  have hs0 : min (σ 4 0 3) (σ 2 0 3) = ((min t r : Nat) : Int) := by omega
  rw [kg_pos ⟨by omega, by omega⟩, kup_self, hs0]
  have hw' : kup σ 4 0 3 ((min t r : Nat) : Int) 4 0 2 = σ 4 0 2 := kup_j (by decide)
  have hT' : CT (kup σ 4 0 3 ((min t r : Nat) : Int)) 0 T := hT.of (fun j => kup_k (by decide)) (fun j => kup_k (by decide))
  rw [L_fol1 hT' (by rw [kup_k (by decide)]; exact hc) (by rw [kup_k (by decide)]; exact hr) hrl (by rw [hw']; exact hw) (r + 1 - min t r) 3000 (min t r) 0 (by omega) (by omega), Int.zero_add]
  have e : r + 1 - min t r = (r - min t r) + 1 := by omega
  rw [e, L_fol2 hrl _ (r - min t r) 3000 (min t r) (kup σ 4 0 3 ((min t r : Nat) : Int)) hT' (by rw [kup_k (by decide)]; exact hc) (by rw [kup_k (by decide)]; exact hr) (by rw [hw']; exact hw) (by rw [kup_self]) (by omega) (by omega), hw', kup_kup]
