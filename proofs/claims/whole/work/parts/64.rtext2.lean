/-! Pure: the reference's texts under its own operations, on -/
theorem ToR.mk' {o : kRes} {r : Option Int} {σ : kS} {T : Tx} {F G : Nat → Int} (h : o = some (r, sM σ F G)) (hn : σ 22 0 0 = T.length) (hT : TR F G T) (hF : oF σ F G) : ToR o r σ T := by
  refine ⟨F, G, ?_, hT, hF⟩
  unfold sR
  rw [kup_id]
  · exact h
  · rw [sM_o (by decide) (by decide)]
    exact hn
theorem L_insertAt {σ : kS} {p a l : Nat} {v : Int} {G : Nat → Int} (hp : p < 10) (hl : l < 20) (hs : G p = l) : ∀ (m n : Nat) (F : Nat → Int), a + m ≤ l → m < n → fl_Rm_insertAt_8 n (p : Int) (a : Int) v ((a + m : Nat) : Int) (sM σ F G) = some (none, sM σ (fun j => if j = 20 * p + a then v else if 20 * p + a + 1 ≤ j ∧ j < 20 * p + a + m + 1 then F (j - 1) else F j) (fun i => if i = p then (l : Int) + 1 else G i)) := by
  intro m
  induction m with
  | zero =>
    intro n F h1 h2
    obtain ⟨n, rfl⟩ : ∃ n', n = n' + 1 := ⟨n - 1, by omega⟩
    simp only [fl_Rm_insertAt_8, fb_Rm_insertAt_8, fb_Rm_insertAt_46]
    have e1 : (20 * (p : Int) + a).toNat = 20 * p + a := by omega
    rw [kg_pos (by omega), if_pos (by omega), kg_pos (by omega), sM_w20, sM_w21, sM_21, Int.toNat_natCast, hs, e1]
    have e4 : (fun j => if j = 20 * p + a then v else if 20 * p + a + 1 ≤ j ∧ j < 20 * p + a + 0 + 1 then F (j - 1) else F j) = (fun j => if j = 20 * p + a then v else F j) := by
      funext j
      rw [if_neg (c := 20 * p + a + 1 ≤ j ∧ j < 20 * p + a + 0 + 1) (by omega)]
    rw [e4]
  | succ m ih =>
    intro n F h1 h2
    obtain ⟨n, rfl⟩ : ∃ n', n = n' + 1 := ⟨n - 1, by omega⟩
    simp only [fl_Rm_insertAt_8, fb_Rm_insertAt_8, fb_Rm_insertAt_14]
    have e1 : (20 * (p : Int) + ((a + (m + 1) : Nat) : Int)).toNat = 20 * p + a + (m + 1) := by omega
    have e2 : (20 * (p : Int) + ((a + (m + 1) : Nat) : Int) - 1).toNat = 20 * p + a + m := by omega
    have e3 : ((a + (m + 1) : Nat) : Int) + -1 = ((a + m : Nat) : Int) := by omega
    rw [kg_pos (by omega), if_neg (by omega), kg_pos (by omega), e1, e2, e3, sM_w20, sM_20, ih n _ (by omega) (by omega)]
    congr 4
    funext j
    try dsimp only
    by_cases h0 : j = 20 * p + a
    · rw [if_pos h0, if_pos h0]
    · rw [if_neg h0, if_neg h0]
      by_cases h : 20 * p + a + 1 ≤ j ∧ j < 20 * p + a + (m + 1) + 1
      · rw [if_pos h]
        by_cases h2 : j < 20 * p + a + m + 1
        · rw [if_pos (by omega), if_neg (by omega)]
        · rw [if_neg (by omega), if_pos (by omega)]
          exact congrArg F (by omega)
      · rw [if_neg h, if_neg (by omega), if_neg (by omega)]
theorem R_insertAt {σ : kS} {T : Tx} {p a : Nat} {xp xa v : Int} (hxp : xp = (p : Int)) (hxa : xa = (a : Int)) (hT : RT σ 0 T) (hc : σ 22 0 0 = T.length) (hp : p < T.length) (ha : a ≤ (ln T p).length) (hs : (ln T p).length < 20) : ToR (f_Rm_insertAt xp xa v σ) none σ (T.set p (ins (ln T p) a [v])) := by
  subst hxp hxa
  have hl := hT.1
  have hT' := RT0.mp hT
  obtain ⟨h1, h2, h3⟩ := hT'.2 p hp
  have hlen := ins_len (X := ln T p) (Y := [v]) (a := a) ha
  have hone : ([v] : List Int).length = 1 := rfl
  have z := L_insertAt (σ := σ) (p := p) (a := a) (v := v) (G := σ 21 0) (by omega) hs h1 ((ln T p).length - a) 3000 (σ 20 0) (by omega) (by omega)
  rw [sM_id, show a + ((ln T p).length - a) = (ln T p).length by omega] at z
  have z2 : f_Rm_insertAt (p : Int) (a : Int) v σ = fl_Rm_insertAt_8 3000 (p : Int) (a : Int) v (((ln T p).length : Nat) : Int) σ := by
    unfold f_Rm_insertAt fb_Rm_insertAt_0
    rw [Int.toNat_natCast, h1, kg_pos (by omega)]
  rw [z] at z2
  refine ToR.mk' z2 (by rw [List.length_set]; exact hc) (hT'.set hp (by omega) (fun q hq hqp => ⟨?_, fun c hc => ?_⟩) ?_ (fun c hc => ?_)) ⟨fun j hj => ?_, fun j hj => ?_⟩
  · (try dsimp only)
    rw [if_neg hqp]
  · (try dsimp only)
    rw [if_neg (by omega), if_neg (by omega)]
  · (try dsimp only)
    rw [if_pos rfl]
    omega
  · rw [ins_gd 0 ha]
    (try dsimp only)
    by_cases h : c < a
    · rw [if_neg (by omega), if_neg (by omega), if_pos h]
      exact h3 c (by omega)
    · rw [if_neg h]
      by_cases h' : c < a + [v].length
      · have e : c = a := by omega
        rw [if_pos (by omega), if_pos h', e, Nat.sub_self]
        rfl
      · rw [if_neg (by omega), if_pos (by omega), if_neg h', ← h3 (c - [v].length) (by omega)]
        exact congrArg (σ 20 0) (by omega)
  · (try dsimp only)
    rw [if_neg (by omega), if_neg (by omega)]
  · (try dsimp only)
    rw [if_neg (by omega)]
theorem L_removeAt {σ : kS} {p l : Nat} {x2 : Int} {G : Nat → Int} (hp : p < 10) (hl : l ≤ 20) (hs : G p = l) : ∀ (m n k : Nat) (F : Nat → Int), k + m + 1 = l → m < n → fl_Rm_removeAt_2 n (p : Int) x2 (k : Int) (sM σ F G) = some (none, sM σ (fun j => if 20 * p + k ≤ j ∧ j < 20 * p + l - 1 then F (j + 1) else F j) (fun i => if i = p then (l : Int) - 1 else G i)) := by
  intro m
  induction m with
  | zero =>
    intro n k F h1 h2
    obtain ⟨n, rfl⟩ : ∃ n', n = n' + 1 := ⟨n - 1, by omega⟩
    simp only [fl_Rm_removeAt_2, fb_Rm_removeAt_2, fb_Rm_removeAt_44]
    rw [sM_21, Int.toNat_natCast, hs, kg_pos (by omega), if_pos (by omega), kg_pos (by omega), sM_w21]
    have e4 : (fun j => if 20 * p + k ≤ j ∧ j < 20 * p + l - 1 then F (j + 1) else F j) = F := by
      funext j
      rw [if_neg (by omega)]
    rw [e4]
  | succ m ih =>
    intro n k F h1 h2
    obtain ⟨n, rfl⟩ : ∃ n', n = n' + 1 := ⟨n - 1, by omega⟩
    simp only [fl_Rm_removeAt_2, fb_Rm_removeAt_2, fb_Rm_removeAt_14]
    have e1 : (20 * (p : Int) + k).toNat = 20 * p + k := by omega
    have e2 : (20 * (p : Int) + k + 1).toNat = 20 * p + k + 1 := by omega
    have e3 : (k : Int) + 1 = ((k + 1 : Nat) : Int) := by omega
    rw [sM_21, Int.toNat_natCast, hs, kg_pos (by omega), if_neg (by omega), kg_pos (by omega), e1, e2, e3, sM_w20, sM_20, ih n _ _ (by omega) (by omega)]
    congr 4
    funext j
    try dsimp only
    by_cases h : 20 * p + k ≤ j ∧ j < 20 * p + l - 1
    · rw [if_pos h]
      by_cases h2 : j = 20 * p + k
      · rw [if_neg (by omega), if_pos h2]
        exact congrArg F (by omega)
      · rw [if_pos (by omega), if_neg (by omega)]
    · rw [if_neg h, if_neg (by omega), if_neg (by omega)]
theorem R_removeAt {σ : kS} {T : Tx} {p a : Nat} {xp xa : Int} (hxp : xp = (p : Int)) (hxa : xa = (a : Int)) (hT : RT σ 0 T) (hc : σ 22 0 0 = T.length) (hp : p < T.length) (ha : a < (ln T p).length) : ToR (f_Rm_removeAt xp xa σ) none σ (T.set p (cut (ln T p) a (a + 1))) := by
  subst hxp hxa
  have hl := hT.1
  have hT' := RT0.mp hT
  obtain ⟨h1, h2, h3⟩ := hT'.2 p hp
  have hlen := cut_len (X := ln T p) (a := a) (b := a + 1) (by omega) (by omega)
  have z := L_removeAt (σ := σ) (p := p) (x2 := (a : Int)) (G := σ 21 0) (by omega) h2 h1 ((ln T p).length - a - 1) 3000 a (σ 20 0) (by omega) (by omega)
  rw [sM_id] at z
  refine ToR.mk' z (by rw [List.length_set]; exact hc) (hT'.set hp (by omega) (fun q hq hqp => ⟨?_, fun c hc => ?_⟩) ?_ (fun c hc => ?_)) ⟨fun j hj => ?_, fun j hj => ?_⟩
  · (try dsimp only)
    rw [if_neg hqp]
  · (try dsimp only)
    rw [if_neg (by omega)]
  · (try dsimp only)
    rw [if_pos rfl]
    omega
  · rw [cut_gd 0 (by omega) (by omega)]
    (try dsimp only)
    by_cases h : c < a
    · rw [if_neg (by omega), if_pos h]
      exact h3 c (by omega)
    · rw [if_neg h, if_pos (by omega), ← h3 (c + (a + 1 - a)) (by omega)]
      exact congrArg (σ 20 0) (by omega)
  · (try dsimp only)
    rw [if_neg (by omega)]
  · (try dsimp only)
    rw [if_neg (by omega)]
theorem L_blanks {σ : kS} {T : Tx} {p : Nat} (hT : RT σ 0 T) (hp : p < T.length) (hpr : ∀ c, c < (ln T p).length → 32 ≤ (ln T p).getD c 0 ∧ (ln T p).getD c 0 ≤ 126) : ∀ (m n k : Nat), k + m = (ln T p).length → m < n → fl_Rm_blanks_2 n (p : Int) (k : Int) σ = some (some (((k + ind ((ln T p).drop k) : Nat) : Int)), σ) := by
  have hl := hT.1
  have hT' := RT0.mp hT
  obtain ⟨h1, h2, h3⟩ := hT'.2 p hp
  intro m
  induction m with
  | zero =>
    intro n k e1 e2
    obtain ⟨n, rfl⟩ : ∃ n', n = n' + 1 := ⟨n - 1, by omega⟩
    simp only [fl_Rm_blanks_2, fb_Rm_blanks_2, fb_Rm_blanks_29]
    rw [Int.toNat_natCast, h1, kg_pos (by omega), if_pos (by omega), List.drop_eq_nil_of_le (by omega)]
    rfl
  | succ m ih =>
    intro n k e1 e2
    obtain ⟨n, rfl⟩ : ∃ n', n = n' + 1 := ⟨n - 1, by omega⟩
    simp only [fl_Rm_blanks_2, fb_Rm_blanks_2, fb_Rm_blanks_12, fb_Rm_blanks_18, fb_Rm_blanks_23, fb_Rm_blanks_29]
    have e4 := hpr k (by omega)
    rw [Int.toNat_natCast, h1, kg_pos (by omega), if_neg (by omega), kbi_eq (P_at hT hp (by omega) rfl rfl), kg_pos (by omega), drop_cons (by omega)]
    unfold ind
    by_cases h : (ln T p).getD k 0 = 32
    · have e5 : (k : Int) + 1 = ((k + 1 : Nat) : Int) := by omega
      rw [if_pos h, if_pos h, e5, ih n (k + 1) (by omega) (by omega)]
      have e6 : k + 1 + ind ((ln T p).drop (k + 1)) = k + (ind ((ln T p).drop (k + 1)) + 1) := by omega
      rw [e6]
    · rw [if_neg h, if_neg h]
      rfl
theorem R_blanks {σ : kS} {T : Tx} {p : Nat} (hT : RT σ 0 T) (hp : p < T.length) (hpr : printable T) : f_Rm_blanks (p : Int) σ = some (some ((ind (ln T p) : Nat) : Int), σ) := by
  unfold f_Rm_blanks fb_Rm_blanks_0
  have z := L_blanks hT hp (hpr p hp) (ln T p).length 3000 0 (by omega) (by have := (hT.2 p hp).2.1; omega)
  rw [Nat.zero_add, List.drop_zero] at z
  exact z
theorem L_copyText {σ : kS} {a b : Nat} (ha : a < 10) (hb : b < 10) (hab : a ≠ b) : ∀ (m n p : Nat) (F G : Nat → Int), p + m = 10 → m < n → fl_Rm_copyText_2 n (a : Int) (b : Int) (p : Int) (sM σ F G) = fb_Rm_copyText_22 (a : Int) (b : Int) 10 (sM σ (fun j => if 200 * b + 20 * p ≤ j ∧ j < 200 * b + 200 then F (200 * a + (j - 200 * b)) else F j) (fun i => if 10 * b + p ≤ i ∧ i < 10 * b + 10 then G (10 * a + (i - 10 * b)) else G i)) := by
  intro m
  induction m with
  | zero =>
    intro n p F G h1 h2
    obtain ⟨n, rfl⟩ : ∃ n', n = n' + 1 := ⟨n - 1, by omega⟩
    simp only [fl_Rm_copyText_2, fb_Rm_copyText_2]
    have e : (p : Int) = 10 := by omega
    rw [kg_pos (by omega), if_pos (by omega), e]
    congr 2
    · funext j
      rw [if_neg (by omega)]
    · funext j
      rw [if_neg (by omega)]
  | succ m ih =>
    intro n p F G h1 h2
    obtain ⟨n, rfl⟩ : ∃ n', n = n' + 1 := ⟨n - 1, by omega⟩
    simp only [fl_Rm_copyText_2, fb_Rm_copyText_2, fb_Rm_copyText_8, fb_Rm_copyText_16]
    have e3 : (p : Int) + 1 = ((p + 1 : Nat) : Int) := by omega
    rw [kg_pos (by omega), if_neg (by omega), kbu_eq (R_copyLine (a := a) (p := p) (b := b) (q := p) F G rfl rfl rfl rfl (by omega) (by omega) (by omega)), e3, ih n (p + 1) _ _ (by omega) (by omega)]
    congr 2
    · funext j
      unfold cpF
      try dsimp only
      by_cases h : 200 * b + 20 * p ≤ j ∧ j < 200 * b + 200
      · rw [if_pos h]
        by_cases h2 : 200 * b + 20 * (p + 1) ≤ j
        · rw [if_pos (by omega), if_neg (by omega)]
        · rw [if_neg (by omega), if_pos (by omega)]
          exact congrArg F (by omega)
      · rw [if_neg h, if_neg (by omega), if_neg (by omega)]
    · funext j
      unfold cpG
      try dsimp only
      by_cases h : 10 * b + p ≤ j ∧ j < 10 * b + 10
      · rw [if_pos h]
        by_cases h2 : 10 * b + (p + 1) ≤ j
        · rw [if_pos (by omega), if_neg (by omega)]
        · rw [if_neg (by omega), if_pos (by omega)]
          exact congrArg G (by omega)
      · rw [if_neg h, if_neg (by omega), if_neg (by omega)]
/-- the state with text a copied to text b -/
def sX (σ : kS) (a b : Nat) : kS := kup (kup (kup (sM σ (fun j => if 200 * b ≤ j ∧ j < 200 * b + 200 then σ 20 0 (200 * a + (j - 200 * b)) else σ 20 0 j) (fun i => if 10 * b ≤ i ∧ i < 10 * b + 10 then σ 21 0 (10 * a + (i - 10 * b)) else σ 21 0 i)) 22 0 b (σ 22 0 a)) 23 0 b (σ 23 0 a)) 24 0 b (σ 24 0 a)
theorem R_copyText {σ : kS} {a b : Nat} {xa xb : Int} (hxa : xa = (a : Int)) (hxb : xb = (b : Int)) (ha : a < 10) (hb : b < 10) (hab : a ≠ b) : f_Rm_copyText xa xb σ = some (none, sX σ a b) := by
  subst hxa hxb
  unfold f_Rm_copyText fb_Rm_copyText_0
  have z := L_copyText (σ := σ) ha hb hab 10 3000 0 (σ 20 0) (σ 21 0) (by omega) (by omega)
  rw [sM_id, Nat.mul_zero, Nat.add_zero, Nat.add_zero] at z
  refine Eq.trans z ?_
  unfold fb_Rm_copyText_22 sX
  rw [Int.toNat_natCast, Int.toNat_natCast, kg_pos (by omega)]
  simp only [kup_f, reduceIte, Nat.reduceEqDiff, false_and, sM_o (show (22 : Nat) ≠ 20 by decide) (by decide), sM_o (show (23 : Nat) ≠ 20 by decide) (by decide), sM_o (show (24 : Nat) ≠ 20 by decide) (by decide), Nat.add_zero]
theorem sX_20 (σ : kS) (a b : Nat) : sX σ a b 20 0 = fun j => if 200 * b ≤ j ∧ j < 200 * b + 200 then σ 20 0 (200 * a + (j - 200 * b)) else σ 20 0 j := by
  unfold sX
  simp only [kup_f, reduceIte, Nat.reduceEqDiff, false_and, sM_20]
theorem sX_21 (σ : kS) (a b : Nat) : sX σ a b 21 0 = fun i => if 10 * b ≤ i ∧ i < 10 * b + 10 then σ 21 0 (10 * a + (i - 10 * b)) else σ 21 0 i := by
  unfold sX
  simp only [kup_f, reduceIte, Nat.reduceEqDiff, false_and, sM_21]
theorem sX_n (σ : kS) (a b : Nat) {k : Nat} (h : k = 22 ∨ k = 23 ∨ k = 24) (c : Nat) : sX σ a b k 0 c = if c = b then σ k 0 a else σ k 0 c := by
  unfold sX
  rcases h with rfl | rfl | rfl
  · simp only [kup_f, reduceIte, Nat.reduceEqDiff, false_and, and_self, sM_o (show (22 : Nat) ≠ 20 by decide) (by decide)]
  · simp only [kup_f, reduceIte, Nat.reduceEqDiff, false_and, and_self, sM_o (show (23 : Nat) ≠ 20 by decide) (by decide)]
  · simp only [kup_f, reduceIte, Nat.reduceEqDiff, false_and, and_self, sM_o (show (24 : Nat) ≠ 20 by decide) (by decide)]
theorem sX_o (σ : kS) (a b : Nat) {k : Nat} (h : k < 20 ∨ 24 < k) (i : Nat) : sX σ a b k i = σ k i := by
  unfold sX
  rw [kup_f, if_neg (by omega), kup_f, if_neg (by omega), kup_f, if_neg (by omega), sM_o (by omega) (by omega)]
theorem RT.fr {σ σ' : kS} {b : Nat} {T : Tx} (h : RT σ b T) (h1 : ∀ j, 200 * b ≤ j → j < 200 * b + 200 → σ' 20 0 j = σ 20 0 j) (h2 : ∀ p, 10 * b ≤ p → p < 10 * b + 10 → σ' 21 0 p = σ 21 0 p) : RT σ' b T := by
  refine ⟨h.1, fun p hp => ?_⟩
  obtain ⟨a1, a2, a3⟩ := h.2 p hp
  have hl := h.1
  exact ⟨(h2 _ (by omega) (by omega)).trans a1, a2, fun c hc => (h1 _ (by omega) (by omega)).trans (a3 c hc)⟩
theorem RX.fr {σ σ' : kS} {b : Nat} {x : Tc} (h : RX σ b x) (h1 : ∀ j, 200 * b ≤ j → j < 200 * b + 200 → σ' 20 0 j = σ 20 0 j) (h2 : ∀ p, 10 * b ≤ p → p < 10 * b + 10 → σ' 21 0 p = σ 21 0 p) (h3 : ∀ k, 22 ≤ k → k ≤ 24 → σ' k 0 b = σ k 0 b) : RX σ' b x :=
  ⟨h.1.fr h1 h2, (h3 22 (by decide) (by decide)).trans h.2.1, (h3 23 (by decide) (by decide)).trans h.2.2.1, (h3 24 (by decide) (by decide)).trans h.2.2.2⟩
theorem sX_b {σ : kS} {a b : Nat} {x : Tc} (h : RX σ a x) : RX (sX σ a b) b x := by
  obtain ⟨⟨hl, hT⟩, h1, h2, h3⟩ := h
  refine ⟨⟨hl, fun p hp => ?_⟩, ?_, ?_, ?_⟩
  · obtain ⟨a1, a2, a3⟩ := hT p hp
    try dsimp only
    rw [sX_21, sX_20]
    try dsimp only
    rw [if_pos (by omega)]
    refine ⟨Eq.trans (congrArg (σ 21 0) (by omega)) a1, a2, fun c hc => ?_⟩
    rw [if_pos (by omega)]
    exact Eq.trans (congrArg (σ 20 0) (by omega)) (a3 c hc)
  · rw [sX_n σ a b (.inl rfl), if_pos rfl]; exact h1
  · rw [sX_n σ a b (.inr (.inl rfl)), if_pos rfl]; exact h2
  · rw [sX_n σ a b (.inr (.inr rfl)), if_pos rfl]; exact h3
theorem sX_T {σ : kS} {a b c : Nat} {T : Tx} (h : RT σ c T) (hc : c ≠ b) : RT (sX σ a b) c T := by
  refine h.fr (fun j h1 h2 => ?_) (fun j h1 h2 => ?_)
  · rw [sX_20]
    dsimp only
    rw [if_neg (by omega)]
  · rw [sX_21]
    dsimp only
    rw [if_neg (by omega)]
theorem sX_x {σ : kS} {a b c : Nat} {x : Tc} (h : RX σ c x) (hc : c ≠ b) : RX (sX σ a b) c x := by
  refine ⟨sX_T h.1 hc, ?_, ?_, ?_⟩
  · rw [sX_n σ a b (.inl rfl), if_neg hc]; exact h.2.1
  · rw [sX_n σ a b (.inr (.inl rfl)), if_neg hc]; exact h.2.2.1
  · rw [sX_n σ a b (.inr (.inr rfl)), if_neg hc]; exact h.2.2.2
