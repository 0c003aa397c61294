/-! Pure: the reference's texts under its own operations -/
def sM (σ : kS) (F G : Nat → Int) : kS := kupA (kupA σ 20 0 F) 21 0 G
theorem sM_id (σ : kS) : sM σ (σ 20 0) (σ 21 0) = σ := by
  unfold sM
  rw [kupA_id, kupA_id]
theorem sM_20 (σ : kS) (F G : Nat → Int) : sM σ F G 20 0 = F := by
  unfold sM
  simp only [kupA_f, reduceIte, Nat.reduceEqDiff, false_and, and_self]
theorem sM_21 (σ : kS) (F G : Nat → Int) : sM σ F G 21 0 = G := by
  unfold sM
  simp only [kupA_f, reduceIte, and_self]
theorem sM_o {σ : kS} {F G : Nat → Int} {a : Nat} (h : a ≠ 20) (h2 : a ≠ 21) (b : Nat) : sM σ F G a b = σ a b := by
  unfold sM
  rw [kupA_f, if_neg (fun z => h2 z.1), kupA_f, if_neg (fun z => h z.1)]
theorem sM_w20 (σ : kS) (F G : Nat → Int) (j : Nat) (x : Int) : kup (sM σ F G) 20 0 j x = sM σ (fun c => if c = j then x else F c) G := by
  rw [kup_eqA, sM_20]
  unfold sM
  rw [kupA_comm (k := 21) (k' := 20) _ _ _ _ _ (by decide), kupA_kupA]
theorem sM_w21 (σ : kS) (F G : Nat → Int) (j : Nat) (x : Int) : kup (sM σ F G) 21 0 j x = sM σ F (fun c => if c = j then x else G c) := by
  rw [kup_eqA, sM_21]
  unfold sM
  rw [kupA_kupA]
theorem sM_sM (σ : kS) (F G F' G' : Nat → Int) : sM (sM σ F G) F' G' = sM σ F' G' := by
  unfold sM
  rw [kupA_comm (k := 21) (k' := 20) _ _ _ _ _ (by decide), kupA_kupA, kupA_kupA]
/-- line s is copied to line d -/
def cpF (F : Nat → Int) (s d k : Nat) : Nat → Int := fun j => if 20 * d + k ≤ j ∧ j < 20 * d + 20 then F (20 * s + (j - 20 * d)) else F j
def cpG (G : Nat → Int) (s d : Nat) : Nat → Int := fun i => if i = d then G s else G i
theorem cpF_step (F : Nat → Int) {s d k : Nat} (hk : k < 20) (hsd : s ≠ d) : cpF (fun c => if c = 20 * d + k then F (20 * s + k) else F c) s d (k + 1) = cpF F s d k := by
  funext j
  unfold cpF
  try dsimp only
  by_cases h : 20 * d + k ≤ j ∧ j < 20 * d + 20
  · rw [if_pos h]
    by_cases h2 : j = 20 * d + k
    · rw [if_neg (by omega), if_pos h2]
      congr 1
      omega
    · rw [if_pos (by omega), if_neg (by omega)]
  · rw [if_neg h, if_neg (by omega), if_neg (by omega)]
theorem L_copyLine {σ : kS} {G : Nat → Int} {a p b q : Nat} (hs : 10 * a + p < 100) (hd : 10 * b + q < 100) (hsd : 10 * a + p ≠ 10 * b + q) : ∀ (m n k : Nat) (F : Nat → Int), k + m = 20 → m < n → fl_Rm_copyLine_3 n (a : Int) (p : Int) (b : Int) (q : Int) (k : Int) (sM σ F G) = some (none, sM σ (cpF F (10 * a + p) (10 * b + q) k) (cpG G (10 * a + p) (10 * b + q))) := by
  intro m
  induction m with
  | zero =>
    intro n k F h1 h2
    obtain ⟨n, rfl⟩ : ∃ n', n = n' + 1 := ⟨n - 1, by omega⟩
    simp only [fl_Rm_copyLine_3, fb_Rm_copyLine_3, fb_Rm_copyLine_53]
    have e1 : (10 * (a : Int) + p).toNat = 10 * a + p := by omega
    have e2 : (10 * (b : Int) + q).toNat = 10 * b + q := by omega
    rw [kg_pos (by omega), if_pos (by omega), kg_pos (by omega), e1, e2, sM_w21, sM_21]
    have e3 : cpF F (10 * a + p) (10 * b + q) k = F := by
      funext j
      unfold cpF
      rw [if_neg (by omega)]
    rw [e3]
    rfl
  | succ m ih =>
    intro n k F h1 h2
    obtain ⟨n, rfl⟩ : ∃ n', n = n' + 1 := ⟨n - 1, by omega⟩
    simp only [fl_Rm_copyLine_3, fb_Rm_copyLine_3, fb_Rm_copyLine_10]
    have e1 : (200 * (a : Int) + 20 * p + k).toNat = 20 * (10 * a + p) + k := by omega
    have e2 : (200 * (b : Int) + 20 * q + k).toNat = 20 * (10 * b + q) + k := by omega
    have e3 : (k : Int) + 1 = ((k + 1 : Nat) : Int) := by omega
    rw [kg_pos (by omega), if_neg (by omega), kg_pos (by omega), e1, e2, sM_w20, sM_20, e3, ih n (k + 1) _ (by omega) (by omega), cpF_step F (by omega) hsd]
theorem R_copyLine {σ : kS} {a p b q : Nat} {xa xp xb xq : Int} (F G : Nat → Int) (ha : xa = (a : Int)) (hp : xp = (p : Int)) (hb : xb = (b : Int)) (hq : xq = (q : Int)) (hs : 10 * a + p < 100) (hd : 10 * b + q < 100) (hsd : 10 * a + p ≠ 10 * b + q) : f_Rm_copyLine xa xp xb xq (sM σ F G) = some (none, sM σ (cpF F (10 * a + p) (10 * b + q) 0) (cpG G (10 * a + p) (10 * b + q))) := by
  subst ha hp hb hq
  unfold f_Rm_copyLine fb_Rm_copyLine_0
  exact L_copyLine hs hd hsd 20 3000 0 F (by omega) (by omega)
/-- the state with another text 0 -/
def sR (σ : kS) (F G : Nat → Int) (n : Int) : kS := kup (sM σ F G) 22 0 0 n
theorem sR_20 (σ : kS) (F G : Nat → Int) (n : Int) : sR σ F G n 20 0 = F := by
  unfold sR
  rw [kup_f, if_neg (by decide), sM_20]
theorem sR_21 (σ : kS) (F G : Nat → Int) (n : Int) : sR σ F G n 21 0 = G := by
  unfold sR
  rw [kup_f, if_neg (by decide), sM_21]
theorem sR_22 (σ : kS) (F G : Nat → Int) (n : Int) : sR σ F G n 22 0 0 = n := by
  unfold sR
  rw [kup_self]
theorem sR_o {σ : kS} {F G : Nat → Int} {n : Int} {a : Nat} (h : a ≠ 20) (h2 : a ≠ 21) (h3 : a ≠ 22) (b : Nat) : sR σ F G n a b = σ a b := by
  unfold sR
  rw [kup_f, if_neg (fun z => h3 z.1), sM_o h h2]
theorem sR_22' {σ : kS} {F G : Nat → Int} {n : Int} {c : Nat} (h : c ≠ 0) : sR σ F G n 22 0 c = σ 22 0 c := by
  unfold sR
  rw [kup_slot h, sM_o (by decide) (by decide)]
theorem sM_kup {σ : kS} {F G : Nat → Int} {k i j : Nat} {x : Int} (h : k ≠ 20) (h2 : k ≠ 21) : sM (kup σ k i j x) F G = kup (sM σ F G) k i j x := by
  rw [kup_eqA, kup_eqA, sM_o h h2]
  unfold sM
  rw [kupA_comm _ _ _ _ _ h, kupA_comm _ _ _ _ _ h2]
theorem sR_sM (σ : kS) (F G F' G' : Nat → Int) (n : Int) : sM (sR σ F G n) F' G' = sR σ F' G' n := by
  unfold sR
  rw [sM_kup (by decide) (by decide), sM_sM]
theorem sR_sR (σ : kS) (F G F' G' : Nat → Int) (n n' : Int) : sR (sR σ F G n) F' G' n' = sR σ F' G' n' := by
  have : sR (sR σ F G n) F' G' n' = kup (sM (sR σ F G n) F' G') 22 0 0 n' := rfl
  rw [this, sR_sM]
  unfold sR
  rw [kup_kup]
theorem sR_id (σ : kS) : sR σ (σ 20 0) (σ 21 0) (σ 22 0 0) = σ := by
  unfold sR
  rw [sM_id, kup_id σ 22 0 0 rfl]
def oF (σ : kS) (F G : Nat → Int) : Prop := (∀ j, 200 ≤ j → F j = σ 20 0 j) ∧ ∀ p, 10 ≤ p → G p = σ 21 0 p
def ToR (o : kRes) (r : Option Int) (σ : kS) (T : Tx) : Prop := ∃ F G, o = some (r, sR σ F G T.length) ∧ TR F G T ∧ oF σ F G
theorem ToR.mk {o : kRes} {r : Option Int} {σ : kS} {T : Tx} {F G : Nat → Int} {n : Int} (h : o = some (r, kup (sM σ F G) 22 0 0 n)) (hn : n = T.length) (hT : TR F G T) (hF : oF σ F G) : ToR o r σ T := ⟨F, G, by rw [h, hn]; rfl, hT, hF⟩
theorem RT0 {σ : kS} {T : Tx} : RT σ 0 T ↔ TR (σ 20 0) (σ 21 0) T := by
  unfold RT
  simp only [Nat.mul_zero, Nat.zero_add]
theorem L_closeLine {σ : kS} {T : Tx} {p : Nat} (hl : T.length ≤ 10) (hc : σ 22 0 0 = T.length) : ∀ (m n q : Nat) (F G : Nat → Int), q + m + 1 = T.length → m < n → fl_Rm_closeLine_2 n (p : Int) (q : Int) (sM σ F G) = some (none, kup (sM σ (fun j => if 20 * q ≤ j ∧ j < 20 * (T.length - 1) then F (j + 20) else F j) (fun i => if q ≤ i ∧ i < T.length - 1 then G (i + 1) else G i)) 22 0 0 ((T.length : Int) - 1)) := by
  intro m
  induction m with
  | zero =>
    intro n q F G h1 h2
    obtain ⟨n, rfl⟩ : ∃ n', n = n' + 1 := ⟨n - 1, by omega⟩
    simp only [fl_Rm_closeLine_2, fb_Rm_closeLine_2, fb_Rm_closeLine_30]
    rw [sM_o (by decide) (by decide), hc, kg_pos (by omega), if_pos (by omega)]
    have e3 : (fun j => if 20 * q ≤ j ∧ j < 20 * (T.length - 1) then F (j + 20) else F j) = F := by
      funext j
      rw [if_neg (by omega)]
    have e4 : (fun i => if q ≤ i ∧ i < T.length - 1 then G (i + 1) else G i) = G := by
      funext j
      rw [if_neg (by omega)]
    rw [e3, e4]
  | succ m ih =>
    intro n q F G h1 h2
    obtain ⟨n, rfl⟩ : ∃ n', n = n' + 1 := ⟨n - 1, by omega⟩
    simp only [fl_Rm_closeLine_2, fb_Rm_closeLine_2, fb_Rm_closeLine_14, fb_Rm_closeLine_24]
    have e3 : (q : Int) + 1 = ((q + 1 : Nat) : Int) := by omega
    rw [sM_o (by decide) (by decide), hc, kg_pos (by omega), if_neg (by omega), kbu_eq (R_copyLine (a := 0) (p := q + 1) (b := 0) (q := q) (xa := 0) (xb := 0) F G rfl e3 rfl rfl (by omega) (by omega) (by omega)), e3, ih n (q + 1) _ _ (by omega) (by omega)]
    congr 4
    · funext j
      unfold cpF
      try dsimp only
      by_cases h : 20 * q ≤ j ∧ j < 20 * (T.length - 1)
      · rw [if_pos h]
        by_cases h2 : 20 * (q + 1) ≤ j
        · rw [if_pos (by omega), if_neg (by omega)]
        · rw [if_neg (by omega), if_pos (by omega)]
          congr 1
          omega
      · rw [if_neg h, if_neg (by omega), if_neg (by omega)]
    · funext j
      unfold cpG
      try dsimp only
      by_cases h : q ≤ j ∧ j < T.length - 1
      · rw [if_pos h]
        by_cases h2 : q + 1 ≤ j
        · rw [if_pos (by omega), if_neg (by omega)]
        · rw [if_neg (by omega), if_pos (by omega)]
          congr 1
          omega
      · rw [if_neg h, if_neg (by omega), if_neg (by omega)]
theorem R_closeLine {σ : kS} {T : Tx} {p : Nat} {xp : Int} (hxp : xp = (p : Int)) (hT : RT σ 0 T) (hc : σ 22 0 0 = T.length) (hp : p < T.length) : ToR (f_Rm_closeLine xp σ) none σ (cut T p (p + 1)) := by
  subst hxp
  have hl := hT.1
  have hT' := RT0.mp hT
  have hlen := cut_len (X := T) (a := p) (b := p + 1) (by omega) (by omega)
  have z := L_closeLine (p := p) hl hc (T.length - 1 - p) 3000 p (σ 20 0) (σ 21 0) (by omega) (by omega)
  rw [sM_id] at z
  refine ToR.mk z (by omega) ⟨by omega, fun q hq => ?_⟩ ⟨fun j hj => ?_, fun j hj => ?_⟩
  · have hq' : ln (cut T p (p + 1)) q = if q < p then ln T q else ln T (q + (p + 1 - p)) := cut_gd [] (by omega) (by omega) q
    rw [hq']
    try dsimp only
    by_cases h : q < p
    · rw [if_pos h, if_neg (by omega)]
      obtain ⟨h1, h2, h3⟩ := hT'.2 q (by omega)
      refine ⟨h1, h2, fun c hc => ?_⟩
      rw [if_neg (by omega)]
      exact h3 c hc
    · rw [if_neg h, if_pos (by omega)]
      obtain ⟨h1, h2, h3⟩ := hT'.2 (q + (p + 1 - p)) (by omega)
      refine ⟨(by rw [← h1]; exact congrArg (σ 21 0) (by omega)), h2, fun c hc => ?_⟩
      rw [if_pos (by omega), ← h3 c hc]
      exact congrArg (σ 20 0) (by omega)
  · try dsimp only
    rw [if_neg (by omega)]
  · try dsimp only
    rw [if_neg (by omega)]
theorem L_openLine {σ : kS} {p l : Nat} (hl : l < 10) (hc : σ 22 0 0 = l) : ∀ (m n : Nat) (F G : Nat → Int), p + m ≤ l → m < n → fl_Rm_openLine_7 n (p : Int) ((p + m : Nat) : Int) (sM σ F G) = some (none, kup (sM σ (fun j => if 20 * (p + 1) ≤ j ∧ j < 20 * (p + m + 1) then F (j - 20) else F j) (fun i => if i = p then 0 else if p + 1 ≤ i ∧ i < p + m + 1 then G (i - 1) else G i)) 22 0 0 ((l : Int) + 1)) := by
  intro m
  induction m with
  | zero =>
    intro n F G h1 h2
    obtain ⟨n, rfl⟩ : ∃ n', n = n' + 1 := ⟨n - 1, by omega⟩
    simp only [fl_Rm_openLine_7, fb_Rm_openLine_7, fb_Rm_openLine_28]
    rw [kg_pos (by omega), if_pos (by omega), kg_pos (by omega), sM_w21, sM_o (by decide) (by decide), hc, Int.toNat_natCast]
    have e3 : (fun j => if 20 * (p + 1) ≤ j ∧ j < 20 * (p + 0 + 1) then F (j - 20) else F j) = F := by
      funext j
      rw [if_neg (by omega)]
    have e4 : (fun i => if i = p then 0 else if p + 1 ≤ i ∧ i < p + 0 + 1 then G (i - 1) else G i) = (fun i => if i = p then 0 else G i) := by
      funext j
      rw [if_neg (c := p + 1 ≤ j ∧ j < p + 0 + 1) (by omega)]
    rw [e3, e4]
  | succ m ih =>
    intro n F G h1 h2
    obtain ⟨n, rfl⟩ : ∃ n', n = n' + 1 := ⟨n - 1, by omega⟩
    simp only [fl_Rm_openLine_7, fb_Rm_openLine_7, fb_Rm_openLine_12, fb_Rm_openLine_22]
    have e3 : ((p + (m + 1) : Nat) : Int) + -1 = ((p + m : Nat) : Int) := by omega
    have e5 : ((p + (m + 1) : Nat) : Int) - 1 = ((p + m : Nat) : Int) := by omega
    rw [kg_pos (by omega), if_neg (by omega), e3, kbu_eq (R_copyLine (a := 0) (p := p + m) (b := 0) (q := p + (m + 1)) (xa := 0) (xb := 0) F G rfl e5 rfl rfl (by omega) (by omega) (by omega)), ih n _ _ (by omega) (by omega)]
    congr 4
    · funext j
      unfold cpF
      try dsimp only
      by_cases h : 20 * (p + 1) ≤ j ∧ j < 20 * (p + (m + 1) + 1)
      · rw [if_pos h]
        by_cases h2 : j < 20 * (p + m + 1)
        · rw [if_pos (by omega), if_neg (by omega)]
        · rw [if_neg (by omega), if_pos (by omega)]
          congr 1
          omega
      · rw [if_neg h, if_neg (by omega), if_neg (by omega)]
    · funext j
      unfold cpG
      try dsimp only
      by_cases h0 : j = p
      · rw [if_pos h0, if_pos h0]
      · rw [if_neg h0, if_neg h0]
        by_cases h : p + 1 ≤ j ∧ j < p + (m + 1) + 1
        · rw [if_pos h]
          by_cases h2 : j < p + m + 1
          · rw [if_pos (by omega), if_neg (by omega)]
          · rw [if_neg (by omega), if_pos (by omega)]
            congr 1
            omega
        · rw [if_neg h, if_neg (by omega), if_neg (by omega)]
theorem R_openLine {σ : kS} {T : Tx} {p : Nat} {xp : Int} (hxp : xp = (p : Int)) (hT : RT σ 0 T) (hc : σ 22 0 0 = T.length) (hp : p ≤ T.length) (hl : T.length < 10) : ToR (f_Rm_openLine xp σ) none σ (ins T p [[]]) := by
  subst hxp
  have hT' := RT0.mp hT
  have hlen := ins_len (X := T) (Y := [[]]) (a := p) hp
  have hone : ([[]] : Tx).length = 1 := rfl
  have z := L_openLine (p := p) hl hc (T.length - p) 3000 (σ 20 0) (σ 21 0) (by omega) (by omega)
  rw [sM_id, show p + (T.length - p) = T.length by omega] at z
  refine ToR.mk ((show f_Rm_openLine (p : Int) σ = fl_Rm_openLine_7 3000 (p : Int) (T.length : Int) σ by unfold f_Rm_openLine fb_Rm_openLine_0; rw [hc]).trans z) (by omega) ⟨by omega, fun q hq => ?_⟩ ⟨fun j hj => ?_, fun j hj => ?_⟩
  · have hq' : ln (ins T p [[]]) q = if q < p then ln T q else if q < p + 1 then ([[]] : Tx).getD (q - p) [] else ln T (q - 1) := ins_gd [] hp q
    rw [hq']
    try dsimp only
    by_cases h : q < p
    · rw [if_pos h, if_neg (by omega), if_neg (by omega)]
      obtain ⟨h1, h2, h3⟩ := hT'.2 q (by omega)
      refine ⟨h1, h2, fun c hc => ?_⟩
      rw [if_neg (by omega)]
      exact h3 c hc
    · rw [if_neg h]
      by_cases h' : q < p + 1
      · have e : q - p = 0 := by omega
        rw [if_pos h', if_pos (by omega), e]
        exact ⟨rfl, by decide, fun c hc => absurd hc (by simp)⟩
      · rw [if_neg h', if_neg (by omega), if_pos (by omega)]
        obtain ⟨h1, h2, h3⟩ := hT'.2 (q - 1) (by omega)
        refine ⟨h1, h2, fun c hc => ?_⟩
        rw [if_pos (by omega), ← h3 c hc]
        exact congrArg (σ 20 0) (by omega)
  · try dsimp only
    rw [if_neg (by omega)]
  · try dsimp only
    rw [if_neg (by omega), if_neg (by omega)]
