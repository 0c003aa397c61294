/-! Pure: w and b, the class's walk. -/
def stP (T : Tx) (a : Nat) : Prop := stI T (a / 32) (a % 32) = 1
def sfw (T : Tx) : Nat → Nat → Nat → Int
  | 0, _, _ => -1
  | m + 1, a, l => if stI T (a / 32) (a % 32) = 1 then (if l = 1 then (a : Int) else sfw T m (a + 1) (l - 1)) else sfw T m (a + 1) l
def sbw (T : Tx) : Nat → Nat → Int
  | 0, _ => -1
  | m + 1, l => if stI T (m / 32) (m % 32) = 1 then (if l = 1 then (m : Int) else sbw T m (l - 1)) else sbw T m l
theorem L_behind {σ : kS} {T : Tx} {x1 x2 : Int} (hT : CT σ 0 T) (hc : σ 2 0 2 = T.length) (hpr : printable T) : ∀ (m n a l : Nat), a + m = 32 * T.length → m < n → 1 ≤ l → l ≤ 1000 → fl_Mo_stopBehind_7 n x1 x2 (l : Int) (a : Int) σ = some (some (sfw T m a l), σ) := by
  have hl := hT.1
  intro m
  induction m with
  | zero =>
    intro n a l h1 h2 h3 h4
    obtain ⟨n, rfl⟩ : ∃ n', n = n' + 1 := ⟨n - 1, by omega⟩
    simp only [fl_Mo_stopBehind_7, fb_Mo_stopBehind_7, fb_Mo_stopBehind_52, sfw]
    rw [hc, kg_pos (by omega), if_pos (by omega)]
  | succ m ih =>
    intro n a l h1 h2 h3 h4
    obtain ⟨n, rfl⟩ : ∃ n', n = n' + 1 := ⟨n - 1, by omega⟩
    simp only [fl_Mo_stopBehind_7, fb_Mo_stopBehind_7, fb_Mo_stopBehind_19, sfw]
    rw [hc, kg_pos (by omega), if_neg (by omega), k_div (by omega) (by decide), k_mod (by omega) (by decide), show ((a : Int) / 32) = ((a / 32 : Nat) : Int) by omega, show ((a : Int) % 32) = ((a % 32 : Nat) : Int) by omega, kbi_eq (P_isStop hT hc hpr (by omega) (by omega))]
    unfold fb_Mo_stopBehind_33
    have h01 := stI_01 T (a / 32) (a % 32)
    rw [kg_pos (by omega)]
    by_cases hs : stI T (a / 32) (a % 32) = 1
    · rw [if_neg (by omega), if_pos hs]
      unfold fb_Mo_stopBehind_36
      rw [kg_pos (by omega)]
      by_cases h5 : l = 1
      · rw [if_pos (by omega), if_pos h5]
        rfl
      · rw [if_neg (by omega), if_neg h5]
        unfold fb_Mo_stopBehind_46
        have := ih n (a + 1) (l - 1) (by omega) (by omega) (by omega) (by omega)
        rw [← this]
        congr 1 <;> omega
    · rw [if_pos (by omega), if_neg hs]
      exact ih n (a + 1) l (by omega) (by omega) (by omega) (by omega)
theorem L_before {σ : kS} {T : Tx} {x1 x2 : Int} (hT : CT σ 0 T) (hc : σ 2 0 2 = T.length) (hpr : printable T) : ∀ (m n l : Nat), m ≤ 32 * T.length → m < n → 1 ≤ l → l ≤ 1000 → fl_Mo_stopBefore_7 n x1 x2 (l : Int) ((m : Int) - 1) σ = some (some (sbw T m l), σ) := by
  have hl := hT.1
  intro m
  induction m with
  | zero =>
    intro n l h1 h2 h3 h4
    obtain ⟨n, rfl⟩ : ∃ n', n = n' + 1 := ⟨n - 1, by omega⟩
    simp only [fl_Mo_stopBefore_7, fb_Mo_stopBefore_7, fb_Mo_stopBefore_45, sbw]
    rw [kg_pos (by omega), if_pos (by omega)]
  | succ m ih =>
    intro n l h1 h2 h3 h4
    obtain ⟨n, rfl⟩ : ∃ n', n = n' + 1 := ⟨n - 1, by omega⟩
    rw [show (((m + 1 : Nat) : Int) - 1) = (m : Int) by omega]
    simp only [fl_Mo_stopBefore_7, fb_Mo_stopBefore_7, fb_Mo_stopBefore_12, sbw]
    rw [kg_pos (by omega), if_neg (by omega), k_div (by omega) (by decide), k_mod (by omega) (by decide), show ((m : Int) / 32) = ((m / 32 : Nat) : Int) by omega, show ((m : Int) % 32) = ((m % 32 : Nat) : Int) by omega, kbi_eq (P_isStop hT hc hpr (by omega) (by omega))]
    unfold fb_Mo_stopBefore_26
    have h01 := stI_01 T (m / 32) (m % 32)
    rw [kg_pos (by omega)]
    by_cases hs : stI T (m / 32) (m % 32) = 1
    · rw [if_neg (by omega), if_pos hs]
      unfold fb_Mo_stopBefore_29
      rw [kg_pos (by omega)]
      by_cases h5 : l = 1
      · rw [if_pos (by omega), if_pos h5]
        rfl
      · rw [if_neg (by omega), if_neg h5]
        unfold fb_Mo_stopBefore_39
        have := ih n (l - 1) (by omega) (by omega) (by omega) (by omega)
        rw [← this]
        congr 1 <;> omega
    · rw [if_pos (by omega), if_neg hs]
      exact ih n l (by omega) (by omega) (by omega) (by omega)
theorem sfw_ge (T : Tx) : ∀ (m a l : Nat), sfw T m a l = -1 ∨ (a : Int) ≤ sfw T m a l ∧ sfw T m a l < a + m := by
  intro m
  induction m with
  | zero => exact fun a l => .inl rfl
  | succ m ih =>
    intro a l
    simp only [sfw]
    split
    · split
      · exact .inr ⟨by omega, by omega⟩
      · have := ih (a + 1) (l - 1)
        omega
    · have := ih (a + 1) l
      omega
theorem sbw_ge (T : Tx) : ∀ (m l : Nat), sbw T m l = -1 ∨ (0 : Int) ≤ sbw T m l ∧ sbw T m l < m := by
  intro m
  induction m with
  | zero => exact fun l => .inl rfl
  | succ m ih =>
    intro l
    simp only [sbw]
    split
    · split
      · exact .inr ⟨by omega, by omega⟩
      · have := ih (l - 1)
        omega
    · have := ih l
      omega
theorem sfw_st (T : Tx) : ∀ (m a l : Nat), sfw T m a l = -1 ∨ stI T ((sfw T m a l).toNat / 32) ((sfw T m a l).toNat % 32) = 1 := by
  intro m
  induction m with
  | zero => exact fun a l => .inl rfl
  | succ m ih =>
    intro a l
    simp only [sfw]
    split
    · split
      · rw [Int.toNat_natCast]
        exact .inr (by assumption)
      · exact ih (a + 1) (l - 1)
    · exact ih (a + 1) l
theorem sbw_st (T : Tx) : ∀ (m l : Nat), sbw T m l = -1 ∨ stI T ((sbw T m l).toNat / 32) ((sbw T m l).toNat % 32) = 1 := by
  intro m
  induction m with
  | zero => exact fun l => .inl rfl
  | succ m ih =>
    intro l
    simp only [sbw]
    split
    · split
      · rw [Int.toNat_natCast]
        exact .inr (by assumption)
      · exact ih (l - 1)
    · exact ih l
/-- a stretch without stops is passed over -/
theorem sfw_skip {T : Tx} : ∀ (k m a l : Nat), (∀ i, i < k → stI T ((a + i) / 32) ((a + i) % 32) = 0) → sfw T (k + m) a l = sfw T m (a + k) l := by
  intro k
  induction k with
  | zero =>
    intro m a l _
    rw [Nat.zero_add, Nat.add_zero]
  | succ k ih =>
    intro m a l h
    rw [Nat.add_right_comm]
    simp only [sfw]
    have h0 : stI T (a / 32) (a % 32) = 0 := h 0 (by omega)
    rw [if_neg (by omega), ih m (a + 1) l fun i hi => by
      have := h (i + 1) (by omega)
      rw [show a + 1 + i = a + (i + 1) by omega]
      exact this]
    rw [show a + 1 + k = a + (k + 1) by omega]
theorem sbw_skip {T : Tx} : ∀ (k m l : Nat), (∀ i, i < k → stI T ((m + i) / 32) ((m + i) % 32) = 0) → sbw T (m + k) l = sbw T m l := by
  intro k
  induction k with
  | zero =>
    intro m l _
    rfl
  | succ k ih =>
    intro m l h
    rw [← Nat.add_assoc]
    simp only [sbw]
    rw [if_neg (by rw [h k (by omega)]; decide)]
    exact ih m l fun i hi => h i (by omega)
/-- behind the end of a line there are no stops -/
theorem stI_off {T : Tx} {p c : Nat} (h : max 1 (ln T p).length ≤ c) : stI T p c = 0 := by
  unfold stI
  split
  · rw [if_neg (by omega)]
  · rw [if_neg (by omega)]
