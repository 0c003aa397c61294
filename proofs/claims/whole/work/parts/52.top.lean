/-! Pure: rows of a line, and where the window begins -/
theorem k_div {x y : Int} (hx : 0 ≤ x ∧ x < 2147483648) (hy : 0 < y ∧ y < 2147483648) : kdiv x y = x / y := by
  unfold kdiv
  rw [Int32.toInt_div_of_ne_right, k_toInt ⟨by omega, by omega⟩, k_toInt ⟨by omega, by omega⟩, Int.tdiv_eq_ediv_of_nonneg hx.1]
  intro h
  have e : (-1 : Int32) = Int32.ofInt (-1) := rfl
  rw [e, k_eq ⟨by omega, by omega⟩ (by decide)] at h
  omega
theorem k_mod {x y : Int} (hx : 0 ≤ x ∧ x < 2147483648) (hy : 0 < y ∧ y < 2147483648) : kmod x y = x % y := by
  have h1 : Int32.ofInt x / Int32.ofInt y = Int32.ofInt (x / y) := by
    apply Int32.toInt_inj.mp
    have h := k_div hx hy
    unfold kdiv at h
    have h2 : x / y ≤ x := Int.ediv_le_self y hx.1
    have h3 : 0 ≤ x / y := Int.ediv_nonneg hx.1 (by omega)
    rw [h, k_toInt ⟨by omega, by omega⟩]
  unfold kmod
  rw [h1, ← Int32.ofInt_mul, ← Int32.ofInt_sub]
  have h4 : x - x / y * y = x % y := by rw [Int.emod_def, Int.mul_comm]
  have h5 : 0 ≤ x % y := Int.emod_nonneg x (by omega)
  have h6 : x % y < y := Int.emod_lt_of_pos x hy.1
  rw [h4, k_toInt ⟨by omega, by omega⟩]
theorem k_n0 {y : Int} (hy : 0 < y ∧ y < 2147483648) : ¬ Int32.ofInt y = 0 := by
  intro h
  have e : (0 : Int32) = Int32.ofInt 0 := rfl
  rw [e, k_eq ⟨by omega, by omega⟩ (by decide)] at h
  omega
/-- how many rows a line takes -/
def rws (T : Tx) (w : Int) (p : Nat) : Int := if (ln T p).length = 0 then 1 else ((ln T p).length + w - 1) / w
theorem rws_pos {T : Tx} {w : Int} {p : Nat} (hw : 5 ≤ w ∧ w ≤ 20) (hp : (ln T p).length ≤ 20) : 1 ≤ rws T w p ∧ rws T w p ≤ 4 ∧ ((ln T p).length : Int) ≤ rws T w p * w := by
  unfold rws
  by_cases h : (ln T p).length = 0
  · rw [if_pos h, h]
    refine ⟨by omega, by omega, ?_⟩
    rw [Int.one_mul]
    omega
  · rw [if_neg h]
    have a1 : 1 ≤ (((ln T p).length : Int) + w - 1) / w := by
      rw [Int.le_ediv_iff_mul_le (by omega)]
      omega
    have a2 : (((ln T p).length : Int) + w - 1) / w ≤ 4 := by
      rw [Int.ediv_le_iff_le_mul (by omega)]
      omega
    refine ⟨a1, a2, ?_⟩
    have a3 := Int.lt_ediv_add_one_mul_self (((ln T p).length : Int) + w - 1) (show 0 < w by omega)
    rw [Int.add_mul, Int.one_mul] at a3
    omega
theorem P_rows {σ : kS} {T : Tx} {p : Nat} {x : Int} (hT : RT σ 0 T) (hp : p < T.length) (hx : x = (p : Int)) (hw : 5 ≤ σ 9 0 37 ∧ σ 9 0 37 ≤ 20) : f_Rm_rows x σ = some (some (rws T (σ 9 0 37) p), σ) := by
  subst hx
  have hl := hT.1
  obtain ⟨h1, h2, -⟩ := hT.2 p hp
  have h1 : σ 21 0 p = ((ln T p).length : Int) := by simpa using h1
  unfold f_Rm_rows fb_Rm_rows_0 fb_Rm_rows_9 fb_Rm_rows_13 fb_Rm_rows_31 rws
  have e : ((p : Int)).toNat = p := by omega
  rw [e, kg_pos ⟨by omega, by omega⟩]
  by_cases h : (ln T p).length = 0
  · rw [if_pos (by omega), if_pos h]
  · rw [if_neg (by omega), if_neg h, kg_pos ⟨by omega, k_n0 ⟨by omega, by omega⟩⟩, h1, k_div ⟨by omega, by omega⟩ ⟨by omega, by omega⟩]
theorem P_rowsOf {σ : kS} {T : Tx} {p : Nat} {x : Int} (hT : CT σ 0 T) (hc : σ 2 0 2 = T.length) (hp : p < T.length) (hx : x = (p : Int)) (hw : 5 ≤ σ 4 0 2 ∧ σ 4 0 2 ≤ 20) : f_Wi_rowsOf x σ = some (some (rws T (σ 4 0 2) p), σ) := by
  subst hx
  have hl := hT.1
  obtain ⟨h1, h2, -⟩ := hT.2 p hp
  unfold f_Wi_rowsOf fb_Wi_rowsOf_0 fb_Wi_rowsOf_6
  have e : ((p : Int)).toNat = p := by omega
  have hz : szo T (p : Int) = ((ln T p).length : Int) := by
    unfold szo
    rw [if_pos (by omega), e]
  rw [kbi_eq (P_sizeOf hT hc ⟨by omega, by omega⟩), hz, k_div ⟨by omega, by omega⟩ ⟨by omega, by omega⟩]
  have hr := rws_pos (T := T) (p := p) hw h2
  have hm : max 1 ((((ln T p).length : Int) + σ 4 0 2 - 1) / σ 4 0 2) = rws T (σ 4 0 2) p := by
    unfold rws at hr ⊢
    by_cases h : (ln T p).length = 0
    · rw [if_pos h]
      have : (((ln T p).length : Int) + σ 4 0 2 - 1) / σ 4 0 2 = 0 := by
        rw [h]
        exact Int.ediv_eq_zero_of_lt (by omega) (by omega)
      omega
    · rw [if_neg h] at hr ⊢
      omega
  have h3 : 0 ≤ (((ln T p).length : Int) + σ 4 0 2 - 1) / σ 4 0 2 := Int.ediv_nonneg (by omega) (by omega)
  have h4 : (((ln T p).length : Int) + σ 4 0 2 - 1) / σ 4 0 2 ≤ ((ln T p).length : Int) + σ 4 0 2 - 1 := Int.ediv_le_self _ (by omega)
  rw [kg_pos ⟨k_n0 ⟨by omega, by omega⟩, by omega, by omega⟩, hm]
/-- the rows of m lines from a on -/
def sumR (T : Tx) (w : Int) : Nat → Nat → Int
  | _, 0 => 0
  | a, m + 1 => rws T w a + sumR T w (a + 1) m
theorem sumR_le {T : Tx} {w : Int} (hw : 5 ≤ w ∧ w ≤ 20) : ∀ (m a : Nat), (∀ p, p < a + m → (ln T p).length ≤ 20) → 0 ≤ sumR T w a m ∧ sumR T w a m ≤ 4 * m := by
  intro m
  induction m with
  | zero => intro a _; simp [sumR]
  | succ m ih =>
    intro a h
    have h1 := rws_pos (T := T) (p := a) hw (h a (by omega))
    have h2 := ih (a + 1) (fun p hp => h p (by omega))
    simp only [sumR]
    omega
theorem L_needed {σ : kS} {T : Tx} {r : Nat} (hT : RT σ 0 T) (hr : σ 23 0 0 = r) (hrl : r < T.length) (hw : 5 ≤ σ 9 0 37 ∧ σ 9 0 37 ≤ 20) : ∀ (m n p : Nat) (acc : Int), p + m = r + 1 → m < n → fl_Rm_needed_7 n acc p σ = some (some (acc + sumR T (σ 9 0 37) p m), σ) := by
  have hl := hT.1
  intro m
  induction m with
  | zero =>
    intro n p acc h1 h2
    obtain ⟨n, rfl⟩ : ∃ n', n = n' + 1 := ⟨n - 1, by omega⟩
    simp only [fl_Rm_needed_7, fb_Rm_needed_7, fb_Rm_needed_31, sumR]
    rw [kg_pos ⟨by omega, by omega⟩, if_pos (by omega), Int.add_zero]
  | succ m ih =>
    intro n p acc h1 h2
    obtain ⟨n, rfl⟩ : ∃ n', n = n' + 1 := ⟨n - 1, by omega⟩
    simp only [fl_Rm_needed_7, fb_Rm_needed_7, fb_Rm_needed_17, fb_Rm_needed_23, sumR]
    rw [kg_pos ⟨by omega, by omega⟩, if_neg (by omega), kbi_eq (P_rows hT (show p < T.length by omega) rfl hw)]
    have e : (p : Int) + 1 = ((p + 1 : Nat) : Int) := by omega
    rw [e, ih n (p + 1) _ (by omega) (by omega), Int.add_assoc]
theorem P_needed {σ : kS} {T : Tx} {r p : Nat} (hT : RT σ 0 T) (hr : σ 23 0 0 = r) (hrl : r < T.length) (hw : 5 ≤ σ 9 0 37 ∧ σ 9 0 37 ≤ 20) (hp : σ 9 0 38 = p) (hpr : p ≤ r) : f_Rm_needed σ = some (some (sumR T (σ 9 0 37) p (r + 1 - p)), σ) := by
  have hl := hT.1
  unfold f_Rm_needed fb_Rm_needed_0
  rw [hp, L_needed hT hr hrl hw (r + 1 - p) 3000 p 0 (by omega) (by omega), Int.zero_add]
/-- where the window begins, when it may begin at t and m lines lie between that one and the cursor's -/
def topF (T : Tx) (w : Int) : Nat → Nat → Nat
  | 0, t => t
  | m + 1, t => if sumR T w t (m + 2) ≤ 5 then t else topF T w m (t + 1)
theorem topF_le (T : Tx) (w : Int) : ∀ (m t : Nat), t ≤ topF T w m t ∧ topF T w m t ≤ t + m := by
  intro m
  induction m with
  | zero => intro t; simp [topF]
  | succ m ih =>
    intro t
    simp only [topF]
    split
    · omega
    · have := ih (t + 1)
      omega
