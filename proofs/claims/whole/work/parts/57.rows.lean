/-! Pure: all rows are sent, on both sides -/
theorem fin_cost (d : Nat → Bool) (w : Nat) (z : Int) : fin z (scan d w 0 (-1) (-1)) = z + cost d w := by
  unfold fin cost
  split <;> omega
def tot (D : Nat → Nat → Bool) (w : Nat) : Nat → Nat → Int
  | 0, _ => 0
  | m + 1, r => cost (D r) w + tot D w m (r + 1)
theorem tot_le (D : Nat → Nat → Bool) {w : Nat} (hw : w ≤ 20) : ∀ m r, 0 ≤ tot D w m r ∧ tot D w m r ≤ 23 * m := by
  intro m
  induction m with
  | zero => intro r; simp [tot]
  | succ m ih =>
    intro r
    have h1 := cost_le (D r) hw
    have h2 := ih (r + 1)
    simp only [tot]
    omega
theorem L_rowsR {σ : kS} {w : Nat} (x1 : Int) (hw : σ 9 0 37 = w) (hw2 : 5 ≤ w ∧ w ≤ 20) {D : Nat → Nat → Bool} (hu : ∀ r c, r < 5 → c < w → -2147483648 ≤ σ 37 0 (20 * r + c) ∧ σ 37 0 (20 * r + c) < 2147483648) : ∀ (m n r : Nat) (z : Int) (s : Nat → Int), r + m = 5 → m < n → (∀ r' c, r ≤ r' → r' < 5 → c < w → (D r' c = true ↔ ¬ σ 37 0 (20 * r' + c) = s (20 * r' + c))) → (∀ r' c, r ≤ r' → r' < 5 → c < w → -2147483648 ≤ s (20 * r' + c) ∧ s (20 * r' + c) < 2147483648) →
    fl_Rm_draw_249 n x1 r (Sx σ 36 s 9 39 z) = some (none, Sx σ 36 (fun i => if r ≤ i / 20 ∧ i / 20 < 5 ∧ i % 20 < w then σ 37 0 i else s i) 9 39 (z + tot D w m r)) := by
  intro m
  induction m with
  | zero =>
    intro n r z s h1 h2 hd hs
    obtain ⟨n, rfl⟩ : ∃ n', n = n' + 1 := ⟨n - 1, by omega⟩
    obtain rfl : r = 5 := by omega
    simp only [fl_Rm_draw_249, fb_Rm_draw_249, fb_Rm_draw_265, tot]
    rw [kg_pos ⟨by omega, by omega⟩, if_pos (by omega), Int.add_zero]
    congr 3
    funext i
    rw [if_neg (by omega)]
  | succ m ih =>
    intro n r z s h1 h2 hd hs
    obtain ⟨n, rfl⟩ : ∃ n', n = n' + 1 := ⟨n - 1, by omega⟩
    have e : (r : Int) + 1 = ((r + 1 : Nat) : Int) := by omega
    have hsend : f_Rm_send r (Sx σ 36 s 9 39 z) = some (none, Sx σ 36 (fun i => if 20 * r + 0 ≤ i ∧ i < 20 * r + w then σ 37 0 i else s i) 9 39 (fin z (scan (D r) w 0 (-1) (-1)))) :=
      L_sendR (d := D r) hw hw2 (by omega) (fun c hc => hu r c (by omega) hc) w 3000 0 (-1) (-1) z s (by omega) (by omega) (Or.inl ⟨rfl, rfl⟩) (fun c _ hc => hd r c (by omega) (by omega) hc) (fun c _ hc => hs r c (by omega) (by omega) hc)
    simp only [fl_Rm_draw_249, fb_Rm_draw_249, fb_Rm_draw_254, fb_Rm_draw_259, tot]
    rw [kg_pos ⟨by omega, by omega⟩, if_neg (by omega), kbu_eq hsend, fin_cost, e, ih n (r + 1) _ _ (by omega) (by omega) (fun r' c q1 q2 q3 => by
        show D r' c = true ↔ ¬ σ 37 0 (20 * r' + c) = (if 20 * r + 0 ≤ 20 * r' + c ∧ 20 * r' + c < 20 * r + w then _ else s (20 * r' + c))
        rw [if_neg (by omega)]
        exact hd r' c (by omega) q2 q3) (fun r' c q1 q2 q3 => by
        show -2147483648 ≤ (if 20 * r + 0 ≤ 20 * r' + c ∧ 20 * r' + c < 20 * r + w then σ 37 0 (20 * r' + c) else s (20 * r' + c)) ∧ (if 20 * r + 0 ≤ 20 * r' + c ∧ 20 * r' + c < 20 * r + w then σ 37 0 (20 * r' + c) else s (20 * r' + c)) < 2147483648
        rw [if_neg (by omega)]
        exact hs r' c (by omega) q2 q3), Int.add_assoc]
    congr 3
    funext i
    show (if r + 1 ≤ i / 20 ∧ i / 20 < 5 ∧ i % 20 < w then σ 37 0 i else (if 20 * r + 0 ≤ i ∧ i < 20 * r + w then σ 37 0 i else s i)) = _
    by_cases q : r ≤ i / 20 ∧ i / 20 < 5 ∧ i % 20 < w
    · rw [if_pos q]
      by_cases q2 : r + 1 ≤ i / 20
      · rw [if_pos ⟨q2, q.2⟩]
      · rw [if_neg (fun z => q2 z.1), if_pos (by omega)]
    · rw [if_neg q, if_neg (fun z => q ⟨by omega, z.2⟩), if_neg (by omega)]
def off (o : Nat) (a : Int) : Int := if a < 0 then -1 else (o : Int) + a
theorem L_sendC {σ : kS} {w r : Nat} (k2 : Int → kS → kRes) (hw : σ 4 0 2 = w) (hw2 : 5 ≤ w ∧ w ≤ 20) (hr : r < 5) {d : Nat → Bool} (hu : ∀ c, c < w → -2147483648 ≤ σ 15 1 (r * w + c) ∧ σ 15 1 (r * w + c) < 2147483648) : ∀ (m n k : Nat) (a b z : Int) (s : Nat → Int), k + m = w → m < n → (a = -1 ∧ b = -1 ∨ 0 ≤ a ∧ a ≤ b ∧ b < k) → (∀ c, k ≤ c → c < w → (d c = true ↔ ¬ s (r * w + c) = σ 15 1 (r * w + c))) → (∀ c, k ≤ c → c < w → -2147483648 ≤ s (r * w + c) ∧ s (r * w + c) < 2147483648) →
    fl_Wi_send_19 k2 n r (off (r * w) a) (off (r * w) b) ((r * w + k : Nat) : Int) (Sx σ 15 s 4 4 z) = k2 (r + 1) (Sx σ 15 (fun i => if r * w + k ≤ i ∧ i < r * w + w then σ 15 1 i else s i) 4 4 (fin z (scan d m k a b))) := by
  have c1 : ∀ s z, Sx σ 15 s 4 4 z 4 0 2 = w := fun s z => by rw [Sx_j (by decide) (by decide)]; exact hw
  have c2 : ∀ s z i, Sx σ 15 s 4 4 z 15 1 i = σ 15 1 i := fun s z i => Sx_i (by decide) (by decide)
  have c3 : ∀ s z i, Sx σ 15 s 4 4 z 15 0 i = s i := fun s z i => Sx_arr (by decide) i
  have e0 : ((r : Int) + 1) * (w : Int) = ((r * w + w : Nat) : Int) := by rw [Int.add_mul, Int.one_mul]; simp
  have e4 : r * w ≤ 4 * w := Nat.mul_le_mul_right w (by omega)
  intro m
  induction m with
  | zero =>
    intro n k a b z s h1 h2 hab hd hs
    obtain ⟨n, rfl⟩ : ∃ n', n = n' + 1 := ⟨n - 1, by omega⟩
    obtain rfl : k = w := by omega
    have e : (fun i => if r * k + k ≤ i ∧ i < r * k + k then σ 15 1 i else s i) = s := by
      funext i
      rw [if_neg (by omega)]
    simp only [fl_Wi_send_19, fb_Wi_send_19, fb_Wi_send_83, fb_Wi_send_87, fb_Wi_send_103, scan]
    rw [e, c1, e0, kg_pos ⟨by omega, by omega⟩, if_pos (by omega)]
    unfold fin off
    by_cases h : a < 0
    · rw [if_pos h, kg_pos (by decide), if_pos (by decide), if_pos h]
    · rw [if_neg h, kg_pos (by omega), if_neg (by omega), if_neg h, if_neg (by omega), Sx_z, Sx_s]
      congr 2
      omega
  | succ m ih =>
    intro n k a b z s h1 h2 hab hd hs
    obtain ⟨n, rfl⟩ : ∃ n', n = n' + 1 := ⟨n - 1, by omega⟩
    have e2 : ((r * w + k : Nat) : Int) + 1 = ((r * w + (k + 1) : Nat) : Int) := by omega
    have hk := hd k (by omega) (by omega)
    simp only [fl_Wi_send_19, fb_Wi_send_19, fb_Wi_send_32, fb_Wi_send_49, fb_Wi_send_53, fb_Wi_send_58, fb_Wi_send_59, fb_Wi_send_77, scan]
    rw [c1, e0, kg_pos ⟨by omega, by omega⟩, if_neg (by omega), Int.toNat_natCast, c2, c3, kg_pos ⟨by omega, hs k (by omega) (by omega), hu k (by omega)⟩, e2]
    by_cases h : s (r * w + k) = σ 15 1 (r * w + k)
    · have hdk : ¬ d k = true := fun q => hk.mp q h
      rw [if_pos h, if_neg hdk, ih n (k + 1) a b z s (by omega) (by omega) (by omega) (fun c q1 q2 => hd c (by omega) q2) (fun c q1 q2 => hs c (by omega) q2)]
      congr 2
      funext i
      by_cases q : i = r * w + k
      · rw [if_neg (by omega), if_pos (by omega), q, h]
      · by_cases q2 : r * w + k ≤ i ∧ i < r * w + w
        · rw [if_pos q2, if_pos (by omega)]
        · rw [if_neg q2, if_neg (by omega)]
    · have hdk : d k = true := hk.mpr h
      have key : ∀ x2 : Int, x2 = off (r * w) (if a < 0 then (k : Int) else a) → kg (0 ≤ ((r * w + k : Nat) : Int) ∧ ((r * w + k : Nat) : Int) < (100 : Nat)) (fl_Wi_send_19 k2 n r x2 ((r * w + k : Nat) : Int) ((r * w + (k + 1) : Nat) : Int) (kup (Sx σ 15 s 4 4 z) 15 0 (r * w + k) (σ 15 1 (r * w + k)))) = k2 (r + 1) (Sx σ 15 (fun i => if r * w + k ≤ i ∧ i < r * w + w then σ 15 1 i else s i) 4 4 (fin z (scan d m (k + 1) (if a < 0 then (k : Int) else a) k))) := by
        intro x2 hx2
        have hb : ((r * w + k : Nat) : Int) = off (r * w) (k : Int) := by
          unfold off
          rw [if_neg (by omega)]
          omega
        have hih := ih n (k + 1) (if a < 0 then (k : Int) else a) k z (fun c => if c = r * w + k then σ 15 1 (r * w + k) else s c) (by omega) (by omega) (by split <;> omega) (fun c q1 q2 => by
            show d c = true ↔ ¬ (if r * w + c = r * w + k then _ else s (r * w + c)) = σ 15 1 (r * w + c)
            rw [if_neg (by omega)]
            exact hd c (by omega) q2) (fun c q1 q2 => by
            show -2147483648 ≤ (if r * w + c = r * w + k then σ 15 1 (r * w + k) else s (r * w + c)) ∧ (if r * w + c = r * w + k then σ 15 1 (r * w + k) else s (r * w + c)) < 2147483648
            rw [if_neg (by omega)]
            exact hs c (by omega) q2)
        rw [← hb] at hih
        rw [kg_pos ⟨by omega, by omega⟩, Sx_w (by decide), hx2, hih]
        congr 2
        funext i
        show (if r * w + (k + 1) ≤ i ∧ i < r * w + w then σ 15 1 i else (if i = r * w + k then σ 15 1 (r * w + k) else s i)) = _
        by_cases q : i = r * w + k
        · rw [if_neg (by omega), if_pos q, if_pos (by omega), q]
        · rw [if_neg q]
          by_cases q2 : r * w + k ≤ i ∧ i < r * w + w
          · rw [if_pos q2, if_pos (by omega)]
          · rw [if_neg q2, if_neg (by omega)]
      have hoa : off (r * w) a = if a < 0 then -1 else ((r * w : Nat) : Int) + a := rfl
      rw [if_neg h, if_pos hdk, kg_pos (by rw [hoa]; split <;> omega)]
      by_cases ha : a < 0
      · rw [if_neg (by rw [hoa, if_pos ha]; omega)]
        exact key _ (by rw [if_pos ha]; unfold off; rw [if_neg (by omega)]; omega)
      · rw [if_pos (by rw [hoa, if_neg ha]; omega)]
        exact key _ (by rw [if_neg ha])
theorem L_rowsC {σ : kS} {w : Nat} (hw : σ 4 0 2 = w) (hw2 : 5 ≤ w ∧ w ≤ 20) {D : Nat → Nat → Bool} (hu : ∀ r c, r < 5 → c < w → -2147483648 ≤ σ 15 1 (r * w + c) ∧ σ 15 1 (r * w + c) < 2147483648) : ∀ (m n r : Nat) (z : Int) (s : Nat → Int), r + m = 5 → m < n → (∀ r' c, r ≤ r' → r' < 5 → c < w → (D r' c = true ↔ ¬ s (r' * w + c) = σ 15 1 (r' * w + c))) → (∀ r' c, r ≤ r' → r' < 5 → c < w → -2147483648 ≤ s (r' * w + c) ∧ s (r' * w + c) < 2147483648) →
    fl_Wi_send_2 n r (Sx σ 15 s 4 4 z) = some (none, Sx σ 15 (fun i => if r * w ≤ i ∧ i < 5 * w then σ 15 1 i else s i) 4 4 (z + tot D w m r)) := by
  have c1 : ∀ s z, Sx σ 15 s 4 4 z 4 0 2 = w := fun s z => by rw [Sx_j (by decide) (by decide)]; exact hw
  intro m
  induction m with
  | zero =>
    intro n r z s h1 h2 hd hs
    obtain ⟨n, rfl⟩ : ∃ n', n = n' + 1 := ⟨n - 1, by omega⟩
    obtain rfl : r = 5 := by omega
    simp only [fl_Wi_send_2, fb_Wi_send_2, fb_Wi_send_109, tot]
    rw [kg_pos ⟨by omega, by omega⟩, if_pos (by omega), Int.add_zero]
    congr 3
    funext i
    rw [if_neg (by omega)]
  | succ m ih =>
    intro n r z s h1 h2 hd hs
    obtain ⟨n, rfl⟩ : ∃ n', n = n' + 1 := ⟨n - 1, by omega⟩
    have e : (r : Int) + 1 = ((r + 1 : Nat) : Int) := by omega
    have e3 : (r : Int) * (w : Int) = ((r * w + 0 : Nat) : Int) := by simp
    have e5 : ∀ r', r < r' → r * w + w ≤ r' * w := fun r' q => by
      have := Nat.mul_le_mul_right w (show r + 1 ≤ r' by omega)
      rw [Nat.add_mul, Nat.one_mul] at this
      exact this
    have hrow := L_sendC (d := D r) (fl_Wi_send_2 n) hw hw2 (show r < 5 by omega) (fun c hc => hu r c (by omega) hc) w 3000 0 (-1) (-1) z s (by omega) (by omega) (Or.inl ⟨rfl, rfl⟩) (fun c _ hc => hd r c (by omega) (by omega) hc) (fun c _ hc => hs r c (by omega) (by omega) hc)
    have ho : off (r * w) (-1) = -1 := rfl
    rw [ho] at hrow
    simp only [fl_Wi_send_2, fb_Wi_send_2, fb_Wi_send_7, tot]
    rw [kg_pos ⟨by omega, by omega⟩, if_neg (by omega), c1, e3, hrow, fin_cost, e, ih n (r + 1) _ _ (by omega) (by omega) (fun r' c q1 q2 q3 => by
        have := e5 r' (by omega)
        show D r' c = true ↔ ¬ (if r * w + 0 ≤ r' * w + c ∧ r' * w + c < r * w + w then _ else s (r' * w + c)) = σ 15 1 (r' * w + c)
        rw [if_neg (by omega)]
        exact hd r' c (by omega) q2 q3) (fun r' c q1 q2 q3 => by
        have := e5 r' (by omega)
        show -2147483648 ≤ (if r * w + 0 ≤ r' * w + c ∧ r' * w + c < r * w + w then σ 15 1 (r' * w + c) else s (r' * w + c)) ∧ (if r * w + 0 ≤ r' * w + c ∧ r' * w + c < r * w + w then σ 15 1 (r' * w + c) else s (r' * w + c)) < 2147483648
        rw [if_neg (by omega)]
        exact hs r' c (by omega) q2 q3), Int.add_assoc]
    refine congrArg (fun q : Nat → Int => (some (none, Sx σ 15 q 4 4 (z + (cost (D r) w + tot D w m (r + 1)))) : kRes)) ?_
    funext i
    have e6 : (r + 1) * w = r * w + w := by rw [Nat.add_mul, Nat.one_mul]
    have e7 : r * w + w ≤ 5 * w := by
      have := Nat.mul_le_mul_right w (show r + 1 ≤ 5 by omega)
      rw [e6] at this
      exact this
    show (if (r + 1) * w ≤ i ∧ i < 5 * w then σ 15 1 i else (if r * w + 0 ≤ i ∧ i < r * w + w then σ 15 1 i else s i)) = _
    rw [e6]
    by_cases q : r * w ≤ i ∧ i < 5 * w
    · rw [if_pos q]
      by_cases q2 : r * w + w ≤ i
      · rw [if_pos ⟨q2, q.2⟩]
      · rw [if_neg (fun z => q2 z.1), if_pos (by omega)]
    · rw [if_neg q, if_neg (by omega), if_neg (by omega)]
