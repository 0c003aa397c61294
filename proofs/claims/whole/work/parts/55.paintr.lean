/-! Pure: what the window should show; the reference's side -/
/-- the reference's rows of twenty hold the class's rows of w -/
def WR (w : Nat) (g f : Nat → Int) : Prop := ∀ r c, r < 5 → c < w → g (20 * r + c) = f (r * w + c)
theorem dm_w {w r c : Nat} (hc : c < w) : (r * w + c) % w = c ∧ (r * w + c) / w = r := by
  constructor
  · rw [Nat.mul_comm, Nat.mul_add_mod]
    exact Nat.mod_eq_of_lt hc
  · rw [Nat.mul_comm, Nat.mul_add_div (by omega), Nat.div_eq_of_lt hc, Nat.add_zero]
theorem WR.sign {w : Nat} {g f : Nat → Int} (hw : 5 ≤ w ∧ w ≤ 20) (h : WR w g f) (s : Int) (r : Nat) : WR w (signF 20 s r g) (signF w s r f) := by
  intro r' c hr hc
  unfold signF
  have a := dm_w (r := r') hc
  rw [a.1, a.2]
  have b1 : (20 * r' + c) % 20 = c := by omega
  have b2 : (20 * r' + c) / 20 = r' := by omega
  rw [b1, b2, h r' c hr hc]
theorem tk {L : List Int} {n j : Nat} (h : j < n) : (L.take n).getD j 0 = L.getD j 0 := by
  rw [List.getD_eq_getElem?_getD, List.getD_eq_getElem?_getD, List.getElem?_take, if_pos h]
theorem WR.char {w : Nat} {g f : Nat → Int} {L : List Int} {r k : Nat} (hw : 5 ≤ w ∧ w ≤ 20) (hk : k < L.length) (h : WR w g (lineF (L.take k) (r * w) f)) : WR w (fun i => if i = 20 * (r + k / w) + k % w then L.getD k 0 else g i) (lineF (L.take (k + 1)) (r * w) f) := by
  intro r' c hr hc
  have hq := Nat.div_add_mod k w
  have hz : k % w < w := Nat.mod_lt k (by omega)
  have hL1 : (L.take (k + 1)).length = k + 1 := by rw [List.length_take]; omega
  have hL0 : (L.take k).length = k := by rw [List.length_take]; omega
  have hm : (r + k / w) * w + k % w = r * w + k := by
    rw [Nat.add_mul, Nat.mul_comm (k / w) w]
    omega
  show (if 20 * r' + c = 20 * (r + k / w) + k % w then L.getD k 0 else g (20 * r' + c)) = _
  by_cases e : 20 * r' + c = 20 * (r + k / w) + k % w
  · obtain ⟨e1, e2⟩ : r' = r + k / w ∧ c = k % w := by omega
    rw [if_pos e, e1, e2, hm]
    unfold lineF
    rw [hL1, if_pos (by omega), show r * w + k - r * w = k by omega, tk (by omega)]
  · rw [if_neg e, h r' c hr hc]
    have hne : r' * w + c ≠ r * w + k := by
      intro z
      have a := dm_w (r := r') hc
      have b := dm_w (r := r + k / w) hz
      rw [hm, ← z] at b
      have z1 : c = k % w := a.1.symm.trans b.1
      have z2 : r' = r + k / w := a.2.symm.trans b.2
      exact e (by omega)
    unfold lineF
    rw [hL1, hL0]
    by_cases h1 : r * w ≤ r' * w + c ∧ r' * w + c < r * w + k
    · rw [if_pos h1, if_pos (by omega), tk (by omega), tk (by omega)]
    · rw [if_neg h1, if_neg (by omega)]
theorem P_at {σ : kS} {T : Tx} {p k : Nat} {x y : Int} (hT : RT σ 0 T) (hp : p < T.length) (hk : k < (ln T p).length) (hx : x = (p : Int)) (hy : y = (k : Int)) : f_Rm_at x y σ = some (some ((ln T p).getD k 0), σ) := by
  subst hx hy
  have hl := hT.1
  obtain ⟨-, h2, h3⟩ := hT.2 p hp
  have h4 := h3 k hk
  have e : (20 * (p : Int) + (k : Int)).toNat = 20 * p + k := by omega
  unfold f_Rm_at fb_Rm_at_0
  rw [kg_pos ⟨by omega, by omega⟩, e]
  have h5 : σ 20 0 (20 * p + k) = (ln T p).getD k 0 := by simpa using h4
  rw [h5]
theorem kupA_id (σ : kS) (k i : Nat) : kupA σ k i (σ k i) = σ := by
  funext a b c
  unfold kupA
  split
  · rename_i e
    rw [e.1, e.2]
  · rfl
theorem L_fillR {σ : kS} : ∀ (m n k : Nat) (g : Nat → Int), k + m = 100 → m < n → fl_Rm_draw_53 n k (kupA σ 37 0 g) = fb_Rm_draw_73 100 (kupA σ 37 0 (fun i => if k ≤ i ∧ i < 100 then 32 else g i)) := by
  intro m
  induction m with
  | zero =>
    intro n k g h1 h2
    obtain ⟨n, rfl⟩ : ∃ n', n = n' + 1 := ⟨n - 1, by omega⟩
    obtain rfl : k = 100 := by omega
    simp only [fl_Rm_draw_53, fb_Rm_draw_53]
    rw [kg_pos ⟨by omega, by omega⟩, if_pos (by omega)]
    congr 2
    funext i
    rw [if_neg (by omega)]
  | succ m ih =>
    intro n k g h1 h2
    obtain ⟨n, rfl⟩ : ∃ n', n = n' + 1 := ⟨n - 1, by omega⟩
    have e : (k : Int) + 1 = ((k + 1 : Nat) : Int) := by omega
    simp only [fl_Rm_draw_53, fb_Rm_draw_53, fb_Rm_draw_59]
    rw [kg_pos ⟨by omega, by omega⟩, if_neg (by omega), kg_pos ⟨by omega, by omega⟩, kup_kupA, Int.toNat_natCast, e, ih n (k + 1) _ (by omega) (by omega)]
    congr 2
    funext i
    show (if k + 1 ≤ i ∧ i < 100 then 32 else (if i = k then 32 else g i)) = (if k ≤ i ∧ i < 100 then 32 else g i)
    by_cases h3 : k ≤ i ∧ i < 100
    · rw [if_pos h3]
      by_cases h4 : i = k
      · rw [if_neg (by omega), if_pos h4]
      · rw [if_pos (by omega)]
    · rw [if_neg h3, if_neg (by omega), if_neg (by omega)]
theorem L_tilde {σ : kS} (x1 : Int) : ∀ (m n r : Nat) (g : Nat → Int), r + m = 5 → m < n → fl_Rm_draw_225 n x1 r (kupA σ 37 0 g) = fl_Rm_draw_249 3000 x1 0 (kupA σ 37 0 (signF 20 126 r g)) := by
  intro m
  induction m with
  | zero =>
    intro n r g h1 h2
    obtain ⟨n, rfl⟩ : ∃ n', n = n' + 1 := ⟨n - 1, by omega⟩
    obtain rfl : r = 5 := by omega
    simp only [fl_Rm_draw_225, fb_Rm_draw_225, fb_Rm_draw_247]
    rw [kg_pos ⟨by omega, by omega⟩, if_pos (by omega), signF_5]
  | succ m ih =>
    intro n r g h1 h2
    obtain ⟨n, rfl⟩ : ∃ n', n = n' + 1 := ⟨n - 1, by omega⟩
    have e : (r : Int) + 1 = ((r + 1 : Nat) : Int) := by omega
    have e2 : (20 * (r : Int)).toNat = r * 20 := by omega
    simp only [fl_Rm_draw_225, fb_Rm_draw_225, fb_Rm_draw_230]
    rw [kg_pos ⟨by omega, by omega⟩, if_neg (by omega), kg_pos ⟨by omega, by omega⟩, kup_kupA, e2, e, ih n (r + 1) _ (by omega) (by omega), signF_step (by omega) 126 r (by omega)]
theorem L_at {σ : kS} (k80 : Int → Int → kS → kRes) (x1 x2 x3 : Int) : ∀ (m n r : Nat) (g : Nat → Int), r + m = 5 → m < n → fl_Rm_draw_175 k80 n x1 x2 x3 0 r (kupA σ 37 0 g) = k80 5 (x2 + 1) (kupA σ 37 0 (signF 20 64 r g)) := by
  intro m
  induction m with
  | zero =>
    intro n r g h1 h2
    obtain ⟨n, rfl⟩ : ∃ n', n = n' + 1 := ⟨n - 1, by omega⟩
    obtain rfl : r = 5 := by omega
    simp only [fl_Rm_draw_175, fb_Rm_draw_175, fb_Rm_draw_204, fb_Rm_draw_215, fb_Rm_draw_216]
    rw [kg_pos ⟨by omega, by omega⟩, if_pos (by omega), kg_pos (by decide), if_pos trivial, signF_5]
  | succ m ih =>
    intro n r g h1 h2
    obtain ⟨n, rfl⟩ : ∃ n', n = n' + 1 := ⟨n - 1, by omega⟩
    have e : (r : Int) + 1 = ((r + 1 : Nat) : Int) := by omega
    have e2 : (20 * (r : Int)).toNat = r * 20 := by omega
    simp only [fl_Rm_draw_175, fb_Rm_draw_175, fb_Rm_draw_181, fb_Rm_draw_186]
    rw [kg_pos ⟨by omega, by omega⟩, if_neg (by omega), kg_pos (by decide), if_pos trivial, kg_pos ⟨by omega, by omega⟩, kup_kupA, e2, e, ih n (r + 1) _ (by omega) (by omega), signF_step (by omega) 64 r (by omega)]
theorem L_fit (k80 : Int → Int → kS → kRes) (x1 x2 x3 x5 : Int) (hx : -2147483648 ≤ x5 ∧ x5 < 2147483648) (n : Nat) (σ : kS) : fl_Rm_draw_175 k80 (n + 1) x1 x2 x3 1 x5 σ = k80 (x1 + x3) (x2 + 1) σ := by
  simp only [fl_Rm_draw_175, fb_Rm_draw_175, fb_Rm_draw_181, fb_Rm_draw_204, fb_Rm_draw_209, fb_Rm_draw_216]
  rw [kg_pos hx]
  by_cases h : 5 ≤ x5
  · rw [if_pos h, kg_pos (by decide), if_neg (by decide)]
  · rw [if_neg h, kg_pos (by decide), if_neg (by decide), kg_pos (by decide), if_neg (by decide)]
theorem L_nofit (k80 : Int → Int → kS → kRes) (x1 x2 x3 : Int) (n : Nat) (σ : kS) (hx : 0 ≤ x2 ∧ x2 < (100 : Nat)) (hs : -2147483648 ≤ σ 21 0 (Int.toNat x2) ∧ σ 21 0 (Int.toNat x2) < 2147483648) : fl_Rm_draw_118 k80 (n + 1) x1 x2 x3 0 0 σ = fb_Rm_draw_172 k80 x1 x2 x3 0 0 σ := by
  simp only [fl_Rm_draw_118, fb_Rm_draw_118, fb_Rm_draw_129]
  rw [kg_pos ⟨hx, by decide, hs⟩]
  by_cases z : σ 21 0 (Int.toNat x2) ≤ 0
  · rw [if_pos z]
  · rw [if_neg z, kg_pos (by decide), if_pos trivial]
theorem L_chars {σ : kS} {T : Tx} {w p r : Nat} (k80 : Int → Int → kS → kRes) {f : Nat → Int} (hT : RT σ 0 T) (hw : σ 9 0 37 = w) (hw2 : 5 ≤ w ∧ w ≤ 20) (hp : p < T.length) (hr : (r : Int) + rws T w p ≤ 5) : ∀ (m n k : Nat) (g : Nat → Int), k + m = (ln T p).length → m < n → WR w g (lineF ((ln T p).take k) (r * w) f) →
    ∃ g', fl_Rm_draw_118 k80 n r p (rws T w p) 1 k (kupA σ 37 0 g) = k80 (r + rws T w p) (p + 1) (kupA σ 37 0 g') ∧ WR w g' (lineF (ln T p) (r * w) f) := by
  have hl := hT.1
  obtain ⟨s1, s2, -⟩ := hT.2 p hp
  have s1 : σ 21 0 p = ((ln T p).length : Int) := by simpa using s1
  have hrw := rws_pos (T := T) (w := w) (p := p) (by omega) s2
  have c1 : ∀ g, kupA σ 37 0 g 21 0 p = ((ln T p).length : Int) := fun g => by rw [kupA_k (by decide)]; exact s1
  have c2 : ∀ g, kupA σ 37 0 g 9 0 37 = w := fun g => by rw [kupA_k (by decide)]; exact hw
  have cT : ∀ g, RT (kupA σ 37 0 g) 0 T := fun g => hT.of (fun j => kupA_k (by decide)) (fun j => kupA_k (by decide))
  intro m
  induction m with
  | zero =>
    intro n k g h1 h2 h3
    obtain ⟨n, rfl⟩ : ∃ n', n = n' + 1 := ⟨n - 1, by omega⟩
    refine ⟨g, ?_, ?_⟩
    · simp only [fl_Rm_draw_118, fb_Rm_draw_118, fb_Rm_draw_172]
      rw [Int.toNat_natCast, c1, kg_pos ⟨by omega, by omega, by omega⟩, if_pos (by omega), L_fit _ _ _ _ _ ⟨by omega, by omega⟩]
    · rw [List.take_of_length_le (by omega)] at h3
      exact h3
  | succ m ih =>
    intro n k g h1 h2 h3
    obtain ⟨n, rfl⟩ : ∃ n', n = n' + 1 := ⟨n - 1, by omega⟩
    obtain ⟨g', e1, e2⟩ := ih n (k + 1) _ (by omega) (by omega) (WR.char hw2 (by omega) h3)
    refine ⟨g', ?_, e2⟩
    have hq : (k : Int) / w < rws T w p := Int.ediv_lt_of_lt_mul (by omega) (by omega)
    have hq0 : 0 ≤ (k : Int) / w := Int.ediv_nonneg (by omega) (by omega)
    have hz0 : 0 ≤ (k : Int) % w := Int.emod_nonneg _ (by omega)
    have hz1 : (k : Int) % w < w := Int.emod_lt_of_pos _ (by omega)
    have hi : (20 * ((r : Int) + (k : Int) / w) + (k : Int) % w).toNat = 20 * (r + k / w) + k % w := by
      have a1 : (k : Int) / w = ((k / w : Nat) : Int) := by simp
      have a2 : (k : Int) % w = ((k % w : Nat) : Int) := by simp
      rw [a1, a2]
      omega
    have e : (k : Int) + 1 = ((k + 1 : Nat) : Int) := by omega
    simp only [fl_Rm_draw_118, fb_Rm_draw_118, fb_Rm_draw_129, fb_Rm_draw_134, fb_Rm_draw_165]
    rw [Int.toNat_natCast, c1, kg_pos ⟨by omega, by omega, by omega⟩, if_neg (by omega), kg_pos (by decide), if_neg (by decide), c2, kg_pos (k_n0 ⟨by omega, by omega⟩), kbi_eq (P_at (cT g) hp (show k < _ by omega) rfl rfl), k_div ⟨by omega, by omega⟩ ⟨by omega, by omega⟩, k_mod ⟨by omega, by omega⟩ ⟨by omega, by omega⟩, kg_pos ⟨by omega, by omega⟩, kup_kupA, hi, e, e1]
theorem L_paintR {σ : kS} {T : Tx} {w : Nat} (hT : RT σ 0 T) (hc : σ 22 0 0 = T.length) (hw : σ 9 0 37 = w) (hw2 : 5 ≤ w ∧ w ≤ 20) : ∀ (m n p r : Nat) (g f : Nat → Int), p + m = T.length → r ≤ 5 → m < n → WR w g f →
    ∃ g' x1, fl_Rm_draw_80 n r p (kupA σ 37 0 g) = fl_Rm_draw_249 3000 x1 0 (kupA σ 37 0 g') ∧ WR w g' (paintF T w m p r f) := by
  have hl := hT.1
  have c1 : ∀ g, kupA σ 37 0 g 22 0 0 = T.length := fun g => by rw [kupA_k (by decide)]; exact hc
  have c2 : ∀ g, kupA σ 37 0 g 9 0 37 = w := fun g => by rw [kupA_k (by decide)]; exact hw
  have cT : ∀ g, RT (kupA σ 37 0 g) 0 T := fun g => hT.of (fun j => kupA_k (by decide)) (fun j => kupA_k (by decide))
  intro m
  induction m with
  | zero =>
    intro n p r g f h1 h2 h3 h4
    obtain ⟨n, rfl⟩ : ∃ n', n = n' + 1 := ⟨n - 1, by omega⟩
    refine ⟨signF 20 126 r g, r, ?_, h4.sign hw2 126 r⟩
    simp only [fl_Rm_draw_80, fb_Rm_draw_80, fb_Rm_draw_223]
    rw [c1, kg_pos ⟨by omega, by omega⟩, if_pos (by omega), L_tilde _ (5 - r) 3000 r g (by omega) (by omega)]
  | succ m ih =>
    intro n p r g f h1 h2 h3 h4
    obtain ⟨n, rfl⟩ : ∃ n', n = n' + 1 := ⟨n - 1, by omega⟩
    have hp := hT.2 p (by omega)
    have hrw := rws_pos (T := T) (w := w) (p := p) (by omega) hp.2.1
    simp only [paintF]
    by_cases h5 : r = 5
    · subst h5
      refine ⟨g, 5, ?_, ?_⟩
      · simp only [fl_Rm_draw_80, fb_Rm_draw_80, fb_Rm_draw_90, fb_Rm_draw_223]
        rw [c1, kg_pos ⟨by omega, by omega⟩, if_neg (by omega), kg_pos ⟨by omega, by omega⟩, if_pos (by omega), L_tilde _ 0 3000 5 g (by omega) (by omega), signF_5]
        rfl
      · rw [if_neg (by omega), signF_5]
        exact h4
    · by_cases h : (r : Int) + rws T w p ≤ 5
      · obtain ⟨g1, a1, a2⟩ := L_chars (fl_Rm_draw_80 n) (f := f) hT hw hw2 (show p < T.length by omega) h (ln T p).length 3000 0 g (by omega) (by omega) (by
          have : lineF ((ln T p).take 0) (r * w) f = f := by
            funext i
            unfold lineF
            rw [if_neg (by simp)]
          rw [this]
          exact h4)
        obtain ⟨g2, x2, b1, b2⟩ := ih n (p + 1) (r + (rws T w p).toNat) g1 _ (by omega) (by omega) (by omega) a2
        refine ⟨g2, x2, ?_, ?_⟩
        · have e8 : (p : Int) + 1 = ((p + 1 : Nat) : Int) := by omega
          have e9 : (r : Int) + rws T w p = ((r + (rws T w p).toNat : Nat) : Int) := by omega
          have a1' : fl_Rm_draw_118 (fl_Rm_draw_80 n) 3000 r p (rws T w p) 1 0 (kupA σ 37 0 g) = _ := a1
          simp only [fl_Rm_draw_80, fb_Rm_draw_80, fb_Rm_draw_90, fb_Rm_draw_95, fb_Rm_draw_100, fb_Rm_draw_108, fb_Rm_draw_113]
          rw [c1, kg_pos ⟨by omega, by omega⟩, if_neg (by omega), kg_pos ⟨by omega, by omega⟩, if_neg (by omega), kbi_eq (P_rows (cT g) (show p < T.length by omega) rfl (by rw [c2]; omega)), c2, kg_pos ⟨by omega, by omega⟩, if_neg (by omega), a1', e8, e9, b1]
        · rw [if_pos h]
          exact b2
      · have hx : (ln T p).length = 0 ∨ 0 < (ln T p).length := by omega
        obtain ⟨n, rfl⟩ : ∃ n', n = n' + 1 := ⟨n - 1, by omega⟩
        refine ⟨signF 20 64 r g, 5, ?_, ?_⟩
        · have s1 : σ 21 0 p = ((ln T p).length : Int) := by simpa using hp.1
          have c3 : kupA σ 37 0 g 21 0 p = ((ln T p).length : Int) := by rw [kupA_k (by decide)]; exact s1
          have hlast : fl_Rm_draw_80 (n + 1) 5 ((p : Int) + 1) (kupA σ 37 0 (signF 20 64 r g)) = fl_Rm_draw_249 3000 5 0 (kupA σ 37 0 (signF 20 64 r g)) := by
            simp only [fl_Rm_draw_80, fb_Rm_draw_80, fb_Rm_draw_90, fb_Rm_draw_223]
            have ht := L_tilde (σ := σ) 5 0 3000 5 (signF 20 64 r g) (by omega) (by omega)
            rw [signF_5] at ht
            have ht' : fl_Rm_draw_225 3000 5 5 (kupA σ 37 0 (signF 20 64 r g)) = _ := ht
            rw [c1, kg_pos ⟨by omega, by omega⟩]
            by_cases z : (T.length : Int) ≤ (p : Int) + 1
            · rw [if_pos z, ht']
            · rw [if_neg z, kg_pos (by decide), if_pos (by decide), ht']
          have hrow : ∀ z : Int, fb_Rm_draw_172 (fl_Rm_draw_80 (n + 1)) r p (rws T w p) 0 z (kupA σ 37 0 g) = fl_Rm_draw_249 3000 5 0 (kupA σ 37 0 (signF 20 64 r g)) := by
            intro z
            unfold fb_Rm_draw_172
            rw [L_at (fl_Rm_draw_80 (n + 1)) r p (rws T w p) (5 - r) 3000 r g (by omega) (by omega), hlast]
          have h118 : fl_Rm_draw_118 (fl_Rm_draw_80 (n + 1)) 3000 r p (rws T w p) 0 0 (kupA σ 37 0 g) = fl_Rm_draw_249 3000 5 0 (kupA σ 37 0 (signF 20 64 r g)) := by
            exact (L_nofit (fl_Rm_draw_80 (n + 1)) r p (rws T w p) 2999 (kupA σ 37 0 g) ⟨by omega, by omega⟩ (by rw [Int.toNat_natCast, c3]; omega)).trans (hrow 0)
          show fb_Rm_draw_80 (fl_Rm_draw_80 (n + 1)) r p (kupA σ 37 0 g) = _
          unfold fb_Rm_draw_80 fb_Rm_draw_90 fb_Rm_draw_95 fb_Rm_draw_100 fb_Rm_draw_112 fb_Rm_draw_113
          rw [c1, kg_pos ⟨by omega, by omega⟩, if_neg (by omega), kg_pos ⟨by omega, by omega⟩, if_neg (by omega), kbi_eq (P_rows (cT g) (show p < T.length by omega) rfl (by rw [c2]; omega)), c2, kg_pos ⟨by omega, by omega⟩, if_pos (by omega), h118]
        · rw [if_neg h]
          exact h4.sign hw2 64 r
