/-! Pure: what the window should show, row after row; the class's side -/
def lineF (L : List Int) (o : Nat) (f : Nat → Int) : Nat → Int := fun i => if o ≤ i ∧ i < o + L.length then L.getD (i - o) 0 else f i
def signF (w : Nat) (s : Int) (r : Nat) (f : Nat → Int) : Nat → Int := fun i => if i % w = 0 ∧ r ≤ i / w ∧ i / w < 5 then s else f i
/-- m lines from p on, beginning at row r -/
def paintF (T : Tx) (w : Nat) : Nat → Nat → Nat → (Nat → Int) → Nat → Int
  | 0, _, r, f => signF w 126 r f
  | m + 1, p, r, f => if (r : Int) + rws T w p ≤ 5 then paintF T w m (p + 1) (r + (rws T w p).toNat) (lineF (ln T p) (r * w) f) else signF w 64 r f
theorem idx_iff {w r i : Nat} (hw : 0 < w) : i = r * w ↔ i % w = 0 ∧ i / w = r := by
  constructor
  · rintro rfl
    exact ⟨Nat.mul_mod_left r w, Nat.mul_div_cancel r hw⟩
  · rintro ⟨h1, h2⟩
    have := Nat.div_add_mod i w
    rw [h1, h2, Nat.add_zero, Nat.mul_comm] at this
    exact this.symm
theorem signF_5 (w : Nat) (s : Int) (f : Nat → Int) : signF w s 5 f = f := by
  funext i
  unfold signF
  rw [if_neg (by omega)]
theorem signF_step {w : Nat} (hw : 0 < w) (s : Int) (r : Nat) (hr : r < 5) (f : Nat → Int) : signF w s (r + 1) (fun i => if i = r * w then s else f i) = signF w s r f := by
  funext i
  show (if i % w = 0 ∧ r + 1 ≤ i / w ∧ i / w < 5 then s else (if i = r * w then s else f i)) = (if i % w = 0 ∧ r ≤ i / w ∧ i / w < 5 then s else f i)
  by_cases h : i = r * w
  · have h2 := (idx_iff hw).mp h
    rw [if_pos (show i % w = 0 ∧ r ≤ i / w ∧ i / w < 5 from ⟨h2.1, by omega, by omega⟩), if_neg (by omega), if_pos h]
  · have h2 : ¬ (i % w = 0 ∧ i / w = r) := fun z => h ((idx_iff hw).mpr z)
    rw [if_neg h]
    by_cases h3 : i % w = 0 ∧ r + 1 ≤ i / w ∧ i / w < 5
    · rw [if_pos h3, if_pos ⟨h3.1, by omega, h3.2.2⟩]
    · rw [if_neg h3, if_neg]
      rintro ⟨z1, z2, z3⟩
      by_cases z4 : i / w = r
      · exact h2 ⟨z1, z4⟩
      · exact h3 ⟨z1, by omega, z3⟩
theorem kupA_self (σ : kS) (k i : Nat) (f : Nat → Int) : kupA σ k i f k i = f := by
  funext c
  simp [kupA]
theorem kupA_k {σ : kS} {k i a b c : Nat} {f : Nat → Int} (h : a ≠ k) : kupA σ k i f a b c = σ a b c := by
  unfold kupA
  rw [if_neg (fun e => h e.1)]
theorem kupA_i {σ : kS} {k i a b c : Nat} {f : Nat → Int} (h : b ≠ i) : kupA σ k i f a b c = σ a b c := by
  unfold kupA
  rw [if_neg (fun e => h e.2)]
theorem kupA_kupA (σ : kS) (k i : Nat) (f g : Nat → Int) : kupA (kupA σ k i f) k i g = kupA σ k i g := by
  funext a b c
  unfold kupA
  split <;> rfl
theorem kup_kupA (σ : kS) (k i j : Nat) (f : Nat → Int) (x : Int) : kup (kupA σ k i f) k i j x = kupA σ k i (fun c => if c = j then x else f c) := by
  funext a b c
  show (if a = k ∧ b = i ∧ c = j then x else (if a = k ∧ b = i then f c else σ a b c)) = (if a = k ∧ b = i then (if c = j then x else f c) else σ a b c)
  by_cases h : a = k ∧ b = i
  · by_cases h2 : c = j
    · rw [if_pos ⟨h.1, h.2, h2⟩, if_pos h, if_pos h2]
    · rw [if_neg (fun e => h2 e.2.2), if_pos h, if_pos h, if_neg h2]
  · rw [if_neg (fun e => h ⟨e.1, e.2.1⟩), if_neg h, if_neg h]
theorem L_sign {σ : kS} {w : Nat} (hw : σ 4 0 2 = w) (hw2 : 5 ≤ w ∧ w ≤ 20) (x3 s : Int) : ∀ (m n r : Nat) (f : Nat → Int), r + m = 5 → m < n → fl_Wi_paint_98 n r x3 s (kupA σ 15 1 f) = some (none, kupA σ 15 1 (signF w s r f)) := by
  intro m
  induction m with
  | zero =>
    intro n r f h1 h2
    obtain ⟨n, rfl⟩ : ∃ n', n = n' + 1 := ⟨n - 1, by omega⟩
    obtain rfl : r = 5 := by omega
    simp only [fl_Wi_paint_98, fb_Wi_paint_98, fb_Wi_paint_122]
    rw [kg_pos ⟨by omega, by omega⟩, if_pos (by omega), signF_5]
  | succ m ih =>
    intro n r f h1 h2
    obtain ⟨n, rfl⟩ : ∃ n', n = n' + 1 := ⟨n - 1, by omega⟩
    simp only [fl_Wi_paint_98, fb_Wi_paint_98, fb_Wi_paint_103]
    have e1 : kupA σ 15 1 f 4 0 2 = w := by rw [kupA_k (by decide)]; exact hw
    have e2 : (r : Int) * (w : Int) = ((r * w : Nat) : Int) := by simp
    have e3 : r * w ≤ 4 * w := Nat.mul_le_mul_right w (by omega)
    have e4 : (r : Int) + 1 = ((r + 1 : Nat) : Int) := by omega
    rw [kg_pos ⟨by omega, by omega⟩, if_neg (by omega), e1, e2, kg_pos ⟨by omega, by omega⟩, e4, kup_kupA, Int.toNat_natCast, ih n (r + 1) _ (by omega) (by omega), signF_step (by omega) s r (by omega)]
theorem cpy_line {σ : kS} {T : Tx} {p o : Nat} (hT : CT σ 0 T) (hp : p < T.length) (f : Nat → Int) : va_cpy (σ 10 0) f (20 * p) o (ln T p).length = lineF (ln T p) o f := by
  funext i
  unfold va_cpy lineF
  by_cases h : o ≤ i ∧ i < o + (ln T p).length
  · rw [if_pos h, if_pos h, (hT.2 p hp).2.2 (i - o) (by omega)]
  · rw [if_neg h, if_neg h]
theorem L_paintC {σ : kS} {T : Tx} {w : Nat} (hT : CT σ 0 T) (hc : σ 2 0 2 = T.length) (hw : σ 4 0 2 = w) (hw2 : 5 ≤ w ∧ w ≤ 20) : ∀ (m n p r : Nat) (f : Nat → Int), p + m = T.length → r ≤ 5 → m < n → fl_Wi_paint_16 n r p (kupA σ 15 1 f) = some (none, kupA σ 15 1 (paintF T w m p r f)) := by
  have hl := hT.1
  have c1 : ∀ f, kupA σ 15 1 f 2 0 2 = T.length := fun f => by rw [kupA_k (by decide)]; exact hc
  have c2 : ∀ f, kupA σ 15 1 f 4 0 2 = w := fun f => by rw [kupA_k (by decide)]; exact hw
  have cT : ∀ f, CT (kupA σ 15 1 f) 0 T := fun f => hT.of (fun j => kupA_k (by decide)) (fun j => kupA_k (by decide))
  intro m
  induction m with
  | zero =>
    intro n p r f h1 h2 h3
    obtain ⟨n, rfl⟩ : ∃ n', n = n' + 1 := ⟨n - 1, by omega⟩
    simp only [fl_Wi_paint_16, fb_Wi_paint_16, fb_Wi_paint_81, fb_Wi_paint_94, fb_Wi_paint_96, paintF]
    rw [c1, kg_pos ⟨by omega, by omega⟩, if_pos (by omega), kg_pos ⟨by omega, by omega⟩, if_pos (by omega)]
    exact L_sign hw hw2 _ _ (5 - r) 3000 r f (by omega) (by omega)
  | succ m ih =>
    intro n p r f h1 h2 h3
    obtain ⟨n, rfl⟩ : ∃ n', n = n' + 1 := ⟨n - 1, by omega⟩
    have hp := hT.2 p (by omega)
    have hr := rws_pos (T := T) (w := w) (p := p) (by omega) hp.2.1
    simp only [fl_Wi_paint_16, fb_Wi_paint_16, fb_Wi_paint_24, fb_Wi_paint_31, fb_Wi_paint_36, fb_Wi_paint_41, fb_Wi_paint_66, fb_Wi_paint_73, fb_Wi_paint_81, fb_Wi_paint_89, fb_Wi_paint_96, paintF]
    rw [c1, kg_pos ⟨by omega, by omega⟩, if_neg (by omega), kbi_eq (P_rowsOf (cT f) (c1 f) (show p < T.length by omega) rfl (by rw [c2]; omega)), c2, kg_pos ⟨by omega, by omega⟩]
    by_cases h : (r : Int) + rws T w p ≤ 5
    · have hz : szo T (p : Int) = ((ln T p).length : Int) := by
        unfold szo
        rw [if_pos (by omega), Int.toNat_natCast]
      have e2 : (r : Int) * (w : Int) = ((r * w : Nat) : Int) := by simp
      have e5 : ((r : Int) + rws T w p) * w ≤ 5 * w := Int.mul_le_mul_of_nonneg_right h (by omega)
      rw [Int.add_mul, e2] at e5
      have e6 : ((p : Int) * 20).toNat = 20 * p := by omega
      rw [if_neg (by omega), if_pos h, kbi_eq (P_sizeOf (cT f) (c1 f) ⟨by omega, by omega⟩), hz, c2, e2, kg_pos ⟨by omega, by omega, by omega, by omega, by omega⟩, e6, Int.toNat_natCast, Int.toNat_natCast, kupA_kupA, kupA_self]
      have e7 : (kupA σ 15 1 f) 10 0 = σ 10 0 := funext fun j => kupA_k (by decide)
      have e8 : (p : Int) + 1 = ((p + 1 : Nat) : Int) := by omega
      have e9 : (r : Int) + rws T w p = ((r + (rws T w p).toNat : Nat) : Int) := by omega
      rw [e7, cpy_line hT (by omega), kbi_eq (P_rowsOf (cT _) (c1 _) (show p < T.length by omega) rfl (by rw [c2]; omega)), c2, e8, e9, ih n (p + 1) (r + (rws T w p).toNat) _ (by omega) (by omega) (by omega)]
    · rw [if_pos (by omega), if_neg h, c1, kg_pos ⟨by omega, by omega⟩, if_neg (by omega)]
      exact L_sign hw hw2 _ _ (5 - r) 3000 r f (by omega) (by omega)
/-- the class's wanted rows, behind paint -/
theorem P_paint {σ : kS} {T : Tx} {w t : Nat} (hT : CT σ 0 T) (hc : σ 2 0 2 = T.length) (hw : σ 4 0 2 = w) (hw2 : 5 ≤ w ∧ w ≤ 20) (ht : σ 4 0 3 = t) (ht2 : t ≤ T.length) : ∃ f0 : Nat → Int, (∀ i, i < 100 → f0 i = 32) ∧ f_Wi_paint σ = some (none, kupA σ 15 1 (paintF T w (T.length - t) t 0 f0)) := by
  refine ⟨fun i => if i < 100 then 32 else σ 15 1 i, fun i hi => if_pos hi, ?_⟩
  have hl := hT.1
  unfold f_Wi_paint fb_Wi_paint_0 fb_Wi_paint_9
  rw [kbu_eq (P_fill2 32 1 σ)]
  have e : (fun a b c => if a = 15 ∧ b = 1 ∧ c < 100 then 32 else σ a b c : kS) = kupA σ 15 1 (fun i => if i < 100 then 32 else σ 15 1 i) := by
    funext a b c
    unfold kupA
    by_cases h : a = 15 ∧ b = 1
    · obtain ⟨rfl, rfl⟩ := h
      simp
    · rw [if_neg (fun z => h ⟨z.1, z.2.1⟩), if_neg h]
  rw [e, kupA_k (by decide), ht]
  exact L_paintC hT hc hw hw2 (T.length - t) 3000 t 0 _ (by omega) (by omega) (by omega)
