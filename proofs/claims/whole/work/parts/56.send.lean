/-! Pure: what the terminal is sent -/
/-- first and last place of a row at which something must be sent -/
def scan (d : Nat → Bool) : Nat → Nat → Int → Int → Int × Int
  | 0, _, a, b => (a, b)
  | m + 1, k, a, b => if d k = true then scan d m (k + 1) (if a < 0 then (k : Int) else a) k else scan d m (k + 1) a b
theorem scan_ok (d : Nat → Bool) : ∀ (m k : Nat) (a b : Int), (a = -1 ∧ b = -1 ∨ 0 ≤ a ∧ a ≤ b ∧ b < k) → ((scan d m k a b).1 = -1 ∧ (scan d m k a b).2 = -1 ∨ 0 ≤ (scan d m k a b).1 ∧ (scan d m k a b).1 ≤ (scan d m k a b).2 ∧ (scan d m k a b).2 < (k + m : Nat)) := by
  intro m
  induction m with
  | zero => intro k a b h; simpa [scan] using h
  | succ m ih =>
    intro k a b h
    simp only [scan]
    have e : k + (m + 1) = (k + 1) + m := by omega
    rw [e]
    split
    · apply ih
      split <;> omega
    · apply ih
      omega
def cost (d : Nat → Bool) (w : Nat) : Int := if (scan d w 0 (-1) (-1)).1 < 0 then 0 else 3 + (scan d w 0 (-1) (-1)).2 - (scan d w 0 (-1) (-1)).1 + 1
theorem cost_le (d : Nat → Bool) {w : Nat} (hw : w ≤ 20) : 0 ≤ cost d w ∧ cost d w ≤ 23 := by
  have h := scan_ok d w 0 (-1) (-1) (Or.inl ⟨rfl, rfl⟩)
  unfold cost
  split <;> omega
def fin (z : Int) (q : Int × Int) : Int := if q.1 < 0 then z else z + 3 + q.2 - q.1 + 1
/-- a state with one array and one number set -/
def Sx (σ : kS) (k : Nat) (s : Nat → Int) (kz jz : Nat) (z : Int) : kS := kup (kupA σ k 0 s) kz 0 jz z
theorem Sx_arr {σ : kS} {k kz jz : Nat} {s : Nat → Int} {z : Int} (h : k ≠ kz) (c : Nat) : Sx σ k s kz jz z k 0 c = s c := by
  unfold Sx
  rw [kup_k h, kupA_self]
theorem Sx_o {σ : kS} {k kz jz a b c : Nat} {s : Nat → Int} {z : Int} (h1 : a ≠ k) (h2 : a ≠ kz) : Sx σ k s kz jz z a b c = σ a b c := by
  unfold Sx
  rw [kup_k h2, kupA_k h1]
theorem Sx_i {σ : kS} {k kz jz b c : Nat} {s : Nat → Int} {z : Int} (h : k ≠ kz) (h1 : b ≠ 0) : Sx σ k s kz jz z k b c = σ k b c := by
  unfold Sx
  rw [kup_k h, kupA_i h1]
theorem Sx_z {σ : kS} {k kz jz : Nat} {s : Nat → Int} {z : Int} : Sx σ k s kz jz z kz 0 jz = z := by
  unfold Sx
  rw [kup_self]
theorem Sx_j {σ : kS} {k kz jz b c : Nat} {s : Nat → Int} {z : Int} (h : k ≠ kz) (h1 : c ≠ jz) : Sx σ k s kz jz z kz b c = σ kz b c := by
  unfold Sx
  rw [kup_j h1, kupA_k (Ne.symm h)]
theorem Sx_w {σ : kS} {k kz jz j : Nat} {s : Nat → Int} {z x : Int} (h : k ≠ kz) : kup (Sx σ k s kz jz z) k 0 j x = Sx σ k (fun c => if c = j then x else s c) kz jz z := by
  unfold Sx
  rw [← kup_kupA]
  funext a b c
  unfold kup
  by_cases h1 : a = k ∧ b = 0 ∧ c = j
  · rw [if_pos h1, if_neg (fun e => h (h1.1.symm.trans e.1)), if_pos h1]
  · rw [if_neg h1]
    by_cases h2 : a = kz ∧ b = 0 ∧ c = jz
    · rw [if_pos h2, if_pos h2]
    · rw [if_neg h2, if_neg h2, if_neg h1]
theorem Sx_s {σ : kS} {k kz jz : Nat} {s : Nat → Int} {z z' : Int} : kup (Sx σ k s kz jz z) kz 0 jz z' = Sx σ k s kz jz z' := by
  unfold Sx
  rw [kup_kup]
theorem Sx_id (σ : kS) (k kz jz : Nat) (h : k ≠ kz) : Sx σ k (σ k 0) kz jz (σ kz 0 jz) = σ := by
  unfold Sx
  rw [kupA_id, kup_id σ kz 0 jz rfl]
/-- the reference sends a row -/
theorem L_sendR {σ : kS} {w r : Nat} (hw : σ 9 0 37 = w) (hw2 : 5 ≤ w ∧ w ≤ 20) (hr : r < 5) {d : Nat → Bool} (hu : ∀ c, c < w → -2147483648 ≤ σ 37 0 (20 * r + c) ∧ σ 37 0 (20 * r + c) < 2147483648) : ∀ (m n k : Nat) (a b z : Int) (s : Nat → Int), k + m = w → m < n → (a = -1 ∧ b = -1 ∨ 0 ≤ a ∧ a ≤ b ∧ b < k) → (∀ c, k ≤ c → c < w → (d c = true ↔ ¬ σ 37 0 (20 * r + c) = s (20 * r + c))) → (∀ c, k ≤ c → c < w → -2147483648 ≤ s (20 * r + c) ∧ s (20 * r + c) < 2147483648) →
    fl_Rm_send_7 n r a b k (Sx σ 36 s 9 39 z) = some (none, Sx σ 36 (fun i => if 20 * r + k ≤ i ∧ i < 20 * r + w then σ 37 0 i else s i) 9 39 (fin z (scan d m k a b))) := by
  have c1 : ∀ s z, Sx σ 36 s 9 39 z 9 0 37 = w := fun s z => by rw [Sx_j (by decide) (by decide)]; exact hw
  have c2 : ∀ s z i, Sx σ 36 s 9 39 z 37 0 i = σ 37 0 i := fun s z i => Sx_o (by decide) (by decide)
  have c3 : ∀ s z i, Sx σ 36 s 9 39 z 36 0 i = s i := fun s z i => Sx_arr (by decide) i
  intro m
  induction m with
  | zero =>
    intro n k a b z s h1 h2 hab hd hs
    obtain ⟨n, rfl⟩ : ∃ n', n = n' + 1 := ⟨n - 1, by omega⟩
    obtain rfl : k = w := by omega
    have e : (fun i => if 20 * r + k ≤ i ∧ i < 20 * r + k then σ 37 0 i else s i) = s := by
      funext i
      rw [if_neg (by omega)]
    simp only [fl_Rm_send_7, fb_Rm_send_7, fb_Rm_send_87, fb_Rm_send_91, fb_Rm_send_107, scan]
    rw [e, c1, kg_pos ⟨by omega, by omega⟩, if_pos (by omega), kg_pos (by omega), Sx_z, Sx_s]
    unfold fin
    by_cases h : a < 0
    · rw [if_pos h, if_pos h]
    · rw [if_neg h, if_neg h]
  | succ m ih =>
    intro n k a b z s h1 h2 hab hd hs
    obtain ⟨n, rfl⟩ : ∃ n', n = n' + 1 := ⟨n - 1, by omega⟩
    have e1 : (20 * (r : Int) + (k : Int)).toNat = 20 * r + k := by omega
    have e2 : (k : Int) + 1 = ((k + 1 : Nat) : Int) := by omega
    have hk := hd k (by omega) (by omega)
    simp only [fl_Rm_send_7, fb_Rm_send_7, fb_Rm_send_16, fb_Rm_send_43, fb_Rm_send_47, fb_Rm_send_52, fb_Rm_send_53, fb_Rm_send_81, scan]
    rw [c1, kg_pos ⟨by omega, by omega⟩, if_neg (by omega), e1, c2, c3, kg_pos ⟨by omega, hu k (by omega), hs k (by omega) (by omega)⟩, e2]
    by_cases h : σ 37 0 (20 * r + k) = s (20 * r + k)
    · have hdk : ¬ d k = true := fun q => hk.mp q h
      rw [if_pos h, if_neg hdk, ih n (k + 1) a b z s (by omega) (by omega) (by omega) (fun c q1 q2 => hd c (by omega) q2) (fun c q1 q2 => hs c (by omega) q2)]
      congr 3
      funext i
      by_cases q : i = 20 * r + k
      · rw [if_neg (by omega), if_pos (by omega), q, h]
      · by_cases q2 : 20 * r + k ≤ i ∧ i < 20 * r + w
        · rw [if_pos q2, if_pos (by omega)]
        · rw [if_neg q2, if_neg (by omega)]
    · have hdk : d k = true := hk.mpr h
      have key : ∀ x2 : Int, x2 = (if a < 0 then (k : Int) else a) → kg (0 ≤ 20 * (r : Int) + (k : Int) ∧ 20 * (r : Int) + (k : Int) < (100 : Nat)) (fl_Rm_send_7 n r x2 k ((k + 1 : Nat) : Int) (kup (Sx σ 36 s 9 39 z) 36 0 (20 * r + k) (σ 37 0 (20 * r + k)))) = some (none, Sx σ 36 (fun i => if 20 * r + k ≤ i ∧ i < 20 * r + w then σ 37 0 i else s i) 9 39 (fin z (scan d m (k + 1) (if a < 0 then (k : Int) else a) k))) := by
        intro x2 hx2
        rw [kg_pos ⟨by omega, by omega⟩, Sx_w (by decide), ih n (k + 1) x2 k z _ (by omega) (by omega) (by rw [hx2]; split <;> omega) (fun c q1 q2 => by
            show d c = true ↔ ¬ σ 37 0 (20 * r + c) = (if 20 * r + c = 20 * r + k then _ else s (20 * r + c))
            rw [if_neg (by omega)]
            exact hd c (by omega) q2) (fun c q1 q2 => by
            show -2147483648 ≤ (if 20 * r + c = 20 * r + k then σ 37 0 (20 * r + k) else s (20 * r + c)) ∧ (if 20 * r + c = 20 * r + k then σ 37 0 (20 * r + k) else s (20 * r + c)) < 2147483648
            rw [if_neg (by omega)]
            exact hs c (by omega) q2), hx2]
        congr 3
        funext i
        show (if 20 * r + (k + 1) ≤ i ∧ i < 20 * r + w then σ 37 0 i else (if i = 20 * r + k then σ 37 0 (20 * r + k) else s i)) = _
        by_cases q : i = 20 * r + k
        · rw [if_neg (by omega), if_pos q, if_pos (by omega), q]
        · rw [if_neg q]
          by_cases q2 : 20 * r + k ≤ i ∧ i < 20 * r + w
          · rw [if_pos q2, if_pos (by omega)]
          · rw [if_neg q2, if_neg (by omega)]
      rw [if_neg h, if_pos hdk, kg_pos (by omega)]
      by_cases ha : 0 ≤ a
      · rw [if_pos ha]
        exact key a (by rw [if_neg (by omega)])
      · rw [if_neg ha]
        exact key k (by rw [if_pos (by omega)])
