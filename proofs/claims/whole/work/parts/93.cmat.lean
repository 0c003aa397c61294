/-! Pure: patterns, and the class's matching. -/
abbrev At : Type := (Int × Int × Int) × Bool
abbrev Pt : Type := Bool × Bool × List At
def b2 (b : Bool) : Int := if b then 1 else 0
theorem b2_01 (b : Bool) : b2 b = 0 ∨ b2 b = 1 := by
  cases b
  · exact .inl rfl
  · exact .inr rfl
def setIn (ks : List Int) (e : Nat) (c : Int) : Nat → Nat → Bool
  | 0, _ => false
  | m + 1, k => if e ≤ k then false else if k + 2 < e ∧ ks.getD (k + 1) 0 = 45 then decide (ks.getD k 0 ≤ c ∧ c ≤ ks.getD (k + 2) 0) || setIn ks e c m (k + 3) else decide (c = ks.getD k 0) || setIn ks e c m (k + 1)
def tkD (ks : List Int) (d : Int × Int × Int) (c : Int) : Bool :=
  if d.1 = 0 then true else if d.1 = 1 then decide (d.2.1 = c)
  else if ks.getD d.2.1.toNat 0 = 94 ∧ d.2.1 + 1 < d.2.2 then !setIn ks d.2.2.toNat c 40 (d.2.1.toNat + 1) else setIn ks d.2.2.toNat c 40 d.2.1.toNat
def atm (P : Pt) (i : Nat) : At := P.2.2.getD i ((0, 0, 0), false)
def stF (P : Pt) : Nat → Bool := fun i => (atm P i).2
def tkF (ks : List Int) (P : Pt) (L : List Int) : Nat → Nat → Bool := fun i q => tkD ks (atm P i).1 (L.getD q 0)
def ovF (P : Pt) (L : List Int) (f : Nat → Bool) : Nat → Bool := fun q => f q && (!P.2.1 || decide (q = L.length))
/-- the end of the longest match at p -/
def mtA (ks : List Int) (P : Pt) (L : List Int) (p : Nat) : Int := if P.1 = true ∧ p ≠ 0 then -1 else gr (ovF P L fun q => RR (stF P) (tkF ks P L) (fun r => decide (r = p)) P.2.2.length q) p (L.length - p)
def anyF (f : Nat → Bool) : Nat → Nat → Bool
  | _, 0 => false
  | q, m + 1 => f q || anyF f (q + 1) m
/-- is there a match somewhere in a line -/
def innA (ks : List Int) (P : Pt) (L : List Int) : Bool := anyF (fun p => decide (0 ≤ mtA ks P L p)) 0 (L.length + 1)
def PCt (ks : List Int) (σ : kS) (t : Nat) (P : Pt) : Prop := P.2.2.length ≤ 8 ∧ σ 8 t 2 = P.2.2.length ∧ σ 8 t 3 = b2 P.1 ∧ σ 8 t 4 = b2 P.2.1 ∧ (∃ s : Nat, σ 8 t 1 = s ∧ s < 2 ^ P.2.2.length ∧ ∀ i, i < P.2.2.length → s.testBit i = stF P i) ∧ ∀ c : Nat, c < 127 → ∃ k : Nat, σ 17 t c = k ∧ k < 2 ^ P.2.2.length ∧ (c < 32 → k = 0) ∧ ∀ i, i < P.2.2.length → 32 ≤ c → k.testBit i = tkD ks (atm P i).1 c
theorem dbl_bit (z j : Nat) : (z * 2 ^ 1).testBit j = (decide (0 < j) && z.testBit (j - 1)) := by
  cases j with
  | zero =>
    rw [Nat.testBit_zero]
    have : ¬ z * 2 ^ 1 % 2 = 1 := by omega
    rw [decide_eq_false this]
    rfl
  | succ j =>
    rw [Nat.testBit_succ, show z * 2 ^ 1 / 2 = z by omega]
    rfl
theorem pow_le9 {n : Nat} (h : n ≤ 9) : 2 ^ n ≤ 512 := by
  have : 2 ^ n ≤ 2 ^ 9 := Nat.pow_le_pow_right (by decide) h
  exact this
theorem bit_hi {x n i : Nat} (h : x < 2 ^ n) (hi : n ≤ i) : x.testBit i = false := Nat.testBit_lt_two_pow (Nat.lt_of_lt_of_le h (Nat.pow_le_pow_right (by decide) hi))
theorem C_pass {ks : List Int} {σ : kS} {t : Nat} {P : Pt} {V X : Nat → Bool} {v : Nat} (hP : PCt ks σ t P) (h0 : X 0 = V 0) (hs : ∀ i, i < P.2.2.length → X (i + 1) = (V (i + 1) || (stF P i && X i))) (hv : v < 2 ^ (P.2.2.length + 1)) (hV : ∀ i, i ≤ P.2.2.length → v.testBit i = V i) : ∃ x : Nat, f_Pa_passStars v t σ = some (some (x : Int), σ) ∧ x < 2 ^ (P.2.2.length + 1) ∧ ∀ i, i ≤ P.2.2.length → x.testBit i = X i := by
  obtain ⟨p1, p2, p3, p4, ⟨s, s1, s2, s3⟩, -⟩ := hP
  have hp := pow_le9 (n := P.2.2.length + 1) (by omega)
  have hp' := pow_le9 (n := P.2.2.length) (by omega)
  suffices ∀ (m n k y : Nat), k + m = P.2.2.length → m < n → y < 2 ^ (P.2.2.length + 1) → (∀ j, j ≤ P.2.2.length → y.testBit j = if j ≤ k then X j else V j) → ∃ x : Nat, fl_Pa_passStars_4 n v (y : Int) (k : Int) t σ = some (some (x : Int), σ) ∧ x < 2 ^ (P.2.2.length + 1) ∧ ∀ i, i ≤ P.2.2.length → x.testBit i = X i by
    refine this P.2.2.length 3000 0 v (by omega) (by omega) hv fun j hj => ?_
    rw [hV j hj]
    split
    · have : j = 0 := by omega
      subst this
      exact h0.symm
    · rfl
  intro m
  induction m with
  | zero =>
    intro n k y h1 h2 h3 h4
    obtain ⟨n, rfl⟩ : ∃ n', n = n' + 1 := ⟨n - 1, by omega⟩
    refine ⟨y, ?_, h3, fun i hi => by rw [h4 i hi, if_pos (by omega)]⟩
    simp only [fl_Pa_passStars_4, fb_Pa_passStars_4, fb_Pa_passStars_33]
    rw [p2, kg_pos (by omega), if_pos (by omega)]
  | succ m ih =>
    intro n k y h1 h2 h3 h4
    obtain ⟨n, rfl⟩ : ∃ n', n = n' + 1 := ⟨n - 1, by omega⟩
    have hk2 : 2 ^ k < 2 ^ P.2.2.length := Nat.pow_lt_pow_right (by decide) (by omega)
    have hz1 : (y &&& s) &&& 2 ^ k ≤ 2 ^ k := Nat.and_le_right
    have hbit : ∀ j, (((y &&& s) &&& 2 ^ k) * 2 ^ 1).testBit j = (decide (j = k + 1) && (y.testBit k && s.testBit k)) := by
      intro j
      rw [dbl_bit, Nat.testBit_and, Nat.testBit_and, Nat.testBit_two_pow]
      by_cases hj : j = k + 1
      · subst hj
        rw [decide_eq_true (show 0 < k + 1 by omega), show k + 1 - 1 = k by omega, decide_eq_true rfl, decide_eq_true rfl, Bool.and_true, Bool.true_and]
      · rw [decide_eq_false hj, Bool.false_and]
        cases j with
        | zero => rfl
        | succ j => rw [decide_eq_false (show ¬ k = j + 1 - 1 by omega), Bool.and_false, Bool.and_false]
    have hlt : y ||| (((y &&& s) &&& 2 ^ k) * 2 ^ 1) < 2 ^ (P.2.2.length + 1) := by
      refine Nat.or_lt_two_pow h3 ?_
      rw [Nat.pow_succ]
      omega
    obtain ⟨x, e, x1, x2⟩ := ih n (k + 1) (y ||| (((y &&& s) &&& 2 ^ k) * 2 ^ 1)) (by omega) (by omega) hlt fun j hj => by
      rw [Nat.testBit_or, hbit, h4 j hj]
      by_cases hj2 : j = k + 1
      · subst hj2
        rw [decide_eq_true rfl, Bool.true_and, if_neg (by omega), if_pos (by omega), h4 k (by omega), if_pos (by omega), s3 k (by omega), hs k (by omega), Bool.and_comm]
      · rw [decide_eq_false hj2, Bool.false_and, Bool.or_false]
        by_cases hj3 : j ≤ k
        · rw [if_pos hj3, if_pos (by omega)]
        · rw [if_neg hj3, if_neg (by omega)]
    refine ⟨x, ?_, x1, x2⟩
    simp only [fl_Pa_passStars_4, fb_Pa_passStars_4, fb_Pa_passStars_12]
    rw [p2, s1, kg_pos (by omega), if_neg (by omega), kand_n (by omega) (by omega), show (1 : Int) = ((1 : Nat) : Int) from rfl, kshl_n (a := 1) (i := k) (by omega) (by omega), Nat.one_mul, kand_n (Nat.lt_of_le_of_lt Nat.and_le_left (by omega)) (by omega), kshl_n (i := 1) (by omega) (by omega), kor_n (by omega) (by omega)]
    exact e
theorem C_over {ks : List Int} {σ : kS} {t : Nat} {P : Pt} {x : Nat} {e : Int} {X : Bool} (hP : PCt ks σ t P) (hx : x < 2 ^ (P.2.2.length + 1)) (hX : x.testBit P.2.2.length = X) (he : e = 0 ∨ e = 1) : f_Pa_isOver x e t σ = some (some (b2 (X && (!P.2.1 || decide (e = 1)))), σ) := by
  obtain ⟨p1, p2, p3, p4, -⟩ := hP
  have hp := pow_le9 (n := P.2.2.length + 1) (by omega)
  unfold f_Pa_isOver fb_Pa_isOver_0
  rw [p2, kbit (by omega) (by omega), hX]
  cases X with
  | false =>
    rw [Bool.false_and]
    simp only [Bool.false_eq_true, if_false, if_true]
    rw [kg_pos (by decide)]
    rfl
  | true =>
    simp only [if_true, Bool.true_and]
    rw [kg_pos (by decide), if_neg (by decide)]
    unfold fb_Pa_isOver_11
    rw [kg_pos (by omega)]
    rcases he with h | h
    · rw [if_pos h]
      unfold fb_Pa_isOver_15
      rw [p4, kg_pos (by have := b2_01 P.2.1; omega), h]
      cases P.2.1 <;> rfl
    · rw [if_neg (by omega), h, decide_eq_true rfl, Bool.or_true]
      rfl
theorem C_step {ks : List Int} {σ : kS} {t : Nat} {P : Pt} {x : Nat} {c : Int} {X : Nat → Bool} (hP : PCt ks σ t P) (hx : x < 2 ^ (P.2.2.length + 1)) (hX : ∀ i, i ≤ P.2.2.length → x.testBit i = X i) (hc : c = 0 ∨ 32 ≤ c ∧ c ≤ 126) : ∃ v : Nat, f_Pa_step x c t σ = some (some (v : Int), σ) ∧ v < 2 ^ (P.2.2.length + 1) ∧ (c = 0 → v = 0) ∧ (c ≠ 0 → v.testBit 0 = (decide (0 < P.2.2.length) && X 0 && tkD ks (atm P 0).1 c && stF P 0) ∧ ∀ i, i < P.2.2.length → v.testBit (i + 1) = ((decide (i + 1 < P.2.2.length) && X (i + 1) && tkD ks (atm P (i + 1)).1 c && stF P (i + 1)) || (decide (i < P.2.2.length) && X i && tkD ks (atm P i).1 c && !stF P i))) := by
  obtain ⟨p1, p2, p3, p4, ⟨s, s1, s2, s3⟩, p6⟩ := hP
  have hp := pow_le9 (n := P.2.2.length + 1) (by omega)
  have hp' := pow_le9 (n := P.2.2.length) (by omega)
  obtain ⟨k, k1, k2, k3, k4⟩ := p6 c.toNat (by omega)
  have hm : x &&& k < 2 ^ P.2.2.length := Nat.lt_of_le_of_lt Nat.and_le_right k2
  have hms : (x &&& k) &&& s < 2 ^ P.2.2.length := Nat.lt_of_le_of_lt Nat.and_le_left hm
  have hmn : andn (x &&& k) s < 2 ^ P.2.2.length := Nat.lt_of_le_of_lt Nat.and_le_left hm
  have hsh : andn (x &&& k) s * 2 ^ 1 < 2 ^ (P.2.2.length + 1) := by
    rw [Nat.pow_succ]
    omega
  have hlt : ((x &&& k) &&& s) ||| (andn (x &&& k) s * 2 ^ 1) < 2 ^ (P.2.2.length + 1) := Nat.or_lt_two_pow (by omega) hsh
  have hmb : ∀ i, c ≠ 0 → (x &&& k).testBit i = (decide (i < P.2.2.length) && X i && tkD ks (atm P i).1 c) := by
    intro i hc0
    rw [Nat.testBit_and]
    by_cases hi : i < P.2.2.length
    · rw [hX i (by omega), k4 i hi (by omega), decide_eq_true hi, Bool.true_and, show ((c.toNat : Nat) : Int) = c by omega]
    · rw [bit_hi k2 (by omega), decide_eq_false hi, Bool.and_false, Bool.false_and, Bool.false_and]
  refine ⟨((x &&& k) &&& s) ||| (andn (x &&& k) s * 2 ^ 1), ?_, hlt, fun h => ?_, fun h => ⟨?_, fun i hi => ?_⟩⟩
  · unfold f_Pa_step fb_Pa_step_0 fb_Pa_step_4 fb_Pa_step_10 fb_Pa_step_22
    rw [kg_pos (by omega), if_neg (by omega), kg_pos (by omega), if_neg (by omega), kg_pos (by omega), k1, s1, kand_n (by omega) (by omega), kand_n (by omega) (by omega), kandn_n (by omega) (by omega), show (1 : Int) = ((1 : Nat) : Int) from rfl, kshl_n (i := 1) (by omega) (by omega), kor_n (by omega) (by omega)]
  · rw [k3 (by omega), Nat.and_zero, Nat.zero_and]
    unfold andn
    rw [Nat.zero_and, Nat.zero_mul]
    rfl
  · rw [Nat.testBit_or, dbl_bit, Nat.testBit_and, hmb 0 h]
    rw [decide_eq_false (show ¬ 0 < 0 by omega), Bool.false_and, Bool.or_false]
    by_cases hn : 0 < P.2.2.length
    · rw [s3 0 hn]
    · rw [decide_eq_false hn, Bool.false_and, Bool.false_and, Bool.false_and, Bool.false_and]
  · rw [Nat.testBit_or, dbl_bit, Nat.testBit_and, hmb (i + 1) h, decide_eq_true (show 0 < i + 1 by omega), Bool.true_and, show i + 1 - 1 = i by omega, andn_bit (by omega), hmb i h, s3 i hi]
    by_cases hn : i + 1 < P.2.2.length
    · rw [s3 (i + 1) hn]
    · rw [decide_eq_false hn, Bool.false_and, Bool.false_and, Bool.false_and, Bool.false_and]
