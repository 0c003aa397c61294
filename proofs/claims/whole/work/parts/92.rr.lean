/-! Pure: what a pattern takes. st a: has atom a a star; tk a q: does atom a take the character at q; bs q: may a match begin at q. -/
def RR (st : Nat → Bool) (tk : Nat → Nat → Bool) (bs : Nat → Bool) : Nat → Nat → Bool
  | 0, q => bs q
  | a + 1, 0 => st a && RR st tk bs a 0
  | a + 1, q + 1 => if st a then RR st tk bs a (q + 1) || (RR st tk bs (a + 1) q && tk a q) else RR st tk bs a q && tk a q
/-- the class's states, closed over stars; n atoms -/
def XX (st : Nat → Bool) (tk : Nat → Nat → Bool) (bs : Nat → Bool) (n i q : Nat) : Bool := if i < n ∧ st i = true then RR st tk bs (i + 1) q else RR st tk bs i q
/-- before they are closed -/
def VV (st : Nat → Bool) (tk : Nat → Nat → Bool) (bs : Nat → Bool) (n : Nat) : Nat → Nat → Bool
  | 0, 0 => bs 0
  | 0, q + 1 => bs (q + 1) || (decide (0 < n) && XX st tk bs n 0 q && tk 0 q && st 0)
  | _ + 1, 0 => false
  | i + 1, q + 1 => (decide (i + 1 < n) && XX st tk bs n (i + 1) q && tk (i + 1) q && st (i + 1)) || (decide (i < n) && XX st tk bs n i q && tk i q && !st i)
theorem RR_s {st : Nat → Bool} {tk : Nat → Nat → Bool} {bs : Nat → Bool} {a q : Nat} : RR st tk bs (a + 1) (q + 1) = if st a then RR st tk bs a (q + 1) || (RR st tk bs (a + 1) q && tk a q) else RR st tk bs a q && tk a q := by rw [RR]
theorem RR_z {st : Nat → Bool} {tk : Nat → Nat → Bool} {bs : Nat → Bool} {a : Nat} : RR st tk bs (a + 1) 0 = (st a && RR st tk bs a 0) := by rw [RR]
theorem XX_0 (st : Nat → Bool) (tk : Nat → Nat → Bool) (bs : Nat → Bool) (n q : Nat) : XX st tk bs n 0 q = VV st tk bs n 0 q := by
  cases q with
  | zero =>
    unfold XX VV
    split
    · rename_i h
      unfold RR
      rw [h.2, Bool.true_and]
      unfold RR
      rfl
    · unfold RR
      rfl
  | succ q =>
    rw [VV]
    unfold XX
    by_cases h : 0 < n ∧ st 0 = true
    · rw [if_pos h, if_pos h]
      have e : RR st tk bs 1 (q + 1) = (RR st tk bs 0 (q + 1) || (RR st tk bs 1 q && tk 0 q)) := by
        show RR st tk bs (0 + 1) (q + 1) = _
        rw [RR_s, if_pos h.2]
      rw [e]
      have e0 : RR st tk bs 0 (q + 1) = bs (q + 1) := by rw [RR]
      rw [e0, decide_eq_true h.1, Bool.true_and, h.2, Bool.and_true]
    · rw [if_neg h]
      have e0 : RR st tk bs 0 (q + 1) = bs (q + 1) := by rw [RR]
      rw [e0]
      have : (decide (0 < n) && (if 0 < n ∧ st 0 = true then RR st tk bs (0 + 1) q else RR st tk bs 0 q) && tk 0 q && st 0) = false := by
        by_cases h1 : 0 < n
        · have h2 : st 0 = false := by
            cases hs : st 0 with
            | true => exact absurd ⟨h1, hs⟩ h
            | false => rfl
          rw [h2, Bool.and_false]
        · rw [decide_eq_false h1, Bool.false_and, Bool.false_and, Bool.false_and]
      rw [this, Bool.or_false]
theorem XX_s (st : Nat → Bool) (tk : Nat → Nat → Bool) (bs : Nat → Bool) (n i q : Nat) (hi : i < n) : XX st tk bs n (i + 1) q = (VV st tk bs n (i + 1) q || (st i && XX st tk bs n i q)) := by
  have hX : XX st tk bs n i q = if st i = true then RR st tk bs (i + 1) q else RR st tk bs i q := by
    unfold XX
    by_cases h : st i = true
    · rw [if_pos ⟨hi, h⟩, if_pos h]
    · rw [if_neg (fun z => h z.2), if_neg h]
  cases q with
  | zero =>
    rw [hX]
    have hV : VV st tk bs n (i + 1) 0 = false := by rw [VV]
    rw [hV, Bool.false_or]
    have hR : RR st tk bs (i + 1) 0 = (st i && (if st i = true then RR st tk bs (i + 1) 0 else RR st tk bs i 0)) := by
      cases h : st i with
      | true => rw [if_pos rfl, Bool.true_and]
      | false => rw [RR_z, h, Bool.false_and, Bool.false_and]
    unfold XX
    by_cases h : i + 1 < n ∧ st (i + 1) = true
    · rw [if_pos h, RR_z, h.2, Bool.true_and]
      exact hR
    · rw [if_neg h]
      exact hR
  | succ q =>
    have hV : VV st tk bs n (i + 1) (q + 1) = ((decide (i + 1 < n) && XX st tk bs n (i + 1) q && tk (i + 1) q && st (i + 1)) || (decide (i < n) && XX st tk bs n i q && tk i q && !st i)) := by rw [VV]
    have hXq : XX st tk bs n i q = if st i = true then RR st tk bs (i + 1) q else RR st tk bs i q := by
      unfold XX
      by_cases h : st i = true
      · rw [if_pos ⟨hi, h⟩, if_pos h]
      · rw [if_neg (fun z => h z.2), if_neg h]
    -- RR (i+1) (q+1) is the second and third part
    have hR : RR st tk bs (i + 1) (q + 1) = ((decide (i < n) && XX st tk bs n i q && tk i q && !st i) || (st i && XX st tk bs n i (q + 1))) := by
      rw [hX, hXq, decide_eq_true hi, Bool.true_and]
      cases h : st i with
      | true => simp only [if_true, Bool.not_true, Bool.and_false, Bool.true_and, Bool.false_or]
      | false =>
        rw [RR_s, h]
        simp only [Bool.false_eq_true, if_false, Bool.not_false, Bool.and_true, Bool.false_and, Bool.or_false]
    rw [hV, Bool.or_assoc, ← hR]
    unfold XX
    by_cases h : i + 1 < n ∧ st (i + 1) = true
    · rw [if_pos h, if_pos h, RR_s, if_pos h.2, decide_eq_true h.1, Bool.true_and, h.2, Bool.and_true, Bool.or_comm]
    · rw [if_neg h]
      have : (decide (i + 1 < n) && (if i + 1 < n ∧ st (i + 1) = true then RR st tk bs (i + 1 + 1) q else RR st tk bs (i + 1) q) && tk (i + 1) q && st (i + 1)) = false := by
        by_cases h1 : i + 1 < n
        · have h2 : st (i + 1) = false := by
            cases hs : st (i + 1) with
            | true => exact absurd ⟨h1, hs⟩ h
            | false => rfl
          rw [h2, Bool.and_false]
        · rw [decide_eq_false h1, Bool.false_and, Bool.false_and, Bool.false_and]
      rw [this, Bool.false_or]
/-- before the first place where a match may begin there is nothing -/
theorem RR_lo {st : Nat → Bool} {tk : Nat → Nat → Bool} {bs : Nat → Bool} {p : Nat} (h : ∀ q, q < p → bs q = false) : ∀ (a q : Nat), q < p → RR st tk bs a q = false := by
  intro a
  induction a with
  | zero =>
    intro q hq
    rw [RR]
    exact h q hq
  | succ a ih =>
    intro q
    induction q with
    | zero =>
      intro hq
      rw [RR_z, ih 0 hq, Bool.and_false]
    | succ q ihq =>
      intro hq
      rw [RR_s, ih (q + 1) hq, ihq (by omega), ih q (by omega), Bool.false_and, Bool.or_false, ite_self]
theorem XX_lo {st : Nat → Bool} {tk : Nat → Nat → Bool} {bs : Nat → Bool} {n p : Nat} (h : ∀ q, q < p → bs q = false) (i q : Nat) (hq : q < p) : XX st tk bs n i q = false := by
  unfold XX
  rw [RR_lo h _ _ hq, RR_lo h _ _ hq, ite_self]
/-- at the first place only the first state -/
theorem VV_p {st : Nat → Bool} {tk : Nat → Nat → Bool} {bs : Nat → Bool} {n p : Nat} (h : ∀ q, q < p → bs q = false) (hp : bs p = true) (i : Nat) : VV st tk bs n i p = decide (i = 0) := by
  cases p with
  | zero =>
    cases i with
    | zero =>
      rw [VV, hp]
      rfl
    | succ i =>
      rw [VV]
      rfl
  | succ p =>
    cases i with
    | zero =>
      rw [VV, hp, Bool.true_or]
      rfl
    | succ i =>
      rw [VV, XX_lo h _ _ (by omega), XX_lo h _ _ (by omega), Bool.and_false, Bool.false_and, Bool.false_and, Bool.and_false, Bool.false_and, Bool.false_and, Bool.or_false]
      rfl
/-- once no state is left, none comes back -/
theorem XX_dead {st : Nat → Bool} {tk : Nat → Nat → Bool} {bs : Nat → Bool} {n q : Nat} (h : ∀ i, i ≤ n → VV st tk bs n i q = false) : ∀ i, i ≤ n → XX st tk bs n i q = false := by
  intro i
  induction i with
  | zero =>
    intro hi
    rw [XX_0]
    exact h 0 hi
  | succ i ih =>
    intro hi
    rw [XX_s _ _ _ _ _ _ (by omega), h (i + 1) hi, ih (by omega), Bool.and_false, Bool.or_false]
theorem VV_dead {st : Nat → Bool} {tk : Nat → Nat → Bool} {bs : Nat → Bool} {n q : Nat} (h : ∀ i, i ≤ n → XX st tk bs n i q = false) (hb : bs (q + 1) = false) : ∀ i, i ≤ n → VV st tk bs n i (q + 1) = false := by
  intro i hi
  cases i with
  | zero => rw [VV, hb, h 0 hi, Bool.and_false, Bool.false_and, Bool.false_and, Bool.false_or]
  | succ i => rw [VV, h (i + 1) hi, h i (by omega), Bool.and_false, Bool.false_and, Bool.false_and, Bool.and_false, Bool.false_and, Bool.false_and, Bool.false_or]
/-- a union of beginnings -/
theorem RR_or {st : Nat → Bool} {tk : Nat → Nat → Bool} {bs : Nat → Bool} : ∀ (a q : Nat), RR st tk bs a q = true ↔ ∃ p, p ≤ q ∧ bs p = true ∧ RR st tk (fun r => decide (r = p)) a q = true := by
  intro a
  induction a with
  | zero =>
    intro q
    rw [RR]
    constructor
    · intro h
      exact ⟨q, Nat.le_refl q, h, by rw [RR]; exact decide_eq_true rfl⟩
    · rintro ⟨p, _, h1, h2⟩
      rw [RR] at h2
      have := of_decide_eq_true h2
      rw [this]
      exact h1
  | succ a ih =>
    intro q
    induction q with
    | zero =>
      rw [RR_z, Bool.and_eq_true, ih]
      constructor
      · rintro ⟨hs, p, h0, h1, h2⟩
        exact ⟨p, h0, h1, by rw [RR_z, hs, h2]; rfl⟩
      · rintro ⟨p, h0, h1, h2⟩
        rw [RR_z, Bool.and_eq_true] at h2
        exact ⟨h2.1, p, h0, h1, h2.2⟩
    | succ q ihq =>
      rw [RR_s]
      by_cases hs : st a = true
      · rw [if_pos hs, Bool.or_eq_true, Bool.and_eq_true, ih, ihq]
        constructor
        · rintro (⟨p, h0, h1, h2⟩ | ⟨⟨p, h0, h1, h2⟩, h3⟩)
          · exact ⟨p, h0, h1, by rw [RR_s, if_pos hs, h2]; rfl⟩
          · exact ⟨p, by omega, h1, by rw [RR_s, if_pos hs, h2, h3, Bool.true_and, Bool.or_true]⟩
        · rintro ⟨p, h0, h1, h2⟩
          rw [RR_s, if_pos hs, Bool.or_eq_true, Bool.and_eq_true] at h2
          rcases h2 with h2 | ⟨h2, h3⟩
          · exact .inl ⟨p, h0, h1, h2⟩
          · refine .inr ⟨⟨p, ?_, h1, h2⟩, h3⟩
            rcases Nat.lt_or_ge q p with z | z
            · rw [RR_lo (p := p) (fun r hr => decide_eq_false (by omega)) _ _ z] at h2
              exact absurd h2 (by decide)
            · exact z
      · rw [if_neg hs, Bool.and_eq_true, ih]
        constructor
        · rintro ⟨⟨p, h0, h1, h2⟩, h3⟩
          exact ⟨p, by omega, h1, by rw [RR_s, if_neg hs, h2, h3]; rfl⟩
        · rintro ⟨p, h0, h1, h2⟩
          rw [RR_s, if_neg hs, Bool.and_eq_true] at h2
          refine ⟨⟨p, ?_, h1, h2.1⟩, h2.2⟩
          rcases Nat.lt_or_ge q p with z | z
          · rw [RR_lo (p := p) (fun r hr => decide_eq_false (by omega)) _ _ z] at h2
            exact absurd h2.1 (by decide)
          · exact z
/-- the greatest place from p to p + d where f holds, or -1 -/
def gr (f : Nat → Bool) (p : Nat) : Nat → Int
  | 0 => if f p then (p : Int) else -1
  | d + 1 => if f (p + d + 1) then ((p + d + 1 : Nat) : Int) else gr f p d
theorem gr_neg {f : Nat → Bool} {p : Nat} : ∀ d, gr f p d < 0 ↔ ∀ q, p ≤ q → q ≤ p + d → f q = false := by
  intro d
  induction d with
  | zero =>
    unfold gr
    constructor
    · intro h q h1 h2
      have : q = p := by omega
      subst this
      cases hf : f q with
      | true => rw [hf, if_pos rfl] at h; omega
      | false => rfl
    · intro h
      rw [h p (Nat.le_refl p) (by omega)]
      simp only [Bool.false_eq_true, if_false]
      decide
  | succ d ih =>
    unfold gr
    constructor
    · intro h q h1 h2
      cases hf : f (p + d + 1) with
      | true => rw [hf, if_pos rfl] at h; omega
      | false =>
        rw [hf] at h
        simp only [Bool.false_eq_true, if_false] at h
        by_cases hq : q = p + d + 1
        · rw [hq]
          exact hf
        · exact ih.mp h q h1 (by omega)
    · intro h
      rw [h (p + d + 1) (by omega) (by omega)]
      simp only [Bool.false_eq_true, if_false]
      exact ih.mpr fun q h1 h2 => h q h1 (by omega)
theorem gr_rng (f : Nat → Bool) (p : Nat) : ∀ d, gr f p d = -1 ∨ (p : Int) ≤ gr f p d ∧ gr f p d ≤ p + d := by
  intro d
  induction d with
  | zero =>
    unfold gr
    split <;> omega
  | succ d ih =>
    unfold gr
    split <;> omega
