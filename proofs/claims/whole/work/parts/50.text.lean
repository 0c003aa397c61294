/-! Pure: results, texts as lists of lines -/
/-- the result is there, and P holds of it -/
def kOk (o : kRes) (P : Option Int → kS → Prop) : Prop := ∃ r σ, o = some (r, σ) ∧ P r σ
theorem kOk.some {r : Option Int} {σ : kS} {P : Option Int → kS → Prop} (h : P r σ) : kOk (some (r, σ)) P := ⟨r, σ, rfl, h⟩
theorem kOk.g {p : Prop} [Decidable p] {x : kRes} {P : Option Int → kS → Prop} (hp : p) (h : kOk x P) : kOk (kg p x) P := by rw [kg_pos hp]; exact h
theorem kOk.ite {c : Prop} [Decidable c] {a b : kRes} {P : Option Int → kS → Prop} (ha : c → kOk a P) (hb : ¬ c → kOk b P) : kOk (if c then a else b) P := by
  split
  · exact ha (by assumption)
  · exact hb (by assumption)
theorem kOk.bi {o : kRes} {k : Int → kS → kRes} {P : Option Int → kS → Prop} {R : Option Int → kS → Prop} (h : kOk o R) (hk : ∀ r σ, R r σ → ∃ y, r = Option.some y ∧ kOk (k y σ) P) : kOk (kbi o k) P := by
  obtain ⟨r, σ, rfl, hr⟩ := h
  obtain ⟨y, rfl, h2⟩ := hk r σ hr
  exact h2
theorem kOk.bu {o : kRes} {k : kS → kRes} {P : Option Int → kS → Prop} {R : Option Int → kS → Prop} (h : kOk o R) (hk : ∀ r σ, R r σ → r = none ∧ kOk (k σ) P) : kOk (kbu o k) P := by
  obtain ⟨r, σ, rfl, hr⟩ := h
  obtain ⟨rfl, h2⟩ := hk r σ hr
  exact h2
theorem kOk.mono {o : kRes} {P R : Option Int → kS → Prop} (h : kOk o P) (hk : ∀ r σ, P r σ → R r σ) : kOk o R := by
  obtain ⟨r, σ, e, hr⟩ := h
  exact ⟨r, σ, e, hk r σ hr⟩
theorem kbi_eq {o : kRes} {k : Int → kS → kRes} {y : Int} {σ : kS} (h : o = some (some y, σ)) : kbi o k = k y σ := by rw [h]; rfl
theorem kbu_eq {o : kRes} {k : kS → kRes} {σ : kS} (h : o = some (none, σ)) : kbu o k = k σ := by rw [h]; rfl
abbrev Tx : Type := List (List Int)
def ln (T : Tx) (p : Nat) : List Int := T.getD p []
/-- codes and sizes hold the text -/
def TR (cd sz : Nat → Int) (T : Tx) : Prop := T.length ≤ 10 ∧ ∀ p, p < T.length → sz p = ((ln T p).length : Int) ∧ (ln T p).length ≤ 20 ∧ ∀ c, c < (ln T p).length → cd (20 * p + c) = (ln T p).getD c 0
/-- the class's text t, the reference's text b -/
def CT (σ : kS) (t : Nat) (T : Tx) : Prop := TR (σ 10 t) (σ 11 t) T
def RT (σ : kS) (b : Nat) (T : Tx) : Prop := TR (fun j => σ 20 0 (200 * b + j)) (fun p => σ 21 0 (10 * b + p)) T
def chr (T : Tx) (x y : Int) : Int := if 0 ≤ x ∧ x < T.length ∧ 0 ≤ y ∧ y < (ln T x.toNat).length then (ln T x.toNat).getD y.toNat 0 else 0
def szo (T : Tx) (x : Int) : Int := if 0 ≤ x ∧ x < T.length then (ln T x.toNat).length else -1
theorem P_sizeOf {σ : kS} {t : Nat} {T : Tx} {x : Int} (hT : CT σ t T) (hc : σ 2 t 2 = T.length) (hx : -2147483648 ≤ x ∧ x < 2147483648) : f_Te_sizeOf x t σ = some (some (szo T x), σ) := by
  have hl := hT.1
  unfold f_Te_sizeOf fb_Te_sizeOf_0 fb_Te_sizeOf_4 fb_Te_sizeOf_12 fb_Te_sizeOf_16 fb_Te_sizeOf_22 szo
  rw [kg_pos hx]
  by_cases h1 : x < 0
  · rw [if_pos h1, if_neg (by omega)]
  · rw [if_neg h1, kg_pos ⟨hx, by omega⟩]
    by_cases h2 : x < σ 2 t 2
    · rw [if_pos h2, kg_pos (by omega), if_pos (by omega), (hT.2 x.toNat (by omega)).1]
    · rw [if_neg h2, if_neg (by omega)]
theorem P_codeAt {σ : kS} {t : Nat} {T : Tx} {x y : Int} (hT : CT σ t T) (hc : σ 2 t 2 = T.length) (hx : -2147483648 ≤ x ∧ x < 2147483648) (hy : -2147483648 ≤ y ∧ y < 2147483648) : f_Te_codeAt x y t σ = some (some (chr T x y), σ) := by
  have hl := hT.1
  unfold f_Te_codeAt fb_Te_codeAt_0 fb_Te_codeAt_4 fb_Te_codeAt_12 fb_Te_codeAt_16 fb_Te_codeAt_26 fb_Te_codeAt_28 chr
  rw [kg_pos hx]
  by_cases h1 : x < 0
  · rw [if_pos h1, if_neg (by omega)]
  · rw [if_neg h1, kg_pos ⟨hx, by omega⟩]
    by_cases h2 : σ 2 t 2 ≤ x
    · rw [if_pos h2, if_neg (by omega)]
    · rw [if_neg h2, kg_pos hy]
      by_cases h3 : y < 0
      · rw [if_pos h3, if_neg (by omega)]
      · have hp := hT.2 x.toNat (by omega)
        rw [if_neg h3, kg_pos ⟨by omega, hy, by omega⟩]
        by_cases h4 : y < σ 11 t x.toNat
        · rw [if_pos h4, kg_pos (by omega), if_pos (by omega)]
          have e : (x * 20 + y).toNat = 20 * x.toNat + y.toNat := by omega
          rw [e, hp.2.2 y.toNat (by omega)]
        · rw [if_neg h4, if_neg (by omega)]
theorem P_character {σ : kS} {b : Nat} {T : Tx} {x y n bi : Int} (hbi : bi = (b : Int)) (hb : b < 10) (hT : RT σ b T) (hn : max 0 n = T.length) (hn2 : -1 ≤ n) (hx : -2147483648 ≤ x ∧ x < 2147483648) (hy : -2147483648 ≤ y ∧ y < 2147483648) : f_Rm_character bi n x y σ = some (some (chr T x y), σ) := by
  subst hbi
  have hl := hT.1
  unfold f_Rm_character fb_Rm_character_0 fb_Rm_character_4 fb_Rm_character_9 fb_Rm_character_14 fb_Rm_character_30 fb_Rm_character_32 chr
  rw [kg_pos hx]
  by_cases h1 : x < 0
  · rw [if_pos h1, if_neg (by omega)]
  · rw [if_neg h1, kg_pos ⟨hx, by omega⟩]
    by_cases h2 : n ≤ x
    · rw [if_pos h2, if_neg (by omega)]
    · rw [if_neg h2, kg_pos hy]
      by_cases h3 : y < 0
      · rw [if_pos h3, if_neg (by omega)]
      · have hp := hT.2 x.toNat (by omega)
        have e1 : (10 * (b : Int) + x).toNat = 10 * b + x.toNat := by omega
        have e2 : (200 * (b : Int) + 20 * x + y).toNat = 200 * b + (20 * x.toNat + y.toNat) := by omega
        rw [if_neg h3, e1, e2]
        have hs : σ 21 0 (10 * b + x.toNat) = ((ln T x.toNat).length : Int) := hp.1
        rw [kg_pos ⟨by omega, hy, by omega⟩]
        by_cases h4 : y < σ 21 0 (10 * b + x.toNat)
        · rw [if_pos h4, kg_pos (by omega), if_pos (by omega)]
          have hc : σ 20 0 (200 * b + (20 * x.toNat + y.toNat)) = _ := hp.2.2 y.toNat (by omega)
          rw [hc]
        · rw [if_neg h4, if_neg (by omega)]
