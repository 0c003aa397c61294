/-! Pure: the class's texts under its own operations, on -/
theorem C_copyLetters {σ : kS} {t u : Nat} {T : Tx} {p a b : Nat} (hT : CT σ u T) (hc : σ 2 u 2 = T.length) (htu : t ≠ u) (hp : p < T.length) (hab : a ≤ b) (hb : b ≤ (ln T p).length) : ToT (f_Te_copyLetters (p : Int) (a : Int) (b : Int) t u σ) none σ t [slc (ln T p) a b] := by
  have hl := hT.1
  obtain ⟨h1, h2, h3⟩ := hT.2 p hp
  have hlen := slc_len (X := ln T p) (a := a) (b := b) hb
  have htu' : ¬ u = t := fun z => htu z.symm
  unfold f_Te_copyLetters fb_Te_copyLetters_0 fb_Te_copyLetters_4 fb_Te_copyLetters_12 fb_Te_copyLetters_16 fb_Te_copyLetters_22 fb_Te_copyLetters_34 fb_Te_copyLetters_71
  simp only [Int.toNat_natCast, h1]
  rw [kg_pos ⟨by omega, by omega⟩, if_neg (by omega), kg_pos (by omega), if_neg (by omega), kg_pos (by omega), if_neg (by omega), kg_pos (by omega), if_neg (by omega), kg_pos (by omega), if_pos (by omega), kg_pos (by omega)]
  simp only [kup_f, kupA_f, reduceIte, Nat.reduceEqDiff, false_and, and_true, and_self, htu', and_false]
  have e : kupA (kup (kup σ 2 t 2 1) 11 t 0 ((b : Int) - a)) 10 t (va_cpy (σ 10 u) (σ 10 t) ((p : Int) * 20 + a).toNat 0 ((b : Int) - a).toNat) = kup (kupA (kupA σ 10 t (va_cpy (σ 10 u) (σ 10 t) ((p : Int) * 20 + a).toNat 0 ((b : Int) - a).toNat)) 11 t (fun c => if c = 0 then (b : Int) - a else σ 11 t c)) 2 t 2 1 := by
    rw [kup_eqA _ 11 t, kupA_comm (k := 11) (k' := 10) _ _ _ _ _ (by decide), kup_out]
    simp only [kup_f, reduceIte, Nat.reduceEqDiff, false_and]
  rw [e]
  refine ToT.mk rfl ⟨by simp, fun q hq => ?_⟩
  have hq0 : q = 0 := by
    have : ([slc (ln T p) a b] : Tx).length = 1 := rfl
    omega
  subst hq0
  have hq : ln [slc (ln T p) a b] 0 = slc (ln T p) a b := rfl
  rw [hq, hlen]
  dsimp only
  rw [if_pos rfl]
  refine ⟨by omega, by omega, fun c hc => ?_⟩
  rw [slc_gd 0 (by omega)]
  unfold va_cpy
  rw [if_pos (by omega), ← h3 (a + c) (by omega)]
  congr 1
  omega
theorem C_openLines {σ : kS} {t : Nat} {T : Tx} {a m : Nat} (hT : CT σ t T) (hc : σ 2 t 2 = T.length) (ha : a ≤ T.length) (hm : T.length + m ≤ 10) : ToT (f_Te_openLines (a : Int) (m : Int) t σ) (some 1) σ t (ins T a (List.replicate m [])) := by
  have hl := hT.1
  have hlen := ins_len (X := T) (Y := List.replicate m []) (a := a) ha
  rw [List.length_replicate] at hlen
  unfold f_Te_openLines fb_Te_openLines_0 fb_Te_openLines_4 fb_Te_openLines_12 fb_Te_openLines_16 fb_Te_openLines_29 fb_Te_openLines_61 fb_Te_openLines_77 fb_Te_openLines_89
  rw [kg_pos ⟨by omega, by omega⟩, if_neg (by omega), kg_pos (by omega), if_neg (by omega), kg_pos (by omega), if_neg (by omega), kg_pos (by omega), if_pos (by omega), kg_pos (by omega), kg_pos (by omega), kbu_eq (P_fill4' (a := a) (b := a + m) rfl (by omega) (by omega) (by omega))]
  simp only [kup_f, kupA_f, reduceIte, hc, Nat.reduceEqDiff, false_and, and_true, and_self, and_false, kupA_kupA]
  refine ToT.mk (by omega) ⟨by omega, fun p hp => ?_⟩
  have hq : ln (ins T a (List.replicate m [])) p = if p < a then ln T p else if p < a + m then [] else ln T (p - m) := by
    have := ins_gd (X := T) (Y := List.replicate m []) [] ha p
    rw [gd_rep, List.length_replicate] at this
    exact this
  rw [hq]
  unfold va_cpy
  try dsimp only
  by_cases h : p < a
  · rw [if_pos h, if_neg (by omega), if_neg (by omega)]
    obtain ⟨h1, h2, h3⟩ := hT.2 p (by omega)
    refine ⟨h1, h2, fun c hc => ?_⟩
    rw [if_neg (by omega)]
    exact h3 c hc
  · rw [if_neg h]
    by_cases h' : p < a + m
    · rw [if_pos h', if_pos (by omega)]
      exact ⟨rfl, by decide, fun c hc => absurd hc (by simp)⟩
    · rw [if_neg h', if_neg (by omega), if_pos (by omega)]
      obtain ⟨h1, h2, h3⟩ := hT.2 (p - m) (by omega)
      refine ⟨(by rw [← h1]; congr 1; omega), h2, fun c hc => ?_⟩
      rw [if_pos (by omega), ← h3 c hc]
      congr 1
      omega
theorem C_openLines0 {σ : kS} {t : Nat} {T : Tx} {a m : Nat} (hc : σ 2 t 2 = T.length) (hl : T.length ≤ 10) (hm2 : m ≤ 10) (ha : a ≤ T.length) (hm : ¬ T.length + m ≤ 10) : f_Te_openLines (a : Int) (m : Int) t σ = some (some 0, σ) := by
  unfold f_Te_openLines fb_Te_openLines_0 fb_Te_openLines_4 fb_Te_openLines_12 fb_Te_openLines_16 fb_Te_openLines_27
  rw [kg_pos ⟨by omega, by omega⟩, if_neg (by omega), kg_pos (by omega), if_neg (by omega), kg_pos (by omega), if_neg (by omega), kg_pos (by omega), if_neg (by omega)]
theorem C_openLetters {σ : kS} {t : Nat} {T : Tx} {p a m : Nat} (hT : CT σ t T) (hc : σ 2 t 2 = T.length) (hp : p < T.length) (ha : a ≤ (ln T p).length) (hm : (ln T p).length + m ≤ 20) : ToT (f_Te_openLetters (p : Int) (a : Int) (m : Int) t σ) (some 1) σ t (T.set p (ins (ln T p) a (List.replicate m 32))) := by
  have hl := hT.1
  obtain ⟨h1, h2, h3⟩ := hT.2 p hp
  have hlen := ins_len (X := ln T p) (Y := List.replicate m 32) (a := a) ha
  rw [List.length_replicate] at hlen
  unfold f_Te_openLetters fb_Te_openLetters_0 fb_Te_openLetters_4 fb_Te_openLetters_12 fb_Te_openLetters_16 fb_Te_openLetters_26 fb_Te_openLetters_30 fb_Te_openLetters_45 fb_Te_openLetters_78 fb_Te_openLetters_93
  simp only [Int.toNat_natCast, h1]
  rw [kg_pos ⟨by omega, by omega⟩, if_neg (by omega), kg_pos (by omega), if_neg (by omega), kg_pos (by omega), if_neg (by omega), kg_pos (by omega), if_neg (by omega), kg_pos (by omega), if_neg (by omega), kg_pos (by omega), if_pos (by omega), kg_pos (by omega), kbu_eq (P_fill4 (a := 20 * p + a) (b := 20 * p + a + m) (by omega) (by omega) (by omega) (by omega)), kg_pos (by omega), kup_eqA]
  simp only [kup_f, kupA_f, reduceIte, hc, Nat.reduceEqDiff, false_and, and_true, and_self, and_false, kupA_kupA, h1]
  refine ToT.mk' (by rw [List.length_set]; exact hc) (hT.set hp (by omega) (fun q hq hqp => ?_) (by (try dsimp only); rw [if_pos rfl]; omega) (fun c hc => ?_))
  · try dsimp only
    rw [if_neg hqp]
    refine ⟨rfl, fun c hc => ?_⟩
    unfold va_cpy
    rw [if_neg (by omega), if_neg (by omega)]
  · rw [ins_gd 0 ha, List.length_replicate]
    unfold va_cpy
    try dsimp only
    by_cases h : c < a
    · rw [if_neg (by omega), if_neg (by omega), if_pos h]
      exact h3 c (by omega)
    · rw [if_neg h]
      by_cases h' : c < a + m
      · rw [if_pos (by omega), if_pos h', List.getD_eq_getElem?_getD, List.getElem?_replicate, if_pos (by omega)]
        rfl
      · rw [if_neg (by omega), if_pos (by omega), if_neg h', ← h3 (c - m) (by omega)]
        congr 1
        omega
theorem C_openLetters0 {σ : kS} {t : Nat} {T : Tx} {p a m : Nat} (hT : CT σ t T) (hc : σ 2 t 2 = T.length) (hp : p < T.length) (ha : a ≤ (ln T p).length) (hm2 : m ≤ 1000) (hm : ¬ (ln T p).length + m ≤ 20) : f_Te_openLetters (p : Int) (a : Int) (m : Int) t σ = some (some 0, σ) := by
  have hl := hT.1
  obtain ⟨h1, h2, h3⟩ := hT.2 p hp
  unfold f_Te_openLetters fb_Te_openLetters_0 fb_Te_openLetters_4 fb_Te_openLetters_12 fb_Te_openLetters_16 fb_Te_openLetters_26 fb_Te_openLetters_30 fb_Te_openLetters_43
  simp only [Int.toNat_natCast, h1]
  rw [kg_pos ⟨by omega, by omega⟩, if_neg (by omega), kg_pos (by omega), if_neg (by omega), kg_pos (by omega), if_neg (by omega), kg_pos (by omega), if_neg (by omega), kg_pos (by omega), if_neg (by omega), kg_pos (by omega), if_neg (by omega)]
theorem C_closeLetters {σ : kS} {t : Nat} {T : Tx} {p a b : Nat} (hT : CT σ t T) (hc : σ 2 t 2 = T.length) (hp : p < T.length) (hab : a ≤ b) (hb : b ≤ (ln T p).length) : ToT (f_Te_closeLetters (p : Int) (a : Int) (b : Int) t σ) none σ t (T.set p (cut (ln T p) a b)) := by
  have hl := hT.1
  obtain ⟨h1, h2, h3⟩ := hT.2 p hp
  have hlen := cut_len (X := ln T p) (a := a) (b := b) hab hb
  unfold f_Te_closeLetters fb_Te_closeLetters_0 fb_Te_closeLetters_4 fb_Te_closeLetters_12 fb_Te_closeLetters_16 fb_Te_closeLetters_21 fb_Te_closeLetters_32 fb_Te_closeLetters_65
  simp only [Int.toNat_natCast, h1]
  rw [kg_pos ⟨by omega, by omega⟩, if_neg (by omega), kg_pos (by omega), if_neg (by omega), kg_pos (by omega), if_neg (by omega), kg_pos (by omega), if_neg (by omega), kg_pos (by omega), if_pos (by omega), kg_pos (by omega), kg_pos (by omega), kup_eqA]
  simp only [kup_f, kupA_f, reduceIte, hc, Nat.reduceEqDiff, false_and, and_true, and_self, and_false, h1]
  refine ToT.mk' (by rw [List.length_set]; exact hc) (hT.set hp (by omega) (fun q hq hqp => ?_) (by (try dsimp only); rw [if_pos rfl]; omega) (fun c hc => ?_))
  · try dsimp only
    rw [if_neg hqp]
    refine ⟨rfl, fun c hc => ?_⟩
    unfold va_cpy
    rw [if_neg (by omega)]
  · rw [cut_gd 0 hab hb]
    unfold va_cpy
    by_cases h : c < a
    · rw [if_neg (by omega), if_pos h]
      exact h3 c (by omega)
    · rw [if_neg h, if_pos (by omega), ← h3 (c + (b - a)) (by omega)]
      congr 1
      omega
theorem C_write {σ : kS} {t : Nat} {T : Tx} {p a : Nat} {v : Int} (hT : CT σ t T) (hc : σ 2 t 2 = T.length) (hp : p < T.length) (ha : a < (ln T p).length) : ToT (f_Te_write (p : Int) (a : Int) v t σ) none σ t (T.set p ((ln T p).set a v)) := by
  have hl := hT.1
  obtain ⟨h1, h2, h3⟩ := hT.2 p hp
  unfold f_Te_write fb_Te_write_0 fb_Te_write_4 fb_Te_write_12 fb_Te_write_16 fb_Te_write_26 fb_Te_write_38
  simp only [Int.toNat_natCast, h1]
  have e : ((p : Int) * 20 + a).toNat = 20 * p + a := by omega
  rw [kg_pos ⟨by omega, by omega⟩, if_neg (by omega), kg_pos (by omega), if_neg (by omega), kg_pos (by omega), if_neg (by omega), kg_pos (by omega), if_neg (by omega), kg_pos (by omega), kup_eqA, e]
  have e2 : kupA σ 10 t (fun c => if c = 20 * p + a then v else σ 10 t c) = kupA (kupA σ 10 t (fun c => if c = 20 * p + a then v else σ 10 t c)) 11 t (σ 11 t) := by
    have : (kupA σ 10 t (fun c => if c = 20 * p + a then v else σ 10 t c)) 11 t = σ 11 t := by simp only [kupA_f, reduceIte, Nat.reduceEqDiff, false_and]
    rw [← this, kupA_id]
  rw [e2]
  refine ToT.mk' (by rw [List.length_set]; exact hc) (hT.set hp (by rw [List.length_set]; exact h2) (fun q hq hqp => ⟨rfl, fun c hc => ?_⟩) (by rw [List.length_set]; exact h1) (fun c hc => ?_))
  · try dsimp only
    rw [if_neg (by omega)]
  · rw [List.length_set] at hc
    rw [gd_set _ _ _ ha]
    try dsimp only
    by_cases h : c = a
    · rw [if_pos (by omega), if_pos h]
    · rw [if_neg (by omega), if_neg h]
      exact h3 c hc
def cl (x n : Int) : Int := max 0 (min x n)
theorem C_stand {σ : kS} {t : Nat} {T : Tx} {x y : Int} (hT : CT σ t T) (hc : σ 2 t 2 = T.length) (h0 : 0 < T.length) (hx : -2147483648 ≤ x ∧ x < 2147483648) (hy : -2147483648 ≤ y ∧ y < 2147483648) : f_Te_stand x y t σ = some (none, kup (kup σ 2 t 3 (cl x (T.length - 1))) 2 t 4 (cl y ((ln T (cl x (T.length - 1)).toNat).length - 1))) := by
  have hl := hT.1
  have hr : 0 ≤ cl x (T.length - 1) ∧ cl x (T.length - 1) < T.length := by unfold cl; omega
  have hr' : max 0 (min x ((T.length : Int) - 1)) = cl x (T.length - 1) := rfl
  obtain ⟨h1, h2, h3⟩ := hT.2 (cl x (T.length - 1)).toNat (by omega)
  unfold f_Te_stand fb_Te_stand_0
  simp only [kup_f, kupA_f, reduceIte, hc, Nat.reduceEqDiff, false_and, and_true, and_self, and_false, hr', h1]
  rw [kg_pos (by omega)]
  rfl
/-- with how many blanks a line begins -/
def ind : List Int → Nat
  | [] => 0
  | c :: cs => if c = 32 then ind cs + 1 else 0
theorem ind_le : ∀ L : List Int, ind L ≤ L.length := by
  intro L
  induction L with
  | nil => exact Nat.le_refl _
  | cons c cs ih =>
    unfold ind
    rw [List.length_cons]
    split <;> omega
theorem drop_cons {L : List Int} {k : Nat} (h : k < L.length) : L.drop k = L.getD k 0 :: L.drop (k + 1) := by
  rw [List.drop_eq_getElem_cons h, List.getD_eq_getElem?_getD, List.getElem?_eq_getElem h]
  rfl
theorem L_indent {σ : kS} {t : Nat} {T : Tx} {p : Nat} (hT : CT σ t T) (hp : p < T.length) (hpr : ∀ c, c < (ln T p).length → 32 ≤ (ln T p).getD c 0 ∧ (ln T p).getD c 0 ≤ 126) : ∀ (m n k : Nat), k + m = (ln T p).length → m < n → fl_Te_indentOf_8 n (p : Int) ((ln T p).length : Int) (k : Int) t σ = some (some (((k + ind ((ln T p).drop k) : Nat) : Int)), σ) := by
  have hl := hT.1
  obtain ⟨h1, h2, h3⟩ := hT.2 p hp
  intro m
  induction m with
  | zero =>
    intro n k e1 e2
    obtain ⟨n, rfl⟩ : ∃ n', n = n' + 1 := ⟨n - 1, by omega⟩
    simp only [fl_Te_indentOf_8, fb_Te_indentOf_8, fb_Te_indentOf_35]
    rw [kg_pos (by omega), if_pos (by omega), List.drop_eq_nil_of_le (by omega)]
    rfl
  | succ m ih =>
    intro n k e1 e2
    obtain ⟨n, rfl⟩ : ∃ n', n = n' + 1 := ⟨n - 1, by omega⟩
    simp only [fl_Te_indentOf_8, fb_Te_indentOf_8, fb_Te_indentOf_13, fb_Te_indentOf_29, fb_Te_indentOf_35]
    have e3 : ((p : Int) * 20 + k).toNat = 20 * p + k := by omega
    have e4 := hpr k (by omega)
    rw [kg_pos (by omega), if_neg (by omega), e3, h3 k (by omega), kg_pos (by omega), drop_cons (by omega)]
    unfold ind
    by_cases h : (ln T p).getD k 0 = 32
    · have e5 : (k : Int) + 1 = ((k + 1 : Nat) : Int) := by omega
      rw [if_pos h, if_pos h, e5, ih n (k + 1) (by omega) (by omega)]
      have e6 : k + 1 + ind ((ln T p).drop (k + 1)) = k + (ind ((ln T p).drop (k + 1)) + 1) := by omega
      rw [e6]
    · rw [if_neg h, if_neg h]
      rfl
theorem C_indentOf {σ : kS} {t : Nat} {T : Tx} {p : Nat} (hT : CT σ t T) (hc : σ 2 t 2 = T.length) (hp : p < T.length) (hpr : printable T) : f_Te_indentOf (p : Int) t σ = some (some ((ind (ln T p) : Nat) : Int), σ) := by
  have hl := hT.1
  have hs : szo T (p : Int) = ((ln T p).length : Int) := by
    unfold szo
    rw [if_pos (by omega), Int.toNat_natCast]
  unfold f_Te_indentOf fb_Te_indentOf_0 fb_Te_indentOf_5
  rw [kbi_eq (P_sizeOf hT hc (by omega)), hs]
  have z := L_indent hT hp (hpr p hp) (ln T p).length 3000 0 (by omega) (by have := (hT.2 p hp).2.1; omega)
  rw [Nat.zero_add, List.drop_zero] at z
  exact z
