/-! Pure: the class's texts under its own operations -/
theorem kup_f (σ : kS) (k i j : Nat) (x : Int) (a b : Nat) : kup σ k i j x a b = if a = k ∧ b = i then (fun c => if c = j then x else σ a b c) else σ a b := by
  funext c
  unfold kup
  by_cases h : a = k ∧ b = i
  · rw [if_pos h]
    by_cases h2 : c = j
    · rw [if_pos ⟨h.1, h.2, h2⟩, if_pos h2]
    · rw [if_neg (fun z => h2 z.2.2), if_neg h2]
  · rw [if_neg h, if_neg (fun z => h ⟨z.1, z.2.1⟩)]
theorem kupA_f (σ : kS) (k i : Nat) (f : Nat → Int) (a b : Nat) : kupA σ k i f a b = if a = k ∧ b = i then f else σ a b := by
  funext c
  unfold kupA
  by_cases h : a = k ∧ b = i
  · rw [if_pos h, if_pos h]
  · rw [if_neg h, if_neg h]
theorem kup_eqA (σ : kS) (k i j : Nat) (x : Int) : kup σ k i j x = kupA σ k i (fun c => if c = j then x else σ k i c) := by
  funext a b
  rw [kup_f, kupA_f]
  by_cases h : a = k ∧ b = i
  · rw [if_pos h, if_pos h, h.1, h.2]
  · rw [if_neg h, if_neg h]
theorem kupA_comm (σ : kS) {k k' : Nat} (i i' : Nat) (f g : Nat → Int) (h : k ≠ k') : kupA (kupA σ k i f) k' i' g = kupA (kupA σ k' i' g) k i f := by
  funext a b
  rw [kupA_f, kupA_f, kupA_f, kupA_f]
  by_cases h1 : a = k ∧ b = i
  · rw [if_pos h1, if_neg (by omega), if_pos h1]
  · rw [if_neg h1, if_neg h1]
theorem gd_app {α : Type} (X Y : List α) (d : α) (p : Nat) : (X ++ Y).getD p d = if p < X.length then X.getD p d else Y.getD (p - X.length) d := by
  rw [List.getD_eq_getElem?_getD, List.getD_eq_getElem?_getD, List.getD_eq_getElem?_getD, List.getElem?_append]
  split <;> rfl
theorem gd_take {α : Type} (X : List α) (d : α) {p n : Nat} (h : p < n) : (X.take n).getD p d = X.getD p d := by
  rw [List.getD_eq_getElem?_getD, List.getD_eq_getElem?_getD, List.getElem?_take, if_pos h]
theorem gd_drop {α : Type} (X : List α) (d : α) (p n : Nat) : (X.drop n).getD p d = X.getD (n + p) d := by
  rw [List.getD_eq_getElem?_getD, List.getD_eq_getElem?_getD, List.getElem?_drop]
theorem gd_rep {α : Type} (m : Nat) (d : α) (p : Nat) : (List.replicate m d).getD p d = d := by
  rw [List.getD_eq_getElem?_getD, List.getElem?_replicate]
  split <;> rfl
theorem gd_set {α : Type} (X : List α) (d v : α) {q : Nat} (hq : q < X.length) (p : Nat) : (X.set q v).getD p d = if p = q then v else X.getD p d := by
  rw [List.getD_eq_getElem?_getD, List.getD_eq_getElem?_getD, List.getElem?_set]
  by_cases h : q = p
  · rw [if_pos h, if_pos h.symm, if_pos hq]; rfl
  · rw [if_neg h, if_neg (fun z => h z.symm)]
theorem gd_ge {α : Type} (X : List α) (d : α) {p : Nat} (h : X.length ≤ p) : X.getD p d = d := by
  rw [List.getD_eq_getElem?_getD, List.getElem?_eq_none h]; rfl
theorem gd_ext {α : Type} {X Y : List α} (d : α) (h : X.length = Y.length) (h2 : ∀ p, p < X.length → X.getD p d = Y.getD p d) : X = Y := by
  refine List.ext_getElem h fun i h3 h4 => ?_
  have := h2 i h3
  rw [List.getD_eq_getElem?_getD, List.getD_eq_getElem?_getD, List.getElem?_eq_getElem h3, List.getElem?_eq_getElem h4] at this
  exact this
/-- lines a to before b are taken out -/
def cut {α : Type} (X : List α) (a b : Nat) : List α := X.take a ++ X.drop b
/-- Y is put before the place a -/
def ins {α : Type} (X : List α) (a : Nat) (Y : List α) : List α := X.take a ++ (Y ++ X.drop a)
/-- the part from a to before b -/
def slc {α : Type} (X : List α) (a b : Nat) : List α := (X.drop a).take (b - a)
theorem cut_len {α : Type} {X : List α} {a b : Nat} (h : a ≤ b) (h2 : b ≤ X.length) : (cut X a b).length = X.length - (b - a) := by
  unfold cut
  rw [List.length_append, List.length_take, List.length_drop]
  omega
theorem ins_len {α : Type} {X Y : List α} {a : Nat} (h : a ≤ X.length) : (ins X a Y).length = X.length + Y.length := by
  unfold ins
  rw [List.length_append, List.length_append, List.length_take, List.length_drop]
  omega
theorem slc_len {α : Type} {X : List α} {a b : Nat} (h2 : b ≤ X.length) : (slc X a b).length = b - a := by
  unfold slc
  rw [List.length_take, List.length_drop]
  omega
theorem cut_gd {α : Type} {X : List α} {a b : Nat} (d : α) (h : a ≤ b) (h2 : b ≤ X.length) (p : Nat) : (cut X a b).getD p d = if p < a then X.getD p d else X.getD (p + (b - a)) d := by
  have e : (X.take a).length = a := by rw [List.length_take]; omega
  unfold cut
  rw [gd_app, e]
  by_cases h3 : p < a
  · rw [if_pos h3, if_pos h3, gd_take _ _ h3]
  · rw [if_neg h3, if_neg h3, gd_drop]
    congr 1
    omega
theorem ins_gd {α : Type} {X Y : List α} {a : Nat} (d : α) (h : a ≤ X.length) (p : Nat) : (ins X a Y).getD p d = if p < a then X.getD p d else if p < a + Y.length then Y.getD (p - a) d else X.getD (p - Y.length) d := by
  have e : (X.take a).length = a := by rw [List.length_take]; omega
  unfold ins
  rw [gd_app, e]
  by_cases h3 : p < a
  · rw [if_pos h3, if_pos h3, gd_take _ _ h3]
  · rw [if_neg h3, if_neg h3, gd_app]
    by_cases h4 : p < a + Y.length
    · rw [if_pos h4, if_pos (by omega)]
    · rw [if_neg h4, if_neg (by omega), gd_drop]
      congr 1
      omega
theorem slc_gd {α : Type} {X : List α} {a b : Nat} (d : α) {p : Nat} (h : p < b - a) : (slc X a b).getD p d = X.getD (a + p) d := by
  unfold slc
  rw [gd_take _ _ h, gd_drop]
/-- the state with another text t -/
def sT (σ : kS) (t : Nat) (F G : Nat → Int) (n : Int) : kS := kup (kupA (kupA σ 10 t F) 11 t G) 2 t 2 n
def ToT (o : kRes) (r : Option Int) (σ : kS) (t : Nat) (T : Tx) : Prop := ∃ F G, o = some (r, sT σ t F G T.length) ∧ TR F G T
theorem sT_of {σ : kS} {t : Nat} {F G : Nat → Int} {n : Int} (h : σ 2 t 2 = n) : kupA (kupA σ 10 t F) 11 t G = sT σ t F G n := by
  unfold sT
  rw [kup_id]
  rw [kupA_k (by decide), kupA_k (by decide)]
  exact h
theorem ToT.mk {σ : kS} {t : Nat} {T : Tx} {r : Option Int} {F G : Nat → Int} {n : Int} (hn : n = T.length) (h : TR F G T) : ToT (some (r, kup (kupA (kupA σ 10 t F) 11 t G) 2 t 2 n)) r σ t T := ⟨F, G, by rw [hn]; rfl, h⟩
theorem ToT.mk' {σ : kS} {t : Nat} {T : Tx} {r : Option Int} {F G : Nat → Int} (hn : σ 2 t 2 = T.length) (h : TR F G T) : ToT (some (r, kupA (kupA σ 10 t F) 11 t G)) r σ t T := ⟨F, G, by rw [sT_of hn], h⟩
theorem C_closeLines {σ : kS} {t : Nat} {T : Tx} {a b : Nat} (hT : CT σ t T) (hc : σ 2 t 2 = T.length) (hab : a ≤ b) (hb : b < T.length) : ToT (f_Te_closeLines (a : Int) (b : Int) t σ) none σ t (cut T a (b + 1)) := by
  have hl := hT.1
  have hlen := cut_len (X := T) (a := a) (b := b + 1) (by omega) (by omega)
  unfold f_Te_closeLines fb_Te_closeLines_0 fb_Te_closeLines_4 fb_Te_closeLines_9 fb_Te_closeLines_18 fb_Te_closeLines_52 fb_Te_closeLines_68
  rw [kg_pos ⟨by omega, by omega⟩, if_neg (by omega), kg_pos (by omega), if_neg (by omega), kg_pos (by omega), if_pos (by omega), kg_pos (by omega), kg_pos (by omega)]
  simp only [kupA_f, reduceIte, hc, Nat.reduceEqDiff, false_and, and_true]
  refine ToT.mk (by omega) ⟨by omega, fun p hp => ?_⟩
  have hq : ln (cut T a (b + 1)) p = if p < a then ln T p else ln T (p + (b + 1 - a)) := cut_gd [] (by omega) (by omega) p
  rw [hq]
  unfold va_cpy
  by_cases h : p < a
  · rw [if_pos h, if_neg (by omega)]
    obtain ⟨h1, h2, h3⟩ := hT.2 p (by omega)
    refine ⟨h1, h2, fun c hc => ?_⟩
    rw [if_neg (by omega)]
    exact h3 c hc
  · rw [if_neg h, if_pos (by omega)]
    obtain ⟨h1, h2, h3⟩ := hT.2 (p + (b + 1 - a)) (by omega)
    refine ⟨(by rw [← h1]; congr 1; omega), h2, fun c hc => ?_⟩
    rw [if_pos (by omega), ← h3 c hc]
    congr 1
    omega
theorem kup_out {σ : kS} {t : Nat} {F G : Nat → Int} {n : Int} : kupA (kupA (kup σ 2 t 2 n) 10 t F) 11 t G = kup (kupA (kupA σ 10 t F) 11 t G) 2 t 2 n := by
  rw [kup_eqA, kup_eqA, kupA_comm (k := 2) (k' := 10) _ _ _ _ _ (by decide), kupA_comm (k := 2) (k' := 11) _ _ _ _ _ (by decide)]
  congr 1
theorem TR.set {cd sz cd' sz' : Nat → Int} {T : Tx} {p : Nat} {L : List Int} (hT : TR cd sz T) (hp : p < T.length) (hL : L.length ≤ 20) (h1 : ∀ q, q < T.length → q ≠ p → sz' q = sz q ∧ ∀ c, c < 20 → cd' (20 * q + c) = cd (20 * q + c)) (h2 : sz' p = L.length) (h3 : ∀ c, c < L.length → cd' (20 * p + c) = L.getD c 0) : TR cd' sz' (T.set p L) := by
  have hl : (T.set p L).length = T.length := List.length_set
  refine ⟨by rw [hl]; exact hT.1, fun q hq => ?_⟩
  rw [hl] at hq
  have e : ln (T.set p L) q = if q = p then L else ln T q := gd_set T [] L hp q
  rw [e]
  by_cases h : q = p
  · rw [if_pos h, h]
    exact ⟨h2, hL, h3⟩
  · rw [if_neg h]
    obtain ⟨a1, a2, a3⟩ := hT.2 q hq
    obtain ⟨b1, b2⟩ := h1 q hq h
    exact ⟨b1.trans a1, a2, fun c hc => (b2 c (by omega)).trans (a3 c hc)⟩
theorem L_fill4 {σ : kS} {t b : Nat} (x1 v : Int) (hb : b ≤ 200) : ∀ (m n k : Nat) (f : Nat → Int), k + m = b → m < n → fl_Ar_fill4_10 n x1 (b : Int) v (k : Int) t (kupA σ 10 t f) = some (none, kupA σ 10 t (fun j => if k ≤ j ∧ j < b then v else f j)) := by
  intro m
  induction m with
  | zero =>
    intro n k f h1 h2
    obtain ⟨n, rfl⟩ : ∃ n', n = n' + 1 := ⟨n - 1, by omega⟩
    simp only [fl_Ar_fill4_10, fb_Ar_fill4_10, fb_Ar_fill4_27]
    rw [kg_pos (by omega), if_pos (by omega)]
    have e : (fun j => if k ≤ j ∧ j < b then v else f j) = f := by
      funext j
      rw [if_neg (by omega)]
    rw [e]
  | succ m ih =>
    intro n k f h1 h2
    obtain ⟨n, rfl⟩ : ∃ n', n = n' + 1 := ⟨n - 1, by omega⟩
    simp only [fl_Ar_fill4_10, fb_Ar_fill4_10, fb_Ar_fill4_16]
    have e : (k : Int) + 1 = ((k + 1 : Nat) : Int) := by omega
    rw [kg_pos (by omega), if_neg (by omega), kg_pos (by omega), kup_kupA, Int.toNat_natCast, e, ih n (k + 1) _ (by omega) (by omega)]
    have e2 : (fun j => if k + 1 ≤ j ∧ j < b then v else if j = k then v else f j) = (fun j => if k ≤ j ∧ j < b then v else f j) := by
      funext j
      by_cases h : k ≤ j ∧ j < b
      · rw [if_pos h]
        by_cases h' : j = k
        · rw [if_neg (by omega), if_pos h']
        · rw [if_pos (by omega)]
      · rw [if_neg h, if_neg (by omega), if_neg (by omega)]
    rw [e2]
theorem P_range {σ : kS} {n a b : Int} (h : 0 ≤ a ∧ a ≤ b ∧ b ≤ n ∧ n < 2147483648) : f_Ar_rangeCheck n a b σ = some (none, σ) := by
  unfold f_Ar_rangeCheck fb_Ar_rangeCheck_0 fb_Ar_rangeCheck_46 fb_Ar_rangeCheck_59 fb_Ar_rangeCheck_73
  rw [kg_pos (by omega), if_pos (by omega), kg_pos (by omega), if_pos (by omega), kg_pos (by omega), if_pos (by omega)]
theorem P_fill4 {σ : kS} {t a b : Nat} {xa xb v : Int} (ha : xa = (a : Int)) (hb' : xb = (b : Int)) (hab : a ≤ b) (hb : b ≤ 200) : f_Ar_fill4 xa xb v t σ = some (none, kupA σ 10 t (fun j => if a ≤ j ∧ j < b then v else σ 10 t j)) := by
  subst ha hb'
  unfold f_Ar_fill4 fb_Ar_fill4_0 fb_Ar_fill4_7
  rw [kbu_eq (P_range (by omega))]
  have z := L_fill4 (σ := σ) (t := t) (b := b) (a : Int) v hb (b - a) 3000 a (σ 10 t) (by omega) (by omega)
  rw [kupA_id] at z
  exact z
theorem L_fill4' {σ : kS} {t b : Nat} (x1 v : Int) (hb : b ≤ 10) : ∀ (m n k : Nat) (f : Nat → Int), k + m = b → m < n → fl2_Ar_fill4_10 n x1 (b : Int) v (k : Int) t (kupA σ 11 t f) = some (none, kupA σ 11 t (fun j => if k ≤ j ∧ j < b then v else f j)) := by
  intro m
  induction m with
  | zero =>
    intro n k f h1 h2
    obtain ⟨n, rfl⟩ : ∃ n', n = n' + 1 := ⟨n - 1, by omega⟩
    simp only [fl2_Ar_fill4_10, fb2_Ar_fill4_10, fb2_Ar_fill4_27]
    rw [kg_pos (by omega), if_pos (by omega)]
    have e : (fun j => if k ≤ j ∧ j < b then v else f j) = f := by
      funext j
      rw [if_neg (by omega)]
    rw [e]
  | succ m ih =>
    intro n k f h1 h2
    obtain ⟨n, rfl⟩ : ∃ n', n = n' + 1 := ⟨n - 1, by omega⟩
    simp only [fl2_Ar_fill4_10, fb2_Ar_fill4_10, fb2_Ar_fill4_16]
    have e : (k : Int) + 1 = ((k + 1 : Nat) : Int) := by omega
    rw [kg_pos (by omega), if_neg (by omega), kg_pos (by omega), kup_kupA, Int.toNat_natCast, e, ih n (k + 1) _ (by omega) (by omega)]
    have e2 : (fun j => if k + 1 ≤ j ∧ j < b then v else if j = k then v else f j) = (fun j => if k ≤ j ∧ j < b then v else f j) := by
      funext j
      by_cases h : k ≤ j ∧ j < b
      · rw [if_pos h]
        by_cases h' : j = k
        · rw [if_neg (by omega), if_pos h']
        · rw [if_pos (by omega)]
      · rw [if_neg h, if_neg (by omega), if_neg (by omega)]
    rw [e2]
theorem P_fill4' {σ : kS} {t a b : Nat} {xa xb v : Int} (ha : xa = (a : Int)) (hb' : xb = (b : Int)) (hab : a ≤ b) (hb : b ≤ 10) : f2_Ar_fill4 xa xb v t σ = some (none, kupA σ 11 t (fun j => if a ≤ j ∧ j < b then v else σ 11 t j)) := by
  subst ha hb'
  unfold f2_Ar_fill4 fb2_Ar_fill4_0 fb2_Ar_fill4_7
  rw [kbu_eq (P_range (by omega))]
  have z := L_fill4' (σ := σ) (t := t) (b := b) (a : Int) v hb (b - a) 3000 a (σ 11 t) (by omega) (by omega)
  rw [kupA_id] at z
  exact z
theorem C_copyLines {σ : kS} {t u : Nat} {T : Tx} {a b : Nat} (hT : CT σ u T) (hc : σ 2 u 2 = T.length) (htu : t ≠ u) (hab : a ≤ b) (hb : b < T.length) : ToT (f_Te_copyLines (a : Int) (b : Int) t u σ) none σ t (slc T a (b + 1)) := by
  have hl := hT.1
  have hlen := slc_len (X := T) (a := a) (b := b + 1) (by omega)
  unfold f_Te_copyLines fb_Te_copyLines_0 fb_Te_copyLines_4 fb_Te_copyLines_9 fb_Te_copyLines_18 fb_Te_copyLines_50 fb_Te_copyLines_67
  rw [kg_pos ⟨by omega, by omega⟩, if_neg (by omega), kg_pos (by omega), if_neg (by omega), kg_pos (by omega), if_pos (by omega)]
  have htu' : ¬ u = t := fun z => htu z.symm
  simp only [kup_f, kupA_f, reduceIte, hc, Nat.reduceEqDiff, false_and, and_true, and_self, htu', and_false]
  rw [kg_pos (by omega), kg_pos (by omega), kup_out]
  refine ToT.mk (by omega) ⟨by omega, fun p hp => ?_⟩
  have hq : ln (slc T a (b + 1)) p = ln T (a + p) := slc_gd [] (by omega)
  rw [hq]
  unfold va_cpy
  obtain ⟨h1, h2, h3⟩ := hT.2 (a + p) (by omega)
  rw [if_pos (by omega)]
  refine ⟨(by rw [← h1]; congr 1), h2, fun c hc => ?_⟩
  rw [if_pos (by omega), ← h3 c hc]
  congr 1
  omega
theorem C_copy {σ : kS} {t u : Nat} {x : Tc} (hX : CX σ u x) (htu : t ≠ u) : ∃ F G, f_Te_copy t u σ = some (none, kup (kup (sT σ t F G x.1.length) 2 t 3 x.2.1) 2 t 4 x.2.2) ∧ TR F G x.1 := by
  obtain ⟨hT, h1, h2, h3⟩ := hX
  have htu' : ¬ u = t := fun z => htu z.symm
  unfold f_Te_copy fb_Te_copy_0 fb_Te_copy_42 fb_Te_copy_60
  rw [kg_pos (by decide), kg_pos (by decide)]
  simp only [kup_f, kupA_f, reduceIte, Nat.reduceEqDiff, false_and, and_true, and_self, htu', and_false, h1, h2, h3]
  refine ⟨va_cpy (σ 10 u) (σ 10 t) 0 0 200, va_cpy (σ 11 u) (σ 11 t) 0 0 10, ?_, ?_⟩
  · congr 2
    unfold sT
    funext a b
    simp only [kup_f, kupA_f]
    by_cases e : b = t
    · by_cases e1 : a = 2
      · subst e e1
        simp
      · by_cases e2 : a = 10
        · subst e e2
          simp
        · by_cases e3 : a = 11
          · subst e e3
            simp
          · simp [e1, e2, e3]
    · simp [e]
  · have hl := hT.1
    refine ⟨hl, fun p hp => ?_⟩
    obtain ⟨h1, h2, h3⟩ := hT.2 p hp
    unfold va_cpy
    rw [if_pos (by omega)]
    refine ⟨(by rw [← h1]; congr 1; omega), h2, fun c hc => ?_⟩
    rw [if_pos (by omega), ← h3 c hc]
    congr 1
    omega
