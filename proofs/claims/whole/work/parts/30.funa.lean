/-! Ar_fill2 -/
def fb_Ar_fill2_20  (x1 : Int) (x2 : Int) (x3 : Int) (t : Nat) (σ : kS) : kRes := some (none, σ)
theorem e_Ar_fill2_20 {l : Launch} {G : kG} {σf : kS}  {x1 : Int} {x2 : Int} {x3 : Int} {t : Nat}  {σ : kS} (h : fb_Ar_fill2_20  x1 x2 x3 t σ = some (none, σf)) : Rn l G dm_Ar_fill2 m_Ar_fill2 (kU fun σ' => σ' = σf) 20 [some (.inr (15, t)), some (.inl x1), some (.inl x2), some (.inl x3)] [] σ := by
  unfold fb_Ar_fill2_20 at h
  simp only [Option.some.injEq, Prod.mk.injEq, true_and] at h
  exact s_Ar_fill2_20  ⟨rfl, h⟩
def fb_Ar_fill2_10 (k5 : Int → Int → Int → Nat → kS → kRes) (x1 : Int) (x2 : Int) (x3 : Int) (t : Nat) (σ : kS) : kRes := kg ((0 ≤ x2 ∧ x2 < (100 : Nat))) (k5 x1 (x2 + 1) x3 t (kup σ 15 t (Int.toNat x2) x1))
theorem e_Ar_fill2_10 {l : Launch} {G : kG} {σf : kS} {k5 : Int → Int → Int → Nat → kS → kRes} (hk5 : ∀ (x1 : Int) (x2 : Int) (x3 : Int) (t : Nat)  (σ : kS), k5 x1 x2 x3 t σ = some (none, σf) → Rn l G dm_Ar_fill2 m_Ar_fill2 (kU fun σ' => σ' = σf) 5 [some (.inr (15, t)), some (.inl x1), some (.inl x2), some (.inl x3)] [] σ) {x1 : Int} {x2 : Int} {x3 : Int} {t : Nat}  {σ : kS} (h : fb_Ar_fill2_10 k5 x1 x2 x3 t σ = some (none, σf)) : Rn l G dm_Ar_fill2 m_Ar_fill2 (kU fun σ' => σ' = σf) 10 [some (.inr (15, t)), some (.inl x1), some (.inl x2), some (.inl x3)] [] σ := by
  unfold fb_Ar_fill2_10 at h
  obtain ⟨h1, h⟩ := kg_some h
  refine s_Ar_fill2_10 h1 ?_
  exact hk5 _ _ _ _ _ h
def fb_Ar_fill2_5 (k5 : Int → Int → Int → Nat → kS → kRes) (x1 : Int) (x2 : Int) (x3 : Int) (t : Nat) (σ : kS) : kRes := kg ((-2147483648 ≤ x2 ∧ x2 < 2147483648) ∧ (-2147483648 ≤ x3 ∧ x3 < 2147483648)) (if x3 ≤ x2 then fb_Ar_fill2_20  x1 x2 x3 t σ else fb_Ar_fill2_10 k5 x1 x2 x3 t σ)
theorem e_Ar_fill2_5 {l : Launch} {G : kG} {σf : kS} {k5 : Int → Int → Int → Nat → kS → kRes} (hk5 : ∀ (x1 : Int) (x2 : Int) (x3 : Int) (t : Nat)  (σ : kS), k5 x1 x2 x3 t σ = some (none, σf) → Rn l G dm_Ar_fill2 m_Ar_fill2 (kU fun σ' => σ' = σf) 5 [some (.inr (15, t)), some (.inl x1), some (.inl x2), some (.inl x3)] [] σ) {x1 : Int} {x2 : Int} {x3 : Int} {t : Nat}  {σ : kS} (h : fb_Ar_fill2_5 k5 x1 x2 x3 t σ = some (none, σf)) : Rn l G dm_Ar_fill2 m_Ar_fill2 (kU fun σ' => σ' = σf) 5 [some (.inr (15, t)), some (.inl x1), some (.inl x2), some (.inl x3)] [] σ := by
  unfold fb_Ar_fill2_5 at h
  obtain ⟨⟨h1, h2⟩, h⟩ := kg_some h
  refine s_Ar_fill2_5 h1 h2 (fun c => ?_) (fun c => ?_)
  · rw [if_pos c] at h
    exact e_Ar_fill2_20  h
  · rw [if_neg c] at h
    exact e_Ar_fill2_10 hk5 h
def fl_Ar_fill2_5  : Nat → Int → Int → Int → Nat → kS → kRes
  | 0, _, _, _, _, _ => none
  | n + 1, x1, x2, x3, t, σ => fb_Ar_fill2_5 (fl_Ar_fill2_5  n) x1 x2 x3 t σ
theorem el_Ar_fill2_5 {l : Launch} {G : kG} {σf : kS}  : ∀ (n : Nat) (x1 : Int) (x2 : Int) (x3 : Int) (t : Nat)  (σ : kS), fl_Ar_fill2_5  n x1 x2 x3 t σ = some (none, σf) → Rn l G dm_Ar_fill2 m_Ar_fill2 (kU fun σ' => σ' = σf) 5 [some (.inr (15, t)), some (.inl x1), some (.inl x2), some (.inl x3)] [] σ := by
  intro n
  induction n with
  | zero => intro x1 x2 x3 t σ h; simp only [fl_Ar_fill2_5] at h; cases h
  | succ n ih => intro x1 x2 x3 t σ h; simp only [fl_Ar_fill2_5] at h; exact e_Ar_fill2_5 ih h
def fb_Ar_fill2_0  (x1 : Int) (t : Nat) (σ : kS) : kRes := fl_Ar_fill2_5  3000 x1 0 100 t σ
theorem e_Ar_fill2_0 {l : Launch} {G : kG} {σf : kS}  {x1 : Int} {t : Nat} {o2 : Option kV} {o3 : Option kV} {σ : kS} (h : fb_Ar_fill2_0  x1 t σ = some (none, σf)) : Rn l G dm_Ar_fill2 m_Ar_fill2 (kU fun σ' => σ' = σf) 0 [some (.inr (15, t)), some (.inl x1), o2, o3] [] σ := by
  unfold fb_Ar_fill2_0 at h
  refine s_Ar_fill2_0  ?_
  exact el_Ar_fill2_5  _ _ _ _ _ _ h
def f_Ar_fill2 (x1 : Int) (t : Nat) (σ : kS) : kRes := fb_Ar_fill2_0 x1 t σ
theorem E_Ar_fill2 {l : Launch} {G : kG} {σf : kS} {x1 : Int} {t : Nat} {σ : kS} (h : f_Ar_fill2 x1 t σ = some (none, σf)) : Call l G dm_Ar_fill2 y_Ar_fill2 m_Ar_fill2 [.inr (15, t), .inl x1] σ (kU fun σ' => σ' = σf) := by
  unfold f_Ar_fill2 at h
  exact Call.of (by decide +kernel) rfl (Nat.le_of_ble_eq_true rfl) (e_Ar_fill2_0 h)
/-! Ar_fill2 -/
def fb2_Ar_fill2_20  (x1 : Int) (x2 : Int) (x3 : Int) (t : Nat) (σ : kS) : kRes := some (none, σ)
theorem e2_Ar_fill2_20 {l : Launch} {G : kG} {σf : kS}  {x1 : Int} {x2 : Int} {x3 : Int} {t : Nat}  {σ : kS} (h : fb2_Ar_fill2_20  x1 x2 x3 t σ = some (none, σf)) : Rn l G dm_Ar_fill2 m_Ar_fill2 (kU fun σ' => σ' = σf) 20 [some (.inr (17, t)), some (.inl x1), some (.inl x2), some (.inl x3)] [] σ := by
  unfold fb2_Ar_fill2_20 at h
  simp only [Option.some.injEq, Prod.mk.injEq, true_and] at h
  exact s2_Ar_fill2_20  ⟨rfl, h⟩
def fb2_Ar_fill2_10 (k5 : Int → Int → Int → Nat → kS → kRes) (x1 : Int) (x2 : Int) (x3 : Int) (t : Nat) (σ : kS) : kRes := kg ((0 ≤ x2 ∧ x2 < (127 : Nat))) (k5 x1 (x2 + 1) x3 t (kup σ 17 t (Int.toNat x2) x1))
theorem e2_Ar_fill2_10 {l : Launch} {G : kG} {σf : kS} {k5 : Int → Int → Int → Nat → kS → kRes} (hk5 : ∀ (x1 : Int) (x2 : Int) (x3 : Int) (t : Nat)  (σ : kS), k5 x1 x2 x3 t σ = some (none, σf) → Rn l G dm_Ar_fill2 m_Ar_fill2 (kU fun σ' => σ' = σf) 5 [some (.inr (17, t)), some (.inl x1), some (.inl x2), some (.inl x3)] [] σ) {x1 : Int} {x2 : Int} {x3 : Int} {t : Nat}  {σ : kS} (h : fb2_Ar_fill2_10 k5 x1 x2 x3 t σ = some (none, σf)) : Rn l G dm_Ar_fill2 m_Ar_fill2 (kU fun σ' => σ' = σf) 10 [some (.inr (17, t)), some (.inl x1), some (.inl x2), some (.inl x3)] [] σ := by
  unfold fb2_Ar_fill2_10 at h
  obtain ⟨h1, h⟩ := kg_some h
  refine s2_Ar_fill2_10 h1 ?_
  exact hk5 _ _ _ _ _ h
def fb2_Ar_fill2_5 (k5 : Int → Int → Int → Nat → kS → kRes) (x1 : Int) (x2 : Int) (x3 : Int) (t : Nat) (σ : kS) : kRes := kg ((-2147483648 ≤ x2 ∧ x2 < 2147483648) ∧ (-2147483648 ≤ x3 ∧ x3 < 2147483648)) (if x3 ≤ x2 then fb2_Ar_fill2_20  x1 x2 x3 t σ else fb2_Ar_fill2_10 k5 x1 x2 x3 t σ)
theorem e2_Ar_fill2_5 {l : Launch} {G : kG} {σf : kS} {k5 : Int → Int → Int → Nat → kS → kRes} (hk5 : ∀ (x1 : Int) (x2 : Int) (x3 : Int) (t : Nat)  (σ : kS), k5 x1 x2 x3 t σ = some (none, σf) → Rn l G dm_Ar_fill2 m_Ar_fill2 (kU fun σ' => σ' = σf) 5 [some (.inr (17, t)), some (.inl x1), some (.inl x2), some (.inl x3)] [] σ) {x1 : Int} {x2 : Int} {x3 : Int} {t : Nat}  {σ : kS} (h : fb2_Ar_fill2_5 k5 x1 x2 x3 t σ = some (none, σf)) : Rn l G dm_Ar_fill2 m_Ar_fill2 (kU fun σ' => σ' = σf) 5 [some (.inr (17, t)), some (.inl x1), some (.inl x2), some (.inl x3)] [] σ := by
  unfold fb2_Ar_fill2_5 at h
  obtain ⟨⟨h1, h2⟩, h⟩ := kg_some h
  refine s2_Ar_fill2_5 h1 h2 (fun c => ?_) (fun c => ?_)
  · rw [if_pos c] at h
    exact e2_Ar_fill2_20  h
  · rw [if_neg c] at h
    exact e2_Ar_fill2_10 hk5 h
def fl2_Ar_fill2_5  : Nat → Int → Int → Int → Nat → kS → kRes
  | 0, _, _, _, _, _ => none
  | n + 1, x1, x2, x3, t, σ => fb2_Ar_fill2_5 (fl2_Ar_fill2_5  n) x1 x2 x3 t σ
theorem el2_Ar_fill2_5 {l : Launch} {G : kG} {σf : kS}  : ∀ (n : Nat) (x1 : Int) (x2 : Int) (x3 : Int) (t : Nat)  (σ : kS), fl2_Ar_fill2_5  n x1 x2 x3 t σ = some (none, σf) → Rn l G dm_Ar_fill2 m_Ar_fill2 (kU fun σ' => σ' = σf) 5 [some (.inr (17, t)), some (.inl x1), some (.inl x2), some (.inl x3)] [] σ := by
  intro n
  induction n with
  | zero => intro x1 x2 x3 t σ h; simp only [fl2_Ar_fill2_5] at h; cases h
  | succ n ih => intro x1 x2 x3 t σ h; simp only [fl2_Ar_fill2_5] at h; exact e2_Ar_fill2_5 ih h
def fb2_Ar_fill2_0  (x1 : Int) (t : Nat) (σ : kS) : kRes := fl2_Ar_fill2_5  3000 x1 0 127 t σ
theorem e2_Ar_fill2_0 {l : Launch} {G : kG} {σf : kS}  {x1 : Int} {t : Nat} {o2 : Option kV} {o3 : Option kV} {σ : kS} (h : fb2_Ar_fill2_0  x1 t σ = some (none, σf)) : Rn l G dm_Ar_fill2 m_Ar_fill2 (kU fun σ' => σ' = σf) 0 [some (.inr (17, t)), some (.inl x1), o2, o3] [] σ := by
  unfold fb2_Ar_fill2_0 at h
  refine s2_Ar_fill2_0  ?_
  exact el2_Ar_fill2_5  _ _ _ _ _ _ h
def f2_Ar_fill2 (x1 : Int) (t : Nat) (σ : kS) : kRes := fb2_Ar_fill2_0 x1 t σ
theorem E2_Ar_fill2 {l : Launch} {G : kG} {σf : kS} {x1 : Int} {t : Nat} {σ : kS} (h : f2_Ar_fill2 x1 t σ = some (none, σf)) : Call l G dm_Ar_fill2 y_Ar_fill2 m_Ar_fill2 [.inr (17, t), .inl x1] σ (kU fun σ' => σ' = σf) := by
  unfold f2_Ar_fill2 at h
  exact Call.of (by decide +kernel) rfl (Nat.le_of_ble_eq_true rfl) (e2_Ar_fill2_0 h)
/-! Ar_rangeCheck -/
def fb_Ar_rangeCheck_73  (x0 : Int) (x1 : Int) (x2 : Int) (σ : kS) : kRes := some (none, σ)
theorem e_Ar_rangeCheck_73 {l : Launch} {G : kG} {σf : kS}  {x0 : Int} {x1 : Int} {x2 : Int}  {σ : kS} (h : fb_Ar_rangeCheck_73  x0 x1 x2 σ = some (none, σf)) : Rn l G dm_Ar_rangeCheck m_Ar_rangeCheck (kU fun σ' => σ' = σf) 73 [some (.inl x0), some (.inl x1), some (.inl x2)] [] σ := by
  unfold fb_Ar_rangeCheck_73 at h
  simp only [Option.some.injEq, Prod.mk.injEq, true_and] at h
  exact s_Ar_rangeCheck_73  ⟨rfl, h⟩
def fb_Ar_rangeCheck_59  (x0 : Int) (x1 : Int) (x2 : Int) (σ : kS) : kRes := kg ((-2147483648 ≤ x2 ∧ x2 < 2147483648) ∧ (-2147483648 ≤ x0 ∧ x0 < 2147483648)) (if x2 ≤ x0 then fb_Ar_rangeCheck_73  x0 x1 x2 σ else none)
theorem e_Ar_rangeCheck_59 {l : Launch} {G : kG} {σf : kS}  {x0 : Int} {x1 : Int} {x2 : Int}  {σ : kS} (h : fb_Ar_rangeCheck_59  x0 x1 x2 σ = some (none, σf)) : Rn l G dm_Ar_rangeCheck m_Ar_rangeCheck (kU fun σ' => σ' = σf) 59 [some (.inl x0), some (.inl x1), some (.inl x2)] [] σ := by
  unfold fb_Ar_rangeCheck_59 at h
  obtain ⟨⟨h1, h2⟩, h⟩ := kg_some h
  refine s_Ar_rangeCheck_59 h1 h2 (fun c => ?_) (fun c => ?_)
  · rw [if_pos c] at h
    exact e_Ar_rangeCheck_73  h
  · rw [if_neg c] at h
    cases h
def fb_Ar_rangeCheck_46  (x0 : Int) (x1 : Int) (x2 : Int) (σ : kS) : kRes := kg ((-2147483648 ≤ x1 ∧ x1 < 2147483648)) (if 0 ≤ x1 then fb_Ar_rangeCheck_59  x0 x1 x2 σ else none)
theorem e_Ar_rangeCheck_46 {l : Launch} {G : kG} {σf : kS}  {x0 : Int} {x1 : Int} {x2 : Int}  {σ : kS} (h : fb_Ar_rangeCheck_46  x0 x1 x2 σ = some (none, σf)) : Rn l G dm_Ar_rangeCheck m_Ar_rangeCheck (kU fun σ' => σ' = σf) 46 [some (.inl x0), some (.inl x1), some (.inl x2)] [] σ := by
  unfold fb_Ar_rangeCheck_46 at h
  obtain ⟨h1, h⟩ := kg_some h
  refine s_Ar_rangeCheck_46 h1 (fun c => ?_) (fun c => ?_)
  · rw [if_pos c] at h
    exact e_Ar_rangeCheck_59  h
  · rw [if_neg c] at h
    cases h
def fb_Ar_rangeCheck_0  (x0 : Int) (x1 : Int) (x2 : Int) (σ : kS) : kRes := kg ((-2147483648 ≤ x1 ∧ x1 < 2147483648) ∧ (-2147483648 ≤ x2 ∧ x2 < 2147483648)) (if x1 ≤ x2 then fb_Ar_rangeCheck_46  x0 x1 x2 σ else none)
theorem e_Ar_rangeCheck_0 {l : Launch} {G : kG} {σf : kS}  {x0 : Int} {x1 : Int} {x2 : Int}  {σ : kS} (h : fb_Ar_rangeCheck_0  x0 x1 x2 σ = some (none, σf)) : Rn l G dm_Ar_rangeCheck m_Ar_rangeCheck (kU fun σ' => σ' = σf) 0 [some (.inl x0), some (.inl x1), some (.inl x2)] [] σ := by
  unfold fb_Ar_rangeCheck_0 at h
  obtain ⟨⟨h1, h2⟩, h⟩ := kg_some h
  refine s_Ar_rangeCheck_0 h1 h2 (fun c => ?_) (fun c => ?_)
  · rw [if_pos c] at h
    exact e_Ar_rangeCheck_46  h
  · rw [if_neg c] at h
    cases h
def f_Ar_rangeCheck (x0 : Int) (x1 : Int) (x2 : Int) (σ : kS) : kRes := fb_Ar_rangeCheck_0 x0 x1 x2 σ
theorem E_Ar_rangeCheck {l : Launch} {G : kG} {σf : kS} {x0 : Int} {x1 : Int} {x2 : Int} {σ : kS} (h : f_Ar_rangeCheck x0 x1 x2 σ = some (none, σf)) : Call l G dm_Ar_rangeCheck y_Ar_rangeCheck m_Ar_rangeCheck [.inl x0, .inl x1, .inl x2] σ (kU fun σ' => σ' = σf) := by
  unfold f_Ar_rangeCheck at h
  exact Call.of (by decide +kernel) rfl (Nat.le_of_ble_eq_true rfl) (e_Ar_rangeCheck_0 h)
/-! Ar_fill4 -/
def fb_Ar_fill4_27  (x1 : Int) (x2 : Int) (x3 : Int) (x4 : Int) (t : Nat) (σ : kS) : kRes := some (none, σ)
theorem e_Ar_fill4_27 {l : Launch} {G : kG} {σf : kS}  {x1 : Int} {x2 : Int} {x3 : Int} {x4 : Int} {t : Nat}  {σ : kS} (h : fb_Ar_fill4_27  x1 x2 x3 x4 t σ = some (none, σf)) : Rn l G dm_Ar_fill4 m_Ar_fill4 (kU fun σ' => σ' = σf) 27 [some (.inr (10, t)), some (.inl x1), some (.inl x2), some (.inl x3), some (.inl x4)] [] σ := by
  unfold fb_Ar_fill4_27 at h
  simp only [Option.some.injEq, Prod.mk.injEq, true_and] at h
  exact s_Ar_fill4_27  ⟨rfl, h⟩
def fb_Ar_fill4_16 (k10 : Int → Int → Int → Int → Nat → kS → kRes) (x1 : Int) (x2 : Int) (x3 : Int) (x4 : Int) (t : Nat) (σ : kS) : kRes := kg ((0 ≤ x4 ∧ x4 < (200 : Nat))) (k10 x1 x2 x3 (x4 + 1) t (kup σ 10 t (Int.toNat x4) x3))
theorem e_Ar_fill4_16 {l : Launch} {G : kG} {σf : kS} {k10 : Int → Int → Int → Int → Nat → kS → kRes} (hk10 : ∀ (x1 : Int) (x2 : Int) (x3 : Int) (x4 : Int) (t : Nat)  (σ : kS), k10 x1 x2 x3 x4 t σ = some (none, σf) → Rn l G dm_Ar_fill4 m_Ar_fill4 (kU fun σ' => σ' = σf) 10 [some (.inr (10, t)), some (.inl x1), some (.inl x2), some (.inl x3), some (.inl x4)] [] σ) {x1 : Int} {x2 : Int} {x3 : Int} {x4 : Int} {t : Nat}  {σ : kS} (h : fb_Ar_fill4_16 k10 x1 x2 x3 x4 t σ = some (none, σf)) : Rn l G dm_Ar_fill4 m_Ar_fill4 (kU fun σ' => σ' = σf) 16 [some (.inr (10, t)), some (.inl x1), some (.inl x2), some (.inl x3), some (.inl x4)] [] σ := by
  unfold fb_Ar_fill4_16 at h
  obtain ⟨h1, h⟩ := kg_some h
  refine s_Ar_fill4_16 h1 ?_
  exact hk10 _ _ _ _ _ _ h
def fb_Ar_fill4_10 (k10 : Int → Int → Int → Int → Nat → kS → kRes) (x1 : Int) (x2 : Int) (x3 : Int) (x4 : Int) (t : Nat) (σ : kS) : kRes := kg ((-2147483648 ≤ x4 ∧ x4 < 2147483648) ∧ (-2147483648 ≤ x2 ∧ x2 < 2147483648)) (if x2 ≤ x4 then fb_Ar_fill4_27  x1 x2 x3 x4 t σ else fb_Ar_fill4_16 k10 x1 x2 x3 x4 t σ)
theorem e_Ar_fill4_10 {l : Launch} {G : kG} {σf : kS} {k10 : Int → Int → Int → Int → Nat → kS → kRes} (hk10 : ∀ (x1 : Int) (x2 : Int) (x3 : Int) (x4 : Int) (t : Nat)  (σ : kS), k10 x1 x2 x3 x4 t σ = some (none, σf) → Rn l G dm_Ar_fill4 m_Ar_fill4 (kU fun σ' => σ' = σf) 10 [some (.inr (10, t)), some (.inl x1), some (.inl x2), some (.inl x3), some (.inl x4)] [] σ) {x1 : Int} {x2 : Int} {x3 : Int} {x4 : Int} {t : Nat}  {σ : kS} (h : fb_Ar_fill4_10 k10 x1 x2 x3 x4 t σ = some (none, σf)) : Rn l G dm_Ar_fill4 m_Ar_fill4 (kU fun σ' => σ' = σf) 10 [some (.inr (10, t)), some (.inl x1), some (.inl x2), some (.inl x3), some (.inl x4)] [] σ := by
  unfold fb_Ar_fill4_10 at h
  obtain ⟨⟨h1, h2⟩, h⟩ := kg_some h
  refine s_Ar_fill4_10 h1 h2 (fun c => ?_) (fun c => ?_)
  · rw [if_pos c] at h
    exact e_Ar_fill4_27  h
  · rw [if_neg c] at h
    exact e_Ar_fill4_16 hk10 h
def fl_Ar_fill4_10  : Nat → Int → Int → Int → Int → Nat → kS → kRes
  | 0, _, _, _, _, _, _ => none
  | n + 1, x1, x2, x3, x4, t, σ => fb_Ar_fill4_10 (fl_Ar_fill4_10  n) x1 x2 x3 x4 t σ
theorem el_Ar_fill4_10 {l : Launch} {G : kG} {σf : kS}  : ∀ (n : Nat) (x1 : Int) (x2 : Int) (x3 : Int) (x4 : Int) (t : Nat)  (σ : kS), fl_Ar_fill4_10  n x1 x2 x3 x4 t σ = some (none, σf) → Rn l G dm_Ar_fill4 m_Ar_fill4 (kU fun σ' => σ' = σf) 10 [some (.inr (10, t)), some (.inl x1), some (.inl x2), some (.inl x3), some (.inl x4)] [] σ := by
  intro n
  induction n with
  | zero => intro x1 x2 x3 x4 t σ h; simp only [fl_Ar_fill4_10] at h; cases h
  | succ n ih => intro x1 x2 x3 x4 t σ h; simp only [fl_Ar_fill4_10] at h; exact e_Ar_fill4_10 ih h
def fb_Ar_fill4_7  (x1 : Int) (x2 : Int) (x3 : Int) (t : Nat) (σ : kS) : kRes := fl_Ar_fill4_10  3000 x1 x2 x3 x1 t σ
theorem e_Ar_fill4_7 {l : Launch} {G : kG} {σf : kS}  {x1 : Int} {x2 : Int} {x3 : Int} {t : Nat} {o4 : Option kV} {σ : kS} (h : fb_Ar_fill4_7  x1 x2 x3 t σ = some (none, σf)) : Rn l G dm_Ar_fill4 m_Ar_fill4 (kU fun σ' => σ' = σf) 7 [some (.inr (10, t)), some (.inl x1), some (.inl x2), some (.inl x3), o4] [] σ := by
  unfold fb_Ar_fill4_7 at h
  refine s_Ar_fill4_7  ?_
  exact el_Ar_fill4_10  _ _ _ _ _ _ _ h
def fb_Ar_fill4_0  (x1 : Int) (x2 : Int) (x3 : Int) (t : Nat) (σ : kS) : kRes := kbu (f_Ar_rangeCheck 200 x1 x2 σ) fun σ1 => fb_Ar_fill4_7  x1 x2 x3 t σ1
theorem e_Ar_fill4_0 {l : Launch} {G : kG} {σf : kS}  {x1 : Int} {x2 : Int} {x3 : Int} {t : Nat} {o4 : Option kV} {σ : kS} (h : fb_Ar_fill4_0  x1 x2 x3 t σ = some (none, σf)) : Rn l G dm_Ar_fill4 m_Ar_fill4 (kU fun σ' => σ' = σf) 0 [some (.inr (10, t)), some (.inl x1), some (.inl x2), some (.inl x3), o4] [] σ := by
  unfold fb_Ar_fill4_0 at h
  obtain ⟨σ1, hc, h⟩ := kbu_some h
  refine s_Ar_fill4_0  (by decide) (E_Ar_rangeCheck hc) (fun σ2 e2 => ?_)
  subst e2
  exact e_Ar_fill4_7  h
def f_Ar_fill4 (x1 : Int) (x2 : Int) (x3 : Int) (t : Nat) (σ : kS) : kRes := fb_Ar_fill4_0 x1 x2 x3 t σ
theorem E_Ar_fill4 {l : Launch} {G : kG} {σf : kS} {x1 : Int} {x2 : Int} {x3 : Int} {t : Nat} {σ : kS} (h : f_Ar_fill4 x1 x2 x3 t σ = some (none, σf)) : Call l G dm_Ar_fill4 y_Ar_fill4 m_Ar_fill4 [.inr (10, t), .inl x1, .inl x2, .inl x3] σ (kU fun σ' => σ' = σf) := by
  unfold f_Ar_fill4 at h
  exact Call.of (by decide +kernel) rfl (Nat.le_of_ble_eq_true rfl) (e_Ar_fill4_0 h)
/-! Ar_fill4 -/
def fb2_Ar_fill4_27  (x1 : Int) (x2 : Int) (x3 : Int) (x4 : Int) (t : Nat) (σ : kS) : kRes := some (none, σ)
theorem e2_Ar_fill4_27 {l : Launch} {G : kG} {σf : kS}  {x1 : Int} {x2 : Int} {x3 : Int} {x4 : Int} {t : Nat}  {σ : kS} (h : fb2_Ar_fill4_27  x1 x2 x3 x4 t σ = some (none, σf)) : Rn l G dm_Ar_fill4 m_Ar_fill4 (kU fun σ' => σ' = σf) 27 [some (.inr (11, t)), some (.inl x1), some (.inl x2), some (.inl x3), some (.inl x4)] [] σ := by
  unfold fb2_Ar_fill4_27 at h
  simp only [Option.some.injEq, Prod.mk.injEq, true_and] at h
  exact s2_Ar_fill4_27  ⟨rfl, h⟩
def fb2_Ar_fill4_16 (k10 : Int → Int → Int → Int → Nat → kS → kRes) (x1 : Int) (x2 : Int) (x3 : Int) (x4 : Int) (t : Nat) (σ : kS) : kRes := kg ((0 ≤ x4 ∧ x4 < (10 : Nat))) (k10 x1 x2 x3 (x4 + 1) t (kup σ 11 t (Int.toNat x4) x3))
theorem e2_Ar_fill4_16 {l : Launch} {G : kG} {σf : kS} {k10 : Int → Int → Int → Int → Nat → kS → kRes} (hk10 : ∀ (x1 : Int) (x2 : Int) (x3 : Int) (x4 : Int) (t : Nat)  (σ : kS), k10 x1 x2 x3 x4 t σ = some (none, σf) → Rn l G dm_Ar_fill4 m_Ar_fill4 (kU fun σ' => σ' = σf) 10 [some (.inr (11, t)), some (.inl x1), some (.inl x2), some (.inl x3), some (.inl x4)] [] σ) {x1 : Int} {x2 : Int} {x3 : Int} {x4 : Int} {t : Nat}  {σ : kS} (h : fb2_Ar_fill4_16 k10 x1 x2 x3 x4 t σ = some (none, σf)) : Rn l G dm_Ar_fill4 m_Ar_fill4 (kU fun σ' => σ' = σf) 16 [some (.inr (11, t)), some (.inl x1), some (.inl x2), some (.inl x3), some (.inl x4)] [] σ := by
  unfold fb2_Ar_fill4_16 at h
  obtain ⟨h1, h⟩ := kg_some h
  refine s2_Ar_fill4_16 h1 ?_
  exact hk10 _ _ _ _ _ _ h
def fb2_Ar_fill4_10 (k10 : Int → Int → Int → Int → Nat → kS → kRes) (x1 : Int) (x2 : Int) (x3 : Int) (x4 : Int) (t : Nat) (σ : kS) : kRes := kg ((-2147483648 ≤ x4 ∧ x4 < 2147483648) ∧ (-2147483648 ≤ x2 ∧ x2 < 2147483648)) (if x2 ≤ x4 then fb2_Ar_fill4_27  x1 x2 x3 x4 t σ else fb2_Ar_fill4_16 k10 x1 x2 x3 x4 t σ)
theorem e2_Ar_fill4_10 {l : Launch} {G : kG} {σf : kS} {k10 : Int → Int → Int → Int → Nat → kS → kRes} (hk10 : ∀ (x1 : Int) (x2 : Int) (x3 : Int) (x4 : Int) (t : Nat)  (σ : kS), k10 x1 x2 x3 x4 t σ = some (none, σf) → Rn l G dm_Ar_fill4 m_Ar_fill4 (kU fun σ' => σ' = σf) 10 [some (.inr (11, t)), some (.inl x1), some (.inl x2), some (.inl x3), some (.inl x4)] [] σ) {x1 : Int} {x2 : Int} {x3 : Int} {x4 : Int} {t : Nat}  {σ : kS} (h : fb2_Ar_fill4_10 k10 x1 x2 x3 x4 t σ = some (none, σf)) : Rn l G dm_Ar_fill4 m_Ar_fill4 (kU fun σ' => σ' = σf) 10 [some (.inr (11, t)), some (.inl x1), some (.inl x2), some (.inl x3), some (.inl x4)] [] σ := by
  unfold fb2_Ar_fill4_10 at h
  obtain ⟨⟨h1, h2⟩, h⟩ := kg_some h
  refine s2_Ar_fill4_10 h1 h2 (fun c => ?_) (fun c => ?_)
  · rw [if_pos c] at h
    exact e2_Ar_fill4_27  h
  · rw [if_neg c] at h
    exact e2_Ar_fill4_16 hk10 h
def fl2_Ar_fill4_10  : Nat → Int → Int → Int → Int → Nat → kS → kRes
  | 0, _, _, _, _, _, _ => none
  | n + 1, x1, x2, x3, x4, t, σ => fb2_Ar_fill4_10 (fl2_Ar_fill4_10  n) x1 x2 x3 x4 t σ
theorem el2_Ar_fill4_10 {l : Launch} {G : kG} {σf : kS}  : ∀ (n : Nat) (x1 : Int) (x2 : Int) (x3 : Int) (x4 : Int) (t : Nat)  (σ : kS), fl2_Ar_fill4_10  n x1 x2 x3 x4 t σ = some (none, σf) → Rn l G dm_Ar_fill4 m_Ar_fill4 (kU fun σ' => σ' = σf) 10 [some (.inr (11, t)), some (.inl x1), some (.inl x2), some (.inl x3), some (.inl x4)] [] σ := by
  intro n
  induction n with
  | zero => intro x1 x2 x3 x4 t σ h; simp only [fl2_Ar_fill4_10] at h; cases h
  | succ n ih => intro x1 x2 x3 x4 t σ h; simp only [fl2_Ar_fill4_10] at h; exact e2_Ar_fill4_10 ih h
def fb2_Ar_fill4_7  (x1 : Int) (x2 : Int) (x3 : Int) (t : Nat) (σ : kS) : kRes := fl2_Ar_fill4_10  3000 x1 x2 x3 x1 t σ
theorem e2_Ar_fill4_7 {l : Launch} {G : kG} {σf : kS}  {x1 : Int} {x2 : Int} {x3 : Int} {t : Nat} {o4 : Option kV} {σ : kS} (h : fb2_Ar_fill4_7  x1 x2 x3 t σ = some (none, σf)) : Rn l G dm_Ar_fill4 m_Ar_fill4 (kU fun σ' => σ' = σf) 7 [some (.inr (11, t)), some (.inl x1), some (.inl x2), some (.inl x3), o4] [] σ := by
  unfold fb2_Ar_fill4_7 at h
  refine s2_Ar_fill4_7  ?_
  exact el2_Ar_fill4_10  _ _ _ _ _ _ _ h
def fb2_Ar_fill4_0  (x1 : Int) (x2 : Int) (x3 : Int) (t : Nat) (σ : kS) : kRes := kbu (f_Ar_rangeCheck 10 x1 x2 σ) fun σ1 => fb2_Ar_fill4_7  x1 x2 x3 t σ1
theorem e2_Ar_fill4_0 {l : Launch} {G : kG} {σf : kS}  {x1 : Int} {x2 : Int} {x3 : Int} {t : Nat} {o4 : Option kV} {σ : kS} (h : fb2_Ar_fill4_0  x1 x2 x3 t σ = some (none, σf)) : Rn l G dm_Ar_fill4 m_Ar_fill4 (kU fun σ' => σ' = σf) 0 [some (.inr (11, t)), some (.inl x1), some (.inl x2), some (.inl x3), o4] [] σ := by
  unfold fb2_Ar_fill4_0 at h
  obtain ⟨σ1, hc, h⟩ := kbu_some h
  refine s2_Ar_fill4_0  (by decide) (E_Ar_rangeCheck hc) (fun σ2 e2 => ?_)
  subst e2
  exact e2_Ar_fill4_7  h
def f2_Ar_fill4 (x1 : Int) (x2 : Int) (x3 : Int) (t : Nat) (σ : kS) : kRes := fb2_Ar_fill4_0 x1 x2 x3 t σ
theorem E2_Ar_fill4 {l : Launch} {G : kG} {σf : kS} {x1 : Int} {x2 : Int} {x3 : Int} {t : Nat} {σ : kS} (h : f2_Ar_fill4 x1 x2 x3 t σ = some (none, σf)) : Call l G dm_Ar_fill4 y_Ar_fill4 m_Ar_fill4 [.inr (11, t), .inl x1, .inl x2, .inl x3] σ (kU fun σ' => σ' = σf) := by
  unfold f2_Ar_fill4 at h
  exact Call.of (by decide +kernel) rfl (Nat.le_of_ble_eq_true rfl) (e2_Ar_fill4_0 h)
/-! Cl_append -/
def fb_Cl_append_47  (x2 : Int) (x3 : Int) (x4 : Int) (σ : kS) : kRes := some (none, σ)
theorem e_Cl_append_47 {l : Launch} {G : kG} {σf : kS}  {x2 : Int} {x3 : Int} {x4 : Int}  {σ : kS} (h : fb_Cl_append_47  x2 x3 x4 σ = some (none, σf)) : Rn l G dm_Cl_append m_Cl_append (kU fun σ' => σ' = σf) 47 [some (.inr (7, 0)), some (.inr (10, 0)), some (.inl x2), some (.inl x3), some (.inl x4)] [] σ := by
  unfold fb_Cl_append_47 at h
  simp only [Option.some.injEq, Prod.mk.injEq, true_and] at h
  exact s_Cl_append_47  ⟨rfl, h⟩
def fb_Cl_append_31 (k3 : Int → Int → Int → kS → kRes) (x2 : Int) (x3 : Int) (x4 : Int) (σ : kS) : kRes := k3 x2 x3 (x4 + 1) (kup σ 7 0 6 ((σ 7 0 6) + 1))
theorem e_Cl_append_31 {l : Launch} {G : kG} {σf : kS} {k3 : Int → Int → Int → kS → kRes} (hk3 : ∀ (x2 : Int) (x3 : Int) (x4 : Int)  (σ : kS), k3 x2 x3 x4 σ = some (none, σf) → Rn l G dm_Cl_append m_Cl_append (kU fun σ' => σ' = σf) 3 [some (.inr (7, 0)), some (.inr (10, 0)), some (.inl x2), some (.inl x3), some (.inl x4)] [] σ) {x2 : Int} {x3 : Int} {x4 : Int}  {σ : kS} (h : fb_Cl_append_31 k3 x2 x3 x4 σ = some (none, σf)) : Rn l G dm_Cl_append m_Cl_append (kU fun σ' => σ' = σf) 31 [some (.inr (7, 0)), some (.inr (10, 0)), some (.inl x2), some (.inl x3), some (.inl x4)] [] σ := by
  unfold fb_Cl_append_31 at h
  refine s_Cl_append_31  ?_
  exact hk3 _ _ _ _ h
def fb_Cl_append_18 (k3 : Int → Int → Int → kS → kRes) (x2 : Int) (x3 : Int) (x4 : Int) (σ : kS) : kRes := kg ((0 ≤ x4 ∧ x4 < (200 : Nat)) ∧ (0 ≤ σ 7 0 6 ∧ σ 7 0 6 < (20 : Nat))) (fb_Cl_append_31 k3 x2 x3 x4 (kup σ 18 0 (Int.toNat (σ 7 0 6)) (σ 10 0 (Int.toNat x4))))
theorem e_Cl_append_18 {l : Launch} {G : kG} {σf : kS} {k3 : Int → Int → Int → kS → kRes} (hk3 : ∀ (x2 : Int) (x3 : Int) (x4 : Int)  (σ : kS), k3 x2 x3 x4 σ = some (none, σf) → Rn l G dm_Cl_append m_Cl_append (kU fun σ' => σ' = σf) 3 [some (.inr (7, 0)), some (.inr (10, 0)), some (.inl x2), some (.inl x3), some (.inl x4)] [] σ) {x2 : Int} {x3 : Int} {x4 : Int}  {σ : kS} (h : fb_Cl_append_18 k3 x2 x3 x4 σ = some (none, σf)) : Rn l G dm_Cl_append m_Cl_append (kU fun σ' => σ' = σf) 18 [some (.inr (7, 0)), some (.inr (10, 0)), some (.inl x2), some (.inl x3), some (.inl x4)] [] σ := by
  unfold fb_Cl_append_18 at h
  obtain ⟨⟨h1, h2⟩, h⟩ := kg_some h
  refine s_Cl_append_18 h1 h2 ?_
  exact e_Cl_append_31 hk3 h
def fb_Cl_append_9 (k3 : Int → Int → Int → kS → kRes) (x2 : Int) (x3 : Int) (x4 : Int) (σ : kS) : kRes := kg ((-2147483648 ≤ σ 7 0 6 ∧ σ 7 0 6 < 2147483648)) (if 20 ≤ (σ 7 0 6) then fb_Cl_append_31 k3 x2 x3 x4 σ else fb_Cl_append_18 k3 x2 x3 x4 σ)
theorem e_Cl_append_9 {l : Launch} {G : kG} {σf : kS} {k3 : Int → Int → Int → kS → kRes} (hk3 : ∀ (x2 : Int) (x3 : Int) (x4 : Int)  (σ : kS), k3 x2 x3 x4 σ = some (none, σf) → Rn l G dm_Cl_append m_Cl_append (kU fun σ' => σ' = σf) 3 [some (.inr (7, 0)), some (.inr (10, 0)), some (.inl x2), some (.inl x3), some (.inl x4)] [] σ) {x2 : Int} {x3 : Int} {x4 : Int}  {σ : kS} (h : fb_Cl_append_9 k3 x2 x3 x4 σ = some (none, σf)) : Rn l G dm_Cl_append m_Cl_append (kU fun σ' => σ' = σf) 9 [some (.inr (7, 0)), some (.inr (10, 0)), some (.inl x2), some (.inl x3), some (.inl x4)] [] σ := by
  unfold fb_Cl_append_9 at h
  obtain ⟨h1, h⟩ := kg_some h
  refine s_Cl_append_9 h1 (fun c => ?_) (fun c => ?_)
  · rw [if_pos c] at h
    exact e_Cl_append_31 hk3 h
  · rw [if_neg c] at h
    exact e_Cl_append_18 hk3 h
def fb_Cl_append_3 (k3 : Int → Int → Int → kS → kRes) (x2 : Int) (x3 : Int) (x4 : Int) (σ : kS) : kRes := kg ((-2147483648 ≤ x4 ∧ x4 < 2147483648) ∧ (-2147483648 ≤ x3 ∧ x3 < 2147483648)) (if x3 ≤ x4 then fb_Cl_append_47  x2 x3 x4 σ else fb_Cl_append_9 k3 x2 x3 x4 σ)
theorem e_Cl_append_3 {l : Launch} {G : kG} {σf : kS} {k3 : Int → Int → Int → kS → kRes} (hk3 : ∀ (x2 : Int) (x3 : Int) (x4 : Int)  (σ : kS), k3 x2 x3 x4 σ = some (none, σf) → Rn l G dm_Cl_append m_Cl_append (kU fun σ' => σ' = σf) 3 [some (.inr (7, 0)), some (.inr (10, 0)), some (.inl x2), some (.inl x3), some (.inl x4)] [] σ) {x2 : Int} {x3 : Int} {x4 : Int}  {σ : kS} (h : fb_Cl_append_3 k3 x2 x3 x4 σ = some (none, σf)) : Rn l G dm_Cl_append m_Cl_append (kU fun σ' => σ' = σf) 3 [some (.inr (7, 0)), some (.inr (10, 0)), some (.inl x2), some (.inl x3), some (.inl x4)] [] σ := by
  unfold fb_Cl_append_3 at h
  obtain ⟨⟨h1, h2⟩, h⟩ := kg_some h
  refine s_Cl_append_3 h1 h2 (fun c => ?_) (fun c => ?_)
  · rw [if_pos c] at h
    exact e_Cl_append_47  h
  · rw [if_neg c] at h
    exact e_Cl_append_9 hk3 h
def fl_Cl_append_3  : Nat → Int → Int → Int → kS → kRes
  | 0, _, _, _, _ => none
  | n + 1, x2, x3, x4, σ => fb_Cl_append_3 (fl_Cl_append_3  n) x2 x3 x4 σ
theorem el_Cl_append_3 {l : Launch} {G : kG} {σf : kS}  : ∀ (n : Nat) (x2 : Int) (x3 : Int) (x4 : Int)  (σ : kS), fl_Cl_append_3  n x2 x3 x4 σ = some (none, σf) → Rn l G dm_Cl_append m_Cl_append (kU fun σ' => σ' = σf) 3 [some (.inr (7, 0)), some (.inr (10, 0)), some (.inl x2), some (.inl x3), some (.inl x4)] [] σ := by
  intro n
  induction n with
  | zero => intro x2 x3 x4 σ h; simp only [fl_Cl_append_3] at h; cases h
  | succ n ih => intro x2 x3 x4 σ h; simp only [fl_Cl_append_3] at h; exact e_Cl_append_3 ih h
def fb_Cl_append_0  (x2 : Int) (x3 : Int) (σ : kS) : kRes := fl_Cl_append_3  3000 x2 x3 x2 σ
theorem e_Cl_append_0 {l : Launch} {G : kG} {σf : kS}  {x2 : Int} {x3 : Int} {o4 : Option kV} {σ : kS} (h : fb_Cl_append_0  x2 x3 σ = some (none, σf)) : Rn l G dm_Cl_append m_Cl_append (kU fun σ' => σ' = σf) 0 [some (.inr (7, 0)), some (.inr (10, 0)), some (.inl x2), some (.inl x3), o4] [] σ := by
  unfold fb_Cl_append_0 at h
  refine s_Cl_append_0  ?_
  exact el_Cl_append_3  _ _ _ _ _ h
def f_Cl_append (x2 : Int) (x3 : Int) (σ : kS) : kRes := fb_Cl_append_0 x2 x3 σ
theorem E_Cl_append {l : Launch} {G : kG} {σf : kS} {x2 : Int} {x3 : Int} {σ : kS} (h : f_Cl_append x2 x3 σ = some (none, σf)) : Call l G dm_Cl_append y_Cl_append m_Cl_append [.inr (7, 0), .inr (10, 0), .inl x2, .inl x3] σ (kU fun σ' => σ' = σf) := by
  unfold f_Cl_append at h
  exact Call.of (by decide +kernel) rfl (Nat.le_of_ble_eq_true rfl) (e_Cl_append_0 h)
/-! Cl_append -/
def fb2_Cl_append_47  (x2 : Int) (x3 : Int) (x4 : Int) (σ : kS) : kRes := some (none, σ)
theorem e2_Cl_append_47 {l : Launch} {G : kG} {σf : kS}  {x2 : Int} {x3 : Int} {x4 : Int}  {σ : kS} (h : fb2_Cl_append_47  x2 x3 x4 σ = some (none, σf)) : Rn l G dm_Cl_append m_Cl_append (kU fun σ' => σ' = σf) 47 [some (.inr (7, 0)), some (.inr (16, 2)), some (.inl x2), some (.inl x3), some (.inl x4)] [] σ := by
  unfold fb2_Cl_append_47 at h
  simp only [Option.some.injEq, Prod.mk.injEq, true_and] at h
  exact s2_Cl_append_47  ⟨rfl, h⟩
def fb2_Cl_append_31 (k3 : Int → Int → Int → kS → kRes) (x2 : Int) (x3 : Int) (x4 : Int) (σ : kS) : kRes := k3 x2 x3 (x4 + 1) (kup σ 7 0 6 ((σ 7 0 6) + 1))
theorem e2_Cl_append_31 {l : Launch} {G : kG} {σf : kS} {k3 : Int → Int → Int → kS → kRes} (hk3 : ∀ (x2 : Int) (x3 : Int) (x4 : Int)  (σ : kS), k3 x2 x3 x4 σ = some (none, σf) → Rn l G dm_Cl_append m_Cl_append (kU fun σ' => σ' = σf) 3 [some (.inr (7, 0)), some (.inr (16, 2)), some (.inl x2), some (.inl x3), some (.inl x4)] [] σ) {x2 : Int} {x3 : Int} {x4 : Int}  {σ : kS} (h : fb2_Cl_append_31 k3 x2 x3 x4 σ = some (none, σf)) : Rn l G dm_Cl_append m_Cl_append (kU fun σ' => σ' = σf) 31 [some (.inr (7, 0)), some (.inr (16, 2)), some (.inl x2), some (.inl x3), some (.inl x4)] [] σ := by
  unfold fb2_Cl_append_31 at h
  refine s2_Cl_append_31  ?_
  exact hk3 _ _ _ _ h
def fb2_Cl_append_18 (k3 : Int → Int → Int → kS → kRes) (x2 : Int) (x3 : Int) (x4 : Int) (σ : kS) : kRes := kg ((0 ≤ x4 ∧ x4 < (30 : Nat)) ∧ (0 ≤ σ 7 0 6 ∧ σ 7 0 6 < (20 : Nat))) (fb2_Cl_append_31 k3 x2 x3 x4 (kup σ 18 0 (Int.toNat (σ 7 0 6)) (σ 16 2 (Int.toNat x4))))
theorem e2_Cl_append_18 {l : Launch} {G : kG} {σf : kS} {k3 : Int → Int → Int → kS → kRes} (hk3 : ∀ (x2 : Int) (x3 : Int) (x4 : Int)  (σ : kS), k3 x2 x3 x4 σ = some (none, σf) → Rn l G dm_Cl_append m_Cl_append (kU fun σ' => σ' = σf) 3 [some (.inr (7, 0)), some (.inr (16, 2)), some (.inl x2), some (.inl x3), some (.inl x4)] [] σ) {x2 : Int} {x3 : Int} {x4 : Int}  {σ : kS} (h : fb2_Cl_append_18 k3 x2 x3 x4 σ = some (none, σf)) : Rn l G dm_Cl_append m_Cl_append (kU fun σ' => σ' = σf) 18 [some (.inr (7, 0)), some (.inr (16, 2)), some (.inl x2), some (.inl x3), some (.inl x4)] [] σ := by
  unfold fb2_Cl_append_18 at h
  obtain ⟨⟨h1, h2⟩, h⟩ := kg_some h
  refine s2_Cl_append_18 h1 h2 ?_
  exact e2_Cl_append_31 hk3 h
def fb2_Cl_append_9 (k3 : Int → Int → Int → kS → kRes) (x2 : Int) (x3 : Int) (x4 : Int) (σ : kS) : kRes := kg ((-2147483648 ≤ σ 7 0 6 ∧ σ 7 0 6 < 2147483648)) (if 20 ≤ (σ 7 0 6) then fb2_Cl_append_31 k3 x2 x3 x4 σ else fb2_Cl_append_18 k3 x2 x3 x4 σ)
theorem e2_Cl_append_9 {l : Launch} {G : kG} {σf : kS} {k3 : Int → Int → Int → kS → kRes} (hk3 : ∀ (x2 : Int) (x3 : Int) (x4 : Int)  (σ : kS), k3 x2 x3 x4 σ = some (none, σf) → Rn l G dm_Cl_append m_Cl_append (kU fun σ' => σ' = σf) 3 [some (.inr (7, 0)), some (.inr (16, 2)), some (.inl x2), some (.inl x3), some (.inl x4)] [] σ) {x2 : Int} {x3 : Int} {x4 : Int}  {σ : kS} (h : fb2_Cl_append_9 k3 x2 x3 x4 σ = some (none, σf)) : Rn l G dm_Cl_append m_Cl_append (kU fun σ' => σ' = σf) 9 [some (.inr (7, 0)), some (.inr (16, 2)), some (.inl x2), some (.inl x3), some (.inl x4)] [] σ := by
  unfold fb2_Cl_append_9 at h
  obtain ⟨h1, h⟩ := kg_some h
  refine s2_Cl_append_9 h1 (fun c => ?_) (fun c => ?_)
  · rw [if_pos c] at h
    exact e2_Cl_append_31 hk3 h
  · rw [if_neg c] at h
    exact e2_Cl_append_18 hk3 h
def fb2_Cl_append_3 (k3 : Int → Int → Int → kS → kRes) (x2 : Int) (x3 : Int) (x4 : Int) (σ : kS) : kRes := kg ((-2147483648 ≤ x4 ∧ x4 < 2147483648) ∧ (-2147483648 ≤ x3 ∧ x3 < 2147483648)) (if x3 ≤ x4 then fb2_Cl_append_47  x2 x3 x4 σ else fb2_Cl_append_9 k3 x2 x3 x4 σ)
theorem e2_Cl_append_3 {l : Launch} {G : kG} {σf : kS} {k3 : Int → Int → Int → kS → kRes} (hk3 : ∀ (x2 : Int) (x3 : Int) (x4 : Int)  (σ : kS), k3 x2 x3 x4 σ = some (none, σf) → Rn l G dm_Cl_append m_Cl_append (kU fun σ' => σ' = σf) 3 [some (.inr (7, 0)), some (.inr (16, 2)), some (.inl x2), some (.inl x3), some (.inl x4)] [] σ) {x2 : Int} {x3 : Int} {x4 : Int}  {σ : kS} (h : fb2_Cl_append_3 k3 x2 x3 x4 σ = some (none, σf)) : Rn l G dm_Cl_append m_Cl_append (kU fun σ' => σ' = σf) 3 [some (.inr (7, 0)), some (.inr (16, 2)), some (.inl x2), some (.inl x3), some (.inl x4)] [] σ := by
  unfold fb2_Cl_append_3 at h
  obtain ⟨⟨h1, h2⟩, h⟩ := kg_some h
  refine s2_Cl_append_3 h1 h2 (fun c => ?_) (fun c => ?_)
  · rw [if_pos c] at h
    exact e2_Cl_append_47  h
  · rw [if_neg c] at h
    exact e2_Cl_append_9 hk3 h
def fl2_Cl_append_3  : Nat → Int → Int → Int → kS → kRes
  | 0, _, _, _, _ => none
  | n + 1, x2, x3, x4, σ => fb2_Cl_append_3 (fl2_Cl_append_3  n) x2 x3 x4 σ
theorem el2_Cl_append_3 {l : Launch} {G : kG} {σf : kS}  : ∀ (n : Nat) (x2 : Int) (x3 : Int) (x4 : Int)  (σ : kS), fl2_Cl_append_3  n x2 x3 x4 σ = some (none, σf) → Rn l G dm_Cl_append m_Cl_append (kU fun σ' => σ' = σf) 3 [some (.inr (7, 0)), some (.inr (16, 2)), some (.inl x2), some (.inl x3), some (.inl x4)] [] σ := by
  intro n
  induction n with
  | zero => intro x2 x3 x4 σ h; simp only [fl2_Cl_append_3] at h; cases h
  | succ n ih => intro x2 x3 x4 σ h; simp only [fl2_Cl_append_3] at h; exact e2_Cl_append_3 ih h
def fb2_Cl_append_0  (x2 : Int) (x3 : Int) (σ : kS) : kRes := fl2_Cl_append_3  3000 x2 x3 x2 σ
theorem e2_Cl_append_0 {l : Launch} {G : kG} {σf : kS}  {x2 : Int} {x3 : Int} {o4 : Option kV} {σ : kS} (h : fb2_Cl_append_0  x2 x3 σ = some (none, σf)) : Rn l G dm_Cl_append m_Cl_append (kU fun σ' => σ' = σf) 0 [some (.inr (7, 0)), some (.inr (16, 2)), some (.inl x2), some (.inl x3), o4] [] σ := by
  unfold fb2_Cl_append_0 at h
  refine s2_Cl_append_0  ?_
  exact el2_Cl_append_3  _ _ _ _ _ h
def f2_Cl_append (x2 : Int) (x3 : Int) (σ : kS) : kRes := fb2_Cl_append_0 x2 x3 σ
theorem E2_Cl_append {l : Launch} {G : kG} {σf : kS} {x2 : Int} {x3 : Int} {σ : kS} (h : f2_Cl_append x2 x3 σ = some (none, σf)) : Call l G dm_Cl_append y_Cl_append m_Cl_append [.inr (7, 0), .inr (16, 2), .inl x2, .inl x3] σ (kU fun σ' => σ' = σf) := by
  unfold f2_Cl_append at h
  exact Call.of (by decide +kernel) rfl (Nat.le_of_ble_eq_true rfl) (e2_Cl_append_0 h)
/-! Cl_appendNew -/
def fb_Cl_appendNew_82  (x1 : Int) (x2 : Int) (x3 : Int) (σ : kS) : kRes := some (none, σ)
theorem e_Cl_appendNew_82 {l : Launch} {G : kG} {σf : kS}  {x1 : Int} {x2 : Int} {x3 : Int}  {σ : kS} (h : fb_Cl_appendNew_82  x1 x2 x3 σ = some (none, σf)) : Rn l G dm_Cl_appendNew m_Cl_appendNew (kU fun σ' => σ' = σf) 82 [some (.inr (7, 0)), some (.inl x1), some (.inl x2), some (.inl x3)] [] σ := by
  unfold fb_Cl_appendNew_82 at h
  simp only [Option.some.injEq, Prod.mk.injEq, true_and] at h
  exact s_Cl_appendNew_82  ⟨rfl, h⟩
def fb_Cl_appendNew_76 (k5 : Int → Int → Int → kS → kRes) (x1 : Int) (x2 : Int) (x3 : Int) (σ : kS) : kRes := k5 x1 x2 (x3 + 1) σ
theorem e_Cl_appendNew_76 {l : Launch} {G : kG} {σf : kS} {k5 : Int → Int → Int → kS → kRes} (hk5 : ∀ (x1 : Int) (x2 : Int) (x3 : Int)  (σ : kS), k5 x1 x2 x3 σ = some (none, σf) → Rn l G dm_Cl_appendNew m_Cl_appendNew (kU fun σ' => σ' = σf) 5 [some (.inr (7, 0)), some (.inl x1), some (.inl x2), some (.inl x3)] [] σ) {x1 : Int} {x2 : Int} {x3 : Int}  {σ : kS} (h : fb_Cl_appendNew_76 k5 x1 x2 x3 σ = some (none, σf)) : Rn l G dm_Cl_appendNew m_Cl_appendNew (kU fun σ' => σ' = σf) 76 [some (.inr (7, 0)), some (.inl x1), some (.inl x2), some (.inl x3)] [] σ := by
  unfold fb_Cl_appendNew_76 at h
  refine s_Cl_appendNew_76  ?_
  exact hk5 _ _ _ _ h
def fb_Cl_appendNew_64 (k5 : Int → Int → Int → kS → kRes) (x1 : Int) (x2 : Int) (x3 : Int) (σ : kS) : kRes := kg (σ 7 0 7 = 1) (kbu (f2_Cl_append x3 (x3 + 1) σ) fun σ1 => fb_Cl_appendNew_76 k5 x1 x2 x3 σ1)
theorem e_Cl_appendNew_64 {l : Launch} {G : kG} {σf : kS} {k5 : Int → Int → Int → kS → kRes} (hk5 : ∀ (x1 : Int) (x2 : Int) (x3 : Int)  (σ : kS), k5 x1 x2 x3 σ = some (none, σf) → Rn l G dm_Cl_appendNew m_Cl_appendNew (kU fun σ' => σ' = σf) 5 [some (.inr (7, 0)), some (.inl x1), some (.inl x2), some (.inl x3)] [] σ) {x1 : Int} {x2 : Int} {x3 : Int}  {σ : kS} (h : fb_Cl_appendNew_64 k5 x1 x2 x3 σ = some (none, σf)) : Rn l G dm_Cl_appendNew m_Cl_appendNew (kU fun σ' => σ' = σf) 64 [some (.inr (7, 0)), some (.inl x1), some (.inl x2), some (.inl x3)] [] σ := by
  unfold fb_Cl_appendNew_64 at h
  obtain ⟨h1, h⟩ := kg_some h
  obtain ⟨σ1, hc, h⟩ := kbu_some h
  refine s_Cl_appendNew_64 h1 (by decide) (E2_Cl_append hc) (fun σ2 e2 => ?_)
  subst e2
  exact e_Cl_appendNew_76 hk5 h
def fb_Cl_appendNew_61 (k5 : Int → Int → Int → kS → kRes) (x1 : Int) (x2 : Int) (x3 : Int) (σ : kS) : kRes := fb_Cl_appendNew_64 k5 x1 x2 (x3 + 1) σ
theorem e_Cl_appendNew_61 {l : Launch} {G : kG} {σf : kS} {k5 : Int → Int → Int → kS → kRes} (hk5 : ∀ (x1 : Int) (x2 : Int) (x3 : Int)  (σ : kS), k5 x1 x2 x3 σ = some (none, σf) → Rn l G dm_Cl_appendNew m_Cl_appendNew (kU fun σ' => σ' = σf) 5 [some (.inr (7, 0)), some (.inl x1), some (.inl x2), some (.inl x3)] [] σ) {x1 : Int} {x2 : Int} {x3 : Int}  {σ : kS} (h : fb_Cl_appendNew_61 k5 x1 x2 x3 σ = some (none, σf)) : Rn l G dm_Cl_appendNew m_Cl_appendNew (kU fun σ' => σ' = σf) 61 [some (.inr (7, 0)), some (.inl x1), some (.inl x2), some (.inl x3)] [] σ := by
  unfold fb_Cl_appendNew_61 at h
  refine s_Cl_appendNew_61  ?_
  exact e_Cl_appendNew_64 hk5 h
def fb_Cl_appendNew_51 (k5 : Int → Int → Int → kS → kRes) (x1 : Int) (x2 : Int) (x3 : Int) (σ : kS) : kRes := kg ((-2147483648 ≤ x3 + 1 ∧ x3 + 1 < 2147483648) ∧ (-2147483648 ≤ σ 7 0 17 ∧ σ 7 0 17 < 2147483648)) (if (σ 7 0 17) ≤ (x3 + 1) then fb_Cl_appendNew_64 k5 x1 x2 x3 σ else fb_Cl_appendNew_61 k5 x1 x2 x3 σ)
theorem e_Cl_appendNew_51 {l : Launch} {G : kG} {σf : kS} {k5 : Int → Int → Int → kS → kRes} (hk5 : ∀ (x1 : Int) (x2 : Int) (x3 : Int)  (σ : kS), k5 x1 x2 x3 σ = some (none, σf) → Rn l G dm_Cl_appendNew m_Cl_appendNew (kU fun σ' => σ' = σf) 5 [some (.inr (7, 0)), some (.inl x1), some (.inl x2), some (.inl x3)] [] σ) {x1 : Int} {x2 : Int} {x3 : Int}  {σ : kS} (h : fb_Cl_appendNew_51 k5 x1 x2 x3 σ = some (none, σf)) : Rn l G dm_Cl_appendNew m_Cl_appendNew (kU fun σ' => σ' = σf) 51 [some (.inr (7, 0)), some (.inl x1), some (.inl x2), some (.inl x3)] [] σ := by
  unfold fb_Cl_appendNew_51 at h
  obtain ⟨⟨h1, h2⟩, h⟩ := kg_some h
  refine s_Cl_appendNew_51 h1 h2 (fun c => ?_) (fun c => ?_)
  · rw [if_pos c] at h
    exact e_Cl_appendNew_64 hk5 h
  · rw [if_neg c] at h
    exact e_Cl_appendNew_61 hk5 h
def fb_Cl_appendNew_40 (k5 : Int → Int → Int → kS → kRes) (x1 : Int) (x2 : Int) (x3 : Int) (σ : kS) : kRes := kg (σ 7 0 7 = 1 ∧ (0 ≤ x3 ∧ x3 < (30 : Nat)) ∧ (-2147483648 ≤ σ 16 2 (Int.toNat x3) ∧ σ 16 2 (Int.toNat x3) < 2147483648)) (if (σ 16 2 (Int.toNat x3)) = 92 then fb_Cl_appendNew_51 k5 x1 x2 x3 σ else fb_Cl_appendNew_64 k5 x1 x2 x3 σ)
theorem e_Cl_appendNew_40 {l : Launch} {G : kG} {σf : kS} {k5 : Int → Int → Int → kS → kRes} (hk5 : ∀ (x1 : Int) (x2 : Int) (x3 : Int)  (σ : kS), k5 x1 x2 x3 σ = some (none, σf) → Rn l G dm_Cl_appendNew m_Cl_appendNew (kU fun σ' => σ' = σf) 5 [some (.inr (7, 0)), some (.inl x1), some (.inl x2), some (.inl x3)] [] σ) {x1 : Int} {x2 : Int} {x3 : Int}  {σ : kS} (h : fb_Cl_appendNew_40 k5 x1 x2 x3 σ = some (none, σf)) : Rn l G dm_Cl_appendNew m_Cl_appendNew (kU fun σ' => σ' = σf) 40 [some (.inr (7, 0)), some (.inl x1), some (.inl x2), some (.inl x3)] [] σ := by
  unfold fb_Cl_appendNew_40 at h
  obtain ⟨⟨h1, h2, h3⟩, h⟩ := kg_some h
  refine s_Cl_appendNew_40 h1 h2 h3 (fun c => ?_) (fun c => ?_)
  · rw [if_neg c] at h
    exact e_Cl_appendNew_64 hk5 h
  · rw [if_pos c] at h
    exact e_Cl_appendNew_51 hk5 h
def fb_Cl_appendNew_37 (k5 : Int → Int → Int → kS → kRes) (x1 : Int) (x2 : Int) (x3 : Int) (σ : kS) : kRes := fb_Cl_appendNew_76 k5 x1 x2 x3 σ
theorem e_Cl_appendNew_37 {l : Launch} {G : kG} {σf : kS} {k5 : Int → Int → Int → kS → kRes} (hk5 : ∀ (x1 : Int) (x2 : Int) (x3 : Int)  (σ : kS), k5 x1 x2 x3 σ = some (none, σf) → Rn l G dm_Cl_appendNew m_Cl_appendNew (kU fun σ' => σ' = σf) 5 [some (.inr (7, 0)), some (.inl x1), some (.inl x2), some (.inl x3)] [] σ) {x1 : Int} {x2 : Int} {x3 : Int}  {σ : kS} (h : fb_Cl_appendNew_37 k5 x1 x2 x3 σ = some (none, σf)) : Rn l G dm_Cl_appendNew m_Cl_appendNew (kU fun σ' => σ' = σf) 37 [some (.inr (7, 0)), some (.inl x1), some (.inl x2), some (.inl x3)] [] σ := by
  unfold fb_Cl_appendNew_37 at h
  refine s_Cl_appendNew_37  ?_
  exact e_Cl_appendNew_76 hk5 h
def fb_Cl_appendNew_24 (k5 : Int → Int → Int → kS → kRes) (x1 : Int) (x2 : Int) (x3 : Int) (σ : kS) : kRes := kbu (f_Cl_append x1 x2 σ) fun σ1 => fb_Cl_appendNew_37 k5 x1 x2 x3 σ1
theorem e_Cl_appendNew_24 {l : Launch} {G : kG} {σf : kS} {k5 : Int → Int → Int → kS → kRes} (hk5 : ∀ (x1 : Int) (x2 : Int) (x3 : Int)  (σ : kS), k5 x1 x2 x3 σ = some (none, σf) → Rn l G dm_Cl_appendNew m_Cl_appendNew (kU fun σ' => σ' = σf) 5 [some (.inr (7, 0)), some (.inl x1), some (.inl x2), some (.inl x3)] [] σ) {x1 : Int} {x2 : Int} {x3 : Int}  {σ : kS} (h : fb_Cl_appendNew_24 k5 x1 x2 x3 σ = some (none, σf)) : Rn l G dm_Cl_appendNew m_Cl_appendNew (kU fun σ' => σ' = σf) 24 [some (.inr (7, 0)), some (.inl x1), some (.inl x2), some (.inl x3)] [] σ := by
  unfold fb_Cl_appendNew_24 at h
  obtain ⟨σ1, hc, h⟩ := kbu_some h
  refine s_Cl_appendNew_24  (by decide) (E_Cl_append hc) (fun σ2 e2 => ?_)
  subst e2
  exact e_Cl_appendNew_37 hk5 h
def fb_Cl_appendNew_13 (k5 : Int → Int → Int → kS → kRes) (x1 : Int) (x2 : Int) (x3 : Int) (σ : kS) : kRes := kg (σ 7 0 7 = 1 ∧ (0 ≤ x3 ∧ x3 < (30 : Nat)) ∧ (-2147483648 ≤ σ 16 2 (Int.toNat x3) ∧ σ 16 2 (Int.toNat x3) < 2147483648)) (if (σ 16 2 (Int.toNat x3)) = 38 then fb_Cl_appendNew_24 k5 x1 x2 x3 σ else fb_Cl_appendNew_40 k5 x1 x2 x3 σ)
theorem e_Cl_appendNew_13 {l : Launch} {G : kG} {σf : kS} {k5 : Int → Int → Int → kS → kRes} (hk5 : ∀ (x1 : Int) (x2 : Int) (x3 : Int)  (σ : kS), k5 x1 x2 x3 σ = some (none, σf) → Rn l G dm_Cl_appendNew m_Cl_appendNew (kU fun σ' => σ' = σf) 5 [some (.inr (7, 0)), some (.inl x1), some (.inl x2), some (.inl x3)] [] σ) {x1 : Int} {x2 : Int} {x3 : Int}  {σ : kS} (h : fb_Cl_appendNew_13 k5 x1 x2 x3 σ = some (none, σf)) : Rn l G dm_Cl_appendNew m_Cl_appendNew (kU fun σ' => σ' = σf) 13 [some (.inr (7, 0)), some (.inl x1), some (.inl x2), some (.inl x3)] [] σ := by
  unfold fb_Cl_appendNew_13 at h
  obtain ⟨⟨h1, h2, h3⟩, h⟩ := kg_some h
  refine s_Cl_appendNew_13 h1 h2 h3 (fun c => ?_) (fun c => ?_)
  · rw [if_neg c] at h
    exact e_Cl_appendNew_40 hk5 h
  · rw [if_pos c] at h
    exact e_Cl_appendNew_24 hk5 h
def fb_Cl_appendNew_5 (k5 : Int → Int → Int → kS → kRes) (x1 : Int) (x2 : Int) (x3 : Int) (σ : kS) : kRes := kg ((-2147483648 ≤ x3 ∧ x3 < 2147483648) ∧ (-2147483648 ≤ σ 7 0 17 ∧ σ 7 0 17 < 2147483648)) (if (σ 7 0 17) ≤ x3 then fb_Cl_appendNew_82  x1 x2 x3 σ else fb_Cl_appendNew_13 k5 x1 x2 x3 σ)
theorem e_Cl_appendNew_5 {l : Launch} {G : kG} {σf : kS} {k5 : Int → Int → Int → kS → kRes} (hk5 : ∀ (x1 : Int) (x2 : Int) (x3 : Int)  (σ : kS), k5 x1 x2 x3 σ = some (none, σf) → Rn l G dm_Cl_appendNew m_Cl_appendNew (kU fun σ' => σ' = σf) 5 [some (.inr (7, 0)), some (.inl x1), some (.inl x2), some (.inl x3)] [] σ) {x1 : Int} {x2 : Int} {x3 : Int}  {σ : kS} (h : fb_Cl_appendNew_5 k5 x1 x2 x3 σ = some (none, σf)) : Rn l G dm_Cl_appendNew m_Cl_appendNew (kU fun σ' => σ' = σf) 5 [some (.inr (7, 0)), some (.inl x1), some (.inl x2), some (.inl x3)] [] σ := by
  unfold fb_Cl_appendNew_5 at h
  obtain ⟨⟨h1, h2⟩, h⟩ := kg_some h
  refine s_Cl_appendNew_5 h1 h2 (fun c => ?_) (fun c => ?_)
  · rw [if_pos c] at h
    exact e_Cl_appendNew_82  h
  · rw [if_neg c] at h
    exact e_Cl_appendNew_13 hk5 h
def fl_Cl_appendNew_5  : Nat → Int → Int → Int → kS → kRes
  | 0, _, _, _, _ => none
  | n + 1, x1, x2, x3, σ => fb_Cl_appendNew_5 (fl_Cl_appendNew_5  n) x1 x2 x3 σ
theorem el_Cl_appendNew_5 {l : Launch} {G : kG} {σf : kS}  : ∀ (n : Nat) (x1 : Int) (x2 : Int) (x3 : Int)  (σ : kS), fl_Cl_appendNew_5  n x1 x2 x3 σ = some (none, σf) → Rn l G dm_Cl_appendNew m_Cl_appendNew (kU fun σ' => σ' = σf) 5 [some (.inr (7, 0)), some (.inl x1), some (.inl x2), some (.inl x3)] [] σ := by
  intro n
  induction n with
  | zero => intro x1 x2 x3 σ h; simp only [fl_Cl_appendNew_5] at h; cases h
  | succ n ih => intro x1 x2 x3 σ h; simp only [fl_Cl_appendNew_5] at h; exact e_Cl_appendNew_5 ih h
def fb_Cl_appendNew_0  (x1 : Int) (x2 : Int) (σ : kS) : kRes := fl_Cl_appendNew_5  3000 x1 x2 (σ 7 0 16) σ
theorem e_Cl_appendNew_0 {l : Launch} {G : kG} {σf : kS}  {x1 : Int} {x2 : Int} {o3 : Option kV} {σ : kS} (h : fb_Cl_appendNew_0  x1 x2 σ = some (none, σf)) : Rn l G dm_Cl_appendNew m_Cl_appendNew (kU fun σ' => σ' = σf) 0 [some (.inr (7, 0)), some (.inl x1), some (.inl x2), o3] [] σ := by
  unfold fb_Cl_appendNew_0 at h
  refine s_Cl_appendNew_0  ?_
  exact el_Cl_appendNew_5  _ _ _ _ _ h
def f_Cl_appendNew (x1 : Int) (x2 : Int) (σ : kS) : kRes := fb_Cl_appendNew_0 x1 x2 σ
theorem E_Cl_appendNew {l : Launch} {G : kG} {σf : kS} {x1 : Int} {x2 : Int} {σ : kS} (h : f_Cl_appendNew x1 x2 σ = some (none, σf)) : Call l G dm_Cl_appendNew y_Cl_appendNew m_Cl_appendNew [.inr (7, 0), .inl x1, .inl x2] σ (kU fun σ' => σ' = σf) := by
  unfold f_Cl_appendNew at h
  exact Call.of (by decide +kernel) rfl (Nat.le_of_ble_eq_true rfl) (e_Cl_appendNew_0 h)
/-! Cl_begin -/
def fb_Cl_begin_0   (σ : kS) : kRes := kg ((-2147483648 ≤ (kup σ 7 0 7 1) 6 2 1 ∧ (kup σ 7 0 7 1) 6 2 1 < 2147483648)) (some (none, kup (kup (kup σ 7 0 7 1) 7 0 8 (min ((kup σ 7 0 7 1) 6 2 1) 30)) 7 0 9 0))
theorem e_Cl_begin_0 {l : Launch} {G : kG} {σf : kS}    {σ : kS} (h : fb_Cl_begin_0   σ = some (none, σf)) : Rn l G dm_Cl_begin m_Cl_begin (kU fun σ' => σ' = σf) 0 [some (.inr (7, 0)), some (.inr (6, 2))] [] σ := by
  unfold fb_Cl_begin_0 at h
  obtain ⟨h1, h⟩ := kg_some h
  simp only [Option.some.injEq, Prod.mk.injEq, true_and] at h
  exact s_Cl_begin_0 h1 (by decide) ⟨rfl, h⟩
def f_Cl_begin  (σ : kS) : kRes := fb_Cl_begin_0  σ
theorem E_Cl_begin {l : Launch} {G : kG} {σf : kS}  {σ : kS} (h : f_Cl_begin  σ = some (none, σf)) : Call l G dm_Cl_begin y_Cl_begin m_Cl_begin [.inr (7, 0), .inr (6, 2)] σ (kU fun σ' => σ' = σf) := by
  unfold f_Cl_begin at h
  exact Call.of (by decide +kernel) rfl (Nat.le_of_ble_eq_true rfl) (e_Cl_begin_0 h)
/-! Pa_isOver -/
def fb_Pa_isOver_27  (x1 : Int) (x2 : Int) (s0 : Int) (t : Nat) (σ : kS) : kRes := kg ((s0 = 0 ∨ s0 = 1)) (some (some s0, σ))
theorem e_Pa_isOver_27 {l : Launch} {G : kG} {yf : Int} {σf : kS}  {x1 : Int} {x2 : Int} {s0 : Int} {t : Nat}  {σ : kS} (h : fb_Pa_isOver_27  x1 x2 s0 t σ = some (some yf, σf)) : Rn l G dm_Pa_isOver m_Pa_isOver (kI fun y' σ' => y' = yf ∧ σ' = σf) 27 [some (.inr (8, t)), some (.inl x1), some (.inl x2)] [.inl s0] σ := by
  unfold fb_Pa_isOver_27 at h
  obtain ⟨h1, h⟩ := kg_some h
  simp only [Option.some.injEq, Prod.mk.injEq, true_and] at h
  exact s_Pa_isOver_27 h1 ⟨_, rfl, h⟩
def fb_Pa_isOver_26  (x1 : Int) (x2 : Int) (t : Nat) (σ : kS) : kRes := fb_Pa_isOver_27  x1 x2 0 t σ
theorem e_Pa_isOver_26 {l : Launch} {G : kG} {yf : Int} {σf : kS}  {x1 : Int} {x2 : Int} {t : Nat}  {σ : kS} (h : fb_Pa_isOver_26  x1 x2 t σ = some (some yf, σf)) : Rn l G dm_Pa_isOver m_Pa_isOver (kI fun y' σ' => y' = yf ∧ σ' = σf) 26 [some (.inr (8, t)), some (.inl x1), some (.inl x2)] [] σ := by
  unfold fb_Pa_isOver_26 at h
  refine s_Pa_isOver_26  ?_
  exact e_Pa_isOver_27  h
def fb_Pa_isOver_22  (x1 : Int) (x2 : Int) (t : Nat) (σ : kS) : kRes := fb_Pa_isOver_27  x1 x2 1 t σ
theorem e_Pa_isOver_22 {l : Launch} {G : kG} {yf : Int} {σf : kS}  {x1 : Int} {x2 : Int} {t : Nat}  {σ : kS} (h : fb_Pa_isOver_22  x1 x2 t σ = some (some yf, σf)) : Rn l G dm_Pa_isOver m_Pa_isOver (kI fun y' σ' => y' = yf ∧ σ' = σf) 22 [some (.inr (8, t)), some (.inl x1), some (.inl x2)] [] σ := by
  unfold fb_Pa_isOver_22 at h
  refine s_Pa_isOver_22  ?_
  exact e_Pa_isOver_27  h
def fb_Pa_isOver_15  (x1 : Int) (x2 : Int) (t : Nat) (σ : kS) : kRes := kg ((-2147483648 ≤ σ 8 t 4 ∧ σ 8 t 4 < 2147483648)) (if (σ 8 t 4) = 0 then fb_Pa_isOver_22  x1 x2 t σ else fb_Pa_isOver_26  x1 x2 t σ)
theorem e_Pa_isOver_15 {l : Launch} {G : kG} {yf : Int} {σf : kS}  {x1 : Int} {x2 : Int} {t : Nat}  {σ : kS} (h : fb_Pa_isOver_15  x1 x2 t σ = some (some yf, σf)) : Rn l G dm_Pa_isOver m_Pa_isOver (kI fun y' σ' => y' = yf ∧ σ' = σf) 15 [some (.inr (8, t)), some (.inl x1), some (.inl x2)] [] σ := by
  unfold fb_Pa_isOver_15 at h
  obtain ⟨h1, h⟩ := kg_some h
  refine s_Pa_isOver_15 h1 (fun c => ?_) (fun c => ?_)
  · rw [if_neg c] at h
    exact e_Pa_isOver_26  h
  · rw [if_pos c] at h
    exact e_Pa_isOver_22  h
def fb_Pa_isOver_11  (x1 : Int) (x2 : Int) (t : Nat) (σ : kS) : kRes := kg ((-2147483648 ≤ x2 ∧ x2 < 2147483648)) (if x2 = 0 then fb_Pa_isOver_15  x1 x2 t σ else fb_Pa_isOver_22  x1 x2 t σ)
theorem e_Pa_isOver_11 {l : Launch} {G : kG} {yf : Int} {σf : kS}  {x1 : Int} {x2 : Int} {t : Nat}  {σ : kS} (h : fb_Pa_isOver_11  x1 x2 t σ = some (some yf, σf)) : Rn l G dm_Pa_isOver m_Pa_isOver (kI fun y' σ' => y' = yf ∧ σ' = σf) 11 [some (.inr (8, t)), some (.inl x1), some (.inl x2)] [] σ := by
  unfold fb_Pa_isOver_11 at h
  obtain ⟨h1, h⟩ := kg_some h
  refine s_Pa_isOver_11 h1 (fun c => ?_) (fun c => ?_)
  · rw [if_neg c] at h
    exact e_Pa_isOver_22  h
  · rw [if_pos c] at h
    exact e_Pa_isOver_15  h
def fb_Pa_isOver_0  (x1 : Int) (x2 : Int) (t : Nat) (σ : kS) : kRes := kg ((-2147483648 ≤ kand (kshr x1 (σ 8 t 2)) 1 ∧ kand (kshr x1 (σ 8 t 2)) 1 < 2147483648)) (if (kand (kshr x1 (σ 8 t 2)) 1) = 0 then fb_Pa_isOver_26  x1 x2 t σ else fb_Pa_isOver_11  x1 x2 t σ)
theorem e_Pa_isOver_0 {l : Launch} {G : kG} {yf : Int} {σf : kS}  {x1 : Int} {x2 : Int} {t : Nat}  {σ : kS} (h : fb_Pa_isOver_0  x1 x2 t σ = some (some yf, σf)) : Rn l G dm_Pa_isOver m_Pa_isOver (kI fun y' σ' => y' = yf ∧ σ' = σf) 0 [some (.inr (8, t)), some (.inl x1), some (.inl x2)] [] σ := by
  unfold fb_Pa_isOver_0 at h
  obtain ⟨h1, h⟩ := kg_some h
  refine s_Pa_isOver_0 h1 (fun c => ?_) (fun c => ?_)
  · rw [if_pos c] at h
    exact e_Pa_isOver_26  h
  · rw [if_neg c] at h
    exact e_Pa_isOver_11  h
def f_Pa_isOver (x1 : Int) (x2 : Int) (t : Nat) (σ : kS) : kRes := fb_Pa_isOver_0 x1 x2 t σ
theorem E_Pa_isOver {l : Launch} {G : kG} {yf : Int} {σf : kS} {x1 : Int} {x2 : Int} {t : Nat} {σ : kS} (h : f_Pa_isOver x1 x2 t σ = some (some yf, σf)) : Call l G dm_Pa_isOver y_Pa_isOver m_Pa_isOver [.inr (8, t), .inl x1, .inl x2] σ (kI fun y' σ' => y' = yf ∧ σ' = σf) := by
  unfold f_Pa_isOver at h
  exact Call.of (by decide +kernel) rfl (Nat.le_of_ble_eq_true rfl) (e_Pa_isOver_0 h)
/-! Pa_passStars -/
def fb_Pa_passStars_33  (x1 : Int) (x2 : Int) (x3 : Int) (t : Nat) (σ : kS) : kRes := some (some x2, σ)
theorem e_Pa_passStars_33 {l : Launch} {G : kG} {yf : Int} {σf : kS}  {x1 : Int} {x2 : Int} {x3 : Int} {t : Nat}  {σ : kS} (h : fb_Pa_passStars_33  x1 x2 x3 t σ = some (some yf, σf)) : Rn l G dm_Pa_passStars m_Pa_passStars (kI fun y' σ' => y' = yf ∧ σ' = σf) 33 [some (.inr (8, t)), some (.inl x1), some (.inl x2), some (.inl x3)] [] σ := by
  unfold fb_Pa_passStars_33 at h
  simp only [Option.some.injEq, Prod.mk.injEq, true_and] at h
  exact s_Pa_passStars_33  ⟨_, rfl, h⟩
def fb_Pa_passStars_12 (k4 : Int → Int → Int → Nat → kS → kRes) (x1 : Int) (x2 : Int) (x3 : Int) (t : Nat) (σ : kS) : kRes := k4 x1 (kor x2 (kshl (kand (kand x2 (σ 8 t 1)) (kshl 1 x3)) 1)) (x3 + 1) t σ
theorem e_Pa_passStars_12 {l : Launch} {G : kG} {yf : Int} {σf : kS} {k4 : Int → Int → Int → Nat → kS → kRes} (hk4 : ∀ (x1 : Int) (x2 : Int) (x3 : Int) (t : Nat)  (σ : kS), k4 x1 x2 x3 t σ = some (some yf, σf) → Rn l G dm_Pa_passStars m_Pa_passStars (kI fun y' σ' => y' = yf ∧ σ' = σf) 4 [some (.inr (8, t)), some (.inl x1), some (.inl x2), some (.inl x3)] [] σ) {x1 : Int} {x2 : Int} {x3 : Int} {t : Nat}  {σ : kS} (h : fb_Pa_passStars_12 k4 x1 x2 x3 t σ = some (some yf, σf)) : Rn l G dm_Pa_passStars m_Pa_passStars (kI fun y' σ' => y' = yf ∧ σ' = σf) 12 [some (.inr (8, t)), some (.inl x1), some (.inl x2), some (.inl x3)] [] σ := by
  unfold fb_Pa_passStars_12 at h
  refine s_Pa_passStars_12  ?_
  exact hk4 _ _ _ _ _ h
def fb_Pa_passStars_4 (k4 : Int → Int → Int → Nat → kS → kRes) (x1 : Int) (x2 : Int) (x3 : Int) (t : Nat) (σ : kS) : kRes := kg ((-2147483648 ≤ x3 ∧ x3 < 2147483648) ∧ (-2147483648 ≤ σ 8 t 2 ∧ σ 8 t 2 < 2147483648)) (if (σ 8 t 2) ≤ x3 then fb_Pa_passStars_33  x1 x2 x3 t σ else fb_Pa_passStars_12 k4 x1 x2 x3 t σ)
theorem e_Pa_passStars_4 {l : Launch} {G : kG} {yf : Int} {σf : kS} {k4 : Int → Int → Int → Nat → kS → kRes} (hk4 : ∀ (x1 : Int) (x2 : Int) (x3 : Int) (t : Nat)  (σ : kS), k4 x1 x2 x3 t σ = some (some yf, σf) → Rn l G dm_Pa_passStars m_Pa_passStars (kI fun y' σ' => y' = yf ∧ σ' = σf) 4 [some (.inr (8, t)), some (.inl x1), some (.inl x2), some (.inl x3)] [] σ) {x1 : Int} {x2 : Int} {x3 : Int} {t : Nat}  {σ : kS} (h : fb_Pa_passStars_4 k4 x1 x2 x3 t σ = some (some yf, σf)) : Rn l G dm_Pa_passStars m_Pa_passStars (kI fun y' σ' => y' = yf ∧ σ' = σf) 4 [some (.inr (8, t)), some (.inl x1), some (.inl x2), some (.inl x3)] [] σ := by
  unfold fb_Pa_passStars_4 at h
  obtain ⟨⟨h1, h2⟩, h⟩ := kg_some h
  refine s_Pa_passStars_4 h1 h2 (fun c => ?_) (fun c => ?_)
  · rw [if_pos c] at h
    exact e_Pa_passStars_33  h
  · rw [if_neg c] at h
    exact e_Pa_passStars_12 hk4 h
def fl_Pa_passStars_4  : Nat → Int → Int → Int → Nat → kS → kRes
  | 0, _, _, _, _, _ => none
  | n + 1, x1, x2, x3, t, σ => fb_Pa_passStars_4 (fl_Pa_passStars_4  n) x1 x2 x3 t σ
theorem el_Pa_passStars_4 {l : Launch} {G : kG} {yf : Int} {σf : kS}  : ∀ (n : Nat) (x1 : Int) (x2 : Int) (x3 : Int) (t : Nat)  (σ : kS), fl_Pa_passStars_4  n x1 x2 x3 t σ = some (some yf, σf) → Rn l G dm_Pa_passStars m_Pa_passStars (kI fun y' σ' => y' = yf ∧ σ' = σf) 4 [some (.inr (8, t)), some (.inl x1), some (.inl x2), some (.inl x3)] [] σ := by
  intro n
  induction n with
  | zero => intro x1 x2 x3 t σ h; simp only [fl_Pa_passStars_4] at h; cases h
  | succ n ih => intro x1 x2 x3 t σ h; simp only [fl_Pa_passStars_4] at h; exact e_Pa_passStars_4 ih h
def fb_Pa_passStars_0  (x1 : Int) (t : Nat) (σ : kS) : kRes := fl_Pa_passStars_4  3000 x1 x1 0 t σ
theorem e_Pa_passStars_0 {l : Launch} {G : kG} {yf : Int} {σf : kS}  {x1 : Int} {t : Nat} {o2 : Option kV} {o3 : Option kV} {σ : kS} (h : fb_Pa_passStars_0  x1 t σ = some (some yf, σf)) : Rn l G dm_Pa_passStars m_Pa_passStars (kI fun y' σ' => y' = yf ∧ σ' = σf) 0 [some (.inr (8, t)), some (.inl x1), o2, o3] [] σ := by
  unfold fb_Pa_passStars_0 at h
  refine s_Pa_passStars_0  ?_
  exact el_Pa_passStars_4  _ _ _ _ _ _ h
def f_Pa_passStars (x1 : Int) (t : Nat) (σ : kS) : kRes := fb_Pa_passStars_0 x1 t σ
theorem E_Pa_passStars {l : Launch} {G : kG} {yf : Int} {σf : kS} {x1 : Int} {t : Nat} {σ : kS} (h : f_Pa_passStars x1 t σ = some (some yf, σf)) : Call l G dm_Pa_passStars y_Pa_passStars m_Pa_passStars [.inr (8, t), .inl x1] σ (kI fun y' σ' => y' = yf ∧ σ' = σf) := by
  unfold f_Pa_passStars at h
  exact Call.of (by decide +kernel) rfl (Nat.le_of_ble_eq_true rfl) (e_Pa_passStars_0 h)
/-! Pa_step -/
def fb_Pa_step_22  (x1 : Int) (x2 : Int) (s0 : Int) (t : Nat) (σ : kS) : kRes := some (some (kor (kand s0 (σ 8 t 1)) (kshl (kand s0 (kxor (σ 8 t 1) (-1))) 1)), σ)
theorem e_Pa_step_22 {l : Launch} {G : kG} {yf : Int} {σf : kS}  {x1 : Int} {x2 : Int} {s0 : Int} {t : Nat} {o3 : Option kV} {σ : kS} (h : fb_Pa_step_22  x1 x2 s0 t σ = some (some yf, σf)) : Rn l G dm_Pa_step m_Pa_step (kI fun y' σ' => y' = yf ∧ σ' = σf) 22 [some (.inr (8, t)), some (.inl x1), some (.inl x2), o3] [.inl s0] σ := by
  unfold fb_Pa_step_22 at h
  simp only [Option.some.injEq, Prod.mk.injEq, true_and] at h
  exact s_Pa_step_22  ⟨_, rfl, h⟩
def fb_Pa_step_21  (x1 : Int) (x2 : Int) (t : Nat) (σ : kS) : kRes := fb_Pa_step_22  x1 x2 0 t σ
theorem e_Pa_step_21 {l : Launch} {G : kG} {yf : Int} {σf : kS}  {x1 : Int} {x2 : Int} {t : Nat} {o3 : Option kV} {σ : kS} (h : fb_Pa_step_21  x1 x2 t σ = some (some yf, σf)) : Rn l G dm_Pa_step m_Pa_step (kI fun y' σ' => y' = yf ∧ σ' = σf) 21 [some (.inr (8, t)), some (.inl x1), some (.inl x2), o3] [] σ := by
  unfold fb_Pa_step_21 at h
  refine s_Pa_step_21  ?_
  exact e_Pa_step_22  h
def fb_Pa_step_10  (x1 : Int) (x2 : Int) (t : Nat) (σ : kS) : kRes := kg ((0 ≤ x2 ∧ x2 < (127 : Nat))) (fb_Pa_step_22  x1 x2 (kand x1 (σ 17 t (Int.toNat x2))) t σ)
theorem e_Pa_step_10 {l : Launch} {G : kG} {yf : Int} {σf : kS}  {x1 : Int} {x2 : Int} {t : Nat} {o3 : Option kV} {σ : kS} (h : fb_Pa_step_10  x1 x2 t σ = some (some yf, σf)) : Rn l G dm_Pa_step m_Pa_step (kI fun y' σ' => y' = yf ∧ σ' = σf) 10 [some (.inr (8, t)), some (.inl x1), some (.inl x2), o3] [] σ := by
  unfold fb_Pa_step_10 at h
  obtain ⟨h1, h⟩ := kg_some h
  refine s_Pa_step_10 h1 ?_
  exact e_Pa_step_22  h
def fb_Pa_step_4  (x1 : Int) (x2 : Int) (t : Nat) (σ : kS) : kRes := kg ((-2147483648 ≤ x2 ∧ x2 < 2147483648)) (if 126 < x2 then fb_Pa_step_21  x1 x2 t σ else fb_Pa_step_10  x1 x2 t σ)
theorem e_Pa_step_4 {l : Launch} {G : kG} {yf : Int} {σf : kS}  {x1 : Int} {x2 : Int} {t : Nat} {o3 : Option kV} {σ : kS} (h : fb_Pa_step_4  x1 x2 t σ = some (some yf, σf)) : Rn l G dm_Pa_step m_Pa_step (kI fun y' σ' => y' = yf ∧ σ' = σf) 4 [some (.inr (8, t)), some (.inl x1), some (.inl x2), o3] [] σ := by
  unfold fb_Pa_step_4 at h
  obtain ⟨h1, h⟩ := kg_some h
  refine s_Pa_step_4 h1 (fun c => ?_) (fun c => ?_)
  · rw [if_pos c] at h
    exact e_Pa_step_21  h
  · rw [if_neg c] at h
    exact e_Pa_step_10  h
def fb_Pa_step_0  (x1 : Int) (x2 : Int) (t : Nat) (σ : kS) : kRes := kg ((-2147483648 ≤ x2 ∧ x2 < 2147483648)) (if x2 < 0 then fb_Pa_step_21  x1 x2 t σ else fb_Pa_step_4  x1 x2 t σ)
theorem e_Pa_step_0 {l : Launch} {G : kG} {yf : Int} {σf : kS}  {x1 : Int} {x2 : Int} {t : Nat} {o3 : Option kV} {σ : kS} (h : fb_Pa_step_0  x1 x2 t σ = some (some yf, σf)) : Rn l G dm_Pa_step m_Pa_step (kI fun y' σ' => y' = yf ∧ σ' = σf) 0 [some (.inr (8, t)), some (.inl x1), some (.inl x2), o3] [] σ := by
  unfold fb_Pa_step_0 at h
  obtain ⟨h1, h⟩ := kg_some h
  refine s_Pa_step_0 h1 (fun c => ?_) (fun c => ?_)
  · rw [if_pos c] at h
    exact e_Pa_step_21  h
  · rw [if_neg c] at h
    exact e_Pa_step_4  h
def f_Pa_step (x1 : Int) (x2 : Int) (t : Nat) (σ : kS) : kRes := fb_Pa_step_0 x1 x2 t σ
theorem E_Pa_step {l : Launch} {G : kG} {yf : Int} {σf : kS} {x1 : Int} {x2 : Int} {t : Nat} {σ : kS} (h : f_Pa_step x1 x2 t σ = some (some yf, σf)) : Call l G dm_Pa_step y_Pa_step m_Pa_step [.inr (8, t), .inl x1, .inl x2] σ (kI fun y' σ' => y' = yf ∧ σ' = σf) := by
  unfold f_Pa_step at h
  exact Call.of (by decide +kernel) rfl (Nat.le_of_ble_eq_true rfl) (e_Pa_step_0 h)
/-! Te_codeAt -/
def fb_Te_codeAt_28  (x1 : Int) (x2 : Int) (t : Nat) (σ : kS) : kRes := kg ((0 ≤ (x1 * 20) + x2 ∧ (x1 * 20) + x2 < (200 : Nat))) (some (some (σ 10 t (Int.toNat ((x1 * 20) + x2))), σ))
theorem e_Te_codeAt_28 {l : Launch} {G : kG} {yf : Int} {σf : kS}  {x1 : Int} {x2 : Int} {t : Nat}  {σ : kS} (h : fb_Te_codeAt_28  x1 x2 t σ = some (some yf, σf)) : Rn l G dm_Te_codeAt m_Te_codeAt (kI fun y' σ' => y' = yf ∧ σ' = σf) 28 [some (.inr (2, t)), some (.inl x1), some (.inl x2)] [] σ := by
  unfold fb_Te_codeAt_28 at h
  obtain ⟨h1, h⟩ := kg_some h
  simp only [Option.some.injEq, Prod.mk.injEq, true_and] at h
  exact s_Te_codeAt_28 h1 ⟨_, rfl, h⟩
def fb_Te_codeAt_26  (x1 : Int) (x2 : Int) (t : Nat) (σ : kS) : kRes := some (some 0, σ)
theorem e_Te_codeAt_26 {l : Launch} {G : kG} {yf : Int} {σf : kS}  {x1 : Int} {x2 : Int} {t : Nat}  {σ : kS} (h : fb_Te_codeAt_26  x1 x2 t σ = some (some yf, σf)) : Rn l G dm_Te_codeAt m_Te_codeAt (kI fun y' σ' => y' = yf ∧ σ' = σf) 26 [some (.inr (2, t)), some (.inl x1), some (.inl x2)] [] σ := by
  unfold fb_Te_codeAt_26 at h
  simp only [Option.some.injEq, Prod.mk.injEq, true_and] at h
  exact s_Te_codeAt_26  ⟨_, rfl, h⟩
def fb_Te_codeAt_16  (x1 : Int) (x2 : Int) (t : Nat) (σ : kS) : kRes := kg ((0 ≤ x1 ∧ x1 < (10 : Nat)) ∧ (-2147483648 ≤ x2 ∧ x2 < 2147483648) ∧ (-2147483648 ≤ σ 11 t (Int.toNat x1) ∧ σ 11 t (Int.toNat x1) < 2147483648)) (if x2 < (σ 11 t (Int.toNat x1)) then fb_Te_codeAt_28  x1 x2 t σ else fb_Te_codeAt_26  x1 x2 t σ)
theorem e_Te_codeAt_16 {l : Launch} {G : kG} {yf : Int} {σf : kS}  {x1 : Int} {x2 : Int} {t : Nat}  {σ : kS} (h : fb_Te_codeAt_16  x1 x2 t σ = some (some yf, σf)) : Rn l G dm_Te_codeAt m_Te_codeAt (kI fun y' σ' => y' = yf ∧ σ' = σf) 16 [some (.inr (2, t)), some (.inl x1), some (.inl x2)] [] σ := by
  unfold fb_Te_codeAt_16 at h
  obtain ⟨⟨h1, h2, h3⟩, h⟩ := kg_some h
  refine s_Te_codeAt_16 h1 h2 h3 (fun c => ?_) (fun c => ?_)
  · rw [if_pos c] at h
    exact e_Te_codeAt_28  h
  · rw [if_neg c] at h
    exact e_Te_codeAt_26  h
def fb_Te_codeAt_12  (x1 : Int) (x2 : Int) (t : Nat) (σ : kS) : kRes := kg ((-2147483648 ≤ x2 ∧ x2 < 2147483648)) (if x2 < 0 then fb_Te_codeAt_26  x1 x2 t σ else fb_Te_codeAt_16  x1 x2 t σ)
theorem e_Te_codeAt_12 {l : Launch} {G : kG} {yf : Int} {σf : kS}  {x1 : Int} {x2 : Int} {t : Nat}  {σ : kS} (h : fb_Te_codeAt_12  x1 x2 t σ = some (some yf, σf)) : Rn l G dm_Te_codeAt m_Te_codeAt (kI fun y' σ' => y' = yf ∧ σ' = σf) 12 [some (.inr (2, t)), some (.inl x1), some (.inl x2)] [] σ := by
  unfold fb_Te_codeAt_12 at h
  obtain ⟨h1, h⟩ := kg_some h
  refine s_Te_codeAt_12 h1 (fun c => ?_) (fun c => ?_)
  · rw [if_pos c] at h
    exact e_Te_codeAt_26  h
  · rw [if_neg c] at h
    exact e_Te_codeAt_16  h
def fb_Te_codeAt_4  (x1 : Int) (x2 : Int) (t : Nat) (σ : kS) : kRes := kg ((-2147483648 ≤ x1 ∧ x1 < 2147483648) ∧ (-2147483648 ≤ σ 2 t 2 ∧ σ 2 t 2 < 2147483648)) (if (σ 2 t 2) ≤ x1 then fb_Te_codeAt_26  x1 x2 t σ else fb_Te_codeAt_12  x1 x2 t σ)
theorem e_Te_codeAt_4 {l : Launch} {G : kG} {yf : Int} {σf : kS}  {x1 : Int} {x2 : Int} {t : Nat}  {σ : kS} (h : fb_Te_codeAt_4  x1 x2 t σ = some (some yf, σf)) : Rn l G dm_Te_codeAt m_Te_codeAt (kI fun y' σ' => y' = yf ∧ σ' = σf) 4 [some (.inr (2, t)), some (.inl x1), some (.inl x2)] [] σ := by
  unfold fb_Te_codeAt_4 at h
  obtain ⟨⟨h1, h2⟩, h⟩ := kg_some h
  refine s_Te_codeAt_4 h1 h2 (fun c => ?_) (fun c => ?_)
  · rw [if_pos c] at h
    exact e_Te_codeAt_26  h
  · rw [if_neg c] at h
    exact e_Te_codeAt_12  h
def fb_Te_codeAt_0  (x1 : Int) (x2 : Int) (t : Nat) (σ : kS) : kRes := kg ((-2147483648 ≤ x1 ∧ x1 < 2147483648)) (if x1 < 0 then fb_Te_codeAt_26  x1 x2 t σ else fb_Te_codeAt_4  x1 x2 t σ)
theorem e_Te_codeAt_0 {l : Launch} {G : kG} {yf : Int} {σf : kS}  {x1 : Int} {x2 : Int} {t : Nat}  {σ : kS} (h : fb_Te_codeAt_0  x1 x2 t σ = some (some yf, σf)) : Rn l G dm_Te_codeAt m_Te_codeAt (kI fun y' σ' => y' = yf ∧ σ' = σf) 0 [some (.inr (2, t)), some (.inl x1), some (.inl x2)] [] σ := by
  unfold fb_Te_codeAt_0 at h
  obtain ⟨h1, h⟩ := kg_some h
  refine s_Te_codeAt_0 h1 (fun c => ?_) (fun c => ?_)
  · rw [if_pos c] at h
    exact e_Te_codeAt_26  h
  · rw [if_neg c] at h
    exact e_Te_codeAt_4  h
def f_Te_codeAt (x1 : Int) (x2 : Int) (t : Nat) (σ : kS) : kRes := fb_Te_codeAt_0 x1 x2 t σ
theorem E_Te_codeAt {l : Launch} {G : kG} {yf : Int} {σf : kS} {x1 : Int} {x2 : Int} {t : Nat} {σ : kS} (h : f_Te_codeAt x1 x2 t σ = some (some yf, σf)) : Call l G dm_Te_codeAt y_Te_codeAt m_Te_codeAt [.inr (2, t), .inl x1, .inl x2] σ (kI fun y' σ' => y' = yf ∧ σ' = σf) := by
  unfold f_Te_codeAt at h
  exact Call.of (by decide +kernel) rfl (Nat.le_of_ble_eq_true rfl) (e_Te_codeAt_0 h)
/-! Te_sizeOf -/
def fb_Te_sizeOf_22  (x1 : Int) (s0 : Int) (t : Nat) (σ : kS) : kRes := some (some s0, σ)
theorem e_Te_sizeOf_22 {l : Launch} {G : kG} {yf : Int} {σf : kS}  {x1 : Int} {s0 : Int} {t : Nat}  {σ : kS} (h : fb_Te_sizeOf_22  x1 s0 t σ = some (some yf, σf)) : Rn l G dm_Te_sizeOf m_Te_sizeOf (kI fun y' σ' => y' = yf ∧ σ' = σf) 22 [some (.inr (2, t)), some (.inl x1)] [.inl s0] σ := by
  unfold fb_Te_sizeOf_22 at h
  simp only [Option.some.injEq, Prod.mk.injEq, true_and] at h
  exact s_Te_sizeOf_22  ⟨_, rfl, h⟩
def fb_Te_sizeOf_16  (x1 : Int) (t : Nat) (σ : kS) : kRes := kg ((0 ≤ x1 ∧ x1 < (10 : Nat))) (fb_Te_sizeOf_22  x1 (σ 11 t (Int.toNat x1)) t σ)
theorem e_Te_sizeOf_16 {l : Launch} {G : kG} {yf : Int} {σf : kS}  {x1 : Int} {t : Nat}  {σ : kS} (h : fb_Te_sizeOf_16  x1 t σ = some (some yf, σf)) : Rn l G dm_Te_sizeOf m_Te_sizeOf (kI fun y' σ' => y' = yf ∧ σ' = σf) 16 [some (.inr (2, t)), some (.inl x1)] [] σ := by
  unfold fb_Te_sizeOf_16 at h
  obtain ⟨h1, h⟩ := kg_some h
  refine s_Te_sizeOf_16 h1 ?_
  exact e_Te_sizeOf_22  h
def fb_Te_sizeOf_12  (x1 : Int) (t : Nat) (σ : kS) : kRes := fb_Te_sizeOf_22  x1 (-1) t σ
theorem e_Te_sizeOf_12 {l : Launch} {G : kG} {yf : Int} {σf : kS}  {x1 : Int} {t : Nat}  {σ : kS} (h : fb_Te_sizeOf_12  x1 t σ = some (some yf, σf)) : Rn l G dm_Te_sizeOf m_Te_sizeOf (kI fun y' σ' => y' = yf ∧ σ' = σf) 12 [some (.inr (2, t)), some (.inl x1)] [] σ := by
  unfold fb_Te_sizeOf_12 at h
  refine s_Te_sizeOf_12  ?_
  exact e_Te_sizeOf_22  h
def fb_Te_sizeOf_4  (x1 : Int) (t : Nat) (σ : kS) : kRes := kg ((-2147483648 ≤ x1 ∧ x1 < 2147483648) ∧ (-2147483648 ≤ σ 2 t 2 ∧ σ 2 t 2 < 2147483648)) (if x1 < (σ 2 t 2) then fb_Te_sizeOf_16  x1 t σ else fb_Te_sizeOf_12  x1 t σ)
theorem e_Te_sizeOf_4 {l : Launch} {G : kG} {yf : Int} {σf : kS}  {x1 : Int} {t : Nat}  {σ : kS} (h : fb_Te_sizeOf_4  x1 t σ = some (some yf, σf)) : Rn l G dm_Te_sizeOf m_Te_sizeOf (kI fun y' σ' => y' = yf ∧ σ' = σf) 4 [some (.inr (2, t)), some (.inl x1)] [] σ := by
  unfold fb_Te_sizeOf_4 at h
  obtain ⟨⟨h1, h2⟩, h⟩ := kg_some h
  refine s_Te_sizeOf_4 h1 h2 (fun c => ?_) (fun c => ?_)
  · rw [if_pos c] at h
    exact e_Te_sizeOf_16  h
  · rw [if_neg c] at h
    exact e_Te_sizeOf_12  h
def fb_Te_sizeOf_0  (x1 : Int) (t : Nat) (σ : kS) : kRes := kg ((-2147483648 ≤ x1 ∧ x1 < 2147483648)) (if x1 < 0 then fb_Te_sizeOf_12  x1 t σ else fb_Te_sizeOf_4  x1 t σ)
theorem e_Te_sizeOf_0 {l : Launch} {G : kG} {yf : Int} {σf : kS}  {x1 : Int} {t : Nat}  {σ : kS} (h : fb_Te_sizeOf_0  x1 t σ = some (some yf, σf)) : Rn l G dm_Te_sizeOf m_Te_sizeOf (kI fun y' σ' => y' = yf ∧ σ' = σf) 0 [some (.inr (2, t)), some (.inl x1)] [] σ := by
  unfold fb_Te_sizeOf_0 at h
  obtain ⟨h1, h⟩ := kg_some h
  refine s_Te_sizeOf_0 h1 (fun c => ?_) (fun c => ?_)
  · rw [if_pos c] at h
    exact e_Te_sizeOf_12  h
  · rw [if_neg c] at h
    exact e_Te_sizeOf_4  h
def f_Te_sizeOf (x1 : Int) (t : Nat) (σ : kS) : kRes := fb_Te_sizeOf_0 x1 t σ
theorem E_Te_sizeOf {l : Launch} {G : kG} {yf : Int} {σf : kS} {x1 : Int} {t : Nat} {σ : kS} (h : f_Te_sizeOf x1 t σ = some (some yf, σf)) : Call l G dm_Te_sizeOf y_Te_sizeOf m_Te_sizeOf [.inr (2, t), .inl x1] σ (kI fun y' σ' => y' = yf ∧ σ' = σf) := by
  unfold f_Te_sizeOf at h
  exact Call.of (by decide +kernel) rfl (Nat.le_of_ble_eq_true rfl) (e_Te_sizeOf_0 h)
/-! Pa_endOfMatch -/
def fb_Pa_endOfMatch_95  (x2 : Int) (x3 : Int) (x4 : Int) (x5 : Int) (x6 : Int) (x7 : Int) (t : Nat) (σ : kS) : kRes := some (some x6, σ)
theorem e_Pa_endOfMatch_95 {l : Launch} {G : kG} {yf : Int} {σf : kS}  {x2 : Int} {x3 : Int} {x4 : Int} {x5 : Int} {x6 : Int} {x7 : Int} {t : Nat}  {σ : kS} (h : fb_Pa_endOfMatch_95  x2 x3 x4 x5 x6 x7 t σ = some (some yf, σf)) : Rn l G dm_Pa_endOfMatch m_Pa_endOfMatch (kI fun y' σ' => y' = yf ∧ σ' = σf) 95 [some (.inr (8, t)), some (.inr (2, 0)), some (.inl x2), some (.inl x3), some (.inl x4), some (.inl x5), some (.inl x6), some (.inl x7)] [] σ := by
  unfold fb_Pa_endOfMatch_95 at h
  simp only [Option.some.injEq, Prod.mk.injEq, true_and] at h
  exact s_Pa_endOfMatch_95  ⟨_, rfl, h⟩
def fb_Pa_endOfMatch_87 (k29 : Int → Int → Int → Int → Int → Int → Nat → kS → kRes) (x2 : Int) (x3 : Int) (x4 : Int) (x5 : Int) (x6 : Int) (x7 : Int) (s0 : Int) (t : Nat) (σ : kS) : kRes := k29 x2 x3 x4 s0 x6 (x7 + 1) t σ
theorem e_Pa_endOfMatch_87 {l : Launch} {G : kG} {yf : Int} {σf : kS} {k29 : Int → Int → Int → Int → Int → Int → Nat → kS → kRes} (hk29 : ∀ (x2 : Int) (x3 : Int) (x4 : Int) (x5 : Int) (x6 : Int) (x7 : Int) (t : Nat)  (σ : kS), k29 x2 x3 x4 x5 x6 x7 t σ = some (some yf, σf) → Rn l G dm_Pa_endOfMatch m_Pa_endOfMatch (kI fun y' σ' => y' = yf ∧ σ' = σf) 29 [some (.inr (8, t)), some (.inr (2, 0)), some (.inl x2), some (.inl x3), some (.inl x4), some (.inl x5), some (.inl x6), some (.inl x7)] [] σ) {x2 : Int} {x3 : Int} {x4 : Int} {x5 : Int} {x6 : Int} {x7 : Int} {s0 : Int} {t : Nat}  {σ : kS} (h : fb_Pa_endOfMatch_87 k29 x2 x3 x4 x5 x6 x7 s0 t σ = some (some yf, σf)) : Rn l G dm_Pa_endOfMatch m_Pa_endOfMatch (kI fun y' σ' => y' = yf ∧ σ' = σf) 87 [some (.inr (8, t)), some (.inr (2, 0)), some (.inl x2), some (.inl x3), some (.inl x4), some (.inl x5), some (.inl x6), some (.inl x7)] [.inl s0] σ := by
  unfold fb_Pa_endOfMatch_87 at h
  refine s_Pa_endOfMatch_87  ?_
  exact hk29 _ _ _ _ _ _ _ _ h
def fb_Pa_endOfMatch_84 (k29 : Int → Int → Int → Int → Int → Int → Nat → kS → kRes) (x2 : Int) (x3 : Int) (x4 : Int) (x5 : Int) (x6 : Int) (x7 : Int) (s0 : Int) (s1 : Int) (t : Nat) (σ : kS) : kRes := kbi (f_Pa_step s1 s0 t σ) fun y σ1 => fb_Pa_endOfMatch_87 k29 x2 x3 x4 x5 x6 x7 y t σ1
theorem e_Pa_endOfMatch_84 {l : Launch} {G : kG} {yf : Int} {σf : kS} {k29 : Int → Int → Int → Int → Int → Int → Nat → kS → kRes} (hk29 : ∀ (x2 : Int) (x3 : Int) (x4 : Int) (x5 : Int) (x6 : Int) (x7 : Int) (t : Nat)  (σ : kS), k29 x2 x3 x4 x5 x6 x7 t σ = some (some yf, σf) → Rn l G dm_Pa_endOfMatch m_Pa_endOfMatch (kI fun y' σ' => y' = yf ∧ σ' = σf) 29 [some (.inr (8, t)), some (.inr (2, 0)), some (.inl x2), some (.inl x3), some (.inl x4), some (.inl x5), some (.inl x6), some (.inl x7)] [] σ) {x2 : Int} {x3 : Int} {x4 : Int} {x5 : Int} {x6 : Int} {x7 : Int} {s0 : Int} {s1 : Int} {t : Nat}  {σ : kS} (h : fb_Pa_endOfMatch_84 k29 x2 x3 x4 x5 x6 x7 s0 s1 t σ = some (some yf, σf)) : Rn l G dm_Pa_endOfMatch m_Pa_endOfMatch (kI fun y' σ' => y' = yf ∧ σ' = σf) 84 [some (.inr (8, t)), some (.inr (2, 0)), some (.inl x2), some (.inl x3), some (.inl x4), some (.inl x5), some (.inl x6), some (.inl x7)] [.inl s0, .inl s1, .inr (8, t)] σ := by
  unfold fb_Pa_endOfMatch_84 at h
  obtain ⟨y, σ1, hc, h⟩ := kbi_some h
  refine s_Pa_endOfMatch_84  (by decide) (E_Pa_step hc) (fun y2 σ2 e2 => ?_)
  obtain ⟨rfl, rfl⟩ := e2
  exact e_Pa_endOfMatch_87 hk29 h
def fb_Pa_endOfMatch_74 (k29 : Int → Int → Int → Int → Int → Int → Nat → kS → kRes) (x2 : Int) (x3 : Int) (x4 : Int) (x5 : Int) (x6 : Int) (x7 : Int) (t : Nat) (σ : kS) : kRes := kbi (f_Te_codeAt x2 x7 0 σ) fun y σ1 => fb_Pa_endOfMatch_84 k29 x2 x3 x4 x5 x6 x7 y x5 t σ1
theorem e_Pa_endOfMatch_74 {l : Launch} {G : kG} {yf : Int} {σf : kS} {k29 : Int → Int → Int → Int → Int → Int → Nat → kS → kRes} (hk29 : ∀ (x2 : Int) (x3 : Int) (x4 : Int) (x5 : Int) (x6 : Int) (x7 : Int) (t : Nat)  (σ : kS), k29 x2 x3 x4 x5 x6 x7 t σ = some (some yf, σf) → Rn l G dm_Pa_endOfMatch m_Pa_endOfMatch (kI fun y' σ' => y' = yf ∧ σ' = σf) 29 [some (.inr (8, t)), some (.inr (2, 0)), some (.inl x2), some (.inl x3), some (.inl x4), some (.inl x5), some (.inl x6), some (.inl x7)] [] σ) {x2 : Int} {x3 : Int} {x4 : Int} {x5 : Int} {x6 : Int} {x7 : Int} {t : Nat}  {σ : kS} (h : fb_Pa_endOfMatch_74 k29 x2 x3 x4 x5 x6 x7 t σ = some (some yf, σf)) : Rn l G dm_Pa_endOfMatch m_Pa_endOfMatch (kI fun y' σ' => y' = yf ∧ σ' = σf) 74 [some (.inr (8, t)), some (.inr (2, 0)), some (.inl x2), some (.inl x3), some (.inl x4), some (.inl x5), some (.inl x6), some (.inl x7)] [] σ := by
  unfold fb_Pa_endOfMatch_74 at h
  obtain ⟨y, σ1, hc, h⟩ := kbi_some h
  refine s_Pa_endOfMatch_74  (by decide) (E_Te_codeAt hc) (fun y2 σ2 e2 => ?_)
  obtain ⟨rfl, rfl⟩ := e2
  exact e_Pa_endOfMatch_84 hk29 h
def fb_Pa_endOfMatch_70 (k29 : Int → Int → Int → Int → Int → Int → Nat → kS → kRes) (x2 : Int) (x3 : Int) (x4 : Int) (x5 : Int) (x6 : Int) (x7 : Int) (t : Nat) (σ : kS) : kRes := fb_Pa_endOfMatch_74 k29 x2 x3 x4 x5 x7 x7 t σ
theorem e_Pa_endOfMatch_70 {l : Launch} {G : kG} {yf : Int} {σf : kS} {k29 : Int → Int → Int → Int → Int → Int → Nat → kS → kRes} (hk29 : ∀ (x2 : Int) (x3 : Int) (x4 : Int) (x5 : Int) (x6 : Int) (x7 : Int) (t : Nat)  (σ : kS), k29 x2 x3 x4 x5 x6 x7 t σ = some (some yf, σf) → Rn l G dm_Pa_endOfMatch m_Pa_endOfMatch (kI fun y' σ' => y' = yf ∧ σ' = σf) 29 [some (.inr (8, t)), some (.inr (2, 0)), some (.inl x2), some (.inl x3), some (.inl x4), some (.inl x5), some (.inl x6), some (.inl x7)] [] σ) {x2 : Int} {x3 : Int} {x4 : Int} {x5 : Int} {x6 : Int} {x7 : Int} {t : Nat}  {σ : kS} (h : fb_Pa_endOfMatch_70 k29 x2 x3 x4 x5 x6 x7 t σ = some (some yf, σf)) : Rn l G dm_Pa_endOfMatch m_Pa_endOfMatch (kI fun y' σ' => y' = yf ∧ σ' = σf) 70 [some (.inr (8, t)), some (.inr (2, 0)), some (.inl x2), some (.inl x3), some (.inl x4), some (.inl x5), some (.inl x6), some (.inl x7)] [] σ := by
  unfold fb_Pa_endOfMatch_70 at h
  refine s_Pa_endOfMatch_70  ?_
  exact e_Pa_endOfMatch_74 hk29 h
def fb_Pa_endOfMatch_67 (k29 : Int → Int → Int → Int → Int → Int → Nat → kS → kRes) (x2 : Int) (x3 : Int) (x4 : Int) (x5 : Int) (x6 : Int) (x7 : Int) (s0 : Int) (t : Nat) (σ : kS) : kRes := kg ((-2147483648 ≤ s0 ∧ s0 < 2147483648)) (if s0 = 0 then fb_Pa_endOfMatch_74 k29 x2 x3 x4 x5 x6 x7 t σ else fb_Pa_endOfMatch_70 k29 x2 x3 x4 x5 x6 x7 t σ)
theorem e_Pa_endOfMatch_67 {l : Launch} {G : kG} {yf : Int} {σf : kS} {k29 : Int → Int → Int → Int → Int → Int → Nat → kS → kRes} (hk29 : ∀ (x2 : Int) (x3 : Int) (x4 : Int) (x5 : Int) (x6 : Int) (x7 : Int) (t : Nat)  (σ : kS), k29 x2 x3 x4 x5 x6 x7 t σ = some (some yf, σf) → Rn l G dm_Pa_endOfMatch m_Pa_endOfMatch (kI fun y' σ' => y' = yf ∧ σ' = σf) 29 [some (.inr (8, t)), some (.inr (2, 0)), some (.inl x2), some (.inl x3), some (.inl x4), some (.inl x5), some (.inl x6), some (.inl x7)] [] σ) {x2 : Int} {x3 : Int} {x4 : Int} {x5 : Int} {x6 : Int} {x7 : Int} {s0 : Int} {t : Nat}  {σ : kS} (h : fb_Pa_endOfMatch_67 k29 x2 x3 x4 x5 x6 x7 s0 t σ = some (some yf, σf)) : Rn l G dm_Pa_endOfMatch m_Pa_endOfMatch (kI fun y' σ' => y' = yf ∧ σ' = σf) 67 [some (.inr (8, t)), some (.inr (2, 0)), some (.inl x2), some (.inl x3), some (.inl x4), some (.inl x5), some (.inl x6), some (.inl x7)] [.inl s0] σ := by
  unfold fb_Pa_endOfMatch_67 at h
  obtain ⟨h1, h⟩ := kg_some h
  refine s_Pa_endOfMatch_67 h1 (fun c => ?_) (fun c => ?_)
  · rw [if_pos c] at h
    exact e_Pa_endOfMatch_74 hk29 h
  · rw [if_neg c] at h
    exact e_Pa_endOfMatch_70 hk29 h
def fb_Pa_endOfMatch_64 (k29 : Int → Int → Int → Int → Int → Int → Nat → kS → kRes) (x2 : Int) (x3 : Int) (x4 : Int) (x5 : Int) (x6 : Int) (x7 : Int) (s0 : Int) (s1 : Int) (t : Nat) (σ : kS) : kRes := kbi (f_Pa_isOver s1 s0 t σ) fun y σ1 => fb_Pa_endOfMatch_67 k29 x2 x3 x4 x5 x6 x7 y t σ1
theorem e_Pa_endOfMatch_64 {l : Launch} {G : kG} {yf : Int} {σf : kS} {k29 : Int → Int → Int → Int → Int → Int → Nat → kS → kRes} (hk29 : ∀ (x2 : Int) (x3 : Int) (x4 : Int) (x5 : Int) (x6 : Int) (x7 : Int) (t : Nat)  (σ : kS), k29 x2 x3 x4 x5 x6 x7 t σ = some (some yf, σf) → Rn l G dm_Pa_endOfMatch m_Pa_endOfMatch (kI fun y' σ' => y' = yf ∧ σ' = σf) 29 [some (.inr (8, t)), some (.inr (2, 0)), some (.inl x2), some (.inl x3), some (.inl x4), some (.inl x5), some (.inl x6), some (.inl x7)] [] σ) {x2 : Int} {x3 : Int} {x4 : Int} {x5 : Int} {x6 : Int} {x7 : Int} {s0 : Int} {s1 : Int} {t : Nat}  {σ : kS} (h : fb_Pa_endOfMatch_64 k29 x2 x3 x4 x5 x6 x7 s0 s1 t σ = some (some yf, σf)) : Rn l G dm_Pa_endOfMatch m_Pa_endOfMatch (kI fun y' σ' => y' = yf ∧ σ' = σf) 64 [some (.inr (8, t)), some (.inr (2, 0)), some (.inl x2), some (.inl x3), some (.inl x4), some (.inl x5), some (.inl x6), some (.inl x7)] [.inl s0, .inl s1, .inr (8, t)] σ := by
  unfold fb_Pa_endOfMatch_64 at h
  obtain ⟨y, σ1, hc, h⟩ := kbi_some h
  refine s_Pa_endOfMatch_64  (by decide) (E_Pa_isOver hc) (fun y2 σ2 e2 => ?_)
  obtain ⟨rfl, rfl⟩ := e2
  exact e_Pa_endOfMatch_67 hk29 h
def fb_Pa_endOfMatch_63 (k29 : Int → Int → Int → Int → Int → Int → Nat → kS → kRes) (x2 : Int) (x3 : Int) (x4 : Int) (x5 : Int) (x6 : Int) (x7 : Int) (s0 : Int) (t : Nat) (σ : kS) : kRes := fb_Pa_endOfMatch_64 k29 x2 x3 x4 x5 x6 x7 0 s0 t σ
theorem e_Pa_endOfMatch_63 {l : Launch} {G : kG} {yf : Int} {σf : kS} {k29 : Int → Int → Int → Int → Int → Int → Nat → kS → kRes} (hk29 : ∀ (x2 : Int) (x3 : Int) (x4 : Int) (x5 : Int) (x6 : Int) (x7 : Int) (t : Nat)  (σ : kS), k29 x2 x3 x4 x5 x6 x7 t σ = some (some yf, σf) → Rn l G dm_Pa_endOfMatch m_Pa_endOfMatch (kI fun y' σ' => y' = yf ∧ σ' = σf) 29 [some (.inr (8, t)), some (.inr (2, 0)), some (.inl x2), some (.inl x3), some (.inl x4), some (.inl x5), some (.inl x6), some (.inl x7)] [] σ) {x2 : Int} {x3 : Int} {x4 : Int} {x5 : Int} {x6 : Int} {x7 : Int} {s0 : Int} {t : Nat}  {σ : kS} (h : fb_Pa_endOfMatch_63 k29 x2 x3 x4 x5 x6 x7 s0 t σ = some (some yf, σf)) : Rn l G dm_Pa_endOfMatch m_Pa_endOfMatch (kI fun y' σ' => y' = yf ∧ σ' = σf) 63 [some (.inr (8, t)), some (.inr (2, 0)), some (.inl x2), some (.inl x3), some (.inl x4), some (.inl x5), some (.inl x6), some (.inl x7)] [.inl s0, .inr (8, t)] σ := by
  unfold fb_Pa_endOfMatch_63 at h
  refine s_Pa_endOfMatch_63  ?_
  exact e_Pa_endOfMatch_64 hk29 h
def fb_Pa_endOfMatch_59 (k29 : Int → Int → Int → Int → Int → Int → Nat → kS → kRes) (x2 : Int) (x3 : Int) (x4 : Int) (x5 : Int) (x6 : Int) (x7 : Int) (s0 : Int) (t : Nat) (σ : kS) : kRes := fb_Pa_endOfMatch_64 k29 x2 x3 x4 x5 x6 x7 1 s0 t σ
theorem e_Pa_endOfMatch_59 {l : Launch} {G : kG} {yf : Int} {σf : kS} {k29 : Int → Int → Int → Int → Int → Int → Nat → kS → kRes} (hk29 : ∀ (x2 : Int) (x3 : Int) (x4 : Int) (x5 : Int) (x6 : Int) (x7 : Int) (t : Nat)  (σ : kS), k29 x2 x3 x4 x5 x6 x7 t σ = some (some yf, σf) → Rn l G dm_Pa_endOfMatch m_Pa_endOfMatch (kI fun y' σ' => y' = yf ∧ σ' = σf) 29 [some (.inr (8, t)), some (.inr (2, 0)), some (.inl x2), some (.inl x3), some (.inl x4), some (.inl x5), some (.inl x6), some (.inl x7)] [] σ) {x2 : Int} {x3 : Int} {x4 : Int} {x5 : Int} {x6 : Int} {x7 : Int} {s0 : Int} {t : Nat}  {σ : kS} (h : fb_Pa_endOfMatch_59 k29 x2 x3 x4 x5 x6 x7 s0 t σ = some (some yf, σf)) : Rn l G dm_Pa_endOfMatch m_Pa_endOfMatch (kI fun y' σ' => y' = yf ∧ σ' = σf) 59 [some (.inr (8, t)), some (.inr (2, 0)), some (.inl x2), some (.inl x3), some (.inl x4), some (.inl x5), some (.inl x6), some (.inl x7)] [.inl s0, .inr (8, t)] σ := by
  unfold fb_Pa_endOfMatch_59 at h
  refine s_Pa_endOfMatch_59  ?_
  exact e_Pa_endOfMatch_64 hk29 h
def fb_Pa_endOfMatch_47 (k29 : Int → Int → Int → Int → Int → Int → Nat → kS → kRes) (x2 : Int) (x3 : Int) (x4 : Int) (x5 : Int) (x6 : Int) (x7 : Int) (s0 : Int) (t : Nat) (σ : kS) : kRes := kg ((-2147483648 ≤ x7 ∧ x7 < 2147483648) ∧ (-2147483648 ≤ x4 ∧ x4 < 2147483648)) (if x7 = x4 then fb_Pa_endOfMatch_59 k29 x2 x3 x4 s0 x6 x7 s0 t σ else fb_Pa_endOfMatch_63 k29 x2 x3 x4 s0 x6 x7 s0 t σ)
theorem e_Pa_endOfMatch_47 {l : Launch} {G : kG} {yf : Int} {σf : kS} {k29 : Int → Int → Int → Int → Int → Int → Nat → kS → kRes} (hk29 : ∀ (x2 : Int) (x3 : Int) (x4 : Int) (x5 : Int) (x6 : Int) (x7 : Int) (t : Nat)  (σ : kS), k29 x2 x3 x4 x5 x6 x7 t σ = some (some yf, σf) → Rn l G dm_Pa_endOfMatch m_Pa_endOfMatch (kI fun y' σ' => y' = yf ∧ σ' = σf) 29 [some (.inr (8, t)), some (.inr (2, 0)), some (.inl x2), some (.inl x3), some (.inl x4), some (.inl x5), some (.inl x6), some (.inl x7)] [] σ) {x2 : Int} {x3 : Int} {x4 : Int} {x5 : Int} {x6 : Int} {x7 : Int} {s0 : Int} {t : Nat}  {σ : kS} (h : fb_Pa_endOfMatch_47 k29 x2 x3 x4 x5 x6 x7 s0 t σ = some (some yf, σf)) : Rn l G dm_Pa_endOfMatch m_Pa_endOfMatch (kI fun y' σ' => y' = yf ∧ σ' = σf) 47 [some (.inr (8, t)), some (.inr (2, 0)), some (.inl x2), some (.inl x3), some (.inl x4), some (.inl x5), some (.inl x6), some (.inl x7)] [.inl s0] σ := by
  unfold fb_Pa_endOfMatch_47 at h
  obtain ⟨⟨h1, h2⟩, h⟩ := kg_some h
  refine s_Pa_endOfMatch_47 h1 h2 (fun c => ?_) (fun c => ?_)
  · rw [if_neg c] at h
    exact e_Pa_endOfMatch_63 hk29 h
  · rw [if_pos c] at h
    exact e_Pa_endOfMatch_59 hk29 h
def fb_Pa_endOfMatch_41 (k29 : Int → Int → Int → Int → Int → Int → Nat → kS → kRes) (x2 : Int) (x3 : Int) (x4 : Int) (x5 : Int) (x6 : Int) (x7 : Int) (t : Nat) (σ : kS) : kRes := kbi (f_Pa_passStars x5 t σ) fun y σ1 => fb_Pa_endOfMatch_47 k29 x2 x3 x4 x5 x6 x7 y t σ1
theorem e_Pa_endOfMatch_41 {l : Launch} {G : kG} {yf : Int} {σf : kS} {k29 : Int → Int → Int → Int → Int → Int → Nat → kS → kRes} (hk29 : ∀ (x2 : Int) (x3 : Int) (x4 : Int) (x5 : Int) (x6 : Int) (x7 : Int) (t : Nat)  (σ : kS), k29 x2 x3 x4 x5 x6 x7 t σ = some (some yf, σf) → Rn l G dm_Pa_endOfMatch m_Pa_endOfMatch (kI fun y' σ' => y' = yf ∧ σ' = σf) 29 [some (.inr (8, t)), some (.inr (2, 0)), some (.inl x2), some (.inl x3), some (.inl x4), some (.inl x5), some (.inl x6), some (.inl x7)] [] σ) {x2 : Int} {x3 : Int} {x4 : Int} {x5 : Int} {x6 : Int} {x7 : Int} {t : Nat}  {σ : kS} (h : fb_Pa_endOfMatch_41 k29 x2 x3 x4 x5 x6 x7 t σ = some (some yf, σf)) : Rn l G dm_Pa_endOfMatch m_Pa_endOfMatch (kI fun y' σ' => y' = yf ∧ σ' = σf) 41 [some (.inr (8, t)), some (.inr (2, 0)), some (.inl x2), some (.inl x3), some (.inl x4), some (.inl x5), some (.inl x6), some (.inl x7)] [] σ := by
  unfold fb_Pa_endOfMatch_41 at h
  obtain ⟨y, σ1, hc, h⟩ := kbi_some h
  refine s_Pa_endOfMatch_41  (by decide) (E_Pa_passStars hc) (fun y2 σ2 e2 => ?_)
  obtain ⟨rfl, rfl⟩ := e2
  exact e_Pa_endOfMatch_47 hk29 h
def fb_Pa_endOfMatch_36 (k29 : Int → Int → Int → Int → Int → Int → Nat → kS → kRes) (x2 : Int) (x3 : Int) (x4 : Int) (x5 : Int) (x6 : Int) (x7 : Int) (t : Nat) (σ : kS) : kRes := kg ((-2147483648 ≤ x5 ∧ x5 < 2147483648)) (if x5 = 0 then fb_Pa_endOfMatch_95  x2 x3 x4 x5 x6 x7 t σ else fb_Pa_endOfMatch_41 k29 x2 x3 x4 x5 x6 x7 t σ)
theorem e_Pa_endOfMatch_36 {l : Launch} {G : kG} {yf : Int} {σf : kS} {k29 : Int → Int → Int → Int → Int → Int → Nat → kS → kRes} (hk29 : ∀ (x2 : Int) (x3 : Int) (x4 : Int) (x5 : Int) (x6 : Int) (x7 : Int) (t : Nat)  (σ : kS), k29 x2 x3 x4 x5 x6 x7 t σ = some (some yf, σf) → Rn l G dm_Pa_endOfMatch m_Pa_endOfMatch (kI fun y' σ' => y' = yf ∧ σ' = σf) 29 [some (.inr (8, t)), some (.inr (2, 0)), some (.inl x2), some (.inl x3), some (.inl x4), some (.inl x5), some (.inl x6), some (.inl x7)] [] σ) {x2 : Int} {x3 : Int} {x4 : Int} {x5 : Int} {x6 : Int} {x7 : Int} {t : Nat}  {σ : kS} (h : fb_Pa_endOfMatch_36 k29 x2 x3 x4 x5 x6 x7 t σ = some (some yf, σf)) : Rn l G dm_Pa_endOfMatch m_Pa_endOfMatch (kI fun y' σ' => y' = yf ∧ σ' = σf) 36 [some (.inr (8, t)), some (.inr (2, 0)), some (.inl x2), some (.inl x3), some (.inl x4), some (.inl x5), some (.inl x6), some (.inl x7)] [] σ := by
  unfold fb_Pa_endOfMatch_36 at h
  obtain ⟨h1, h⟩ := kg_some h
  refine s_Pa_endOfMatch_36 h1 (fun c => ?_) (fun c => ?_)
  · rw [if_pos c] at h
    exact e_Pa_endOfMatch_95  h
  · rw [if_neg c] at h
    exact e_Pa_endOfMatch_41 hk29 h
def fb_Pa_endOfMatch_29 (k29 : Int → Int → Int → Int → Int → Int → Nat → kS → kRes) (x2 : Int) (x3 : Int) (x4 : Int) (x5 : Int) (x6 : Int) (x7 : Int) (t : Nat) (σ : kS) : kRes := kg ((-2147483648 ≤ x7 ∧ x7 < 2147483648) ∧ (-2147483648 ≤ x4 ∧ x4 < 2147483648)) (if x4 < x7 then fb_Pa_endOfMatch_95  x2 x3 x4 x5 x6 x7 t σ else fb_Pa_endOfMatch_36 k29 x2 x3 x4 x5 x6 x7 t σ)
theorem e_Pa_endOfMatch_29 {l : Launch} {G : kG} {yf : Int} {σf : kS} {k29 : Int → Int → Int → Int → Int → Int → Nat → kS → kRes} (hk29 : ∀ (x2 : Int) (x3 : Int) (x4 : Int) (x5 : Int) (x6 : Int) (x7 : Int) (t : Nat)  (σ : kS), k29 x2 x3 x4 x5 x6 x7 t σ = some (some yf, σf) → Rn l G dm_Pa_endOfMatch m_Pa_endOfMatch (kI fun y' σ' => y' = yf ∧ σ' = σf) 29 [some (.inr (8, t)), some (.inr (2, 0)), some (.inl x2), some (.inl x3), some (.inl x4), some (.inl x5), some (.inl x6), some (.inl x7)] [] σ) {x2 : Int} {x3 : Int} {x4 : Int} {x5 : Int} {x6 : Int} {x7 : Int} {t : Nat}  {σ : kS} (h : fb_Pa_endOfMatch_29 k29 x2 x3 x4 x5 x6 x7 t σ = some (some yf, σf)) : Rn l G dm_Pa_endOfMatch m_Pa_endOfMatch (kI fun y' σ' => y' = yf ∧ σ' = σf) 29 [some (.inr (8, t)), some (.inr (2, 0)), some (.inl x2), some (.inl x3), some (.inl x4), some (.inl x5), some (.inl x6), some (.inl x7)] [] σ := by
  unfold fb_Pa_endOfMatch_29 at h
  obtain ⟨⟨h1, h2⟩, h⟩ := kg_some h
  refine s_Pa_endOfMatch_29 h1 h2 (fun c => ?_) (fun c => ?_)
  · rw [if_pos c] at h
    exact e_Pa_endOfMatch_95  h
  · rw [if_neg c] at h
    exact e_Pa_endOfMatch_36 hk29 h
def fl_Pa_endOfMatch_29  : Nat → Int → Int → Int → Int → Int → Int → Nat → kS → kRes
  | 0, _, _, _, _, _, _, _, _ => none
  | n + 1, x2, x3, x4, x5, x6, x7, t, σ => fb_Pa_endOfMatch_29 (fl_Pa_endOfMatch_29  n) x2 x3 x4 x5 x6 x7 t σ
theorem el_Pa_endOfMatch_29 {l : Launch} {G : kG} {yf : Int} {σf : kS}  : ∀ (n : Nat) (x2 : Int) (x3 : Int) (x4 : Int) (x5 : Int) (x6 : Int) (x7 : Int) (t : Nat)  (σ : kS), fl_Pa_endOfMatch_29  n x2 x3 x4 x5 x6 x7 t σ = some (some yf, σf) → Rn l G dm_Pa_endOfMatch m_Pa_endOfMatch (kI fun y' σ' => y' = yf ∧ σ' = σf) 29 [some (.inr (8, t)), some (.inr (2, 0)), some (.inl x2), some (.inl x3), some (.inl x4), some (.inl x5), some (.inl x6), some (.inl x7)] [] σ := by
  intro n
  induction n with
  | zero => intro x2 x3 x4 x5 x6 x7 t σ h; simp only [fl_Pa_endOfMatch_29] at h; cases h
  | succ n ih => intro x2 x3 x4 x5 x6 x7 t σ h; simp only [fl_Pa_endOfMatch_29] at h; exact e_Pa_endOfMatch_29 ih h
def fb_Pa_endOfMatch_18  (x2 : Int) (x3 : Int) (s0 : Int) (t : Nat) (σ : kS) : kRes := fl_Pa_endOfMatch_29  3000 x2 x3 s0 1 (-1) x3 t σ
theorem e_Pa_endOfMatch_18 {l : Launch} {G : kG} {yf : Int} {σf : kS}  {x2 : Int} {x3 : Int} {s0 : Int} {t : Nat} {o4 : Option kV} {o5 : Option kV} {o6 : Option kV} {o7 : Option kV} {σ : kS} (h : fb_Pa_endOfMatch_18  x2 x3 s0 t σ = some (some yf, σf)) : Rn l G dm_Pa_endOfMatch m_Pa_endOfMatch (kI fun y' σ' => y' = yf ∧ σ' = σf) 18 [some (.inr (8, t)), some (.inr (2, 0)), some (.inl x2), some (.inl x3), o4, o5, o6, o7] [.inl s0] σ := by
  unfold fb_Pa_endOfMatch_18 at h
  refine s_Pa_endOfMatch_18  ?_
  exact el_Pa_endOfMatch_29  _ _ _ _ _ _ _ _ _ h
def fb_Pa_endOfMatch_13  (x2 : Int) (x3 : Int) (t : Nat) (σ : kS) : kRes := kbi (f_Te_sizeOf x2 0 σ) fun y σ1 => fb_Pa_endOfMatch_18  x2 x3 y t σ1
theorem e_Pa_endOfMatch_13 {l : Launch} {G : kG} {yf : Int} {σf : kS}  {x2 : Int} {x3 : Int} {t : Nat} {o4 : Option kV} {o5 : Option kV} {o6 : Option kV} {o7 : Option kV} {σ : kS} (h : fb_Pa_endOfMatch_13  x2 x3 t σ = some (some yf, σf)) : Rn l G dm_Pa_endOfMatch m_Pa_endOfMatch (kI fun y' σ' => y' = yf ∧ σ' = σf) 13 [some (.inr (8, t)), some (.inr (2, 0)), some (.inl x2), some (.inl x3), o4, o5, o6, o7] [] σ := by
  unfold fb_Pa_endOfMatch_13 at h
  obtain ⟨y, σ1, hc, h⟩ := kbi_some h
  refine s_Pa_endOfMatch_13  (by decide) (E_Te_sizeOf hc) (fun y2 σ2 e2 => ?_)
  obtain ⟨rfl, rfl⟩ := e2
  exact e_Pa_endOfMatch_18  h
def fb_Pa_endOfMatch_11  (x2 : Int) (x3 : Int) (t : Nat) (σ : kS) : kRes := some (some (-1), σ)
theorem e_Pa_endOfMatch_11 {l : Launch} {G : kG} {yf : Int} {σf : kS}  {x2 : Int} {x3 : Int} {t : Nat} {o4 : Option kV} {o5 : Option kV} {o6 : Option kV} {o7 : Option kV} {σ : kS} (h : fb_Pa_endOfMatch_11  x2 x3 t σ = some (some yf, σf)) : Rn l G dm_Pa_endOfMatch m_Pa_endOfMatch (kI fun y' σ' => y' = yf ∧ σ' = σf) 11 [some (.inr (8, t)), some (.inr (2, 0)), some (.inl x2), some (.inl x3), o4, o5, o6, o7] [] σ := by
  unfold fb_Pa_endOfMatch_11 at h
  simp only [Option.some.injEq, Prod.mk.injEq, true_and] at h
  exact s_Pa_endOfMatch_11  ⟨_, rfl, h⟩
def fb_Pa_endOfMatch_7  (x2 : Int) (x3 : Int) (t : Nat) (σ : kS) : kRes := kg ((-2147483648 ≤ x3 ∧ x3 < 2147483648)) (if x3 = 0 then fb_Pa_endOfMatch_13  x2 x3 t σ else fb_Pa_endOfMatch_11  x2 x3 t σ)
theorem e_Pa_endOfMatch_7 {l : Launch} {G : kG} {yf : Int} {σf : kS}  {x2 : Int} {x3 : Int} {t : Nat} {o4 : Option kV} {o5 : Option kV} {o6 : Option kV} {o7 : Option kV} {σ : kS} (h : fb_Pa_endOfMatch_7  x2 x3 t σ = some (some yf, σf)) : Rn l G dm_Pa_endOfMatch m_Pa_endOfMatch (kI fun y' σ' => y' = yf ∧ σ' = σf) 7 [some (.inr (8, t)), some (.inr (2, 0)), some (.inl x2), some (.inl x3), o4, o5, o6, o7] [] σ := by
  unfold fb_Pa_endOfMatch_7 at h
  obtain ⟨h1, h⟩ := kg_some h
  refine s_Pa_endOfMatch_7 h1 (fun c => ?_) (fun c => ?_)
  · rw [if_pos c] at h
    exact e_Pa_endOfMatch_13  h
  · rw [if_neg c] at h
    exact e_Pa_endOfMatch_11  h
def fb_Pa_endOfMatch_0  (x2 : Int) (x3 : Int) (t : Nat) (σ : kS) : kRes := kg ((-2147483648 ≤ σ 8 t 3 ∧ σ 8 t 3 < 2147483648)) (if (σ 8 t 3) = 0 then fb_Pa_endOfMatch_13  x2 x3 t σ else fb_Pa_endOfMatch_7  x2 x3 t σ)
theorem e_Pa_endOfMatch_0 {l : Launch} {G : kG} {yf : Int} {σf : kS}  {x2 : Int} {x3 : Int} {t : Nat} {o4 : Option kV} {o5 : Option kV} {o6 : Option kV} {o7 : Option kV} {σ : kS} (h : fb_Pa_endOfMatch_0  x2 x3 t σ = some (some yf, σf)) : Rn l G dm_Pa_endOfMatch m_Pa_endOfMatch (kI fun y' σ' => y' = yf ∧ σ' = σf) 0 [some (.inr (8, t)), some (.inr (2, 0)), some (.inl x2), some (.inl x3), o4, o5, o6, o7] [] σ := by
  unfold fb_Pa_endOfMatch_0 at h
  obtain ⟨h1, h⟩ := kg_some h
  refine s_Pa_endOfMatch_0 h1 (fun c => ?_) (fun c => ?_)
  · rw [if_pos c] at h
    exact e_Pa_endOfMatch_13  h
  · rw [if_neg c] at h
    exact e_Pa_endOfMatch_7  h
def f_Pa_endOfMatch (x2 : Int) (x3 : Int) (t : Nat) (σ : kS) : kRes := fb_Pa_endOfMatch_0 x2 x3 t σ
theorem E_Pa_endOfMatch {l : Launch} {G : kG} {yf : Int} {σf : kS} {x2 : Int} {x3 : Int} {t : Nat} {σ : kS} (h : f_Pa_endOfMatch x2 x3 t σ = some (some yf, σf)) : Call l G dm_Pa_endOfMatch y_Pa_endOfMatch m_Pa_endOfMatch [.inr (8, t), .inr (2, 0), .inl x2, .inl x3] σ (kI fun y' σ' => y' = yf ∧ σ' = σf) := by
  unfold f_Pa_endOfMatch at h
  exact Call.of (by decide +kernel) rfl (Nat.le_of_ble_eq_true rfl) (e_Pa_endOfMatch_0 h)
/-! Cl_build -/
def fb_Cl_build_162  (x1 : Int) (x2 : Int) (x3 : Int) (x4 : Int) (x5 : Int) (x6 : Int) (σ : kS) : kRes := kg ((x5 = 0 ∨ x5 = 1)) (some (some x5, σ))
theorem e_Cl_build_162 {l : Launch} {G : kG} {yf : Int} {σf : kS}  {x1 : Int} {x2 : Int} {x3 : Int} {x4 : Int} {x5 : Int} {x6 : Int} {o7 : Option kV} {o8 : Option kV} {σ : kS} (h : fb_Cl_build_162  x1 x2 x3 x4 x5 x6 σ = some (some yf, σf)) : Rn l G dm_Cl_build m_Cl_build (kI fun y' σ' => y' = yf ∧ σ' = σf) 162 [some (.inr (7, 0)), some (.inl x1), some (.inl x2), some (.inl x3), some (.inl x4), some (.inl x5), some (.inl x6), o7, o8] [] σ := by
  unfold fb_Cl_build_162 at h
  obtain ⟨h1, h⟩ := kg_some h
  simp only [Option.some.injEq, Prod.mk.injEq, true_and] at h
  exact s_Cl_build_162 h1 ⟨_, rfl, h⟩
def fb_Cl_build_144  (x1 : Int) (x2 : Int) (x3 : Int) (x4 : Int) (x5 : Int) (x6 : Int) (σ : kS) : kRes := kbu (f_Cl_append (x3 + x4) (x3 + x2) σ) fun σ1 => fb_Cl_build_162  x1 x2 x3 x4 x5 x6 σ1
theorem e_Cl_build_144 {l : Launch} {G : kG} {yf : Int} {σf : kS}  {x1 : Int} {x2 : Int} {x3 : Int} {x4 : Int} {x5 : Int} {x6 : Int} {o7 : Option kV} {o8 : Option kV} {σ : kS} (h : fb_Cl_build_144  x1 x2 x3 x4 x5 x6 σ = some (some yf, σf)) : Rn l G dm_Cl_build m_Cl_build (kI fun y' σ' => y' = yf ∧ σ' = σf) 144 [some (.inr (7, 0)), some (.inl x1), some (.inl x2), some (.inl x3), some (.inl x4), some (.inl x5), some (.inl x6), o7, o8] [] σ := by
  unfold fb_Cl_build_144 at h
  obtain ⟨σ1, hc, h⟩ := kbu_some h
  refine s_Cl_build_144  (by decide) (E_Cl_append hc) (fun σ2 e2 => ?_)
  subst e2
  exact e_Cl_build_162  h
def fb_Cl_build_138 (k28 : Int → Int → Int → Int → Int → Int → kS → kRes) (x1 : Int) (x2 : Int) (x3 : Int) (x4 : Int) (x5 : Int) (x6 : Int) (x7 : Int) (x8 : Int) (σ : kS) : kRes := k28 x1 x2 x3 x4 x5 (x6 + 1) σ
theorem e_Cl_build_138 {l : Launch} {G : kG} {yf : Int} {σf : kS} {k28 : Int → Int → Int → Int → Int → Int → kS → kRes} (hk28 : ∀ (x1 : Int) (x2 : Int) (x3 : Int) (x4 : Int) (x5 : Int) (x6 : Int) (o7 : Option kV) (o8 : Option kV) (σ : kS), k28 x1 x2 x3 x4 x5 x6 σ = some (some yf, σf) → Rn l G dm_Cl_build m_Cl_build (kI fun y' σ' => y' = yf ∧ σ' = σf) 28 [some (.inr (7, 0)), some (.inl x1), some (.inl x2), some (.inl x3), some (.inl x4), some (.inl x5), some (.inl x6), o7, o8] [] σ) {x1 : Int} {x2 : Int} {x3 : Int} {x4 : Int} {x5 : Int} {x6 : Int} {x7 : Int} {x8 : Int}  {σ : kS} (h : fb_Cl_build_138 k28 x1 x2 x3 x4 x5 x6 x7 x8 σ = some (some yf, σf)) : Rn l G dm_Cl_build m_Cl_build (kI fun y' σ' => y' = yf ∧ σ' = σf) 138 [some (.inr (7, 0)), some (.inl x1), some (.inl x2), some (.inl x3), some (.inl x4), some (.inl x5), some (.inl x6), some (.inl x7), some (.inl x8)] [] σ := by
  unfold fb_Cl_build_138 at h
  refine s_Cl_build_138  ?_
  exact hk28 _ _ _ _ _ _ _ _ _ h
def fb_Cl_build_127 (k28 : Int → Int → Int → Int → Int → Int → kS → kRes) (x1 : Int) (x2 : Int) (x3 : Int) (x4 : Int) (x5 : Int) (x6 : Int) (x7 : Int) (x8 : Int) (σ : kS) : kRes := kg ((-2147483648 ≤ x6 ∧ x6 < 2147483648) ∧ (-2147483648 ≤ x7 - 1 ∧ x7 - 1 < 2147483648)) (fb_Cl_build_138 k28 x1 x2 x3 x4 x5 (max x6 (x7 - 1)) x7 x8 σ)
theorem e_Cl_build_127 {l : Launch} {G : kG} {yf : Int} {σf : kS} {k28 : Int → Int → Int → Int → Int → Int → kS → kRes} (hk28 : ∀ (x1 : Int) (x2 : Int) (x3 : Int) (x4 : Int) (x5 : Int) (x6 : Int) (o7 : Option kV) (o8 : Option kV) (σ : kS), k28 x1 x2 x3 x4 x5 x6 σ = some (some yf, σf) → Rn l G dm_Cl_build m_Cl_build (kI fun y' σ' => y' = yf ∧ σ' = σf) 28 [some (.inr (7, 0)), some (.inl x1), some (.inl x2), some (.inl x3), some (.inl x4), some (.inl x5), some (.inl x6), o7, o8] [] σ) {x1 : Int} {x2 : Int} {x3 : Int} {x4 : Int} {x5 : Int} {x6 : Int} {x7 : Int} {x8 : Int}  {σ : kS} (h : fb_Cl_build_127 k28 x1 x2 x3 x4 x5 x6 x7 x8 σ = some (some yf, σf)) : Rn l G dm_Cl_build m_Cl_build (kI fun y' σ' => y' = yf ∧ σ' = σf) 127 [some (.inr (7, 0)), some (.inl x1), some (.inl x2), some (.inl x3), some (.inl x4), some (.inl x5), some (.inl x6), some (.inl x7), some (.inl x8)] [] σ := by
  unfold fb_Cl_build_127 at h
  obtain ⟨⟨h1, h2⟩, h⟩ := kg_some h
  refine s_Cl_build_127 h1 h2 (by decide) ?_
  exact e_Cl_build_138 hk28 h
def fb_Cl_build_124  (x1 : Int) (x2 : Int) (x3 : Int) (x4 : Int) (x5 : Int) (x6 : Int) (x7 : Int) (x8 : Int) (σ : kS) : kRes := fb_Cl_build_144  x1 x2 x3 x4 x5 x6 σ
theorem e_Cl_build_124 {l : Launch} {G : kG} {yf : Int} {σf : kS}  {x1 : Int} {x2 : Int} {x3 : Int} {x4 : Int} {x5 : Int} {x6 : Int} {x7 : Int} {x8 : Int}  {σ : kS} (h : fb_Cl_build_124  x1 x2 x3 x4 x5 x6 x7 x8 σ = some (some yf, σf)) : Rn l G dm_Cl_build m_Cl_build (kI fun y' σ' => y' = yf ∧ σ' = σf) 124 [some (.inr (7, 0)), some (.inl x1), some (.inl x2), some (.inl x3), some (.inl x4), some (.inl x5), some (.inl x6), some (.inl x7), some (.inl x8)] [] σ := by
  unfold fb_Cl_build_124 at h
  refine s_Cl_build_124  ?_
  exact e_Cl_build_144  h
def fb_Cl_build_110 (k28 : Int → Int → Int → Int → Int → Int → kS → kRes) (x1 : Int) (x2 : Int) (x3 : Int) (x4 : Int) (x5 : Int) (x6 : Int) (x7 : Int) (x8 : Int) (σ : kS) : kRes := kg ((-2147483648 ≤ σ 7 0 15 ∧ σ 7 0 15 < 2147483648)) (if (σ 7 0 15) = 0 then fb_Cl_build_124  x1 x2 x3 x7 1 x6 x7 x8 σ else fb_Cl_build_127 k28 x1 x2 x3 x7 1 x6 x7 x8 σ)
theorem e_Cl_build_110 {l : Launch} {G : kG} {yf : Int} {σf : kS} {k28 : Int → Int → Int → Int → Int → Int → kS → kRes} (hk28 : ∀ (x1 : Int) (x2 : Int) (x3 : Int) (x4 : Int) (x5 : Int) (x6 : Int) (o7 : Option kV) (o8 : Option kV) (σ : kS), k28 x1 x2 x3 x4 x5 x6 σ = some (some yf, σf) → Rn l G dm_Cl_build m_Cl_build (kI fun y' σ' => y' = yf ∧ σ' = σf) 28 [some (.inr (7, 0)), some (.inl x1), some (.inl x2), some (.inl x3), some (.inl x4), some (.inl x5), some (.inl x6), o7, o8] [] σ) {x1 : Int} {x2 : Int} {x3 : Int} {x4 : Int} {x5 : Int} {x6 : Int} {x7 : Int} {x8 : Int}  {σ : kS} (h : fb_Cl_build_110 k28 x1 x2 x3 x4 x5 x6 x7 x8 σ = some (some yf, σf)) : Rn l G dm_Cl_build m_Cl_build (kI fun y' σ' => y' = yf ∧ σ' = σf) 110 [some (.inr (7, 0)), some (.inl x1), some (.inl x2), some (.inl x3), some (.inl x4), some (.inl x5), some (.inl x6), some (.inl x7), some (.inl x8)] [] σ := by
  unfold fb_Cl_build_110 at h
  obtain ⟨h1, h⟩ := kg_some h
  refine s_Cl_build_110 h1 (fun c => ?_) (fun c => ?_)
  · rw [if_neg c] at h
    exact e_Cl_build_127 hk28 h
  · rw [if_pos c] at h
    exact e_Cl_build_124  h
def fb_Cl_build_98 (k28 : Int → Int → Int → Int → Int → Int → kS → kRes) (x1 : Int) (x2 : Int) (x3 : Int) (x4 : Int) (x5 : Int) (x6 : Int) (x7 : Int) (x8 : Int) (σ : kS) : kRes := kbu (f_Cl_appendNew (x3 + x6) (x3 + x7) σ) fun σ1 => fb_Cl_build_110 k28 x1 x2 x3 x4 x5 x6 x7 x8 σ1
theorem e_Cl_build_98 {l : Launch} {G : kG} {yf : Int} {σf : kS} {k28 : Int → Int → Int → Int → Int → Int → kS → kRes} (hk28 : ∀ (x1 : Int) (x2 : Int) (x3 : Int) (x4 : Int) (x5 : Int) (x6 : Int) (o7 : Option kV) (o8 : Option kV) (σ : kS), k28 x1 x2 x3 x4 x5 x6 σ = some (some yf, σf) → Rn l G dm_Cl_build m_Cl_build (kI fun y' σ' => y' = yf ∧ σ' = σf) 28 [some (.inr (7, 0)), some (.inl x1), some (.inl x2), some (.inl x3), some (.inl x4), some (.inl x5), some (.inl x6), o7, o8] [] σ) {x1 : Int} {x2 : Int} {x3 : Int} {x4 : Int} {x5 : Int} {x6 : Int} {x7 : Int} {x8 : Int}  {σ : kS} (h : fb_Cl_build_98 k28 x1 x2 x3 x4 x5 x6 x7 x8 σ = some (some yf, σf)) : Rn l G dm_Cl_build m_Cl_build (kI fun y' σ' => y' = yf ∧ σ' = σf) 98 [some (.inr (7, 0)), some (.inl x1), some (.inl x2), some (.inl x3), some (.inl x4), some (.inl x5), some (.inl x6), some (.inl x7), some (.inl x8)] [] σ := by
  unfold fb_Cl_build_98 at h
  obtain ⟨σ1, hc, h⟩ := kbu_some h
  refine s_Cl_build_98  (by decide) (E_Cl_appendNew hc) (fun σ2 e2 => ?_)
  subst e2
  exact e_Cl_build_110 hk28 h
def fb_Cl_build_79 (k28 : Int → Int → Int → Int → Int → Int → kS → kRes) (x1 : Int) (x2 : Int) (x3 : Int) (x4 : Int) (x5 : Int) (x6 : Int) (x7 : Int) (x8 : Int) (σ : kS) : kRes := kbu (f_Cl_append (x3 + x4) (x3 + x6) σ) fun σ1 => fb_Cl_build_98 k28 x1 x2 x3 x4 x5 x6 x7 x8 σ1
theorem e_Cl_build_79 {l : Launch} {G : kG} {yf : Int} {σf : kS} {k28 : Int → Int → Int → Int → Int → Int → kS → kRes} (hk28 : ∀ (x1 : Int) (x2 : Int) (x3 : Int) (x4 : Int) (x5 : Int) (x6 : Int) (o7 : Option kV) (o8 : Option kV) (σ : kS), k28 x1 x2 x3 x4 x5 x6 σ = some (some yf, σf) → Rn l G dm_Cl_build m_Cl_build (kI fun y' σ' => y' = yf ∧ σ' = σf) 28 [some (.inr (7, 0)), some (.inl x1), some (.inl x2), some (.inl x3), some (.inl x4), some (.inl x5), some (.inl x6), o7, o8] [] σ) {x1 : Int} {x2 : Int} {x3 : Int} {x4 : Int} {x5 : Int} {x6 : Int} {x7 : Int} {x8 : Int}  {σ : kS} (h : fb_Cl_build_79 k28 x1 x2 x3 x4 x5 x6 x7 x8 σ = some (some yf, σf)) : Rn l G dm_Cl_build m_Cl_build (kI fun y' σ' => y' = yf ∧ σ' = σf) 79 [some (.inr (7, 0)), some (.inl x1), some (.inl x2), some (.inl x3), some (.inl x4), some (.inl x5), some (.inl x6), some (.inl x7), some (.inl x8)] [] σ := by
  unfold fb_Cl_build_79 at h
  obtain ⟨σ1, hc, h⟩ := kbu_some h
  refine s_Cl_build_79  (by decide) (E_Cl_append hc) (fun σ2 e2 => ?_)
  subst e2
  exact e_Cl_build_98 hk28 h
def fb_Cl_build_74 (k28 : Int → Int → Int → Int → Int → Int → kS → kRes) (x1 : Int) (x2 : Int) (x3 : Int) (x4 : Int) (x5 : Int) (x6 : Int) (x7 : Int) (x8 : Int) (σ : kS) : kRes := kg ((-2147483648 ≤ x8 ∧ x8 < 2147483648)) (if x8 = 0 then fb_Cl_build_79 k28 x1 x2 x3 x4 x5 x6 x7 x8 σ else fb_Cl_build_138 k28 x1 x2 x3 x4 x5 x6 x7 x8 σ)
theorem e_Cl_build_74 {l : Launch} {G : kG} {yf : Int} {σf : kS} {k28 : Int → Int → Int → Int → Int → Int → kS → kRes} (hk28 : ∀ (x1 : Int) (x2 : Int) (x3 : Int) (x4 : Int) (x5 : Int) (x6 : Int) (o7 : Option kV) (o8 : Option kV) (σ : kS), k28 x1 x2 x3 x4 x5 x6 σ = some (some yf, σf) → Rn l G dm_Cl_build m_Cl_build (kI fun y' σ' => y' = yf ∧ σ' = σf) 28 [some (.inr (7, 0)), some (.inl x1), some (.inl x2), some (.inl x3), some (.inl x4), some (.inl x5), some (.inl x6), o7, o8] [] σ) {x1 : Int} {x2 : Int} {x3 : Int} {x4 : Int} {x5 : Int} {x6 : Int} {x7 : Int} {x8 : Int}  {σ : kS} (h : fb_Cl_build_74 k28 x1 x2 x3 x4 x5 x6 x7 x8 σ = some (some yf, σf)) : Rn l G dm_Cl_build m_Cl_build (kI fun y' σ' => y' = yf ∧ σ' = σf) 74 [some (.inr (7, 0)), some (.inl x1), some (.inl x2), some (.inl x3), some (.inl x4), some (.inl x5), some (.inl x6), some (.inl x7), some (.inl x8)] [] σ := by
  unfold fb_Cl_build_74 at h
  obtain ⟨h1, h⟩ := kg_some h
  refine s_Cl_build_74 h1 (fun c => ?_) (fun c => ?_)
  · rw [if_neg c] at h
    exact e_Cl_build_138 hk28 h
  · rw [if_pos c] at h
    exact e_Cl_build_79 hk28 h
def fb_Cl_build_67 (k28 : Int → Int → Int → Int → Int → Int → kS → kRes) (x1 : Int) (x2 : Int) (x3 : Int) (x4 : Int) (x5 : Int) (x6 : Int) (x7 : Int) (s0 : Int) (σ : kS) : kRes := kg ((-2147483648 ≤ x7 ∧ x7 < 2147483648)) (if x7 < 0 then fb_Cl_build_138 k28 x1 x2 x3 x4 x5 x6 x7 s0 σ else fb_Cl_build_74 k28 x1 x2 x3 x4 x5 x6 x7 s0 σ)
theorem e_Cl_build_67 {l : Launch} {G : kG} {yf : Int} {σf : kS} {k28 : Int → Int → Int → Int → Int → Int → kS → kRes} (hk28 : ∀ (x1 : Int) (x2 : Int) (x3 : Int) (x4 : Int) (x5 : Int) (x6 : Int) (o7 : Option kV) (o8 : Option kV) (σ : kS), k28 x1 x2 x3 x4 x5 x6 σ = some (some yf, σf) → Rn l G dm_Cl_build m_Cl_build (kI fun y' σ' => y' = yf ∧ σ' = σf) 28 [some (.inr (7, 0)), some (.inl x1), some (.inl x2), some (.inl x3), some (.inl x4), some (.inl x5), some (.inl x6), o7, o8] [] σ) {x1 : Int} {x2 : Int} {x3 : Int} {x4 : Int} {x5 : Int} {x6 : Int} {x7 : Int} {s0 : Int} {o8 : Option kV} {σ : kS} (h : fb_Cl_build_67 k28 x1 x2 x3 x4 x5 x6 x7 s0 σ = some (some yf, σf)) : Rn l G dm_Cl_build m_Cl_build (kI fun y' σ' => y' = yf ∧ σ' = σf) 67 [some (.inr (7, 0)), some (.inl x1), some (.inl x2), some (.inl x3), some (.inl x4), some (.inl x5), some (.inl x6), some (.inl x7), o8] [.inl s0] σ := by
  unfold fb_Cl_build_67 at h
  obtain ⟨h1, h⟩ := kg_some h
  refine s_Cl_build_67 h1 (fun c => ?_) (fun c => ?_)
  · rw [if_pos c] at h
    exact e_Cl_build_138 hk28 h
  · rw [if_neg c] at h
    exact e_Cl_build_74 hk28 h
def fb_Cl_build_66 (k28 : Int → Int → Int → Int → Int → Int → kS → kRes) (x1 : Int) (x2 : Int) (x3 : Int) (x4 : Int) (x5 : Int) (x6 : Int) (x7 : Int) (σ : kS) : kRes := fb_Cl_build_67 k28 x1 x2 x3 x4 x5 x6 x7 0 σ
theorem e_Cl_build_66 {l : Launch} {G : kG} {yf : Int} {σf : kS} {k28 : Int → Int → Int → Int → Int → Int → kS → kRes} (hk28 : ∀ (x1 : Int) (x2 : Int) (x3 : Int) (x4 : Int) (x5 : Int) (x6 : Int) (o7 : Option kV) (o8 : Option kV) (σ : kS), k28 x1 x2 x3 x4 x5 x6 σ = some (some yf, σf) → Rn l G dm_Cl_build m_Cl_build (kI fun y' σ' => y' = yf ∧ σ' = σf) 28 [some (.inr (7, 0)), some (.inl x1), some (.inl x2), some (.inl x3), some (.inl x4), some (.inl x5), some (.inl x6), o7, o8] [] σ) {x1 : Int} {x2 : Int} {x3 : Int} {x4 : Int} {x5 : Int} {x6 : Int} {x7 : Int} {o8 : Option kV} {σ : kS} (h : fb_Cl_build_66 k28 x1 x2 x3 x4 x5 x6 x7 σ = some (some yf, σf)) : Rn l G dm_Cl_build m_Cl_build (kI fun y' σ' => y' = yf ∧ σ' = σf) 66 [some (.inr (7, 0)), some (.inl x1), some (.inl x2), some (.inl x3), some (.inl x4), some (.inl x5), some (.inl x6), some (.inl x7), o8] [] σ := by
  unfold fb_Cl_build_66 at h
  refine s_Cl_build_66  ?_
  exact e_Cl_build_67 hk28 h
def fb_Cl_build_62 (k28 : Int → Int → Int → Int → Int → Int → kS → kRes) (x1 : Int) (x2 : Int) (x3 : Int) (x4 : Int) (x5 : Int) (x6 : Int) (x7 : Int) (σ : kS) : kRes := fb_Cl_build_67 k28 x1 x2 x3 x4 x5 x6 x7 1 σ
theorem e_Cl_build_62 {l : Launch} {G : kG} {yf : Int} {σf : kS} {k28 : Int → Int → Int → Int → Int → Int → kS → kRes} (hk28 : ∀ (x1 : Int) (x2 : Int) (x3 : Int) (x4 : Int) (x5 : Int) (x6 : Int) (o7 : Option kV) (o8 : Option kV) (σ : kS), k28 x1 x2 x3 x4 x5 x6 σ = some (some yf, σf) → Rn l G dm_Cl_build m_Cl_build (kI fun y' σ' => y' = yf ∧ σ' = σf) 28 [some (.inr (7, 0)), some (.inl x1), some (.inl x2), some (.inl x3), some (.inl x4), some (.inl x5), some (.inl x6), o7, o8] [] σ) {x1 : Int} {x2 : Int} {x3 : Int} {x4 : Int} {x5 : Int} {x6 : Int} {x7 : Int} {o8 : Option kV} {σ : kS} (h : fb_Cl_build_62 k28 x1 x2 x3 x4 x5 x6 x7 σ = some (some yf, σf)) : Rn l G dm_Cl_build m_Cl_build (kI fun y' σ' => y' = yf ∧ σ' = σf) 62 [some (.inr (7, 0)), some (.inl x1), some (.inl x2), some (.inl x3), some (.inl x4), some (.inl x5), some (.inl x6), some (.inl x7), o8] [] σ := by
  unfold fb_Cl_build_62 at h
  refine s_Cl_build_62  ?_
  exact e_Cl_build_67 hk28 h
def fb_Cl_build_55 (k28 : Int → Int → Int → Int → Int → Int → kS → kRes) (x1 : Int) (x2 : Int) (x3 : Int) (x4 : Int) (x5 : Int) (x6 : Int) (x7 : Int) (σ : kS) : kRes := kg ((-2147483648 ≤ x7 ∧ x7 < 2147483648) ∧ (-2147483648 ≤ x4 ∧ x4 < 2147483648)) (if x7 = x4 then fb_Cl_build_62 k28 x1 x2 x3 x4 x5 x6 x7 σ else fb_Cl_build_66 k28 x1 x2 x3 x4 x5 x6 x7 σ)
theorem e_Cl_build_55 {l : Launch} {G : kG} {yf : Int} {σf : kS} {k28 : Int → Int → Int → Int → Int → Int → kS → kRes} (hk28 : ∀ (x1 : Int) (x2 : Int) (x3 : Int) (x4 : Int) (x5 : Int) (x6 : Int) (o7 : Option kV) (o8 : Option kV) (σ : kS), k28 x1 x2 x3 x4 x5 x6 σ = some (some yf, σf) → Rn l G dm_Cl_build m_Cl_build (kI fun y' σ' => y' = yf ∧ σ' = σf) 28 [some (.inr (7, 0)), some (.inl x1), some (.inl x2), some (.inl x3), some (.inl x4), some (.inl x5), some (.inl x6), o7, o8] [] σ) {x1 : Int} {x2 : Int} {x3 : Int} {x4 : Int} {x5 : Int} {x6 : Int} {x7 : Int} {o8 : Option kV} {σ : kS} (h : fb_Cl_build_55 k28 x1 x2 x3 x4 x5 x6 x7 σ = some (some yf, σf)) : Rn l G dm_Cl_build m_Cl_build (kI fun y' σ' => y' = yf ∧ σ' = σf) 55 [some (.inr (7, 0)), some (.inl x1), some (.inl x2), some (.inl x3), some (.inl x4), some (.inl x5), some (.inl x6), some (.inl x7), o8] [] σ := by
  unfold fb_Cl_build_55 at h
  obtain ⟨⟨h1, h2⟩, h⟩ := kg_some h
  refine s_Cl_build_55 h1 h2 (fun c => ?_) (fun c => ?_)
  · rw [if_neg c] at h
    exact e_Cl_build_66 hk28 h
  · rw [if_pos c] at h
    exact e_Cl_build_62 hk28 h
def fb_Cl_build_48 (k28 : Int → Int → Int → Int → Int → Int → kS → kRes) (x1 : Int) (x2 : Int) (x3 : Int) (x4 : Int) (x5 : Int) (x6 : Int) (s0 : Int) (σ : kS) : kRes := kg ((-2147483648 ≤ x5 ∧ x5 < 2147483648)) (if x5 = 0 then fb_Cl_build_66 k28 x1 x2 x3 x4 x5 x6 s0 σ else fb_Cl_build_55 k28 x1 x2 x3 x4 x5 x6 s0 σ)
theorem e_Cl_build_48 {l : Launch} {G : kG} {yf : Int} {σf : kS} {k28 : Int → Int → Int → Int → Int → Int → kS → kRes} (hk28 : ∀ (x1 : Int) (x2 : Int) (x3 : Int) (x4 : Int) (x5 : Int) (x6 : Int) (o7 : Option kV) (o8 : Option kV) (σ : kS), k28 x1 x2 x3 x4 x5 x6 σ = some (some yf, σf) → Rn l G dm_Cl_build m_Cl_build (kI fun y' σ' => y' = yf ∧ σ' = σf) 28 [some (.inr (7, 0)), some (.inl x1), some (.inl x2), some (.inl x3), some (.inl x4), some (.inl x5), some (.inl x6), o7, o8] [] σ) {x1 : Int} {x2 : Int} {x3 : Int} {x4 : Int} {x5 : Int} {x6 : Int} {s0 : Int} {o7 : Option kV} {o8 : Option kV} {σ : kS} (h : fb_Cl_build_48 k28 x1 x2 x3 x4 x5 x6 s0 σ = some (some yf, σf)) : Rn l G dm_Cl_build m_Cl_build (kI fun y' σ' => y' = yf ∧ σ' = σf) 48 [some (.inr (7, 0)), some (.inl x1), some (.inl x2), some (.inl x3), some (.inl x4), some (.inl x5), some (.inl x6), o7, o8] [.inl s0] σ := by
  unfold fb_Cl_build_48 at h
  obtain ⟨h1, h⟩ := kg_some h
  refine s_Cl_build_48 h1 (fun c => ?_) (fun c => ?_)
  · rw [if_pos c] at h
    exact e_Cl_build_66 hk28 h
  · rw [if_neg c] at h
    exact e_Cl_build_55 hk28 h
def fb_Cl_build_34 (k28 : Int → Int → Int → Int → Int → Int → kS → kRes) (x1 : Int) (x2 : Int) (x3 : Int) (x4 : Int) (x5 : Int) (x6 : Int) (σ : kS) : kRes := kbi (f_Pa_endOfMatch x1 x6 0 σ) fun y σ1 => fb_Cl_build_48 k28 x1 x2 x3 x4 x5 x6 y σ1
theorem e_Cl_build_34 {l : Launch} {G : kG} {yf : Int} {σf : kS} {k28 : Int → Int → Int → Int → Int → Int → kS → kRes} (hk28 : ∀ (x1 : Int) (x2 : Int) (x3 : Int) (x4 : Int) (x5 : Int) (x6 : Int) (o7 : Option kV) (o8 : Option kV) (σ : kS), k28 x1 x2 x3 x4 x5 x6 σ = some (some yf, σf) → Rn l G dm_Cl_build m_Cl_build (kI fun y' σ' => y' = yf ∧ σ' = σf) 28 [some (.inr (7, 0)), some (.inl x1), some (.inl x2), some (.inl x3), some (.inl x4), some (.inl x5), some (.inl x6), o7, o8] [] σ) {x1 : Int} {x2 : Int} {x3 : Int} {x4 : Int} {x5 : Int} {x6 : Int} {o7 : Option kV} {o8 : Option kV} {σ : kS} (h : fb_Cl_build_34 k28 x1 x2 x3 x4 x5 x6 σ = some (some yf, σf)) : Rn l G dm_Cl_build m_Cl_build (kI fun y' σ' => y' = yf ∧ σ' = σf) 34 [some (.inr (7, 0)), some (.inl x1), some (.inl x2), some (.inl x3), some (.inl x4), some (.inl x5), some (.inl x6), o7, o8] [] σ := by
  unfold fb_Cl_build_34 at h
  obtain ⟨y, σ1, hc, h⟩ := kbi_some h
  refine s_Cl_build_34  (by decide) (E_Pa_endOfMatch hc) (fun y2 σ2 e2 => ?_)
  obtain ⟨rfl, rfl⟩ := e2
  exact e_Cl_build_48 hk28 h
def fb_Cl_build_28 (k28 : Int → Int → Int → Int → Int → Int → kS → kRes) (x1 : Int) (x2 : Int) (x3 : Int) (x4 : Int) (x5 : Int) (x6 : Int) (σ : kS) : kRes := kg ((-2147483648 ≤ x6 ∧ x6 < 2147483648) ∧ (-2147483648 ≤ x2 ∧ x2 < 2147483648)) (if x2 < x6 then fb_Cl_build_144  x1 x2 x3 x4 x5 x6 σ else fb_Cl_build_34 k28 x1 x2 x3 x4 x5 x6 σ)
theorem e_Cl_build_28 {l : Launch} {G : kG} {yf : Int} {σf : kS} {k28 : Int → Int → Int → Int → Int → Int → kS → kRes} (hk28 : ∀ (x1 : Int) (x2 : Int) (x3 : Int) (x4 : Int) (x5 : Int) (x6 : Int) (o7 : Option kV) (o8 : Option kV) (σ : kS), k28 x1 x2 x3 x4 x5 x6 σ = some (some yf, σf) → Rn l G dm_Cl_build m_Cl_build (kI fun y' σ' => y' = yf ∧ σ' = σf) 28 [some (.inr (7, 0)), some (.inl x1), some (.inl x2), some (.inl x3), some (.inl x4), some (.inl x5), some (.inl x6), o7, o8] [] σ) {x1 : Int} {x2 : Int} {x3 : Int} {x4 : Int} {x5 : Int} {x6 : Int} {o7 : Option kV} {o8 : Option kV} {σ : kS} (h : fb_Cl_build_28 k28 x1 x2 x3 x4 x5 x6 σ = some (some yf, σf)) : Rn l G dm_Cl_build m_Cl_build (kI fun y' σ' => y' = yf ∧ σ' = σf) 28 [some (.inr (7, 0)), some (.inl x1), some (.inl x2), some (.inl x3), some (.inl x4), some (.inl x5), some (.inl x6), o7, o8] [] σ := by
  unfold fb_Cl_build_28 at h
  obtain ⟨⟨h1, h2⟩, h⟩ := kg_some h
  refine s_Cl_build_28 h1 h2 (fun c => ?_) (fun c => ?_)
  · rw [if_pos c] at h
    exact e_Cl_build_144  h
  · rw [if_neg c] at h
    exact e_Cl_build_34 hk28 h
def fl_Cl_build_28  : Nat → Int → Int → Int → Int → Int → Int → kS → kRes
  | 0, _, _, _, _, _, _, _ => none
  | n + 1, x1, x2, x3, x4, x5, x6, σ => fb_Cl_build_28 (fl_Cl_build_28  n) x1 x2 x3 x4 x5 x6 σ
theorem el_Cl_build_28 {l : Launch} {G : kG} {yf : Int} {σf : kS}  : ∀ (n : Nat) (x1 : Int) (x2 : Int) (x3 : Int) (x4 : Int) (x5 : Int) (x6 : Int) (o7 : Option kV) (o8 : Option kV) (σ : kS), fl_Cl_build_28  n x1 x2 x3 x4 x5 x6 σ = some (some yf, σf) → Rn l G dm_Cl_build m_Cl_build (kI fun y' σ' => y' = yf ∧ σ' = σf) 28 [some (.inr (7, 0)), some (.inl x1), some (.inl x2), some (.inl x3), some (.inl x4), some (.inl x5), some (.inl x6), o7, o8] [] σ := by
  intro n
  induction n with
  | zero => intro x1 x2 x3 x4 x5 x6 o7 o8 σ h; simp only [fl_Cl_build_28] at h; cases h
  | succ n ih => intro x1 x2 x3 x4 x5 x6 o7 o8 σ h; simp only [fl_Cl_build_28] at h; exact e_Cl_build_28 ih h
def fb_Cl_build_8  (x1 : Int) (s0 : Int) (σ : kS) : kRes := fl_Cl_build_28  3000 x1 s0 (x1 * 20) 0 0 0 (kup σ 7 0 6 0)
theorem e_Cl_build_8 {l : Launch} {G : kG} {yf : Int} {σf : kS}  {x1 : Int} {s0 : Int} {o2 : Option kV} {o3 : Option kV} {o4 : Option kV} {o5 : Option kV} {o6 : Option kV} {o7 : Option kV} {o8 : Option kV} {σ : kS} (h : fb_Cl_build_8  x1 s0 σ = some (some yf, σf)) : Rn l G dm_Cl_build m_Cl_build (kI fun y' σ' => y' = yf ∧ σ' = σf) 8 [some (.inr (7, 0)), some (.inl x1), o2, o3, o4, o5, o6, o7, o8] [.inl s0] σ := by
  unfold fb_Cl_build_8 at h
  refine s_Cl_build_8  ?_
  exact el_Cl_build_28  _ _ _ _ _ _ _ _ _ _ h
def fb_Cl_build_0  (x1 : Int) (σ : kS) : kRes := kbi (f_Te_sizeOf x1 0 σ) fun y σ1 => fb_Cl_build_8  x1 y σ1
theorem e_Cl_build_0 {l : Launch} {G : kG} {yf : Int} {σf : kS}  {x1 : Int} {o2 : Option kV} {o3 : Option kV} {o4 : Option kV} {o5 : Option kV} {o6 : Option kV} {o7 : Option kV} {o8 : Option kV} {σ : kS} (h : fb_Cl_build_0  x1 σ = some (some yf, σf)) : Rn l G dm_Cl_build m_Cl_build (kI fun y' σ' => y' = yf ∧ σ' = σf) 0 [some (.inr (7, 0)), some (.inl x1), o2, o3, o4, o5, o6, o7, o8] [] σ := by
  unfold fb_Cl_build_0 at h
  obtain ⟨y, σ1, hc, h⟩ := kbi_some h
  refine s_Cl_build_0  (by decide) (E_Te_sizeOf hc) (fun y2 σ2 e2 => ?_)
  obtain ⟨rfl, rfl⟩ := e2
  exact e_Cl_build_8  h
def f_Cl_build (x1 : Int) (σ : kS) : kRes := fb_Cl_build_0 x1 σ
theorem E_Cl_build {l : Launch} {G : kG} {yf : Int} {σf : kS} {x1 : Int} {σ : kS} (h : f_Cl_build x1 σ = some (some yf, σf)) : Call l G dm_Cl_build y_Cl_build m_Cl_build [.inr (7, 0), .inl x1] σ (kI fun y' σ' => y' = yf ∧ σ' = σf) := by
  unfold f_Cl_build at h
  exact Call.of (by decide +kernel) rfl (Nat.le_of_ble_eq_true rfl) (e_Cl_build_0 h)
/-! Te_closeLines -/
def fb_Te_closeLines_68  (x1 : Int) (x2 : Int) (x3 : Int) (t : Nat) (σ : kS) : kRes := some (none, kup σ 2 t 2 ((σ 2 t 2) - ((x2 - x1) + 1)))
theorem e_Te_closeLines_68 {l : Launch} {G : kG} {σf : kS}  {x1 : Int} {x2 : Int} {x3 : Int} {t : Nat}  {σ : kS} (h : fb_Te_closeLines_68  x1 x2 x3 t σ = some (none, σf)) : Rn l G dm_Te_closeLines m_Te_closeLines (kU fun σ' => σ' = σf) 68 [some (.inr (2, t)), some (.inl x1), some (.inl x2), some (.inl x3)] [] σ := by
  unfold fb_Te_closeLines_68 at h
  simp only [Option.some.injEq, Prod.mk.injEq, true_and] at h
  exact s_Te_closeLines_68  ⟨rfl, h⟩
def fb_Te_closeLines_52  (x1 : Int) (x2 : Int) (x3 : Int) (t : Nat) (σ : kS) : kRes := kg (((0 : Int) ≤ (x2 + 1) ∧ (0 : Int) ≤ x1 ∧ (0 : Int) ≤ x3 ∧ (x2 + 1) + x3 ≤ ((10 : Nat) : Int) ∧ x1 + x3 ≤ ((10 : Nat) : Int))) (fb_Te_closeLines_68  x1 x2 x3 t (kupA σ 11 t (va_cpy (σ 11 t) (σ 11 t) (Int.toNat (x2 + 1)) (Int.toNat x1) (Int.toNat x3))))
theorem e_Te_closeLines_52 {l : Launch} {G : kG} {σf : kS}  {x1 : Int} {x2 : Int} {x3 : Int} {t : Nat}  {σ : kS} (h : fb_Te_closeLines_52  x1 x2 x3 t σ = some (none, σf)) : Rn l G dm_Te_closeLines m_Te_closeLines (kU fun σ' => σ' = σf) 52 [some (.inr (2, t)), some (.inl x1), some (.inl x2), some (.inl x3)] [] σ := by
  unfold fb_Te_closeLines_52 at h
  obtain ⟨h1, h⟩ := kg_some h
  refine s_Te_closeLines_52 h1 (by decide) ?_
  exact e_Te_closeLines_68  h
def fb_Te_closeLines_18  (x1 : Int) (x2 : Int) (t : Nat) (σ : kS) : kRes := kg (((0 : Int) ≤ ((x2 + 1) * 20) ∧ (0 : Int) ≤ (x1 * 20) ∧ (0 : Int) ≤ ((((σ 2 t 2) - x2) - 1) * 20) ∧ ((x2 + 1) * 20) + ((((σ 2 t 2) - x2) - 1) * 20) ≤ ((200 : Nat) : Int) ∧ (x1 * 20) + ((((σ 2 t 2) - x2) - 1) * 20) ≤ ((200 : Nat) : Int))) (fb_Te_closeLines_52  x1 x2 (((σ 2 t 2) - x2) - 1) t (kupA σ 10 t (va_cpy (σ 10 t) (σ 10 t) (Int.toNat ((x2 + 1) * 20)) (Int.toNat (x1 * 20)) (Int.toNat ((((σ 2 t 2) - x2) - 1) * 20)))))
theorem e_Te_closeLines_18 {l : Launch} {G : kG} {σf : kS}  {x1 : Int} {x2 : Int} {t : Nat} {o3 : Option kV} {σ : kS} (h : fb_Te_closeLines_18  x1 x2 t σ = some (none, σf)) : Rn l G dm_Te_closeLines m_Te_closeLines (kU fun σ' => σ' = σf) 18 [some (.inr (2, t)), some (.inl x1), some (.inl x2), o3] [] σ := by
  unfold fb_Te_closeLines_18 at h
  obtain ⟨h1, h⟩ := kg_some h
  refine s_Te_closeLines_18 h1 (by decide) ?_
  exact e_Te_closeLines_52  h
def fb_Te_closeLines_17  (x1 : Int) (x2 : Int) (t : Nat) (σ : kS) : kRes := some (none, σ)
theorem e_Te_closeLines_17 {l : Launch} {G : kG} {σf : kS}  {x1 : Int} {x2 : Int} {t : Nat} {o3 : Option kV} {σ : kS} (h : fb_Te_closeLines_17  x1 x2 t σ = some (none, σf)) : Rn l G dm_Te_closeLines m_Te_closeLines (kU fun σ' => σ' = σf) 17 [some (.inr (2, t)), some (.inl x1), some (.inl x2), o3] [] σ := by
  unfold fb_Te_closeLines_17 at h
  simp only [Option.some.injEq, Prod.mk.injEq, true_and] at h
  exact s_Te_closeLines_17  ⟨rfl, h⟩
def fb_Te_closeLines_9  (x1 : Int) (x2 : Int) (t : Nat) (σ : kS) : kRes := kg ((-2147483648 ≤ x2 ∧ x2 < 2147483648) ∧ (-2147483648 ≤ σ 2 t 2 ∧ σ 2 t 2 < 2147483648)) (if x2 < (σ 2 t 2) then fb_Te_closeLines_18  x1 x2 t σ else fb_Te_closeLines_17  x1 x2 t σ)
theorem e_Te_closeLines_9 {l : Launch} {G : kG} {σf : kS}  {x1 : Int} {x2 : Int} {t : Nat} {o3 : Option kV} {σ : kS} (h : fb_Te_closeLines_9  x1 x2 t σ = some (none, σf)) : Rn l G dm_Te_closeLines m_Te_closeLines (kU fun σ' => σ' = σf) 9 [some (.inr (2, t)), some (.inl x1), some (.inl x2), o3] [] σ := by
  unfold fb_Te_closeLines_9 at h
  obtain ⟨⟨h1, h2⟩, h⟩ := kg_some h
  refine s_Te_closeLines_9 h1 h2 (fun c => ?_) (fun c => ?_)
  · rw [if_pos c] at h
    exact e_Te_closeLines_18  h
  · rw [if_neg c] at h
    exact e_Te_closeLines_17  h
def fb_Te_closeLines_4  (x1 : Int) (x2 : Int) (t : Nat) (σ : kS) : kRes := kg ((-2147483648 ≤ x2 ∧ x2 < 2147483648) ∧ (-2147483648 ≤ x1 ∧ x1 < 2147483648)) (if x2 < x1 then fb_Te_closeLines_17  x1 x2 t σ else fb_Te_closeLines_9  x1 x2 t σ)
theorem e_Te_closeLines_4 {l : Launch} {G : kG} {σf : kS}  {x1 : Int} {x2 : Int} {t : Nat} {o3 : Option kV} {σ : kS} (h : fb_Te_closeLines_4  x1 x2 t σ = some (none, σf)) : Rn l G dm_Te_closeLines m_Te_closeLines (kU fun σ' => σ' = σf) 4 [some (.inr (2, t)), some (.inl x1), some (.inl x2), o3] [] σ := by
  unfold fb_Te_closeLines_4 at h
  obtain ⟨⟨h1, h2⟩, h⟩ := kg_some h
  refine s_Te_closeLines_4 h1 h2 (fun c => ?_) (fun c => ?_)
  · rw [if_pos c] at h
    exact e_Te_closeLines_17  h
  · rw [if_neg c] at h
    exact e_Te_closeLines_9  h
def fb_Te_closeLines_0  (x1 : Int) (x2 : Int) (t : Nat) (σ : kS) : kRes := kg ((-2147483648 ≤ x1 ∧ x1 < 2147483648)) (if x1 < 0 then fb_Te_closeLines_17  x1 x2 t σ else fb_Te_closeLines_4  x1 x2 t σ)
theorem e_Te_closeLines_0 {l : Launch} {G : kG} {σf : kS}  {x1 : Int} {x2 : Int} {t : Nat} {o3 : Option kV} {σ : kS} (h : fb_Te_closeLines_0  x1 x2 t σ = some (none, σf)) : Rn l G dm_Te_closeLines m_Te_closeLines (kU fun σ' => σ' = σf) 0 [some (.inr (2, t)), some (.inl x1), some (.inl x2), o3] [] σ := by
  unfold fb_Te_closeLines_0 at h
  obtain ⟨h1, h⟩ := kg_some h
  refine s_Te_closeLines_0 h1 (fun c => ?_) (fun c => ?_)
  · rw [if_pos c] at h
    exact e_Te_closeLines_17  h
  · rw [if_neg c] at h
    exact e_Te_closeLines_4  h
def f_Te_closeLines (x1 : Int) (x2 : Int) (t : Nat) (σ : kS) : kRes := fb_Te_closeLines_0 x1 x2 t σ
theorem E_Te_closeLines {l : Launch} {G : kG} {σf : kS} {x1 : Int} {x2 : Int} {t : Nat} {σ : kS} (h : f_Te_closeLines x1 x2 t σ = some (none, σf)) : Call l G dm_Te_closeLines y_Te_closeLines m_Te_closeLines [.inr (2, t), .inl x1, .inl x2] σ (kU fun σ' => σ' = σf) := by
  unfold f_Te_closeLines at h
  exact Call.of (by decide +kernel) rfl (Nat.le_of_ble_eq_true rfl) (e_Te_closeLines_0 h)
/-! Te_reset -/
def fb_Te_reset_0  (t : Nat) (σ : kS) : kRes := some (none, kup (kup (kup (kup σ 2 t 2 1) 11 t 0 0) 2 t 3 0) 2 t 4 0)
theorem e_Te_reset_0 {l : Launch} {G : kG} {σf : kS}  {t : Nat}  {σ : kS} (h : fb_Te_reset_0  t σ = some (none, σf)) : Rn l G dm_Te_reset m_Te_reset (kU fun σ' => σ' = σf) 0 [some (.inr (2, t))] [] σ := by
  unfold fb_Te_reset_0 at h
  simp only [Option.some.injEq, Prod.mk.injEq, true_and] at h
  exact s_Te_reset_0  ⟨rfl, h⟩
def f_Te_reset (t : Nat) (σ : kS) : kRes := fb_Te_reset_0 t σ
theorem E_Te_reset {l : Launch} {G : kG} {σf : kS} {t : Nat} {σ : kS} (h : f_Te_reset t σ = some (none, σf)) : Call l G dm_Te_reset y_Te_reset m_Te_reset [.inr (2, t)] σ (kU fun σ' => σ' = σf) := by
  unfold f_Te_reset at h
  exact Call.of (by decide +kernel) rfl (Nat.le_of_ble_eq_true rfl) (e_Te_reset_0 h)
/-! Te_stand -/
def fb_Te_stand_0  (x1 : Int) (x2 : Int) (t : Nat) (σ : kS) : kRes := kg ((-2147483648 ≤ x1 ∧ x1 < 2147483648) ∧ (-2147483648 ≤ (σ 2 t 2) - 1 ∧ (σ 2 t 2) - 1 < 2147483648) ∧ (-2147483648 ≤ min x1 ((σ 2 t 2) - 1) ∧ min x1 ((σ 2 t 2) - 1) < 2147483648) ∧ (0 ≤ (kup σ 2 t 3 (max 0 (min x1 ((σ 2 t 2) - 1)))) 2 t 3 ∧ (kup σ 2 t 3 (max 0 (min x1 ((σ 2 t 2) - 1)))) 2 t 3 < (10 : Nat)) ∧ (-2147483648 ≤ x2 ∧ x2 < 2147483648) ∧ (-2147483648 ≤ ((kup σ 2 t 3 (max 0 (min x1 ((σ 2 t 2) - 1)))) 11 t (Int.toNat ((kup σ 2 t 3 (max 0 (min x1 ((σ 2 t 2) - 1)))) 2 t 3))) - 1 ∧ ((kup σ 2 t 3 (max 0 (min x1 ((σ 2 t 2) - 1)))) 11 t (Int.toNat ((kup σ 2 t 3 (max 0 (min x1 ((σ 2 t 2) - 1)))) 2 t 3))) - 1 < 2147483648) ∧ (-2147483648 ≤ min x2 (((kup σ 2 t 3 (max 0 (min x1 ((σ 2 t 2) - 1)))) 11 t (Int.toNat ((kup σ 2 t 3 (max 0 (min x1 ((σ 2 t 2) - 1)))) 2 t 3))) - 1) ∧ min x2 (((kup σ 2 t 3 (max 0 (min x1 ((σ 2 t 2) - 1)))) 11 t (Int.toNat ((kup σ 2 t 3 (max 0 (min x1 ((σ 2 t 2) - 1)))) 2 t 3))) - 1) < 2147483648)) (some (none, kup (kup σ 2 t 3 (max 0 (min x1 ((σ 2 t 2) - 1)))) 2 t 4 (max 0 (min x2 (((kup σ 2 t 3 (max 0 (min x1 ((σ 2 t 2) - 1)))) 11 t (Int.toNat ((kup σ 2 t 3 (max 0 (min x1 ((σ 2 t 2) - 1)))) 2 t 3))) - 1)))))
theorem e_Te_stand_0 {l : Launch} {G : kG} {σf : kS}  {x1 : Int} {x2 : Int} {t : Nat}  {σ : kS} (h : fb_Te_stand_0  x1 x2 t σ = some (none, σf)) : Rn l G dm_Te_stand m_Te_stand (kU fun σ' => σ' = σf) 0 [some (.inr (2, t)), some (.inl x1), some (.inl x2)] [] σ := by
  unfold fb_Te_stand_0 at h
  obtain ⟨⟨h1, h2, h4, h5, h6, h7, h8⟩, h⟩ := kg_some h
  simp only [Option.some.injEq, Prod.mk.injEq, true_and] at h
  exact s_Te_stand_0 h1 h2 (by decide) h4 h5 h6 h7 h8 ⟨rfl, h⟩
def f_Te_stand (x1 : Int) (x2 : Int) (t : Nat) (σ : kS) : kRes := fb_Te_stand_0 x1 x2 t σ
theorem E_Te_stand {l : Launch} {G : kG} {σf : kS} {x1 : Int} {x2 : Int} {t : Nat} {σ : kS} (h : f_Te_stand x1 x2 t σ = some (none, σf)) : Call l G dm_Te_stand y_Te_stand m_Te_stand [.inr (2, t), .inl x1, .inl x2] σ (kU fun σ' => σ' = σf) := by
  unfold f_Te_stand at h
  exact Call.of (by decide +kernel) rfl (Nat.le_of_ble_eq_true rfl) (e_Te_stand_0 h)
/-! De_dropLines -/
def fb_De_dropLines_35  (x1 : Int) (x2 : Int) (σ : kS) : kRes := some (none, σ)
theorem e_De_dropLines_35 {l : Launch} {G : kG} {σf : kS}  {x1 : Int} {x2 : Int}  {σ : kS} (h : fb_De_dropLines_35  x1 x2 σ = some (none, σf)) : Rn l G dm_De_dropLines m_De_dropLines (kU fun σ' => σ' = σf) 35 [some (.inr (1, 0)), some (.inl x1), some (.inl x2)] [] σ := by
  unfold fb_De_dropLines_35 at h
  simp only [Option.some.injEq, Prod.mk.injEq, true_and] at h
  exact s_De_dropLines_35  ⟨rfl, h⟩
def fb_De_dropLines_26  (x1 : Int) (x2 : Int) (σ : kS) : kRes := kbu (f_Te_stand x1 0 0 σ) fun σ1 => fb_De_dropLines_35  x1 x2 σ1
theorem e_De_dropLines_26 {l : Launch} {G : kG} {σf : kS}  {x1 : Int} {x2 : Int}  {σ : kS} (h : fb_De_dropLines_26  x1 x2 σ = some (none, σf)) : Rn l G dm_De_dropLines m_De_dropLines (kU fun σ' => σ' = σf) 26 [some (.inr (1, 0)), some (.inl x1), some (.inl x2)] [] σ := by
  unfold fb_De_dropLines_26 at h
  obtain ⟨σ1, hc, h⟩ := kbu_some h
  refine s_De_dropLines_26  (by decide) (E_Te_stand hc) (fun σ2 e2 => ?_)
  subst e2
  exact e_De_dropLines_35  h
def fb_De_dropLines_19  (x1 : Int) (x2 : Int) (σ : kS) : kRes := kbu (f_Te_reset 0 σ) fun σ1 => fb_De_dropLines_26  x1 x2 σ1
theorem e_De_dropLines_19 {l : Launch} {G : kG} {σf : kS}  {x1 : Int} {x2 : Int}  {σ : kS} (h : fb_De_dropLines_19  x1 x2 σ = some (none, σf)) : Rn l G dm_De_dropLines m_De_dropLines (kU fun σ' => σ' = σf) 19 [some (.inr (1, 0)), some (.inl x1), some (.inl x2)] [] σ := by
  unfold fb_De_dropLines_19 at h
  obtain ⟨σ1, hc, h⟩ := kbu_some h
  refine s_De_dropLines_19  (by decide) (E_Te_reset hc) (fun σ2 e2 => ?_)
  subst e2
  exact e_De_dropLines_26  h
def fb_De_dropLines_9  (x1 : Int) (x2 : Int) (σ : kS) : kRes := kg ((-2147483648 ≤ σ 2 0 2 ∧ σ 2 0 2 < 2147483648)) (if (σ 2 0 2) = 0 then fb_De_dropLines_19  x1 x2 σ else fb_De_dropLines_26  x1 x2 σ)
theorem e_De_dropLines_9 {l : Launch} {G : kG} {σf : kS}  {x1 : Int} {x2 : Int}  {σ : kS} (h : fb_De_dropLines_9  x1 x2 σ = some (none, σf)) : Rn l G dm_De_dropLines m_De_dropLines (kU fun σ' => σ' = σf) 9 [some (.inr (1, 0)), some (.inl x1), some (.inl x2)] [] σ := by
  unfold fb_De_dropLines_9 at h
  obtain ⟨h1, h⟩ := kg_some h
  refine s_De_dropLines_9 h1 (fun c => ?_) (fun c => ?_)
  · rw [if_neg c] at h
    exact e_De_dropLines_26  h
  · rw [if_pos c] at h
    exact e_De_dropLines_19  h
def fb_De_dropLines_0  (x1 : Int) (x2 : Int) (σ : kS) : kRes := kbu (f_Te_closeLines x1 x2 0 σ) fun σ1 => fb_De_dropLines_9  x1 x2 σ1
theorem e_De_dropLines_0 {l : Launch} {G : kG} {σf : kS}  {x1 : Int} {x2 : Int}  {σ : kS} (h : fb_De_dropLines_0  x1 x2 σ = some (none, σf)) : Rn l G dm_De_dropLines m_De_dropLines (kU fun σ' => σ' = σf) 0 [some (.inr (1, 0)), some (.inl x1), some (.inl x2)] [] σ := by
  unfold fb_De_dropLines_0 at h
  obtain ⟨σ1, hc, h⟩ := kbu_some h
  refine s_De_dropLines_0  (by decide) (E_Te_closeLines hc) (fun σ2 e2 => ?_)
  subst e2
  exact e_De_dropLines_9  h
def f_De_dropLines (x1 : Int) (x2 : Int) (σ : kS) : kRes := fb_De_dropLines_0 x1 x2 σ
theorem E_De_dropLines {l : Launch} {G : kG} {σf : kS} {x1 : Int} {x2 : Int} {σ : kS} (h : f_De_dropLines x1 x2 σ = some (none, σf)) : Call l G dm_De_dropLines y_De_dropLines m_De_dropLines [.inr (1, 0), .inl x1, .inl x2] σ (kU fun σ' => σ' = σf) := by
  unfold f_De_dropLines at h
  exact Call.of (by decide +kernel) rfl (Nat.le_of_ble_eq_true rfl) (e_De_dropLines_0 h)
/-! Te_copyLines -/
def fb_Te_copyLines_67  (x2 : Int) (x3 : Int) (t : Nat) (u : Nat) (σ : kS) : kRes := some (none, σ)
theorem e_Te_copyLines_67 {l : Launch} {G : kG} {σf : kS}  {x2 : Int} {x3 : Int} {t : Nat} {u : Nat}  {σ : kS} (h : fb_Te_copyLines_67  x2 x3 t u σ = some (none, σf)) : Rn l G dm_Te_copyLines m_Te_copyLines (kU fun σ' => σ' = σf) 67 [some (.inr (2, t)), some (.inr (2, u)), some (.inl x2), some (.inl x3)] [] σ := by
  unfold fb_Te_copyLines_67 at h
  simp only [Option.some.injEq, Prod.mk.injEq, true_and] at h
  exact s_Te_copyLines_67  ⟨rfl, h⟩
def fb_Te_copyLines_50  (x2 : Int) (x3 : Int) (t : Nat) (u : Nat) (σ : kS) : kRes := kg (((0 : Int) ≤ x2 ∧ (0 : Int) ≤ 0 ∧ (0 : Int) ≤ (σ 2 t 2) ∧ x2 + (σ 2 t 2) ≤ ((10 : Nat) : Int) ∧ 0 + (σ 2 t 2) ≤ ((10 : Nat) : Int))) (fb_Te_copyLines_67  x2 x3 t u (kupA σ 11 t (va_cpy (σ 11 u) (σ 11 t) (Int.toNat x2) (0) (Int.toNat (σ 2 t 2)))))
theorem e_Te_copyLines_50 {l : Launch} {G : kG} {σf : kS}  {x2 : Int} {x3 : Int} {t : Nat} {u : Nat}  {σ : kS} (h : fb_Te_copyLines_50  x2 x3 t u σ = some (none, σf)) : Rn l G dm_Te_copyLines m_Te_copyLines (kU fun σ' => σ' = σf) 50 [some (.inr (2, t)), some (.inr (2, u)), some (.inl x2), some (.inl x3)] [] σ := by
  unfold fb_Te_copyLines_50 at h
  obtain ⟨h1, h⟩ := kg_some h
  refine s_Te_copyLines_50 h1 (by decide) ?_
  exact e_Te_copyLines_67  h
def fb_Te_copyLines_18  (x2 : Int) (x3 : Int) (t : Nat) (u : Nat) (σ : kS) : kRes := kg (((0 : Int) ≤ (x2 * 20) ∧ (0 : Int) ≤ 0 ∧ (0 : Int) ≤ (((kup σ 2 t 2 ((x3 - x2) + 1)) 2 t 2) * 20) ∧ (x2 * 20) + (((kup σ 2 t 2 ((x3 - x2) + 1)) 2 t 2) * 20) ≤ ((200 : Nat) : Int) ∧ 0 + (((kup σ 2 t 2 ((x3 - x2) + 1)) 2 t 2) * 20) ≤ ((200 : Nat) : Int))) (fb_Te_copyLines_50  x2 x3 t u (kupA (kup σ 2 t 2 ((x3 - x2) + 1)) 10 t (va_cpy ((kup σ 2 t 2 ((x3 - x2) + 1)) 10 u) ((kup σ 2 t 2 ((x3 - x2) + 1)) 10 t) (Int.toNat (x2 * 20)) (0) (Int.toNat (((kup σ 2 t 2 ((x3 - x2) + 1)) 2 t 2) * 20)))))
theorem e_Te_copyLines_18 {l : Launch} {G : kG} {σf : kS}  {x2 : Int} {x3 : Int} {t : Nat} {u : Nat}  {σ : kS} (h : fb_Te_copyLines_18  x2 x3 t u σ = some (none, σf)) : Rn l G dm_Te_copyLines m_Te_copyLines (kU fun σ' => σ' = σf) 18 [some (.inr (2, t)), some (.inr (2, u)), some (.inl x2), some (.inl x3)] [] σ := by
  unfold fb_Te_copyLines_18 at h
  obtain ⟨h1, h⟩ := kg_some h
  refine s_Te_copyLines_18 h1 (by decide) ?_
  exact e_Te_copyLines_50  h
def fb_Te_copyLines_17  (x2 : Int) (x3 : Int) (t : Nat) (u : Nat) (σ : kS) : kRes := some (none, σ)
theorem e_Te_copyLines_17 {l : Launch} {G : kG} {σf : kS}  {x2 : Int} {x3 : Int} {t : Nat} {u : Nat}  {σ : kS} (h : fb_Te_copyLines_17  x2 x3 t u σ = some (none, σf)) : Rn l G dm_Te_copyLines m_Te_copyLines (kU fun σ' => σ' = σf) 17 [some (.inr (2, t)), some (.inr (2, u)), some (.inl x2), some (.inl x3)] [] σ := by
  unfold fb_Te_copyLines_17 at h
  simp only [Option.some.injEq, Prod.mk.injEq, true_and] at h
  exact s_Te_copyLines_17  ⟨rfl, h⟩
def fb_Te_copyLines_9  (x2 : Int) (x3 : Int) (t : Nat) (u : Nat) (σ : kS) : kRes := kg ((-2147483648 ≤ x3 ∧ x3 < 2147483648) ∧ (-2147483648 ≤ σ 2 u 2 ∧ σ 2 u 2 < 2147483648)) (if x3 < (σ 2 u 2) then fb_Te_copyLines_18  x2 x3 t u σ else fb_Te_copyLines_17  x2 x3 t u σ)
theorem e_Te_copyLines_9 {l : Launch} {G : kG} {σf : kS}  {x2 : Int} {x3 : Int} {t : Nat} {u : Nat}  {σ : kS} (h : fb_Te_copyLines_9  x2 x3 t u σ = some (none, σf)) : Rn l G dm_Te_copyLines m_Te_copyLines (kU fun σ' => σ' = σf) 9 [some (.inr (2, t)), some (.inr (2, u)), some (.inl x2), some (.inl x3)] [] σ := by
  unfold fb_Te_copyLines_9 at h
  obtain ⟨⟨h1, h2⟩, h⟩ := kg_some h
  refine s_Te_copyLines_9 h1 h2 (fun c => ?_) (fun c => ?_)
  · rw [if_pos c] at h
    exact e_Te_copyLines_18  h
  · rw [if_neg c] at h
    exact e_Te_copyLines_17  h
def fb_Te_copyLines_4  (x2 : Int) (x3 : Int) (t : Nat) (u : Nat) (σ : kS) : kRes := kg ((-2147483648 ≤ x3 ∧ x3 < 2147483648) ∧ (-2147483648 ≤ x2 ∧ x2 < 2147483648)) (if x3 < x2 then fb_Te_copyLines_17  x2 x3 t u σ else fb_Te_copyLines_9  x2 x3 t u σ)
theorem e_Te_copyLines_4 {l : Launch} {G : kG} {σf : kS}  {x2 : Int} {x3 : Int} {t : Nat} {u : Nat}  {σ : kS} (h : fb_Te_copyLines_4  x2 x3 t u σ = some (none, σf)) : Rn l G dm_Te_copyLines m_Te_copyLines (kU fun σ' => σ' = σf) 4 [some (.inr (2, t)), some (.inr (2, u)), some (.inl x2), some (.inl x3)] [] σ := by
  unfold fb_Te_copyLines_4 at h
  obtain ⟨⟨h1, h2⟩, h⟩ := kg_some h
  refine s_Te_copyLines_4 h1 h2 (fun c => ?_) (fun c => ?_)
  · rw [if_pos c] at h
    exact e_Te_copyLines_17  h
  · rw [if_neg c] at h
    exact e_Te_copyLines_9  h
def fb_Te_copyLines_0  (x2 : Int) (x3 : Int) (t : Nat) (u : Nat) (σ : kS) : kRes := kg ((-2147483648 ≤ x2 ∧ x2 < 2147483648)) (if x2 < 0 then fb_Te_copyLines_17  x2 x3 t u σ else fb_Te_copyLines_4  x2 x3 t u σ)
theorem e_Te_copyLines_0 {l : Launch} {G : kG} {σf : kS}  {x2 : Int} {x3 : Int} {t : Nat} {u : Nat}  {σ : kS} (h : fb_Te_copyLines_0  x2 x3 t u σ = some (none, σf)) : Rn l G dm_Te_copyLines m_Te_copyLines (kU fun σ' => σ' = σf) 0 [some (.inr (2, t)), some (.inr (2, u)), some (.inl x2), some (.inl x3)] [] σ := by
  unfold fb_Te_copyLines_0 at h
  obtain ⟨h1, h⟩ := kg_some h
  refine s_Te_copyLines_0 h1 (fun c => ?_) (fun c => ?_)
  · rw [if_pos c] at h
    exact e_Te_copyLines_17  h
  · rw [if_neg c] at h
    exact e_Te_copyLines_4  h
def f_Te_copyLines (x2 : Int) (x3 : Int) (t : Nat) (u : Nat) (σ : kS) : kRes := fb_Te_copyLines_0 x2 x3 t u σ
theorem E_Te_copyLines {l : Launch} {G : kG} {σf : kS} {x2 : Int} {x3 : Int} {t : Nat} {u : Nat} {σ : kS} (h : f_Te_copyLines x2 x3 t u σ = some (none, σf)) : Call l G dm_Te_copyLines y_Te_copyLines m_Te_copyLines [.inr (2, t), .inr (2, u), .inl x2, .inl x3] σ (kU fun σ' => σ' = σf) := by
  unfold f_Te_copyLines at h
  exact Call.of (by decide +kernel) rfl (Nat.le_of_ble_eq_true rfl) (e_Te_copyLines_0 h)
/-! De_holdLines -/
def fb_De_holdLines_13  (x1 : Int) (x2 : Int) (σ : kS) : kRes := some (none, kup σ 1 0 4 (σ 2 3 2))
theorem e_De_holdLines_13 {l : Launch} {G : kG} {σf : kS}  {x1 : Int} {x2 : Int}  {σ : kS} (h : fb_De_holdLines_13  x1 x2 σ = some (none, σf)) : Rn l G dm_De_holdLines m_De_holdLines (kU fun σ' => σ' = σf) 13 [some (.inr (1, 0)), some (.inl x1), some (.inl x2)] [] σ := by
  unfold fb_De_holdLines_13 at h
  simp only [Option.some.injEq, Prod.mk.injEq, true_and] at h
  exact s_De_holdLines_13  ⟨rfl, h⟩
def fb_De_holdLines_0  (x1 : Int) (x2 : Int) (σ : kS) : kRes := kbu (f_Te_copyLines x1 x2 3 0 σ) fun σ1 => fb_De_holdLines_13  x1 x2 σ1
theorem e_De_holdLines_0 {l : Launch} {G : kG} {σf : kS}  {x1 : Int} {x2 : Int}  {σ : kS} (h : fb_De_holdLines_0  x1 x2 σ = some (none, σf)) : Rn l G dm_De_holdLines m_De_holdLines (kU fun σ' => σ' = σf) 0 [some (.inr (1, 0)), some (.inl x1), some (.inl x2)] [] σ := by
  unfold fb_De_holdLines_0 at h
  obtain ⟨σ1, hc, h⟩ := kbu_some h
  refine s_De_holdLines_0  (by decide) (E_Te_copyLines hc) (fun σ2 e2 => ?_)
  subst e2
  exact e_De_holdLines_13  h
def f_De_holdLines (x1 : Int) (x2 : Int) (σ : kS) : kRes := fb_De_holdLines_0 x1 x2 σ
theorem E_De_holdLines {l : Launch} {G : kG} {σf : kS} {x1 : Int} {x2 : Int} {σ : kS} (h : f_De_holdLines x1 x2 σ = some (none, σf)) : Call l G dm_De_holdLines y_De_holdLines m_De_holdLines [.inr (1, 0), .inl x1, .inl x2] σ (kU fun σ' => σ' = σf) := by
  unfold f_De_holdLines at h
  exact Call.of (by decide +kernel) rfl (Nat.le_of_ble_eq_true rfl) (e_De_holdLines_0 h)
/-! Cl_deleteLines -/
def fb_Cl_deleteLines_96  (x1 : Int) (x2 : Int) (x3 : Int) (σ : kS) : kRes := some (none, σ)
theorem e_Cl_deleteLines_96 {l : Launch} {G : kG} {σf : kS}  {x1 : Int} {x2 : Int} {x3 : Int}  {σ : kS} (h : fb_Cl_deleteLines_96  x1 x2 x3 σ = some (none, σf)) : Rn l G dm_Cl_deleteLines m_Cl_deleteLines (kU fun σ' => σ' = σf) 96 [some (.inr (7, 0)), some (.inl x1), some (.inl x2), some (.inl x3)] [] σ := by
  unfold fb_Cl_deleteLines_96 at h
  simp only [Option.some.injEq, Prod.mk.injEq, true_and] at h
  exact s_Cl_deleteLines_96  ⟨rfl, h⟩
def fb_Cl_deleteLines_90 (k45 : Int → Int → Int → kS → kRes) (x1 : Int) (x2 : Int) (x3 : Int) (σ : kS) : kRes := k45 x1 x2 (x3 + 1) σ
theorem e_Cl_deleteLines_90 {l : Launch} {G : kG} {σf : kS} {k45 : Int → Int → Int → kS → kRes} (hk45 : ∀ (x1 : Int) (x2 : Int) (x3 : Int)  (σ : kS), k45 x1 x2 x3 σ = some (none, σf) → Rn l G dm_Cl_deleteLines m_Cl_deleteLines (kU fun σ' => σ' = σf) 45 [some (.inr (7, 0)), some (.inl x1), some (.inl x2), some (.inl x3)] [] σ) {x1 : Int} {x2 : Int} {x3 : Int}  {σ : kS} (h : fb_Cl_deleteLines_90 k45 x1 x2 x3 σ = some (none, σf)) : Rn l G dm_Cl_deleteLines m_Cl_deleteLines (kU fun σ' => σ' = σf) 90 [some (.inr (7, 0)), some (.inl x1), some (.inl x2), some (.inl x3)] [] σ := by
  unfold fb_Cl_deleteLines_90 at h
  refine s_Cl_deleteLines_90  ?_
  exact hk45 _ _ _ _ h
def fb_Cl_deleteLines_87 (k45 : Int → Int → Int → kS → kRes) (x1 : Int) (x2 : Int) (x3 : Int) (σ : kS) : kRes := fb_Cl_deleteLines_90 k45 x1 (x2 + 1) x3 σ
theorem e_Cl_deleteLines_87 {l : Launch} {G : kG} {σf : kS} {k45 : Int → Int → Int → kS → kRes} (hk45 : ∀ (x1 : Int) (x2 : Int) (x3 : Int)  (σ : kS), k45 x1 x2 x3 σ = some (none, σf) → Rn l G dm_Cl_deleteLines m_Cl_deleteLines (kU fun σ' => σ' = σf) 45 [some (.inr (7, 0)), some (.inl x1), some (.inl x2), some (.inl x3)] [] σ) {x1 : Int} {x2 : Int} {x3 : Int}  {σ : kS} (h : fb_Cl_deleteLines_87 k45 x1 x2 x3 σ = some (none, σf)) : Rn l G dm_Cl_deleteLines m_Cl_deleteLines (kU fun σ' => σ' = σf) 87 [some (.inr (7, 0)), some (.inl x1), some (.inl x2), some (.inl x3)] [] σ := by
  unfold fb_Cl_deleteLines_87 at h
  refine s_Cl_deleteLines_87  ?_
  exact e_Cl_deleteLines_90 hk45 h
def fb_Cl_deleteLines_74 (k45 : Int → Int → Int → kS → kRes) (x1 : Int) (x2 : Int) (x3 : Int) (σ : kS) : kRes := kbu (f_De_dropLines (x3 - x2) (x3 - x2) σ) fun σ1 => fb_Cl_deleteLines_87 k45 x1 x2 x3 σ1
theorem e_Cl_deleteLines_74 {l : Launch} {G : kG} {σf : kS} {k45 : Int → Int → Int → kS → kRes} (hk45 : ∀ (x1 : Int) (x2 : Int) (x3 : Int)  (σ : kS), k45 x1 x2 x3 σ = some (none, σf) → Rn l G dm_Cl_deleteLines m_Cl_deleteLines (kU fun σ' => σ' = σf) 45 [some (.inr (7, 0)), some (.inl x1), some (.inl x2), some (.inl x3)] [] σ) {x1 : Int} {x2 : Int} {x3 : Int}  {σ : kS} (h : fb_Cl_deleteLines_74 k45 x1 x2 x3 σ = some (none, σf)) : Rn l G dm_Cl_deleteLines m_Cl_deleteLines (kU fun σ' => σ' = σf) 74 [some (.inr (7, 0)), some (.inl x1), some (.inl x2), some (.inl x3)] [] σ := by
  unfold fb_Cl_deleteLines_74 at h
  obtain ⟨σ1, hc, h⟩ := kbu_some h
  refine s_Cl_deleteLines_74  (by decide) (E_De_dropLines hc) (fun σ2 e2 => ?_)
  subst e2
  exact e_Cl_deleteLines_87 hk45 h
def fb_Cl_deleteLines_61 (k45 : Int → Int → Int → kS → kRes) (x1 : Int) (x2 : Int) (x3 : Int) (σ : kS) : kRes := kbu (f_De_holdLines (x3 - x2) (x3 - x2) σ) fun σ1 => fb_Cl_deleteLines_74 k45 x1 x2 x3 σ1
theorem e_Cl_deleteLines_61 {l : Launch} {G : kG} {σf : kS} {k45 : Int → Int → Int → kS → kRes} (hk45 : ∀ (x1 : Int) (x2 : Int) (x3 : Int)  (σ : kS), k45 x1 x2 x3 σ = some (none, σf) → Rn l G dm_Cl_deleteLines m_Cl_deleteLines (kU fun σ' => σ' = σf) 45 [some (.inr (7, 0)), some (.inl x1), some (.inl x2), some (.inl x3)] [] σ) {x1 : Int} {x2 : Int} {x3 : Int}  {σ : kS} (h : fb_Cl_deleteLines_61 k45 x1 x2 x3 σ = some (none, σf)) : Rn l G dm_Cl_deleteLines m_Cl_deleteLines (kU fun σ' => σ' = σf) 61 [some (.inr (7, 0)), some (.inl x1), some (.inl x2), some (.inl x3)] [] σ := by
  unfold fb_Cl_deleteLines_61 at h
  obtain ⟨σ1, hc, h⟩ := kbu_some h
  refine s_Cl_deleteLines_61  (by decide) (E_De_holdLines hc) (fun σ2 e2 => ?_)
  subst e2
  exact e_Cl_deleteLines_74 hk45 h
def fb_Cl_deleteLines_53 (k45 : Int → Int → Int → kS → kRes) (x1 : Int) (x2 : Int) (x3 : Int) (σ : kS) : kRes := kg ((-2147483648 ≤ kand (kshr x1 x3) 1 ∧ kand (kshr x1 x3) 1 < 2147483648)) (if (kand (kshr x1 x3) 1) = 0 then fb_Cl_deleteLines_90 k45 x1 x2 x3 σ else fb_Cl_deleteLines_61 k45 x1 x2 x3 σ)
theorem e_Cl_deleteLines_53 {l : Launch} {G : kG} {σf : kS} {k45 : Int → Int → Int → kS → kRes} (hk45 : ∀ (x1 : Int) (x2 : Int) (x3 : Int)  (σ : kS), k45 x1 x2 x3 σ = some (none, σf) → Rn l G dm_Cl_deleteLines m_Cl_deleteLines (kU fun σ' => σ' = σf) 45 [some (.inr (7, 0)), some (.inl x1), some (.inl x2), some (.inl x3)] [] σ) {x1 : Int} {x2 : Int} {x3 : Int}  {σ : kS} (h : fb_Cl_deleteLines_53 k45 x1 x2 x3 σ = some (none, σf)) : Rn l G dm_Cl_deleteLines m_Cl_deleteLines (kU fun σ' => σ' = σf) 53 [some (.inr (7, 0)), some (.inl x1), some (.inl x2), some (.inl x3)] [] σ := by
  unfold fb_Cl_deleteLines_53 at h
  obtain ⟨h1, h⟩ := kg_some h
  refine s_Cl_deleteLines_53 h1 (fun c => ?_) (fun c => ?_)
  · rw [if_pos c] at h
    exact e_Cl_deleteLines_90 hk45 h
  · rw [if_neg c] at h
    exact e_Cl_deleteLines_61 hk45 h
def fb_Cl_deleteLines_45 (k45 : Int → Int → Int → kS → kRes) (x1 : Int) (x2 : Int) (x3 : Int) (σ : kS) : kRes := kg ((-2147483648 ≤ x3 ∧ x3 < 2147483648) ∧ (-2147483648 ≤ σ 7 0 12 ∧ σ 7 0 12 < 2147483648)) (if (σ 7 0 12) < x3 then fb_Cl_deleteLines_96  x1 x2 x3 σ else fb_Cl_deleteLines_53 k45 x1 x2 x3 σ)
theorem e_Cl_deleteLines_45 {l : Launch} {G : kG} {σf : kS} {k45 : Int → Int → Int → kS → kRes} (hk45 : ∀ (x1 : Int) (x2 : Int) (x3 : Int)  (σ : kS), k45 x1 x2 x3 σ = some (none, σf) → Rn l G dm_Cl_deleteLines m_Cl_deleteLines (kU fun σ' => σ' = σf) 45 [some (.inr (7, 0)), some (.inl x1), some (.inl x2), some (.inl x3)] [] σ) {x1 : Int} {x2 : Int} {x3 : Int}  {σ : kS} (h : fb_Cl_deleteLines_45 k45 x1 x2 x3 σ = some (none, σf)) : Rn l G dm_Cl_deleteLines m_Cl_deleteLines (kU fun σ' => σ' = σf) 45 [some (.inr (7, 0)), some (.inl x1), some (.inl x2), some (.inl x3)] [] σ := by
  unfold fb_Cl_deleteLines_45 at h
  obtain ⟨⟨h1, h2⟩, h⟩ := kg_some h
  refine s_Cl_deleteLines_45 h1 h2 (fun c => ?_) (fun c => ?_)
  · rw [if_pos c] at h
    exact e_Cl_deleteLines_96  h
  · rw [if_neg c] at h
    exact e_Cl_deleteLines_53 hk45 h
def fl_Cl_deleteLines_45  : Nat → Int → Int → Int → kS → kRes
  | 0, _, _, _, _ => none
  | n + 1, x1, x2, x3, σ => fb_Cl_deleteLines_45 (fl_Cl_deleteLines_45  n) x1 x2 x3 σ
theorem el_Cl_deleteLines_45 {l : Launch} {G : kG} {σf : kS}  : ∀ (n : Nat) (x1 : Int) (x2 : Int) (x3 : Int)  (σ : kS), fl_Cl_deleteLines_45  n x1 x2 x3 σ = some (none, σf) → Rn l G dm_Cl_deleteLines m_Cl_deleteLines (kU fun σ' => σ' = σf) 45 [some (.inr (7, 0)), some (.inl x1), some (.inl x2), some (.inl x3)] [] σ := by
  intro n
  induction n with
  | zero => intro x1 x2 x3 σ h; simp only [fl_Cl_deleteLines_45] at h; cases h
  | succ n ih => intro x1 x2 x3 σ h; simp only [fl_Cl_deleteLines_45] at h; exact e_Cl_deleteLines_45 ih h
def fb_Cl_deleteLines_38  (x1 : Int) (σ : kS) : kRes := fl_Cl_deleteLines_45  3000 x1 0 (σ 7 0 11) σ
theorem e_Cl_deleteLines_38 {l : Launch} {G : kG} {σf : kS}  {x1 : Int} {o2 : Option kV} {o3 : Option kV} {σ : kS} (h : fb_Cl_deleteLines_38  x1 σ = some (none, σf)) : Rn l G dm_Cl_deleteLines m_Cl_deleteLines (kU fun σ' => σ' = σf) 38 [some (.inr (7, 0)), some (.inl x1), o2, o3] [] σ := by
  unfold fb_Cl_deleteLines_38 at h
  refine s_Cl_deleteLines_38  ?_
  exact el_Cl_deleteLines_45  _ _ _ _ _ h
def fb_Cl_deleteLines_37  (x1 : Int) (σ : kS) : kRes := some (none, σ)
theorem e_Cl_deleteLines_37 {l : Launch} {G : kG} {σf : kS}  {x1 : Int} {o2 : Option kV} {o3 : Option kV} {σ : kS} (h : fb_Cl_deleteLines_37  x1 σ = some (none, σf)) : Rn l G dm_Cl_deleteLines m_Cl_deleteLines (kU fun σ' => σ' = σf) 37 [some (.inr (7, 0)), some (.inl x1), o2, o3] [] σ := by
  unfold fb_Cl_deleteLines_37 at h
  simp only [Option.some.injEq, Prod.mk.injEq, true_and] at h
  exact s_Cl_deleteLines_37  ⟨rfl, h⟩
def fb_Cl_deleteLines_22  (x1 : Int) (σ : kS) : kRes := kbu (f_De_dropLines (σ 7 0 11) (σ 7 0 12) σ) fun σ1 => fb_Cl_deleteLines_37  x1 σ1
theorem e_Cl_deleteLines_22 {l : Launch} {G : kG} {σf : kS}  {x1 : Int} {o2 : Option kV} {o3 : Option kV} {σ : kS} (h : fb_Cl_deleteLines_22  x1 σ = some (none, σf)) : Rn l G dm_Cl_deleteLines m_Cl_deleteLines (kU fun σ' => σ' = σf) 22 [some (.inr (7, 0)), some (.inl x1), o2, o3] [] σ := by
  unfold fb_Cl_deleteLines_22 at h
  obtain ⟨σ1, hc, h⟩ := kbu_some h
  refine s_Cl_deleteLines_22  (by decide) (E_De_dropLines hc) (fun σ2 e2 => ?_)
  subst e2
  exact e_Cl_deleteLines_37  h
def fb_Cl_deleteLines_7  (x1 : Int) (σ : kS) : kRes := kbu (f_De_holdLines (σ 7 0 11) (σ 7 0 12) σ) fun σ1 => fb_Cl_deleteLines_22  x1 σ1
theorem e_Cl_deleteLines_7 {l : Launch} {G : kG} {σf : kS}  {x1 : Int} {o2 : Option kV} {o3 : Option kV} {σ : kS} (h : fb_Cl_deleteLines_7  x1 σ = some (none, σf)) : Rn l G dm_Cl_deleteLines m_Cl_deleteLines (kU fun σ' => σ' = σf) 7 [some (.inr (7, 0)), some (.inl x1), o2, o3] [] σ := by
  unfold fb_Cl_deleteLines_7 at h
  obtain ⟨σ1, hc, h⟩ := kbu_some h
  refine s_Cl_deleteLines_7  (by decide) (E_De_holdLines hc) (fun σ2 e2 => ?_)
  subst e2
  exact e_Cl_deleteLines_22  h
def fb_Cl_deleteLines_0  (x1 : Int) (σ : kS) : kRes := kg ((-2147483648 ≤ σ 7 0 13 ∧ σ 7 0 13 < 2147483648)) (if (σ 7 0 13) = 0 then fb_Cl_deleteLines_7  x1 σ else fb_Cl_deleteLines_38  x1 σ)
theorem e_Cl_deleteLines_0 {l : Launch} {G : kG} {σf : kS}  {x1 : Int} {o2 : Option kV} {o3 : Option kV} {σ : kS} (h : fb_Cl_deleteLines_0  x1 σ = some (none, σf)) : Rn l G dm_Cl_deleteLines m_Cl_deleteLines (kU fun σ' => σ' = σf) 0 [some (.inr (7, 0)), some (.inl x1), o2, o3] [] σ := by
  unfold fb_Cl_deleteLines_0 at h
  obtain ⟨h1, h⟩ := kg_some h
  refine s_Cl_deleteLines_0 h1 (fun c => ?_) (fun c => ?_)
  · rw [if_neg c] at h
    exact e_Cl_deleteLines_38  h
  · rw [if_pos c] at h
    exact e_Cl_deleteLines_7  h
def f_Cl_deleteLines (x1 : Int) (σ : kS) : kRes := fb_Cl_deleteLines_0 x1 σ
theorem E_Cl_deleteLines {l : Launch} {G : kG} {σf : kS} {x1 : Int} {σ : kS} (h : f_Cl_deleteLines x1 σ = some (none, σf)) : Call l G dm_Cl_deleteLines y_Cl_deleteLines m_Cl_deleteLines [.inr (7, 0), .inl x1] σ (kU fun σ' => σ' = σf) := by
  unfold f_Cl_deleteLines at h
  exact Call.of (by decide +kernel) rfl (Nat.le_of_ble_eq_true rfl) (e_Cl_deleteLines_0 h)
