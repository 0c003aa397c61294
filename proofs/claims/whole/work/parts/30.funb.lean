/-! Te_closeLetters -/
def fb_Te_closeLetters_65  (x1 : Int) (x2 : Int) (x3 : Int) (x4 : Int) (t : Nat) (σ : kS) : kRes := kg ((0 ≤ x1 ∧ x1 < (10 : Nat))) (some (none, kup σ 11 t (Int.toNat x1) ((σ 11 t (Int.toNat x1)) - (x3 - x2))))
theorem e_Te_closeLetters_65 {l : Launch} {G : kG} {σf : kS}  {x1 : Int} {x2 : Int} {x3 : Int} {x4 : Int} {t : Nat}  {σ : kS} (h : fb_Te_closeLetters_65  x1 x2 x3 x4 t σ = some (none, σf)) : Rn l G dm_Te_closeLetters m_Te_closeLetters (kU fun σ' => σ' = σf) 65 [some (.inr (2, t)), some (.inl x1), some (.inl x2), some (.inl x3), some (.inl x4)] [] σ := by
  unfold fb_Te_closeLetters_65 at h
  obtain ⟨h1, h⟩ := kg_some h
  simp only [Option.some.injEq, Prod.mk.injEq, true_and] at h
  exact s_Te_closeLetters_65 h1 ⟨rfl, h⟩
def fb_Te_closeLetters_32  (x1 : Int) (x2 : Int) (x3 : Int) (t : Nat) (σ : kS) : kRes := kg ((0 ≤ x1 ∧ x1 < (10 : Nat)) ∧ ((0 : Int) ≤ ((x1 * 20) + x3) ∧ (0 : Int) ≤ ((x1 * 20) + x2) ∧ (0 : Int) ≤ ((σ 11 t (Int.toNat x1)) - x3) ∧ ((x1 * 20) + x3) + ((σ 11 t (Int.toNat x1)) - x3) ≤ ((200 : Nat) : Int) ∧ ((x1 * 20) + x2) + ((σ 11 t (Int.toNat x1)) - x3) ≤ ((200 : Nat) : Int))) (fb_Te_closeLetters_65  x1 x2 x3 (x1 * 20) t (kupA σ 10 t (va_cpy (σ 10 t) (σ 10 t) (Int.toNat ((x1 * 20) + x3)) (Int.toNat ((x1 * 20) + x2)) (Int.toNat ((σ 11 t (Int.toNat x1)) - x3)))))
theorem e_Te_closeLetters_32 {l : Launch} {G : kG} {σf : kS}  {x1 : Int} {x2 : Int} {x3 : Int} {t : Nat} {o4 : Option kV} {σ : kS} (h : fb_Te_closeLetters_32  x1 x2 x3 t σ = some (none, σf)) : Rn l G dm_Te_closeLetters m_Te_closeLetters (kU fun σ' => σ' = σf) 32 [some (.inr (2, t)), some (.inl x1), some (.inl x2), some (.inl x3), o4] [] σ := by
  unfold fb_Te_closeLetters_32 at h
  obtain ⟨⟨h1, h2⟩, h⟩ := kg_some h
  refine s_Te_closeLetters_32 h1 h2 (by decide) ?_
  exact e_Te_closeLetters_65  h
def fb_Te_closeLetters_31  (x1 : Int) (x2 : Int) (x3 : Int) (t : Nat) (σ : kS) : kRes := some (none, σ)
theorem e_Te_closeLetters_31 {l : Launch} {G : kG} {σf : kS}  {x1 : Int} {x2 : Int} {x3 : Int} {t : Nat} {o4 : Option kV} {σ : kS} (h : fb_Te_closeLetters_31  x1 x2 x3 t σ = some (none, σf)) : Rn l G dm_Te_closeLetters m_Te_closeLetters (kU fun σ' => σ' = σf) 31 [some (.inr (2, t)), some (.inl x1), some (.inl x2), some (.inl x3), o4] [] σ := by
  unfold fb_Te_closeLetters_31 at h
  simp only [Option.some.injEq, Prod.mk.injEq, true_and] at h
  exact s_Te_closeLetters_31  ⟨rfl, h⟩
def fb_Te_closeLetters_21  (x1 : Int) (x2 : Int) (x3 : Int) (t : Nat) (σ : kS) : kRes := kg ((0 ≤ x1 ∧ x1 < (10 : Nat)) ∧ (-2147483648 ≤ x3 ∧ x3 < 2147483648) ∧ (-2147483648 ≤ σ 11 t (Int.toNat x1) ∧ σ 11 t (Int.toNat x1) < 2147483648)) (if x3 ≤ (σ 11 t (Int.toNat x1)) then fb_Te_closeLetters_32  x1 x2 x3 t σ else fb_Te_closeLetters_31  x1 x2 x3 t σ)
theorem e_Te_closeLetters_21 {l : Launch} {G : kG} {σf : kS}  {x1 : Int} {x2 : Int} {x3 : Int} {t : Nat} {o4 : Option kV} {σ : kS} (h : fb_Te_closeLetters_21  x1 x2 x3 t σ = some (none, σf)) : Rn l G dm_Te_closeLetters m_Te_closeLetters (kU fun σ' => σ' = σf) 21 [some (.inr (2, t)), some (.inl x1), some (.inl x2), some (.inl x3), o4] [] σ := by
  unfold fb_Te_closeLetters_21 at h
  obtain ⟨⟨h1, h2, h3⟩, h⟩ := kg_some h
  refine s_Te_closeLetters_21 h1 h2 h3 (fun c => ?_) (fun c => ?_)
  · rw [if_pos c] at h
    exact e_Te_closeLetters_32  h
  · rw [if_neg c] at h
    exact e_Te_closeLetters_31  h
def fb_Te_closeLetters_16  (x1 : Int) (x2 : Int) (x3 : Int) (t : Nat) (σ : kS) : kRes := kg ((-2147483648 ≤ x3 ∧ x3 < 2147483648) ∧ (-2147483648 ≤ x2 ∧ x2 < 2147483648)) (if x3 < x2 then fb_Te_closeLetters_31  x1 x2 x3 t σ else fb_Te_closeLetters_21  x1 x2 x3 t σ)
theorem e_Te_closeLetters_16 {l : Launch} {G : kG} {σf : kS}  {x1 : Int} {x2 : Int} {x3 : Int} {t : Nat} {o4 : Option kV} {σ : kS} (h : fb_Te_closeLetters_16  x1 x2 x3 t σ = some (none, σf)) : Rn l G dm_Te_closeLetters m_Te_closeLetters (kU fun σ' => σ' = σf) 16 [some (.inr (2, t)), some (.inl x1), some (.inl x2), some (.inl x3), o4] [] σ := by
  unfold fb_Te_closeLetters_16 at h
  obtain ⟨⟨h1, h2⟩, h⟩ := kg_some h
  refine s_Te_closeLetters_16 h1 h2 (fun c => ?_) (fun c => ?_)
  · rw [if_pos c] at h
    exact e_Te_closeLetters_31  h
  · rw [if_neg c] at h
    exact e_Te_closeLetters_21  h
def fb_Te_closeLetters_12  (x1 : Int) (x2 : Int) (x3 : Int) (t : Nat) (σ : kS) : kRes := kg ((-2147483648 ≤ x2 ∧ x2 < 2147483648)) (if x2 < 0 then fb_Te_closeLetters_31  x1 x2 x3 t σ else fb_Te_closeLetters_16  x1 x2 x3 t σ)
theorem e_Te_closeLetters_12 {l : Launch} {G : kG} {σf : kS}  {x1 : Int} {x2 : Int} {x3 : Int} {t : Nat} {o4 : Option kV} {σ : kS} (h : fb_Te_closeLetters_12  x1 x2 x3 t σ = some (none, σf)) : Rn l G dm_Te_closeLetters m_Te_closeLetters (kU fun σ' => σ' = σf) 12 [some (.inr (2, t)), some (.inl x1), some (.inl x2), some (.inl x3), o4] [] σ := by
  unfold fb_Te_closeLetters_12 at h
  obtain ⟨h1, h⟩ := kg_some h
  refine s_Te_closeLetters_12 h1 (fun c => ?_) (fun c => ?_)
  · rw [if_pos c] at h
    exact e_Te_closeLetters_31  h
  · rw [if_neg c] at h
    exact e_Te_closeLetters_16  h
def fb_Te_closeLetters_4  (x1 : Int) (x2 : Int) (x3 : Int) (t : Nat) (σ : kS) : kRes := kg ((-2147483648 ≤ x1 ∧ x1 < 2147483648) ∧ (-2147483648 ≤ σ 2 t 2 ∧ σ 2 t 2 < 2147483648)) (if (σ 2 t 2) ≤ x1 then fb_Te_closeLetters_31  x1 x2 x3 t σ else fb_Te_closeLetters_12  x1 x2 x3 t σ)
theorem e_Te_closeLetters_4 {l : Launch} {G : kG} {σf : kS}  {x1 : Int} {x2 : Int} {x3 : Int} {t : Nat} {o4 : Option kV} {σ : kS} (h : fb_Te_closeLetters_4  x1 x2 x3 t σ = some (none, σf)) : Rn l G dm_Te_closeLetters m_Te_closeLetters (kU fun σ' => σ' = σf) 4 [some (.inr (2, t)), some (.inl x1), some (.inl x2), some (.inl x3), o4] [] σ := by
  unfold fb_Te_closeLetters_4 at h
  obtain ⟨⟨h1, h2⟩, h⟩ := kg_some h
  refine s_Te_closeLetters_4 h1 h2 (fun c => ?_) (fun c => ?_)
  · rw [if_pos c] at h
    exact e_Te_closeLetters_31  h
  · rw [if_neg c] at h
    exact e_Te_closeLetters_12  h
def fb_Te_closeLetters_0  (x1 : Int) (x2 : Int) (x3 : Int) (t : Nat) (σ : kS) : kRes := kg ((-2147483648 ≤ x1 ∧ x1 < 2147483648)) (if x1 < 0 then fb_Te_closeLetters_31  x1 x2 x3 t σ else fb_Te_closeLetters_4  x1 x2 x3 t σ)
theorem e_Te_closeLetters_0 {l : Launch} {G : kG} {σf : kS}  {x1 : Int} {x2 : Int} {x3 : Int} {t : Nat} {o4 : Option kV} {σ : kS} (h : fb_Te_closeLetters_0  x1 x2 x3 t σ = some (none, σf)) : Rn l G dm_Te_closeLetters m_Te_closeLetters (kU fun σ' => σ' = σf) 0 [some (.inr (2, t)), some (.inl x1), some (.inl x2), some (.inl x3), o4] [] σ := by
  unfold fb_Te_closeLetters_0 at h
  obtain ⟨h1, h⟩ := kg_some h
  refine s_Te_closeLetters_0 h1 (fun c => ?_) (fun c => ?_)
  · rw [if_pos c] at h
    exact e_Te_closeLetters_31  h
  · rw [if_neg c] at h
    exact e_Te_closeLetters_4  h
def f_Te_closeLetters (x1 : Int) (x2 : Int) (x3 : Int) (t : Nat) (σ : kS) : kRes := fb_Te_closeLetters_0 x1 x2 x3 t σ
theorem E_Te_closeLetters {l : Launch} {G : kG} {σf : kS} {x1 : Int} {x2 : Int} {x3 : Int} {t : Nat} {σ : kS} (h : f_Te_closeLetters x1 x2 x3 t σ = some (none, σf)) : Call l G dm_Te_closeLetters y_Te_closeLetters m_Te_closeLetters [.inr (2, t), .inl x1, .inl x2, .inl x3] σ (kU fun σ' => σ' = σf) := by
  unfold f_Te_closeLetters at h
  exact Call.of (by decide +kernel) rfl (Nat.le_of_ble_eq_true rfl) (e_Te_closeLetters_0 h)
/-! Te_openLetters -/
def fb_Te_openLetters_93  (x1 : Int) (x2 : Int) (x3 : Int) (x4 : Int) (t : Nat) (σ : kS) : kRes := kg ((0 ≤ x1 ∧ x1 < (10 : Nat))) (some (some 1, kup σ 11 t (Int.toNat x1) ((σ 11 t (Int.toNat x1)) + x3)))
theorem e_Te_openLetters_93 {l : Launch} {G : kG} {yf : Int} {σf : kS}  {x1 : Int} {x2 : Int} {x3 : Int} {x4 : Int} {t : Nat}  {σ : kS} (h : fb_Te_openLetters_93  x1 x2 x3 x4 t σ = some (some yf, σf)) : Rn l G dm_Te_openLetters m_Te_openLetters (kI fun y' σ' => y' = yf ∧ σ' = σf) 93 [some (.inr (2, t)), some (.inl x1), some (.inl x2), some (.inl x3), some (.inl x4)] [] σ := by
  unfold fb_Te_openLetters_93 at h
  obtain ⟨h1, h⟩ := kg_some h
  simp only [Option.some.injEq, Prod.mk.injEq, true_and] at h
  exact s_Te_openLetters_93 h1 ⟨_, rfl, h⟩
def fb_Te_openLetters_78  (x1 : Int) (x2 : Int) (x3 : Int) (x4 : Int) (t : Nat) (σ : kS) : kRes := kbu (f_Ar_fill4 x4 (x4 + x3) 32 t σ) fun σ1 => fb_Te_openLetters_93  x1 x2 x3 x4 t σ1
theorem e_Te_openLetters_78 {l : Launch} {G : kG} {yf : Int} {σf : kS}  {x1 : Int} {x2 : Int} {x3 : Int} {x4 : Int} {t : Nat}  {σ : kS} (h : fb_Te_openLetters_78  x1 x2 x3 x4 t σ = some (some yf, σf)) : Rn l G dm_Te_openLetters m_Te_openLetters (kI fun y' σ' => y' = yf ∧ σ' = σf) 78 [some (.inr (2, t)), some (.inl x1), some (.inl x2), some (.inl x3), some (.inl x4)] [] σ := by
  unfold fb_Te_openLetters_78 at h
  obtain ⟨σ1, hc, h⟩ := kbu_some h
  refine s_Te_openLetters_78  (by decide) (E_Ar_fill4 hc) (fun σ2 e2 => ?_)
  subst e2
  exact e_Te_openLetters_93  h
def fb_Te_openLetters_45  (x1 : Int) (x2 : Int) (x3 : Int) (t : Nat) (σ : kS) : kRes := kg ((0 ≤ x1 ∧ x1 < (10 : Nat)) ∧ ((0 : Int) ≤ ((x1 * 20) + x2) ∧ (0 : Int) ≤ (((x1 * 20) + x2) + x3) ∧ (0 : Int) ≤ ((σ 11 t (Int.toNat x1)) - x2) ∧ ((x1 * 20) + x2) + ((σ 11 t (Int.toNat x1)) - x2) ≤ ((200 : Nat) : Int) ∧ (((x1 * 20) + x2) + x3) + ((σ 11 t (Int.toNat x1)) - x2) ≤ ((200 : Nat) : Int))) (fb_Te_openLetters_78  x1 x2 x3 ((x1 * 20) + x2) t (kupA σ 10 t (va_cpy (σ 10 t) (σ 10 t) (Int.toNat ((x1 * 20) + x2)) (Int.toNat (((x1 * 20) + x2) + x3)) (Int.toNat ((σ 11 t (Int.toNat x1)) - x2)))))
theorem e_Te_openLetters_45 {l : Launch} {G : kG} {yf : Int} {σf : kS}  {x1 : Int} {x2 : Int} {x3 : Int} {t : Nat} {o4 : Option kV} {σ : kS} (h : fb_Te_openLetters_45  x1 x2 x3 t σ = some (some yf, σf)) : Rn l G dm_Te_openLetters m_Te_openLetters (kI fun y' σ' => y' = yf ∧ σ' = σf) 45 [some (.inr (2, t)), some (.inl x1), some (.inl x2), some (.inl x3), o4] [] σ := by
  unfold fb_Te_openLetters_45 at h
  obtain ⟨⟨h1, h2⟩, h⟩ := kg_some h
  refine s_Te_openLetters_45 h1 h2 (by decide) ?_
  exact e_Te_openLetters_78  h
def fb_Te_openLetters_43  (x1 : Int) (x2 : Int) (x3 : Int) (t : Nat) (σ : kS) : kRes := some (some 0, σ)
theorem e_Te_openLetters_43 {l : Launch} {G : kG} {yf : Int} {σf : kS}  {x1 : Int} {x2 : Int} {x3 : Int} {t : Nat} {o4 : Option kV} {σ : kS} (h : fb_Te_openLetters_43  x1 x2 x3 t σ = some (some yf, σf)) : Rn l G dm_Te_openLetters m_Te_openLetters (kI fun y' σ' => y' = yf ∧ σ' = σf) 43 [some (.inr (2, t)), some (.inl x1), some (.inl x2), some (.inl x3), o4] [] σ := by
  unfold fb_Te_openLetters_43 at h
  simp only [Option.some.injEq, Prod.mk.injEq, true_and] at h
  exact s_Te_openLetters_43  ⟨_, rfl, h⟩
def fb_Te_openLetters_30  (x1 : Int) (x2 : Int) (x3 : Int) (t : Nat) (σ : kS) : kRes := kg ((0 ≤ x1 ∧ x1 < (10 : Nat)) ∧ (-2147483648 ≤ (σ 11 t (Int.toNat x1)) + x3 ∧ (σ 11 t (Int.toNat x1)) + x3 < 2147483648)) (if ((σ 11 t (Int.toNat x1)) + x3) ≤ 20 then fb_Te_openLetters_45  x1 x2 x3 t σ else fb_Te_openLetters_43  x1 x2 x3 t σ)
theorem e_Te_openLetters_30 {l : Launch} {G : kG} {yf : Int} {σf : kS}  {x1 : Int} {x2 : Int} {x3 : Int} {t : Nat} {o4 : Option kV} {σ : kS} (h : fb_Te_openLetters_30  x1 x2 x3 t σ = some (some yf, σf)) : Rn l G dm_Te_openLetters m_Te_openLetters (kI fun y' σ' => y' = yf ∧ σ' = σf) 30 [some (.inr (2, t)), some (.inl x1), some (.inl x2), some (.inl x3), o4] [] σ := by
  unfold fb_Te_openLetters_30 at h
  obtain ⟨⟨h1, h2⟩, h⟩ := kg_some h
  refine s_Te_openLetters_30 h1 h2 (fun c => ?_) (fun c => ?_)
  · rw [if_pos c] at h
    exact e_Te_openLetters_45  h
  · rw [if_neg c] at h
    exact e_Te_openLetters_43  h
def fb_Te_openLetters_26  (x1 : Int) (x2 : Int) (x3 : Int) (t : Nat) (σ : kS) : kRes := kg ((-2147483648 ≤ x3 ∧ x3 < 2147483648)) (if x3 < 0 then fb_Te_openLetters_43  x1 x2 x3 t σ else fb_Te_openLetters_30  x1 x2 x3 t σ)
theorem e_Te_openLetters_26 {l : Launch} {G : kG} {yf : Int} {σf : kS}  {x1 : Int} {x2 : Int} {x3 : Int} {t : Nat} {o4 : Option kV} {σ : kS} (h : fb_Te_openLetters_26  x1 x2 x3 t σ = some (some yf, σf)) : Rn l G dm_Te_openLetters m_Te_openLetters (kI fun y' σ' => y' = yf ∧ σ' = σf) 26 [some (.inr (2, t)), some (.inl x1), some (.inl x2), some (.inl x3), o4] [] σ := by
  unfold fb_Te_openLetters_26 at h
  obtain ⟨h1, h⟩ := kg_some h
  refine s_Te_openLetters_26 h1 (fun c => ?_) (fun c => ?_)
  · rw [if_pos c] at h
    exact e_Te_openLetters_43  h
  · rw [if_neg c] at h
    exact e_Te_openLetters_30  h
def fb_Te_openLetters_16  (x1 : Int) (x2 : Int) (x3 : Int) (t : Nat) (σ : kS) : kRes := kg ((0 ≤ x1 ∧ x1 < (10 : Nat)) ∧ (-2147483648 ≤ x2 ∧ x2 < 2147483648) ∧ (-2147483648 ≤ σ 11 t (Int.toNat x1) ∧ σ 11 t (Int.toNat x1) < 2147483648)) (if (σ 11 t (Int.toNat x1)) < x2 then fb_Te_openLetters_43  x1 x2 x3 t σ else fb_Te_openLetters_26  x1 x2 x3 t σ)
theorem e_Te_openLetters_16 {l : Launch} {G : kG} {yf : Int} {σf : kS}  {x1 : Int} {x2 : Int} {x3 : Int} {t : Nat} {o4 : Option kV} {σ : kS} (h : fb_Te_openLetters_16  x1 x2 x3 t σ = some (some yf, σf)) : Rn l G dm_Te_openLetters m_Te_openLetters (kI fun y' σ' => y' = yf ∧ σ' = σf) 16 [some (.inr (2, t)), some (.inl x1), some (.inl x2), some (.inl x3), o4] [] σ := by
  unfold fb_Te_openLetters_16 at h
  obtain ⟨⟨h1, h2, h3⟩, h⟩ := kg_some h
  refine s_Te_openLetters_16 h1 h2 h3 (fun c => ?_) (fun c => ?_)
  · rw [if_pos c] at h
    exact e_Te_openLetters_43  h
  · rw [if_neg c] at h
    exact e_Te_openLetters_26  h
def fb_Te_openLetters_12  (x1 : Int) (x2 : Int) (x3 : Int) (t : Nat) (σ : kS) : kRes := kg ((-2147483648 ≤ x2 ∧ x2 < 2147483648)) (if x2 < 0 then fb_Te_openLetters_43  x1 x2 x3 t σ else fb_Te_openLetters_16  x1 x2 x3 t σ)
theorem e_Te_openLetters_12 {l : Launch} {G : kG} {yf : Int} {σf : kS}  {x1 : Int} {x2 : Int} {x3 : Int} {t : Nat} {o4 : Option kV} {σ : kS} (h : fb_Te_openLetters_12  x1 x2 x3 t σ = some (some yf, σf)) : Rn l G dm_Te_openLetters m_Te_openLetters (kI fun y' σ' => y' = yf ∧ σ' = σf) 12 [some (.inr (2, t)), some (.inl x1), some (.inl x2), some (.inl x3), o4] [] σ := by
  unfold fb_Te_openLetters_12 at h
  obtain ⟨h1, h⟩ := kg_some h
  refine s_Te_openLetters_12 h1 (fun c => ?_) (fun c => ?_)
  · rw [if_pos c] at h
    exact e_Te_openLetters_43  h
  · rw [if_neg c] at h
    exact e_Te_openLetters_16  h
def fb_Te_openLetters_4  (x1 : Int) (x2 : Int) (x3 : Int) (t : Nat) (σ : kS) : kRes := kg ((-2147483648 ≤ x1 ∧ x1 < 2147483648) ∧ (-2147483648 ≤ σ 2 t 2 ∧ σ 2 t 2 < 2147483648)) (if (σ 2 t 2) ≤ x1 then fb_Te_openLetters_43  x1 x2 x3 t σ else fb_Te_openLetters_12  x1 x2 x3 t σ)
theorem e_Te_openLetters_4 {l : Launch} {G : kG} {yf : Int} {σf : kS}  {x1 : Int} {x2 : Int} {x3 : Int} {t : Nat} {o4 : Option kV} {σ : kS} (h : fb_Te_openLetters_4  x1 x2 x3 t σ = some (some yf, σf)) : Rn l G dm_Te_openLetters m_Te_openLetters (kI fun y' σ' => y' = yf ∧ σ' = σf) 4 [some (.inr (2, t)), some (.inl x1), some (.inl x2), some (.inl x3), o4] [] σ := by
  unfold fb_Te_openLetters_4 at h
  obtain ⟨⟨h1, h2⟩, h⟩ := kg_some h
  refine s_Te_openLetters_4 h1 h2 (fun c => ?_) (fun c => ?_)
  · rw [if_pos c] at h
    exact e_Te_openLetters_43  h
  · rw [if_neg c] at h
    exact e_Te_openLetters_12  h
def fb_Te_openLetters_0  (x1 : Int) (x2 : Int) (x3 : Int) (t : Nat) (σ : kS) : kRes := kg ((-2147483648 ≤ x1 ∧ x1 < 2147483648)) (if x1 < 0 then fb_Te_openLetters_43  x1 x2 x3 t σ else fb_Te_openLetters_4  x1 x2 x3 t σ)
theorem e_Te_openLetters_0 {l : Launch} {G : kG} {yf : Int} {σf : kS}  {x1 : Int} {x2 : Int} {x3 : Int} {t : Nat} {o4 : Option kV} {σ : kS} (h : fb_Te_openLetters_0  x1 x2 x3 t σ = some (some yf, σf)) : Rn l G dm_Te_openLetters m_Te_openLetters (kI fun y' σ' => y' = yf ∧ σ' = σf) 0 [some (.inr (2, t)), some (.inl x1), some (.inl x2), some (.inl x3), o4] [] σ := by
  unfold fb_Te_openLetters_0 at h
  obtain ⟨h1, h⟩ := kg_some h
  refine s_Te_openLetters_0 h1 (fun c => ?_) (fun c => ?_)
  · rw [if_pos c] at h
    exact e_Te_openLetters_43  h
  · rw [if_neg c] at h
    exact e_Te_openLetters_4  h
def f_Te_openLetters (x1 : Int) (x2 : Int) (x3 : Int) (t : Nat) (σ : kS) : kRes := fb_Te_openLetters_0 x1 x2 x3 t σ
theorem E_Te_openLetters {l : Launch} {G : kG} {yf : Int} {σf : kS} {x1 : Int} {x2 : Int} {x3 : Int} {t : Nat} {σ : kS} (h : f_Te_openLetters x1 x2 x3 t σ = some (some yf, σf)) : Call l G dm_Te_openLetters y_Te_openLetters m_Te_openLetters [.inr (2, t), .inl x1, .inl x2, .inl x3] σ (kI fun y' σ' => y' = yf ∧ σ' = σf) := by
  unfold f_Te_openLetters at h
  exact Call.of (by decide +kernel) rfl (Nat.le_of_ble_eq_true rfl) (e_Te_openLetters_0 h)
/-! Cl_exchangeLines -/
def fb_Cl_exchangeLines_124  (x1 : Int) (x2 : Int) (x3 : Int) (σ : kS) : kRes := some (some x2, σ)
theorem e_Cl_exchangeLines_124 {l : Launch} {G : kG} {yf : Int} {σf : kS}  {x1 : Int} {x2 : Int} {x3 : Int} {o4 : Option kV} {σ : kS} (h : fb_Cl_exchangeLines_124  x1 x2 x3 σ = some (some yf, σf)) : Rn l G dm_Cl_exchangeLines m_Cl_exchangeLines (kI fun y' σ' => y' = yf ∧ σ' = σf) 124 [some (.inr (7, 0)), some (.inl x1), some (.inl x2), some (.inl x3), o4] [] σ := by
  unfold fb_Cl_exchangeLines_124 at h
  simp only [Option.some.injEq, Prod.mk.injEq, true_and] at h
  exact s_Cl_exchangeLines_124  ⟨_, rfl, h⟩
def fb_Cl_exchangeLines_118 (k7 : Int → Int → Int → kS → kRes) (x1 : Int) (x2 : Int) (x3 : Int) (x4 : Int) (σ : kS) : kRes := k7 x1 x2 (x3 + 1) σ
theorem e_Cl_exchangeLines_118 {l : Launch} {G : kG} {yf : Int} {σf : kS} {k7 : Int → Int → Int → kS → kRes} (hk7 : ∀ (x1 : Int) (x2 : Int) (x3 : Int) (o4 : Option kV) (σ : kS), k7 x1 x2 x3 σ = some (some yf, σf) → Rn l G dm_Cl_exchangeLines m_Cl_exchangeLines (kI fun y' σ' => y' = yf ∧ σ' = σf) 7 [some (.inr (7, 0)), some (.inl x1), some (.inl x2), some (.inl x3), o4] [] σ) {x1 : Int} {x2 : Int} {x3 : Int} {x4 : Int}  {σ : kS} (h : fb_Cl_exchangeLines_118 k7 x1 x2 x3 x4 σ = some (some yf, σf)) : Rn l G dm_Cl_exchangeLines m_Cl_exchangeLines (kI fun y' σ' => y' = yf ∧ σ' = σf) 118 [some (.inr (7, 0)), some (.inl x1), some (.inl x2), some (.inl x3), some (.inl x4)] [] σ := by
  unfold fb_Cl_exchangeLines_118 at h
  refine s_Cl_exchangeLines_118  ?_
  exact hk7 _ _ _ _ _ h
def fb_Cl_exchangeLines_116 (k7 : Int → Int → Int → kS → kRes) (x1 : Int) (x2 : Int) (x3 : Int) (x4 : Int) (σ : kS) : kRes := fb_Cl_exchangeLines_118 k7 x1 x3 x3 x4 σ
theorem e_Cl_exchangeLines_116 {l : Launch} {G : kG} {yf : Int} {σf : kS} {k7 : Int → Int → Int → kS → kRes} (hk7 : ∀ (x1 : Int) (x2 : Int) (x3 : Int) (o4 : Option kV) (σ : kS), k7 x1 x2 x3 σ = some (some yf, σf) → Rn l G dm_Cl_exchangeLines m_Cl_exchangeLines (kI fun y' σ' => y' = yf ∧ σ' = σf) 7 [some (.inr (7, 0)), some (.inl x1), some (.inl x2), some (.inl x3), o4] [] σ) {x1 : Int} {x2 : Int} {x3 : Int} {x4 : Int}  {σ : kS} (h : fb_Cl_exchangeLines_116 k7 x1 x2 x3 x4 σ = some (some yf, σf)) : Rn l G dm_Cl_exchangeLines m_Cl_exchangeLines (kI fun y' σ' => y' = yf ∧ σ' = σf) 116 [some (.inr (7, 0)), some (.inl x1), some (.inl x2), some (.inl x3), some (.inl x4)] [] σ := by
  unfold fb_Cl_exchangeLines_116 at h
  refine s_Cl_exchangeLines_116  ?_
  exact e_Cl_exchangeLines_118 hk7 h
def fb_Cl_exchangeLines_92 (k7 : Int → Int → Int → kS → kRes) (x1 : Int) (x2 : Int) (x3 : Int) (x4 : Int) (s0 : Int) (σ : kS) : kRes := kg (((0 : Int) ≤ 0 ∧ (0 : Int) ≤ (x3 * 20) ∧ (0 : Int) ≤ (σ 7 0 6) ∧ 0 + (σ 7 0 6) ≤ ((20 : Nat) : Int) ∧ (x3 * 20) + (σ 7 0 6) ≤ ((200 : Nat) : Int))) (fb_Cl_exchangeLines_116 k7 x1 x2 x3 x4 (kupA σ 10 0 (va_cpy (σ 18 0) (σ 10 0) (0) (Int.toNat (x3 * 20)) (Int.toNat (σ 7 0 6)))))
theorem e_Cl_exchangeLines_92 {l : Launch} {G : kG} {yf : Int} {σf : kS} {k7 : Int → Int → Int → kS → kRes} (hk7 : ∀ (x1 : Int) (x2 : Int) (x3 : Int) (o4 : Option kV) (σ : kS), k7 x1 x2 x3 σ = some (some yf, σf) → Rn l G dm_Cl_exchangeLines m_Cl_exchangeLines (kI fun y' σ' => y' = yf ∧ σ' = σf) 7 [some (.inr (7, 0)), some (.inl x1), some (.inl x2), some (.inl x3), o4] [] σ) {x1 : Int} {x2 : Int} {x3 : Int} {x4 : Int} {s0 : Int}  {σ : kS} (h : fb_Cl_exchangeLines_92 k7 x1 x2 x3 x4 s0 σ = some (some yf, σf)) : Rn l G dm_Cl_exchangeLines m_Cl_exchangeLines (kI fun y' σ' => y' = yf ∧ σ' = σf) 92 [some (.inr (7, 0)), some (.inl x1), some (.inl x2), some (.inl x3), some (.inl x4)] [.inl s0] σ := by
  unfold fb_Cl_exchangeLines_92 at h
  obtain ⟨h1, h⟩ := kg_some h
  refine s_Cl_exchangeLines_92 h1 (by decide) ?_
  exact e_Cl_exchangeLines_116 hk7 h
def fb_Cl_exchangeLines_79 (k7 : Int → Int → Int → kS → kRes) (x1 : Int) (x2 : Int) (x3 : Int) (x4 : Int) (σ : kS) : kRes := kbi (f_Te_openLetters x3 0 (σ 7 0 6) 0 σ) fun y σ1 => fb_Cl_exchangeLines_92 k7 x1 x2 x3 x4 y σ1
theorem e_Cl_exchangeLines_79 {l : Launch} {G : kG} {yf : Int} {σf : kS} {k7 : Int → Int → Int → kS → kRes} (hk7 : ∀ (x1 : Int) (x2 : Int) (x3 : Int) (o4 : Option kV) (σ : kS), k7 x1 x2 x3 σ = some (some yf, σf) → Rn l G dm_Cl_exchangeLines m_Cl_exchangeLines (kI fun y' σ' => y' = yf ∧ σ' = σf) 7 [some (.inr (7, 0)), some (.inl x1), some (.inl x2), some (.inl x3), o4] [] σ) {x1 : Int} {x2 : Int} {x3 : Int} {x4 : Int}  {σ : kS} (h : fb_Cl_exchangeLines_79 k7 x1 x2 x3 x4 σ = some (some yf, σf)) : Rn l G dm_Cl_exchangeLines m_Cl_exchangeLines (kI fun y' σ' => y' = yf ∧ σ' = σf) 79 [some (.inr (7, 0)), some (.inl x1), some (.inl x2), some (.inl x3), some (.inl x4)] [] σ := by
  unfold fb_Cl_exchangeLines_79 at h
  obtain ⟨y, σ1, hc, h⟩ := kbi_some h
  refine s_Cl_exchangeLines_79  (by decide) (E_Te_openLetters hc) (fun y2 σ2 e2 => ?_)
  obtain ⟨rfl, rfl⟩ := e2
  exact e_Cl_exchangeLines_92 hk7 h
def fb_Cl_exchangeLines_76 (k7 : Int → Int → Int → kS → kRes) (x1 : Int) (x2 : Int) (x3 : Int) (x4 : Int) (s0 : Int) (s1 : Int) (s2 : Int) (σ : kS) : kRes := kbu (f_Te_closeLetters s2 s1 s0 0 σ) fun σ1 => fb_Cl_exchangeLines_79 k7 x1 x2 x3 x4 σ1
theorem e_Cl_exchangeLines_76 {l : Launch} {G : kG} {yf : Int} {σf : kS} {k7 : Int → Int → Int → kS → kRes} (hk7 : ∀ (x1 : Int) (x2 : Int) (x3 : Int) (o4 : Option kV) (σ : kS), k7 x1 x2 x3 σ = some (some yf, σf) → Rn l G dm_Cl_exchangeLines m_Cl_exchangeLines (kI fun y' σ' => y' = yf ∧ σ' = σf) 7 [some (.inr (7, 0)), some (.inl x1), some (.inl x2), some (.inl x3), o4] [] σ) {x1 : Int} {x2 : Int} {x3 : Int} {x4 : Int} {s0 : Int} {s1 : Int} {s2 : Int}  {σ : kS} (h : fb_Cl_exchangeLines_76 k7 x1 x2 x3 x4 s0 s1 s2 σ = some (some yf, σf)) : Rn l G dm_Cl_exchangeLines m_Cl_exchangeLines (kI fun y' σ' => y' = yf ∧ σ' = σf) 76 [some (.inr (7, 0)), some (.inl x1), some (.inl x2), some (.inl x3), some (.inl x4)] [.inl s0, .inl s1, .inl s2, .inr (2, 0)] σ := by
  unfold fb_Cl_exchangeLines_76 at h
  obtain ⟨σ1, hc, h⟩ := kbu_some h
  refine s_Cl_exchangeLines_76  (by decide) (E_Te_closeLetters hc) (fun σ2 e2 => ?_)
  subst e2
  exact e_Cl_exchangeLines_79 hk7 h
def fb_Cl_exchangeLines_62 (k7 : Int → Int → Int → kS → kRes) (x1 : Int) (x2 : Int) (x3 : Int) (x4 : Int) (σ : kS) : kRes := kbi (f_Te_sizeOf x3 0 σ) fun y σ1 => fb_Cl_exchangeLines_76 k7 x1 x2 x3 x4 y 0 x3 σ1
theorem e_Cl_exchangeLines_62 {l : Launch} {G : kG} {yf : Int} {σf : kS} {k7 : Int → Int → Int → kS → kRes} (hk7 : ∀ (x1 : Int) (x2 : Int) (x3 : Int) (o4 : Option kV) (σ : kS), k7 x1 x2 x3 σ = some (some yf, σf) → Rn l G dm_Cl_exchangeLines m_Cl_exchangeLines (kI fun y' σ' => y' = yf ∧ σ' = σf) 7 [some (.inr (7, 0)), some (.inl x1), some (.inl x2), some (.inl x3), o4] [] σ) {x1 : Int} {x2 : Int} {x3 : Int} {x4 : Int}  {σ : kS} (h : fb_Cl_exchangeLines_62 k7 x1 x2 x3 x4 σ = some (some yf, σf)) : Rn l G dm_Cl_exchangeLines m_Cl_exchangeLines (kI fun y' σ' => y' = yf ∧ σ' = σf) 62 [some (.inr (7, 0)), some (.inl x1), some (.inl x2), some (.inl x3), some (.inl x4)] [] σ := by
  unfold fb_Cl_exchangeLines_62 at h
  obtain ⟨y, σ1, hc, h⟩ := kbi_some h
  refine s_Cl_exchangeLines_62  (by decide) (E_Te_sizeOf hc) (fun y2 σ2 e2 => ?_)
  obtain ⟨rfl, rfl⟩ := e2
  exact e_Cl_exchangeLines_76 hk7 h
def fb_Cl_exchangeLines_59  (x1 : Int) (x2 : Int) (x3 : Int) (x4 : Int) (σ : kS) : kRes := some (some (-2), σ)
theorem e_Cl_exchangeLines_59 {l : Launch} {G : kG} {yf : Int} {σf : kS}  {x1 : Int} {x2 : Int} {x3 : Int} {x4 : Int}  {σ : kS} (h : fb_Cl_exchangeLines_59  x1 x2 x3 x4 σ = some (some yf, σf)) : Rn l G dm_Cl_exchangeLines m_Cl_exchangeLines (kI fun y' σ' => y' = yf ∧ σ' = σf) 59 [some (.inr (7, 0)), some (.inl x1), some (.inl x2), some (.inl x3), some (.inl x4)] [] σ := by
  unfold fb_Cl_exchangeLines_59 at h
  simp only [Option.some.injEq, Prod.mk.injEq, true_and] at h
  exact s_Cl_exchangeLines_59  ⟨_, rfl, h⟩
def fb_Cl_exchangeLines_50 (k7 : Int → Int → Int → kS → kRes) (x1 : Int) (x2 : Int) (x3 : Int) (x4 : Int) (σ : kS) : kRes := kg ((-2147483648 ≤ σ 7 0 6 ∧ σ 7 0 6 < 2147483648)) (if (σ 7 0 6) ≤ 20 then fb_Cl_exchangeLines_62 k7 x1 x2 x3 x4 σ else fb_Cl_exchangeLines_59  x1 x2 x3 x4 σ)
theorem e_Cl_exchangeLines_50 {l : Launch} {G : kG} {yf : Int} {σf : kS} {k7 : Int → Int → Int → kS → kRes} (hk7 : ∀ (x1 : Int) (x2 : Int) (x3 : Int) (o4 : Option kV) (σ : kS), k7 x1 x2 x3 σ = some (some yf, σf) → Rn l G dm_Cl_exchangeLines m_Cl_exchangeLines (kI fun y' σ' => y' = yf ∧ σ' = σf) 7 [some (.inr (7, 0)), some (.inl x1), some (.inl x2), some (.inl x3), o4] [] σ) {x1 : Int} {x2 : Int} {x3 : Int} {x4 : Int}  {σ : kS} (h : fb_Cl_exchangeLines_50 k7 x1 x2 x3 x4 σ = some (some yf, σf)) : Rn l G dm_Cl_exchangeLines m_Cl_exchangeLines (kI fun y' σ' => y' = yf ∧ σ' = σf) 50 [some (.inr (7, 0)), some (.inl x1), some (.inl x2), some (.inl x3), some (.inl x4)] [] σ := by
  unfold fb_Cl_exchangeLines_50 at h
  obtain ⟨h1, h⟩ := kg_some h
  refine s_Cl_exchangeLines_50 h1 (fun c => ?_) (fun c => ?_)
  · rw [if_pos c] at h
    exact e_Cl_exchangeLines_62 hk7 h
  · rw [if_neg c] at h
    exact e_Cl_exchangeLines_59  h
def fb_Cl_exchangeLines_47 (k7 : Int → Int → Int → kS → kRes) (x1 : Int) (x2 : Int) (x3 : Int) (x4 : Int) (s0 : Int) (σ : kS) : kRes := kg ((-2147483648 ≤ s0 ∧ s0 < 2147483648)) (if s0 = 0 then fb_Cl_exchangeLines_118 k7 x1 x2 x3 x4 σ else fb_Cl_exchangeLines_50 k7 x1 x2 x3 x4 σ)
theorem e_Cl_exchangeLines_47 {l : Launch} {G : kG} {yf : Int} {σf : kS} {k7 : Int → Int → Int → kS → kRes} (hk7 : ∀ (x1 : Int) (x2 : Int) (x3 : Int) (o4 : Option kV) (σ : kS), k7 x1 x2 x3 σ = some (some yf, σf) → Rn l G dm_Cl_exchangeLines m_Cl_exchangeLines (kI fun y' σ' => y' = yf ∧ σ' = σf) 7 [some (.inr (7, 0)), some (.inl x1), some (.inl x2), some (.inl x3), o4] [] σ) {x1 : Int} {x2 : Int} {x3 : Int} {x4 : Int} {s0 : Int}  {σ : kS} (h : fb_Cl_exchangeLines_47 k7 x1 x2 x3 x4 s0 σ = some (some yf, σf)) : Rn l G dm_Cl_exchangeLines m_Cl_exchangeLines (kI fun y' σ' => y' = yf ∧ σ' = σf) 47 [some (.inr (7, 0)), some (.inl x1), some (.inl x2), some (.inl x3), some (.inl x4)] [.inl s0] σ := by
  unfold fb_Cl_exchangeLines_47 at h
  obtain ⟨h1, h⟩ := kg_some h
  refine s_Cl_exchangeLines_47 h1 (fun c => ?_) (fun c => ?_)
  · rw [if_pos c] at h
    exact e_Cl_exchangeLines_118 hk7 h
  · rw [if_neg c] at h
    exact e_Cl_exchangeLines_50 hk7 h
def fb_Cl_exchangeLines_42 (k7 : Int → Int → Int → kS → kRes) (x1 : Int) (x2 : Int) (x3 : Int) (x4 : Int) (σ : kS) : kRes := kbi (f_Cl_build x3 σ) fun y σ1 => fb_Cl_exchangeLines_47 k7 x1 x2 x3 x4 y σ1
theorem e_Cl_exchangeLines_42 {l : Launch} {G : kG} {yf : Int} {σf : kS} {k7 : Int → Int → Int → kS → kRes} (hk7 : ∀ (x1 : Int) (x2 : Int) (x3 : Int) (o4 : Option kV) (σ : kS), k7 x1 x2 x3 σ = some (some yf, σf) → Rn l G dm_Cl_exchangeLines m_Cl_exchangeLines (kI fun y' σ' => y' = yf ∧ σ' = σf) 7 [some (.inr (7, 0)), some (.inl x1), some (.inl x2), some (.inl x3), o4] [] σ) {x1 : Int} {x2 : Int} {x3 : Int} {x4 : Int}  {σ : kS} (h : fb_Cl_exchangeLines_42 k7 x1 x2 x3 x4 σ = some (some yf, σf)) : Rn l G dm_Cl_exchangeLines m_Cl_exchangeLines (kI fun y' σ' => y' = yf ∧ σ' = σf) 42 [some (.inr (7, 0)), some (.inl x1), some (.inl x2), some (.inl x3), some (.inl x4)] [] σ := by
  unfold fb_Cl_exchangeLines_42 at h
  obtain ⟨y, σ1, hc, h⟩ := kbi_some h
  refine s_Cl_exchangeLines_42  (by decide) (E_Cl_build hc) (fun y2 σ2 e2 => ?_)
  obtain ⟨rfl, rfl⟩ := e2
  exact e_Cl_exchangeLines_47 hk7 h
def fb_Cl_exchangeLines_35 (k7 : Int → Int → Int → kS → kRes) (x1 : Int) (x2 : Int) (x3 : Int) (s0 : Int) (σ : kS) : kRes := kg ((-2147483648 ≤ s0 ∧ s0 < 2147483648)) (if s0 = 0 then fb_Cl_exchangeLines_118 k7 x1 x2 x3 s0 σ else fb_Cl_exchangeLines_42 k7 x1 x2 x3 s0 σ)
theorem e_Cl_exchangeLines_35 {l : Launch} {G : kG} {yf : Int} {σf : kS} {k7 : Int → Int → Int → kS → kRes} (hk7 : ∀ (x1 : Int) (x2 : Int) (x3 : Int) (o4 : Option kV) (σ : kS), k7 x1 x2 x3 σ = some (some yf, σf) → Rn l G dm_Cl_exchangeLines m_Cl_exchangeLines (kI fun y' σ' => y' = yf ∧ σ' = σf) 7 [some (.inr (7, 0)), some (.inl x1), some (.inl x2), some (.inl x3), o4] [] σ) {x1 : Int} {x2 : Int} {x3 : Int} {s0 : Int} {o4 : Option kV} {σ : kS} (h : fb_Cl_exchangeLines_35 k7 x1 x2 x3 s0 σ = some (some yf, σf)) : Rn l G dm_Cl_exchangeLines m_Cl_exchangeLines (kI fun y' σ' => y' = yf ∧ σ' = σf) 35 [some (.inr (7, 0)), some (.inl x1), some (.inl x2), some (.inl x3), o4] [.inl s0] σ := by
  unfold fb_Cl_exchangeLines_35 at h
  obtain ⟨h1, h⟩ := kg_some h
  refine s_Cl_exchangeLines_35 h1 (fun c => ?_) (fun c => ?_)
  · rw [if_pos c] at h
    exact e_Cl_exchangeLines_118 hk7 h
  · rw [if_neg c] at h
    exact e_Cl_exchangeLines_42 hk7 h
def fb_Cl_exchangeLines_34 (k7 : Int → Int → Int → kS → kRes) (x1 : Int) (x2 : Int) (x3 : Int) (σ : kS) : kRes := fb_Cl_exchangeLines_35 k7 x1 x2 x3 0 σ
theorem e_Cl_exchangeLines_34 {l : Launch} {G : kG} {yf : Int} {σf : kS} {k7 : Int → Int → Int → kS → kRes} (hk7 : ∀ (x1 : Int) (x2 : Int) (x3 : Int) (o4 : Option kV) (σ : kS), k7 x1 x2 x3 σ = some (some yf, σf) → Rn l G dm_Cl_exchangeLines m_Cl_exchangeLines (kI fun y' σ' => y' = yf ∧ σ' = σf) 7 [some (.inr (7, 0)), some (.inl x1), some (.inl x2), some (.inl x3), o4] [] σ) {x1 : Int} {x2 : Int} {x3 : Int} {o4 : Option kV} {σ : kS} (h : fb_Cl_exchangeLines_34 k7 x1 x2 x3 σ = some (some yf, σf)) : Rn l G dm_Cl_exchangeLines m_Cl_exchangeLines (kI fun y' σ' => y' = yf ∧ σ' = σf) 34 [some (.inr (7, 0)), some (.inl x1), some (.inl x2), some (.inl x3), o4] [] σ := by
  unfold fb_Cl_exchangeLines_34 at h
  refine s_Cl_exchangeLines_34  ?_
  exact e_Cl_exchangeLines_35 hk7 h
def fb_Cl_exchangeLines_30 (k7 : Int → Int → Int → kS → kRes) (x1 : Int) (x2 : Int) (x3 : Int) (σ : kS) : kRes := fb_Cl_exchangeLines_35 k7 x1 x2 x3 1 σ
theorem e_Cl_exchangeLines_30 {l : Launch} {G : kG} {yf : Int} {σf : kS} {k7 : Int → Int → Int → kS → kRes} (hk7 : ∀ (x1 : Int) (x2 : Int) (x3 : Int) (o4 : Option kV) (σ : kS), k7 x1 x2 x3 σ = some (some yf, σf) → Rn l G dm_Cl_exchangeLines m_Cl_exchangeLines (kI fun y' σ' => y' = yf ∧ σ' = σf) 7 [some (.inr (7, 0)), some (.inl x1), some (.inl x2), some (.inl x3), o4] [] σ) {x1 : Int} {x2 : Int} {x3 : Int} {o4 : Option kV} {σ : kS} (h : fb_Cl_exchangeLines_30 k7 x1 x2 x3 σ = some (some yf, σf)) : Rn l G dm_Cl_exchangeLines m_Cl_exchangeLines (kI fun y' σ' => y' = yf ∧ σ' = σf) 30 [some (.inr (7, 0)), some (.inl x1), some (.inl x2), some (.inl x3), o4] [] σ := by
  unfold fb_Cl_exchangeLines_30 at h
  refine s_Cl_exchangeLines_30  ?_
  exact e_Cl_exchangeLines_35 hk7 h
def fb_Cl_exchangeLines_22 (k7 : Int → Int → Int → kS → kRes) (x1 : Int) (x2 : Int) (x3 : Int) (σ : kS) : kRes := kg ((-2147483648 ≤ kand (kshr x1 x3) 1 ∧ kand (kshr x1 x3) 1 < 2147483648)) (if (kand (kshr x1 x3) 1) = 0 then fb_Cl_exchangeLines_34 k7 x1 x2 x3 σ else fb_Cl_exchangeLines_30 k7 x1 x2 x3 σ)
theorem e_Cl_exchangeLines_22 {l : Launch} {G : kG} {yf : Int} {σf : kS} {k7 : Int → Int → Int → kS → kRes} (hk7 : ∀ (x1 : Int) (x2 : Int) (x3 : Int) (o4 : Option kV) (σ : kS), k7 x1 x2 x3 σ = some (some yf, σf) → Rn l G dm_Cl_exchangeLines m_Cl_exchangeLines (kI fun y' σ' => y' = yf ∧ σ' = σf) 7 [some (.inr (7, 0)), some (.inl x1), some (.inl x2), some (.inl x3), o4] [] σ) {x1 : Int} {x2 : Int} {x3 : Int} {o4 : Option kV} {σ : kS} (h : fb_Cl_exchangeLines_22 k7 x1 x2 x3 σ = some (some yf, σf)) : Rn l G dm_Cl_exchangeLines m_Cl_exchangeLines (kI fun y' σ' => y' = yf ∧ σ' = σf) 22 [some (.inr (7, 0)), some (.inl x1), some (.inl x2), some (.inl x3), o4] [] σ := by
  unfold fb_Cl_exchangeLines_22 at h
  obtain ⟨h1, h⟩ := kg_some h
  refine s_Cl_exchangeLines_22 h1 (fun c => ?_) (fun c => ?_)
  · rw [if_pos c] at h
    exact e_Cl_exchangeLines_34 hk7 h
  · rw [if_neg c] at h
    exact e_Cl_exchangeLines_30 hk7 h
def fb_Cl_exchangeLines_15 (k7 : Int → Int → Int → kS → kRes) (x1 : Int) (x2 : Int) (x3 : Int) (σ : kS) : kRes := kg ((-2147483648 ≤ σ 7 0 13 ∧ σ 7 0 13 < 2147483648)) (if (σ 7 0 13) = 0 then fb_Cl_exchangeLines_30 k7 x1 x2 x3 σ else fb_Cl_exchangeLines_22 k7 x1 x2 x3 σ)
theorem e_Cl_exchangeLines_15 {l : Launch} {G : kG} {yf : Int} {σf : kS} {k7 : Int → Int → Int → kS → kRes} (hk7 : ∀ (x1 : Int) (x2 : Int) (x3 : Int) (o4 : Option kV) (σ : kS), k7 x1 x2 x3 σ = some (some yf, σf) → Rn l G dm_Cl_exchangeLines m_Cl_exchangeLines (kI fun y' σ' => y' = yf ∧ σ' = σf) 7 [some (.inr (7, 0)), some (.inl x1), some (.inl x2), some (.inl x3), o4] [] σ) {x1 : Int} {x2 : Int} {x3 : Int} {o4 : Option kV} {σ : kS} (h : fb_Cl_exchangeLines_15 k7 x1 x2 x3 σ = some (some yf, σf)) : Rn l G dm_Cl_exchangeLines m_Cl_exchangeLines (kI fun y' σ' => y' = yf ∧ σ' = σf) 15 [some (.inr (7, 0)), some (.inl x1), some (.inl x2), some (.inl x3), o4] [] σ := by
  unfold fb_Cl_exchangeLines_15 at h
  obtain ⟨h1, h⟩ := kg_some h
  refine s_Cl_exchangeLines_15 h1 (fun c => ?_) (fun c => ?_)
  · rw [if_pos c] at h
    exact e_Cl_exchangeLines_30 hk7 h
  · rw [if_neg c] at h
    exact e_Cl_exchangeLines_22 hk7 h
def fb_Cl_exchangeLines_7 (k7 : Int → Int → Int → kS → kRes) (x1 : Int) (x2 : Int) (x3 : Int) (σ : kS) : kRes := kg ((-2147483648 ≤ x3 ∧ x3 < 2147483648) ∧ (-2147483648 ≤ σ 7 0 12 ∧ σ 7 0 12 < 2147483648)) (if (σ 7 0 12) < x3 then fb_Cl_exchangeLines_124  x1 x2 x3 σ else fb_Cl_exchangeLines_15 k7 x1 x2 x3 σ)
theorem e_Cl_exchangeLines_7 {l : Launch} {G : kG} {yf : Int} {σf : kS} {k7 : Int → Int → Int → kS → kRes} (hk7 : ∀ (x1 : Int) (x2 : Int) (x3 : Int) (o4 : Option kV) (σ : kS), k7 x1 x2 x3 σ = some (some yf, σf) → Rn l G dm_Cl_exchangeLines m_Cl_exchangeLines (kI fun y' σ' => y' = yf ∧ σ' = σf) 7 [some (.inr (7, 0)), some (.inl x1), some (.inl x2), some (.inl x3), o4] [] σ) {x1 : Int} {x2 : Int} {x3 : Int} {o4 : Option kV} {σ : kS} (h : fb_Cl_exchangeLines_7 k7 x1 x2 x3 σ = some (some yf, σf)) : Rn l G dm_Cl_exchangeLines m_Cl_exchangeLines (kI fun y' σ' => y' = yf ∧ σ' = σf) 7 [some (.inr (7, 0)), some (.inl x1), some (.inl x2), some (.inl x3), o4] [] σ := by
  unfold fb_Cl_exchangeLines_7 at h
  obtain ⟨⟨h1, h2⟩, h⟩ := kg_some h
  refine s_Cl_exchangeLines_7 h1 h2 (fun c => ?_) (fun c => ?_)
  · rw [if_pos c] at h
    exact e_Cl_exchangeLines_124  h
  · rw [if_neg c] at h
    exact e_Cl_exchangeLines_15 hk7 h
def fl_Cl_exchangeLines_7  : Nat → Int → Int → Int → kS → kRes
  | 0, _, _, _, _ => none
  | n + 1, x1, x2, x3, σ => fb_Cl_exchangeLines_7 (fl_Cl_exchangeLines_7  n) x1 x2 x3 σ
theorem el_Cl_exchangeLines_7 {l : Launch} {G : kG} {yf : Int} {σf : kS}  : ∀ (n : Nat) (x1 : Int) (x2 : Int) (x3 : Int) (o4 : Option kV) (σ : kS), fl_Cl_exchangeLines_7  n x1 x2 x3 σ = some (some yf, σf) → Rn l G dm_Cl_exchangeLines m_Cl_exchangeLines (kI fun y' σ' => y' = yf ∧ σ' = σf) 7 [some (.inr (7, 0)), some (.inl x1), some (.inl x2), some (.inl x3), o4] [] σ := by
  intro n
  induction n with
  | zero => intro x1 x2 x3 o4 σ h; simp only [fl_Cl_exchangeLines_7] at h; cases h
  | succ n ih => intro x1 x2 x3 o4 σ h; simp only [fl_Cl_exchangeLines_7] at h; exact e_Cl_exchangeLines_7 ih h
def fb_Cl_exchangeLines_0  (x1 : Int) (σ : kS) : kRes := fl_Cl_exchangeLines_7  3000 x1 (-1) (σ 7 0 11) σ
theorem e_Cl_exchangeLines_0 {l : Launch} {G : kG} {yf : Int} {σf : kS}  {x1 : Int} {o2 : Option kV} {o3 : Option kV} {o4 : Option kV} {σ : kS} (h : fb_Cl_exchangeLines_0  x1 σ = some (some yf, σf)) : Rn l G dm_Cl_exchangeLines m_Cl_exchangeLines (kI fun y' σ' => y' = yf ∧ σ' = σf) 0 [some (.inr (7, 0)), some (.inl x1), o2, o3, o4] [] σ := by
  unfold fb_Cl_exchangeLines_0 at h
  refine s_Cl_exchangeLines_0  ?_
  exact el_Cl_exchangeLines_7  _ _ _ _ _ _ h
def f_Cl_exchangeLines (x1 : Int) (σ : kS) : kRes := fb_Cl_exchangeLines_0 x1 σ
theorem E_Cl_exchangeLines {l : Launch} {G : kG} {yf : Int} {σf : kS} {x1 : Int} {σ : kS} (h : f_Cl_exchangeLines x1 σ = some (some yf, σf)) : Call l G dm_Cl_exchangeLines y_Cl_exchangeLines m_Cl_exchangeLines [.inr (7, 0), .inl x1] σ (kI fun y' σ' => y' = yf ∧ σ' = σf) := by
  unfold f_Cl_exchangeLines at h
  exact Call.of (by decide +kernel) rfl (Nat.le_of_ble_eq_true rfl) (e_Cl_exchangeLines_0 h)
/-! Pa_isIn -/
def fb_Pa_isIn_88  (x2 : Int) (x3 : Int) (x4 : Int) (x5 : Int) (t : Nat) (σ : kS) : kRes := some (some 0, σ)
theorem e_Pa_isIn_88 {l : Launch} {G : kG} {yf : Int} {σf : kS}  {x2 : Int} {x3 : Int} {x4 : Int} {x5 : Int} {t : Nat}  {σ : kS} (h : fb_Pa_isIn_88  x2 x3 x4 x5 t σ = some (some yf, σf)) : Rn l G dm_Pa_isIn m_Pa_isIn (kI fun y' σ' => y' = yf ∧ σ' = σf) 88 [some (.inr (8, t)), some (.inr (2, 0)), some (.inl x2), some (.inl x3), some (.inl x4), some (.inl x5)] [] σ := by
  unfold fb_Pa_isIn_88 at h
  simp only [Option.some.injEq, Prod.mk.injEq, true_and] at h
  exact s_Pa_isIn_88  ⟨_, rfl, h⟩
def fb_Pa_isIn_80 (k12 : Int → Int → Int → Int → Nat → kS → kRes) (x2 : Int) (x3 : Int) (x4 : Int) (x5 : Int) (s0 : Int) (t : Nat) (σ : kS) : kRes := k12 x2 x3 s0 (x5 + 1) t σ
theorem e_Pa_isIn_80 {l : Launch} {G : kG} {yf : Int} {σf : kS} {k12 : Int → Int → Int → Int → Nat → kS → kRes} (hk12 : ∀ (x2 : Int) (x3 : Int) (x4 : Int) (x5 : Int) (t : Nat)  (σ : kS), k12 x2 x3 x4 x5 t σ = some (some yf, σf) → Rn l G dm_Pa_isIn m_Pa_isIn (kI fun y' σ' => y' = yf ∧ σ' = σf) 12 [some (.inr (8, t)), some (.inr (2, 0)), some (.inl x2), some (.inl x3), some (.inl x4), some (.inl x5)] [] σ) {x2 : Int} {x3 : Int} {x4 : Int} {x5 : Int} {s0 : Int} {t : Nat}  {σ : kS} (h : fb_Pa_isIn_80 k12 x2 x3 x4 x5 s0 t σ = some (some yf, σf)) : Rn l G dm_Pa_isIn m_Pa_isIn (kI fun y' σ' => y' = yf ∧ σ' = σf) 80 [some (.inr (8, t)), some (.inr (2, 0)), some (.inl x2), some (.inl x3), some (.inl x4), some (.inl x5)] [.inl s0] σ := by
  unfold fb_Pa_isIn_80 at h
  refine s_Pa_isIn_80  ?_
  exact hk12 _ _ _ _ _ _ h
def fb_Pa_isIn_77 (k12 : Int → Int → Int → Int → Nat → kS → kRes) (x2 : Int) (x3 : Int) (x4 : Int) (x5 : Int) (s0 : Int) (s1 : Int) (t : Nat) (σ : kS) : kRes := kbi (f_Pa_step s1 s0 t σ) fun y σ1 => fb_Pa_isIn_80 k12 x2 x3 x4 x5 y t σ1
theorem e_Pa_isIn_77 {l : Launch} {G : kG} {yf : Int} {σf : kS} {k12 : Int → Int → Int → Int → Nat → kS → kRes} (hk12 : ∀ (x2 : Int) (x3 : Int) (x4 : Int) (x5 : Int) (t : Nat)  (σ : kS), k12 x2 x3 x4 x5 t σ = some (some yf, σf) → Rn l G dm_Pa_isIn m_Pa_isIn (kI fun y' σ' => y' = yf ∧ σ' = σf) 12 [some (.inr (8, t)), some (.inr (2, 0)), some (.inl x2), some (.inl x3), some (.inl x4), some (.inl x5)] [] σ) {x2 : Int} {x3 : Int} {x4 : Int} {x5 : Int} {s0 : Int} {s1 : Int} {t : Nat}  {σ : kS} (h : fb_Pa_isIn_77 k12 x2 x3 x4 x5 s0 s1 t σ = some (some yf, σf)) : Rn l G dm_Pa_isIn m_Pa_isIn (kI fun y' σ' => y' = yf ∧ σ' = σf) 77 [some (.inr (8, t)), some (.inr (2, 0)), some (.inl x2), some (.inl x3), some (.inl x4), some (.inl x5)] [.inl s0, .inl s1, .inr (8, t)] σ := by
  unfold fb_Pa_isIn_77 at h
  obtain ⟨y, σ1, hc, h⟩ := kbi_some h
  refine s_Pa_isIn_77  (by decide) (E_Pa_step hc) (fun y2 σ2 e2 => ?_)
  obtain ⟨rfl, rfl⟩ := e2
  exact e_Pa_isIn_80 hk12 h
def fb_Pa_isIn_67 (k12 : Int → Int → Int → Int → Nat → kS → kRes) (x2 : Int) (x3 : Int) (x4 : Int) (x5 : Int) (t : Nat) (σ : kS) : kRes := kbi (f_Te_codeAt x2 x5 0 σ) fun y σ1 => fb_Pa_isIn_77 k12 x2 x3 x4 x5 y x4 t σ1
theorem e_Pa_isIn_67 {l : Launch} {G : kG} {yf : Int} {σf : kS} {k12 : Int → Int → Int → Int → Nat → kS → kRes} (hk12 : ∀ (x2 : Int) (x3 : Int) (x4 : Int) (x5 : Int) (t : Nat)  (σ : kS), k12 x2 x3 x4 x5 t σ = some (some yf, σf) → Rn l G dm_Pa_isIn m_Pa_isIn (kI fun y' σ' => y' = yf ∧ σ' = σf) 12 [some (.inr (8, t)), some (.inr (2, 0)), some (.inl x2), some (.inl x3), some (.inl x4), some (.inl x5)] [] σ) {x2 : Int} {x3 : Int} {x4 : Int} {x5 : Int} {t : Nat}  {σ : kS} (h : fb_Pa_isIn_67 k12 x2 x3 x4 x5 t σ = some (some yf, σf)) : Rn l G dm_Pa_isIn m_Pa_isIn (kI fun y' σ' => y' = yf ∧ σ' = σf) 67 [some (.inr (8, t)), some (.inr (2, 0)), some (.inl x2), some (.inl x3), some (.inl x4), some (.inl x5)] [] σ := by
  unfold fb_Pa_isIn_67 at h
  obtain ⟨y, σ1, hc, h⟩ := kbi_some h
  refine s_Pa_isIn_67  (by decide) (E_Te_codeAt hc) (fun y2 σ2 e2 => ?_)
  obtain ⟨rfl, rfl⟩ := e2
  exact e_Pa_isIn_77 hk12 h
def fb_Pa_isIn_65  (x2 : Int) (x3 : Int) (x4 : Int) (x5 : Int) (t : Nat) (σ : kS) : kRes := some (some 1, σ)
theorem e_Pa_isIn_65 {l : Launch} {G : kG} {yf : Int} {σf : kS}  {x2 : Int} {x3 : Int} {x4 : Int} {x5 : Int} {t : Nat}  {σ : kS} (h : fb_Pa_isIn_65  x2 x3 x4 x5 t σ = some (some yf, σf)) : Rn l G dm_Pa_isIn m_Pa_isIn (kI fun y' σ' => y' = yf ∧ σ' = σf) 65 [some (.inr (8, t)), some (.inr (2, 0)), some (.inl x2), some (.inl x3), some (.inl x4), some (.inl x5)] [] σ := by
  unfold fb_Pa_isIn_65 at h
  simp only [Option.some.injEq, Prod.mk.injEq, true_and] at h
  exact s_Pa_isIn_65  ⟨_, rfl, h⟩
def fb_Pa_isIn_62 (k12 : Int → Int → Int → Int → Nat → kS → kRes) (x2 : Int) (x3 : Int) (x4 : Int) (x5 : Int) (s0 : Int) (t : Nat) (σ : kS) : kRes := kg ((-2147483648 ≤ s0 ∧ s0 < 2147483648)) (if s0 = 0 then fb_Pa_isIn_67 k12 x2 x3 x4 x5 t σ else fb_Pa_isIn_65  x2 x3 x4 x5 t σ)
theorem e_Pa_isIn_62 {l : Launch} {G : kG} {yf : Int} {σf : kS} {k12 : Int → Int → Int → Int → Nat → kS → kRes} (hk12 : ∀ (x2 : Int) (x3 : Int) (x4 : Int) (x5 : Int) (t : Nat)  (σ : kS), k12 x2 x3 x4 x5 t σ = some (some yf, σf) → Rn l G dm_Pa_isIn m_Pa_isIn (kI fun y' σ' => y' = yf ∧ σ' = σf) 12 [some (.inr (8, t)), some (.inr (2, 0)), some (.inl x2), some (.inl x3), some (.inl x4), some (.inl x5)] [] σ) {x2 : Int} {x3 : Int} {x4 : Int} {x5 : Int} {s0 : Int} {t : Nat}  {σ : kS} (h : fb_Pa_isIn_62 k12 x2 x3 x4 x5 s0 t σ = some (some yf, σf)) : Rn l G dm_Pa_isIn m_Pa_isIn (kI fun y' σ' => y' = yf ∧ σ' = σf) 62 [some (.inr (8, t)), some (.inr (2, 0)), some (.inl x2), some (.inl x3), some (.inl x4), some (.inl x5)] [.inl s0] σ := by
  unfold fb_Pa_isIn_62 at h
  obtain ⟨h1, h⟩ := kg_some h
  refine s_Pa_isIn_62 h1 (fun c => ?_) (fun c => ?_)
  · rw [if_pos c] at h
    exact e_Pa_isIn_67 hk12 h
  · rw [if_neg c] at h
    exact e_Pa_isIn_65  h
def fb_Pa_isIn_59 (k12 : Int → Int → Int → Int → Nat → kS → kRes) (x2 : Int) (x3 : Int) (x4 : Int) (x5 : Int) (s0 : Int) (s1 : Int) (t : Nat) (σ : kS) : kRes := kbi (f_Pa_isOver s1 s0 t σ) fun y σ1 => fb_Pa_isIn_62 k12 x2 x3 x4 x5 y t σ1
theorem e_Pa_isIn_59 {l : Launch} {G : kG} {yf : Int} {σf : kS} {k12 : Int → Int → Int → Int → Nat → kS → kRes} (hk12 : ∀ (x2 : Int) (x3 : Int) (x4 : Int) (x5 : Int) (t : Nat)  (σ : kS), k12 x2 x3 x4 x5 t σ = some (some yf, σf) → Rn l G dm_Pa_isIn m_Pa_isIn (kI fun y' σ' => y' = yf ∧ σ' = σf) 12 [some (.inr (8, t)), some (.inr (2, 0)), some (.inl x2), some (.inl x3), some (.inl x4), some (.inl x5)] [] σ) {x2 : Int} {x3 : Int} {x4 : Int} {x5 : Int} {s0 : Int} {s1 : Int} {t : Nat}  {σ : kS} (h : fb_Pa_isIn_59 k12 x2 x3 x4 x5 s0 s1 t σ = some (some yf, σf)) : Rn l G dm_Pa_isIn m_Pa_isIn (kI fun y' σ' => y' = yf ∧ σ' = σf) 59 [some (.inr (8, t)), some (.inr (2, 0)), some (.inl x2), some (.inl x3), some (.inl x4), some (.inl x5)] [.inl s0, .inl s1, .inr (8, t)] σ := by
  unfold fb_Pa_isIn_59 at h
  obtain ⟨y, σ1, hc, h⟩ := kbi_some h
  refine s_Pa_isIn_59  (by decide) (E_Pa_isOver hc) (fun y2 σ2 e2 => ?_)
  obtain ⟨rfl, rfl⟩ := e2
  exact e_Pa_isIn_62 hk12 h
def fb_Pa_isIn_58 (k12 : Int → Int → Int → Int → Nat → kS → kRes) (x2 : Int) (x3 : Int) (x4 : Int) (x5 : Int) (s0 : Int) (t : Nat) (σ : kS) : kRes := fb_Pa_isIn_59 k12 x2 x3 x4 x5 0 s0 t σ
theorem e_Pa_isIn_58 {l : Launch} {G : kG} {yf : Int} {σf : kS} {k12 : Int → Int → Int → Int → Nat → kS → kRes} (hk12 : ∀ (x2 : Int) (x3 : Int) (x4 : Int) (x5 : Int) (t : Nat)  (σ : kS), k12 x2 x3 x4 x5 t σ = some (some yf, σf) → Rn l G dm_Pa_isIn m_Pa_isIn (kI fun y' σ' => y' = yf ∧ σ' = σf) 12 [some (.inr (8, t)), some (.inr (2, 0)), some (.inl x2), some (.inl x3), some (.inl x4), some (.inl x5)] [] σ) {x2 : Int} {x3 : Int} {x4 : Int} {x5 : Int} {s0 : Int} {t : Nat}  {σ : kS} (h : fb_Pa_isIn_58 k12 x2 x3 x4 x5 s0 t σ = some (some yf, σf)) : Rn l G dm_Pa_isIn m_Pa_isIn (kI fun y' σ' => y' = yf ∧ σ' = σf) 58 [some (.inr (8, t)), some (.inr (2, 0)), some (.inl x2), some (.inl x3), some (.inl x4), some (.inl x5)] [.inl s0, .inr (8, t)] σ := by
  unfold fb_Pa_isIn_58 at h
  refine s_Pa_isIn_58  ?_
  exact e_Pa_isIn_59 hk12 h
def fb_Pa_isIn_54 (k12 : Int → Int → Int → Int → Nat → kS → kRes) (x2 : Int) (x3 : Int) (x4 : Int) (x5 : Int) (s0 : Int) (t : Nat) (σ : kS) : kRes := fb_Pa_isIn_59 k12 x2 x3 x4 x5 1 s0 t σ
theorem e_Pa_isIn_54 {l : Launch} {G : kG} {yf : Int} {σf : kS} {k12 : Int → Int → Int → Int → Nat → kS → kRes} (hk12 : ∀ (x2 : Int) (x3 : Int) (x4 : Int) (x5 : Int) (t : Nat)  (σ : kS), k12 x2 x3 x4 x5 t σ = some (some yf, σf) → Rn l G dm_Pa_isIn m_Pa_isIn (kI fun y' σ' => y' = yf ∧ σ' = σf) 12 [some (.inr (8, t)), some (.inr (2, 0)), some (.inl x2), some (.inl x3), some (.inl x4), some (.inl x5)] [] σ) {x2 : Int} {x3 : Int} {x4 : Int} {x5 : Int} {s0 : Int} {t : Nat}  {σ : kS} (h : fb_Pa_isIn_54 k12 x2 x3 x4 x5 s0 t σ = some (some yf, σf)) : Rn l G dm_Pa_isIn m_Pa_isIn (kI fun y' σ' => y' = yf ∧ σ' = σf) 54 [some (.inr (8, t)), some (.inr (2, 0)), some (.inl x2), some (.inl x3), some (.inl x4), some (.inl x5)] [.inl s0, .inr (8, t)] σ := by
  unfold fb_Pa_isIn_54 at h
  refine s_Pa_isIn_54  ?_
  exact e_Pa_isIn_59 hk12 h
def fb_Pa_isIn_43 (k12 : Int → Int → Int → Int → Nat → kS → kRes) (x2 : Int) (x3 : Int) (x4 : Int) (x5 : Int) (s0 : Int) (t : Nat) (σ : kS) : kRes := kg ((-2147483648 ≤ x5 ∧ x5 < 2147483648) ∧ (-2147483648 ≤ x3 ∧ x3 < 2147483648)) (if x5 = x3 then fb_Pa_isIn_54 k12 x2 x3 s0 x5 s0 t σ else fb_Pa_isIn_58 k12 x2 x3 s0 x5 s0 t σ)
theorem e_Pa_isIn_43 {l : Launch} {G : kG} {yf : Int} {σf : kS} {k12 : Int → Int → Int → Int → Nat → kS → kRes} (hk12 : ∀ (x2 : Int) (x3 : Int) (x4 : Int) (x5 : Int) (t : Nat)  (σ : kS), k12 x2 x3 x4 x5 t σ = some (some yf, σf) → Rn l G dm_Pa_isIn m_Pa_isIn (kI fun y' σ' => y' = yf ∧ σ' = σf) 12 [some (.inr (8, t)), some (.inr (2, 0)), some (.inl x2), some (.inl x3), some (.inl x4), some (.inl x5)] [] σ) {x2 : Int} {x3 : Int} {x4 : Int} {x5 : Int} {s0 : Int} {t : Nat}  {σ : kS} (h : fb_Pa_isIn_43 k12 x2 x3 x4 x5 s0 t σ = some (some yf, σf)) : Rn l G dm_Pa_isIn m_Pa_isIn (kI fun y' σ' => y' = yf ∧ σ' = σf) 43 [some (.inr (8, t)), some (.inr (2, 0)), some (.inl x2), some (.inl x3), some (.inl x4), some (.inl x5)] [.inl s0] σ := by
  unfold fb_Pa_isIn_43 at h
  obtain ⟨⟨h1, h2⟩, h⟩ := kg_some h
  refine s_Pa_isIn_43 h1 h2 (fun c => ?_) (fun c => ?_)
  · rw [if_neg c] at h
    exact e_Pa_isIn_58 hk12 h
  · rw [if_pos c] at h
    exact e_Pa_isIn_54 hk12 h
def fb_Pa_isIn_40 (k12 : Int → Int → Int → Int → Nat → kS → kRes) (x2 : Int) (x3 : Int) (x4 : Int) (x5 : Int) (s0 : Int) (t : Nat) (σ : kS) : kRes := kbi (f_Pa_passStars s0 t σ) fun y σ1 => fb_Pa_isIn_43 k12 x2 x3 x4 x5 y t σ1
theorem e_Pa_isIn_40 {l : Launch} {G : kG} {yf : Int} {σf : kS} {k12 : Int → Int → Int → Int → Nat → kS → kRes} (hk12 : ∀ (x2 : Int) (x3 : Int) (x4 : Int) (x5 : Int) (t : Nat)  (σ : kS), k12 x2 x3 x4 x5 t σ = some (some yf, σf) → Rn l G dm_Pa_isIn m_Pa_isIn (kI fun y' σ' => y' = yf ∧ σ' = σf) 12 [some (.inr (8, t)), some (.inr (2, 0)), some (.inl x2), some (.inl x3), some (.inl x4), some (.inl x5)] [] σ) {x2 : Int} {x3 : Int} {x4 : Int} {x5 : Int} {s0 : Int} {t : Nat}  {σ : kS} (h : fb_Pa_isIn_40 k12 x2 x3 x4 x5 s0 t σ = some (some yf, σf)) : Rn l G dm_Pa_isIn m_Pa_isIn (kI fun y' σ' => y' = yf ∧ σ' = σf) 40 [some (.inr (8, t)), some (.inr (2, 0)), some (.inl x2), some (.inl x3), some (.inl x4), some (.inl x5)] [.inl s0, .inr (8, t)] σ := by
  unfold fb_Pa_isIn_40 at h
  obtain ⟨y, σ1, hc, h⟩ := kbi_some h
  refine s_Pa_isIn_40  (by decide) (E_Pa_passStars hc) (fun y2 σ2 e2 => ?_)
  obtain ⟨rfl, rfl⟩ := e2
  exact e_Pa_isIn_43 hk12 h
def fb_Pa_isIn_36 (k12 : Int → Int → Int → Int → Nat → kS → kRes) (x2 : Int) (x3 : Int) (x4 : Int) (x5 : Int) (t : Nat) (σ : kS) : kRes := fb_Pa_isIn_40 k12 x2 x3 x4 x5 (kor x4 1) t σ
theorem e_Pa_isIn_36 {l : Launch} {G : kG} {yf : Int} {σf : kS} {k12 : Int → Int → Int → Int → Nat → kS → kRes} (hk12 : ∀ (x2 : Int) (x3 : Int) (x4 : Int) (x5 : Int) (t : Nat)  (σ : kS), k12 x2 x3 x4 x5 t σ = some (some yf, σf) → Rn l G dm_Pa_isIn m_Pa_isIn (kI fun y' σ' => y' = yf ∧ σ' = σf) 12 [some (.inr (8, t)), some (.inr (2, 0)), some (.inl x2), some (.inl x3), some (.inl x4), some (.inl x5)] [] σ) {x2 : Int} {x3 : Int} {x4 : Int} {x5 : Int} {t : Nat}  {σ : kS} (h : fb_Pa_isIn_36 k12 x2 x3 x4 x5 t σ = some (some yf, σf)) : Rn l G dm_Pa_isIn m_Pa_isIn (kI fun y' σ' => y' = yf ∧ σ' = σf) 36 [some (.inr (8, t)), some (.inr (2, 0)), some (.inl x2), some (.inl x3), some (.inl x4), some (.inl x5)] [.inr (8, t)] σ := by
  unfold fb_Pa_isIn_36 at h
  refine s_Pa_isIn_36  ?_
  exact e_Pa_isIn_40 hk12 h
def fb_Pa_isIn_31 (k12 : Int → Int → Int → Int → Nat → kS → kRes) (x2 : Int) (x3 : Int) (x4 : Int) (x5 : Int) (t : Nat) (σ : kS) : kRes := fb_Pa_isIn_40 k12 x2 x3 x4 x5 x4 t σ
theorem e_Pa_isIn_31 {l : Launch} {G : kG} {yf : Int} {σf : kS} {k12 : Int → Int → Int → Int → Nat → kS → kRes} (hk12 : ∀ (x2 : Int) (x3 : Int) (x4 : Int) (x5 : Int) (t : Nat)  (σ : kS), k12 x2 x3 x4 x5 t σ = some (some yf, σf) → Rn l G dm_Pa_isIn m_Pa_isIn (kI fun y' σ' => y' = yf ∧ σ' = σf) 12 [some (.inr (8, t)), some (.inr (2, 0)), some (.inl x2), some (.inl x3), some (.inl x4), some (.inl x5)] [] σ) {x2 : Int} {x3 : Int} {x4 : Int} {x5 : Int} {t : Nat}  {σ : kS} (h : fb_Pa_isIn_31 k12 x2 x3 x4 x5 t σ = some (some yf, σf)) : Rn l G dm_Pa_isIn m_Pa_isIn (kI fun y' σ' => y' = yf ∧ σ' = σf) 31 [some (.inr (8, t)), some (.inr (2, 0)), some (.inl x2), some (.inl x3), some (.inl x4), some (.inl x5)] [.inr (8, t)] σ := by
  unfold fb_Pa_isIn_31 at h
  refine s_Pa_isIn_31  ?_
  exact e_Pa_isIn_40 hk12 h
def fb_Pa_isIn_26 (k12 : Int → Int → Int → Int → Nat → kS → kRes) (x2 : Int) (x3 : Int) (x4 : Int) (x5 : Int) (t : Nat) (σ : kS) : kRes := kg ((-2147483648 ≤ x5 ∧ x5 < 2147483648)) (if x5 = 0 then fb_Pa_isIn_36 k12 x2 x3 x4 x5 t σ else fb_Pa_isIn_31 k12 x2 x3 x4 x5 t σ)
theorem e_Pa_isIn_26 {l : Launch} {G : kG} {yf : Int} {σf : kS} {k12 : Int → Int → Int → Int → Nat → kS → kRes} (hk12 : ∀ (x2 : Int) (x3 : Int) (x4 : Int) (x5 : Int) (t : Nat)  (σ : kS), k12 x2 x3 x4 x5 t σ = some (some yf, σf) → Rn l G dm_Pa_isIn m_Pa_isIn (kI fun y' σ' => y' = yf ∧ σ' = σf) 12 [some (.inr (8, t)), some (.inr (2, 0)), some (.inl x2), some (.inl x3), some (.inl x4), some (.inl x5)] [] σ) {x2 : Int} {x3 : Int} {x4 : Int} {x5 : Int} {t : Nat}  {σ : kS} (h : fb_Pa_isIn_26 k12 x2 x3 x4 x5 t σ = some (some yf, σf)) : Rn l G dm_Pa_isIn m_Pa_isIn (kI fun y' σ' => y' = yf ∧ σ' = σf) 26 [some (.inr (8, t)), some (.inr (2, 0)), some (.inl x2), some (.inl x3), some (.inl x4), some (.inl x5)] [.inr (8, t)] σ := by
  unfold fb_Pa_isIn_26 at h
  obtain ⟨h1, h⟩ := kg_some h
  refine s_Pa_isIn_26 h1 (fun c => ?_) (fun c => ?_)
  · rw [if_pos c] at h
    exact e_Pa_isIn_36 hk12 h
  · rw [if_neg c] at h
    exact e_Pa_isIn_31 hk12 h
def fb_Pa_isIn_18 (k12 : Int → Int → Int → Int → Nat → kS → kRes) (x2 : Int) (x3 : Int) (x4 : Int) (x5 : Int) (t : Nat) (σ : kS) : kRes := kg ((-2147483648 ≤ σ 8 t 3 ∧ σ 8 t 3 < 2147483648)) (if (σ 8 t 3) = 0 then fb_Pa_isIn_36 k12 x2 x3 x4 x5 t σ else fb_Pa_isIn_26 k12 x2 x3 x4 x5 t σ)
theorem e_Pa_isIn_18 {l : Launch} {G : kG} {yf : Int} {σf : kS} {k12 : Int → Int → Int → Int → Nat → kS → kRes} (hk12 : ∀ (x2 : Int) (x3 : Int) (x4 : Int) (x5 : Int) (t : Nat)  (σ : kS), k12 x2 x3 x4 x5 t σ = some (some yf, σf) → Rn l G dm_Pa_isIn m_Pa_isIn (kI fun y' σ' => y' = yf ∧ σ' = σf) 12 [some (.inr (8, t)), some (.inr (2, 0)), some (.inl x2), some (.inl x3), some (.inl x4), some (.inl x5)] [] σ) {x2 : Int} {x3 : Int} {x4 : Int} {x5 : Int} {t : Nat}  {σ : kS} (h : fb_Pa_isIn_18 k12 x2 x3 x4 x5 t σ = some (some yf, σf)) : Rn l G dm_Pa_isIn m_Pa_isIn (kI fun y' σ' => y' = yf ∧ σ' = σf) 18 [some (.inr (8, t)), some (.inr (2, 0)), some (.inl x2), some (.inl x3), some (.inl x4), some (.inl x5)] [] σ := by
  unfold fb_Pa_isIn_18 at h
  obtain ⟨h1, h⟩ := kg_some h
  refine s_Pa_isIn_18 h1 (fun c => ?_) (fun c => ?_)
  · rw [if_pos c] at h
    exact e_Pa_isIn_36 hk12 h
  · rw [if_neg c] at h
    exact e_Pa_isIn_26 hk12 h
def fb_Pa_isIn_12 (k12 : Int → Int → Int → Int → Nat → kS → kRes) (x2 : Int) (x3 : Int) (x4 : Int) (x5 : Int) (t : Nat) (σ : kS) : kRes := kg ((-2147483648 ≤ x5 ∧ x5 < 2147483648) ∧ (-2147483648 ≤ x3 ∧ x3 < 2147483648)) (if x3 < x5 then fb_Pa_isIn_88  x2 x3 x4 x5 t σ else fb_Pa_isIn_18 k12 x2 x3 x4 x5 t σ)
theorem e_Pa_isIn_12 {l : Launch} {G : kG} {yf : Int} {σf : kS} {k12 : Int → Int → Int → Int → Nat → kS → kRes} (hk12 : ∀ (x2 : Int) (x3 : Int) (x4 : Int) (x5 : Int) (t : Nat)  (σ : kS), k12 x2 x3 x4 x5 t σ = some (some yf, σf) → Rn l G dm_Pa_isIn m_Pa_isIn (kI fun y' σ' => y' = yf ∧ σ' = σf) 12 [some (.inr (8, t)), some (.inr (2, 0)), some (.inl x2), some (.inl x3), some (.inl x4), some (.inl x5)] [] σ) {x2 : Int} {x3 : Int} {x4 : Int} {x5 : Int} {t : Nat}  {σ : kS} (h : fb_Pa_isIn_12 k12 x2 x3 x4 x5 t σ = some (some yf, σf)) : Rn l G dm_Pa_isIn m_Pa_isIn (kI fun y' σ' => y' = yf ∧ σ' = σf) 12 [some (.inr (8, t)), some (.inr (2, 0)), some (.inl x2), some (.inl x3), some (.inl x4), some (.inl x5)] [] σ := by
  unfold fb_Pa_isIn_12 at h
  obtain ⟨⟨h1, h2⟩, h⟩ := kg_some h
  refine s_Pa_isIn_12 h1 h2 (fun c => ?_) (fun c => ?_)
  · rw [if_pos c] at h
    exact e_Pa_isIn_88  h
  · rw [if_neg c] at h
    exact e_Pa_isIn_18 hk12 h
def fl_Pa_isIn_12  : Nat → Int → Int → Int → Int → Nat → kS → kRes
  | 0, _, _, _, _, _, _ => none
  | n + 1, x2, x3, x4, x5, t, σ => fb_Pa_isIn_12 (fl_Pa_isIn_12  n) x2 x3 x4 x5 t σ
theorem el_Pa_isIn_12 {l : Launch} {G : kG} {yf : Int} {σf : kS}  : ∀ (n : Nat) (x2 : Int) (x3 : Int) (x4 : Int) (x5 : Int) (t : Nat)  (σ : kS), fl_Pa_isIn_12  n x2 x3 x4 x5 t σ = some (some yf, σf) → Rn l G dm_Pa_isIn m_Pa_isIn (kI fun y' σ' => y' = yf ∧ σ' = σf) 12 [some (.inr (8, t)), some (.inr (2, 0)), some (.inl x2), some (.inl x3), some (.inl x4), some (.inl x5)] [] σ := by
  intro n
  induction n with
  | zero => intro x2 x3 x4 x5 t σ h; simp only [fl_Pa_isIn_12] at h; cases h
  | succ n ih => intro x2 x3 x4 x5 t σ h; simp only [fl_Pa_isIn_12] at h; exact e_Pa_isIn_12 ih h
def fb_Pa_isIn_5  (x2 : Int) (s0 : Int) (t : Nat) (σ : kS) : kRes := fl_Pa_isIn_12  3000 x2 s0 0 0 t σ
theorem e_Pa_isIn_5 {l : Launch} {G : kG} {yf : Int} {σf : kS}  {x2 : Int} {s0 : Int} {t : Nat} {o3 : Option kV} {o4 : Option kV} {o5 : Option kV} {σ : kS} (h : fb_Pa_isIn_5  x2 s0 t σ = some (some yf, σf)) : Rn l G dm_Pa_isIn m_Pa_isIn (kI fun y' σ' => y' = yf ∧ σ' = σf) 5 [some (.inr (8, t)), some (.inr (2, 0)), some (.inl x2), o3, o4, o5] [.inl s0] σ := by
  unfold fb_Pa_isIn_5 at h
  refine s_Pa_isIn_5  ?_
  exact el_Pa_isIn_12  _ _ _ _ _ _ _ h
def fb_Pa_isIn_0  (x2 : Int) (t : Nat) (σ : kS) : kRes := kbi (f_Te_sizeOf x2 0 σ) fun y σ1 => fb_Pa_isIn_5  x2 y t σ1
theorem e_Pa_isIn_0 {l : Launch} {G : kG} {yf : Int} {σf : kS}  {x2 : Int} {t : Nat} {o3 : Option kV} {o4 : Option kV} {o5 : Option kV} {σ : kS} (h : fb_Pa_isIn_0  x2 t σ = some (some yf, σf)) : Rn l G dm_Pa_isIn m_Pa_isIn (kI fun y' σ' => y' = yf ∧ σ' = σf) 0 [some (.inr (8, t)), some (.inr (2, 0)), some (.inl x2), o3, o4, o5] [] σ := by
  unfold fb_Pa_isIn_0 at h
  obtain ⟨y, σ1, hc, h⟩ := kbi_some h
  refine s_Pa_isIn_0  (by decide) (E_Te_sizeOf hc) (fun y2 σ2 e2 => ?_)
  obtain ⟨rfl, rfl⟩ := e2
  exact e_Pa_isIn_5  h
def f_Pa_isIn (x2 : Int) (t : Nat) (σ : kS) : kRes := fb_Pa_isIn_0 x2 t σ
theorem E_Pa_isIn {l : Launch} {G : kG} {yf : Int} {σf : kS} {x2 : Int} {t : Nat} {σ : kS} (h : f_Pa_isIn x2 t σ = some (some yf, σf)) : Call l G dm_Pa_isIn y_Pa_isIn m_Pa_isIn [.inr (8, t), .inr (2, 0), .inl x2] σ (kI fun y' σ' => y' = yf ∧ σ' = σf) := by
  unfold f_Pa_isIn at h
  exact Call.of (by decide +kernel) rfl (Nat.le_of_ble_eq_true rfl) (e_Pa_isIn_0 h)
/-! Cl_noteLines -/
def fb_Cl_noteLines_42  (x1 : Int) (x2 : Int) (σ : kS) : kRes := some (some x1, σ)
theorem e_Cl_noteLines_42 {l : Launch} {G : kG} {yf : Int} {σf : kS}  {x1 : Int} {x2 : Int}  {σ : kS} (h : fb_Cl_noteLines_42  x1 x2 σ = some (some yf, σf)) : Rn l G dm_Cl_noteLines m_Cl_noteLines (kI fun y' σ' => y' = yf ∧ σ' = σf) 42 [some (.inr (7, 0)), some (.inl x1), some (.inl x2)] [] σ := by
  unfold fb_Cl_noteLines_42 at h
  simp only [Option.some.injEq, Prod.mk.injEq, true_and] at h
  exact s_Cl_noteLines_42  ⟨_, rfl, h⟩
def fb_Cl_noteLines_36 (k7 : Int → Int → kS → kRes) (x1 : Int) (x2 : Int) (σ : kS) : kRes := k7 x1 (x2 + 1) σ
theorem e_Cl_noteLines_36 {l : Launch} {G : kG} {yf : Int} {σf : kS} {k7 : Int → Int → kS → kRes} (hk7 : ∀ (x1 : Int) (x2 : Int)  (σ : kS), k7 x1 x2 σ = some (some yf, σf) → Rn l G dm_Cl_noteLines m_Cl_noteLines (kI fun y' σ' => y' = yf ∧ σ' = σf) 7 [some (.inr (7, 0)), some (.inl x1), some (.inl x2)] [] σ) {x1 : Int} {x2 : Int}  {σ : kS} (h : fb_Cl_noteLines_36 k7 x1 x2 σ = some (some yf, σf)) : Rn l G dm_Cl_noteLines m_Cl_noteLines (kI fun y' σ' => y' = yf ∧ σ' = σf) 36 [some (.inr (7, 0)), some (.inl x1), some (.inl x2)] [] σ := by
  unfold fb_Cl_noteLines_36 at h
  refine s_Cl_noteLines_36  ?_
  exact hk7 _ _ _ h
def fb_Cl_noteLines_30 (k7 : Int → Int → kS → kRes) (x1 : Int) (x2 : Int) (σ : kS) : kRes := fb_Cl_noteLines_36 k7 (kor x1 (kshl 1 x2)) x2 σ
theorem e_Cl_noteLines_30 {l : Launch} {G : kG} {yf : Int} {σf : kS} {k7 : Int → Int → kS → kRes} (hk7 : ∀ (x1 : Int) (x2 : Int)  (σ : kS), k7 x1 x2 σ = some (some yf, σf) → Rn l G dm_Cl_noteLines m_Cl_noteLines (kI fun y' σ' => y' = yf ∧ σ' = σf) 7 [some (.inr (7, 0)), some (.inl x1), some (.inl x2)] [] σ) {x1 : Int} {x2 : Int}  {σ : kS} (h : fb_Cl_noteLines_30 k7 x1 x2 σ = some (some yf, σf)) : Rn l G dm_Cl_noteLines m_Cl_noteLines (kI fun y' σ' => y' = yf ∧ σ' = σf) 30 [some (.inr (7, 0)), some (.inl x1), some (.inl x2)] [] σ := by
  unfold fb_Cl_noteLines_30 at h
  refine s_Cl_noteLines_30  ?_
  exact e_Cl_noteLines_36 hk7 h
def fb_Cl_noteLines_27 (k7 : Int → Int → kS → kRes) (x1 : Int) (x2 : Int) (s0 : Int) (σ : kS) : kRes := kg ((-2147483648 ≤ s0 ∧ s0 < 2147483648)) (if s0 = 0 then fb_Cl_noteLines_36 k7 x1 x2 σ else fb_Cl_noteLines_30 k7 x1 x2 σ)
theorem e_Cl_noteLines_27 {l : Launch} {G : kG} {yf : Int} {σf : kS} {k7 : Int → Int → kS → kRes} (hk7 : ∀ (x1 : Int) (x2 : Int)  (σ : kS), k7 x1 x2 σ = some (some yf, σf) → Rn l G dm_Cl_noteLines m_Cl_noteLines (kI fun y' σ' => y' = yf ∧ σ' = σf) 7 [some (.inr (7, 0)), some (.inl x1), some (.inl x2)] [] σ) {x1 : Int} {x2 : Int} {s0 : Int}  {σ : kS} (h : fb_Cl_noteLines_27 k7 x1 x2 s0 σ = some (some yf, σf)) : Rn l G dm_Cl_noteLines m_Cl_noteLines (kI fun y' σ' => y' = yf ∧ σ' = σf) 27 [some (.inr (7, 0)), some (.inl x1), some (.inl x2)] [.inl s0] σ := by
  unfold fb_Cl_noteLines_27 at h
  obtain ⟨h1, h⟩ := kg_some h
  refine s_Cl_noteLines_27 h1 (fun c => ?_) (fun c => ?_)
  · rw [if_pos c] at h
    exact e_Cl_noteLines_36 hk7 h
  · rw [if_neg c] at h
    exact e_Cl_noteLines_30 hk7 h
def fb_Cl_noteLines_15 (k7 : Int → Int → kS → kRes) (x1 : Int) (x2 : Int) (σ : kS) : kRes := kbi (f_Pa_isIn x2 1 σ) fun y σ1 => fb_Cl_noteLines_27 k7 x1 x2 y σ1
theorem e_Cl_noteLines_15 {l : Launch} {G : kG} {yf : Int} {σf : kS} {k7 : Int → Int → kS → kRes} (hk7 : ∀ (x1 : Int) (x2 : Int)  (σ : kS), k7 x1 x2 σ = some (some yf, σf) → Rn l G dm_Cl_noteLines m_Cl_noteLines (kI fun y' σ' => y' = yf ∧ σ' = σf) 7 [some (.inr (7, 0)), some (.inl x1), some (.inl x2)] [] σ) {x1 : Int} {x2 : Int}  {σ : kS} (h : fb_Cl_noteLines_15 k7 x1 x2 σ = some (some yf, σf)) : Rn l G dm_Cl_noteLines m_Cl_noteLines (kI fun y' σ' => y' = yf ∧ σ' = σf) 15 [some (.inr (7, 0)), some (.inl x1), some (.inl x2)] [] σ := by
  unfold fb_Cl_noteLines_15 at h
  obtain ⟨y, σ1, hc, h⟩ := kbi_some h
  refine s_Cl_noteLines_15  (by decide) (E_Pa_isIn hc) (fun y2 σ2 e2 => ?_)
  obtain ⟨rfl, rfl⟩ := e2
  exact e_Cl_noteLines_27 hk7 h
def fb_Cl_noteLines_7 (k7 : Int → Int → kS → kRes) (x1 : Int) (x2 : Int) (σ : kS) : kRes := kg ((-2147483648 ≤ x2 ∧ x2 < 2147483648) ∧ (-2147483648 ≤ σ 7 0 12 ∧ σ 7 0 12 < 2147483648)) (if (σ 7 0 12) < x2 then fb_Cl_noteLines_42  x1 x2 σ else fb_Cl_noteLines_15 k7 x1 x2 σ)
theorem e_Cl_noteLines_7 {l : Launch} {G : kG} {yf : Int} {σf : kS} {k7 : Int → Int → kS → kRes} (hk7 : ∀ (x1 : Int) (x2 : Int)  (σ : kS), k7 x1 x2 σ = some (some yf, σf) → Rn l G dm_Cl_noteLines m_Cl_noteLines (kI fun y' σ' => y' = yf ∧ σ' = σf) 7 [some (.inr (7, 0)), some (.inl x1), some (.inl x2)] [] σ) {x1 : Int} {x2 : Int}  {σ : kS} (h : fb_Cl_noteLines_7 k7 x1 x2 σ = some (some yf, σf)) : Rn l G dm_Cl_noteLines m_Cl_noteLines (kI fun y' σ' => y' = yf ∧ σ' = σf) 7 [some (.inr (7, 0)), some (.inl x1), some (.inl x2)] [] σ := by
  unfold fb_Cl_noteLines_7 at h
  obtain ⟨⟨h1, h2⟩, h⟩ := kg_some h
  refine s_Cl_noteLines_7 h1 h2 (fun c => ?_) (fun c => ?_)
  · rw [if_pos c] at h
    exact e_Cl_noteLines_42  h
  · rw [if_neg c] at h
    exact e_Cl_noteLines_15 hk7 h
def fl_Cl_noteLines_7  : Nat → Int → Int → kS → kRes
  | 0, _, _, _ => none
  | n + 1, x1, x2, σ => fb_Cl_noteLines_7 (fl_Cl_noteLines_7  n) x1 x2 σ
theorem el_Cl_noteLines_7 {l : Launch} {G : kG} {yf : Int} {σf : kS}  : ∀ (n : Nat) (x1 : Int) (x2 : Int)  (σ : kS), fl_Cl_noteLines_7  n x1 x2 σ = some (some yf, σf) → Rn l G dm_Cl_noteLines m_Cl_noteLines (kI fun y' σ' => y' = yf ∧ σ' = σf) 7 [some (.inr (7, 0)), some (.inl x1), some (.inl x2)] [] σ := by
  intro n
  induction n with
  | zero => intro x1 x2 σ h; simp only [fl_Cl_noteLines_7] at h; cases h
  | succ n ih => intro x1 x2 σ h; simp only [fl_Cl_noteLines_7] at h; exact e_Cl_noteLines_7 ih h
def fb_Cl_noteLines_0   (σ : kS) : kRes := fl_Cl_noteLines_7  3000 0 (σ 7 0 11) σ
theorem e_Cl_noteLines_0 {l : Launch} {G : kG} {yf : Int} {σf : kS}   {o1 : Option kV} {o2 : Option kV} {σ : kS} (h : fb_Cl_noteLines_0   σ = some (some yf, σf)) : Rn l G dm_Cl_noteLines m_Cl_noteLines (kI fun y' σ' => y' = yf ∧ σ' = σf) 0 [some (.inr (7, 0)), o1, o2] [] σ := by
  unfold fb_Cl_noteLines_0 at h
  refine s_Cl_noteLines_0  ?_
  exact el_Cl_noteLines_7  _ _ _ _ h
def f_Cl_noteLines  (σ : kS) : kRes := fb_Cl_noteLines_0  σ
theorem E_Cl_noteLines {l : Launch} {G : kG} {yf : Int} {σf : kS}  {σ : kS} (h : f_Cl_noteLines  σ = some (some yf, σf)) : Call l G dm_Cl_noteLines y_Cl_noteLines m_Cl_noteLines [.inr (7, 0)] σ (kI fun y' σ' => y' = yf ∧ σ' = σf) := by
  unfold f_Cl_noteLines at h
  exact Call.of (by decide +kernel) rfl (Nat.le_of_ble_eq_true rfl) (e_Cl_noteLines_0 h)
/-! Te_copy -/
def fb_Te_copy_60  (t : Nat) (u : Nat) (σ : kS) : kRes := some (none, σ)
theorem e_Te_copy_60 {l : Launch} {G : kG} {σf : kS}  {t : Nat} {u : Nat}  {σ : kS} (h : fb_Te_copy_60  t u σ = some (none, σf)) : Rn l G dm_Te_copy m_Te_copy (kU fun σ' => σ' = σf) 60 [some (.inr (2, t)), some (.inr (2, u))] [] σ := by
  unfold fb_Te_copy_60 at h
  simp only [Option.some.injEq, Prod.mk.injEq, true_and] at h
  exact s_Te_copy_60  ⟨rfl, h⟩
def fb_Te_copy_42  (t : Nat) (u : Nat) (σ : kS) : kRes := kg (((0 : Int) ≤ 0 ∧ (0 : Int) ≤ 0 ∧ (0 : Int) ≤ 10 ∧ 0 + 10 ≤ ((10 : Nat) : Int) ∧ 0 + 10 ≤ ((10 : Nat) : Int))) (fb_Te_copy_60  t u (kupA σ 11 t (va_cpy (σ 11 u) (σ 11 t) (0) (0) (10))))
theorem e_Te_copy_42 {l : Launch} {G : kG} {σf : kS}  {t : Nat} {u : Nat}  {σ : kS} (h : fb_Te_copy_42  t u σ = some (none, σf)) : Rn l G dm_Te_copy m_Te_copy (kU fun σ' => σ' = σf) 42 [some (.inr (2, t)), some (.inr (2, u))] [] σ := by
  unfold fb_Te_copy_42 at h
  obtain ⟨h1, h⟩ := kg_some h
  refine s_Te_copy_42 h1 (by decide) ?_
  exact e_Te_copy_60  h
def fb_Te_copy_0  (t : Nat) (u : Nat) (σ : kS) : kRes := kg (((0 : Int) ≤ 0 ∧ (0 : Int) ≤ 0 ∧ (0 : Int) ≤ 200 ∧ 0 + 200 ≤ ((200 : Nat) : Int) ∧ 0 + 200 ≤ ((200 : Nat) : Int))) (fb_Te_copy_42  t u (kupA (kup (kup (kup σ 2 t 2 (σ 2 u 2)) 2 t 3 ((kup σ 2 t 2 (σ 2 u 2)) 2 u 3)) 2 t 4 ((kup (kup σ 2 t 2 (σ 2 u 2)) 2 t 3 ((kup σ 2 t 2 (σ 2 u 2)) 2 u 3)) 2 u 4)) 10 t (va_cpy ((kup (kup (kup σ 2 t 2 (σ 2 u 2)) 2 t 3 ((kup σ 2 t 2 (σ 2 u 2)) 2 u 3)) 2 t 4 ((kup (kup σ 2 t 2 (σ 2 u 2)) 2 t 3 ((kup σ 2 t 2 (σ 2 u 2)) 2 u 3)) 2 u 4)) 10 u) ((kup (kup (kup σ 2 t 2 (σ 2 u 2)) 2 t 3 ((kup σ 2 t 2 (σ 2 u 2)) 2 u 3)) 2 t 4 ((kup (kup σ 2 t 2 (σ 2 u 2)) 2 t 3 ((kup σ 2 t 2 (σ 2 u 2)) 2 u 3)) 2 u 4)) 10 t) (0) (0) (200))))
theorem e_Te_copy_0 {l : Launch} {G : kG} {σf : kS}  {t : Nat} {u : Nat}  {σ : kS} (h : fb_Te_copy_0  t u σ = some (none, σf)) : Rn l G dm_Te_copy m_Te_copy (kU fun σ' => σ' = σf) 0 [some (.inr (2, t)), some (.inr (2, u))] [] σ := by
  unfold fb_Te_copy_0 at h
  obtain ⟨h1, h⟩ := kg_some h
  refine s_Te_copy_0 h1 (by decide) ?_
  exact e_Te_copy_42  h
def f_Te_copy (t : Nat) (u : Nat) (σ : kS) : kRes := fb_Te_copy_0 t u σ
theorem E_Te_copy {l : Launch} {G : kG} {σf : kS} {t : Nat} {u : Nat} {σ : kS} (h : f_Te_copy t u σ = some (none, σf)) : Call l G dm_Te_copy y_Te_copy m_Te_copy [.inr (2, t), .inr (2, u)] σ (kU fun σ' => σ' = σf) := by
  unfold f_Te_copy at h
  exact Call.of (by decide +kernel) rfl (Nat.le_of_ble_eq_true rfl) (e_Te_copy_0 h)
/-! Cl_change -/
def fb_Cl_change_128  (x1 : Int) (σ : kS) : kRes := some (some 1, kup σ 1 0 5 1)
theorem e_Cl_change_128 {l : Launch} {G : kG} {yf : Int} {σf : kS}  {x1 : Int} {o2 : Option kV} {σ : kS} (h : fb_Cl_change_128  x1 σ = some (some yf, σf)) : Rn l G dm_Cl_change m_Cl_change (kI fun y' σ' => y' = yf ∧ σ' = σf) 128 [some (.inr (7, 0)), some (.inl x1), o2] [] σ := by
  unfold fb_Cl_change_128 at h
  simp only [Option.some.injEq, Prod.mk.injEq, true_and] at h
  exact s_Cl_change_128  ⟨_, rfl, h⟩
def fb_Cl_change_111  (x1 : Int) (σ : kS) : kRes := kbu (f_Te_copy 1 2 σ) fun σ1 => fb_Cl_change_128  x1 σ1
theorem e_Cl_change_111 {l : Launch} {G : kG} {yf : Int} {σf : kS}  {x1 : Int} {o2 : Option kV} {σ : kS} (h : fb_Cl_change_111  x1 σ = some (some yf, σf)) : Rn l G dm_Cl_change m_Cl_change (kI fun y' σ' => y' = yf ∧ σ' = σf) 111 [some (.inr (7, 0)), some (.inl x1), o2] [] σ := by
  unfold fb_Cl_change_111 at h
  obtain ⟨σ1, hc, h⟩ := kbu_some h
  refine s_Cl_change_111  (by decide) (E_Te_copy hc) (fun σ2 e2 => ?_)
  subst e2
  exact e_Cl_change_128  h
def fb_Cl_change_102  (x1 : Int) (x2 : Int) (σ : kS) : kRes := kbu (f_Te_stand x2 0 0 σ) fun σ1 => fb_Cl_change_111  x1 σ1
theorem e_Cl_change_102 {l : Launch} {G : kG} {yf : Int} {σf : kS}  {x1 : Int} {x2 : Int}  {σ : kS} (h : fb_Cl_change_102  x1 x2 σ = some (some yf, σf)) : Rn l G dm_Cl_change m_Cl_change (kI fun y' σ' => y' = yf ∧ σ' = σf) 102 [some (.inr (7, 0)), some (.inl x1), some (.inl x2)] [] σ := by
  unfold fb_Cl_change_102 at h
  obtain ⟨σ1, hc, h⟩ := kbu_some h
  refine s_Cl_change_102  (by decide) (E_Te_stand hc) (fun σ2 e2 => ?_)
  subst e2
  exact e_Cl_change_111  h
def fb_Cl_change_98  (x1 : Int) (x2 : Int) (σ : kS) : kRes := kg ((-2147483648 ≤ x2 ∧ x2 < 2147483648)) (if x2 < 0 then fb_Cl_change_111  x1 σ else fb_Cl_change_102  x1 x2 σ)
theorem e_Cl_change_98 {l : Launch} {G : kG} {yf : Int} {σf : kS}  {x1 : Int} {x2 : Int}  {σ : kS} (h : fb_Cl_change_98  x1 x2 σ = some (some yf, σf)) : Rn l G dm_Cl_change m_Cl_change (kI fun y' σ' => y' = yf ∧ σ' = σf) 98 [some (.inr (7, 0)), some (.inl x1), some (.inl x2)] [] σ := by
  unfold fb_Cl_change_98 at h
  obtain ⟨h1, h⟩ := kg_some h
  refine s_Cl_change_98 h1 (fun c => ?_) (fun c => ?_)
  · rw [if_pos c] at h
    exact e_Cl_change_111  h
  · rw [if_neg c] at h
    exact e_Cl_change_102  h
def fb_Cl_change_96  (x1 : Int) (x2 : Int) (σ : kS) : kRes := some (some 0, σ)
theorem e_Cl_change_96 {l : Launch} {G : kG} {yf : Int} {σf : kS}  {x1 : Int} {x2 : Int}  {σ : kS} (h : fb_Cl_change_96  x1 x2 σ = some (some yf, σf)) : Rn l G dm_Cl_change m_Cl_change (kI fun y' σ' => y' = yf ∧ σ' = σf) 96 [some (.inr (7, 0)), some (.inl x1), some (.inl x2)] [] σ := by
  unfold fb_Cl_change_96 at h
  simp only [Option.some.injEq, Prod.mk.injEq, true_and] at h
  exact s_Cl_change_96  ⟨_, rfl, h⟩
def fb_Cl_change_82  (x1 : Int) (x2 : Int) (σ : kS) : kRes := kbu (f_Te_copy 0 2 σ) fun σ1 => fb_Cl_change_96  x1 x2 σ1
theorem e_Cl_change_82 {l : Launch} {G : kG} {yf : Int} {σf : kS}  {x1 : Int} {x2 : Int}  {σ : kS} (h : fb_Cl_change_82  x1 x2 σ = some (some yf, σf)) : Rn l G dm_Cl_change m_Cl_change (kI fun y' σ' => y' = yf ∧ σ' = σf) 82 [some (.inr (7, 0)), some (.inl x1), some (.inl x2)] [] σ := by
  unfold fb_Cl_change_82 at h
  obtain ⟨σ1, hc, h⟩ := kbu_some h
  refine s_Cl_change_82  (by decide) (E_Te_copy hc) (fun σ2 e2 => ?_)
  subst e2
  exact e_Cl_change_96  h
def fb_Cl_change_75  (x1 : Int) (x2 : Int) (σ : kS) : kRes := kg ((-2147483648 ≤ σ 7 0 13 ∧ σ 7 0 13 < 2147483648)) (if (σ 7 0 13) = 0 then fb_Cl_change_82  x1 x2 σ else fb_Cl_change_98  x1 x2 σ)
theorem e_Cl_change_75 {l : Launch} {G : kG} {yf : Int} {σf : kS}  {x1 : Int} {x2 : Int}  {σ : kS} (h : fb_Cl_change_75  x1 x2 σ = some (some yf, σf)) : Rn l G dm_Cl_change m_Cl_change (kI fun y' σ' => y' = yf ∧ σ' = σf) 75 [some (.inr (7, 0)), some (.inl x1), some (.inl x2)] [] σ := by
  unfold fb_Cl_change_75 at h
  obtain ⟨h1, h⟩ := kg_some h
  refine s_Cl_change_75 h1 (fun c => ?_) (fun c => ?_)
  · rw [if_neg c] at h
    exact e_Cl_change_98  h
  · rw [if_pos c] at h
    exact e_Cl_change_82  h
def fb_Cl_change_70  (x1 : Int) (x2 : Int) (σ : kS) : kRes := kg ((-2147483648 ≤ x2 ∧ x2 < 2147483648)) (if x2 = (-1) then fb_Cl_change_75  x1 x2 σ else fb_Cl_change_98  x1 x2 σ)
theorem e_Cl_change_70 {l : Launch} {G : kG} {yf : Int} {σf : kS}  {x1 : Int} {x2 : Int}  {σ : kS} (h : fb_Cl_change_70  x1 x2 σ = some (some yf, σf)) : Rn l G dm_Cl_change m_Cl_change (kI fun y' σ' => y' = yf ∧ σ' = σf) 70 [some (.inr (7, 0)), some (.inl x1), some (.inl x2)] [] σ := by
  unfold fb_Cl_change_70 at h
  obtain ⟨h1, h⟩ := kg_some h
  refine s_Cl_change_70 h1 (fun c => ?_) (fun c => ?_)
  · rw [if_neg c] at h
    exact e_Cl_change_98  h
  · rw [if_pos c] at h
    exact e_Cl_change_75  h
def fb_Cl_change_63  (x1 : Int) (s0 : Int) (σ : kS) : kRes := kg ((-2147483648 ≤ s0 ∧ s0 < 2147483648)) (if s0 = (-2) then fb_Cl_change_82  x1 s0 σ else fb_Cl_change_70  x1 s0 σ)
theorem e_Cl_change_63 {l : Launch} {G : kG} {yf : Int} {σf : kS}  {x1 : Int} {s0 : Int} {o2 : Option kV} {σ : kS} (h : fb_Cl_change_63  x1 s0 σ = some (some yf, σf)) : Rn l G dm_Cl_change m_Cl_change (kI fun y' σ' => y' = yf ∧ σ' = σf) 63 [some (.inr (7, 0)), some (.inl x1), o2] [.inl s0] σ := by
  unfold fb_Cl_change_63 at h
  obtain ⟨h1, h⟩ := kg_some h
  refine s_Cl_change_63 h1 (fun c => ?_) (fun c => ?_)
  · rw [if_pos c] at h
    exact e_Cl_change_82  h
  · rw [if_neg c] at h
    exact e_Cl_change_70  h
def fb_Cl_change_58  (x1 : Int) (σ : kS) : kRes := kbi (f_Cl_exchangeLines x1 σ) fun y σ1 => fb_Cl_change_63  x1 y σ1
theorem e_Cl_change_58 {l : Launch} {G : kG} {yf : Int} {σf : kS}  {x1 : Int} {o2 : Option kV} {σ : kS} (h : fb_Cl_change_58  x1 σ = some (some yf, σf)) : Rn l G dm_Cl_change m_Cl_change (kI fun y' σ' => y' = yf ∧ σ' = σf) 58 [some (.inr (7, 0)), some (.inl x1), o2] [] σ := by
  unfold fb_Cl_change_58 at h
  obtain ⟨y, σ1, hc, h⟩ := kbi_some h
  refine s_Cl_change_58  (by decide) (E_Cl_exchangeLines hc) (fun y2 σ2 e2 => ?_)
  obtain ⟨rfl, rfl⟩ := e2
  exact e_Cl_change_63  h
def fb_Cl_change_55  (x1 : Int) (σ : kS) : kRes := fb_Cl_change_111  x1 σ
theorem e_Cl_change_55 {l : Launch} {G : kG} {yf : Int} {σf : kS}  {x1 : Int} {o2 : Option kV} {σ : kS} (h : fb_Cl_change_55  x1 σ = some (some yf, σf)) : Rn l G dm_Cl_change m_Cl_change (kI fun y' σ' => y' = yf ∧ σ' = σf) 55 [some (.inr (7, 0)), some (.inl x1), o2] [] σ := by
  unfold fb_Cl_change_55 at h
  refine s_Cl_change_55  ?_
  exact e_Cl_change_111  h
def fb_Cl_change_50  (x1 : Int) (σ : kS) : kRes := kbu (f_Cl_deleteLines x1 σ) fun σ1 => fb_Cl_change_55  x1 σ1
theorem e_Cl_change_50 {l : Launch} {G : kG} {yf : Int} {σf : kS}  {x1 : Int} {o2 : Option kV} {σ : kS} (h : fb_Cl_change_50  x1 σ = some (some yf, σf)) : Rn l G dm_Cl_change m_Cl_change (kI fun y' σ' => y' = yf ∧ σ' = σf) 50 [some (.inr (7, 0)), some (.inl x1), o2] [] σ := by
  unfold fb_Cl_change_50 at h
  obtain ⟨σ1, hc, h⟩ := kbu_some h
  refine s_Cl_change_50  (by decide) (E_Cl_deleteLines hc) (fun σ2 e2 => ?_)
  subst e2
  exact e_Cl_change_55  h
def fb_Cl_change_43  (x1 : Int) (σ : kS) : kRes := kg ((-2147483648 ≤ σ 7 0 14 ∧ σ 7 0 14 < 2147483648)) (if (σ 7 0 14) = 0 then fb_Cl_change_58  x1 σ else fb_Cl_change_50  x1 σ)
theorem e_Cl_change_43 {l : Launch} {G : kG} {yf : Int} {σf : kS}  {x1 : Int} {o2 : Option kV} {σ : kS} (h : fb_Cl_change_43  x1 σ = some (some yf, σf)) : Rn l G dm_Cl_change m_Cl_change (kI fun y' σ' => y' = yf ∧ σ' = σf) 43 [some (.inr (7, 0)), some (.inl x1), o2] [] σ := by
  unfold fb_Cl_change_43 at h
  obtain ⟨h1, h⟩ := kg_some h
  refine s_Cl_change_43 h1 (fun c => ?_) (fun c => ?_)
  · rw [if_pos c] at h
    exact e_Cl_change_58  h
  · rw [if_neg c] at h
    exact e_Cl_change_50  h
def fb_Cl_change_29  (x1 : Int) (σ : kS) : kRes := kbu (f_Te_copy 2 0 σ) fun σ1 => fb_Cl_change_43  x1 σ1
theorem e_Cl_change_29 {l : Launch} {G : kG} {yf : Int} {σf : kS}  {x1 : Int} {o2 : Option kV} {σ : kS} (h : fb_Cl_change_29  x1 σ = some (some yf, σf)) : Rn l G dm_Cl_change m_Cl_change (kI fun y' σ' => y' = yf ∧ σ' = σf) 29 [some (.inr (7, 0)), some (.inl x1), o2] [] σ := by
  unfold fb_Cl_change_29 at h
  obtain ⟨σ1, hc, h⟩ := kbu_some h
  refine s_Cl_change_29  (by decide) (E_Te_copy hc) (fun σ2 e2 => ?_)
  subst e2
  exact e_Cl_change_43  h
def fb_Cl_change_27  (x1 : Int) (σ : kS) : kRes := some (some 0, σ)
theorem e_Cl_change_27 {l : Launch} {G : kG} {yf : Int} {σf : kS}  {x1 : Int} {o2 : Option kV} {σ : kS} (h : fb_Cl_change_27  x1 σ = some (some yf, σf)) : Rn l G dm_Cl_change m_Cl_change (kI fun y' σ' => y' = yf ∧ σ' = σf) 27 [some (.inr (7, 0)), some (.inl x1), o2] [] σ := by
  unfold fb_Cl_change_27 at h
  simp only [Option.some.injEq, Prod.mk.injEq, true_and] at h
  exact s_Cl_change_27  ⟨_, rfl, h⟩
def fb_Cl_change_23  (x1 : Int) (σ : kS) : kRes := kg ((-2147483648 ≤ x1 ∧ x1 < 2147483648)) (if x1 = 0 then fb_Cl_change_27  x1 σ else fb_Cl_change_29  x1 σ)
theorem e_Cl_change_23 {l : Launch} {G : kG} {yf : Int} {σf : kS}  {x1 : Int} {o2 : Option kV} {σ : kS} (h : fb_Cl_change_23  x1 σ = some (some yf, σf)) : Rn l G dm_Cl_change m_Cl_change (kI fun y' σ' => y' = yf ∧ σ' = σf) 23 [some (.inr (7, 0)), some (.inl x1), o2] [] σ := by
  unfold fb_Cl_change_23 at h
  obtain ⟨h1, h⟩ := kg_some h
  refine s_Cl_change_23 h1 (fun c => ?_) (fun c => ?_)
  · rw [if_neg c] at h
    exact e_Cl_change_29  h
  · rw [if_pos c] at h
    exact e_Cl_change_27  h
def fb_Cl_change_15  (s0 : Int) (σ : kS) : kRes := kg ((-2147483648 ≤ σ 7 0 13 ∧ σ 7 0 13 < 2147483648)) (if (σ 7 0 13) = 0 then fb_Cl_change_29  s0 σ else fb_Cl_change_23  s0 σ)
theorem e_Cl_change_15 {l : Launch} {G : kG} {yf : Int} {σf : kS}  {s0 : Int} {o1 : Option kV} {o2 : Option kV} {σ : kS} (h : fb_Cl_change_15  s0 σ = some (some yf, σf)) : Rn l G dm_Cl_change m_Cl_change (kI fun y' σ' => y' = yf ∧ σ' = σf) 15 [some (.inr (7, 0)), o1, o2] [.inl s0] σ := by
  unfold fb_Cl_change_15 at h
  obtain ⟨h1, h⟩ := kg_some h
  refine s_Cl_change_15 h1 (fun c => ?_) (fun c => ?_)
  · rw [if_pos c] at h
    exact e_Cl_change_29  h
  · rw [if_neg c] at h
    exact e_Cl_change_23  h
def fb_Cl_change_14   (σ : kS) : kRes := fb_Cl_change_15  0 σ
theorem e_Cl_change_14 {l : Launch} {G : kG} {yf : Int} {σf : kS}   {o1 : Option kV} {o2 : Option kV} {σ : kS} (h : fb_Cl_change_14   σ = some (some yf, σf)) : Rn l G dm_Cl_change m_Cl_change (kI fun y' σ' => y' = yf ∧ σ' = σf) 14 [some (.inr (7, 0)), o1, o2] [] σ := by
  unfold fb_Cl_change_14 at h
  refine s_Cl_change_14  ?_
  exact e_Cl_change_15  h
def fb_Cl_change_11  (s0 : Int) (σ : kS) : kRes := fb_Cl_change_15  s0 σ
theorem e_Cl_change_11 {l : Launch} {G : kG} {yf : Int} {σf : kS}  {s0 : Int} {o1 : Option kV} {o2 : Option kV} {σ : kS} (h : fb_Cl_change_11  s0 σ = some (some yf, σf)) : Rn l G dm_Cl_change m_Cl_change (kI fun y' σ' => y' = yf ∧ σ' = σf) 11 [some (.inr (7, 0)), o1, o2] [.inl s0] σ := by
  unfold fb_Cl_change_11 at h
  refine s_Cl_change_11  ?_
  exact e_Cl_change_15  h
def fb_Cl_change_7   (σ : kS) : kRes := kbi (f_Cl_noteLines  σ) fun y σ1 => fb_Cl_change_11  y σ1
theorem e_Cl_change_7 {l : Launch} {G : kG} {yf : Int} {σf : kS}   {o1 : Option kV} {o2 : Option kV} {σ : kS} (h : fb_Cl_change_7   σ = some (some yf, σf)) : Rn l G dm_Cl_change m_Cl_change (kI fun y' σ' => y' = yf ∧ σ' = σf) 7 [some (.inr (7, 0)), o1, o2] [] σ := by
  unfold fb_Cl_change_7 at h
  obtain ⟨y, σ1, hc, h⟩ := kbi_some h
  refine s_Cl_change_7  (by decide) (E_Cl_noteLines hc) (fun y2 σ2 e2 => ?_)
  obtain ⟨rfl, rfl⟩ := e2
  exact e_Cl_change_11  h
def fb_Cl_change_0   (σ : kS) : kRes := kg ((-2147483648 ≤ σ 7 0 13 ∧ σ 7 0 13 < 2147483648)) (if (σ 7 0 13) = 0 then fb_Cl_change_14  σ else fb_Cl_change_7  σ)
theorem e_Cl_change_0 {l : Launch} {G : kG} {yf : Int} {σf : kS}   {o1 : Option kV} {o2 : Option kV} {σ : kS} (h : fb_Cl_change_0   σ = some (some yf, σf)) : Rn l G dm_Cl_change m_Cl_change (kI fun y' σ' => y' = yf ∧ σ' = σf) 0 [some (.inr (7, 0)), o1, o2] [] σ := by
  unfold fb_Cl_change_0 at h
  obtain ⟨h1, h⟩ := kg_some h
  refine s_Cl_change_0 h1 (fun c => ?_) (fun c => ?_)
  · rw [if_pos c] at h
    exact e_Cl_change_14  h
  · rw [if_neg c] at h
    exact e_Cl_change_7  h
def f_Cl_change  (σ : kS) : kRes := fb_Cl_change_0  σ
theorem E_Cl_change {l : Launch} {G : kG} {yf : Int} {σf : kS}  {σ : kS} (h : f_Cl_change  σ = some (some yf, σf)) : Call l G dm_Cl_change y_Cl_change m_Cl_change [.inr (7, 0)] σ (kI fun y' σ' => y' = yf ∧ σ' = σf) := by
  unfold f_Cl_change at h
  exact Call.of (by decide +kernel) rfl (Nat.le_of_ble_eq_true rfl) (e_Cl_change_0 h)
/-! Cl_here -/
def fb_Cl_here_24  (s0 : Int) (σ : kS) : kRes := some (some s0, σ)
theorem e_Cl_here_24 {l : Launch} {G : kG} {yf : Int} {σf : kS}  {s0 : Int}  {σ : kS} (h : fb_Cl_here_24  s0 σ = some (some yf, σf)) : Rn l G dm_Cl_here m_Cl_here (kI fun y' σ' => y' = yf ∧ σ' = σf) 24 [some (.inr (7, 0))] [.inl s0] σ := by
  unfold fb_Cl_here_24 at h
  simp only [Option.some.injEq, Prod.mk.injEq, true_and] at h
  exact s_Cl_here_24  ⟨_, rfl, h⟩
def fb_Cl_here_23   (σ : kS) : kRes := fb_Cl_here_24  0 σ
theorem e_Cl_here_23 {l : Launch} {G : kG} {yf : Int} {σf : kS}    {σ : kS} (h : fb_Cl_here_23   σ = some (some yf, σf)) : Rn l G dm_Cl_here m_Cl_here (kI fun y' σ' => y' = yf ∧ σ' = σf) 23 [some (.inr (7, 0))] [] σ := by
  unfold fb_Cl_here_23 at h
  refine s_Cl_here_23  ?_
  exact e_Cl_here_24  h
def fb_Cl_here_11   (σ : kS) : kRes := kg (σ 7 0 7 = 1 ∧ (0 ≤ σ 7 0 9 ∧ σ 7 0 9 < (30 : Nat))) (fb_Cl_here_24  (σ 16 2 (Int.toNat (σ 7 0 9))) σ)
theorem e_Cl_here_11 {l : Launch} {G : kG} {yf : Int} {σf : kS}    {σ : kS} (h : fb_Cl_here_11   σ = some (some yf, σf)) : Rn l G dm_Cl_here m_Cl_here (kI fun y' σ' => y' = yf ∧ σ' = σf) 11 [some (.inr (7, 0))] [] σ := by
  unfold fb_Cl_here_11 at h
  obtain ⟨⟨h1, h2⟩, h⟩ := kg_some h
  refine s_Cl_here_11 h1 h2 ?_
  exact e_Cl_here_24  h
def fb_Cl_here_0   (σ : kS) : kRes := kg ((-2147483648 ≤ σ 7 0 9 ∧ σ 7 0 9 < 2147483648) ∧ (-2147483648 ≤ σ 7 0 8 ∧ σ 7 0 8 < 2147483648)) (if (σ 7 0 8) ≤ (σ 7 0 9) then fb_Cl_here_23  σ else fb_Cl_here_11  σ)
theorem e_Cl_here_0 {l : Launch} {G : kG} {yf : Int} {σf : kS}    {σ : kS} (h : fb_Cl_here_0   σ = some (some yf, σf)) : Rn l G dm_Cl_here m_Cl_here (kI fun y' σ' => y' = yf ∧ σ' = σf) 0 [some (.inr (7, 0))] [] σ := by
  unfold fb_Cl_here_0 at h
  obtain ⟨⟨h1, h2⟩, h⟩ := kg_some h
  refine s_Cl_here_0 h1 h2 (fun c => ?_) (fun c => ?_)
  · rw [if_pos c] at h
    exact e_Cl_here_23  h
  · rw [if_neg c] at h
    exact e_Cl_here_11  h
def f_Cl_here  (σ : kS) : kRes := fb_Cl_here_0  σ
theorem E_Cl_here {l : Launch} {G : kG} {yf : Int} {σf : kS}  {σ : kS} (h : f_Cl_here  σ = some (some yf, σf)) : Call l G dm_Cl_here y_Cl_here m_Cl_here [.inr (7, 0)] σ (kI fun y' σ' => y' = yf ∧ σ' = σf) := by
  unfold f_Cl_here at h
  exact Call.of (by decide +kernel) rfl (Nat.le_of_ble_eq_true rfl) (e_Cl_here_0 h)
/-! Pa_isEndSign -/
def fb_Pa_isEndSign_20  (x1 : Int) (x2 : Int) (s0 : Int) (σ : kS) : kRes := kg ((s0 = 0 ∨ s0 = 1)) (some (some s0, σ))
theorem e_Pa_isEndSign_20 {l : Launch} {G : kG} {yf : Int} {σf : kS}  {x1 : Int} {x2 : Int} {s0 : Int}  {σ : kS} (h : fb_Pa_isEndSign_20  x1 x2 s0 σ = some (some yf, σf)) : Rn l G dm_Pa_isEndSign m_Pa_isEndSign (kI fun y' σ' => y' = yf ∧ σ' = σf) 20 [some (.inr (16, 2)), some (.inl x1), some (.inl x2)] [.inl s0] σ := by
  unfold fb_Pa_isEndSign_20 at h
  obtain ⟨h1, h⟩ := kg_some h
  simp only [Option.some.injEq, Prod.mk.injEq, true_and] at h
  exact s_Pa_isEndSign_20 h1 ⟨_, rfl, h⟩
def fb_Pa_isEndSign_19  (x1 : Int) (x2 : Int) (σ : kS) : kRes := fb_Pa_isEndSign_20  x1 x2 0 σ
theorem e_Pa_isEndSign_19 {l : Launch} {G : kG} {yf : Int} {σf : kS}  {x1 : Int} {x2 : Int}  {σ : kS} (h : fb_Pa_isEndSign_19  x1 x2 σ = some (some yf, σf)) : Rn l G dm_Pa_isEndSign m_Pa_isEndSign (kI fun y' σ' => y' = yf ∧ σ' = σf) 19 [some (.inr (16, 2)), some (.inl x1), some (.inl x2)] [] σ := by
  unfold fb_Pa_isEndSign_19 at h
  refine s_Pa_isEndSign_19  ?_
  exact e_Pa_isEndSign_20  h
def fb_Pa_isEndSign_15  (x1 : Int) (x2 : Int) (σ : kS) : kRes := fb_Pa_isEndSign_20  x1 x2 1 σ
theorem e_Pa_isEndSign_15 {l : Launch} {G : kG} {yf : Int} {σf : kS}  {x1 : Int} {x2 : Int}  {σ : kS} (h : fb_Pa_isEndSign_15  x1 x2 σ = some (some yf, σf)) : Rn l G dm_Pa_isEndSign m_Pa_isEndSign (kI fun y' σ' => y' = yf ∧ σ' = σf) 15 [some (.inr (16, 2)), some (.inl x1), some (.inl x2)] [] σ := by
  unfold fb_Pa_isEndSign_15 at h
  refine s_Pa_isEndSign_15  ?_
  exact e_Pa_isEndSign_20  h
def fb_Pa_isEndSign_8  (x1 : Int) (x2 : Int) (σ : kS) : kRes := kg ((-2147483648 ≤ x1 ∧ x1 < 2147483648) ∧ (-2147483648 ≤ x2 - 1 ∧ x2 - 1 < 2147483648)) (if x1 = (x2 - 1) then fb_Pa_isEndSign_15  x1 x2 σ else fb_Pa_isEndSign_19  x1 x2 σ)
theorem e_Pa_isEndSign_8 {l : Launch} {G : kG} {yf : Int} {σf : kS}  {x1 : Int} {x2 : Int}  {σ : kS} (h : fb_Pa_isEndSign_8  x1 x2 σ = some (some yf, σf)) : Rn l G dm_Pa_isEndSign m_Pa_isEndSign (kI fun y' σ' => y' = yf ∧ σ' = σf) 8 [some (.inr (16, 2)), some (.inl x1), some (.inl x2)] [] σ := by
  unfold fb_Pa_isEndSign_8 at h
  obtain ⟨⟨h1, h2⟩, h⟩ := kg_some h
  refine s_Pa_isEndSign_8 h1 h2 (fun c => ?_) (fun c => ?_)
  · rw [if_neg c] at h
    exact e_Pa_isEndSign_19  h
  · rw [if_pos c] at h
    exact e_Pa_isEndSign_15  h
def fb_Pa_isEndSign_0  (x1 : Int) (x2 : Int) (σ : kS) : kRes := kg ((0 ≤ x1 ∧ x1 < (30 : Nat)) ∧ (-2147483648 ≤ σ 16 2 (Int.toNat x1) ∧ σ 16 2 (Int.toNat x1) < 2147483648)) (if (σ 16 2 (Int.toNat x1)) = 36 then fb_Pa_isEndSign_8  x1 x2 σ else fb_Pa_isEndSign_19  x1 x2 σ)
theorem e_Pa_isEndSign_0 {l : Launch} {G : kG} {yf : Int} {σf : kS}  {x1 : Int} {x2 : Int}  {σ : kS} (h : fb_Pa_isEndSign_0  x1 x2 σ = some (some yf, σf)) : Rn l G dm_Pa_isEndSign m_Pa_isEndSign (kI fun y' σ' => y' = yf ∧ σ' = σf) 0 [some (.inr (16, 2)), some (.inl x1), some (.inl x2)] [] σ := by
  unfold fb_Pa_isEndSign_0 at h
  obtain ⟨⟨h1, h2⟩, h⟩ := kg_some h
  refine s_Pa_isEndSign_0 h1 h2 (fun c => ?_) (fun c => ?_)
  · rw [if_neg c] at h
    exact e_Pa_isEndSign_19  h
  · rw [if_pos c] at h
    exact e_Pa_isEndSign_8  h
def f_Pa_isEndSign (x1 : Int) (x2 : Int) (σ : kS) : kRes := fb_Pa_isEndSign_0 x1 x2 σ
theorem E_Pa_isEndSign {l : Launch} {G : kG} {yf : Int} {σf : kS} {x1 : Int} {x2 : Int} {σ : kS} (h : f_Pa_isEndSign x1 x2 σ = some (some yf, σf)) : Call l G dm_Pa_isEndSign y_Pa_isEndSign m_Pa_isEndSign [.inr (16, 2), .inl x1, .inl x2] σ (kI fun y' σ' => y' = yf ∧ σ' = σf) := by
  unfold f_Pa_isEndSign at h
  exact Call.of (by decide +kernel) rfl (Nat.le_of_ble_eq_true rfl) (e_Pa_isEndSign_0 h)
/-! Pa_readSet -/
def fb_Pa_readSet_220  (x2 : Int) (x3 : Int) (x4 : Int) (x5 : Int) (x6 : Int) (x7 : Int) (x8 : Int) (t : Nat) (σ : kS) : kRes := some (some (x5 + 1), σ)
theorem e_Pa_readSet_220 {l : Launch} {G : kG} {yf : Int} {σf : kS}  {x2 : Int} {x3 : Int} {x4 : Int} {x5 : Int} {x6 : Int} {x7 : Int} {x8 : Int} {t : Nat} {o9 : Option kV} {o10 : Option kV} {σ : kS} (h : fb_Pa_readSet_220  x2 x3 x4 x5 x6 x7 x8 t σ = some (some yf, σf)) : Rn l G dm_Pa_readSet m_Pa_readSet (kI fun y' σ' => y' = yf ∧ σ' = σf) 220 [some (.inr (8, t)), some (.inr (16, 2)), some (.inl x2), some (.inl x3), some (.inl x4), some (.inl x5), some (.inl x6), some (.inl x7), some (.inl x8), o9, o10] [] σ := by
  unfold fb_Pa_readSet_220 at h
  simp only [Option.some.injEq, Prod.mk.injEq, true_and] at h
  exact s_Pa_readSet_220  ⟨_, rfl, h⟩
def fb_Pa_readSet_202 (k190 : Int → Int → Int → Int → Int → Int → Int → Nat → kS → kRes) (x2 : Int) (x3 : Int) (x4 : Int) (x5 : Int) (x6 : Int) (x7 : Int) (x8 : Int) (t : Nat) (σ : kS) : kRes := kg ((0 ≤ x8 ∧ x8 < (127 : Nat))) (k190 x2 x3 x4 x5 x6 x7 (x8 + 1) t (kup σ 17 t (Int.toNat x8) (kxor (σ 17 t (Int.toNat x8)) x4)))
theorem e_Pa_readSet_202 {l : Launch} {G : kG} {yf : Int} {σf : kS} {k190 : Int → Int → Int → Int → Int → Int → Int → Nat → kS → kRes} (hk190 : ∀ (x2 : Int) (x3 : Int) (x4 : Int) (x5 : Int) (x6 : Int) (x7 : Int) (x8 : Int) (t : Nat) (o9 : Option kV) (o10 : Option kV) (σ : kS), k190 x2 x3 x4 x5 x6 x7 x8 t σ = some (some yf, σf) → Rn l G dm_Pa_readSet m_Pa_readSet (kI fun y' σ' => y' = yf ∧ σ' = σf) 190 [some (.inr (8, t)), some (.inr (16, 2)), some (.inl x2), some (.inl x3), some (.inl x4), some (.inl x5), some (.inl x6), some (.inl x7), some (.inl x8), o9, o10] [] σ) {x2 : Int} {x3 : Int} {x4 : Int} {x5 : Int} {x6 : Int} {x7 : Int} {x8 : Int} {t : Nat} {o9 : Option kV} {o10 : Option kV} {σ : kS} (h : fb_Pa_readSet_202 k190 x2 x3 x4 x5 x6 x7 x8 t σ = some (some yf, σf)) : Rn l G dm_Pa_readSet m_Pa_readSet (kI fun y' σ' => y' = yf ∧ σ' = σf) 202 [some (.inr (8, t)), some (.inr (16, 2)), some (.inl x2), some (.inl x3), some (.inl x4), some (.inl x5), some (.inl x6), some (.inl x7), some (.inl x8), o9, o10] [] σ := by
  unfold fb_Pa_readSet_202 at h
  obtain ⟨h1, h⟩ := kg_some h
  refine s_Pa_readSet_202 h1 ?_
  exact hk190 _ _ _ _ _ _ _ _ _ _ _ h
def fb_Pa_readSet_195 (k190 : Int → Int → Int → Int → Int → Int → Int → Nat → kS → kRes) (x2 : Int) (x3 : Int) (x4 : Int) (x5 : Int) (x6 : Int) (x7 : Int) (x8 : Int) (t : Nat) (σ : kS) : kRes := kg ((-2147483648 ≤ x8 ∧ x8 < 2147483648)) (if 126 < x8 then fb_Pa_readSet_220  x2 x3 x4 x5 x6 x7 x8 t σ else fb_Pa_readSet_202 k190 x2 x3 x4 x5 x6 x7 x8 t σ)
theorem e_Pa_readSet_195 {l : Launch} {G : kG} {yf : Int} {σf : kS} {k190 : Int → Int → Int → Int → Int → Int → Int → Nat → kS → kRes} (hk190 : ∀ (x2 : Int) (x3 : Int) (x4 : Int) (x5 : Int) (x6 : Int) (x7 : Int) (x8 : Int) (t : Nat) (o9 : Option kV) (o10 : Option kV) (σ : kS), k190 x2 x3 x4 x5 x6 x7 x8 t σ = some (some yf, σf) → Rn l G dm_Pa_readSet m_Pa_readSet (kI fun y' σ' => y' = yf ∧ σ' = σf) 190 [some (.inr (8, t)), some (.inr (16, 2)), some (.inl x2), some (.inl x3), some (.inl x4), some (.inl x5), some (.inl x6), some (.inl x7), some (.inl x8), o9, o10] [] σ) {x2 : Int} {x3 : Int} {x4 : Int} {x5 : Int} {x6 : Int} {x7 : Int} {x8 : Int} {t : Nat} {o9 : Option kV} {o10 : Option kV} {σ : kS} (h : fb_Pa_readSet_195 k190 x2 x3 x4 x5 x6 x7 x8 t σ = some (some yf, σf)) : Rn l G dm_Pa_readSet m_Pa_readSet (kI fun y' σ' => y' = yf ∧ σ' = σf) 195 [some (.inr (8, t)), some (.inr (16, 2)), some (.inl x2), some (.inl x3), some (.inl x4), some (.inl x5), some (.inl x6), some (.inl x7), some (.inl x8), o9, o10] [] σ := by
  unfold fb_Pa_readSet_195 at h
  obtain ⟨h1, h⟩ := kg_some h
  refine s_Pa_readSet_195 h1 (fun c => ?_) (fun c => ?_)
  · rw [if_pos c] at h
    exact e_Pa_readSet_220  h
  · rw [if_neg c] at h
    exact e_Pa_readSet_202 hk190 h
def fb_Pa_readSet_190 (k190 : Int → Int → Int → Int → Int → Int → Int → Nat → kS → kRes) (x2 : Int) (x3 : Int) (x4 : Int) (x5 : Int) (x6 : Int) (x7 : Int) (x8 : Int) (t : Nat) (σ : kS) : kRes := kg ((-2147483648 ≤ x6 ∧ x6 < 2147483648)) (if x6 = 0 then fb_Pa_readSet_220  x2 x3 x4 x5 x6 x7 x8 t σ else fb_Pa_readSet_195 k190 x2 x3 x4 x5 x6 x7 x8 t σ)
theorem e_Pa_readSet_190 {l : Launch} {G : kG} {yf : Int} {σf : kS} {k190 : Int → Int → Int → Int → Int → Int → Int → Nat → kS → kRes} (hk190 : ∀ (x2 : Int) (x3 : Int) (x4 : Int) (x5 : Int) (x6 : Int) (x7 : Int) (x8 : Int) (t : Nat) (o9 : Option kV) (o10 : Option kV) (σ : kS), k190 x2 x3 x4 x5 x6 x7 x8 t σ = some (some yf, σf) → Rn l G dm_Pa_readSet m_Pa_readSet (kI fun y' σ' => y' = yf ∧ σ' = σf) 190 [some (.inr (8, t)), some (.inr (16, 2)), some (.inl x2), some (.inl x3), some (.inl x4), some (.inl x5), some (.inl x6), some (.inl x7), some (.inl x8), o9, o10] [] σ) {x2 : Int} {x3 : Int} {x4 : Int} {x5 : Int} {x6 : Int} {x7 : Int} {x8 : Int} {t : Nat} {o9 : Option kV} {o10 : Option kV} {σ : kS} (h : fb_Pa_readSet_190 k190 x2 x3 x4 x5 x6 x7 x8 t σ = some (some yf, σf)) : Rn l G dm_Pa_readSet m_Pa_readSet (kI fun y' σ' => y' = yf ∧ σ' = σf) 190 [some (.inr (8, t)), some (.inr (16, 2)), some (.inl x2), some (.inl x3), some (.inl x4), some (.inl x5), some (.inl x6), some (.inl x7), some (.inl x8), o9, o10] [] σ := by
  unfold fb_Pa_readSet_190 at h
  obtain ⟨h1, h⟩ := kg_some h
  refine s_Pa_readSet_190 h1 (fun c => ?_) (fun c => ?_)
  · rw [if_pos c] at h
    exact e_Pa_readSet_220  h
  · rw [if_neg c] at h
    exact e_Pa_readSet_195 hk190 h
def fl_Pa_readSet_190  : Nat → Int → Int → Int → Int → Int → Int → Int → Nat → kS → kRes
  | 0, _, _, _, _, _, _, _, _, _ => none
  | n + 1, x2, x3, x4, x5, x6, x7, x8, t, σ => fb_Pa_readSet_190 (fl_Pa_readSet_190  n) x2 x3 x4 x5 x6 x7 x8 t σ
theorem el_Pa_readSet_190 {l : Launch} {G : kG} {yf : Int} {σf : kS}  : ∀ (n : Nat) (x2 : Int) (x3 : Int) (x4 : Int) (x5 : Int) (x6 : Int) (x7 : Int) (x8 : Int) (t : Nat) (o9 : Option kV) (o10 : Option kV) (σ : kS), fl_Pa_readSet_190  n x2 x3 x4 x5 x6 x7 x8 t σ = some (some yf, σf) → Rn l G dm_Pa_readSet m_Pa_readSet (kI fun y' σ' => y' = yf ∧ σ' = σf) 190 [some (.inr (8, t)), some (.inr (16, 2)), some (.inl x2), some (.inl x3), some (.inl x4), some (.inl x5), some (.inl x6), some (.inl x7), some (.inl x8), o9, o10] [] σ := by
  intro n
  induction n with
  | zero => intro x2 x3 x4 x5 x6 x7 x8 t o9 o10 σ h; simp only [fl_Pa_readSet_190] at h; cases h
  | succ n ih => intro x2 x3 x4 x5 x6 x7 x8 t o9 o10 σ h; simp only [fl_Pa_readSet_190] at h; exact e_Pa_readSet_190 ih h
def fb_Pa_readSet_186  (x2 : Int) (x3 : Int) (x4 : Int) (x5 : Int) (x6 : Int) (x7 : Int) (t : Nat) (σ : kS) : kRes := fl_Pa_readSet_190  3000 x2 x3 x4 x5 x6 x7 32 t σ
theorem e_Pa_readSet_186 {l : Launch} {G : kG} {yf : Int} {σf : kS}  {x2 : Int} {x3 : Int} {x4 : Int} {x5 : Int} {x6 : Int} {x7 : Int} {t : Nat} {o8 : Option kV} {o9 : Option kV} {o10 : Option kV} {σ : kS} (h : fb_Pa_readSet_186  x2 x3 x4 x5 x6 x7 t σ = some (some yf, σf)) : Rn l G dm_Pa_readSet m_Pa_readSet (kI fun y' σ' => y' = yf ∧ σ' = σf) 186 [some (.inr (8, t)), some (.inr (16, 2)), some (.inl x2), some (.inl x3), some (.inl x4), some (.inl x5), some (.inl x6), some (.inl x7), o8, o9, o10] [] σ := by
  unfold fb_Pa_readSet_186 at h
  refine s_Pa_readSet_186  ?_
  exact el_Pa_readSet_190  _ _ _ _ _ _ _ _ _ _ _ _ h
def fb_Pa_readSet_180 (k83 : Int → Int → Int → Int → Int → Int → Nat → kS → kRes) (x2 : Int) (x3 : Int) (x4 : Int) (x5 : Int) (x6 : Int) (x7 : Int) (x8 : Int) (x9 : Int) (x10 : Int) (s0 : Int) (s1 : Int) (t : Nat) (σ : kS) : kRes := k83 x2 x3 x4 x5 x6 (s1 + s0) t σ
theorem e_Pa_readSet_180 {l : Launch} {G : kG} {yf : Int} {σf : kS} {k83 : Int → Int → Int → Int → Int → Int → Nat → kS → kRes} (hk83 : ∀ (x2 : Int) (x3 : Int) (x4 : Int) (x5 : Int) (x6 : Int) (x7 : Int) (t : Nat) (o8 : Option kV) (o9 : Option kV) (o10 : Option kV) (σ : kS), k83 x2 x3 x4 x5 x6 x7 t σ = some (some yf, σf) → Rn l G dm_Pa_readSet m_Pa_readSet (kI fun y' σ' => y' = yf ∧ σ' = σf) 83 [some (.inr (8, t)), some (.inr (16, 2)), some (.inl x2), some (.inl x3), some (.inl x4), some (.inl x5), some (.inl x6), some (.inl x7), o8, o9, o10] [] σ) {x2 : Int} {x3 : Int} {x4 : Int} {x5 : Int} {x6 : Int} {x7 : Int} {x8 : Int} {x9 : Int} {x10 : Int} {s0 : Int} {s1 : Int} {t : Nat}  {σ : kS} (h : fb_Pa_readSet_180 k83 x2 x3 x4 x5 x6 x7 x8 x9 x10 s0 s1 t σ = some (some yf, σf)) : Rn l G dm_Pa_readSet m_Pa_readSet (kI fun y' σ' => y' = yf ∧ σ' = σf) 180 [some (.inr (8, t)), some (.inr (16, 2)), some (.inl x2), some (.inl x3), some (.inl x4), some (.inl x5), some (.inl x6), some (.inl x7), some (.inl x8), some (.inl x9), some (.inl x10)] [.inl s0, .inl s1] σ := by
  unfold fb_Pa_readSet_180 at h
  refine s_Pa_readSet_180  ?_
  exact hk83 _ _ _ _ _ _ _ _ _ _ _ h
def fb_Pa_readSet_179 (k83 : Int → Int → Int → Int → Int → Int → Nat → kS → kRes) (x2 : Int) (x3 : Int) (x4 : Int) (x5 : Int) (x6 : Int) (x7 : Int) (x8 : Int) (x9 : Int) (x10 : Int) (s0 : Int) (t : Nat) (σ : kS) : kRes := fb_Pa_readSet_180 k83 x2 x3 x4 x5 x6 x7 x8 x9 x10 1 s0 t σ
theorem e_Pa_readSet_179 {l : Launch} {G : kG} {yf : Int} {σf : kS} {k83 : Int → Int → Int → Int → Int → Int → Nat → kS → kRes} (hk83 : ∀ (x2 : Int) (x3 : Int) (x4 : Int) (x5 : Int) (x6 : Int) (x7 : Int) (t : Nat) (o8 : Option kV) (o9 : Option kV) (o10 : Option kV) (σ : kS), k83 x2 x3 x4 x5 x6 x7 t σ = some (some yf, σf) → Rn l G dm_Pa_readSet m_Pa_readSet (kI fun y' σ' => y' = yf ∧ σ' = σf) 83 [some (.inr (8, t)), some (.inr (16, 2)), some (.inl x2), some (.inl x3), some (.inl x4), some (.inl x5), some (.inl x6), some (.inl x7), o8, o9, o10] [] σ) {x2 : Int} {x3 : Int} {x4 : Int} {x5 : Int} {x6 : Int} {x7 : Int} {x8 : Int} {x9 : Int} {x10 : Int} {s0 : Int} {t : Nat}  {σ : kS} (h : fb_Pa_readSet_179 k83 x2 x3 x4 x5 x6 x7 x8 x9 x10 s0 t σ = some (some yf, σf)) : Rn l G dm_Pa_readSet m_Pa_readSet (kI fun y' σ' => y' = yf ∧ σ' = σf) 179 [some (.inr (8, t)), some (.inr (16, 2)), some (.inl x2), some (.inl x3), some (.inl x4), some (.inl x5), some (.inl x6), some (.inl x7), some (.inl x8), some (.inl x9), some (.inl x10)] [.inl s0] σ := by
  unfold fb_Pa_readSet_179 at h
  refine s_Pa_readSet_179  ?_
  exact e_Pa_readSet_180 hk83 h
def fb_Pa_readSet_175 (k83 : Int → Int → Int → Int → Int → Int → Nat → kS → kRes) (x2 : Int) (x3 : Int) (x4 : Int) (x5 : Int) (x6 : Int) (x7 : Int) (x8 : Int) (x9 : Int) (x10 : Int) (s0 : Int) (t : Nat) (σ : kS) : kRes := fb_Pa_readSet_180 k83 x2 x3 x4 x5 x6 x7 x8 x9 x10 3 s0 t σ
theorem e_Pa_readSet_175 {l : Launch} {G : kG} {yf : Int} {σf : kS} {k83 : Int → Int → Int → Int → Int → Int → Nat → kS → kRes} (hk83 : ∀ (x2 : Int) (x3 : Int) (x4 : Int) (x5 : Int) (x6 : Int) (x7 : Int) (t : Nat) (o8 : Option kV) (o9 : Option kV) (o10 : Option kV) (σ : kS), k83 x2 x3 x4 x5 x6 x7 t σ = some (some yf, σf) → Rn l G dm_Pa_readSet m_Pa_readSet (kI fun y' σ' => y' = yf ∧ σ' = σf) 83 [some (.inr (8, t)), some (.inr (16, 2)), some (.inl x2), some (.inl x3), some (.inl x4), some (.inl x5), some (.inl x6), some (.inl x7), o8, o9, o10] [] σ) {x2 : Int} {x3 : Int} {x4 : Int} {x5 : Int} {x6 : Int} {x7 : Int} {x8 : Int} {x9 : Int} {x10 : Int} {s0 : Int} {t : Nat}  {σ : kS} (h : fb_Pa_readSet_175 k83 x2 x3 x4 x5 x6 x7 x8 x9 x10 s0 t σ = some (some yf, σf)) : Rn l G dm_Pa_readSet m_Pa_readSet (kI fun y' σ' => y' = yf ∧ σ' = σf) 175 [some (.inr (8, t)), some (.inr (16, 2)), some (.inl x2), some (.inl x3), some (.inl x4), some (.inl x5), some (.inl x6), some (.inl x7), some (.inl x8), some (.inl x9), some (.inl x10)] [.inl s0] σ := by
  unfold fb_Pa_readSet_175 at h
  refine s_Pa_readSet_175  ?_
  exact e_Pa_readSet_180 hk83 h
def fb_Pa_readSet_168 (k83 : Int → Int → Int → Int → Int → Int → Nat → kS → kRes) (x2 : Int) (x3 : Int) (x4 : Int) (x5 : Int) (x6 : Int) (x7 : Int) (x8 : Int) (x9 : Int) (x10 : Int) (t : Nat) (σ : kS) : kRes := kg ((-2147483648 ≤ x8 ∧ x8 < 2147483648)) (if x8 = 0 then fb_Pa_readSet_179 k83 x2 x3 x4 x5 x6 x7 x8 x9 x10 x7 t σ else fb_Pa_readSet_175 k83 x2 x3 x4 x5 x6 x7 x8 x9 x10 x7 t σ)
theorem e_Pa_readSet_168 {l : Launch} {G : kG} {yf : Int} {σf : kS} {k83 : Int → Int → Int → Int → Int → Int → Nat → kS → kRes} (hk83 : ∀ (x2 : Int) (x3 : Int) (x4 : Int) (x5 : Int) (x6 : Int) (x7 : Int) (t : Nat) (o8 : Option kV) (o9 : Option kV) (o10 : Option kV) (σ : kS), k83 x2 x3 x4 x5 x6 x7 t σ = some (some yf, σf) → Rn l G dm_Pa_readSet m_Pa_readSet (kI fun y' σ' => y' = yf ∧ σ' = σf) 83 [some (.inr (8, t)), some (.inr (16, 2)), some (.inl x2), some (.inl x3), some (.inl x4), some (.inl x5), some (.inl x6), some (.inl x7), o8, o9, o10] [] σ) {x2 : Int} {x3 : Int} {x4 : Int} {x5 : Int} {x6 : Int} {x7 : Int} {x8 : Int} {x9 : Int} {x10 : Int} {t : Nat}  {σ : kS} (h : fb_Pa_readSet_168 k83 x2 x3 x4 x5 x6 x7 x8 x9 x10 t σ = some (some yf, σf)) : Rn l G dm_Pa_readSet m_Pa_readSet (kI fun y' σ' => y' = yf ∧ σ' = σf) 168 [some (.inr (8, t)), some (.inr (16, 2)), some (.inl x2), some (.inl x3), some (.inl x4), some (.inl x5), some (.inl x6), some (.inl x7), some (.inl x8), some (.inl x9), some (.inl x10)] [] σ := by
  unfold fb_Pa_readSet_168 at h
  obtain ⟨h1, h⟩ := kg_some h
  refine s_Pa_readSet_168 h1 (fun c => ?_) (fun c => ?_)
  · rw [if_pos c] at h
    exact e_Pa_readSet_179 hk83 h
  · rw [if_neg c] at h
    exact e_Pa_readSet_175 hk83 h
def fb_Pa_readSet_150 (k143 : Int → Int → Int → Int → Int → Int → Int → Int → Int → Nat → kS → kRes) (x2 : Int) (x3 : Int) (x4 : Int) (x5 : Int) (x6 : Int) (x7 : Int) (x8 : Int) (x9 : Int) (x10 : Int) (t : Nat) (σ : kS) : kRes := kg ((0 ≤ x10 ∧ x10 < (127 : Nat))) (k143 x2 x3 x4 x5 x6 x7 x8 x9 (x10 + 1) t (kup σ 17 t (Int.toNat x10) (kor (σ 17 t (Int.toNat x10)) x4)))
theorem e_Pa_readSet_150 {l : Launch} {G : kG} {yf : Int} {σf : kS} {k143 : Int → Int → Int → Int → Int → Int → Int → Int → Int → Nat → kS → kRes} (hk143 : ∀ (x2 : Int) (x3 : Int) (x4 : Int) (x5 : Int) (x6 : Int) (x7 : Int) (x8 : Int) (x9 : Int) (x10 : Int) (t : Nat)  (σ : kS), k143 x2 x3 x4 x5 x6 x7 x8 x9 x10 t σ = some (some yf, σf) → Rn l G dm_Pa_readSet m_Pa_readSet (kI fun y' σ' => y' = yf ∧ σ' = σf) 143 [some (.inr (8, t)), some (.inr (16, 2)), some (.inl x2), some (.inl x3), some (.inl x4), some (.inl x5), some (.inl x6), some (.inl x7), some (.inl x8), some (.inl x9), some (.inl x10)] [] σ) {x2 : Int} {x3 : Int} {x4 : Int} {x5 : Int} {x6 : Int} {x7 : Int} {x8 : Int} {x9 : Int} {x10 : Int} {t : Nat}  {σ : kS} (h : fb_Pa_readSet_150 k143 x2 x3 x4 x5 x6 x7 x8 x9 x10 t σ = some (some yf, σf)) : Rn l G dm_Pa_readSet m_Pa_readSet (kI fun y' σ' => y' = yf ∧ σ' = σf) 150 [some (.inr (8, t)), some (.inr (16, 2)), some (.inl x2), some (.inl x3), some (.inl x4), some (.inl x5), some (.inl x6), some (.inl x7), some (.inl x8), some (.inl x9), some (.inl x10)] [] σ := by
  unfold fb_Pa_readSet_150 at h
  obtain ⟨h1, h⟩ := kg_some h
  refine s_Pa_readSet_150 h1 ?_
  exact hk143 _ _ _ _ _ _ _ _ _ _ _ h
def fb_Pa_readSet_143 (k83 : Int → Int → Int → Int → Int → Int → Nat → kS → kRes) (k143 : Int → Int → Int → Int → Int → Int → Int → Int → Int → Nat → kS → kRes) (x2 : Int) (x3 : Int) (x4 : Int) (x5 : Int) (x6 : Int) (x7 : Int) (x8 : Int) (x9 : Int) (x10 : Int) (t : Nat) (σ : kS) : kRes := kg ((-2147483648 ≤ x10 ∧ x10 < 2147483648) ∧ (-2147483648 ≤ x9 ∧ x9 < 2147483648)) (if x9 < x10 then fb_Pa_readSet_168 k83 x2 x3 x4 x5 x6 x7 x8 x9 x10 t σ else fb_Pa_readSet_150 k143 x2 x3 x4 x5 x6 x7 x8 x9 x10 t σ)
theorem e_Pa_readSet_143 {l : Launch} {G : kG} {yf : Int} {σf : kS} {k83 : Int → Int → Int → Int → Int → Int → Nat → kS → kRes} (hk83 : ∀ (x2 : Int) (x3 : Int) (x4 : Int) (x5 : Int) (x6 : Int) (x7 : Int) (t : Nat) (o8 : Option kV) (o9 : Option kV) (o10 : Option kV) (σ : kS), k83 x2 x3 x4 x5 x6 x7 t σ = some (some yf, σf) → Rn l G dm_Pa_readSet m_Pa_readSet (kI fun y' σ' => y' = yf ∧ σ' = σf) 83 [some (.inr (8, t)), some (.inr (16, 2)), some (.inl x2), some (.inl x3), some (.inl x4), some (.inl x5), some (.inl x6), some (.inl x7), o8, o9, o10] [] σ) {k143 : Int → Int → Int → Int → Int → Int → Int → Int → Int → Nat → kS → kRes} (hk143 : ∀ (x2 : Int) (x3 : Int) (x4 : Int) (x5 : Int) (x6 : Int) (x7 : Int) (x8 : Int) (x9 : Int) (x10 : Int) (t : Nat)  (σ : kS), k143 x2 x3 x4 x5 x6 x7 x8 x9 x10 t σ = some (some yf, σf) → Rn l G dm_Pa_readSet m_Pa_readSet (kI fun y' σ' => y' = yf ∧ σ' = σf) 143 [some (.inr (8, t)), some (.inr (16, 2)), some (.inl x2), some (.inl x3), some (.inl x4), some (.inl x5), some (.inl x6), some (.inl x7), some (.inl x8), some (.inl x9), some (.inl x10)] [] σ) {x2 : Int} {x3 : Int} {x4 : Int} {x5 : Int} {x6 : Int} {x7 : Int} {x8 : Int} {x9 : Int} {x10 : Int} {t : Nat}  {σ : kS} (h : fb_Pa_readSet_143 k83 k143 x2 x3 x4 x5 x6 x7 x8 x9 x10 t σ = some (some yf, σf)) : Rn l G dm_Pa_readSet m_Pa_readSet (kI fun y' σ' => y' = yf ∧ σ' = σf) 143 [some (.inr (8, t)), some (.inr (16, 2)), some (.inl x2), some (.inl x3), some (.inl x4), some (.inl x5), some (.inl x6), some (.inl x7), some (.inl x8), some (.inl x9), some (.inl x10)] [] σ := by
  unfold fb_Pa_readSet_143 at h
  obtain ⟨⟨h1, h2⟩, h⟩ := kg_some h
  refine s_Pa_readSet_143 h1 h2 (fun c => ?_) (fun c => ?_)
  · rw [if_pos c] at h
    exact e_Pa_readSet_168 hk83 h
  · rw [if_neg c] at h
    exact e_Pa_readSet_150 hk143 h
def fl_Pa_readSet_143 (k83 : Int → Int → Int → Int → Int → Int → Nat → kS → kRes) : Nat → Int → Int → Int → Int → Int → Int → Int → Int → Int → Nat → kS → kRes
  | 0, _, _, _, _, _, _, _, _, _, _, _ => none
  | n + 1, x2, x3, x4, x5, x6, x7, x8, x9, x10, t, σ => fb_Pa_readSet_143 k83 (fl_Pa_readSet_143 k83 n) x2 x3 x4 x5 x6 x7 x8 x9 x10 t σ
theorem el_Pa_readSet_143 {l : Launch} {G : kG} {yf : Int} {σf : kS} {k83 : Int → Int → Int → Int → Int → Int → Nat → kS → kRes} (hk83 : ∀ (x2 : Int) (x3 : Int) (x4 : Int) (x5 : Int) (x6 : Int) (x7 : Int) (t : Nat) (o8 : Option kV) (o9 : Option kV) (o10 : Option kV) (σ : kS), k83 x2 x3 x4 x5 x6 x7 t σ = some (some yf, σf) → Rn l G dm_Pa_readSet m_Pa_readSet (kI fun y' σ' => y' = yf ∧ σ' = σf) 83 [some (.inr (8, t)), some (.inr (16, 2)), some (.inl x2), some (.inl x3), some (.inl x4), some (.inl x5), some (.inl x6), some (.inl x7), o8, o9, o10] [] σ) : ∀ (n : Nat) (x2 : Int) (x3 : Int) (x4 : Int) (x5 : Int) (x6 : Int) (x7 : Int) (x8 : Int) (x9 : Int) (x10 : Int) (t : Nat)  (σ : kS), fl_Pa_readSet_143 k83 n x2 x3 x4 x5 x6 x7 x8 x9 x10 t σ = some (some yf, σf) → Rn l G dm_Pa_readSet m_Pa_readSet (kI fun y' σ' => y' = yf ∧ σ' = σf) 143 [some (.inr (8, t)), some (.inr (16, 2)), some (.inl x2), some (.inl x3), some (.inl x4), some (.inl x5), some (.inl x6), some (.inl x7), some (.inl x8), some (.inl x9), some (.inl x10)] [] σ := by
  intro n
  induction n with
  | zero => intro x2 x3 x4 x5 x6 x7 x8 x9 x10 t σ h; simp only [fl_Pa_readSet_143] at h; cases h
  | succ n ih => intro x2 x3 x4 x5 x6 x7 x8 x9 x10 t σ h; simp only [fl_Pa_readSet_143] at h; exact e_Pa_readSet_143 hk83 ih h
def fb_Pa_readSet_135 (k83 : Int → Int → Int → Int → Int → Int → Nat → kS → kRes) (x2 : Int) (x3 : Int) (x4 : Int) (x5 : Int) (x6 : Int) (x7 : Int) (x8 : Int) (s0 : Int) (t : Nat) (σ : kS) : kRes := kg ((0 ≤ x7 ∧ x7 < (30 : Nat))) (fl_Pa_readSet_143 k83 3000 x2 x3 x4 x5 x6 x7 x8 s0 (σ 16 2 (Int.toNat x7)) t σ)
theorem e_Pa_readSet_135 {l : Launch} {G : kG} {yf : Int} {σf : kS} {k83 : Int → Int → Int → Int → Int → Int → Nat → kS → kRes} (hk83 : ∀ (x2 : Int) (x3 : Int) (x4 : Int) (x5 : Int) (x6 : Int) (x7 : Int) (t : Nat) (o8 : Option kV) (o9 : Option kV) (o10 : Option kV) (σ : kS), k83 x2 x3 x4 x5 x6 x7 t σ = some (some yf, σf) → Rn l G dm_Pa_readSet m_Pa_readSet (kI fun y' σ' => y' = yf ∧ σ' = σf) 83 [some (.inr (8, t)), some (.inr (16, 2)), some (.inl x2), some (.inl x3), some (.inl x4), some (.inl x5), some (.inl x6), some (.inl x7), o8, o9, o10] [] σ) {x2 : Int} {x3 : Int} {x4 : Int} {x5 : Int} {x6 : Int} {x7 : Int} {x8 : Int} {s0 : Int} {t : Nat} {o9 : Option kV} {o10 : Option kV} {σ : kS} (h : fb_Pa_readSet_135 k83 x2 x3 x4 x5 x6 x7 x8 s0 t σ = some (some yf, σf)) : Rn l G dm_Pa_readSet m_Pa_readSet (kI fun y' σ' => y' = yf ∧ σ' = σf) 135 [some (.inr (8, t)), some (.inr (16, 2)), some (.inl x2), some (.inl x3), some (.inl x4), some (.inl x5), some (.inl x6), some (.inl x7), some (.inl x8), o9, o10] [.inl s0] σ := by
  unfold fb_Pa_readSet_135 at h
  obtain ⟨h1, h⟩ := kg_some h
  refine s_Pa_readSet_135 h1 ?_
  exact el_Pa_readSet_143 hk83 _ _ _ _ _ _ _ _ _ _ _ _ h
def fb_Pa_readSet_131 (k83 : Int → Int → Int → Int → Int → Int → Nat → kS → kRes) (x2 : Int) (x3 : Int) (x4 : Int) (x5 : Int) (x6 : Int) (x7 : Int) (x8 : Int) (t : Nat) (σ : kS) : kRes := kg ((0 ≤ x7 ∧ x7 < (30 : Nat))) (fb_Pa_readSet_135 k83 x2 x3 x4 x5 x6 x7 x8 (σ 16 2 (Int.toNat x7)) t σ)
theorem e_Pa_readSet_131 {l : Launch} {G : kG} {yf : Int} {σf : kS} {k83 : Int → Int → Int → Int → Int → Int → Nat → kS → kRes} (hk83 : ∀ (x2 : Int) (x3 : Int) (x4 : Int) (x5 : Int) (x6 : Int) (x7 : Int) (t : Nat) (o8 : Option kV) (o9 : Option kV) (o10 : Option kV) (σ : kS), k83 x2 x3 x4 x5 x6 x7 t σ = some (some yf, σf) → Rn l G dm_Pa_readSet m_Pa_readSet (kI fun y' σ' => y' = yf ∧ σ' = σf) 83 [some (.inr (8, t)), some (.inr (16, 2)), some (.inl x2), some (.inl x3), some (.inl x4), some (.inl x5), some (.inl x6), some (.inl x7), o8, o9, o10] [] σ) {x2 : Int} {x3 : Int} {x4 : Int} {x5 : Int} {x6 : Int} {x7 : Int} {x8 : Int} {t : Nat} {o9 : Option kV} {o10 : Option kV} {σ : kS} (h : fb_Pa_readSet_131 k83 x2 x3 x4 x5 x6 x7 x8 t σ = some (some yf, σf)) : Rn l G dm_Pa_readSet m_Pa_readSet (kI fun y' σ' => y' = yf ∧ σ' = σf) 131 [some (.inr (8, t)), some (.inr (16, 2)), some (.inl x2), some (.inl x3), some (.inl x4), some (.inl x5), some (.inl x6), some (.inl x7), some (.inl x8), o9, o10] [] σ := by
  unfold fb_Pa_readSet_131 at h
  obtain ⟨h1, h⟩ := kg_some h
  refine s_Pa_readSet_131 h1 ?_
  exact e_Pa_readSet_135 hk83 h
def fb_Pa_readSet_122 (k83 : Int → Int → Int → Int → Int → Int → Nat → kS → kRes) (x2 : Int) (x3 : Int) (x4 : Int) (x5 : Int) (x6 : Int) (x7 : Int) (x8 : Int) (t : Nat) (σ : kS) : kRes := kg ((0 ≤ x7 + 2 ∧ x7 + 2 < (30 : Nat))) (fb_Pa_readSet_135 k83 x2 x3 x4 x5 x6 x7 x8 (σ 16 2 (Int.toNat (x7 + 2))) t σ)
theorem e_Pa_readSet_122 {l : Launch} {G : kG} {yf : Int} {σf : kS} {k83 : Int → Int → Int → Int → Int → Int → Nat → kS → kRes} (hk83 : ∀ (x2 : Int) (x3 : Int) (x4 : Int) (x5 : Int) (x6 : Int) (x7 : Int) (t : Nat) (o8 : Option kV) (o9 : Option kV) (o10 : Option kV) (σ : kS), k83 x2 x3 x4 x5 x6 x7 t σ = some (some yf, σf) → Rn l G dm_Pa_readSet m_Pa_readSet (kI fun y' σ' => y' = yf ∧ σ' = σf) 83 [some (.inr (8, t)), some (.inr (16, 2)), some (.inl x2), some (.inl x3), some (.inl x4), some (.inl x5), some (.inl x6), some (.inl x7), o8, o9, o10] [] σ) {x2 : Int} {x3 : Int} {x4 : Int} {x5 : Int} {x6 : Int} {x7 : Int} {x8 : Int} {t : Nat} {o9 : Option kV} {o10 : Option kV} {σ : kS} (h : fb_Pa_readSet_122 k83 x2 x3 x4 x5 x6 x7 x8 t σ = some (some yf, σf)) : Rn l G dm_Pa_readSet m_Pa_readSet (kI fun y' σ' => y' = yf ∧ σ' = σf) 122 [some (.inr (8, t)), some (.inr (16, 2)), some (.inl x2), some (.inl x3), some (.inl x4), some (.inl x5), some (.inl x6), some (.inl x7), some (.inl x8), o9, o10] [] σ := by
  unfold fb_Pa_readSet_122 at h
  obtain ⟨h1, h⟩ := kg_some h
  refine s_Pa_readSet_122 h1 ?_
  exact e_Pa_readSet_135 hk83 h
def fb_Pa_readSet_115 (k83 : Int → Int → Int → Int → Int → Int → Nat → kS → kRes) (x2 : Int) (x3 : Int) (x4 : Int) (x5 : Int) (x6 : Int) (x7 : Int) (s0 : Int) (t : Nat) (σ : kS) : kRes := kg ((-2147483648 ≤ s0 ∧ s0 < 2147483648)) (if s0 = 0 then fb_Pa_readSet_131 k83 x2 x3 x4 x5 x6 x7 s0 t σ else fb_Pa_readSet_122 k83 x2 x3 x4 x5 x6 x7 s0 t σ)
theorem e_Pa_readSet_115 {l : Launch} {G : kG} {yf : Int} {σf : kS} {k83 : Int → Int → Int → Int → Int → Int → Nat → kS → kRes} (hk83 : ∀ (x2 : Int) (x3 : Int) (x4 : Int) (x5 : Int) (x6 : Int) (x7 : Int) (t : Nat) (o8 : Option kV) (o9 : Option kV) (o10 : Option kV) (σ : kS), k83 x2 x3 x4 x5 x6 x7 t σ = some (some yf, σf) → Rn l G dm_Pa_readSet m_Pa_readSet (kI fun y' σ' => y' = yf ∧ σ' = σf) 83 [some (.inr (8, t)), some (.inr (16, 2)), some (.inl x2), some (.inl x3), some (.inl x4), some (.inl x5), some (.inl x6), some (.inl x7), o8, o9, o10] [] σ) {x2 : Int} {x3 : Int} {x4 : Int} {x5 : Int} {x6 : Int} {x7 : Int} {s0 : Int} {t : Nat} {o8 : Option kV} {o9 : Option kV} {o10 : Option kV} {σ : kS} (h : fb_Pa_readSet_115 k83 x2 x3 x4 x5 x6 x7 s0 t σ = some (some yf, σf)) : Rn l G dm_Pa_readSet m_Pa_readSet (kI fun y' σ' => y' = yf ∧ σ' = σf) 115 [some (.inr (8, t)), some (.inr (16, 2)), some (.inl x2), some (.inl x3), some (.inl x4), some (.inl x5), some (.inl x6), some (.inl x7), o8, o9, o10] [.inl s0] σ := by
  unfold fb_Pa_readSet_115 at h
  obtain ⟨h1, h⟩ := kg_some h
  refine s_Pa_readSet_115 h1 (fun c => ?_) (fun c => ?_)
  · rw [if_pos c] at h
    exact e_Pa_readSet_131 hk83 h
  · rw [if_neg c] at h
    exact e_Pa_readSet_122 hk83 h
def fb_Pa_readSet_114 (k83 : Int → Int → Int → Int → Int → Int → Nat → kS → kRes) (x2 : Int) (x3 : Int) (x4 : Int) (x5 : Int) (x6 : Int) (x7 : Int) (t : Nat) (σ : kS) : kRes := fb_Pa_readSet_115 k83 x2 x3 x4 x5 x6 x7 0 t σ
theorem e_Pa_readSet_114 {l : Launch} {G : kG} {yf : Int} {σf : kS} {k83 : Int → Int → Int → Int → Int → Int → Nat → kS → kRes} (hk83 : ∀ (x2 : Int) (x3 : Int) (x4 : Int) (x5 : Int) (x6 : Int) (x7 : Int) (t : Nat) (o8 : Option kV) (o9 : Option kV) (o10 : Option kV) (σ : kS), k83 x2 x3 x4 x5 x6 x7 t σ = some (some yf, σf) → Rn l G dm_Pa_readSet m_Pa_readSet (kI fun y' σ' => y' = yf ∧ σ' = σf) 83 [some (.inr (8, t)), some (.inr (16, 2)), some (.inl x2), some (.inl x3), some (.inl x4), some (.inl x5), some (.inl x6), some (.inl x7), o8, o9, o10] [] σ) {x2 : Int} {x3 : Int} {x4 : Int} {x5 : Int} {x6 : Int} {x7 : Int} {t : Nat} {o8 : Option kV} {o9 : Option kV} {o10 : Option kV} {σ : kS} (h : fb_Pa_readSet_114 k83 x2 x3 x4 x5 x6 x7 t σ = some (some yf, σf)) : Rn l G dm_Pa_readSet m_Pa_readSet (kI fun y' σ' => y' = yf ∧ σ' = σf) 114 [some (.inr (8, t)), some (.inr (16, 2)), some (.inl x2), some (.inl x3), some (.inl x4), some (.inl x5), some (.inl x6), some (.inl x7), o8, o9, o10] [] σ := by
  unfold fb_Pa_readSet_114 at h
  refine s_Pa_readSet_114  ?_
  exact e_Pa_readSet_115 hk83 h
def fb_Pa_readSet_110 (k83 : Int → Int → Int → Int → Int → Int → Nat → kS → kRes) (x2 : Int) (x3 : Int) (x4 : Int) (x5 : Int) (x6 : Int) (x7 : Int) (t : Nat) (σ : kS) : kRes := fb_Pa_readSet_115 k83 x2 x3 x4 x5 x6 x7 1 t σ
theorem e_Pa_readSet_110 {l : Launch} {G : kG} {yf : Int} {σf : kS} {k83 : Int → Int → Int → Int → Int → Int → Nat → kS → kRes} (hk83 : ∀ (x2 : Int) (x3 : Int) (x4 : Int) (x5 : Int) (x6 : Int) (x7 : Int) (t : Nat) (o8 : Option kV) (o9 : Option kV) (o10 : Option kV) (σ : kS), k83 x2 x3 x4 x5 x6 x7 t σ = some (some yf, σf) → Rn l G dm_Pa_readSet m_Pa_readSet (kI fun y' σ' => y' = yf ∧ σ' = σf) 83 [some (.inr (8, t)), some (.inr (16, 2)), some (.inl x2), some (.inl x3), some (.inl x4), some (.inl x5), some (.inl x6), some (.inl x7), o8, o9, o10] [] σ) {x2 : Int} {x3 : Int} {x4 : Int} {x5 : Int} {x6 : Int} {x7 : Int} {t : Nat} {o8 : Option kV} {o9 : Option kV} {o10 : Option kV} {σ : kS} (h : fb_Pa_readSet_110 k83 x2 x3 x4 x5 x6 x7 t σ = some (some yf, σf)) : Rn l G dm_Pa_readSet m_Pa_readSet (kI fun y' σ' => y' = yf ∧ σ' = σf) 110 [some (.inr (8, t)), some (.inr (16, 2)), some (.inl x2), some (.inl x3), some (.inl x4), some (.inl x5), some (.inl x6), some (.inl x7), o8, o9, o10] [] σ := by
  unfold fb_Pa_readSet_110 at h
  refine s_Pa_readSet_110  ?_
  exact e_Pa_readSet_115 hk83 h
def fb_Pa_readSet_99 (k83 : Int → Int → Int → Int → Int → Int → Nat → kS → kRes) (x2 : Int) (x3 : Int) (x4 : Int) (x5 : Int) (x6 : Int) (x7 : Int) (t : Nat) (σ : kS) : kRes := kg ((0 ≤ x7 + 1 ∧ x7 + 1 < (30 : Nat)) ∧ (-2147483648 ≤ σ 16 2 (Int.toNat (x7 + 1)) ∧ σ 16 2 (Int.toNat (x7 + 1)) < 2147483648)) (if (σ 16 2 (Int.toNat (x7 + 1))) = 45 then fb_Pa_readSet_110 k83 x2 x3 x4 x5 x6 x7 t σ else fb_Pa_readSet_114 k83 x2 x3 x4 x5 x6 x7 t σ)
theorem e_Pa_readSet_99 {l : Launch} {G : kG} {yf : Int} {σf : kS} {k83 : Int → Int → Int → Int → Int → Int → Nat → kS → kRes} (hk83 : ∀ (x2 : Int) (x3 : Int) (x4 : Int) (x5 : Int) (x6 : Int) (x7 : Int) (t : Nat) (o8 : Option kV) (o9 : Option kV) (o10 : Option kV) (σ : kS), k83 x2 x3 x4 x5 x6 x7 t σ = some (some yf, σf) → Rn l G dm_Pa_readSet m_Pa_readSet (kI fun y' σ' => y' = yf ∧ σ' = σf) 83 [some (.inr (8, t)), some (.inr (16, 2)), some (.inl x2), some (.inl x3), some (.inl x4), some (.inl x5), some (.inl x6), some (.inl x7), o8, o9, o10] [] σ) {x2 : Int} {x3 : Int} {x4 : Int} {x5 : Int} {x6 : Int} {x7 : Int} {t : Nat} {o8 : Option kV} {o9 : Option kV} {o10 : Option kV} {σ : kS} (h : fb_Pa_readSet_99 k83 x2 x3 x4 x5 x6 x7 t σ = some (some yf, σf)) : Rn l G dm_Pa_readSet m_Pa_readSet (kI fun y' σ' => y' = yf ∧ σ' = σf) 99 [some (.inr (8, t)), some (.inr (16, 2)), some (.inl x2), some (.inl x3), some (.inl x4), some (.inl x5), some (.inl x6), some (.inl x7), o8, o9, o10] [] σ := by
  unfold fb_Pa_readSet_99 at h
  obtain ⟨⟨h1, h2⟩, h⟩ := kg_some h
  refine s_Pa_readSet_99 h1 h2 (fun c => ?_) (fun c => ?_)
  · rw [if_neg c] at h
    exact e_Pa_readSet_114 hk83 h
  · rw [if_pos c] at h
    exact e_Pa_readSet_110 hk83 h
def fb_Pa_readSet_90 (k83 : Int → Int → Int → Int → Int → Int → Nat → kS → kRes) (x2 : Int) (x3 : Int) (x4 : Int) (x5 : Int) (x6 : Int) (x7 : Int) (t : Nat) (σ : kS) : kRes := kg ((-2147483648 ≤ x7 + 2 ∧ x7 + 2 < 2147483648) ∧ (-2147483648 ≤ x5 ∧ x5 < 2147483648)) (if x5 ≤ (x7 + 2) then fb_Pa_readSet_114 k83 x2 x3 x4 x5 x6 x7 t σ else fb_Pa_readSet_99 k83 x2 x3 x4 x5 x6 x7 t σ)
theorem e_Pa_readSet_90 {l : Launch} {G : kG} {yf : Int} {σf : kS} {k83 : Int → Int → Int → Int → Int → Int → Nat → kS → kRes} (hk83 : ∀ (x2 : Int) (x3 : Int) (x4 : Int) (x5 : Int) (x6 : Int) (x7 : Int) (t : Nat) (o8 : Option kV) (o9 : Option kV) (o10 : Option kV) (σ : kS), k83 x2 x3 x4 x5 x6 x7 t σ = some (some yf, σf) → Rn l G dm_Pa_readSet m_Pa_readSet (kI fun y' σ' => y' = yf ∧ σ' = σf) 83 [some (.inr (8, t)), some (.inr (16, 2)), some (.inl x2), some (.inl x3), some (.inl x4), some (.inl x5), some (.inl x6), some (.inl x7), o8, o9, o10] [] σ) {x2 : Int} {x3 : Int} {x4 : Int} {x5 : Int} {x6 : Int} {x7 : Int} {t : Nat} {o8 : Option kV} {o9 : Option kV} {o10 : Option kV} {σ : kS} (h : fb_Pa_readSet_90 k83 x2 x3 x4 x5 x6 x7 t σ = some (some yf, σf)) : Rn l G dm_Pa_readSet m_Pa_readSet (kI fun y' σ' => y' = yf ∧ σ' = σf) 90 [some (.inr (8, t)), some (.inr (16, 2)), some (.inl x2), some (.inl x3), some (.inl x4), some (.inl x5), some (.inl x6), some (.inl x7), o8, o9, o10] [] σ := by
  unfold fb_Pa_readSet_90 at h
  obtain ⟨⟨h1, h2⟩, h⟩ := kg_some h
  refine s_Pa_readSet_90 h1 h2 (fun c => ?_) (fun c => ?_)
  · rw [if_pos c] at h
    exact e_Pa_readSet_114 hk83 h
  · rw [if_neg c] at h
    exact e_Pa_readSet_99 hk83 h
def fb_Pa_readSet_83 (k83 : Int → Int → Int → Int → Int → Int → Nat → kS → kRes) (x2 : Int) (x3 : Int) (x4 : Int) (x5 : Int) (x6 : Int) (x7 : Int) (t : Nat) (σ : kS) : kRes := kg ((-2147483648 ≤ x7 ∧ x7 < 2147483648) ∧ (-2147483648 ≤ x5 ∧ x5 < 2147483648)) (if x5 ≤ x7 then fb_Pa_readSet_186  x2 x3 x4 x5 x6 x7 t σ else fb_Pa_readSet_90 k83 x2 x3 x4 x5 x6 x7 t σ)
theorem e_Pa_readSet_83 {l : Launch} {G : kG} {yf : Int} {σf : kS} {k83 : Int → Int → Int → Int → Int → Int → Nat → kS → kRes} (hk83 : ∀ (x2 : Int) (x3 : Int) (x4 : Int) (x5 : Int) (x6 : Int) (x7 : Int) (t : Nat) (o8 : Option kV) (o9 : Option kV) (o10 : Option kV) (σ : kS), k83 x2 x3 x4 x5 x6 x7 t σ = some (some yf, σf) → Rn l G dm_Pa_readSet m_Pa_readSet (kI fun y' σ' => y' = yf ∧ σ' = σf) 83 [some (.inr (8, t)), some (.inr (16, 2)), some (.inl x2), some (.inl x3), some (.inl x4), some (.inl x5), some (.inl x6), some (.inl x7), o8, o9, o10] [] σ) {x2 : Int} {x3 : Int} {x4 : Int} {x5 : Int} {x6 : Int} {x7 : Int} {t : Nat} {o8 : Option kV} {o9 : Option kV} {o10 : Option kV} {σ : kS} (h : fb_Pa_readSet_83 k83 x2 x3 x4 x5 x6 x7 t σ = some (some yf, σf)) : Rn l G dm_Pa_readSet m_Pa_readSet (kI fun y' σ' => y' = yf ∧ σ' = σf) 83 [some (.inr (8, t)), some (.inr (16, 2)), some (.inl x2), some (.inl x3), some (.inl x4), some (.inl x5), some (.inl x6), some (.inl x7), o8, o9, o10] [] σ := by
  unfold fb_Pa_readSet_83 at h
  obtain ⟨⟨h1, h2⟩, h⟩ := kg_some h
  refine s_Pa_readSet_83 h1 h2 (fun c => ?_) (fun c => ?_)
  · rw [if_pos c] at h
    exact e_Pa_readSet_186  h
  · rw [if_neg c] at h
    exact e_Pa_readSet_90 hk83 h
def fl_Pa_readSet_83  : Nat → Int → Int → Int → Int → Int → Int → Nat → kS → kRes
  | 0, _, _, _, _, _, _, _, _ => none
  | n + 1, x2, x3, x4, x5, x6, x7, t, σ => fb_Pa_readSet_83 (fl_Pa_readSet_83  n) x2 x3 x4 x5 x6 x7 t σ
theorem el_Pa_readSet_83 {l : Launch} {G : kG} {yf : Int} {σf : kS}  : ∀ (n : Nat) (x2 : Int) (x3 : Int) (x4 : Int) (x5 : Int) (x6 : Int) (x7 : Int) (t : Nat) (o8 : Option kV) (o9 : Option kV) (o10 : Option kV) (σ : kS), fl_Pa_readSet_83  n x2 x3 x4 x5 x6 x7 t σ = some (some yf, σf) → Rn l G dm_Pa_readSet m_Pa_readSet (kI fun y' σ' => y' = yf ∧ σ' = σf) 83 [some (.inr (8, t)), some (.inr (16, 2)), some (.inl x2), some (.inl x3), some (.inl x4), some (.inl x5), some (.inl x6), some (.inl x7), o8, o9, o10] [] σ := by
  intro n
  induction n with
  | zero => intro x2 x3 x4 x5 x6 x7 t o8 o9 o10 σ h; simp only [fl_Pa_readSet_83] at h; cases h
  | succ n ih => intro x2 x3 x4 x5 x6 x7 t o8 o9 o10 σ h; simp only [fl_Pa_readSet_83] at h; exact e_Pa_readSet_83 ih h
def fb_Pa_readSet_81  (x2 : Int) (x3 : Int) (x4 : Int) (x5 : Int) (x6 : Int) (s0 : Int) (t : Nat) (σ : kS) : kRes := fl_Pa_readSet_83  3000 x2 x3 x4 x5 x6 s0 t σ
theorem e_Pa_readSet_81 {l : Launch} {G : kG} {yf : Int} {σf : kS}  {x2 : Int} {x3 : Int} {x4 : Int} {x5 : Int} {x6 : Int} {s0 : Int} {t : Nat} {o7 : Option kV} {o8 : Option kV} {o9 : Option kV} {o10 : Option kV} {σ : kS} (h : fb_Pa_readSet_81  x2 x3 x4 x5 x6 s0 t σ = some (some yf, σf)) : Rn l G dm_Pa_readSet m_Pa_readSet (kI fun y' σ' => y' = yf ∧ σ' = σf) 81 [some (.inr (8, t)), some (.inr (16, 2)), some (.inl x2), some (.inl x3), some (.inl x4), some (.inl x5), some (.inl x6), o7, o8, o9, o10] [.inl s0] σ := by
  unfold fb_Pa_readSet_81 at h
  refine s_Pa_readSet_81  ?_
  exact el_Pa_readSet_83  _ _ _ _ _ _ _ _ _ _ _ _ h
def fb_Pa_readSet_78  (x2 : Int) (x3 : Int) (x4 : Int) (x5 : Int) (x6 : Int) (t : Nat) (σ : kS) : kRes := fb_Pa_readSet_81  x2 x3 x4 x5 x6 (x2 + 1) t σ
theorem e_Pa_readSet_78 {l : Launch} {G : kG} {yf : Int} {σf : kS}  {x2 : Int} {x3 : Int} {x4 : Int} {x5 : Int} {x6 : Int} {t : Nat} {o7 : Option kV} {o8 : Option kV} {o9 : Option kV} {o10 : Option kV} {σ : kS} (h : fb_Pa_readSet_78  x2 x3 x4 x5 x6 t σ = some (some yf, σf)) : Rn l G dm_Pa_readSet m_Pa_readSet (kI fun y' σ' => y' = yf ∧ σ' = σf) 78 [some (.inr (8, t)), some (.inr (16, 2)), some (.inl x2), some (.inl x3), some (.inl x4), some (.inl x5), some (.inl x6), o7, o8, o9, o10] [] σ := by
  unfold fb_Pa_readSet_78 at h
  refine s_Pa_readSet_78  ?_
  exact e_Pa_readSet_81  h
def fb_Pa_readSet_72  (x2 : Int) (x3 : Int) (x4 : Int) (x5 : Int) (x6 : Int) (t : Nat) (σ : kS) : kRes := fb_Pa_readSet_81  x2 x3 x4 x5 x6 (x2 + 2) t σ
theorem e_Pa_readSet_72 {l : Launch} {G : kG} {yf : Int} {σf : kS}  {x2 : Int} {x3 : Int} {x4 : Int} {x5 : Int} {x6 : Int} {t : Nat} {o7 : Option kV} {o8 : Option kV} {o9 : Option kV} {o10 : Option kV} {σ : kS} (h : fb_Pa_readSet_72  x2 x3 x4 x5 x6 t σ = some (some yf, σf)) : Rn l G dm_Pa_readSet m_Pa_readSet (kI fun y' σ' => y' = yf ∧ σ' = σf) 72 [some (.inr (8, t)), some (.inr (16, 2)), some (.inl x2), some (.inl x3), some (.inl x4), some (.inl x5), some (.inl x6), o7, o8, o9, o10] [] σ := by
  unfold fb_Pa_readSet_72 at h
  refine s_Pa_readSet_72  ?_
  exact e_Pa_readSet_81  h
def fb_Pa_readSet_65  (x2 : Int) (x3 : Int) (x4 : Int) (x5 : Int) (s0 : Int) (t : Nat) (σ : kS) : kRes := kg ((-2147483648 ≤ s0 ∧ s0 < 2147483648)) (if s0 = 0 then fb_Pa_readSet_78  x2 x3 x4 x5 s0 t σ else fb_Pa_readSet_72  x2 x3 x4 x5 s0 t σ)
theorem e_Pa_readSet_65 {l : Launch} {G : kG} {yf : Int} {σf : kS}  {x2 : Int} {x3 : Int} {x4 : Int} {x5 : Int} {s0 : Int} {t : Nat} {o6 : Option kV} {o7 : Option kV} {o8 : Option kV} {o9 : Option kV} {o10 : Option kV} {σ : kS} (h : fb_Pa_readSet_65  x2 x3 x4 x5 s0 t σ = some (some yf, σf)) : Rn l G dm_Pa_readSet m_Pa_readSet (kI fun y' σ' => y' = yf ∧ σ' = σf) 65 [some (.inr (8, t)), some (.inr (16, 2)), some (.inl x2), some (.inl x3), some (.inl x4), some (.inl x5), o6, o7, o8, o9, o10] [.inl s0] σ := by
  unfold fb_Pa_readSet_65 at h
  obtain ⟨h1, h⟩ := kg_some h
  refine s_Pa_readSet_65 h1 (fun c => ?_) (fun c => ?_)
  · rw [if_pos c] at h
    exact e_Pa_readSet_78  h
  · rw [if_neg c] at h
    exact e_Pa_readSet_72  h
def fb_Pa_readSet_64  (x2 : Int) (x3 : Int) (x4 : Int) (x5 : Int) (t : Nat) (σ : kS) : kRes := fb_Pa_readSet_65  x2 x3 x4 x5 0 t σ
theorem e_Pa_readSet_64 {l : Launch} {G : kG} {yf : Int} {σf : kS}  {x2 : Int} {x3 : Int} {x4 : Int} {x5 : Int} {t : Nat} {o6 : Option kV} {o7 : Option kV} {o8 : Option kV} {o9 : Option kV} {o10 : Option kV} {σ : kS} (h : fb_Pa_readSet_64  x2 x3 x4 x5 t σ = some (some yf, σf)) : Rn l G dm_Pa_readSet m_Pa_readSet (kI fun y' σ' => y' = yf ∧ σ' = σf) 64 [some (.inr (8, t)), some (.inr (16, 2)), some (.inl x2), some (.inl x3), some (.inl x4), some (.inl x5), o6, o7, o8, o9, o10] [] σ := by
  unfold fb_Pa_readSet_64 at h
  refine s_Pa_readSet_64  ?_
  exact e_Pa_readSet_65  h
def fb_Pa_readSet_60  (x2 : Int) (x3 : Int) (x4 : Int) (x5 : Int) (t : Nat) (σ : kS) : kRes := fb_Pa_readSet_65  x2 x3 x4 x5 1 t σ
theorem e_Pa_readSet_60 {l : Launch} {G : kG} {yf : Int} {σf : kS}  {x2 : Int} {x3 : Int} {x4 : Int} {x5 : Int} {t : Nat} {o6 : Option kV} {o7 : Option kV} {o8 : Option kV} {o9 : Option kV} {o10 : Option kV} {σ : kS} (h : fb_Pa_readSet_60  x2 x3 x4 x5 t σ = some (some yf, σf)) : Rn l G dm_Pa_readSet m_Pa_readSet (kI fun y' σ' => y' = yf ∧ σ' = σf) 60 [some (.inr (8, t)), some (.inr (16, 2)), some (.inl x2), some (.inl x3), some (.inl x4), some (.inl x5), o6, o7, o8, o9, o10] [] σ := by
  unfold fb_Pa_readSet_60 at h
  refine s_Pa_readSet_60  ?_
  exact e_Pa_readSet_65  h
def fb_Pa_readSet_52  (x2 : Int) (x3 : Int) (x4 : Int) (x5 : Int) (t : Nat) (σ : kS) : kRes := kg ((-2147483648 ≤ x5 ∧ x5 < 2147483648) ∧ (-2147483648 ≤ x2 + 2 ∧ x2 + 2 < 2147483648)) (if x5 ≤ (x2 + 2) then fb_Pa_readSet_64  x2 x3 x4 x5 t σ else fb_Pa_readSet_60  x2 x3 x4 x5 t σ)
theorem e_Pa_readSet_52 {l : Launch} {G : kG} {yf : Int} {σf : kS}  {x2 : Int} {x3 : Int} {x4 : Int} {x5 : Int} {t : Nat} {o6 : Option kV} {o7 : Option kV} {o8 : Option kV} {o9 : Option kV} {o10 : Option kV} {σ : kS} (h : fb_Pa_readSet_52  x2 x3 x4 x5 t σ = some (some yf, σf)) : Rn l G dm_Pa_readSet m_Pa_readSet (kI fun y' σ' => y' = yf ∧ σ' = σf) 52 [some (.inr (8, t)), some (.inr (16, 2)), some (.inl x2), some (.inl x3), some (.inl x4), some (.inl x5), o6, o7, o8, o9, o10] [] σ := by
  unfold fb_Pa_readSet_52 at h
  obtain ⟨⟨h1, h2⟩, h⟩ := kg_some h
  refine s_Pa_readSet_52 h1 h2 (fun c => ?_) (fun c => ?_)
  · rw [if_pos c] at h
    exact e_Pa_readSet_64  h
  · rw [if_neg c] at h
    exact e_Pa_readSet_60  h
def fb_Pa_readSet_42  (x2 : Int) (x3 : Int) (x4 : Int) (x5 : Int) (t : Nat) (σ : kS) : kRes := kg ((0 ≤ x2 + 1 ∧ x2 + 1 < (30 : Nat)) ∧ (-2147483648 ≤ σ 16 2 (Int.toNat (x2 + 1)) ∧ σ 16 2 (Int.toNat (x2 + 1)) < 2147483648)) (if (σ 16 2 (Int.toNat (x2 + 1))) = 94 then fb_Pa_readSet_52  x2 x3 x4 x5 t σ else fb_Pa_readSet_64  x2 x3 x4 x5 t σ)
theorem e_Pa_readSet_42 {l : Launch} {G : kG} {yf : Int} {σf : kS}  {x2 : Int} {x3 : Int} {x4 : Int} {x5 : Int} {t : Nat} {o6 : Option kV} {o7 : Option kV} {o8 : Option kV} {o9 : Option kV} {o10 : Option kV} {σ : kS} (h : fb_Pa_readSet_42  x2 x3 x4 x5 t σ = some (some yf, σf)) : Rn l G dm_Pa_readSet m_Pa_readSet (kI fun y' σ' => y' = yf ∧ σ' = σf) 42 [some (.inr (8, t)), some (.inr (16, 2)), some (.inl x2), some (.inl x3), some (.inl x4), some (.inl x5), o6, o7, o8, o9, o10] [] σ := by
  unfold fb_Pa_readSet_42 at h
  obtain ⟨⟨h1, h2⟩, h⟩ := kg_some h
  refine s_Pa_readSet_42 h1 h2 (fun c => ?_) (fun c => ?_)
  · rw [if_neg c] at h
    exact e_Pa_readSet_64  h
  · rw [if_pos c] at h
    exact e_Pa_readSet_52  h
def fb_Pa_readSet_40  (x2 : Int) (x3 : Int) (x4 : Int) (x5 : Int) (t : Nat) (σ : kS) : kRes := some (some (-1), σ)
theorem e_Pa_readSet_40 {l : Launch} {G : kG} {yf : Int} {σf : kS}  {x2 : Int} {x3 : Int} {x4 : Int} {x5 : Int} {t : Nat} {o6 : Option kV} {o7 : Option kV} {o8 : Option kV} {o9 : Option kV} {o10 : Option kV} {σ : kS} (h : fb_Pa_readSet_40  x2 x3 x4 x5 t σ = some (some yf, σf)) : Rn l G dm_Pa_readSet m_Pa_readSet (kI fun y' σ' => y' = yf ∧ σ' = σf) 40 [some (.inr (8, t)), some (.inr (16, 2)), some (.inl x2), some (.inl x3), some (.inl x4), some (.inl x5), o6, o7, o8, o9, o10] [] σ := by
  unfold fb_Pa_readSet_40 at h
  simp only [Option.some.injEq, Prod.mk.injEq, true_and] at h
  exact s_Pa_readSet_40  ⟨_, rfl, h⟩
def fb_Pa_readSet_34  (x2 : Int) (x3 : Int) (x4 : Int) (x5 : Int) (t : Nat) (σ : kS) : kRes := kg ((-2147483648 ≤ x5 ∧ x5 < 2147483648) ∧ (-2147483648 ≤ x3 ∧ x3 < 2147483648)) (if x5 < x3 then fb_Pa_readSet_42  x2 x3 x4 x5 t σ else fb_Pa_readSet_40  x2 x3 x4 x5 t σ)
theorem e_Pa_readSet_34 {l : Launch} {G : kG} {yf : Int} {σf : kS}  {x2 : Int} {x3 : Int} {x4 : Int} {x5 : Int} {t : Nat} {o6 : Option kV} {o7 : Option kV} {o8 : Option kV} {o9 : Option kV} {o10 : Option kV} {σ : kS} (h : fb_Pa_readSet_34  x2 x3 x4 x5 t σ = some (some yf, σf)) : Rn l G dm_Pa_readSet m_Pa_readSet (kI fun y' σ' => y' = yf ∧ σ' = σf) 34 [some (.inr (8, t)), some (.inr (16, 2)), some (.inl x2), some (.inl x3), some (.inl x4), some (.inl x5), o6, o7, o8, o9, o10] [] σ := by
  unfold fb_Pa_readSet_34 at h
  obtain ⟨⟨h1, h2⟩, h⟩ := kg_some h
  refine s_Pa_readSet_34 h1 h2 (fun c => ?_) (fun c => ?_)
  · rw [if_pos c] at h
    exact e_Pa_readSet_42  h
  · rw [if_neg c] at h
    exact e_Pa_readSet_40  h
def fb_Pa_readSet_28 (k13 : Int → Int → Int → Int → Nat → kS → kRes) (x2 : Int) (x3 : Int) (x4 : Int) (x5 : Int) (t : Nat) (σ : kS) : kRes := k13 x2 x3 x4 (x5 + 1) t σ
theorem e_Pa_readSet_28 {l : Launch} {G : kG} {yf : Int} {σf : kS} {k13 : Int → Int → Int → Int → Nat → kS → kRes} (hk13 : ∀ (x2 : Int) (x3 : Int) (x4 : Int) (x5 : Int) (t : Nat) (o6 : Option kV) (o7 : Option kV) (o8 : Option kV) (o9 : Option kV) (o10 : Option kV) (σ : kS), k13 x2 x3 x4 x5 t σ = some (some yf, σf) → Rn l G dm_Pa_readSet m_Pa_readSet (kI fun y' σ' => y' = yf ∧ σ' = σf) 13 [some (.inr (8, t)), some (.inr (16, 2)), some (.inl x2), some (.inl x3), some (.inl x4), some (.inl x5), o6, o7, o8, o9, o10] [] σ) {x2 : Int} {x3 : Int} {x4 : Int} {x5 : Int} {t : Nat} {o6 : Option kV} {o7 : Option kV} {o8 : Option kV} {o9 : Option kV} {o10 : Option kV} {σ : kS} (h : fb_Pa_readSet_28 k13 x2 x3 x4 x5 t σ = some (some yf, σf)) : Rn l G dm_Pa_readSet m_Pa_readSet (kI fun y' σ' => y' = yf ∧ σ' = σf) 28 [some (.inr (8, t)), some (.inr (16, 2)), some (.inl x2), some (.inl x3), some (.inl x4), some (.inl x5), o6, o7, o8, o9, o10] [] σ := by
  unfold fb_Pa_readSet_28 at h
  refine s_Pa_readSet_28  ?_
  exact hk13 _ _ _ _ _ _ _ _ _ _ _ h
def fb_Pa_readSet_19 (k13 : Int → Int → Int → Int → Nat → kS → kRes) (x2 : Int) (x3 : Int) (x4 : Int) (x5 : Int) (t : Nat) (σ : kS) : kRes := kg ((0 ≤ x5 ∧ x5 < (30 : Nat)) ∧ (-2147483648 ≤ σ 16 2 (Int.toNat x5) ∧ σ 16 2 (Int.toNat x5) < 2147483648)) (if (σ 16 2 (Int.toNat x5)) = 93 then fb_Pa_readSet_34  x2 x3 x4 x5 t σ else fb_Pa_readSet_28 k13 x2 x3 x4 x5 t σ)
theorem e_Pa_readSet_19 {l : Launch} {G : kG} {yf : Int} {σf : kS} {k13 : Int → Int → Int → Int → Nat → kS → kRes} (hk13 : ∀ (x2 : Int) (x3 : Int) (x4 : Int) (x5 : Int) (t : Nat) (o6 : Option kV) (o7 : Option kV) (o8 : Option kV) (o9 : Option kV) (o10 : Option kV) (σ : kS), k13 x2 x3 x4 x5 t σ = some (some yf, σf) → Rn l G dm_Pa_readSet m_Pa_readSet (kI fun y' σ' => y' = yf ∧ σ' = σf) 13 [some (.inr (8, t)), some (.inr (16, 2)), some (.inl x2), some (.inl x3), some (.inl x4), some (.inl x5), o6, o7, o8, o9, o10] [] σ) {x2 : Int} {x3 : Int} {x4 : Int} {x5 : Int} {t : Nat} {o6 : Option kV} {o7 : Option kV} {o8 : Option kV} {o9 : Option kV} {o10 : Option kV} {σ : kS} (h : fb_Pa_readSet_19 k13 x2 x3 x4 x5 t σ = some (some yf, σf)) : Rn l G dm_Pa_readSet m_Pa_readSet (kI fun y' σ' => y' = yf ∧ σ' = σf) 19 [some (.inr (8, t)), some (.inr (16, 2)), some (.inl x2), some (.inl x3), some (.inl x4), some (.inl x5), o6, o7, o8, o9, o10] [] σ := by
  unfold fb_Pa_readSet_19 at h
  obtain ⟨⟨h1, h2⟩, h⟩ := kg_some h
  refine s_Pa_readSet_19 h1 h2 (fun c => ?_) (fun c => ?_)
  · rw [if_pos c] at h
    exact e_Pa_readSet_34  h
  · rw [if_neg c] at h
    exact e_Pa_readSet_28 hk13 h
def fb_Pa_readSet_13 (k13 : Int → Int → Int → Int → Nat → kS → kRes) (x2 : Int) (x3 : Int) (x4 : Int) (x5 : Int) (t : Nat) (σ : kS) : kRes := kg ((-2147483648 ≤ x5 ∧ x5 < 2147483648) ∧ (-2147483648 ≤ x3 ∧ x3 < 2147483648)) (if x3 ≤ x5 then fb_Pa_readSet_34  x2 x3 x4 x5 t σ else fb_Pa_readSet_19 k13 x2 x3 x4 x5 t σ)
theorem e_Pa_readSet_13 {l : Launch} {G : kG} {yf : Int} {σf : kS} {k13 : Int → Int → Int → Int → Nat → kS → kRes} (hk13 : ∀ (x2 : Int) (x3 : Int) (x4 : Int) (x5 : Int) (t : Nat) (o6 : Option kV) (o7 : Option kV) (o8 : Option kV) (o9 : Option kV) (o10 : Option kV) (σ : kS), k13 x2 x3 x4 x5 t σ = some (some yf, σf) → Rn l G dm_Pa_readSet m_Pa_readSet (kI fun y' σ' => y' = yf ∧ σ' = σf) 13 [some (.inr (8, t)), some (.inr (16, 2)), some (.inl x2), some (.inl x3), some (.inl x4), some (.inl x5), o6, o7, o8, o9, o10] [] σ) {x2 : Int} {x3 : Int} {x4 : Int} {x5 : Int} {t : Nat} {o6 : Option kV} {o7 : Option kV} {o8 : Option kV} {o9 : Option kV} {o10 : Option kV} {σ : kS} (h : fb_Pa_readSet_13 k13 x2 x3 x4 x5 t σ = some (some yf, σf)) : Rn l G dm_Pa_readSet m_Pa_readSet (kI fun y' σ' => y' = yf ∧ σ' = σf) 13 [some (.inr (8, t)), some (.inr (16, 2)), some (.inl x2), some (.inl x3), some (.inl x4), some (.inl x5), o6, o7, o8, o9, o10] [] σ := by
  unfold fb_Pa_readSet_13 at h
  obtain ⟨⟨h1, h2⟩, h⟩ := kg_some h
  refine s_Pa_readSet_13 h1 h2 (fun c => ?_) (fun c => ?_)
  · rw [if_pos c] at h
    exact e_Pa_readSet_34  h
  · rw [if_neg c] at h
    exact e_Pa_readSet_19 hk13 h
def fl_Pa_readSet_13  : Nat → Int → Int → Int → Int → Nat → kS → kRes
  | 0, _, _, _, _, _, _ => none
  | n + 1, x2, x3, x4, x5, t, σ => fb_Pa_readSet_13 (fl_Pa_readSet_13  n) x2 x3 x4 x5 t σ
theorem el_Pa_readSet_13 {l : Launch} {G : kG} {yf : Int} {σf : kS}  : ∀ (n : Nat) (x2 : Int) (x3 : Int) (x4 : Int) (x5 : Int) (t : Nat) (o6 : Option kV) (o7 : Option kV) (o8 : Option kV) (o9 : Option kV) (o10 : Option kV) (σ : kS), fl_Pa_readSet_13  n x2 x3 x4 x5 t σ = some (some yf, σf) → Rn l G dm_Pa_readSet m_Pa_readSet (kI fun y' σ' => y' = yf ∧ σ' = σf) 13 [some (.inr (8, t)), some (.inr (16, 2)), some (.inl x2), some (.inl x3), some (.inl x4), some (.inl x5), o6, o7, o8, o9, o10] [] σ := by
  intro n
  induction n with
  | zero => intro x2 x3 x4 x5 t o6 o7 o8 o9 o10 σ h; simp only [fl_Pa_readSet_13] at h; cases h
  | succ n ih => intro x2 x3 x4 x5 t o6 o7 o8 o9 o10 σ h; simp only [fl_Pa_readSet_13] at h; exact e_Pa_readSet_13 ih h
def fb_Pa_readSet_0  (x2 : Int) (x3 : Int) (t : Nat) (σ : kS) : kRes := fl_Pa_readSet_13  3000 x2 x3 (kshl 1 (σ 8 t 2)) (x2 + 2) t σ
theorem e_Pa_readSet_0 {l : Launch} {G : kG} {yf : Int} {σf : kS}  {x2 : Int} {x3 : Int} {t : Nat} {o4 : Option kV} {o5 : Option kV} {o6 : Option kV} {o7 : Option kV} {o8 : Option kV} {o9 : Option kV} {o10 : Option kV} {σ : kS} (h : fb_Pa_readSet_0  x2 x3 t σ = some (some yf, σf)) : Rn l G dm_Pa_readSet m_Pa_readSet (kI fun y' σ' => y' = yf ∧ σ' = σf) 0 [some (.inr (8, t)), some (.inr (16, 2)), some (.inl x2), some (.inl x3), o4, o5, o6, o7, o8, o9, o10] [] σ := by
  unfold fb_Pa_readSet_0 at h
  refine s_Pa_readSet_0  ?_
  exact el_Pa_readSet_13  _ _ _ _ _ _ _ _ _ _ _ _ h
def f_Pa_readSet (x2 : Int) (x3 : Int) (t : Nat) (σ : kS) : kRes := fb_Pa_readSet_0 x2 x3 t σ
theorem E_Pa_readSet {l : Launch} {G : kG} {yf : Int} {σf : kS} {x2 : Int} {x3 : Int} {t : Nat} {σ : kS} (h : f_Pa_readSet x2 x3 t σ = some (some yf, σf)) : Call l G dm_Pa_readSet y_Pa_readSet m_Pa_readSet [.inr (8, t), .inr (16, 2), .inl x2, .inl x3] σ (kI fun y' σ' => y' = yf ∧ σ' = σf) := by
  unfold f_Pa_readSet at h
  exact Call.of (by decide +kernel) rfl (Nat.le_of_ble_eq_true rfl) (e_Pa_readSet_0 h)
/-! Pa_readSingle -/
def fb_Pa_readSingle_92  (x2 : Int) (x3 : Int) (x4 : Int) (x5 : Int) (s0 : Int) (t : Nat) (σ : kS) : kRes := kg ((0 ≤ s0 - 1 ∧ s0 - 1 < (30 : Nat)) ∧ (0 ≤ σ 16 2 (Int.toNat (s0 - 1)) ∧ σ 16 2 (Int.toNat (s0 - 1)) < (127 : Nat))) (some (some s0, kup σ 17 t (Int.toNat (σ 16 2 (Int.toNat (s0 - 1)))) (kor (σ 17 t (Int.toNat (σ 16 2 (Int.toNat (s0 - 1))))) x4)))
theorem e_Pa_readSingle_92 {l : Launch} {G : kG} {yf : Int} {σf : kS}  {x2 : Int} {x3 : Int} {x4 : Int} {x5 : Int} {s0 : Int} {t : Nat} {o6 : Option kV} {σ : kS} (h : fb_Pa_readSingle_92  x2 x3 x4 x5 s0 t σ = some (some yf, σf)) : Rn l G dm_Pa_readSingle m_Pa_readSingle (kI fun y' σ' => y' = yf ∧ σ' = σf) 92 [some (.inr (8, t)), some (.inr (16, 2)), some (.inl x2), some (.inl x3), some (.inl x4), some (.inl x5), o6] [.inl s0] σ := by
  unfold fb_Pa_readSingle_92 at h
  obtain ⟨⟨h1, h2⟩, h⟩ := kg_some h
  simp only [Option.some.injEq, Prod.mk.injEq, true_and] at h
  exact s_Pa_readSingle_92 h1 h2 ⟨_, rfl, h⟩
def fb_Pa_readSingle_89  (x2 : Int) (x3 : Int) (x4 : Int) (x5 : Int) (t : Nat) (σ : kS) : kRes := fb_Pa_readSingle_92  x2 x3 x4 x5 (x2 + 1) t σ
theorem e_Pa_readSingle_89 {l : Launch} {G : kG} {yf : Int} {σf : kS}  {x2 : Int} {x3 : Int} {x4 : Int} {x5 : Int} {t : Nat} {o6 : Option kV} {σ : kS} (h : fb_Pa_readSingle_89  x2 x3 x4 x5 t σ = some (some yf, σf)) : Rn l G dm_Pa_readSingle m_Pa_readSingle (kI fun y' σ' => y' = yf ∧ σ' = σf) 89 [some (.inr (8, t)), some (.inr (16, 2)), some (.inl x2), some (.inl x3), some (.inl x4), some (.inl x5), o6] [] σ := by
  unfold fb_Pa_readSingle_89 at h
  refine s_Pa_readSingle_89  ?_
  exact e_Pa_readSingle_92  h
def fb_Pa_readSingle_83  (x2 : Int) (x3 : Int) (x4 : Int) (x5 : Int) (t : Nat) (σ : kS) : kRes := fb_Pa_readSingle_92  x2 x3 x4 x5 (x2 + 2) t σ
theorem e_Pa_readSingle_83 {l : Launch} {G : kG} {yf : Int} {σf : kS}  {x2 : Int} {x3 : Int} {x4 : Int} {x5 : Int} {t : Nat} {o6 : Option kV} {σ : kS} (h : fb_Pa_readSingle_83  x2 x3 x4 x5 t σ = some (some yf, σf)) : Rn l G dm_Pa_readSingle m_Pa_readSingle (kI fun y' σ' => y' = yf ∧ σ' = σf) 83 [some (.inr (8, t)), some (.inr (16, 2)), some (.inl x2), some (.inl x3), some (.inl x4), some (.inl x5), o6] [] σ := by
  unfold fb_Pa_readSingle_83 at h
  refine s_Pa_readSingle_83  ?_
  exact e_Pa_readSingle_92  h
def fb_Pa_readSingle_76  (x2 : Int) (x3 : Int) (x4 : Int) (x5 : Int) (t : Nat) (σ : kS) : kRes := kg ((-2147483648 ≤ x5 ∧ x5 < 2147483648)) (if x5 = 92 then fb_Pa_readSingle_83  x2 x3 x4 x5 t σ else fb_Pa_readSingle_89  x2 x3 x4 x5 t σ)
theorem e_Pa_readSingle_76 {l : Launch} {G : kG} {yf : Int} {σf : kS}  {x2 : Int} {x3 : Int} {x4 : Int} {x5 : Int} {t : Nat} {o6 : Option kV} {σ : kS} (h : fb_Pa_readSingle_76  x2 x3 x4 x5 t σ = some (some yf, σf)) : Rn l G dm_Pa_readSingle m_Pa_readSingle (kI fun y' σ' => y' = yf ∧ σ' = σf) 76 [some (.inr (8, t)), some (.inr (16, 2)), some (.inl x2), some (.inl x3), some (.inl x4), some (.inl x5), o6] [] σ := by
  unfold fb_Pa_readSingle_76 at h
  obtain ⟨h1, h⟩ := kg_some h
  refine s_Pa_readSingle_76 h1 (fun c => ?_) (fun c => ?_)
  · rw [if_neg c] at h
    exact e_Pa_readSingle_89  h
  · rw [if_pos c] at h
    exact e_Pa_readSingle_83  h
def fb_Pa_readSingle_72  (x2 : Int) (x3 : Int) (x4 : Int) (x5 : Int) (x6 : Int) (t : Nat) (σ : kS) : kRes := some (some (x2 + 1), σ)
theorem e_Pa_readSingle_72 {l : Launch} {G : kG} {yf : Int} {σf : kS}  {x2 : Int} {x3 : Int} {x4 : Int} {x5 : Int} {x6 : Int} {t : Nat}  {σ : kS} (h : fb_Pa_readSingle_72  x2 x3 x4 x5 x6 t σ = some (some yf, σf)) : Rn l G dm_Pa_readSingle m_Pa_readSingle (kI fun y' σ' => y' = yf ∧ σ' = σf) 72 [some (.inr (8, t)), some (.inr (16, 2)), some (.inl x2), some (.inl x3), some (.inl x4), some (.inl x5), some (.inl x6)] [] σ := by
  unfold fb_Pa_readSingle_72 at h
  simp only [Option.some.injEq, Prod.mk.injEq, true_and] at h
  exact s_Pa_readSingle_72  ⟨_, rfl, h⟩
def fb_Pa_readSingle_54 (k47 : Int → Int → Int → Int → Int → Nat → kS → kRes) (x2 : Int) (x3 : Int) (x4 : Int) (x5 : Int) (x6 : Int) (t : Nat) (σ : kS) : kRes := kg ((0 ≤ x6 ∧ x6 < (127 : Nat))) (k47 x2 x3 x4 x5 (x6 + 1) t (kup σ 17 t (Int.toNat x6) (kor (σ 17 t (Int.toNat x6)) x4)))
theorem e_Pa_readSingle_54 {l : Launch} {G : kG} {yf : Int} {σf : kS} {k47 : Int → Int → Int → Int → Int → Nat → kS → kRes} (hk47 : ∀ (x2 : Int) (x3 : Int) (x4 : Int) (x5 : Int) (x6 : Int) (t : Nat)  (σ : kS), k47 x2 x3 x4 x5 x6 t σ = some (some yf, σf) → Rn l G dm_Pa_readSingle m_Pa_readSingle (kI fun y' σ' => y' = yf ∧ σ' = σf) 47 [some (.inr (8, t)), some (.inr (16, 2)), some (.inl x2), some (.inl x3), some (.inl x4), some (.inl x5), some (.inl x6)] [] σ) {x2 : Int} {x3 : Int} {x4 : Int} {x5 : Int} {x6 : Int} {t : Nat}  {σ : kS} (h : fb_Pa_readSingle_54 k47 x2 x3 x4 x5 x6 t σ = some (some yf, σf)) : Rn l G dm_Pa_readSingle m_Pa_readSingle (kI fun y' σ' => y' = yf ∧ σ' = σf) 54 [some (.inr (8, t)), some (.inr (16, 2)), some (.inl x2), some (.inl x3), some (.inl x4), some (.inl x5), some (.inl x6)] [] σ := by
  unfold fb_Pa_readSingle_54 at h
  obtain ⟨h1, h⟩ := kg_some h
  refine s_Pa_readSingle_54 h1 ?_
  exact hk47 _ _ _ _ _ _ _ h
def fb_Pa_readSingle_47 (k47 : Int → Int → Int → Int → Int → Nat → kS → kRes) (x2 : Int) (x3 : Int) (x4 : Int) (x5 : Int) (x6 : Int) (t : Nat) (σ : kS) : kRes := kg ((-2147483648 ≤ x6 ∧ x6 < 2147483648)) (if 126 < x6 then fb_Pa_readSingle_72  x2 x3 x4 x5 x6 t σ else fb_Pa_readSingle_54 k47 x2 x3 x4 x5 x6 t σ)
theorem e_Pa_readSingle_47 {l : Launch} {G : kG} {yf : Int} {σf : kS} {k47 : Int → Int → Int → Int → Int → Nat → kS → kRes} (hk47 : ∀ (x2 : Int) (x3 : Int) (x4 : Int) (x5 : Int) (x6 : Int) (t : Nat)  (σ : kS), k47 x2 x3 x4 x5 x6 t σ = some (some yf, σf) → Rn l G dm_Pa_readSingle m_Pa_readSingle (kI fun y' σ' => y' = yf ∧ σ' = σf) 47 [some (.inr (8, t)), some (.inr (16, 2)), some (.inl x2), some (.inl x3), some (.inl x4), some (.inl x5), some (.inl x6)] [] σ) {x2 : Int} {x3 : Int} {x4 : Int} {x5 : Int} {x6 : Int} {t : Nat}  {σ : kS} (h : fb_Pa_readSingle_47 k47 x2 x3 x4 x5 x6 t σ = some (some yf, σf)) : Rn l G dm_Pa_readSingle m_Pa_readSingle (kI fun y' σ' => y' = yf ∧ σ' = σf) 47 [some (.inr (8, t)), some (.inr (16, 2)), some (.inl x2), some (.inl x3), some (.inl x4), some (.inl x5), some (.inl x6)] [] σ := by
  unfold fb_Pa_readSingle_47 at h
  obtain ⟨h1, h⟩ := kg_some h
  refine s_Pa_readSingle_47 h1 (fun c => ?_) (fun c => ?_)
  · rw [if_pos c] at h
    exact e_Pa_readSingle_72  h
  · rw [if_neg c] at h
    exact e_Pa_readSingle_54 hk47 h
def fl_Pa_readSingle_47  : Nat → Int → Int → Int → Int → Int → Nat → kS → kRes
  | 0, _, _, _, _, _, _, _ => none
  | n + 1, x2, x3, x4, x5, x6, t, σ => fb_Pa_readSingle_47 (fl_Pa_readSingle_47  n) x2 x3 x4 x5 x6 t σ
theorem el_Pa_readSingle_47 {l : Launch} {G : kG} {yf : Int} {σf : kS}  : ∀ (n : Nat) (x2 : Int) (x3 : Int) (x4 : Int) (x5 : Int) (x6 : Int) (t : Nat)  (σ : kS), fl_Pa_readSingle_47  n x2 x3 x4 x5 x6 t σ = some (some yf, σf) → Rn l G dm_Pa_readSingle m_Pa_readSingle (kI fun y' σ' => y' = yf ∧ σ' = σf) 47 [some (.inr (8, t)), some (.inr (16, 2)), some (.inl x2), some (.inl x3), some (.inl x4), some (.inl x5), some (.inl x6)] [] σ := by
  intro n
  induction n with
  | zero => intro x2 x3 x4 x5 x6 t σ h; simp only [fl_Pa_readSingle_47] at h; cases h
  | succ n ih => intro x2 x3 x4 x5 x6 t σ h; simp only [fl_Pa_readSingle_47] at h; exact e_Pa_readSingle_47 ih h
def fb_Pa_readSingle_43  (x2 : Int) (x3 : Int) (x4 : Int) (x5 : Int) (t : Nat) (σ : kS) : kRes := fl_Pa_readSingle_47  3000 x2 x3 x4 x5 32 t σ
theorem e_Pa_readSingle_43 {l : Launch} {G : kG} {yf : Int} {σf : kS}  {x2 : Int} {x3 : Int} {x4 : Int} {x5 : Int} {t : Nat} {o6 : Option kV} {σ : kS} (h : fb_Pa_readSingle_43  x2 x3 x4 x5 t σ = some (some yf, σf)) : Rn l G dm_Pa_readSingle m_Pa_readSingle (kI fun y' σ' => y' = yf ∧ σ' = σf) 43 [some (.inr (8, t)), some (.inr (16, 2)), some (.inl x2), some (.inl x3), some (.inl x4), some (.inl x5), o6] [] σ := by
  unfold fb_Pa_readSingle_43 at h
  refine s_Pa_readSingle_43  ?_
  exact el_Pa_readSingle_47  _ _ _ _ _ _ _ _ h
def fb_Pa_readSingle_36  (x2 : Int) (x3 : Int) (x4 : Int) (x5 : Int) (t : Nat) (σ : kS) : kRes := kg ((-2147483648 ≤ x5 ∧ x5 < 2147483648)) (if x5 = 46 then fb_Pa_readSingle_43  x2 x3 x4 x5 t σ else fb_Pa_readSingle_76  x2 x3 x4 x5 t σ)
theorem e_Pa_readSingle_36 {l : Launch} {G : kG} {yf : Int} {σf : kS}  {x2 : Int} {x3 : Int} {x4 : Int} {x5 : Int} {t : Nat} {o6 : Option kV} {σ : kS} (h : fb_Pa_readSingle_36  x2 x3 x4 x5 t σ = some (some yf, σf)) : Rn l G dm_Pa_readSingle m_Pa_readSingle (kI fun y' σ' => y' = yf ∧ σ' = σf) 36 [some (.inr (8, t)), some (.inr (16, 2)), some (.inl x2), some (.inl x3), some (.inl x4), some (.inl x5), o6] [] σ := by
  unfold fb_Pa_readSingle_36 at h
  obtain ⟨h1, h⟩ := kg_some h
  refine s_Pa_readSingle_36 h1 (fun c => ?_) (fun c => ?_)
  · rw [if_neg c] at h
    exact e_Pa_readSingle_76  h
  · rw [if_pos c] at h
    exact e_Pa_readSingle_43  h
def fb_Pa_readSingle_34  (x2 : Int) (x3 : Int) (x4 : Int) (x5 : Int) (t : Nat) (σ : kS) : kRes := some (some (-1), σ)
theorem e_Pa_readSingle_34 {l : Launch} {G : kG} {yf : Int} {σf : kS}  {x2 : Int} {x3 : Int} {x4 : Int} {x5 : Int} {t : Nat} {o6 : Option kV} {σ : kS} (h : fb_Pa_readSingle_34  x2 x3 x4 x5 t σ = some (some yf, σf)) : Rn l G dm_Pa_readSingle m_Pa_readSingle (kI fun y' σ' => y' = yf ∧ σ' = σf) 34 [some (.inr (8, t)), some (.inr (16, 2)), some (.inl x2), some (.inl x3), some (.inl x4), some (.inl x5), o6] [] σ := by
  unfold fb_Pa_readSingle_34 at h
  simp only [Option.some.injEq, Prod.mk.injEq, true_and] at h
  exact s_Pa_readSingle_34  ⟨_, rfl, h⟩
def fb_Pa_readSingle_27  (x2 : Int) (x3 : Int) (x4 : Int) (x5 : Int) (t : Nat) (σ : kS) : kRes := kg ((-2147483648 ≤ x2 + 1 ∧ x2 + 1 < 2147483648) ∧ (-2147483648 ≤ x3 ∧ x3 < 2147483648)) (if (x2 + 1) < x3 then fb_Pa_readSingle_36  x2 x3 x4 x5 t σ else fb_Pa_readSingle_34  x2 x3 x4 x5 t σ)
theorem e_Pa_readSingle_27 {l : Launch} {G : kG} {yf : Int} {σf : kS}  {x2 : Int} {x3 : Int} {x4 : Int} {x5 : Int} {t : Nat} {o6 : Option kV} {σ : kS} (h : fb_Pa_readSingle_27  x2 x3 x4 x5 t σ = some (some yf, σf)) : Rn l G dm_Pa_readSingle m_Pa_readSingle (kI fun y' σ' => y' = yf ∧ σ' = σf) 27 [some (.inr (8, t)), some (.inr (16, 2)), some (.inl x2), some (.inl x3), some (.inl x4), some (.inl x5), o6] [] σ := by
  unfold fb_Pa_readSingle_27 at h
  obtain ⟨⟨h1, h2⟩, h⟩ := kg_some h
  refine s_Pa_readSingle_27 h1 h2 (fun c => ?_) (fun c => ?_)
  · rw [if_pos c] at h
    exact e_Pa_readSingle_36  h
  · rw [if_neg c] at h
    exact e_Pa_readSingle_34  h
def fb_Pa_readSingle_20  (x2 : Int) (x3 : Int) (x4 : Int) (x5 : Int) (t : Nat) (σ : kS) : kRes := kg ((-2147483648 ≤ x5 ∧ x5 < 2147483648)) (if x5 = 92 then fb_Pa_readSingle_27  x2 x3 x4 x5 t σ else fb_Pa_readSingle_36  x2 x3 x4 x5 t σ)
theorem e_Pa_readSingle_20 {l : Launch} {G : kG} {yf : Int} {σf : kS}  {x2 : Int} {x3 : Int} {x4 : Int} {x5 : Int} {t : Nat} {o6 : Option kV} {σ : kS} (h : fb_Pa_readSingle_20  x2 x3 x4 x5 t σ = some (some yf, σf)) : Rn l G dm_Pa_readSingle m_Pa_readSingle (kI fun y' σ' => y' = yf ∧ σ' = σf) 20 [some (.inr (8, t)), some (.inr (16, 2)), some (.inl x2), some (.inl x3), some (.inl x4), some (.inl x5), o6] [] σ := by
  unfold fb_Pa_readSingle_20 at h
  obtain ⟨h1, h⟩ := kg_some h
  refine s_Pa_readSingle_20 h1 (fun c => ?_) (fun c => ?_)
  · rw [if_neg c] at h
    exact e_Pa_readSingle_36  h
  · rw [if_pos c] at h
    exact e_Pa_readSingle_27  h
def fb_Pa_readSingle_0  (x2 : Int) (x3 : Int) (t : Nat) (σ : kS) : kRes := kg ((0 ≤ x2 ∧ x2 < (30 : Nat)) ∧ (-2147483648 ≤ σ 16 2 (Int.toNat x2) ∧ σ 16 2 (Int.toNat x2) < 2147483648)) (if (σ 16 2 (Int.toNat x2)) = 42 then fb_Pa_readSingle_34  x2 x3 (kshl 1 (σ 8 t 2)) (σ 16 2 (Int.toNat x2)) t σ else fb_Pa_readSingle_20  x2 x3 (kshl 1 (σ 8 t 2)) (σ 16 2 (Int.toNat x2)) t σ)
theorem e_Pa_readSingle_0 {l : Launch} {G : kG} {yf : Int} {σf : kS}  {x2 : Int} {x3 : Int} {t : Nat} {o4 : Option kV} {o5 : Option kV} {o6 : Option kV} {σ : kS} (h : fb_Pa_readSingle_0  x2 x3 t σ = some (some yf, σf)) : Rn l G dm_Pa_readSingle m_Pa_readSingle (kI fun y' σ' => y' = yf ∧ σ' = σf) 0 [some (.inr (8, t)), some (.inr (16, 2)), some (.inl x2), some (.inl x3), o4, o5, o6] [] σ := by
  unfold fb_Pa_readSingle_0 at h
  obtain ⟨⟨h1, h2⟩, h⟩ := kg_some h
  refine s_Pa_readSingle_0 h1 h2 (fun c => ?_) (fun c => ?_)
  · rw [if_pos c] at h
    exact e_Pa_readSingle_34  h
  · rw [if_neg c] at h
    exact e_Pa_readSingle_20  h
def f_Pa_readSingle (x2 : Int) (x3 : Int) (t : Nat) (σ : kS) : kRes := fb_Pa_readSingle_0 x2 x3 t σ
theorem E_Pa_readSingle {l : Launch} {G : kG} {yf : Int} {σf : kS} {x2 : Int} {x3 : Int} {t : Nat} {σ : kS} (h : f_Pa_readSingle x2 x3 t σ = some (some yf, σf)) : Call l G dm_Pa_readSingle y_Pa_readSingle m_Pa_readSingle [.inr (8, t), .inr (16, 2), .inl x2, .inl x3] σ (kI fun y' σ' => y' = yf ∧ σ' = σf) := by
  unfold f_Pa_readSingle at h
  exact Call.of (by decide +kernel) rfl (Nat.le_of_ble_eq_true rfl) (e_Pa_readSingle_0 h)
