/-! Rm_all -/
def fb_Rm_all_153  (x1 : Int) (x2 : Int) (x3 : Int) (x4 : Int) (x5 : Int) (x6 : Int) (x7 : Int) (σ : kS) : kRes := kg ((x6 = 0 ∨ x6 = 1)) (some (some x6, σ))
theorem e_Rm_all_153 {l : Launch} {G : kG} {yf : Int} {σf : kS}  {x1 : Int} {x2 : Int} {x3 : Int} {x4 : Int} {x5 : Int} {x6 : Int} {x7 : Int} {o8 : Option kV} {σ : kS} (h : fb_Rm_all_153  x1 x2 x3 x4 x5 x6 x7 σ = some (some yf, σf)) : Rn l G dm_Rm_all m_Rm_all (kI fun y' σ' => y' = yf ∧ σ' = σf) 153 [some (.inr (9, 0)), some (.inl x1), some (.inl x2), some (.inl x3), some (.inl x4), some (.inl x5), some (.inl x6), some (.inl x7), o8] [] σ := by
  unfold fb_Rm_all_153 at h
  obtain ⟨h1, h⟩ := kg_some h
  simp only [Option.some.injEq, Prod.mk.injEq, true_and] at h
  exact s_Rm_all_153 h1 ⟨_, rfl, h⟩
def fb_Rm_all_145 (k91 : Int → Int → Int → Int → Int → Int → Int → kS → kRes) (x1 : Int) (x2 : Int) (x3 : Int) (x4 : Int) (x5 : Int) (x6 : Int) (x7 : Int) (x8 : Int) (s0 : Int) (σ : kS) : kRes := k91 x1 x2 x3 x4 x5 s0 (x7 + 1) σ
theorem e_Rm_all_145 {l : Launch} {G : kG} {yf : Int} {σf : kS} {k91 : Int → Int → Int → Int → Int → Int → Int → kS → kRes} (hk91 : ∀ (x1 : Int) (x2 : Int) (x3 : Int) (x4 : Int) (x5 : Int) (x6 : Int) (x7 : Int) (o8 : Option kV) (σ : kS), k91 x1 x2 x3 x4 x5 x6 x7 σ = some (some yf, σf) → Rn l G dm_Rm_all m_Rm_all (kI fun y' σ' => y' = yf ∧ σ' = σf) 91 [some (.inr (9, 0)), some (.inl x1), some (.inl x2), some (.inl x3), some (.inl x4), some (.inl x5), some (.inl x6), some (.inl x7), o8] [] σ) {x1 : Int} {x2 : Int} {x3 : Int} {x4 : Int} {x5 : Int} {x6 : Int} {x7 : Int} {x8 : Int} {s0 : Int}  {σ : kS} (h : fb_Rm_all_145 k91 x1 x2 x3 x4 x5 x6 x7 x8 s0 σ = some (some yf, σf)) : Rn l G dm_Rm_all m_Rm_all (kI fun y' σ' => y' = yf ∧ σ' = σf) 145 [some (.inr (9, 0)), some (.inl x1), some (.inl x2), some (.inl x3), some (.inl x4), some (.inl x5), some (.inl x6), some (.inl x7), some (.inl x8)] [.inl s0] σ := by
  unfold fb_Rm_all_145 at h
  refine s_Rm_all_145  ?_
  exact hk91 _ _ _ _ _ _ _ _ _ h
def fb_Rm_all_129 (k91 : Int → Int → Int → Int → Int → Int → Int → kS → kRes) (x1 : Int) (x2 : Int) (x3 : Int) (x4 : Int) (x5 : Int) (x6 : Int) (x7 : Int) (s0 : Int) (σ : kS) : kRes := kbi (f_Rm_one s0 s0 (kup σ 9 0 22 x4)) fun y σ1 => fb_Rm_all_145 k91 x1 x2 x3 x4 x5 x6 x7 s0 y σ1
theorem e_Rm_all_129 {l : Launch} {G : kG} {yf : Int} {σf : kS} {k91 : Int → Int → Int → Int → Int → Int → Int → kS → kRes} (hk91 : ∀ (x1 : Int) (x2 : Int) (x3 : Int) (x4 : Int) (x5 : Int) (x6 : Int) (x7 : Int) (o8 : Option kV) (σ : kS), k91 x1 x2 x3 x4 x5 x6 x7 σ = some (some yf, σf) → Rn l G dm_Rm_all m_Rm_all (kI fun y' σ' => y' = yf ∧ σ' = σf) 91 [some (.inr (9, 0)), some (.inl x1), some (.inl x2), some (.inl x3), some (.inl x4), some (.inl x5), some (.inl x6), some (.inl x7), o8] [] σ) {x1 : Int} {x2 : Int} {x3 : Int} {x4 : Int} {x5 : Int} {x6 : Int} {x7 : Int} {s0 : Int} {o8 : Option kV} {σ : kS} (h : fb_Rm_all_129 k91 x1 x2 x3 x4 x5 x6 x7 s0 σ = some (some yf, σf)) : Rn l G dm_Rm_all m_Rm_all (kI fun y' σ' => y' = yf ∧ σ' = σf) 129 [some (.inr (9, 0)), some (.inl x1), some (.inl x2), some (.inl x3), some (.inl x4), some (.inl x5), some (.inl x6), some (.inl x7), o8] [.inl s0] σ := by
  unfold fb_Rm_all_129 at h
  obtain ⟨y, σ1, hc, h⟩ := kbi_some h
  refine s_Rm_all_129  (by decide) (E_Rm_one hc) (fun y2 σ2 e2 => ?_)
  obtain ⟨rfl, rfl⟩ := e2
  exact e_Rm_all_145 hk91 h
def fb_Rm_all_122 (k91 : Int → Int → Int → Int → Int → Int → Int → kS → kRes) (x1 : Int) (x2 : Int) (x3 : Int) (x4 : Int) (x5 : Int) (x6 : Int) (x7 : Int) (σ : kS) : kRes := kg ((0 ≤ x7 ∧ x7 < (10 : Nat))) (fb_Rm_all_129 k91 x1 x2 x3 x4 x5 x6 x7 (σ 32 0 (Int.toNat x7)) σ)
theorem e_Rm_all_122 {l : Launch} {G : kG} {yf : Int} {σf : kS} {k91 : Int → Int → Int → Int → Int → Int → Int → kS → kRes} (hk91 : ∀ (x1 : Int) (x2 : Int) (x3 : Int) (x4 : Int) (x5 : Int) (x6 : Int) (x7 : Int) (o8 : Option kV) (σ : kS), k91 x1 x2 x3 x4 x5 x6 x7 σ = some (some yf, σf) → Rn l G dm_Rm_all m_Rm_all (kI fun y' σ' => y' = yf ∧ σ' = σf) 91 [some (.inr (9, 0)), some (.inl x1), some (.inl x2), some (.inl x3), some (.inl x4), some (.inl x5), some (.inl x6), some (.inl x7), o8] [] σ) {x1 : Int} {x2 : Int} {x3 : Int} {x4 : Int} {x5 : Int} {x6 : Int} {x7 : Int} {o8 : Option kV} {σ : kS} (h : fb_Rm_all_122 k91 x1 x2 x3 x4 x5 x6 x7 σ = some (some yf, σf)) : Rn l G dm_Rm_all m_Rm_all (kI fun y' σ' => y' = yf ∧ σ' = σf) 122 [some (.inr (9, 0)), some (.inl x1), some (.inl x2), some (.inl x3), some (.inl x4), some (.inl x5), some (.inl x6), some (.inl x7), o8] [] σ := by
  unfold fb_Rm_all_122 at h
  obtain ⟨h1, h⟩ := kg_some h
  refine s_Rm_all_122 h1 ?_
  exact e_Rm_all_129 hk91 h
def fb_Rm_all_109 (k91 : Int → Int → Int → Int → Int → Int → Int → kS → kRes) (x1 : Int) (x2 : Int) (x3 : Int) (x4 : Int) (x5 : Int) (x6 : Int) (x7 : Int) (σ : kS) : kRes := kg ((0 ≤ x7 ∧ x7 < (10 : Nat))) (fb_Rm_all_129 k91 x1 x2 x3 x4 x5 x6 x7 ((σ 32 0 (Int.toNat x7)) - x7) σ)
theorem e_Rm_all_109 {l : Launch} {G : kG} {yf : Int} {σf : kS} {k91 : Int → Int → Int → Int → Int → Int → Int → kS → kRes} (hk91 : ∀ (x1 : Int) (x2 : Int) (x3 : Int) (x4 : Int) (x5 : Int) (x6 : Int) (x7 : Int) (o8 : Option kV) (σ : kS), k91 x1 x2 x3 x4 x5 x6 x7 σ = some (some yf, σf) → Rn l G dm_Rm_all m_Rm_all (kI fun y' σ' => y' = yf ∧ σ' = σf) 91 [some (.inr (9, 0)), some (.inl x1), some (.inl x2), some (.inl x3), some (.inl x4), some (.inl x5), some (.inl x6), some (.inl x7), o8] [] σ) {x1 : Int} {x2 : Int} {x3 : Int} {x4 : Int} {x5 : Int} {x6 : Int} {x7 : Int} {o8 : Option kV} {σ : kS} (h : fb_Rm_all_109 k91 x1 x2 x3 x4 x5 x6 x7 σ = some (some yf, σf)) : Rn l G dm_Rm_all m_Rm_all (kI fun y' σ' => y' = yf ∧ σ' = σf) 109 [some (.inr (9, 0)), some (.inl x1), some (.inl x2), some (.inl x3), some (.inl x4), some (.inl x5), some (.inl x6), some (.inl x7), o8] [] σ := by
  unfold fb_Rm_all_109 at h
  obtain ⟨h1, h⟩ := kg_some h
  refine s_Rm_all_109 h1 ?_
  exact e_Rm_all_129 hk91 h
def fb_Rm_all_102 (k91 : Int → Int → Int → Int → Int → Int → Int → kS → kRes) (x1 : Int) (x2 : Int) (x3 : Int) (x4 : Int) (x5 : Int) (x6 : Int) (x7 : Int) (σ : kS) : kRes := kg ((-2147483648 ≤ x5 ∧ x5 < 2147483648)) (if x5 = 100 then fb_Rm_all_109 k91 x1 x2 x3 x4 x5 x6 x7 σ else fb_Rm_all_122 k91 x1 x2 x3 x4 x5 x6 x7 σ)
theorem e_Rm_all_102 {l : Launch} {G : kG} {yf : Int} {σf : kS} {k91 : Int → Int → Int → Int → Int → Int → Int → kS → kRes} (hk91 : ∀ (x1 : Int) (x2 : Int) (x3 : Int) (x4 : Int) (x5 : Int) (x6 : Int) (x7 : Int) (o8 : Option kV) (σ : kS), k91 x1 x2 x3 x4 x5 x6 x7 σ = some (some yf, σf) → Rn l G dm_Rm_all m_Rm_all (kI fun y' σ' => y' = yf ∧ σ' = σf) 91 [some (.inr (9, 0)), some (.inl x1), some (.inl x2), some (.inl x3), some (.inl x4), some (.inl x5), some (.inl x6), some (.inl x7), o8] [] σ) {x1 : Int} {x2 : Int} {x3 : Int} {x4 : Int} {x5 : Int} {x6 : Int} {x7 : Int} {o8 : Option kV} {σ : kS} (h : fb_Rm_all_102 k91 x1 x2 x3 x4 x5 x6 x7 σ = some (some yf, σf)) : Rn l G dm_Rm_all m_Rm_all (kI fun y' σ' => y' = yf ∧ σ' = σf) 102 [some (.inr (9, 0)), some (.inl x1), some (.inl x2), some (.inl x3), some (.inl x4), some (.inl x5), some (.inl x6), some (.inl x7), o8] [] σ := by
  unfold fb_Rm_all_102 at h
  obtain ⟨h1, h⟩ := kg_some h
  refine s_Rm_all_102 h1 (fun c => ?_) (fun c => ?_)
  · rw [if_neg c] at h
    exact e_Rm_all_122 hk91 h
  · rw [if_pos c] at h
    exact e_Rm_all_109 hk91 h
def fb_Rm_all_97 (k91 : Int → Int → Int → Int → Int → Int → Int → kS → kRes) (x1 : Int) (x2 : Int) (x3 : Int) (x4 : Int) (x5 : Int) (x6 : Int) (x7 : Int) (σ : kS) : kRes := kg ((-2147483648 ≤ x6 ∧ x6 < 2147483648)) (if x6 = 0 then fb_Rm_all_153  x1 x2 x3 x4 x5 x6 x7 σ else fb_Rm_all_102 k91 x1 x2 x3 x4 x5 x6 x7 σ)
theorem e_Rm_all_97 {l : Launch} {G : kG} {yf : Int} {σf : kS} {k91 : Int → Int → Int → Int → Int → Int → Int → kS → kRes} (hk91 : ∀ (x1 : Int) (x2 : Int) (x3 : Int) (x4 : Int) (x5 : Int) (x6 : Int) (x7 : Int) (o8 : Option kV) (σ : kS), k91 x1 x2 x3 x4 x5 x6 x7 σ = some (some yf, σf) → Rn l G dm_Rm_all m_Rm_all (kI fun y' σ' => y' = yf ∧ σ' = σf) 91 [some (.inr (9, 0)), some (.inl x1), some (.inl x2), some (.inl x3), some (.inl x4), some (.inl x5), some (.inl x6), some (.inl x7), o8] [] σ) {x1 : Int} {x2 : Int} {x3 : Int} {x4 : Int} {x5 : Int} {x6 : Int} {x7 : Int} {o8 : Option kV} {σ : kS} (h : fb_Rm_all_97 k91 x1 x2 x3 x4 x5 x6 x7 σ = some (some yf, σf)) : Rn l G dm_Rm_all m_Rm_all (kI fun y' σ' => y' = yf ∧ σ' = σf) 97 [some (.inr (9, 0)), some (.inl x1), some (.inl x2), some (.inl x3), some (.inl x4), some (.inl x5), some (.inl x6), some (.inl x7), o8] [] σ := by
  unfold fb_Rm_all_97 at h
  obtain ⟨h1, h⟩ := kg_some h
  refine s_Rm_all_97 h1 (fun c => ?_) (fun c => ?_)
  · rw [if_pos c] at h
    exact e_Rm_all_153  h
  · rw [if_neg c] at h
    exact e_Rm_all_102 hk91 h
def fb_Rm_all_91 (k91 : Int → Int → Int → Int → Int → Int → Int → kS → kRes) (x1 : Int) (x2 : Int) (x3 : Int) (x4 : Int) (x5 : Int) (x6 : Int) (x7 : Int) (σ : kS) : kRes := kg ((-2147483648 ≤ x7 ∧ x7 < 2147483648) ∧ (-2147483648 ≤ x3 ∧ x3 < 2147483648)) (if x3 ≤ x7 then fb_Rm_all_153  x1 x2 x3 x4 x5 x6 x7 σ else fb_Rm_all_97 k91 x1 x2 x3 x4 x5 x6 x7 σ)
theorem e_Rm_all_91 {l : Launch} {G : kG} {yf : Int} {σf : kS} {k91 : Int → Int → Int → Int → Int → Int → Int → kS → kRes} (hk91 : ∀ (x1 : Int) (x2 : Int) (x3 : Int) (x4 : Int) (x5 : Int) (x6 : Int) (x7 : Int) (o8 : Option kV) (σ : kS), k91 x1 x2 x3 x4 x5 x6 x7 σ = some (some yf, σf) → Rn l G dm_Rm_all m_Rm_all (kI fun y' σ' => y' = yf ∧ σ' = σf) 91 [some (.inr (9, 0)), some (.inl x1), some (.inl x2), some (.inl x3), some (.inl x4), some (.inl x5), some (.inl x6), some (.inl x7), o8] [] σ) {x1 : Int} {x2 : Int} {x3 : Int} {x4 : Int} {x5 : Int} {x6 : Int} {x7 : Int} {o8 : Option kV} {σ : kS} (h : fb_Rm_all_91 k91 x1 x2 x3 x4 x5 x6 x7 σ = some (some yf, σf)) : Rn l G dm_Rm_all m_Rm_all (kI fun y' σ' => y' = yf ∧ σ' = σf) 91 [some (.inr (9, 0)), some (.inl x1), some (.inl x2), some (.inl x3), some (.inl x4), some (.inl x5), some (.inl x6), some (.inl x7), o8] [] σ := by
  unfold fb_Rm_all_91 at h
  obtain ⟨⟨h1, h2⟩, h⟩ := kg_some h
  refine s_Rm_all_91 h1 h2 (fun c => ?_) (fun c => ?_)
  · rw [if_pos c] at h
    exact e_Rm_all_153  h
  · rw [if_neg c] at h
    exact e_Rm_all_97 hk91 h
def fl_Rm_all_91  : Nat → Int → Int → Int → Int → Int → Int → Int → kS → kRes
  | 0, _, _, _, _, _, _, _, _ => none
  | n + 1, x1, x2, x3, x4, x5, x6, x7, σ => fb_Rm_all_91 (fl_Rm_all_91  n) x1 x2 x3 x4 x5 x6 x7 σ
theorem el_Rm_all_91 {l : Launch} {G : kG} {yf : Int} {σf : kS}  : ∀ (n : Nat) (x1 : Int) (x2 : Int) (x3 : Int) (x4 : Int) (x5 : Int) (x6 : Int) (x7 : Int) (o8 : Option kV) (σ : kS), fl_Rm_all_91  n x1 x2 x3 x4 x5 x6 x7 σ = some (some yf, σf) → Rn l G dm_Rm_all m_Rm_all (kI fun y' σ' => y' = yf ∧ σ' = σf) 91 [some (.inr (9, 0)), some (.inl x1), some (.inl x2), some (.inl x3), some (.inl x4), some (.inl x5), some (.inl x6), some (.inl x7), o8] [] σ := by
  intro n
  induction n with
  | zero => intro x1 x2 x3 x4 x5 x6 x7 o8 σ h; simp only [fl_Rm_all_91] at h; cases h
  | succ n ih => intro x1 x2 x3 x4 x5 x6 x7 o8 σ h; simp only [fl_Rm_all_91] at h; exact e_Rm_all_91 ih h
def fb_Rm_all_86  (x1 : Int) (x2 : Int) (x3 : Int) (x4 : Int) (x5 : Int) (s0 : Int) (σ : kS) : kRes := fl_Rm_all_91  3000 x1 x2 x3 x4 x5 s0 0 σ
theorem e_Rm_all_86 {l : Launch} {G : kG} {yf : Int} {σf : kS}  {x1 : Int} {x2 : Int} {x3 : Int} {x4 : Int} {x5 : Int} {s0 : Int} {o6 : Option kV} {o7 : Option kV} {o8 : Option kV} {σ : kS} (h : fb_Rm_all_86  x1 x2 x3 x4 x5 s0 σ = some (some yf, σf)) : Rn l G dm_Rm_all m_Rm_all (kI fun y' σ' => y' = yf ∧ σ' = σf) 86 [some (.inr (9, 0)), some (.inl x1), some (.inl x2), some (.inl x3), some (.inl x4), some (.inl x5), o6, o7, o8] [.inl s0] σ := by
  unfold fb_Rm_all_86 at h
  refine s_Rm_all_86  ?_
  exact el_Rm_all_91  _ _ _ _ _ _ _ _ _ _ h
def fb_Rm_all_85  (x1 : Int) (x2 : Int) (x3 : Int) (x4 : Int) (x5 : Int) (σ : kS) : kRes := fb_Rm_all_86  x1 x2 x3 x4 x5 0 σ
theorem e_Rm_all_85 {l : Launch} {G : kG} {yf : Int} {σf : kS}  {x1 : Int} {x2 : Int} {x3 : Int} {x4 : Int} {x5 : Int} {o6 : Option kV} {o7 : Option kV} {o8 : Option kV} {σ : kS} (h : fb_Rm_all_85  x1 x2 x3 x4 x5 σ = some (some yf, σf)) : Rn l G dm_Rm_all m_Rm_all (kI fun y' σ' => y' = yf ∧ σ' = σf) 85 [some (.inr (9, 0)), some (.inl x1), some (.inl x2), some (.inl x3), some (.inl x4), some (.inl x5), o6, o7, o8] [] σ := by
  unfold fb_Rm_all_85 at h
  refine s_Rm_all_85  ?_
  exact e_Rm_all_86  h
def fb_Rm_all_81  (x1 : Int) (x2 : Int) (x3 : Int) (x4 : Int) (x5 : Int) (σ : kS) : kRes := fb_Rm_all_86  x1 x2 x3 x4 x5 1 σ
theorem e_Rm_all_81 {l : Launch} {G : kG} {yf : Int} {σf : kS}  {x1 : Int} {x2 : Int} {x3 : Int} {x4 : Int} {x5 : Int} {o6 : Option kV} {o7 : Option kV} {o8 : Option kV} {σ : kS} (h : fb_Rm_all_81  x1 x2 x3 x4 x5 σ = some (some yf, σf)) : Rn l G dm_Rm_all m_Rm_all (kI fun y' σ' => y' = yf ∧ σ' = σf) 81 [some (.inr (9, 0)), some (.inl x1), some (.inl x2), some (.inl x3), some (.inl x4), some (.inl x5), o6, o7, o8] [] σ := by
  unfold fb_Rm_all_81 at h
  refine s_Rm_all_81  ?_
  exact e_Rm_all_86  h
def fb_Rm_all_75  (x1 : Int) (x2 : Int) (x3 : Int) (x4 : Int) (s0 : Int) (σ : kS) : kRes := kg ((-2147483648 ≤ x3 ∧ x3 < 2147483648)) (if x3 ≤ 0 then fb_Rm_all_85  x1 x2 x3 x4 s0 σ else fb_Rm_all_81  x1 x2 x3 x4 s0 σ)
theorem e_Rm_all_75 {l : Launch} {G : kG} {yf : Int} {σf : kS}  {x1 : Int} {x2 : Int} {x3 : Int} {x4 : Int} {s0 : Int} {o5 : Option kV} {o6 : Option kV} {o7 : Option kV} {o8 : Option kV} {σ : kS} (h : fb_Rm_all_75  x1 x2 x3 x4 s0 σ = some (some yf, σf)) : Rn l G dm_Rm_all m_Rm_all (kI fun y' σ' => y' = yf ∧ σ' = σf) 75 [some (.inr (9, 0)), some (.inl x1), some (.inl x2), some (.inl x3), some (.inl x4), o5, o6, o7, o8] [.inl s0] σ := by
  unfold fb_Rm_all_75 at h
  obtain ⟨h1, h⟩ := kg_some h
  refine s_Rm_all_75 h1 (fun c => ?_) (fun c => ?_)
  · rw [if_pos c] at h
    exact e_Rm_all_85  h
  · rw [if_neg c] at h
    exact e_Rm_all_81  h
def fb_Rm_all_61  (x1 : Int) (x2 : Int) (x3 : Int) (x4 : Int) (σ : kS) : kRes := kbi (f_Rm_seen (σ 9 0 22) σ) fun y σ1 => fb_Rm_all_75  x1 x2 x3 (σ 9 0 22) y σ1
theorem e_Rm_all_61 {l : Launch} {G : kG} {yf : Int} {σf : kS}  {x1 : Int} {x2 : Int} {x3 : Int} {x4 : Int} {o5 : Option kV} {o6 : Option kV} {o7 : Option kV} {o8 : Option kV} {σ : kS} (h : fb_Rm_all_61  x1 x2 x3 x4 σ = some (some yf, σf)) : Rn l G dm_Rm_all m_Rm_all (kI fun y' σ' => y' = yf ∧ σ' = σf) 61 [some (.inr (9, 0)), some (.inl x1), some (.inl x2), some (.inl x3), some (.inl x4), o5, o6, o7, o8] [] σ := by
  unfold fb_Rm_all_61 at h
  obtain ⟨y, σ1, hc, h⟩ := kbi_some h
  refine s_Rm_all_61  (by decide) (E_Rm_seen hc) (fun y2 σ2 e2 => ?_)
  obtain ⟨rfl, rfl⟩ := e2
  exact e_Rm_all_75  h
def fb_Rm_all_55 (k29 : Int → Int → Int → Int → kS → kRes) (x1 : Int) (x2 : Int) (x3 : Int) (x4 : Int) (σ : kS) : kRes := k29 x1 x2 x3 (x4 + 1) σ
theorem e_Rm_all_55 {l : Launch} {G : kG} {yf : Int} {σf : kS} {k29 : Int → Int → Int → Int → kS → kRes} (hk29 : ∀ (x1 : Int) (x2 : Int) (x3 : Int) (x4 : Int) (o5 : Option kV) (o6 : Option kV) (o7 : Option kV) (o8 : Option kV) (σ : kS), k29 x1 x2 x3 x4 σ = some (some yf, σf) → Rn l G dm_Rm_all m_Rm_all (kI fun y' σ' => y' = yf ∧ σ' = σf) 29 [some (.inr (9, 0)), some (.inl x1), some (.inl x2), some (.inl x3), some (.inl x4), o5, o6, o7, o8] [] σ) {x1 : Int} {x2 : Int} {x3 : Int} {x4 : Int} {o5 : Option kV} {o6 : Option kV} {o7 : Option kV} {o8 : Option kV} {σ : kS} (h : fb_Rm_all_55 k29 x1 x2 x3 x4 σ = some (some yf, σf)) : Rn l G dm_Rm_all m_Rm_all (kI fun y' σ' => y' = yf ∧ σ' = σf) 55 [some (.inr (9, 0)), some (.inl x1), some (.inl x2), some (.inl x3), some (.inl x4), o5, o6, o7, o8] [] σ := by
  unfold fb_Rm_all_55 at h
  refine s_Rm_all_55  ?_
  exact hk29 _ _ _ _ _ _ _ _ _ h
def fb_Rm_all_44 (k29 : Int → Int → Int → Int → kS → kRes) (x1 : Int) (x2 : Int) (x3 : Int) (x4 : Int) (σ : kS) : kRes := kg ((0 ≤ x3 ∧ x3 < (10 : Nat))) (fb_Rm_all_55 k29 x1 x2 (x3 + 1) x4 (kup σ 32 0 (Int.toNat x3) x4))
theorem e_Rm_all_44 {l : Launch} {G : kG} {yf : Int} {σf : kS} {k29 : Int → Int → Int → Int → kS → kRes} (hk29 : ∀ (x1 : Int) (x2 : Int) (x3 : Int) (x4 : Int) (o5 : Option kV) (o6 : Option kV) (o7 : Option kV) (o8 : Option kV) (σ : kS), k29 x1 x2 x3 x4 σ = some (some yf, σf) → Rn l G dm_Rm_all m_Rm_all (kI fun y' σ' => y' = yf ∧ σ' = σf) 29 [some (.inr (9, 0)), some (.inl x1), some (.inl x2), some (.inl x3), some (.inl x4), o5, o6, o7, o8] [] σ) {x1 : Int} {x2 : Int} {x3 : Int} {x4 : Int} {o5 : Option kV} {o6 : Option kV} {o7 : Option kV} {o8 : Option kV} {σ : kS} (h : fb_Rm_all_44 k29 x1 x2 x3 x4 σ = some (some yf, σf)) : Rn l G dm_Rm_all m_Rm_all (kI fun y' σ' => y' = yf ∧ σ' = σf) 44 [some (.inr (9, 0)), some (.inl x1), some (.inl x2), some (.inl x3), some (.inl x4), o5, o6, o7, o8] [] σ := by
  unfold fb_Rm_all_44 at h
  obtain ⟨h1, h⟩ := kg_some h
  refine s_Rm_all_44 h1 ?_
  exact e_Rm_all_55 hk29 h
def fb_Rm_all_41 (k29 : Int → Int → Int → Int → kS → kRes) (x1 : Int) (x2 : Int) (x3 : Int) (x4 : Int) (s0 : Int) (σ : kS) : kRes := kg ((-2147483648 ≤ s0 ∧ s0 < 2147483648)) (if s0 = 0 then fb_Rm_all_55 k29 x1 x2 x3 x4 σ else fb_Rm_all_44 k29 x1 x2 x3 x4 σ)
theorem e_Rm_all_41 {l : Launch} {G : kG} {yf : Int} {σf : kS} {k29 : Int → Int → Int → Int → kS → kRes} (hk29 : ∀ (x1 : Int) (x2 : Int) (x3 : Int) (x4 : Int) (o5 : Option kV) (o6 : Option kV) (o7 : Option kV) (o8 : Option kV) (σ : kS), k29 x1 x2 x3 x4 σ = some (some yf, σf) → Rn l G dm_Rm_all m_Rm_all (kI fun y' σ' => y' = yf ∧ σ' = σf) 29 [some (.inr (9, 0)), some (.inl x1), some (.inl x2), some (.inl x3), some (.inl x4), o5, o6, o7, o8] [] σ) {x1 : Int} {x2 : Int} {x3 : Int} {x4 : Int} {s0 : Int} {o5 : Option kV} {o6 : Option kV} {o7 : Option kV} {o8 : Option kV} {σ : kS} (h : fb_Rm_all_41 k29 x1 x2 x3 x4 s0 σ = some (some yf, σf)) : Rn l G dm_Rm_all m_Rm_all (kI fun y' σ' => y' = yf ∧ σ' = σf) 41 [some (.inr (9, 0)), some (.inl x1), some (.inl x2), some (.inl x3), some (.inl x4), o5, o6, o7, o8] [.inl s0] σ := by
  unfold fb_Rm_all_41 at h
  obtain ⟨h1, h⟩ := kg_some h
  refine s_Rm_all_41 h1 (fun c => ?_) (fun c => ?_)
  · rw [if_pos c] at h
    exact e_Rm_all_55 hk29 h
  · rw [if_neg c] at h
    exact e_Rm_all_44 hk29 h
def fb_Rm_all_35 (k29 : Int → Int → Int → Int → kS → kRes) (x1 : Int) (x2 : Int) (x3 : Int) (x4 : Int) (σ : kS) : kRes := kbi (f_Rm_somewhere x4 σ) fun y σ1 => fb_Rm_all_41 k29 x1 x2 x3 x4 y σ1
theorem e_Rm_all_35 {l : Launch} {G : kG} {yf : Int} {σf : kS} {k29 : Int → Int → Int → Int → kS → kRes} (hk29 : ∀ (x1 : Int) (x2 : Int) (x3 : Int) (x4 : Int) (o5 : Option kV) (o6 : Option kV) (o7 : Option kV) (o8 : Option kV) (σ : kS), k29 x1 x2 x3 x4 σ = some (some yf, σf) → Rn l G dm_Rm_all m_Rm_all (kI fun y' σ' => y' = yf ∧ σ' = σf) 29 [some (.inr (9, 0)), some (.inl x1), some (.inl x2), some (.inl x3), some (.inl x4), o5, o6, o7, o8] [] σ) {x1 : Int} {x2 : Int} {x3 : Int} {x4 : Int} {o5 : Option kV} {o6 : Option kV} {o7 : Option kV} {o8 : Option kV} {σ : kS} (h : fb_Rm_all_35 k29 x1 x2 x3 x4 σ = some (some yf, σf)) : Rn l G dm_Rm_all m_Rm_all (kI fun y' σ' => y' = yf ∧ σ' = σf) 35 [some (.inr (9, 0)), some (.inl x1), some (.inl x2), some (.inl x3), some (.inl x4), o5, o6, o7, o8] [] σ := by
  unfold fb_Rm_all_35 at h
  obtain ⟨y, σ1, hc, h⟩ := kbi_some h
  refine s_Rm_all_35  (by decide) (E_Rm_somewhere hc) (fun y2 σ2 e2 => ?_)
  obtain ⟨rfl, rfl⟩ := e2
  exact e_Rm_all_41 hk29 h
def fb_Rm_all_29 (k29 : Int → Int → Int → Int → kS → kRes) (x1 : Int) (x2 : Int) (x3 : Int) (x4 : Int) (σ : kS) : kRes := kg ((-2147483648 ≤ x4 ∧ x4 < 2147483648) ∧ (-2147483648 ≤ x2 ∧ x2 < 2147483648)) (if x2 < x4 then fb_Rm_all_61  x1 x2 x3 x4 σ else fb_Rm_all_35 k29 x1 x2 x3 x4 σ)
theorem e_Rm_all_29 {l : Launch} {G : kG} {yf : Int} {σf : kS} {k29 : Int → Int → Int → Int → kS → kRes} (hk29 : ∀ (x1 : Int) (x2 : Int) (x3 : Int) (x4 : Int) (o5 : Option kV) (o6 : Option kV) (o7 : Option kV) (o8 : Option kV) (σ : kS), k29 x1 x2 x3 x4 σ = some (some yf, σf) → Rn l G dm_Rm_all m_Rm_all (kI fun y' σ' => y' = yf ∧ σ' = σf) 29 [some (.inr (9, 0)), some (.inl x1), some (.inl x2), some (.inl x3), some (.inl x4), o5, o6, o7, o8] [] σ) {x1 : Int} {x2 : Int} {x3 : Int} {x4 : Int} {o5 : Option kV} {o6 : Option kV} {o7 : Option kV} {o8 : Option kV} {σ : kS} (h : fb_Rm_all_29 k29 x1 x2 x3 x4 σ = some (some yf, σf)) : Rn l G dm_Rm_all m_Rm_all (kI fun y' σ' => y' = yf ∧ σ' = σf) 29 [some (.inr (9, 0)), some (.inl x1), some (.inl x2), some (.inl x3), some (.inl x4), o5, o6, o7, o8] [] σ := by
  unfold fb_Rm_all_29 at h
  obtain ⟨⟨h1, h2⟩, h⟩ := kg_some h
  refine s_Rm_all_29 h1 h2 (fun c => ?_) (fun c => ?_)
  · rw [if_pos c] at h
    exact e_Rm_all_61  h
  · rw [if_neg c] at h
    exact e_Rm_all_35 hk29 h
def fl_Rm_all_29  : Nat → Int → Int → Int → Int → kS → kRes
  | 0, _, _, _, _, _ => none
  | n + 1, x1, x2, x3, x4, σ => fb_Rm_all_29 (fl_Rm_all_29  n) x1 x2 x3 x4 σ
theorem el_Rm_all_29 {l : Launch} {G : kG} {yf : Int} {σf : kS}  : ∀ (n : Nat) (x1 : Int) (x2 : Int) (x3 : Int) (x4 : Int) (o5 : Option kV) (o6 : Option kV) (o7 : Option kV) (o8 : Option kV) (σ : kS), fl_Rm_all_29  n x1 x2 x3 x4 σ = some (some yf, σf) → Rn l G dm_Rm_all m_Rm_all (kI fun y' σ' => y' = yf ∧ σ' = σf) 29 [some (.inr (9, 0)), some (.inl x1), some (.inl x2), some (.inl x3), some (.inl x4), o5, o6, o7, o8] [] σ := by
  intro n
  induction n with
  | zero => intro x1 x2 x3 x4 o5 o6 o7 o8 σ h; simp only [fl_Rm_all_29] at h; cases h
  | succ n ih => intro x1 x2 x3 x4 o5 o6 o7 o8 σ h; simp only [fl_Rm_all_29] at h; exact e_Rm_all_29 ih h
def fb_Rm_all_24  (x1 : Int) (x2 : Int) (σ : kS) : kRes := fl_Rm_all_29  3000 x1 x2 0 x1 σ
theorem e_Rm_all_24 {l : Launch} {G : kG} {yf : Int} {σf : kS}  {x1 : Int} {x2 : Int} {o3 : Option kV} {o4 : Option kV} {o5 : Option kV} {o6 : Option kV} {o7 : Option kV} {o8 : Option kV} {σ : kS} (h : fb_Rm_all_24  x1 x2 σ = some (some yf, σf)) : Rn l G dm_Rm_all m_Rm_all (kI fun y' σ' => y' = yf ∧ σ' = σf) 24 [some (.inr (9, 0)), some (.inl x1), some (.inl x2), o3, o4, o5, o6, o7, o8] [] σ := by
  unfold fb_Rm_all_24 at h
  refine s_Rm_all_24  ?_
  exact el_Rm_all_29  _ _ _ _ _ _ _ _ _ _ h
def fb_Rm_all_22  (x1 : Int) (x2 : Int) (σ : kS) : kRes := some (some 0, σ)
theorem e_Rm_all_22 {l : Launch} {G : kG} {yf : Int} {σf : kS}  {x1 : Int} {x2 : Int} {o3 : Option kV} {o4 : Option kV} {o5 : Option kV} {o6 : Option kV} {o7 : Option kV} {o8 : Option kV} {σ : kS} (h : fb_Rm_all_22  x1 x2 σ = some (some yf, σf)) : Rn l G dm_Rm_all m_Rm_all (kI fun y' σ' => y' = yf ∧ σ' = σf) 22 [some (.inr (9, 0)), some (.inl x1), some (.inl x2), o3, o4, o5, o6, o7, o8] [] σ := by
  unfold fb_Rm_all_22 at h
  simp only [Option.some.injEq, Prod.mk.injEq, true_and] at h
  exact s_Rm_all_22  ⟨_, rfl, h⟩
def fb_Rm_all_15  (x1 : Int) (x2 : Int) (σ : kS) : kRes := kg ((-2147483648 ≤ σ 9 0 23 ∧ σ 9 0 23 < 2147483648)) (if (σ 9 0 23) = 0 then fb_Rm_all_24  x1 x2 σ else fb_Rm_all_22  x1 x2 σ)
theorem e_Rm_all_15 {l : Launch} {G : kG} {yf : Int} {σf : kS}  {x1 : Int} {x2 : Int} {o3 : Option kV} {o4 : Option kV} {o5 : Option kV} {o6 : Option kV} {o7 : Option kV} {o8 : Option kV} {σ : kS} (h : fb_Rm_all_15  x1 x2 σ = some (some yf, σf)) : Rn l G dm_Rm_all m_Rm_all (kI fun y' σ' => y' = yf ∧ σ' = σf) 15 [some (.inr (9, 0)), some (.inl x1), some (.inl x2), o3, o4, o5, o6, o7, o8] [] σ := by
  unfold fb_Rm_all_15 at h
  obtain ⟨h1, h⟩ := kg_some h
  refine s_Rm_all_15 h1 (fun c => ?_) (fun c => ?_)
  · rw [if_pos c] at h
    exact e_Rm_all_24  h
  · rw [if_neg c] at h
    exact e_Rm_all_22  h
def fb_Rm_all_11  (x1 : Int) (x2 : Int) (σ : kS) : kRes := kbu (f_Rm_delimited  σ) fun σ1 => fb_Rm_all_15  x1 x2 σ1
theorem e_Rm_all_11 {l : Launch} {G : kG} {yf : Int} {σf : kS}  {x1 : Int} {x2 : Int} {o3 : Option kV} {o4 : Option kV} {o5 : Option kV} {o6 : Option kV} {o7 : Option kV} {o8 : Option kV} {σ : kS} (h : fb_Rm_all_11  x1 x2 σ = some (some yf, σf)) : Rn l G dm_Rm_all m_Rm_all (kI fun y' σ' => y' = yf ∧ σ' = σf) 11 [some (.inr (9, 0)), some (.inl x1), some (.inl x2), o3, o4, o5, o6, o7, o8] [] σ := by
  unfold fb_Rm_all_11 at h
  obtain ⟨σ1, hc, h⟩ := kbu_some h
  refine s_Rm_all_11  (by decide) (E_Rm_delimited hc) (fun σ2 e2 => ?_)
  subst e2
  exact e_Rm_all_15  h
def fb_Rm_all_9  (x1 : Int) (x2 : Int) (σ : kS) : kRes := some (some 0, σ)
theorem e_Rm_all_9 {l : Launch} {G : kG} {yf : Int} {σf : kS}  {x1 : Int} {x2 : Int} {o3 : Option kV} {o4 : Option kV} {o5 : Option kV} {o6 : Option kV} {o7 : Option kV} {o8 : Option kV} {σ : kS} (h : fb_Rm_all_9  x1 x2 σ = some (some yf, σf)) : Rn l G dm_Rm_all m_Rm_all (kI fun y' σ' => y' = yf ∧ σ' = σf) 9 [some (.inr (9, 0)), some (.inl x1), some (.inl x2), o3, o4, o5, o6, o7, o8] [] σ := by
  unfold fb_Rm_all_9 at h
  simp only [Option.some.injEq, Prod.mk.injEq, true_and] at h
  exact s_Rm_all_9  ⟨_, rfl, h⟩
def fb_Rm_all_6  (x1 : Int) (x2 : Int) (s0 : Int) (σ : kS) : kRes := kg ((-2147483648 ≤ s0 ∧ s0 < 2147483648)) (if s0 = 0 then fb_Rm_all_9  x1 x2 σ else fb_Rm_all_11  x1 x2 σ)
theorem e_Rm_all_6 {l : Launch} {G : kG} {yf : Int} {σf : kS}  {x1 : Int} {x2 : Int} {s0 : Int} {o3 : Option kV} {o4 : Option kV} {o5 : Option kV} {o6 : Option kV} {o7 : Option kV} {o8 : Option kV} {σ : kS} (h : fb_Rm_all_6  x1 x2 s0 σ = some (some yf, σf)) : Rn l G dm_Rm_all m_Rm_all (kI fun y' σ' => y' = yf ∧ σ' = σf) 6 [some (.inr (9, 0)), some (.inl x1), some (.inl x2), o3, o4, o5, o6, o7, o8] [.inl s0] σ := by
  unfold fb_Rm_all_6 at h
  obtain ⟨h1, h⟩ := kg_some h
  refine s_Rm_all_6 h1 (fun c => ?_) (fun c => ?_)
  · rw [if_neg c] at h
    exact e_Rm_all_11  h
  · rw [if_pos c] at h
    exact e_Rm_all_9  h
def fb_Rm_all_0  (x1 : Int) (x2 : Int) (σ : kS) : kRes := kbi (f_Rm_take 47 σ) fun y σ1 => fb_Rm_all_6  x1 x2 y σ1
theorem e_Rm_all_0 {l : Launch} {G : kG} {yf : Int} {σf : kS}  {x1 : Int} {x2 : Int} {o3 : Option kV} {o4 : Option kV} {o5 : Option kV} {o6 : Option kV} {o7 : Option kV} {o8 : Option kV} {σ : kS} (h : fb_Rm_all_0  x1 x2 σ = some (some yf, σf)) : Rn l G dm_Rm_all m_Rm_all (kI fun y' σ' => y' = yf ∧ σ' = σf) 0 [some (.inr (9, 0)), some (.inl x1), some (.inl x2), o3, o4, o5, o6, o7, o8] [] σ := by
  unfold fb_Rm_all_0 at h
  obtain ⟨y, σ1, hc, h⟩ := kbi_some h
  refine s_Rm_all_0  (by decide) (E_Rm_take hc) (fun y2 σ2 e2 => ?_)
  obtain ⟨rfl, rfl⟩ := e2
  exact e_Rm_all_6  h
def f_Rm_all (x1 : Int) (x2 : Int) (σ : kS) : kRes := fb_Rm_all_0 x1 x2 σ
theorem E_Rm_all {l : Launch} {G : kG} {yf : Int} {σf : kS} {x1 : Int} {x2 : Int} {σ : kS} (h : f_Rm_all x1 x2 σ = some (some yf, σf)) : Call l G dm_Rm_all y_Rm_all m_Rm_all [.inr (9, 0), .inl x1, .inl x2] σ (kI fun y' σ' => y' = yf ∧ σ' = σf) := by
  unfold f_Rm_all at h
  exact Call.of (by decide +kernel) rfl (Nat.le_of_ble_eq_true rfl) (e_Rm_all_0 h)
/-! Rm_beginInsert -/
def fb_Rm_beginInsert_11  (x1 : Int) (x2 : Int) (σ : kS) : kRes := some (none, kup σ 9 0 18 x2)
theorem e_Rm_beginInsert_11 {l : Launch} {G : kG} {σf : kS}  {x1 : Int} {x2 : Int}  {σ : kS} (h : fb_Rm_beginInsert_11  x1 x2 σ = some (none, σf)) : Rn l G dm_Rm_beginInsert m_Rm_beginInsert (kU fun σ' => σ' = σf) 11 [some (.inr (9, 0)), some (.inl x1), some (.inl x2)] [] σ := by
  unfold fb_Rm_beginInsert_11 at h
  simp only [Option.some.injEq, Prod.mk.injEq, true_and] at h
  exact s_Rm_beginInsert_11  ⟨rfl, h⟩
def fb_Rm_beginInsert_0  (x1 : Int) (x2 : Int) (σ : kS) : kRes := kbu (f_Rm_place x1 x2 (kup σ 9 0 5 1)) fun σ1 => fb_Rm_beginInsert_11  x1 x2 σ1
theorem e_Rm_beginInsert_0 {l : Launch} {G : kG} {σf : kS}  {x1 : Int} {x2 : Int}  {σ : kS} (h : fb_Rm_beginInsert_0  x1 x2 σ = some (none, σf)) : Rn l G dm_Rm_beginInsert m_Rm_beginInsert (kU fun σ' => σ' = σf) 0 [some (.inr (9, 0)), some (.inl x1), some (.inl x2)] [] σ := by
  unfold fb_Rm_beginInsert_0 at h
  obtain ⟨σ1, hc, h⟩ := kbu_some h
  refine s_Rm_beginInsert_0  (by decide) (E_Rm_place hc) (fun σ2 e2 => ?_)
  subst e2
  exact e_Rm_beginInsert_11  h
def f_Rm_beginInsert (x1 : Int) (x2 : Int) (σ : kS) : kRes := fb_Rm_beginInsert_0 x1 x2 σ
theorem E_Rm_beginInsert {l : Launch} {G : kG} {σf : kS} {x1 : Int} {x2 : Int} {σ : kS} (h : f_Rm_beginInsert x1 x2 σ = some (none, σf)) : Call l G dm_Rm_beginInsert y_Rm_beginInsert m_Rm_beginInsert [.inr (9, 0), .inl x1, .inl x2] σ (kU fun σ' => σ' = σf) := by
  unfold f_Rm_beginInsert at h
  exact Call.of (by decide +kernel) rfl (Nat.le_of_ble_eq_true rfl) (e_Rm_beginInsert_0 h)
/-! Rm_blank -/
def fb_Rm_blank_22  (x1 : Int) (σ : kS) : kRes := some (none, σ)
theorem e_Rm_blank_22 {l : Launch} {G : kG} {σf : kS}  {x1 : Int}  {σ : kS} (h : fb_Rm_blank_22  x1 σ = some (none, σf)) : Rn l G dm_Rm_blank m_Rm_blank (kU fun σ' => σ' = σf) 22 [some (.inr (9, 0)), some (.inl x1)] [] σ := by
  unfold fb_Rm_blank_22 at h
  simp only [Option.some.injEq, Prod.mk.injEq, true_and] at h
  exact s_Rm_blank_22  ⟨rfl, h⟩
def fb_Rm_blank_8 (k2 : Int → kS → kRes) (x1 : Int) (σ : kS) : kRes := kg ((0 ≤ x1 ∧ x1 < (100 : Nat))) (k2 (x1 + 1) (kup σ 36 0 (Int.toNat x1) 32))
theorem e_Rm_blank_8 {l : Launch} {G : kG} {σf : kS} {k2 : Int → kS → kRes} (hk2 : ∀ (x1 : Int)  (σ : kS), k2 x1 σ = some (none, σf) → Rn l G dm_Rm_blank m_Rm_blank (kU fun σ' => σ' = σf) 2 [some (.inr (9, 0)), some (.inl x1)] [] σ) {x1 : Int}  {σ : kS} (h : fb_Rm_blank_8 k2 x1 σ = some (none, σf)) : Rn l G dm_Rm_blank m_Rm_blank (kU fun σ' => σ' = σf) 8 [some (.inr (9, 0)), some (.inl x1)] [] σ := by
  unfold fb_Rm_blank_8 at h
  obtain ⟨h1, h⟩ := kg_some h
  refine s_Rm_blank_8 h1 ?_
  exact hk2 _ _ h
def fb_Rm_blank_2 (k2 : Int → kS → kRes) (x1 : Int) (σ : kS) : kRes := kg ((-2147483648 ≤ x1 ∧ x1 < 2147483648)) (if 100 ≤ x1 then fb_Rm_blank_22  x1 σ else fb_Rm_blank_8 k2 x1 σ)
theorem e_Rm_blank_2 {l : Launch} {G : kG} {σf : kS} {k2 : Int → kS → kRes} (hk2 : ∀ (x1 : Int)  (σ : kS), k2 x1 σ = some (none, σf) → Rn l G dm_Rm_blank m_Rm_blank (kU fun σ' => σ' = σf) 2 [some (.inr (9, 0)), some (.inl x1)] [] σ) {x1 : Int}  {σ : kS} (h : fb_Rm_blank_2 k2 x1 σ = some (none, σf)) : Rn l G dm_Rm_blank m_Rm_blank (kU fun σ' => σ' = σf) 2 [some (.inr (9, 0)), some (.inl x1)] [] σ := by
  unfold fb_Rm_blank_2 at h
  obtain ⟨h1, h⟩ := kg_some h
  refine s_Rm_blank_2 h1 (fun c => ?_) (fun c => ?_)
  · rw [if_pos c] at h
    exact e_Rm_blank_22  h
  · rw [if_neg c] at h
    exact e_Rm_blank_8 hk2 h
def fl_Rm_blank_2  : Nat → Int → kS → kRes
  | 0, _, _ => none
  | n + 1, x1, σ => fb_Rm_blank_2 (fl_Rm_blank_2  n) x1 σ
theorem el_Rm_blank_2 {l : Launch} {G : kG} {σf : kS}  : ∀ (n : Nat) (x1 : Int)  (σ : kS), fl_Rm_blank_2  n x1 σ = some (none, σf) → Rn l G dm_Rm_blank m_Rm_blank (kU fun σ' => σ' = σf) 2 [some (.inr (9, 0)), some (.inl x1)] [] σ := by
  intro n
  induction n with
  | zero => intro x1 σ h; simp only [fl_Rm_blank_2] at h; cases h
  | succ n ih => intro x1 σ h; simp only [fl_Rm_blank_2] at h; exact e_Rm_blank_2 ih h
def fb_Rm_blank_0   (σ : kS) : kRes := fl_Rm_blank_2  3000 0 σ
theorem e_Rm_blank_0 {l : Launch} {G : kG} {σf : kS}   {o1 : Option kV} {σ : kS} (h : fb_Rm_blank_0   σ = some (none, σf)) : Rn l G dm_Rm_blank m_Rm_blank (kU fun σ' => σ' = σf) 0 [some (.inr (9, 0)), o1] [] σ := by
  unfold fb_Rm_blank_0 at h
  refine s_Rm_blank_0  ?_
  exact el_Rm_blank_2  _ _ _ h
def f_Rm_blank  (σ : kS) : kRes := fb_Rm_blank_0  σ
theorem E_Rm_blank {l : Launch} {G : kG} {σf : kS}  {σ : kS} (h : f_Rm_blank  σ = some (none, σf)) : Call l G dm_Rm_blank y_Rm_blank m_Rm_blank [.inr (9, 0)] σ (kU fun σ' => σ' = σf) := by
  unfold f_Rm_blank at h
  exact Call.of (by decide +kernel) rfl (Nat.le_of_ble_eq_true rfl) (e_Rm_blank_0 h)
/-! Rm_blanks -/
def fb_Rm_blanks_29  (x1 : Int) (x2 : Int) (σ : kS) : kRes := some (some x2, σ)
theorem e_Rm_blanks_29 {l : Launch} {G : kG} {yf : Int} {σf : kS}  {x1 : Int} {x2 : Int}  {σ : kS} (h : fb_Rm_blanks_29  x1 x2 σ = some (some yf, σf)) : Rn l G dm_Rm_blanks m_Rm_blanks (kI fun y' σ' => y' = yf ∧ σ' = σf) 29 [some (.inr (9, 0)), some (.inl x1), some (.inl x2)] [] σ := by
  unfold fb_Rm_blanks_29 at h
  simp only [Option.some.injEq, Prod.mk.injEq, true_and] at h
  exact s_Rm_blanks_29  ⟨_, rfl, h⟩
def fb_Rm_blanks_23 (k2 : Int → Int → kS → kRes) (x1 : Int) (x2 : Int) (σ : kS) : kRes := k2 x1 (x2 + 1) σ
theorem e_Rm_blanks_23 {l : Launch} {G : kG} {yf : Int} {σf : kS} {k2 : Int → Int → kS → kRes} (hk2 : ∀ (x1 : Int) (x2 : Int)  (σ : kS), k2 x1 x2 σ = some (some yf, σf) → Rn l G dm_Rm_blanks m_Rm_blanks (kI fun y' σ' => y' = yf ∧ σ' = σf) 2 [some (.inr (9, 0)), some (.inl x1), some (.inl x2)] [] σ) {x1 : Int} {x2 : Int}  {σ : kS} (h : fb_Rm_blanks_23 k2 x1 x2 σ = some (some yf, σf)) : Rn l G dm_Rm_blanks m_Rm_blanks (kI fun y' σ' => y' = yf ∧ σ' = σf) 23 [some (.inr (9, 0)), some (.inl x1), some (.inl x2)] [] σ := by
  unfold fb_Rm_blanks_23 at h
  refine s_Rm_blanks_23  ?_
  exact hk2 _ _ _ h
def fb_Rm_blanks_18 (k2 : Int → Int → kS → kRes) (x1 : Int) (x2 : Int) (s0 : Int) (σ : kS) : kRes := kg ((-2147483648 ≤ s0 ∧ s0 < 2147483648)) (if s0 = 32 then fb_Rm_blanks_23 k2 x1 x2 σ else fb_Rm_blanks_29  x1 x2 σ)
theorem e_Rm_blanks_18 {l : Launch} {G : kG} {yf : Int} {σf : kS} {k2 : Int → Int → kS → kRes} (hk2 : ∀ (x1 : Int) (x2 : Int)  (σ : kS), k2 x1 x2 σ = some (some yf, σf) → Rn l G dm_Rm_blanks m_Rm_blanks (kI fun y' σ' => y' = yf ∧ σ' = σf) 2 [some (.inr (9, 0)), some (.inl x1), some (.inl x2)] [] σ) {x1 : Int} {x2 : Int} {s0 : Int}  {σ : kS} (h : fb_Rm_blanks_18 k2 x1 x2 s0 σ = some (some yf, σf)) : Rn l G dm_Rm_blanks m_Rm_blanks (kI fun y' σ' => y' = yf ∧ σ' = σf) 18 [some (.inr (9, 0)), some (.inl x1), some (.inl x2)] [.inl s0] σ := by
  unfold fb_Rm_blanks_18 at h
  obtain ⟨h1, h⟩ := kg_some h
  refine s_Rm_blanks_18 h1 (fun c => ?_) (fun c => ?_)
  · rw [if_neg c] at h
    exact e_Rm_blanks_29  h
  · rw [if_pos c] at h
    exact e_Rm_blanks_23 hk2 h
def fb_Rm_blanks_12 (k2 : Int → Int → kS → kRes) (x1 : Int) (x2 : Int) (σ : kS) : kRes := kbi (f_Rm_at x1 x2 σ) fun y σ1 => fb_Rm_blanks_18 k2 x1 x2 y σ1
theorem e_Rm_blanks_12 {l : Launch} {G : kG} {yf : Int} {σf : kS} {k2 : Int → Int → kS → kRes} (hk2 : ∀ (x1 : Int) (x2 : Int)  (σ : kS), k2 x1 x2 σ = some (some yf, σf) → Rn l G dm_Rm_blanks m_Rm_blanks (kI fun y' σ' => y' = yf ∧ σ' = σf) 2 [some (.inr (9, 0)), some (.inl x1), some (.inl x2)] [] σ) {x1 : Int} {x2 : Int}  {σ : kS} (h : fb_Rm_blanks_12 k2 x1 x2 σ = some (some yf, σf)) : Rn l G dm_Rm_blanks m_Rm_blanks (kI fun y' σ' => y' = yf ∧ σ' = σf) 12 [some (.inr (9, 0)), some (.inl x1), some (.inl x2)] [] σ := by
  unfold fb_Rm_blanks_12 at h
  obtain ⟨y, σ1, hc, h⟩ := kbi_some h
  refine s_Rm_blanks_12  (by decide) (E_Rm_at hc) (fun y2 σ2 e2 => ?_)
  obtain ⟨rfl, rfl⟩ := e2
  exact e_Rm_blanks_18 hk2 h
def fb_Rm_blanks_2 (k2 : Int → Int → kS → kRes) (x1 : Int) (x2 : Int) (σ : kS) : kRes := kg ((0 ≤ x1 ∧ x1 < (100 : Nat)) ∧ (-2147483648 ≤ x2 ∧ x2 < 2147483648) ∧ (-2147483648 ≤ σ 21 0 (Int.toNat x1) ∧ σ 21 0 (Int.toNat x1) < 2147483648)) (if (σ 21 0 (Int.toNat x1)) ≤ x2 then fb_Rm_blanks_29  x1 x2 σ else fb_Rm_blanks_12 k2 x1 x2 σ)
theorem e_Rm_blanks_2 {l : Launch} {G : kG} {yf : Int} {σf : kS} {k2 : Int → Int → kS → kRes} (hk2 : ∀ (x1 : Int) (x2 : Int)  (σ : kS), k2 x1 x2 σ = some (some yf, σf) → Rn l G dm_Rm_blanks m_Rm_blanks (kI fun y' σ' => y' = yf ∧ σ' = σf) 2 [some (.inr (9, 0)), some (.inl x1), some (.inl x2)] [] σ) {x1 : Int} {x2 : Int}  {σ : kS} (h : fb_Rm_blanks_2 k2 x1 x2 σ = some (some yf, σf)) : Rn l G dm_Rm_blanks m_Rm_blanks (kI fun y' σ' => y' = yf ∧ σ' = σf) 2 [some (.inr (9, 0)), some (.inl x1), some (.inl x2)] [] σ := by
  unfold fb_Rm_blanks_2 at h
  obtain ⟨⟨h1, h2, h3⟩, h⟩ := kg_some h
  refine s_Rm_blanks_2 h1 h2 h3 (fun c => ?_) (fun c => ?_)
  · rw [if_pos c] at h
    exact e_Rm_blanks_29  h
  · rw [if_neg c] at h
    exact e_Rm_blanks_12 hk2 h
def fl_Rm_blanks_2  : Nat → Int → Int → kS → kRes
  | 0, _, _, _ => none
  | n + 1, x1, x2, σ => fb_Rm_blanks_2 (fl_Rm_blanks_2  n) x1 x2 σ
theorem el_Rm_blanks_2 {l : Launch} {G : kG} {yf : Int} {σf : kS}  : ∀ (n : Nat) (x1 : Int) (x2 : Int)  (σ : kS), fl_Rm_blanks_2  n x1 x2 σ = some (some yf, σf) → Rn l G dm_Rm_blanks m_Rm_blanks (kI fun y' σ' => y' = yf ∧ σ' = σf) 2 [some (.inr (9, 0)), some (.inl x1), some (.inl x2)] [] σ := by
  intro n
  induction n with
  | zero => intro x1 x2 σ h; simp only [fl_Rm_blanks_2] at h; cases h
  | succ n ih => intro x1 x2 σ h; simp only [fl_Rm_blanks_2] at h; exact e_Rm_blanks_2 ih h
def fb_Rm_blanks_0  (x1 : Int) (σ : kS) : kRes := fl_Rm_blanks_2  3000 x1 0 σ
theorem e_Rm_blanks_0 {l : Launch} {G : kG} {yf : Int} {σf : kS}  {x1 : Int} {o2 : Option kV} {σ : kS} (h : fb_Rm_blanks_0  x1 σ = some (some yf, σf)) : Rn l G dm_Rm_blanks m_Rm_blanks (kI fun y' σ' => y' = yf ∧ σ' = σf) 0 [some (.inr (9, 0)), some (.inl x1), o2] [] σ := by
  unfold fb_Rm_blanks_0 at h
  refine s_Rm_blanks_0  ?_
  exact el_Rm_blanks_2  _ _ _ _ h
def f_Rm_blanks (x1 : Int) (σ : kS) : kRes := fb_Rm_blanks_0 x1 σ
theorem E_Rm_blanks {l : Launch} {G : kG} {yf : Int} {σf : kS} {x1 : Int} {σ : kS} (h : f_Rm_blanks x1 σ = some (some yf, σf)) : Call l G dm_Rm_blanks y_Rm_blanks m_Rm_blanks [.inr (9, 0), .inl x1] σ (kI fun y' σ' => y' = yf ∧ σ' = σf) := by
  unfold f_Rm_blanks at h
  exact Call.of (by decide +kernel) rfl (Nat.le_of_ble_eq_true rfl) (e_Rm_blanks_0 h)
/-! Rm_buffer -/
def fb_Rm_buffer_0   (σ : kS) : kRes := some (some (σ 9 0 7), σ)
theorem e_Rm_buffer_0 {l : Launch} {G : kG} {yf : Int} {σf : kS}    {σ : kS} (h : fb_Rm_buffer_0   σ = some (some yf, σf)) : Rn l G dm_Rm_buffer m_Rm_buffer (kI fun y' σ' => y' = yf ∧ σ' = σf) 0 [some (.inr (9, 0))] [] σ := by
  unfold fb_Rm_buffer_0 at h
  simp only [Option.some.injEq, Prod.mk.injEq, true_and] at h
  exact s_Rm_buffer_0  ⟨_, rfl, h⟩
def f_Rm_buffer  (σ : kS) : kRes := fb_Rm_buffer_0  σ
theorem E_Rm_buffer {l : Launch} {G : kG} {yf : Int} {σf : kS}  {σ : kS} (h : f_Rm_buffer  σ = some (some yf, σf)) : Call l G dm_Rm_buffer y_Rm_buffer m_Rm_buffer [.inr (9, 0)] σ (kI fun y' σ' => y' = yf ∧ σ' = σf) := by
  unfold f_Rm_buffer at h
  exact Call.of (by decide +kernel) rfl (Nat.le_of_ble_eq_true rfl) (e_Rm_buffer_0 h)
/-! Rm_job -/
def fb_Rm_job_43  (x1 : Int) (x2 : Int) (x3 : Int) (x4 : Int) (σ : kS) : kRes := kg ((0 ≤ 7 + (σ 9 0 34) ∧ 7 + (σ 9 0 34) < (10 : Nat)) ∧ (0 ≤ (kup σ 22 0 (Int.toNat (7 + (σ 9 0 34))) ((x3 - x2) + 1)) 9 0 34 ∧ (kup σ 22 0 (Int.toNat (7 + (σ 9 0 34))) ((x3 - x2) + 1)) 9 0 34 < (3 : Nat)) ∧ (0 ≤ (kup (kup σ 22 0 (Int.toNat (7 + (σ 9 0 34))) ((x3 - x2) + 1)) 34 0 (Int.toNat ((kup σ 22 0 (Int.toNat (7 + (σ 9 0 34))) ((x3 - x2) + 1)) 9 0 34)) x1) 9 0 34 ∧ (kup (kup σ 22 0 (Int.toNat (7 + (σ 9 0 34))) ((x3 - x2) + 1)) 34 0 (Int.toNat ((kup σ 22 0 (Int.toNat (7 + (σ 9 0 34))) ((x3 - x2) + 1)) 9 0 34)) x1) 9 0 34 < (3 : Nat))) (some (some 1, kup (kup (kup (kup σ 22 0 (Int.toNat (7 + (σ 9 0 34))) ((x3 - x2) + 1)) 34 0 (Int.toNat ((kup σ 22 0 (Int.toNat (7 + (σ 9 0 34))) ((x3 - x2) + 1)) 9 0 34)) x1) 35 0 (Int.toNat ((kup (kup σ 22 0 (Int.toNat (7 + (σ 9 0 34))) ((x3 - x2) + 1)) 34 0 (Int.toNat ((kup σ 22 0 (Int.toNat (7 + (σ 9 0 34))) ((x3 - x2) + 1)) 9 0 34)) x1) 9 0 34)) ((x3 - x2) + 2)) 9 0 34 (((kup (kup (kup σ 22 0 (Int.toNat (7 + (σ 9 0 34))) ((x3 - x2) + 1)) 34 0 (Int.toNat ((kup σ 22 0 (Int.toNat (7 + (σ 9 0 34))) ((x3 - x2) + 1)) 9 0 34)) x1) 35 0 (Int.toNat ((kup (kup σ 22 0 (Int.toNat (7 + (σ 9 0 34))) ((x3 - x2) + 1)) 34 0 (Int.toNat ((kup σ 22 0 (Int.toNat (7 + (σ 9 0 34))) ((x3 - x2) + 1)) 9 0 34)) x1) 9 0 34)) ((x3 - x2) + 2)) 9 0 34) + 1)))
theorem e_Rm_job_43 {l : Launch} {G : kG} {yf : Int} {σf : kS}  {x1 : Int} {x2 : Int} {x3 : Int} {x4 : Int}  {σ : kS} (h : fb_Rm_job_43  x1 x2 x3 x4 σ = some (some yf, σf)) : Rn l G dm_Rm_job m_Rm_job (kI fun y' σ' => y' = yf ∧ σ' = σf) 43 [some (.inr (9, 0)), some (.inl x1), some (.inl x2), some (.inl x3), some (.inl x4)] [] σ := by
  unfold fb_Rm_job_43 at h
  obtain ⟨⟨h1, h2, h3⟩, h⟩ := kg_some h
  simp only [Option.some.injEq, Prod.mk.injEq, true_and] at h
  exact s_Rm_job_43 h1 h2 h3 ⟨_, rfl, h⟩
def fb_Rm_job_37 (k13 : Int → Int → Int → Int → kS → kRes) (x1 : Int) (x2 : Int) (x3 : Int) (x4 : Int) (σ : kS) : kRes := k13 x1 x2 x3 (x4 + 1) σ
theorem e_Rm_job_37 {l : Launch} {G : kG} {yf : Int} {σf : kS} {k13 : Int → Int → Int → Int → kS → kRes} (hk13 : ∀ (x1 : Int) (x2 : Int) (x3 : Int) (x4 : Int)  (σ : kS), k13 x1 x2 x3 x4 σ = some (some yf, σf) → Rn l G dm_Rm_job m_Rm_job (kI fun y' σ' => y' = yf ∧ σ' = σf) 13 [some (.inr (9, 0)), some (.inl x1), some (.inl x2), some (.inl x3), some (.inl x4)] [] σ) {x1 : Int} {x2 : Int} {x3 : Int} {x4 : Int}  {σ : kS} (h : fb_Rm_job_37 k13 x1 x2 x3 x4 σ = some (some yf, σf)) : Rn l G dm_Rm_job m_Rm_job (kI fun y' σ' => y' = yf ∧ σ' = σf) 37 [some (.inr (9, 0)), some (.inl x1), some (.inl x2), some (.inl x3), some (.inl x4)] [] σ := by
  unfold fb_Rm_job_37 at h
  refine s_Rm_job_37  ?_
  exact hk13 _ _ _ _ _ h
def fb_Rm_job_19 (k13 : Int → Int → Int → Int → kS → kRes) (x1 : Int) (x2 : Int) (x3 : Int) (x4 : Int) (σ : kS) : kRes := kbu (f_Rm_copyLine 0 x4 (7 + (σ 9 0 34)) (x4 - x2) σ) fun σ1 => fb_Rm_job_37 k13 x1 x2 x3 x4 σ1
theorem e_Rm_job_19 {l : Launch} {G : kG} {yf : Int} {σf : kS} {k13 : Int → Int → Int → Int → kS → kRes} (hk13 : ∀ (x1 : Int) (x2 : Int) (x3 : Int) (x4 : Int)  (σ : kS), k13 x1 x2 x3 x4 σ = some (some yf, σf) → Rn l G dm_Rm_job m_Rm_job (kI fun y' σ' => y' = yf ∧ σ' = σf) 13 [some (.inr (9, 0)), some (.inl x1), some (.inl x2), some (.inl x3), some (.inl x4)] [] σ) {x1 : Int} {x2 : Int} {x3 : Int} {x4 : Int}  {σ : kS} (h : fb_Rm_job_19 k13 x1 x2 x3 x4 σ = some (some yf, σf)) : Rn l G dm_Rm_job m_Rm_job (kI fun y' σ' => y' = yf ∧ σ' = σf) 19 [some (.inr (9, 0)), some (.inl x1), some (.inl x2), some (.inl x3), some (.inl x4)] [] σ := by
  unfold fb_Rm_job_19 at h
  obtain ⟨σ1, hc, h⟩ := kbu_some h
  refine s_Rm_job_19  (by decide) (E_Rm_copyLine hc) (fun σ2 e2 => ?_)
  subst e2
  exact e_Rm_job_37 hk13 h
def fb_Rm_job_13 (k13 : Int → Int → Int → Int → kS → kRes) (x1 : Int) (x2 : Int) (x3 : Int) (x4 : Int) (σ : kS) : kRes := kg ((-2147483648 ≤ x4 ∧ x4 < 2147483648) ∧ (-2147483648 ≤ x3 ∧ x3 < 2147483648)) (if x3 < x4 then fb_Rm_job_43  x1 x2 x3 x4 σ else fb_Rm_job_19 k13 x1 x2 x3 x4 σ)
theorem e_Rm_job_13 {l : Launch} {G : kG} {yf : Int} {σf : kS} {k13 : Int → Int → Int → Int → kS → kRes} (hk13 : ∀ (x1 : Int) (x2 : Int) (x3 : Int) (x4 : Int)  (σ : kS), k13 x1 x2 x3 x4 σ = some (some yf, σf) → Rn l G dm_Rm_job m_Rm_job (kI fun y' σ' => y' = yf ∧ σ' = σf) 13 [some (.inr (9, 0)), some (.inl x1), some (.inl x2), some (.inl x3), some (.inl x4)] [] σ) {x1 : Int} {x2 : Int} {x3 : Int} {x4 : Int}  {σ : kS} (h : fb_Rm_job_13 k13 x1 x2 x3 x4 σ = some (some yf, σf)) : Rn l G dm_Rm_job m_Rm_job (kI fun y' σ' => y' = yf ∧ σ' = σf) 13 [some (.inr (9, 0)), some (.inl x1), some (.inl x2), some (.inl x3), some (.inl x4)] [] σ := by
  unfold fb_Rm_job_13 at h
  obtain ⟨⟨h1, h2⟩, h⟩ := kg_some h
  refine s_Rm_job_13 h1 h2 (fun c => ?_) (fun c => ?_)
  · rw [if_pos c] at h
    exact e_Rm_job_43  h
  · rw [if_neg c] at h
    exact e_Rm_job_19 hk13 h
def fl_Rm_job_13  : Nat → Int → Int → Int → Int → kS → kRes
  | 0, _, _, _, _, _ => none
  | n + 1, x1, x2, x3, x4, σ => fb_Rm_job_13 (fl_Rm_job_13  n) x1 x2 x3 x4 σ
theorem el_Rm_job_13 {l : Launch} {G : kG} {yf : Int} {σf : kS}  : ∀ (n : Nat) (x1 : Int) (x2 : Int) (x3 : Int) (x4 : Int)  (σ : kS), fl_Rm_job_13  n x1 x2 x3 x4 σ = some (some yf, σf) → Rn l G dm_Rm_job m_Rm_job (kI fun y' σ' => y' = yf ∧ σ' = σf) 13 [some (.inr (9, 0)), some (.inl x1), some (.inl x2), some (.inl x3), some (.inl x4)] [] σ := by
  intro n
  induction n with
  | zero => intro x1 x2 x3 x4 σ h; simp only [fl_Rm_job_13] at h; cases h
  | succ n ih => intro x1 x2 x3 x4 σ h; simp only [fl_Rm_job_13] at h; exact e_Rm_job_13 ih h
def fb_Rm_job_10  (x1 : Int) (x2 : Int) (x3 : Int) (σ : kS) : kRes := fl_Rm_job_13  3000 x1 x2 x3 x2 σ
theorem e_Rm_job_10 {l : Launch} {G : kG} {yf : Int} {σf : kS}  {x1 : Int} {x2 : Int} {x3 : Int} {o4 : Option kV} {σ : kS} (h : fb_Rm_job_10  x1 x2 x3 σ = some (some yf, σf)) : Rn l G dm_Rm_job m_Rm_job (kI fun y' σ' => y' = yf ∧ σ' = σf) 10 [some (.inr (9, 0)), some (.inl x1), some (.inl x2), some (.inl x3), o4] [] σ := by
  unfold fb_Rm_job_10 at h
  refine s_Rm_job_10  ?_
  exact el_Rm_job_13  _ _ _ _ _ _ h
def fb_Rm_job_8  (x1 : Int) (x2 : Int) (x3 : Int) (σ : kS) : kRes := some (some 0, σ)
theorem e_Rm_job_8 {l : Launch} {G : kG} {yf : Int} {σf : kS}  {x1 : Int} {x2 : Int} {x3 : Int} {o4 : Option kV} {σ : kS} (h : fb_Rm_job_8  x1 x2 x3 σ = some (some yf, σf)) : Rn l G dm_Rm_job m_Rm_job (kI fun y' σ' => y' = yf ∧ σ' = σf) 8 [some (.inr (9, 0)), some (.inl x1), some (.inl x2), some (.inl x3), o4] [] σ := by
  unfold fb_Rm_job_8 at h
  simp only [Option.some.injEq, Prod.mk.injEq, true_and] at h
  exact s_Rm_job_8  ⟨_, rfl, h⟩
def fb_Rm_job_0  (x1 : Int) (x2 : Int) (x3 : Int) (σ : kS) : kRes := kg ((-2147483648 ≤ σ 9 0 34 ∧ σ 9 0 34 < 2147483648)) (if (σ 9 0 34) = 3 then fb_Rm_job_8  x1 x2 x3 σ else fb_Rm_job_10  x1 x2 x3 σ)
theorem e_Rm_job_0 {l : Launch} {G : kG} {yf : Int} {σf : kS}  {x1 : Int} {x2 : Int} {x3 : Int} {o4 : Option kV} {σ : kS} (h : fb_Rm_job_0  x1 x2 x3 σ = some (some yf, σf)) : Rn l G dm_Rm_job m_Rm_job (kI fun y' σ' => y' = yf ∧ σ' = σf) 0 [some (.inr (9, 0)), some (.inl x1), some (.inl x2), some (.inl x3), o4] [] σ := by
  unfold fb_Rm_job_0 at h
  obtain ⟨h1, h⟩ := kg_some h
  refine s_Rm_job_0 h1 (fun c => ?_) (fun c => ?_)
  · rw [if_neg c] at h
    exact e_Rm_job_10  h
  · rw [if_pos c] at h
    exact e_Rm_job_8  h
def f_Rm_job (x1 : Int) (x2 : Int) (x3 : Int) (σ : kS) : kRes := fb_Rm_job_0 x1 x2 x3 σ
theorem E_Rm_job {l : Launch} {G : kG} {yf : Int} {σf : kS} {x1 : Int} {x2 : Int} {x3 : Int} {σ : kS} (h : f_Rm_job x1 x2 x3 σ = some (some yf, σf)) : Call l G dm_Rm_job y_Rm_job m_Rm_job [.inr (9, 0), .inl x1, .inl x2, .inl x3] σ (kI fun y' σ' => y' = yf ∧ σ' = σf) := by
  unfold f_Rm_job at h
  exact Call.of (by decide +kernel) rfl (Nat.le_of_ble_eq_true rfl) (e_Rm_job_0 h)
/-! Rm_carryOut -/
def fb_Rm_carryOut_155  (x1 : Int) (x2 : Int) (x3 : Int) (s0 : Int) (σ : kS) : kRes := some (some s0, σ)
theorem e_Rm_carryOut_155 {l : Launch} {G : kG} {yf : Int} {σf : kS}  {x1 : Int} {x2 : Int} {x3 : Int} {s0 : Int}  {σ : kS} (h : fb_Rm_carryOut_155  x1 x2 x3 s0 σ = some (some yf, σf)) : Rn l G dm_Rm_carryOut m_Rm_carryOut (kI fun y' σ' => y' = yf ∧ σ' = σf) 155 [some (.inr (9, 0)), some (.inl x1), some (.inl x2), some (.inl x3)] [.inl s0] σ := by
  unfold fb_Rm_carryOut_155 at h
  simp only [Option.some.injEq, Prod.mk.injEq, true_and] at h
  exact s_Rm_carryOut_155  ⟨_, rfl, h⟩
def fb_Rm_carryOut_154  (x1 : Int) (x2 : Int) (x3 : Int) (σ : kS) : kRes := fb_Rm_carryOut_155  x1 x2 x3 0 σ
theorem e_Rm_carryOut_154 {l : Launch} {G : kG} {yf : Int} {σf : kS}  {x1 : Int} {x2 : Int} {x3 : Int}  {σ : kS} (h : fb_Rm_carryOut_154  x1 x2 x3 σ = some (some yf, σf)) : Rn l G dm_Rm_carryOut m_Rm_carryOut (kI fun y' σ' => y' = yf ∧ σ' = σf) 154 [some (.inr (9, 0)), some (.inl x1), some (.inl x2), some (.inl x3)] [] σ := by
  unfold fb_Rm_carryOut_154 at h
  refine s_Rm_carryOut_154  ?_
  exact e_Rm_carryOut_155  h
def fb_Rm_carryOut_150  (x1 : Int) (x2 : Int) (x3 : Int) (σ : kS) : kRes := fb_Rm_carryOut_155  x1 x2 x3 3 σ
theorem e_Rm_carryOut_150 {l : Launch} {G : kG} {yf : Int} {σf : kS}  {x1 : Int} {x2 : Int} {x3 : Int}  {σ : kS} (h : fb_Rm_carryOut_150  x1 x2 x3 σ = some (some yf, σf)) : Rn l G dm_Rm_carryOut m_Rm_carryOut (kI fun y' σ' => y' = yf ∧ σ' = σf) 150 [some (.inr (9, 0)), some (.inl x1), some (.inl x2), some (.inl x3)] [] σ := by
  unfold fb_Rm_carryOut_150 at h
  refine s_Rm_carryOut_150  ?_
  exact e_Rm_carryOut_155  h
def fb_Rm_carryOut_143  (x1 : Int) (x2 : Int) (x3 : Int) (σ : kS) : kRes := kg ((-2147483648 ≤ σ 9 0 31 ∧ σ 9 0 31 < 2147483648)) (if (σ 9 0 31) ≤ 0 then fb_Rm_carryOut_154  x1 x2 x3 σ else fb_Rm_carryOut_150  x1 x2 x3 σ)
theorem e_Rm_carryOut_143 {l : Launch} {G : kG} {yf : Int} {σf : kS}  {x1 : Int} {x2 : Int} {x3 : Int}  {σ : kS} (h : fb_Rm_carryOut_143  x1 x2 x3 σ = some (some yf, σf)) : Rn l G dm_Rm_carryOut m_Rm_carryOut (kI fun y' σ' => y' = yf ∧ σ' = σf) 143 [some (.inr (9, 0)), some (.inl x1), some (.inl x2), some (.inl x3)] [] σ := by
  unfold fb_Rm_carryOut_143 at h
  obtain ⟨h1, h⟩ := kg_some h
  refine s_Rm_carryOut_143 h1 (fun c => ?_) (fun c => ?_)
  · rw [if_pos c] at h
    exact e_Rm_carryOut_154  h
  · rw [if_neg c] at h
    exact e_Rm_carryOut_150  h
def fb_Rm_carryOut_137  (x1 : Int) (x2 : Int) (x3 : Int) (σ : kS) : kRes := kg ((-2147483648 ≤ x3 ∧ x3 < 2147483648)) (if x3 = 115 then fb_Rm_carryOut_143  x1 x2 x3 σ else fb_Rm_carryOut_150  x1 x2 x3 σ)
theorem e_Rm_carryOut_137 {l : Launch} {G : kG} {yf : Int} {σf : kS}  {x1 : Int} {x2 : Int} {x3 : Int}  {σ : kS} (h : fb_Rm_carryOut_137  x1 x2 x3 σ = some (some yf, σf)) : Rn l G dm_Rm_carryOut m_Rm_carryOut (kI fun y' σ' => y' = yf ∧ σ' = σf) 137 [some (.inr (9, 0)), some (.inl x1), some (.inl x2), some (.inl x3)] [] σ := by
  unfold fb_Rm_carryOut_137 at h
  obtain ⟨h1, h⟩ := kg_some h
  refine s_Rm_carryOut_137 h1 (fun c => ?_) (fun c => ?_)
  · rw [if_neg c] at h
    exact e_Rm_carryOut_150  h
  · rw [if_pos c] at h
    exact e_Rm_carryOut_143  h
def fb_Rm_carryOut_134  (x1 : Int) (x2 : Int) (x3 : Int) (s0 : Int) (σ : kS) : kRes := kg ((-2147483648 ≤ s0 ∧ s0 < 2147483648)) (if s0 = 0 then fb_Rm_carryOut_154  x1 x2 x3 σ else fb_Rm_carryOut_137  x1 x2 x3 σ)
theorem e_Rm_carryOut_134 {l : Launch} {G : kG} {yf : Int} {σf : kS}  {x1 : Int} {x2 : Int} {x3 : Int} {s0 : Int}  {σ : kS} (h : fb_Rm_carryOut_134  x1 x2 x3 s0 σ = some (some yf, σf)) : Rn l G dm_Rm_carryOut m_Rm_carryOut (kI fun y' σ' => y' = yf ∧ σ' = σf) 134 [some (.inr (9, 0)), some (.inl x1), some (.inl x2), some (.inl x3)] [.inl s0] σ := by
  unfold fb_Rm_carryOut_134 at h
  obtain ⟨h1, h⟩ := kg_some h
  refine s_Rm_carryOut_134 h1 (fun c => ?_) (fun c => ?_)
  · rw [if_pos c] at h
    exact e_Rm_carryOut_154  h
  · rw [if_neg c] at h
    exact e_Rm_carryOut_137  h
def fb_Rm_carryOut_122  (x1 : Int) (x2 : Int) (s0 : Int) (σ : kS) : kRes := kbi (f_Rm_one x1 x2 (kup σ 9 0 31 0)) fun y σ1 => fb_Rm_carryOut_134  x1 x2 s0 y σ1
theorem e_Rm_carryOut_122 {l : Launch} {G : kG} {yf : Int} {σf : kS}  {x1 : Int} {x2 : Int} {s0 : Int} {o3 : Option kV} {σ : kS} (h : fb_Rm_carryOut_122  x1 x2 s0 σ = some (some yf, σf)) : Rn l G dm_Rm_carryOut m_Rm_carryOut (kI fun y' σ' => y' = yf ∧ σ' = σf) 122 [some (.inr (9, 0)), some (.inl x1), some (.inl x2), o3] [.inl s0] σ := by
  unfold fb_Rm_carryOut_122 at h
  obtain ⟨y, σ1, hc, h⟩ := kbi_some h
  refine s_Rm_carryOut_122  (by decide) (E_Rm_one hc) (fun y2 σ2 e2 => ?_)
  obtain ⟨rfl, rfl⟩ := e2
  exact e_Rm_carryOut_134  h
def fb_Rm_carryOut_114  (x1 : Int) (x2 : Int) (σ : kS) : kRes := kbi (f_Rm_seen (σ 9 0 22) σ) fun y σ1 => fb_Rm_carryOut_122  x1 x2 y σ1
theorem e_Rm_carryOut_114 {l : Launch} {G : kG} {yf : Int} {σf : kS}  {x1 : Int} {x2 : Int} {o3 : Option kV} {σ : kS} (h : fb_Rm_carryOut_114  x1 x2 σ = some (some yf, σf)) : Rn l G dm_Rm_carryOut m_Rm_carryOut (kI fun y' σ' => y' = yf ∧ σ' = σf) 114 [some (.inr (9, 0)), some (.inl x1), some (.inl x2), o3] [] σ := by
  unfold fb_Rm_carryOut_114 at h
  obtain ⟨y, σ1, hc, h⟩ := kbi_some h
  refine s_Rm_carryOut_114  (by decide) (E_Rm_seen hc) (fun y2 σ2 e2 => ?_)
  obtain ⟨rfl, rfl⟩ := e2
  exact e_Rm_carryOut_122  h
def fb_Rm_carryOut_113  (x1 : Int) (x2 : Int) (s0 : Int) (σ : kS) : kRes := some (some s0, σ)
theorem e_Rm_carryOut_113 {l : Launch} {G : kG} {yf : Int} {σf : kS}  {x1 : Int} {x2 : Int} {s0 : Int} {o3 : Option kV} {σ : kS} (h : fb_Rm_carryOut_113  x1 x2 s0 σ = some (some yf, σf)) : Rn l G dm_Rm_carryOut m_Rm_carryOut (kI fun y' σ' => y' = yf ∧ σ' = σf) 113 [some (.inr (9, 0)), some (.inl x1), some (.inl x2), o3] [.inl s0] σ := by
  unfold fb_Rm_carryOut_113 at h
  simp only [Option.some.injEq, Prod.mk.injEq, true_and] at h
  exact s_Rm_carryOut_113  ⟨_, rfl, h⟩
def fb_Rm_carryOut_112  (x1 : Int) (x2 : Int) (σ : kS) : kRes := fb_Rm_carryOut_113  x1 x2 0 σ
theorem e_Rm_carryOut_112 {l : Launch} {G : kG} {yf : Int} {σf : kS}  {x1 : Int} {x2 : Int} {o3 : Option kV} {σ : kS} (h : fb_Rm_carryOut_112  x1 x2 σ = some (some yf, σf)) : Rn l G dm_Rm_carryOut m_Rm_carryOut (kI fun y' σ' => y' = yf ∧ σ' = σf) 112 [some (.inr (9, 0)), some (.inl x1), some (.inl x2), o3] [] σ := by
  unfold fb_Rm_carryOut_112 at h
  refine s_Rm_carryOut_112  ?_
  exact e_Rm_carryOut_113  h
def fb_Rm_carryOut_108  (x1 : Int) (x2 : Int) (σ : kS) : kRes := fb_Rm_carryOut_113  x1 x2 3 σ
theorem e_Rm_carryOut_108 {l : Launch} {G : kG} {yf : Int} {σf : kS}  {x1 : Int} {x2 : Int} {o3 : Option kV} {σ : kS} (h : fb_Rm_carryOut_108  x1 x2 σ = some (some yf, σf)) : Rn l G dm_Rm_carryOut m_Rm_carryOut (kI fun y' σ' => y' = yf ∧ σ' = σf) 108 [some (.inr (9, 0)), some (.inl x1), some (.inl x2), o3] [] σ := by
  unfold fb_Rm_carryOut_108 at h
  refine s_Rm_carryOut_108  ?_
  exact e_Rm_carryOut_113  h
def fb_Rm_carryOut_105  (x1 : Int) (x2 : Int) (s0 : Int) (σ : kS) : kRes := kg ((-2147483648 ≤ s0 ∧ s0 < 2147483648)) (if s0 = 0 then fb_Rm_carryOut_112  x1 x2 σ else fb_Rm_carryOut_108  x1 x2 σ)
theorem e_Rm_carryOut_105 {l : Launch} {G : kG} {yf : Int} {σf : kS}  {x1 : Int} {x2 : Int} {s0 : Int} {o3 : Option kV} {σ : kS} (h : fb_Rm_carryOut_105  x1 x2 s0 σ = some (some yf, σf)) : Rn l G dm_Rm_carryOut m_Rm_carryOut (kI fun y' σ' => y' = yf ∧ σ' = σf) 105 [some (.inr (9, 0)), some (.inl x1), some (.inl x2), o3] [.inl s0] σ := by
  unfold fb_Rm_carryOut_105 at h
  obtain ⟨h1, h⟩ := kg_some h
  refine s_Rm_carryOut_105 h1 (fun c => ?_) (fun c => ?_)
  · rw [if_pos c] at h
    exact e_Rm_carryOut_112  h
  · rw [if_neg c] at h
    exact e_Rm_carryOut_108  h
def fb_Rm_carryOut_99  (x1 : Int) (x2 : Int) (σ : kS) : kRes := kbi (f_Rm_all x1 x2 σ) fun y σ1 => fb_Rm_carryOut_105  x1 x2 y σ1
theorem e_Rm_carryOut_99 {l : Launch} {G : kG} {yf : Int} {σf : kS}  {x1 : Int} {x2 : Int} {o3 : Option kV} {σ : kS} (h : fb_Rm_carryOut_99  x1 x2 σ = some (some yf, σf)) : Rn l G dm_Rm_carryOut m_Rm_carryOut (kI fun y' σ' => y' = yf ∧ σ' = σf) 99 [some (.inr (9, 0)), some (.inl x1), some (.inl x2), o3] [] σ := by
  unfold fb_Rm_carryOut_99 at h
  obtain ⟨y, σ1, hc, h⟩ := kbi_some h
  refine s_Rm_carryOut_99  (by decide) (E_Rm_all hc) (fun y2 σ2 e2 => ?_)
  obtain ⟨rfl, rfl⟩ := e2
  exact e_Rm_carryOut_105  h
def fb_Rm_carryOut_96  (x1 : Int) (x2 : Int) (s0 : Int) (σ : kS) : kRes := kg ((-2147483648 ≤ s0 ∧ s0 < 2147483648)) (if s0 = 0 then fb_Rm_carryOut_114  x1 x2 σ else fb_Rm_carryOut_99  x1 x2 σ)
theorem e_Rm_carryOut_96 {l : Launch} {G : kG} {yf : Int} {σf : kS}  {x1 : Int} {x2 : Int} {s0 : Int} {o3 : Option kV} {σ : kS} (h : fb_Rm_carryOut_96  x1 x2 s0 σ = some (some yf, σf)) : Rn l G dm_Rm_carryOut m_Rm_carryOut (kI fun y' σ' => y' = yf ∧ σ' = σf) 96 [some (.inr (9, 0)), some (.inl x1), some (.inl x2), o3] [.inl s0] σ := by
  unfold fb_Rm_carryOut_96 at h
  obtain ⟨h1, h⟩ := kg_some h
  refine s_Rm_carryOut_96 h1 (fun c => ?_) (fun c => ?_)
  · rw [if_pos c] at h
    exact e_Rm_carryOut_114  h
  · rw [if_neg c] at h
    exact e_Rm_carryOut_99  h
def fb_Rm_carryOut_90  (x1 : Int) (x2 : Int) (σ : kS) : kRes := kbi (f_Rm_take 103 σ) fun y σ1 => fb_Rm_carryOut_96  x1 x2 y σ1
theorem e_Rm_carryOut_90 {l : Launch} {G : kG} {yf : Int} {σf : kS}  {x1 : Int} {x2 : Int} {o3 : Option kV} {σ : kS} (h : fb_Rm_carryOut_90  x1 x2 σ = some (some yf, σf)) : Rn l G dm_Rm_carryOut m_Rm_carryOut (kI fun y' σ' => y' = yf ∧ σ' = σf) 90 [some (.inr (9, 0)), some (.inl x1), some (.inl x2), o3] [] σ := by
  unfold fb_Rm_carryOut_90 at h
  obtain ⟨y, σ1, hc, h⟩ := kbi_some h
  refine s_Rm_carryOut_90  (by decide) (E_Rm_take hc) (fun y2 σ2 e2 => ?_)
  obtain ⟨rfl, rfl⟩ := e2
  exact e_Rm_carryOut_96  h
def fb_Rm_carryOut_89  (x1 : Int) (x2 : Int) (s0 : Int) (σ : kS) : kRes := some (some s0, σ)
theorem e_Rm_carryOut_89 {l : Launch} {G : kG} {yf : Int} {σf : kS}  {x1 : Int} {x2 : Int} {s0 : Int} {o3 : Option kV} {σ : kS} (h : fb_Rm_carryOut_89  x1 x2 s0 σ = some (some yf, σf)) : Rn l G dm_Rm_carryOut m_Rm_carryOut (kI fun y' σ' => y' = yf ∧ σ' = σf) 89 [some (.inr (9, 0)), some (.inl x1), some (.inl x2), o3] [.inl s0] σ := by
  unfold fb_Rm_carryOut_89 at h
  simp only [Option.some.injEq, Prod.mk.injEq, true_and] at h
  exact s_Rm_carryOut_89  ⟨_, rfl, h⟩
def fb_Rm_carryOut_88  (x1 : Int) (x2 : Int) (σ : kS) : kRes := fb_Rm_carryOut_89  x1 x2 0 σ
theorem e_Rm_carryOut_88 {l : Launch} {G : kG} {yf : Int} {σf : kS}  {x1 : Int} {x2 : Int} {o3 : Option kV} {σ : kS} (h : fb_Rm_carryOut_88  x1 x2 σ = some (some yf, σf)) : Rn l G dm_Rm_carryOut m_Rm_carryOut (kI fun y' σ' => y' = yf ∧ σ' = σf) 88 [some (.inr (9, 0)), some (.inl x1), some (.inl x2), o3] [] σ := by
  unfold fb_Rm_carryOut_88 at h
  refine s_Rm_carryOut_88  ?_
  exact e_Rm_carryOut_89  h
def fb_Rm_carryOut_84  (x1 : Int) (x2 : Int) (σ : kS) : kRes := fb_Rm_carryOut_89  x1 x2 2 σ
theorem e_Rm_carryOut_84 {l : Launch} {G : kG} {yf : Int} {σf : kS}  {x1 : Int} {x2 : Int} {o3 : Option kV} {σ : kS} (h : fb_Rm_carryOut_84  x1 x2 σ = some (some yf, σf)) : Rn l G dm_Rm_carryOut m_Rm_carryOut (kI fun y' σ' => y' = yf ∧ σ' = σf) 84 [some (.inr (9, 0)), some (.inl x1), some (.inl x2), o3] [] σ := by
  unfold fb_Rm_carryOut_84 at h
  refine s_Rm_carryOut_84  ?_
  exact e_Rm_carryOut_89  h
def fb_Rm_carryOut_81  (x1 : Int) (x2 : Int) (s0 : Int) (σ : kS) : kRes := kg ((-2147483648 ≤ s0 ∧ s0 < 2147483648)) (if s0 = 0 then fb_Rm_carryOut_88  x1 x2 σ else fb_Rm_carryOut_84  x1 x2 σ)
theorem e_Rm_carryOut_81 {l : Launch} {G : kG} {yf : Int} {σf : kS}  {x1 : Int} {x2 : Int} {s0 : Int} {o3 : Option kV} {σ : kS} (h : fb_Rm_carryOut_81  x1 x2 s0 σ = some (some yf, σf)) : Rn l G dm_Rm_carryOut m_Rm_carryOut (kI fun y' σ' => y' = yf ∧ σ' = σf) 81 [some (.inr (9, 0)), some (.inl x1), some (.inl x2), o3] [.inl s0] σ := by
  unfold fb_Rm_carryOut_81 at h
  obtain ⟨h1, h⟩ := kg_some h
  refine s_Rm_carryOut_81 h1 (fun c => ?_) (fun c => ?_)
  · rw [if_pos c] at h
    exact e_Rm_carryOut_88  h
  · rw [if_neg c] at h
    exact e_Rm_carryOut_84  h
def fb_Rm_carryOut_66  (x1 : Int) (x2 : Int) (σ : kS) : kRes := kbi (f_Rm_job 6 0 ((σ 22 0 0) - 1) σ) fun y σ1 => fb_Rm_carryOut_81  x1 x2 y σ1
theorem e_Rm_carryOut_66 {l : Launch} {G : kG} {yf : Int} {σf : kS}  {x1 : Int} {x2 : Int} {o3 : Option kV} {σ : kS} (h : fb_Rm_carryOut_66  x1 x2 σ = some (some yf, σf)) : Rn l G dm_Rm_carryOut m_Rm_carryOut (kI fun y' σ' => y' = yf ∧ σ' = σf) 66 [some (.inr (9, 0)), some (.inl x1), some (.inl x2), o3] [] σ := by
  unfold fb_Rm_carryOut_66 at h
  obtain ⟨y, σ1, hc, h⟩ := kbi_some h
  refine s_Rm_carryOut_66  (by decide) (E_Rm_job hc) (fun y2 σ2 e2 => ?_)
  obtain ⟨rfl, rfl⟩ := e2
  exact e_Rm_carryOut_81  h
def fb_Rm_carryOut_63  (x1 : Int) (x2 : Int) (s0 : Int) (σ : kS) : kRes := kg ((-2147483648 ≤ s0 ∧ s0 < 2147483648)) (if s0 = 0 then fb_Rm_carryOut_88  x1 x2 σ else fb_Rm_carryOut_66  x1 x2 σ)
theorem e_Rm_carryOut_63 {l : Launch} {G : kG} {yf : Int} {σf : kS}  {x1 : Int} {x2 : Int} {s0 : Int} {o3 : Option kV} {σ : kS} (h : fb_Rm_carryOut_63  x1 x2 s0 σ = some (some yf, σf)) : Rn l G dm_Rm_carryOut m_Rm_carryOut (kI fun y' σ' => y' = yf ∧ σ' = σf) 63 [some (.inr (9, 0)), some (.inl x1), some (.inl x2), o3] [.inl s0] σ := by
  unfold fb_Rm_carryOut_63 at h
  obtain ⟨h1, h⟩ := kg_some h
  refine s_Rm_carryOut_63 h1 (fun c => ?_) (fun c => ?_)
  · rw [if_pos c] at h
    exact e_Rm_carryOut_88  h
  · rw [if_neg c] at h
    exact e_Rm_carryOut_66  h
def fb_Rm_carryOut_59  (x1 : Int) (x2 : Int) (σ : kS) : kRes := kbi (f_Rm_ended  σ) fun y σ1 => fb_Rm_carryOut_63  x1 x2 y σ1
theorem e_Rm_carryOut_59 {l : Launch} {G : kG} {yf : Int} {σf : kS}  {x1 : Int} {x2 : Int} {o3 : Option kV} {σ : kS} (h : fb_Rm_carryOut_59  x1 x2 σ = some (some yf, σf)) : Rn l G dm_Rm_carryOut m_Rm_carryOut (kI fun y' σ' => y' = yf ∧ σ' = σf) 59 [some (.inr (9, 0)), some (.inl x1), some (.inl x2), o3] [] σ := by
  unfold fb_Rm_carryOut_59 at h
  obtain ⟨y, σ1, hc, h⟩ := kbi_some h
  refine s_Rm_carryOut_59  (by decide) (E_Rm_ended hc) (fun y2 σ2 e2 => ?_)
  obtain ⟨rfl, rfl⟩ := e2
  exact e_Rm_carryOut_63  h
def fb_Rm_carryOut_56  (x1 : Int) (x2 : Int) (s0 : Int) (σ : kS) : kRes := kg ((-2147483648 ≤ s0 ∧ s0 < 2147483648)) (if s0 = 0 then fb_Rm_carryOut_88  x1 x2 σ else fb_Rm_carryOut_59  x1 x2 σ)
theorem e_Rm_carryOut_56 {l : Launch} {G : kG} {yf : Int} {σf : kS}  {x1 : Int} {x2 : Int} {s0 : Int} {o3 : Option kV} {σ : kS} (h : fb_Rm_carryOut_56  x1 x2 s0 σ = some (some yf, σf)) : Rn l G dm_Rm_carryOut m_Rm_carryOut (kI fun y' σ' => y' = yf ∧ σ' = σf) 56 [some (.inr (9, 0)), some (.inl x1), some (.inl x2), o3] [.inl s0] σ := by
  unfold fb_Rm_carryOut_56 at h
  obtain ⟨h1, h⟩ := kg_some h
  refine s_Rm_carryOut_56 h1 (fun c => ?_) (fun c => ?_)
  · rw [if_pos c] at h
    exact e_Rm_carryOut_88  h
  · rw [if_neg c] at h
    exact e_Rm_carryOut_59  h
def fb_Rm_carryOut_50  (x1 : Int) (x2 : Int) (σ : kS) : kRes := kbi (f_Rm_take 101 σ) fun y σ1 => fb_Rm_carryOut_56  x1 x2 y σ1
theorem e_Rm_carryOut_50 {l : Launch} {G : kG} {yf : Int} {σf : kS}  {x1 : Int} {x2 : Int} {o3 : Option kV} {σ : kS} (h : fb_Rm_carryOut_50  x1 x2 σ = some (some yf, σf)) : Rn l G dm_Rm_carryOut m_Rm_carryOut (kI fun y' σ' => y' = yf ∧ σ' = σf) 50 [some (.inr (9, 0)), some (.inl x1), some (.inl x2), o3] [] σ := by
  unfold fb_Rm_carryOut_50 at h
  obtain ⟨y, σ1, hc, h⟩ := kbi_some h
  refine s_Rm_carryOut_50  (by decide) (E_Rm_take hc) (fun y2 σ2 e2 => ?_)
  obtain ⟨rfl, rfl⟩ := e2
  exact e_Rm_carryOut_56  h
def fb_Rm_carryOut_47  (x1 : Int) (x2 : Int) (s0 : Int) (σ : kS) : kRes := kg ((-2147483648 ≤ s0 ∧ s0 < 2147483648)) (if s0 = 0 then fb_Rm_carryOut_88  x1 x2 σ else fb_Rm_carryOut_50  x1 x2 σ)
theorem e_Rm_carryOut_47 {l : Launch} {G : kG} {yf : Int} {σf : kS}  {x1 : Int} {x2 : Int} {s0 : Int} {o3 : Option kV} {σ : kS} (h : fb_Rm_carryOut_47  x1 x2 s0 σ = some (some yf, σf)) : Rn l G dm_Rm_carryOut m_Rm_carryOut (kI fun y' σ' => y' = yf ∧ σ' = σf) 47 [some (.inr (9, 0)), some (.inl x1), some (.inl x2), o3] [.inl s0] σ := by
  unfold fb_Rm_carryOut_47 at h
  obtain ⟨h1, h⟩ := kg_some h
  refine s_Rm_carryOut_47 h1 (fun c => ?_) (fun c => ?_)
  · rw [if_pos c] at h
    exact e_Rm_carryOut_88  h
  · rw [if_neg c] at h
    exact e_Rm_carryOut_50  h
def fb_Rm_carryOut_41  (x1 : Int) (x2 : Int) (σ : kS) : kRes := kbi (f_Rm_take 114 σ) fun y σ1 => fb_Rm_carryOut_47  x1 x2 y σ1
theorem e_Rm_carryOut_41 {l : Launch} {G : kG} {yf : Int} {σf : kS}  {x1 : Int} {x2 : Int} {o3 : Option kV} {σ : kS} (h : fb_Rm_carryOut_41  x1 x2 σ = some (some yf, σf)) : Rn l G dm_Rm_carryOut m_Rm_carryOut (kI fun y' σ' => y' = yf ∧ σ' = σf) 41 [some (.inr (9, 0)), some (.inl x1), some (.inl x2), o3] [] σ := by
  unfold fb_Rm_carryOut_41 at h
  obtain ⟨y, σ1, hc, h⟩ := kbi_some h
  refine s_Rm_carryOut_41  (by decide) (E_Rm_take hc) (fun y2 σ2 e2 => ?_)
  obtain ⟨rfl, rfl⟩ := e2
  exact e_Rm_carryOut_47  h
def fb_Rm_carryOut_38  (x1 : Int) (x2 : Int) (s0 : Int) (σ : kS) : kRes := kg ((-2147483648 ≤ s0 ∧ s0 < 2147483648)) (if s0 = 0 then fb_Rm_carryOut_90  x1 x2 σ else fb_Rm_carryOut_41  x1 x2 σ)
theorem e_Rm_carryOut_38 {l : Launch} {G : kG} {yf : Int} {σf : kS}  {x1 : Int} {x2 : Int} {s0 : Int} {o3 : Option kV} {σ : kS} (h : fb_Rm_carryOut_38  x1 x2 s0 σ = some (some yf, σf)) : Rn l G dm_Rm_carryOut m_Rm_carryOut (kI fun y' σ' => y' = yf ∧ σ' = σf) 38 [some (.inr (9, 0)), some (.inl x1), some (.inl x2), o3] [.inl s0] σ := by
  unfold fb_Rm_carryOut_38 at h
  obtain ⟨h1, h⟩ := kg_some h
  refine s_Rm_carryOut_38 h1 (fun c => ?_) (fun c => ?_)
  · rw [if_pos c] at h
    exact e_Rm_carryOut_90  h
  · rw [if_neg c] at h
    exact e_Rm_carryOut_41  h
def fb_Rm_carryOut_32  (x1 : Int) (x2 : Int) (σ : kS) : kRes := kbi (f_Rm_take 112 σ) fun y σ1 => fb_Rm_carryOut_38  x1 x2 y σ1
theorem e_Rm_carryOut_32 {l : Launch} {G : kG} {yf : Int} {σf : kS}  {x1 : Int} {x2 : Int} {o3 : Option kV} {σ : kS} (h : fb_Rm_carryOut_32  x1 x2 σ = some (some yf, σf)) : Rn l G dm_Rm_carryOut m_Rm_carryOut (kI fun y' σ' => y' = yf ∧ σ' = σf) 32 [some (.inr (9, 0)), some (.inl x1), some (.inl x2), o3] [] σ := by
  unfold fb_Rm_carryOut_32 at h
  obtain ⟨y, σ1, hc, h⟩ := kbi_some h
  refine s_Rm_carryOut_32  (by decide) (E_Rm_take hc) (fun y2 σ2 e2 => ?_)
  obtain ⟨rfl, rfl⟩ := e2
  exact e_Rm_carryOut_38  h
def fb_Rm_carryOut_31  (x1 : Int) (x2 : Int) (s0 : Int) (σ : kS) : kRes := some (some s0, σ)
theorem e_Rm_carryOut_31 {l : Launch} {G : kG} {yf : Int} {σf : kS}  {x1 : Int} {x2 : Int} {s0 : Int} {o3 : Option kV} {σ : kS} (h : fb_Rm_carryOut_31  x1 x2 s0 σ = some (some yf, σf)) : Rn l G dm_Rm_carryOut m_Rm_carryOut (kI fun y' σ' => y' = yf ∧ σ' = σf) 31 [some (.inr (9, 0)), some (.inl x1), some (.inl x2), o3] [.inl s0] σ := by
  unfold fb_Rm_carryOut_31 at h
  simp only [Option.some.injEq, Prod.mk.injEq, true_and] at h
  exact s_Rm_carryOut_31  ⟨_, rfl, h⟩
def fb_Rm_carryOut_30  (x1 : Int) (x2 : Int) (σ : kS) : kRes := fb_Rm_carryOut_31  x1 x2 0 σ
theorem e_Rm_carryOut_30 {l : Launch} {G : kG} {yf : Int} {σf : kS}  {x1 : Int} {x2 : Int} {o3 : Option kV} {σ : kS} (h : fb_Rm_carryOut_30  x1 x2 σ = some (some yf, σf)) : Rn l G dm_Rm_carryOut m_Rm_carryOut (kI fun y' σ' => y' = yf ∧ σ' = σf) 30 [some (.inr (9, 0)), some (.inl x1), some (.inl x2), o3] [] σ := by
  unfold fb_Rm_carryOut_30 at h
  refine s_Rm_carryOut_30  ?_
  exact e_Rm_carryOut_31  h
def fb_Rm_carryOut_26  (x1 : Int) (x2 : Int) (σ : kS) : kRes := fb_Rm_carryOut_31  x1 x2 2 σ
theorem e_Rm_carryOut_26 {l : Launch} {G : kG} {yf : Int} {σf : kS}  {x1 : Int} {x2 : Int} {o3 : Option kV} {σ : kS} (h : fb_Rm_carryOut_26  x1 x2 σ = some (some yf, σf)) : Rn l G dm_Rm_carryOut m_Rm_carryOut (kI fun y' σ' => y' = yf ∧ σ' = σf) 26 [some (.inr (9, 0)), some (.inl x1), some (.inl x2), o3] [] σ := by
  unfold fb_Rm_carryOut_26 at h
  refine s_Rm_carryOut_26  ?_
  exact e_Rm_carryOut_31  h
def fb_Rm_carryOut_23  (x1 : Int) (x2 : Int) (s0 : Int) (σ : kS) : kRes := kg ((-2147483648 ≤ s0 ∧ s0 < 2147483648)) (if s0 = 0 then fb_Rm_carryOut_30  x1 x2 σ else fb_Rm_carryOut_26  x1 x2 σ)
theorem e_Rm_carryOut_23 {l : Launch} {G : kG} {yf : Int} {σf : kS}  {x1 : Int} {x2 : Int} {s0 : Int} {o3 : Option kV} {σ : kS} (h : fb_Rm_carryOut_23  x1 x2 s0 σ = some (some yf, σf)) : Rn l G dm_Rm_carryOut m_Rm_carryOut (kI fun y' σ' => y' = yf ∧ σ' = σf) 23 [some (.inr (9, 0)), some (.inl x1), some (.inl x2), o3] [.inl s0] σ := by
  unfold fb_Rm_carryOut_23 at h
  obtain ⟨h1, h⟩ := kg_some h
  refine s_Rm_carryOut_23 h1 (fun c => ?_) (fun c => ?_)
  · rw [if_pos c] at h
    exact e_Rm_carryOut_30  h
  · rw [if_neg c] at h
    exact e_Rm_carryOut_26  h
def fb_Rm_carryOut_16  (x1 : Int) (x2 : Int) (σ : kS) : kRes := kbi (f_Rm_job 5 x1 x2 σ) fun y σ1 => fb_Rm_carryOut_23  x1 x2 y σ1
theorem e_Rm_carryOut_16 {l : Launch} {G : kG} {yf : Int} {σf : kS}  {x1 : Int} {x2 : Int} {o3 : Option kV} {σ : kS} (h : fb_Rm_carryOut_16  x1 x2 σ = some (some yf, σf)) : Rn l G dm_Rm_carryOut m_Rm_carryOut (kI fun y' σ' => y' = yf ∧ σ' = σf) 16 [some (.inr (9, 0)), some (.inl x1), some (.inl x2), o3] [] σ := by
  unfold fb_Rm_carryOut_16 at h
  obtain ⟨y, σ1, hc, h⟩ := kbi_some h
  refine s_Rm_carryOut_16  (by decide) (E_Rm_job hc) (fun y2 σ2 e2 => ?_)
  obtain ⟨rfl, rfl⟩ := e2
  exact e_Rm_carryOut_23  h
def fb_Rm_carryOut_13  (x1 : Int) (x2 : Int) (s0 : Int) (σ : kS) : kRes := kg ((-2147483648 ≤ s0 ∧ s0 < 2147483648)) (if s0 = 0 then fb_Rm_carryOut_30  x1 x2 σ else fb_Rm_carryOut_16  x1 x2 σ)
theorem e_Rm_carryOut_13 {l : Launch} {G : kG} {yf : Int} {σf : kS}  {x1 : Int} {x2 : Int} {s0 : Int} {o3 : Option kV} {σ : kS} (h : fb_Rm_carryOut_13  x1 x2 s0 σ = some (some yf, σf)) : Rn l G dm_Rm_carryOut m_Rm_carryOut (kI fun y' σ' => y' = yf ∧ σ' = σf) 13 [some (.inr (9, 0)), some (.inl x1), some (.inl x2), o3] [.inl s0] σ := by
  unfold fb_Rm_carryOut_13 at h
  obtain ⟨h1, h⟩ := kg_some h
  refine s_Rm_carryOut_13 h1 (fun c => ?_) (fun c => ?_)
  · rw [if_pos c] at h
    exact e_Rm_carryOut_30  h
  · rw [if_neg c] at h
    exact e_Rm_carryOut_16  h
def fb_Rm_carryOut_9  (x1 : Int) (x2 : Int) (σ : kS) : kRes := kbi (f_Rm_ended  σ) fun y σ1 => fb_Rm_carryOut_13  x1 x2 y σ1
theorem e_Rm_carryOut_9 {l : Launch} {G : kG} {yf : Int} {σf : kS}  {x1 : Int} {x2 : Int} {o3 : Option kV} {σ : kS} (h : fb_Rm_carryOut_9  x1 x2 σ = some (some yf, σf)) : Rn l G dm_Rm_carryOut m_Rm_carryOut (kI fun y' σ' => y' = yf ∧ σ' = σf) 9 [some (.inr (9, 0)), some (.inl x1), some (.inl x2), o3] [] σ := by
  unfold fb_Rm_carryOut_9 at h
  obtain ⟨y, σ1, hc, h⟩ := kbi_some h
  refine s_Rm_carryOut_9  (by decide) (E_Rm_ended hc) (fun y2 σ2 e2 => ?_)
  obtain ⟨rfl, rfl⟩ := e2
  exact e_Rm_carryOut_13  h
def fb_Rm_carryOut_6  (x1 : Int) (x2 : Int) (s0 : Int) (σ : kS) : kRes := kg ((-2147483648 ≤ s0 ∧ s0 < 2147483648)) (if s0 = 0 then fb_Rm_carryOut_32  x1 x2 σ else fb_Rm_carryOut_9  x1 x2 σ)
theorem e_Rm_carryOut_6 {l : Launch} {G : kG} {yf : Int} {σf : kS}  {x1 : Int} {x2 : Int} {s0 : Int} {o3 : Option kV} {σ : kS} (h : fb_Rm_carryOut_6  x1 x2 s0 σ = some (some yf, σf)) : Rn l G dm_Rm_carryOut m_Rm_carryOut (kI fun y' σ' => y' = yf ∧ σ' = σf) 6 [some (.inr (9, 0)), some (.inl x1), some (.inl x2), o3] [.inl s0] σ := by
  unfold fb_Rm_carryOut_6 at h
  obtain ⟨h1, h⟩ := kg_some h
  refine s_Rm_carryOut_6 h1 (fun c => ?_) (fun c => ?_)
  · rw [if_pos c] at h
    exact e_Rm_carryOut_32  h
  · rw [if_neg c] at h
    exact e_Rm_carryOut_9  h
def fb_Rm_carryOut_0  (x1 : Int) (x2 : Int) (σ : kS) : kRes := kbi (f_Rm_take 119 σ) fun y σ1 => fb_Rm_carryOut_6  x1 x2 y σ1
theorem e_Rm_carryOut_0 {l : Launch} {G : kG} {yf : Int} {σf : kS}  {x1 : Int} {x2 : Int} {o3 : Option kV} {σ : kS} (h : fb_Rm_carryOut_0  x1 x2 σ = some (some yf, σf)) : Rn l G dm_Rm_carryOut m_Rm_carryOut (kI fun y' σ' => y' = yf ∧ σ' = σf) 0 [some (.inr (9, 0)), some (.inl x1), some (.inl x2), o3] [] σ := by
  unfold fb_Rm_carryOut_0 at h
  obtain ⟨y, σ1, hc, h⟩ := kbi_some h
  refine s_Rm_carryOut_0  (by decide) (E_Rm_take hc) (fun y2 σ2 e2 => ?_)
  obtain ⟨rfl, rfl⟩ := e2
  exact e_Rm_carryOut_6  h
def f_Rm_carryOut (x1 : Int) (x2 : Int) (σ : kS) : kRes := fb_Rm_carryOut_0 x1 x2 σ
theorem E_Rm_carryOut {l : Launch} {G : kG} {yf : Int} {σf : kS} {x1 : Int} {x2 : Int} {σ : kS} (h : f_Rm_carryOut x1 x2 σ = some (some yf, σf)) : Call l G dm_Rm_carryOut y_Rm_carryOut m_Rm_carryOut [.inr (9, 0), .inl x1, .inl x2] σ (kI fun y' σ' => y' = yf ∧ σ' = σf) := by
  unfold f_Rm_carryOut at h
  exact Call.of (by decide +kernel) rfl (Nat.le_of_ble_eq_true rfl) (e_Rm_carryOut_0 h)
/-! Rm_cell -/
def fb_Rm_cell_36  (x1 : Int) (x2 : Int) (s0 : Int) (σ : kS) : kRes := some (some s0, σ)
theorem e_Rm_cell_36 {l : Launch} {G : kG} {yf : Int} {σf : kS}  {x1 : Int} {x2 : Int} {s0 : Int}  {σ : kS} (h : fb_Rm_cell_36  x1 x2 s0 σ = some (some yf, σf)) : Rn l G dm_Rm_cell m_Rm_cell (kI fun y' σ' => y' = yf ∧ σ' = σf) 36 [some (.inr (9, 0)), some (.inl x1), some (.inl x2)] [.inl s0] σ := by
  unfold fb_Rm_cell_36 at h
  simp only [Option.some.injEq, Prod.mk.injEq, true_and] at h
  exact s_Rm_cell_36  ⟨_, rfl, h⟩
def fb_Rm_cell_25  (x1 : Int) (x2 : Int) (σ : kS) : kRes := kg ((0 ≤ (20 * x1) + x2 ∧ (20 * x1) + x2 < (100 : Nat))) (fb_Rm_cell_36  x1 x2 (σ 36 0 (Int.toNat ((20 * x1) + x2))) σ)
theorem e_Rm_cell_25 {l : Launch} {G : kG} {yf : Int} {σf : kS}  {x1 : Int} {x2 : Int}  {σ : kS} (h : fb_Rm_cell_25  x1 x2 σ = some (some yf, σf)) : Rn l G dm_Rm_cell m_Rm_cell (kI fun y' σ' => y' = yf ∧ σ' = σf) 25 [some (.inr (9, 0)), some (.inl x1), some (.inl x2)] [] σ := by
  unfold fb_Rm_cell_25 at h
  obtain ⟨h1, h⟩ := kg_some h
  refine s_Rm_cell_25 h1 ?_
  exact e_Rm_cell_36  h
def fb_Rm_cell_21  (x1 : Int) (x2 : Int) (σ : kS) : kRes := fb_Rm_cell_36  x1 x2 0 σ
theorem e_Rm_cell_21 {l : Launch} {G : kG} {yf : Int} {σf : kS}  {x1 : Int} {x2 : Int}  {σ : kS} (h : fb_Rm_cell_21  x1 x2 σ = some (some yf, σf)) : Rn l G dm_Rm_cell m_Rm_cell (kI fun y' σ' => y' = yf ∧ σ' = σf) 21 [some (.inr (9, 0)), some (.inl x1), some (.inl x2)] [] σ := by
  unfold fb_Rm_cell_21 at h
  refine s_Rm_cell_21  ?_
  exact e_Rm_cell_36  h
def fb_Rm_cell_13  (x1 : Int) (x2 : Int) (σ : kS) : kRes := kg ((-2147483648 ≤ x2 ∧ x2 < 2147483648) ∧ (-2147483648 ≤ σ 9 0 37 ∧ σ 9 0 37 < 2147483648)) (if x2 < (σ 9 0 37) then fb_Rm_cell_25  x1 x2 σ else fb_Rm_cell_21  x1 x2 σ)
theorem e_Rm_cell_13 {l : Launch} {G : kG} {yf : Int} {σf : kS}  {x1 : Int} {x2 : Int}  {σ : kS} (h : fb_Rm_cell_13  x1 x2 σ = some (some yf, σf)) : Rn l G dm_Rm_cell m_Rm_cell (kI fun y' σ' => y' = yf ∧ σ' = σf) 13 [some (.inr (9, 0)), some (.inl x1), some (.inl x2)] [] σ := by
  unfold fb_Rm_cell_13 at h
  obtain ⟨⟨h1, h2⟩, h⟩ := kg_some h
  refine s_Rm_cell_13 h1 h2 (fun c => ?_) (fun c => ?_)
  · rw [if_pos c] at h
    exact e_Rm_cell_25  h
  · rw [if_neg c] at h
    exact e_Rm_cell_21  h
def fb_Rm_cell_9  (x1 : Int) (x2 : Int) (σ : kS) : kRes := kg ((-2147483648 ≤ x2 ∧ x2 < 2147483648)) (if x2 < 0 then fb_Rm_cell_21  x1 x2 σ else fb_Rm_cell_13  x1 x2 σ)
theorem e_Rm_cell_9 {l : Launch} {G : kG} {yf : Int} {σf : kS}  {x1 : Int} {x2 : Int}  {σ : kS} (h : fb_Rm_cell_9  x1 x2 σ = some (some yf, σf)) : Rn l G dm_Rm_cell m_Rm_cell (kI fun y' σ' => y' = yf ∧ σ' = σf) 9 [some (.inr (9, 0)), some (.inl x1), some (.inl x2)] [] σ := by
  unfold fb_Rm_cell_9 at h
  obtain ⟨h1, h⟩ := kg_some h
  refine s_Rm_cell_9 h1 (fun c => ?_) (fun c => ?_)
  · rw [if_pos c] at h
    exact e_Rm_cell_21  h
  · rw [if_neg c] at h
    exact e_Rm_cell_13  h
def fb_Rm_cell_4  (x1 : Int) (x2 : Int) (σ : kS) : kRes := kg ((-2147483648 ≤ x1 ∧ x1 < 2147483648)) (if 4 < x1 then fb_Rm_cell_21  x1 x2 σ else fb_Rm_cell_9  x1 x2 σ)
theorem e_Rm_cell_4 {l : Launch} {G : kG} {yf : Int} {σf : kS}  {x1 : Int} {x2 : Int}  {σ : kS} (h : fb_Rm_cell_4  x1 x2 σ = some (some yf, σf)) : Rn l G dm_Rm_cell m_Rm_cell (kI fun y' σ' => y' = yf ∧ σ' = σf) 4 [some (.inr (9, 0)), some (.inl x1), some (.inl x2)] [] σ := by
  unfold fb_Rm_cell_4 at h
  obtain ⟨h1, h⟩ := kg_some h
  refine s_Rm_cell_4 h1 (fun c => ?_) (fun c => ?_)
  · rw [if_pos c] at h
    exact e_Rm_cell_21  h
  · rw [if_neg c] at h
    exact e_Rm_cell_9  h
def fb_Rm_cell_0  (x1 : Int) (x2 : Int) (σ : kS) : kRes := kg ((-2147483648 ≤ x1 ∧ x1 < 2147483648)) (if x1 < 0 then fb_Rm_cell_21  x1 x2 σ else fb_Rm_cell_4  x1 x2 σ)
theorem e_Rm_cell_0 {l : Launch} {G : kG} {yf : Int} {σf : kS}  {x1 : Int} {x2 : Int}  {σ : kS} (h : fb_Rm_cell_0  x1 x2 σ = some (some yf, σf)) : Rn l G dm_Rm_cell m_Rm_cell (kI fun y' σ' => y' = yf ∧ σ' = σf) 0 [some (.inr (9, 0)), some (.inl x1), some (.inl x2)] [] σ := by
  unfold fb_Rm_cell_0 at h
  obtain ⟨h1, h⟩ := kg_some h
  refine s_Rm_cell_0 h1 (fun c => ?_) (fun c => ?_)
  · rw [if_pos c] at h
    exact e_Rm_cell_21  h
  · rw [if_neg c] at h
    exact e_Rm_cell_4  h
def f_Rm_cell (x1 : Int) (x2 : Int) (σ : kS) : kRes := fb_Rm_cell_0 x1 x2 σ
theorem E_Rm_cell {l : Launch} {G : kG} {yf : Int} {σf : kS} {x1 : Int} {x2 : Int} {σ : kS} (h : f_Rm_cell x1 x2 σ = some (some yf, σf)) : Call l G dm_Rm_cell y_Rm_cell m_Rm_cell [.inr (9, 0), .inl x1, .inl x2] σ (kI fun y' σ' => y' = yf ∧ σ' = σf) := by
  unfold f_Rm_cell at h
  exact Call.of (by decide +kernel) rfl (Nat.le_of_ble_eq_true rfl) (e_Rm_cell_0 h)
/-! Rm_copyText -/
def fb_Rm_copyText_22  (x1 : Int) (x2 : Int) (x3 : Int) (σ : kS) : kRes := kg ((0 ≤ x1 ∧ x1 < (10 : Nat)) ∧ (0 ≤ x2 ∧ x2 < (10 : Nat))) (some (none, kup (kup (kup σ 22 0 (Int.toNat x2) (σ 22 0 (Int.toNat x1))) 23 0 (Int.toNat x2) ((kup σ 22 0 (Int.toNat x2) (σ 22 0 (Int.toNat x1))) 23 0 (Int.toNat x1))) 24 0 (Int.toNat x2) ((kup (kup σ 22 0 (Int.toNat x2) (σ 22 0 (Int.toNat x1))) 23 0 (Int.toNat x2) ((kup σ 22 0 (Int.toNat x2) (σ 22 0 (Int.toNat x1))) 23 0 (Int.toNat x1))) 24 0 (Int.toNat x1))))
theorem e_Rm_copyText_22 {l : Launch} {G : kG} {σf : kS}  {x1 : Int} {x2 : Int} {x3 : Int}  {σ : kS} (h : fb_Rm_copyText_22  x1 x2 x3 σ = some (none, σf)) : Rn l G dm_Rm_copyText m_Rm_copyText (kU fun σ' => σ' = σf) 22 [some (.inr (9, 0)), some (.inl x1), some (.inl x2), some (.inl x3)] [] σ := by
  unfold fb_Rm_copyText_22 at h
  obtain ⟨⟨h1, h2⟩, h⟩ := kg_some h
  simp only [Option.some.injEq, Prod.mk.injEq, true_and] at h
  exact s_Rm_copyText_22 h1 h2 ⟨rfl, h⟩
def fb_Rm_copyText_16 (k2 : Int → Int → Int → kS → kRes) (x1 : Int) (x2 : Int) (x3 : Int) (σ : kS) : kRes := k2 x1 x2 (x3 + 1) σ
theorem e_Rm_copyText_16 {l : Launch} {G : kG} {σf : kS} {k2 : Int → Int → Int → kS → kRes} (hk2 : ∀ (x1 : Int) (x2 : Int) (x3 : Int)  (σ : kS), k2 x1 x2 x3 σ = some (none, σf) → Rn l G dm_Rm_copyText m_Rm_copyText (kU fun σ' => σ' = σf) 2 [some (.inr (9, 0)), some (.inl x1), some (.inl x2), some (.inl x3)] [] σ) {x1 : Int} {x2 : Int} {x3 : Int}  {σ : kS} (h : fb_Rm_copyText_16 k2 x1 x2 x3 σ = some (none, σf)) : Rn l G dm_Rm_copyText m_Rm_copyText (kU fun σ' => σ' = σf) 16 [some (.inr (9, 0)), some (.inl x1), some (.inl x2), some (.inl x3)] [] σ := by
  unfold fb_Rm_copyText_16 at h
  refine s_Rm_copyText_16  ?_
  exact hk2 _ _ _ _ h
def fb_Rm_copyText_8 (k2 : Int → Int → Int → kS → kRes) (x1 : Int) (x2 : Int) (x3 : Int) (σ : kS) : kRes := kbu (f_Rm_copyLine x1 x3 x2 x3 σ) fun σ1 => fb_Rm_copyText_16 k2 x1 x2 x3 σ1
theorem e_Rm_copyText_8 {l : Launch} {G : kG} {σf : kS} {k2 : Int → Int → Int → kS → kRes} (hk2 : ∀ (x1 : Int) (x2 : Int) (x3 : Int)  (σ : kS), k2 x1 x2 x3 σ = some (none, σf) → Rn l G dm_Rm_copyText m_Rm_copyText (kU fun σ' => σ' = σf) 2 [some (.inr (9, 0)), some (.inl x1), some (.inl x2), some (.inl x3)] [] σ) {x1 : Int} {x2 : Int} {x3 : Int}  {σ : kS} (h : fb_Rm_copyText_8 k2 x1 x2 x3 σ = some (none, σf)) : Rn l G dm_Rm_copyText m_Rm_copyText (kU fun σ' => σ' = σf) 8 [some (.inr (9, 0)), some (.inl x1), some (.inl x2), some (.inl x3)] [] σ := by
  unfold fb_Rm_copyText_8 at h
  obtain ⟨σ1, hc, h⟩ := kbu_some h
  refine s_Rm_copyText_8  (by decide) (E_Rm_copyLine hc) (fun σ2 e2 => ?_)
  subst e2
  exact e_Rm_copyText_16 hk2 h
def fb_Rm_copyText_2 (k2 : Int → Int → Int → kS → kRes) (x1 : Int) (x2 : Int) (x3 : Int) (σ : kS) : kRes := kg ((-2147483648 ≤ x3 ∧ x3 < 2147483648)) (if 10 ≤ x3 then fb_Rm_copyText_22  x1 x2 x3 σ else fb_Rm_copyText_8 k2 x1 x2 x3 σ)
theorem e_Rm_copyText_2 {l : Launch} {G : kG} {σf : kS} {k2 : Int → Int → Int → kS → kRes} (hk2 : ∀ (x1 : Int) (x2 : Int) (x3 : Int)  (σ : kS), k2 x1 x2 x3 σ = some (none, σf) → Rn l G dm_Rm_copyText m_Rm_copyText (kU fun σ' => σ' = σf) 2 [some (.inr (9, 0)), some (.inl x1), some (.inl x2), some (.inl x3)] [] σ) {x1 : Int} {x2 : Int} {x3 : Int}  {σ : kS} (h : fb_Rm_copyText_2 k2 x1 x2 x3 σ = some (none, σf)) : Rn l G dm_Rm_copyText m_Rm_copyText (kU fun σ' => σ' = σf) 2 [some (.inr (9, 0)), some (.inl x1), some (.inl x2), some (.inl x3)] [] σ := by
  unfold fb_Rm_copyText_2 at h
  obtain ⟨h1, h⟩ := kg_some h
  refine s_Rm_copyText_2 h1 (fun c => ?_) (fun c => ?_)
  · rw [if_pos c] at h
    exact e_Rm_copyText_22  h
  · rw [if_neg c] at h
    exact e_Rm_copyText_8 hk2 h
def fl_Rm_copyText_2  : Nat → Int → Int → Int → kS → kRes
  | 0, _, _, _, _ => none
  | n + 1, x1, x2, x3, σ => fb_Rm_copyText_2 (fl_Rm_copyText_2  n) x1 x2 x3 σ
theorem el_Rm_copyText_2 {l : Launch} {G : kG} {σf : kS}  : ∀ (n : Nat) (x1 : Int) (x2 : Int) (x3 : Int)  (σ : kS), fl_Rm_copyText_2  n x1 x2 x3 σ = some (none, σf) → Rn l G dm_Rm_copyText m_Rm_copyText (kU fun σ' => σ' = σf) 2 [some (.inr (9, 0)), some (.inl x1), some (.inl x2), some (.inl x3)] [] σ := by
  intro n
  induction n with
  | zero => intro x1 x2 x3 σ h; simp only [fl_Rm_copyText_2] at h; cases h
  | succ n ih => intro x1 x2 x3 σ h; simp only [fl_Rm_copyText_2] at h; exact e_Rm_copyText_2 ih h
def fb_Rm_copyText_0  (x1 : Int) (x2 : Int) (σ : kS) : kRes := fl_Rm_copyText_2  3000 x1 x2 0 σ
theorem e_Rm_copyText_0 {l : Launch} {G : kG} {σf : kS}  {x1 : Int} {x2 : Int} {o3 : Option kV} {σ : kS} (h : fb_Rm_copyText_0  x1 x2 σ = some (none, σf)) : Rn l G dm_Rm_copyText m_Rm_copyText (kU fun σ' => σ' = σf) 0 [some (.inr (9, 0)), some (.inl x1), some (.inl x2), o3] [] σ := by
  unfold fb_Rm_copyText_0 at h
  refine s_Rm_copyText_0  ?_
  exact el_Rm_copyText_2  _ _ _ _ _ h
def f_Rm_copyText (x1 : Int) (x2 : Int) (σ : kS) : kRes := fb_Rm_copyText_0 x1 x2 σ
theorem E_Rm_copyText {l : Launch} {G : kG} {σf : kS} {x1 : Int} {x2 : Int} {σ : kS} (h : f_Rm_copyText x1 x2 σ = some (none, σf)) : Call l G dm_Rm_copyText y_Rm_copyText m_Rm_copyText [.inr (9, 0), .inl x1, .inl x2] σ (kU fun σ' => σ' = σf) := by
  unfold f_Rm_copyText at h
  exact Call.of (by decide +kernel) rfl (Nat.le_of_ble_eq_true rfl) (e_Rm_copyText_0 h)
/-! Rm_changed -/
def fb_Rm_changed_6   (σ : kS) : kRes := some (none, kup σ 9 0 6 1)
theorem e_Rm_changed_6 {l : Launch} {G : kG} {σf : kS}    {σ : kS} (h : fb_Rm_changed_6   σ = some (none, σf)) : Rn l G dm_Rm_changed m_Rm_changed (kU fun σ' => σ' = σf) 6 [some (.inr (9, 0))] [] σ := by
  unfold fb_Rm_changed_6 at h
  simp only [Option.some.injEq, Prod.mk.injEq, true_and] at h
  exact s_Rm_changed_6  ⟨rfl, h⟩
def fb_Rm_changed_0   (σ : kS) : kRes := kbu (f_Rm_copyText 2 1 σ) fun σ1 => fb_Rm_changed_6  σ1
theorem e_Rm_changed_0 {l : Launch} {G : kG} {σf : kS}    {σ : kS} (h : fb_Rm_changed_0   σ = some (none, σf)) : Rn l G dm_Rm_changed m_Rm_changed (kU fun σ' => σ' = σf) 0 [some (.inr (9, 0))] [] σ := by
  unfold fb_Rm_changed_0 at h
  obtain ⟨σ1, hc, h⟩ := kbu_some h
  refine s_Rm_changed_0  (by decide) (E_Rm_copyText hc) (fun σ2 e2 => ?_)
  subst e2
  exact e_Rm_changed_6  h
def f_Rm_changed  (σ : kS) : kRes := fb_Rm_changed_0  σ
theorem E_Rm_changed {l : Launch} {G : kG} {σf : kS}  {σ : kS} (h : f_Rm_changed  σ = some (none, σf)) : Call l G dm_Rm_changed y_Rm_changed m_Rm_changed [.inr (9, 0)] σ (kU fun σ' => σ' = σf) := by
  unfold f_Rm_changed at h
  exact Call.of (by decide +kernel) rfl (Nat.le_of_ble_eq_true rfl) (e_Rm_changed_0 h)
/-! Rm_character -/
def fb_Rm_character_32  (x1 : Int) (x2 : Int) (x3 : Int) (x4 : Int) (σ : kS) : kRes := kg ((0 ≤ ((200 * x1) + (20 * x3)) + x4 ∧ ((200 * x1) + (20 * x3)) + x4 < (2000 : Nat))) (some (some (σ 20 0 (Int.toNat (((200 * x1) + (20 * x3)) + x4))), σ))
theorem e_Rm_character_32 {l : Launch} {G : kG} {yf : Int} {σf : kS}  {x1 : Int} {x2 : Int} {x3 : Int} {x4 : Int}  {σ : kS} (h : fb_Rm_character_32  x1 x2 x3 x4 σ = some (some yf, σf)) : Rn l G dm_Rm_character m_Rm_character (kI fun y' σ' => y' = yf ∧ σ' = σf) 32 [some (.inr (9, 0)), some (.inl x1), some (.inl x2), some (.inl x3), some (.inl x4)] [] σ := by
  unfold fb_Rm_character_32 at h
  obtain ⟨h1, h⟩ := kg_some h
  simp only [Option.some.injEq, Prod.mk.injEq, true_and] at h
  exact s_Rm_character_32 h1 ⟨_, rfl, h⟩
def fb_Rm_character_30  (x1 : Int) (x2 : Int) (x3 : Int) (x4 : Int) (σ : kS) : kRes := some (some 0, σ)
theorem e_Rm_character_30 {l : Launch} {G : kG} {yf : Int} {σf : kS}  {x1 : Int} {x2 : Int} {x3 : Int} {x4 : Int}  {σ : kS} (h : fb_Rm_character_30  x1 x2 x3 x4 σ = some (some yf, σf)) : Rn l G dm_Rm_character m_Rm_character (kI fun y' σ' => y' = yf ∧ σ' = σf) 30 [some (.inr (9, 0)), some (.inl x1), some (.inl x2), some (.inl x3), some (.inl x4)] [] σ := by
  unfold fb_Rm_character_30 at h
  simp only [Option.some.injEq, Prod.mk.injEq, true_and] at h
  exact s_Rm_character_30  ⟨_, rfl, h⟩
def fb_Rm_character_14  (x1 : Int) (x2 : Int) (x3 : Int) (x4 : Int) (σ : kS) : kRes := kg ((0 ≤ (10 * x1) + x3 ∧ (10 * x1) + x3 < (100 : Nat)) ∧ (-2147483648 ≤ x4 ∧ x4 < 2147483648) ∧ (-2147483648 ≤ σ 21 0 (Int.toNat ((10 * x1) + x3)) ∧ σ 21 0 (Int.toNat ((10 * x1) + x3)) < 2147483648)) (if x4 < (σ 21 0 (Int.toNat ((10 * x1) + x3))) then fb_Rm_character_32  x1 x2 x3 x4 σ else fb_Rm_character_30  x1 x2 x3 x4 σ)
theorem e_Rm_character_14 {l : Launch} {G : kG} {yf : Int} {σf : kS}  {x1 : Int} {x2 : Int} {x3 : Int} {x4 : Int}  {σ : kS} (h : fb_Rm_character_14  x1 x2 x3 x4 σ = some (some yf, σf)) : Rn l G dm_Rm_character m_Rm_character (kI fun y' σ' => y' = yf ∧ σ' = σf) 14 [some (.inr (9, 0)), some (.inl x1), some (.inl x2), some (.inl x3), some (.inl x4)] [] σ := by
  unfold fb_Rm_character_14 at h
  obtain ⟨⟨h1, h2, h3⟩, h⟩ := kg_some h
  refine s_Rm_character_14 h1 h2 h3 (fun c => ?_) (fun c => ?_)
  · rw [if_pos c] at h
    exact e_Rm_character_32  h
  · rw [if_neg c] at h
    exact e_Rm_character_30  h
def fb_Rm_character_9  (x1 : Int) (x2 : Int) (x3 : Int) (x4 : Int) (σ : kS) : kRes := kg ((-2147483648 ≤ x4 ∧ x4 < 2147483648)) (if x4 < 0 then fb_Rm_character_30  x1 x2 x3 x4 σ else fb_Rm_character_14  x1 x2 x3 x4 σ)
theorem e_Rm_character_9 {l : Launch} {G : kG} {yf : Int} {σf : kS}  {x1 : Int} {x2 : Int} {x3 : Int} {x4 : Int}  {σ : kS} (h : fb_Rm_character_9  x1 x2 x3 x4 σ = some (some yf, σf)) : Rn l G dm_Rm_character m_Rm_character (kI fun y' σ' => y' = yf ∧ σ' = σf) 9 [some (.inr (9, 0)), some (.inl x1), some (.inl x2), some (.inl x3), some (.inl x4)] [] σ := by
  unfold fb_Rm_character_9 at h
  obtain ⟨h1, h⟩ := kg_some h
  refine s_Rm_character_9 h1 (fun c => ?_) (fun c => ?_)
  · rw [if_pos c] at h
    exact e_Rm_character_30  h
  · rw [if_neg c] at h
    exact e_Rm_character_14  h
def fb_Rm_character_4  (x1 : Int) (x2 : Int) (x3 : Int) (x4 : Int) (σ : kS) : kRes := kg ((-2147483648 ≤ x3 ∧ x3 < 2147483648) ∧ (-2147483648 ≤ x2 ∧ x2 < 2147483648)) (if x2 ≤ x3 then fb_Rm_character_30  x1 x2 x3 x4 σ else fb_Rm_character_9  x1 x2 x3 x4 σ)
theorem e_Rm_character_4 {l : Launch} {G : kG} {yf : Int} {σf : kS}  {x1 : Int} {x2 : Int} {x3 : Int} {x4 : Int}  {σ : kS} (h : fb_Rm_character_4  x1 x2 x3 x4 σ = some (some yf, σf)) : Rn l G dm_Rm_character m_Rm_character (kI fun y' σ' => y' = yf ∧ σ' = σf) 4 [some (.inr (9, 0)), some (.inl x1), some (.inl x2), some (.inl x3), some (.inl x4)] [] σ := by
  unfold fb_Rm_character_4 at h
  obtain ⟨⟨h1, h2⟩, h⟩ := kg_some h
  refine s_Rm_character_4 h1 h2 (fun c => ?_) (fun c => ?_)
  · rw [if_pos c] at h
    exact e_Rm_character_30  h
  · rw [if_neg c] at h
    exact e_Rm_character_9  h
def fb_Rm_character_0  (x1 : Int) (x2 : Int) (x3 : Int) (x4 : Int) (σ : kS) : kRes := kg ((-2147483648 ≤ x3 ∧ x3 < 2147483648)) (if x3 < 0 then fb_Rm_character_30  x1 x2 x3 x4 σ else fb_Rm_character_4  x1 x2 x3 x4 σ)
theorem e_Rm_character_0 {l : Launch} {G : kG} {yf : Int} {σf : kS}  {x1 : Int} {x2 : Int} {x3 : Int} {x4 : Int}  {σ : kS} (h : fb_Rm_character_0  x1 x2 x3 x4 σ = some (some yf, σf)) : Rn l G dm_Rm_character m_Rm_character (kI fun y' σ' => y' = yf ∧ σ' = σf) 0 [some (.inr (9, 0)), some (.inl x1), some (.inl x2), some (.inl x3), some (.inl x4)] [] σ := by
  unfold fb_Rm_character_0 at h
  obtain ⟨h1, h⟩ := kg_some h
  refine s_Rm_character_0 h1 (fun c => ?_) (fun c => ?_)
  · rw [if_pos c] at h
    exact e_Rm_character_30  h
  · rw [if_neg c] at h
    exact e_Rm_character_4  h
def f_Rm_character (x1 : Int) (x2 : Int) (x3 : Int) (x4 : Int) (σ : kS) : kRes := fb_Rm_character_0 x1 x2 x3 x4 σ
theorem E_Rm_character {l : Launch} {G : kG} {yf : Int} {σf : kS} {x1 : Int} {x2 : Int} {x3 : Int} {x4 : Int} {σ : kS} (h : f_Rm_character x1 x2 x3 x4 σ = some (some yf, σf)) : Call l G dm_Rm_character y_Rm_character m_Rm_character [.inr (9, 0), .inl x1, .inl x2, .inl x3, .inl x4] σ (kI fun y' σ' => y' = yf ∧ σ' = σf) := by
  unfold f_Rm_character at h
  exact Call.of (by decide +kernel) rfl (Nat.le_of_ble_eq_true rfl) (e_Rm_character_0 h)
/-! Rm_removeAt -/
def fb_Rm_removeAt_44  (x1 : Int) (x2 : Int) (x3 : Int) (σ : kS) : kRes := kg ((0 ≤ x1 ∧ x1 < (100 : Nat))) (some (none, kup σ 21 0 (Int.toNat x1) ((σ 21 0 (Int.toNat x1)) - 1)))
theorem e_Rm_removeAt_44 {l : Launch} {G : kG} {σf : kS}  {x1 : Int} {x2 : Int} {x3 : Int}  {σ : kS} (h : fb_Rm_removeAt_44  x1 x2 x3 σ = some (none, σf)) : Rn l G dm_Rm_removeAt m_Rm_removeAt (kU fun σ' => σ' = σf) 44 [some (.inr (9, 0)), some (.inl x1), some (.inl x2), some (.inl x3)] [] σ := by
  unfold fb_Rm_removeAt_44 at h
  obtain ⟨h1, h⟩ := kg_some h
  simp only [Option.some.injEq, Prod.mk.injEq, true_and] at h
  exact s_Rm_removeAt_44 h1 ⟨rfl, h⟩
def fb_Rm_removeAt_14 (k2 : Int → Int → Int → kS → kRes) (x1 : Int) (x2 : Int) (x3 : Int) (σ : kS) : kRes := kg ((0 ≤ ((20 * x1) + x3) + 1 ∧ ((20 * x1) + x3) + 1 < (2000 : Nat)) ∧ (0 ≤ (20 * x1) + x3 ∧ (20 * x1) + x3 < (2000 : Nat))) (k2 x1 x2 (x3 + 1) (kup σ 20 0 (Int.toNat ((20 * x1) + x3)) (σ 20 0 (Int.toNat (((20 * x1) + x3) + 1)))))
theorem e_Rm_removeAt_14 {l : Launch} {G : kG} {σf : kS} {k2 : Int → Int → Int → kS → kRes} (hk2 : ∀ (x1 : Int) (x2 : Int) (x3 : Int)  (σ : kS), k2 x1 x2 x3 σ = some (none, σf) → Rn l G dm_Rm_removeAt m_Rm_removeAt (kU fun σ' => σ' = σf) 2 [some (.inr (9, 0)), some (.inl x1), some (.inl x2), some (.inl x3)] [] σ) {x1 : Int} {x2 : Int} {x3 : Int}  {σ : kS} (h : fb_Rm_removeAt_14 k2 x1 x2 x3 σ = some (none, σf)) : Rn l G dm_Rm_removeAt m_Rm_removeAt (kU fun σ' => σ' = σf) 14 [some (.inr (9, 0)), some (.inl x1), some (.inl x2), some (.inl x3)] [] σ := by
  unfold fb_Rm_removeAt_14 at h
  obtain ⟨⟨h1, h2⟩, h⟩ := kg_some h
  refine s_Rm_removeAt_14 h1 h2 ?_
  exact hk2 _ _ _ _ h
def fb_Rm_removeAt_2 (k2 : Int → Int → Int → kS → kRes) (x1 : Int) (x2 : Int) (x3 : Int) (σ : kS) : kRes := kg ((0 ≤ x1 ∧ x1 < (100 : Nat)) ∧ (-2147483648 ≤ x3 + 1 ∧ x3 + 1 < 2147483648) ∧ (-2147483648 ≤ σ 21 0 (Int.toNat x1) ∧ σ 21 0 (Int.toNat x1) < 2147483648)) (if (σ 21 0 (Int.toNat x1)) ≤ (x3 + 1) then fb_Rm_removeAt_44  x1 x2 x3 σ else fb_Rm_removeAt_14 k2 x1 x2 x3 σ)
theorem e_Rm_removeAt_2 {l : Launch} {G : kG} {σf : kS} {k2 : Int → Int → Int → kS → kRes} (hk2 : ∀ (x1 : Int) (x2 : Int) (x3 : Int)  (σ : kS), k2 x1 x2 x3 σ = some (none, σf) → Rn l G dm_Rm_removeAt m_Rm_removeAt (kU fun σ' => σ' = σf) 2 [some (.inr (9, 0)), some (.inl x1), some (.inl x2), some (.inl x3)] [] σ) {x1 : Int} {x2 : Int} {x3 : Int}  {σ : kS} (h : fb_Rm_removeAt_2 k2 x1 x2 x3 σ = some (none, σf)) : Rn l G dm_Rm_removeAt m_Rm_removeAt (kU fun σ' => σ' = σf) 2 [some (.inr (9, 0)), some (.inl x1), some (.inl x2), some (.inl x3)] [] σ := by
  unfold fb_Rm_removeAt_2 at h
  obtain ⟨⟨h1, h2, h3⟩, h⟩ := kg_some h
  refine s_Rm_removeAt_2 h1 h2 h3 (fun c => ?_) (fun c => ?_)
  · rw [if_pos c] at h
    exact e_Rm_removeAt_44  h
  · rw [if_neg c] at h
    exact e_Rm_removeAt_14 hk2 h
def fl_Rm_removeAt_2  : Nat → Int → Int → Int → kS → kRes
  | 0, _, _, _, _ => none
  | n + 1, x1, x2, x3, σ => fb_Rm_removeAt_2 (fl_Rm_removeAt_2  n) x1 x2 x3 σ
theorem el_Rm_removeAt_2 {l : Launch} {G : kG} {σf : kS}  : ∀ (n : Nat) (x1 : Int) (x2 : Int) (x3 : Int)  (σ : kS), fl_Rm_removeAt_2  n x1 x2 x3 σ = some (none, σf) → Rn l G dm_Rm_removeAt m_Rm_removeAt (kU fun σ' => σ' = σf) 2 [some (.inr (9, 0)), some (.inl x1), some (.inl x2), some (.inl x3)] [] σ := by
  intro n
  induction n with
  | zero => intro x1 x2 x3 σ h; simp only [fl_Rm_removeAt_2] at h; cases h
  | succ n ih => intro x1 x2 x3 σ h; simp only [fl_Rm_removeAt_2] at h; exact e_Rm_removeAt_2 ih h
def fb_Rm_removeAt_0  (x1 : Int) (x2 : Int) (σ : kS) : kRes := fl_Rm_removeAt_2  3000 x1 x2 x2 σ
theorem e_Rm_removeAt_0 {l : Launch} {G : kG} {σf : kS}  {x1 : Int} {x2 : Int} {o3 : Option kV} {σ : kS} (h : fb_Rm_removeAt_0  x1 x2 σ = some (none, σf)) : Rn l G dm_Rm_removeAt m_Rm_removeAt (kU fun σ' => σ' = σf) 0 [some (.inr (9, 0)), some (.inl x1), some (.inl x2), o3] [] σ := by
  unfold fb_Rm_removeAt_0 at h
  refine s_Rm_removeAt_0  ?_
  exact el_Rm_removeAt_2  _ _ _ _ _ h
def f_Rm_removeAt (x1 : Int) (x2 : Int) (σ : kS) : kRes := fb_Rm_removeAt_0 x1 x2 σ
theorem E_Rm_removeAt {l : Launch} {G : kG} {σf : kS} {x1 : Int} {x2 : Int} {σ : kS} (h : f_Rm_removeAt x1 x2 σ = some (none, σf)) : Call l G dm_Rm_removeAt y_Rm_removeAt m_Rm_removeAt [.inr (9, 0), .inl x1, .inl x2] σ (kU fun σ' => σ' = σf) := by
  unfold f_Rm_removeAt at h
  exact Call.of (by decide +kernel) rfl (Nat.le_of_ble_eq_true rfl) (e_Rm_removeAt_0 h)
/-! Rm_characters -/
def fb_Rm_characters_118  (x1 : Int) (x2 : Int) (x3 : Int) (x4 : Int) (σ : kS) : kRes := some (some 3, σ)
theorem e_Rm_characters_118 {l : Launch} {G : kG} {yf : Int} {σf : kS}  {x1 : Int} {x2 : Int} {x3 : Int} {x4 : Int}  {σ : kS} (h : fb_Rm_characters_118  x1 x2 x3 x4 σ = some (some yf, σf)) : Rn l G dm_Rm_characters m_Rm_characters (kI fun y' σ' => y' = yf ∧ σ' = σf) 118 [some (.inr (9, 0)), some (.inl x1), some (.inl x2), some (.inl x3), some (.inl x4)] [] σ := by
  unfold fb_Rm_characters_118 at h
  simp only [Option.some.injEq, Prod.mk.injEq, true_and] at h
  exact s_Rm_characters_118  ⟨_, rfl, h⟩
def fb_Rm_characters_112  (x1 : Int) (x2 : Int) (x3 : Int) (x4 : Int) (σ : kS) : kRes := kbu (f_Rm_beginInsert x3 x1 σ) fun σ1 => fb_Rm_characters_118  x1 x2 x3 x4 σ1
theorem e_Rm_characters_112 {l : Launch} {G : kG} {yf : Int} {σf : kS}  {x1 : Int} {x2 : Int} {x3 : Int} {x4 : Int}  {σ : kS} (h : fb_Rm_characters_112  x1 x2 x3 x4 σ = some (some yf, σf)) : Rn l G dm_Rm_characters m_Rm_characters (kI fun y' σ' => y' = yf ∧ σ' = σf) 112 [some (.inr (9, 0)), some (.inl x1), some (.inl x2), some (.inl x3), some (.inl x4)] [] σ := by
  unfold fb_Rm_characters_112 at h
  obtain ⟨σ1, hc, h⟩ := kbu_some h
  refine s_Rm_characters_112  (by decide) (E_Rm_beginInsert hc) (fun σ2 e2 => ?_)
  subst e2
  exact e_Rm_characters_118  h
def fb_Rm_characters_96  (x1 : Int) (x2 : Int) (x3 : Int) (x4 : Int) (σ : kS) : kRes := kg ((-2147483648 ≤ (kup σ 24 0 0 x1) 9 0 8 ∧ (kup σ 24 0 0 x1) 9 0 8 < 2147483648)) (if ((kup σ 24 0 0 x1) 9 0 8) = 99 then fb_Rm_characters_112  x1 x2 x3 x4 (kup σ 24 0 0 x1) else fb_Rm_characters_118  x1 x2 x3 x4 (kup σ 24 0 0 x1))
theorem e_Rm_characters_96 {l : Launch} {G : kG} {yf : Int} {σf : kS}  {x1 : Int} {x2 : Int} {x3 : Int} {x4 : Int}  {σ : kS} (h : fb_Rm_characters_96  x1 x2 x3 x4 σ = some (some yf, σf)) : Rn l G dm_Rm_characters m_Rm_characters (kI fun y' σ' => y' = yf ∧ σ' = σf) 96 [some (.inr (9, 0)), some (.inl x1), some (.inl x2), some (.inl x3), some (.inl x4)] [] σ := by
  unfold fb_Rm_characters_96 at h
  obtain ⟨h1, h⟩ := kg_some h
  refine s_Rm_characters_96 h1 (fun c => ?_) (fun c => ?_)
  · rw [if_neg c] at h
    exact e_Rm_characters_118  h
  · rw [if_pos c] at h
    exact e_Rm_characters_112  h
def fb_Rm_characters_90 (k78 : Int → Int → Int → Int → kS → kRes) (x1 : Int) (x2 : Int) (x3 : Int) (x4 : Int) (σ : kS) : kRes := k78 x1 x2 x3 (x4 + 1) σ
theorem e_Rm_characters_90 {l : Launch} {G : kG} {yf : Int} {σf : kS} {k78 : Int → Int → Int → Int → kS → kRes} (hk78 : ∀ (x1 : Int) (x2 : Int) (x3 : Int) (x4 : Int)  (σ : kS), k78 x1 x2 x3 x4 σ = some (some yf, σf) → Rn l G dm_Rm_characters m_Rm_characters (kI fun y' σ' => y' = yf ∧ σ' = σf) 78 [some (.inr (9, 0)), some (.inl x1), some (.inl x2), some (.inl x3), some (.inl x4)] [] σ) {x1 : Int} {x2 : Int} {x3 : Int} {x4 : Int}  {σ : kS} (h : fb_Rm_characters_90 k78 x1 x2 x3 x4 σ = some (some yf, σf)) : Rn l G dm_Rm_characters m_Rm_characters (kI fun y' σ' => y' = yf ∧ σ' = σf) 90 [some (.inr (9, 0)), some (.inl x1), some (.inl x2), some (.inl x3), some (.inl x4)] [] σ := by
  unfold fb_Rm_characters_90 at h
  refine s_Rm_characters_90  ?_
  exact hk78 _ _ _ _ _ h
def fb_Rm_characters_84 (k78 : Int → Int → Int → Int → kS → kRes) (x1 : Int) (x2 : Int) (x3 : Int) (x4 : Int) (σ : kS) : kRes := kbu (f_Rm_removeAt x3 x1 σ) fun σ1 => fb_Rm_characters_90 k78 x1 x2 x3 x4 σ1
theorem e_Rm_characters_84 {l : Launch} {G : kG} {yf : Int} {σf : kS} {k78 : Int → Int → Int → Int → kS → kRes} (hk78 : ∀ (x1 : Int) (x2 : Int) (x3 : Int) (x4 : Int)  (σ : kS), k78 x1 x2 x3 x4 σ = some (some yf, σf) → Rn l G dm_Rm_characters m_Rm_characters (kI fun y' σ' => y' = yf ∧ σ' = σf) 78 [some (.inr (9, 0)), some (.inl x1), some (.inl x2), some (.inl x3), some (.inl x4)] [] σ) {x1 : Int} {x2 : Int} {x3 : Int} {x4 : Int}  {σ : kS} (h : fb_Rm_characters_84 k78 x1 x2 x3 x4 σ = some (some yf, σf)) : Rn l G dm_Rm_characters m_Rm_characters (kI fun y' σ' => y' = yf ∧ σ' = σf) 84 [some (.inr (9, 0)), some (.inl x1), some (.inl x2), some (.inl x3), some (.inl x4)] [] σ := by
  unfold fb_Rm_characters_84 at h
  obtain ⟨σ1, hc, h⟩ := kbu_some h
  refine s_Rm_characters_84  (by decide) (E_Rm_removeAt hc) (fun σ2 e2 => ?_)
  subst e2
  exact e_Rm_characters_90 hk78 h
def fb_Rm_characters_78 (k78 : Int → Int → Int → Int → kS → kRes) (x1 : Int) (x2 : Int) (x3 : Int) (x4 : Int) (σ : kS) : kRes := kg ((-2147483648 ≤ x4 ∧ x4 < 2147483648) ∧ (-2147483648 ≤ x2 ∧ x2 < 2147483648)) (if x2 ≤ x4 then fb_Rm_characters_96  x1 x2 x3 x4 σ else fb_Rm_characters_84 k78 x1 x2 x3 x4 σ)
theorem e_Rm_characters_78 {l : Launch} {G : kG} {yf : Int} {σf : kS} {k78 : Int → Int → Int → Int → kS → kRes} (hk78 : ∀ (x1 : Int) (x2 : Int) (x3 : Int) (x4 : Int)  (σ : kS), k78 x1 x2 x3 x4 σ = some (some yf, σf) → Rn l G dm_Rm_characters m_Rm_characters (kI fun y' σ' => y' = yf ∧ σ' = σf) 78 [some (.inr (9, 0)), some (.inl x1), some (.inl x2), some (.inl x3), some (.inl x4)] [] σ) {x1 : Int} {x2 : Int} {x3 : Int} {x4 : Int}  {σ : kS} (h : fb_Rm_characters_78 k78 x1 x2 x3 x4 σ = some (some yf, σf)) : Rn l G dm_Rm_characters m_Rm_characters (kI fun y' σ' => y' = yf ∧ σ' = σf) 78 [some (.inr (9, 0)), some (.inl x1), some (.inl x2), some (.inl x3), some (.inl x4)] [] σ := by
  unfold fb_Rm_characters_78 at h
  obtain ⟨⟨h1, h2⟩, h⟩ := kg_some h
  refine s_Rm_characters_78 h1 h2 (fun c => ?_) (fun c => ?_)
  · rw [if_pos c] at h
    exact e_Rm_characters_96  h
  · rw [if_neg c] at h
    exact e_Rm_characters_84 hk78 h
def fl_Rm_characters_78  : Nat → Int → Int → Int → Int → kS → kRes
  | 0, _, _, _, _, _ => none
  | n + 1, x1, x2, x3, x4, σ => fb_Rm_characters_78 (fl_Rm_characters_78  n) x1 x2 x3 x4 σ
theorem el_Rm_characters_78 {l : Launch} {G : kG} {yf : Int} {σf : kS}  : ∀ (n : Nat) (x1 : Int) (x2 : Int) (x3 : Int) (x4 : Int)  (σ : kS), fl_Rm_characters_78  n x1 x2 x3 x4 σ = some (some yf, σf) → Rn l G dm_Rm_characters m_Rm_characters (kI fun y' σ' => y' = yf ∧ σ' = σf) 78 [some (.inr (9, 0)), some (.inl x1), some (.inl x2), some (.inl x3), some (.inl x4)] [] σ := by
  intro n
  induction n with
  | zero => intro x1 x2 x3 x4 σ h; simp only [fl_Rm_characters_78] at h; cases h
  | succ n ih => intro x1 x2 x3 x4 σ h; simp only [fl_Rm_characters_78] at h; exact e_Rm_characters_78 ih h
def fb_Rm_characters_75  (x1 : Int) (x2 : Int) (x3 : Int) (x4 : Int) (σ : kS) : kRes := fl_Rm_characters_78  3000 x1 x2 x3 x1 σ
theorem e_Rm_characters_75 {l : Launch} {G : kG} {yf : Int} {σf : kS}  {x1 : Int} {x2 : Int} {x3 : Int} {x4 : Int}  {σ : kS} (h : fb_Rm_characters_75  x1 x2 x3 x4 σ = some (some yf, σf)) : Rn l G dm_Rm_characters m_Rm_characters (kI fun y' σ' => y' = yf ∧ σ' = σf) 75 [some (.inr (9, 0)), some (.inl x1), some (.inl x2), some (.inl x3), some (.inl x4)] [] σ := by
  unfold fb_Rm_characters_75 at h
  refine s_Rm_characters_75  ?_
  exact el_Rm_characters_78  _ _ _ _ _ _ h
def fb_Rm_characters_73  (x1 : Int) (x2 : Int) (x3 : Int) (x4 : Int) (σ : kS) : kRes := some (some 2, σ)
theorem e_Rm_characters_73 {l : Launch} {G : kG} {yf : Int} {σf : kS}  {x1 : Int} {x2 : Int} {x3 : Int} {x4 : Int}  {σ : kS} (h : fb_Rm_characters_73  x1 x2 x3 x4 σ = some (some yf, σf)) : Rn l G dm_Rm_characters m_Rm_characters (kI fun y' σ' => y' = yf ∧ σ' = σf) 73 [some (.inr (9, 0)), some (.inl x1), some (.inl x2), some (.inl x3), some (.inl x4)] [] σ := by
  unfold fb_Rm_characters_73 at h
  simp only [Option.some.injEq, Prod.mk.injEq, true_and] at h
  exact s_Rm_characters_73  ⟨_, rfl, h⟩
def fb_Rm_characters_64  (x1 : Int) (x2 : Int) (x3 : Int) (x4 : Int) (σ : kS) : kRes := kg ((-2147483648 ≤ σ 9 0 8 ∧ σ 9 0 8 < 2147483648)) (if (σ 9 0 8) = 121 then fb_Rm_characters_73  x1 x2 x3 x4 σ else fb_Rm_characters_75  x1 x2 x3 x4 σ)
theorem e_Rm_characters_64 {l : Launch} {G : kG} {yf : Int} {σf : kS}  {x1 : Int} {x2 : Int} {x3 : Int} {x4 : Int}  {σ : kS} (h : fb_Rm_characters_64  x1 x2 x3 x4 σ = some (some yf, σf)) : Rn l G dm_Rm_characters m_Rm_characters (kI fun y' σ' => y' = yf ∧ σ' = σf) 64 [some (.inr (9, 0)), some (.inl x1), some (.inl x2), some (.inl x3), some (.inl x4)] [] σ := by
  unfold fb_Rm_characters_64 at h
  obtain ⟨h1, h⟩ := kg_some h
  refine s_Rm_characters_64 h1 (fun c => ?_) (fun c => ?_)
  · rw [if_neg c] at h
    exact e_Rm_characters_75  h
  · rw [if_pos c] at h
    exact e_Rm_characters_73  h
def fb_Rm_characters_57 (k32 : Int → Int → Int → Int → kS → kRes) (x1 : Int) (x2 : Int) (x3 : Int) (x4 : Int) (s0 : Int) (s1 : Int) (σ : kS) : kRes := kg ((0 ≤ s1 ∧ s1 < (2000 : Nat))) (k32 x1 x2 x3 (x4 + 1) (kup σ 20 0 (Int.toNat s1) s0))
theorem e_Rm_characters_57 {l : Launch} {G : kG} {yf : Int} {σf : kS} {k32 : Int → Int → Int → Int → kS → kRes} (hk32 : ∀ (x1 : Int) (x2 : Int) (x3 : Int) (x4 : Int)  (σ : kS), k32 x1 x2 x3 x4 σ = some (some yf, σf) → Rn l G dm_Rm_characters m_Rm_characters (kI fun y' σ' => y' = yf ∧ σ' = σf) 32 [some (.inr (9, 0)), some (.inl x1), some (.inl x2), some (.inl x3), some (.inl x4)] [] σ) {x1 : Int} {x2 : Int} {x3 : Int} {x4 : Int} {s0 : Int} {s1 : Int}  {σ : kS} (h : fb_Rm_characters_57 k32 x1 x2 x3 x4 s0 s1 σ = some (some yf, σf)) : Rn l G dm_Rm_characters m_Rm_characters (kI fun y' σ' => y' = yf ∧ σ' = σf) 57 [some (.inr (9, 0)), some (.inl x1), some (.inl x2), some (.inl x3), some (.inl x4)] [.inl s0, .inl s1, .inr (20, 0)] σ := by
  unfold fb_Rm_characters_57 at h
  obtain ⟨h1, h⟩ := kg_some h
  refine s_Rm_characters_57 h1 ?_
  exact hk32 _ _ _ _ _ h
def fb_Rm_characters_38 (k32 : Int → Int → Int → Int → kS → kRes) (x1 : Int) (x2 : Int) (x3 : Int) (x4 : Int) (σ : kS) : kRes := kbi (f_Rm_at x3 x4 σ) fun y σ1 => fb_Rm_characters_57 k32 x1 x2 x3 x4 y ((800 + x4) - x1) σ1
theorem e_Rm_characters_38 {l : Launch} {G : kG} {yf : Int} {σf : kS} {k32 : Int → Int → Int → Int → kS → kRes} (hk32 : ∀ (x1 : Int) (x2 : Int) (x3 : Int) (x4 : Int)  (σ : kS), k32 x1 x2 x3 x4 σ = some (some yf, σf) → Rn l G dm_Rm_characters m_Rm_characters (kI fun y' σ' => y' = yf ∧ σ' = σf) 32 [some (.inr (9, 0)), some (.inl x1), some (.inl x2), some (.inl x3), some (.inl x4)] [] σ) {x1 : Int} {x2 : Int} {x3 : Int} {x4 : Int}  {σ : kS} (h : fb_Rm_characters_38 k32 x1 x2 x3 x4 σ = some (some yf, σf)) : Rn l G dm_Rm_characters m_Rm_characters (kI fun y' σ' => y' = yf ∧ σ' = σf) 38 [some (.inr (9, 0)), some (.inl x1), some (.inl x2), some (.inl x3), some (.inl x4)] [] σ := by
  unfold fb_Rm_characters_38 at h
  obtain ⟨y, σ1, hc, h⟩ := kbi_some h
  refine s_Rm_characters_38  (by decide) (E_Rm_at hc) (fun y2 σ2 e2 => ?_)
  obtain ⟨rfl, rfl⟩ := e2
  exact e_Rm_characters_57 hk32 h
def fb_Rm_characters_32 (k32 : Int → Int → Int → Int → kS → kRes) (x1 : Int) (x2 : Int) (x3 : Int) (x4 : Int) (σ : kS) : kRes := kg ((-2147483648 ≤ x4 ∧ x4 < 2147483648) ∧ (-2147483648 ≤ x2 ∧ x2 < 2147483648)) (if x2 ≤ x4 then fb_Rm_characters_64  x1 x2 x3 x4 σ else fb_Rm_characters_38 k32 x1 x2 x3 x4 σ)
theorem e_Rm_characters_32 {l : Launch} {G : kG} {yf : Int} {σf : kS} {k32 : Int → Int → Int → Int → kS → kRes} (hk32 : ∀ (x1 : Int) (x2 : Int) (x3 : Int) (x4 : Int)  (σ : kS), k32 x1 x2 x3 x4 σ = some (some yf, σf) → Rn l G dm_Rm_characters m_Rm_characters (kI fun y' σ' => y' = yf ∧ σ' = σf) 32 [some (.inr (9, 0)), some (.inl x1), some (.inl x2), some (.inl x3), some (.inl x4)] [] σ) {x1 : Int} {x2 : Int} {x3 : Int} {x4 : Int}  {σ : kS} (h : fb_Rm_characters_32 k32 x1 x2 x3 x4 σ = some (some yf, σf)) : Rn l G dm_Rm_characters m_Rm_characters (kI fun y' σ' => y' = yf ∧ σ' = σf) 32 [some (.inr (9, 0)), some (.inl x1), some (.inl x2), some (.inl x3), some (.inl x4)] [] σ := by
  unfold fb_Rm_characters_32 at h
  obtain ⟨⟨h1, h2⟩, h⟩ := kg_some h
  refine s_Rm_characters_32 h1 h2 (fun c => ?_) (fun c => ?_)
  · rw [if_pos c] at h
    exact e_Rm_characters_64  h
  · rw [if_neg c] at h
    exact e_Rm_characters_38 hk32 h
def fl_Rm_characters_32  : Nat → Int → Int → Int → Int → kS → kRes
  | 0, _, _, _, _, _ => none
  | n + 1, x1, x2, x3, x4, σ => fb_Rm_characters_32 (fl_Rm_characters_32  n) x1 x2 x3 x4 σ
theorem el_Rm_characters_32 {l : Launch} {G : kG} {yf : Int} {σf : kS}  : ∀ (n : Nat) (x1 : Int) (x2 : Int) (x3 : Int) (x4 : Int)  (σ : kS), fl_Rm_characters_32  n x1 x2 x3 x4 σ = some (some yf, σf) → Rn l G dm_Rm_characters m_Rm_characters (kI fun y' σ' => y' = yf ∧ σ' = σf) 32 [some (.inr (9, 0)), some (.inl x1), some (.inl x2), some (.inl x3), some (.inl x4)] [] σ := by
  intro n
  induction n with
  | zero => intro x1 x2 x3 x4 σ h; simp only [fl_Rm_characters_32] at h; cases h
  | succ n ih => intro x1 x2 x3 x4 σ h; simp only [fl_Rm_characters_32] at h; exact e_Rm_characters_32 ih h
def fb_Rm_characters_14  (x1 : Int) (x2 : Int) (x3 : Int) (σ : kS) : kRes := fl_Rm_characters_32  3000 x1 x2 x3 x1 (kup (kup σ 9 0 7 0) 21 0 40 (x2 - x1))
theorem e_Rm_characters_14 {l : Launch} {G : kG} {yf : Int} {σf : kS}  {x1 : Int} {x2 : Int} {x3 : Int} {o4 : Option kV} {σ : kS} (h : fb_Rm_characters_14  x1 x2 x3 σ = some (some yf, σf)) : Rn l G dm_Rm_characters m_Rm_characters (kI fun y' σ' => y' = yf ∧ σ' = σf) 14 [some (.inr (9, 0)), some (.inl x1), some (.inl x2), some (.inl x3), o4] [] σ := by
  unfold fb_Rm_characters_14 at h
  refine s_Rm_characters_14  ?_
  exact el_Rm_characters_32  _ _ _ _ _ _ h
def fb_Rm_characters_12  (x1 : Int) (x2 : Int) (x3 : Int) (σ : kS) : kRes := some (some 0, σ)
theorem e_Rm_characters_12 {l : Launch} {G : kG} {yf : Int} {σf : kS}  {x1 : Int} {x2 : Int} {x3 : Int} {o4 : Option kV} {σ : kS} (h : fb_Rm_characters_12  x1 x2 x3 σ = some (some yf, σf)) : Rn l G dm_Rm_characters m_Rm_characters (kI fun y' σ' => y' = yf ∧ σ' = σf) 12 [some (.inr (9, 0)), some (.inl x1), some (.inl x2), some (.inl x3), o4] [] σ := by
  unfold fb_Rm_characters_12 at h
  simp only [Option.some.injEq, Prod.mk.injEq, true_and] at h
  exact s_Rm_characters_12  ⟨_, rfl, h⟩
def fb_Rm_characters_0  (x1 : Int) (x2 : Int) (σ : kS) : kRes := kg ((-2147483648 ≤ x1 ∧ x1 < 2147483648) ∧ (-2147483648 ≤ x2 ∧ x2 < 2147483648)) (if x1 < x2 then fb_Rm_characters_14  x1 x2 (σ 23 0 0) σ else fb_Rm_characters_12  x1 x2 (σ 23 0 0) σ)
theorem e_Rm_characters_0 {l : Launch} {G : kG} {yf : Int} {σf : kS}  {x1 : Int} {x2 : Int} {o3 : Option kV} {o4 : Option kV} {σ : kS} (h : fb_Rm_characters_0  x1 x2 σ = some (some yf, σf)) : Rn l G dm_Rm_characters m_Rm_characters (kI fun y' σ' => y' = yf ∧ σ' = σf) 0 [some (.inr (9, 0)), some (.inl x1), some (.inl x2), o3, o4] [] σ := by
  unfold fb_Rm_characters_0 at h
  obtain ⟨⟨h1, h2⟩, h⟩ := kg_some h
  refine s_Rm_characters_0 h1 h2 (fun c => ?_) (fun c => ?_)
  · rw [if_pos c] at h
    exact e_Rm_characters_14  h
  · rw [if_neg c] at h
    exact e_Rm_characters_12  h
def f_Rm_characters (x1 : Int) (x2 : Int) (σ : kS) : kRes := fb_Rm_characters_0 x1 x2 σ
theorem E_Rm_characters {l : Launch} {G : kG} {yf : Int} {σf : kS} {x1 : Int} {x2 : Int} {σ : kS} (h : f_Rm_characters x1 x2 σ = some (some yf, σf)) : Call l G dm_Rm_characters y_Rm_characters m_Rm_characters [.inr (9, 0), .inl x1, .inl x2] σ (kI fun y' σ' => y' = yf ∧ σ' = σf) := by
  unfold f_Rm_characters at h
  exact Call.of (by decide +kernel) rfl (Nat.le_of_ble_eq_true rfl) (e_Rm_characters_0 h)
/-! Rm_clip -/
def fb_Rm_clip_57  (x1 : Int) (s0 : Int) (s1 : Int) (σ : kS) : kRes := kg ((0 ≤ s1 ∧ s1 < (10 : Nat))) (some (none, kup σ 24 0 (Int.toNat s1) s0))
theorem e_Rm_clip_57 {l : Launch} {G : kG} {σf : kS}  {x1 : Int} {s0 : Int} {s1 : Int}  {σ : kS} (h : fb_Rm_clip_57  x1 s0 s1 σ = some (none, σf)) : Rn l G dm_Rm_clip m_Rm_clip (kU fun σ' => σ' = σf) 57 [some (.inr (9, 0)), some (.inl x1)] [.inl s0, .inl s1, .inr (24, 0)] σ := by
  unfold fb_Rm_clip_57 at h
  obtain ⟨h1, h⟩ := kg_some h
  simp only [Option.some.injEq, Prod.mk.injEq, true_and] at h
  exact s_Rm_clip_57 h1 ⟨rfl, h⟩
def fb_Rm_clip_51  (x1 : Int) (s0 : Int) (σ : kS) : kRes := fb_Rm_clip_57  x1 (σ 24 0 0) s0 σ
theorem e_Rm_clip_51 {l : Launch} {G : kG} {σf : kS}  {x1 : Int} {s0 : Int}  {σ : kS} (h : fb_Rm_clip_51  x1 s0 σ = some (none, σf)) : Rn l G dm_Rm_clip m_Rm_clip (kU fun σ' => σ' = σf) 51 [some (.inr (9, 0)), some (.inl x1)] [.inl s0, .inr (24, 0)] σ := by
  unfold fb_Rm_clip_51 at h
  refine s_Rm_clip_51  ?_
  exact e_Rm_clip_57  h
def fb_Rm_clip_47  (x1 : Int) (s0 : Int) (σ : kS) : kRes := fb_Rm_clip_57  x1 x1 s0 σ
theorem e_Rm_clip_47 {l : Launch} {G : kG} {σf : kS}  {x1 : Int} {s0 : Int}  {σ : kS} (h : fb_Rm_clip_47  x1 s0 σ = some (none, σf)) : Rn l G dm_Rm_clip m_Rm_clip (kU fun σ' => σ' = σf) 47 [some (.inr (9, 0)), some (.inl x1)] [.inl s0, .inr (24, 0)] σ := by
  unfold fb_Rm_clip_47 at h
  refine s_Rm_clip_47  ?_
  exact e_Rm_clip_57  h
def fb_Rm_clip_31  (s0 : Int) (σ : kS) : kRes := kg ((-2147483648 ≤ σ 24 0 0 ∧ σ 24 0 0 < 2147483648) ∧ (-2147483648 ≤ s0 ∧ s0 < 2147483648)) (if (σ 24 0 0) ≤ s0 then fb_Rm_clip_51  s0 0 σ else fb_Rm_clip_47  s0 0 σ)
theorem e_Rm_clip_31 {l : Launch} {G : kG} {σf : kS}  {s0 : Int} {o1 : Option kV} {σ : kS} (h : fb_Rm_clip_31  s0 σ = some (none, σf)) : Rn l G dm_Rm_clip m_Rm_clip (kU fun σ' => σ' = σf) 31 [some (.inr (9, 0)), o1] [.inl s0] σ := by
  unfold fb_Rm_clip_31 at h
  obtain ⟨⟨h1, h2⟩, h⟩ := kg_some h
  refine s_Rm_clip_31 h1 h2 (fun c => ?_) (fun c => ?_)
  · rw [if_pos c] at h
    exact e_Rm_clip_51  h
  · rw [if_neg c] at h
    exact e_Rm_clip_47  h
def fb_Rm_clip_30   (σ : kS) : kRes := fb_Rm_clip_31  0 σ
theorem e_Rm_clip_30 {l : Launch} {G : kG} {σf : kS}   {o1 : Option kV} {σ : kS} (h : fb_Rm_clip_30   σ = some (none, σf)) : Rn l G dm_Rm_clip m_Rm_clip (kU fun σ' => σ' = σf) 30 [some (.inr (9, 0)), o1] [] σ := by
  unfold fb_Rm_clip_30 at h
  refine s_Rm_clip_30  ?_
  exact e_Rm_clip_31  h
def fb_Rm_clip_14   (σ : kS) : kRes := kg ((0 ≤ σ 23 0 0 ∧ σ 23 0 0 < (100 : Nat))) (fb_Rm_clip_31  ((σ 21 0 (Int.toNat (σ 23 0 0))) - 1) σ)
theorem e_Rm_clip_14 {l : Launch} {G : kG} {σf : kS}   {o1 : Option kV} {σ : kS} (h : fb_Rm_clip_14   σ = some (none, σf)) : Rn l G dm_Rm_clip m_Rm_clip (kU fun σ' => σ' = σf) 14 [some (.inr (9, 0)), o1] [] σ := by
  unfold fb_Rm_clip_14 at h
  obtain ⟨h1, h⟩ := kg_some h
  refine s_Rm_clip_14 h1 ?_
  exact e_Rm_clip_31  h
def fb_Rm_clip_0   (σ : kS) : kRes := kg ((0 ≤ σ 23 0 0 ∧ σ 23 0 0 < (100 : Nat)) ∧ (-2147483648 ≤ σ 21 0 (Int.toNat (σ 23 0 0)) ∧ σ 21 0 (Int.toNat (σ 23 0 0)) < 2147483648)) (if (σ 21 0 (Int.toNat (σ 23 0 0))) ≤ 0 then fb_Rm_clip_30  σ else fb_Rm_clip_14  σ)
theorem e_Rm_clip_0 {l : Launch} {G : kG} {σf : kS}   {o1 : Option kV} {σ : kS} (h : fb_Rm_clip_0   σ = some (none, σf)) : Rn l G dm_Rm_clip m_Rm_clip (kU fun σ' => σ' = σf) 0 [some (.inr (9, 0)), o1] [] σ := by
  unfold fb_Rm_clip_0 at h
  obtain ⟨⟨h1, h2⟩, h⟩ := kg_some h
  refine s_Rm_clip_0 h1 h2 (fun c => ?_) (fun c => ?_)
  · rw [if_pos c] at h
    exact e_Rm_clip_30  h
  · rw [if_neg c] at h
    exact e_Rm_clip_14  h
def f_Rm_clip  (σ : kS) : kRes := fb_Rm_clip_0  σ
theorem E_Rm_clip {l : Launch} {G : kG} {σf : kS}  {σ : kS} (h : f_Rm_clip  σ = some (none, σf)) : Call l G dm_Rm_clip y_Rm_clip m_Rm_clip [.inr (9, 0)] σ (kU fun σ' => σ' = σf) := by
  unfold f_Rm_clip at h
  exact Call.of (by decide +kernel) rfl (Nat.le_of_ble_eq_true rfl) (e_Rm_clip_0 h)
/-! Rm_kindOf -/
def fb_Rm_kindOf_67  (x1 : Int) (x2 : Int) (s0 : Int) (σ : kS) : kRes := some (some s0, σ)
theorem e_Rm_kindOf_67 {l : Launch} {G : kG} {yf : Int} {σf : kS}  {x1 : Int} {x2 : Int} {s0 : Int}  {σ : kS} (h : fb_Rm_kindOf_67  x1 x2 s0 σ = some (some yf, σf)) : Rn l G dm_Rm_kindOf m_Rm_kindOf (kI fun y' σ' => y' = yf ∧ σ' = σf) 67 [some (.inr (9, 0)), some (.inl x1), some (.inl x2)] [.inl s0] σ := by
  unfold fb_Rm_kindOf_67 at h
  simp only [Option.some.injEq, Prod.mk.injEq, true_and] at h
  exact s_Rm_kindOf_67  ⟨_, rfl, h⟩
def fb_Rm_kindOf_66  (x1 : Int) (x2 : Int) (σ : kS) : kRes := fb_Rm_kindOf_67  x1 x2 2 σ
theorem e_Rm_kindOf_66 {l : Launch} {G : kG} {yf : Int} {σf : kS}  {x1 : Int} {x2 : Int}  {σ : kS} (h : fb_Rm_kindOf_66  x1 x2 σ = some (some yf, σf)) : Rn l G dm_Rm_kindOf m_Rm_kindOf (kI fun y' σ' => y' = yf ∧ σ' = σf) 66 [some (.inr (9, 0)), some (.inl x1), some (.inl x2)] [] σ := by
  unfold fb_Rm_kindOf_66 at h
  refine s_Rm_kindOf_66  ?_
  exact e_Rm_kindOf_67  h
def fb_Rm_kindOf_62  (x1 : Int) (x2 : Int) (σ : kS) : kRes := fb_Rm_kindOf_67  x1 x2 1 σ
theorem e_Rm_kindOf_62 {l : Launch} {G : kG} {yf : Int} {σf : kS}  {x1 : Int} {x2 : Int}  {σ : kS} (h : fb_Rm_kindOf_62  x1 x2 σ = some (some yf, σf)) : Rn l G dm_Rm_kindOf m_Rm_kindOf (kI fun y' σ' => y' = yf ∧ σ' = σf) 62 [some (.inr (9, 0)), some (.inl x1), some (.inl x2)] [] σ := by
  unfold fb_Rm_kindOf_62 at h
  refine s_Rm_kindOf_62  ?_
  exact e_Rm_kindOf_67  h
def fb_Rm_kindOf_58  (x1 : Int) (x2 : Int) (σ : kS) : kRes := kg ((-2147483648 ≤ x2 ∧ x2 < 2147483648)) (if x2 = 0 then fb_Rm_kindOf_66  x1 x2 σ else fb_Rm_kindOf_62  x1 x2 σ)
theorem e_Rm_kindOf_58 {l : Launch} {G : kG} {yf : Int} {σf : kS}  {x1 : Int} {x2 : Int}  {σ : kS} (h : fb_Rm_kindOf_58  x1 x2 σ = some (some yf, σf)) : Rn l G dm_Rm_kindOf m_Rm_kindOf (kI fun y' σ' => y' = yf ∧ σ' = σf) 58 [some (.inr (9, 0)), some (.inl x1), some (.inl x2)] [] σ := by
  unfold fb_Rm_kindOf_58 at h
  obtain ⟨h1, h⟩ := kg_some h
  refine s_Rm_kindOf_58 h1 (fun c => ?_) (fun c => ?_)
  · rw [if_pos c] at h
    exact e_Rm_kindOf_66  h
  · rw [if_neg c] at h
    exact e_Rm_kindOf_62  h
def fb_Rm_kindOf_54  (x1 : Int) (x2 : Int) (σ : kS) : kRes := fb_Rm_kindOf_67  x1 x2 0 σ
theorem e_Rm_kindOf_54 {l : Launch} {G : kG} {yf : Int} {σf : kS}  {x1 : Int} {x2 : Int}  {σ : kS} (h : fb_Rm_kindOf_54  x1 x2 σ = some (some yf, σf)) : Rn l G dm_Rm_kindOf m_Rm_kindOf (kI fun y' σ' => y' = yf ∧ σ' = σf) 54 [some (.inr (9, 0)), some (.inl x1), some (.inl x2)] [] σ := by
  unfold fb_Rm_kindOf_54 at h
  refine s_Rm_kindOf_54  ?_
  exact e_Rm_kindOf_67  h
def fb_Rm_kindOf_47  (x1 : Int) (s0 : Int) (σ : kS) : kRes := kg ((-2147483648 ≤ x1 ∧ x1 < 2147483648)) (if x1 = 32 then fb_Rm_kindOf_54  x1 s0 σ else fb_Rm_kindOf_58  x1 s0 σ)
theorem e_Rm_kindOf_47 {l : Launch} {G : kG} {yf : Int} {σf : kS}  {x1 : Int} {s0 : Int} {o2 : Option kV} {σ : kS} (h : fb_Rm_kindOf_47  x1 s0 σ = some (some yf, σf)) : Rn l G dm_Rm_kindOf m_Rm_kindOf (kI fun y' σ' => y' = yf ∧ σ' = σf) 47 [some (.inr (9, 0)), some (.inl x1), o2] [.inl s0] σ := by
  unfold fb_Rm_kindOf_47 at h
  obtain ⟨h1, h⟩ := kg_some h
  refine s_Rm_kindOf_47 h1 (fun c => ?_) (fun c => ?_)
  · rw [if_neg c] at h
    exact e_Rm_kindOf_58  h
  · rw [if_pos c] at h
    exact e_Rm_kindOf_54  h
def fb_Rm_kindOf_46  (x1 : Int) (σ : kS) : kRes := fb_Rm_kindOf_47  x1 0 σ
theorem e_Rm_kindOf_46 {l : Launch} {G : kG} {yf : Int} {σf : kS}  {x1 : Int} {o2 : Option kV} {σ : kS} (h : fb_Rm_kindOf_46  x1 σ = some (some yf, σf)) : Rn l G dm_Rm_kindOf m_Rm_kindOf (kI fun y' σ' => y' = yf ∧ σ' = σf) 46 [some (.inr (9, 0)), some (.inl x1), o2] [] σ := by
  unfold fb_Rm_kindOf_46 at h
  refine s_Rm_kindOf_46  ?_
  exact e_Rm_kindOf_47  h
def fb_Rm_kindOf_42  (x1 : Int) (σ : kS) : kRes := fb_Rm_kindOf_47  x1 1 σ
theorem e_Rm_kindOf_42 {l : Launch} {G : kG} {yf : Int} {σf : kS}  {x1 : Int} {o2 : Option kV} {σ : kS} (h : fb_Rm_kindOf_42  x1 σ = some (some yf, σf)) : Rn l G dm_Rm_kindOf m_Rm_kindOf (kI fun y' σ' => y' = yf ∧ σ' = σf) 42 [some (.inr (9, 0)), some (.inl x1), o2] [] σ := by
  unfold fb_Rm_kindOf_42 at h
  refine s_Rm_kindOf_42  ?_
  exact e_Rm_kindOf_47  h
def fb_Rm_kindOf_36  (x1 : Int) (σ : kS) : kRes := kg ((-2147483648 ≤ x1 ∧ x1 < 2147483648)) (if x1 = 95 then fb_Rm_kindOf_42  x1 σ else fb_Rm_kindOf_46  x1 σ)
theorem e_Rm_kindOf_36 {l : Launch} {G : kG} {yf : Int} {σf : kS}  {x1 : Int} {o2 : Option kV} {σ : kS} (h : fb_Rm_kindOf_36  x1 σ = some (some yf, σf)) : Rn l G dm_Rm_kindOf m_Rm_kindOf (kI fun y' σ' => y' = yf ∧ σ' = σf) 36 [some (.inr (9, 0)), some (.inl x1), o2] [] σ := by
  unfold fb_Rm_kindOf_36 at h
  obtain ⟨h1, h⟩ := kg_some h
  refine s_Rm_kindOf_36 h1 (fun c => ?_) (fun c => ?_)
  · rw [if_neg c] at h
    exact e_Rm_kindOf_46  h
  · rw [if_pos c] at h
    exact e_Rm_kindOf_42  h
def fb_Rm_kindOf_30  (x1 : Int) (σ : kS) : kRes := kg ((-2147483648 ≤ x1 ∧ x1 < 2147483648)) (if x1 ≤ 57 then fb_Rm_kindOf_42  x1 σ else fb_Rm_kindOf_36  x1 σ)
theorem e_Rm_kindOf_30 {l : Launch} {G : kG} {yf : Int} {σf : kS}  {x1 : Int} {o2 : Option kV} {σ : kS} (h : fb_Rm_kindOf_30  x1 σ = some (some yf, σf)) : Rn l G dm_Rm_kindOf m_Rm_kindOf (kI fun y' σ' => y' = yf ∧ σ' = σf) 30 [some (.inr (9, 0)), some (.inl x1), o2] [] σ := by
  unfold fb_Rm_kindOf_30 at h
  obtain ⟨h1, h⟩ := kg_some h
  refine s_Rm_kindOf_30 h1 (fun c => ?_) (fun c => ?_)
  · rw [if_pos c] at h
    exact e_Rm_kindOf_42  h
  · rw [if_neg c] at h
    exact e_Rm_kindOf_36  h
def fb_Rm_kindOf_24  (x1 : Int) (σ : kS) : kRes := kg ((-2147483648 ≤ x1 ∧ x1 < 2147483648)) (if x1 < 48 then fb_Rm_kindOf_36  x1 σ else fb_Rm_kindOf_30  x1 σ)
theorem e_Rm_kindOf_24 {l : Launch} {G : kG} {yf : Int} {σf : kS}  {x1 : Int} {o2 : Option kV} {σ : kS} (h : fb_Rm_kindOf_24  x1 σ = some (some yf, σf)) : Rn l G dm_Rm_kindOf m_Rm_kindOf (kI fun y' σ' => y' = yf ∧ σ' = σf) 24 [some (.inr (9, 0)), some (.inl x1), o2] [] σ := by
  unfold fb_Rm_kindOf_24 at h
  obtain ⟨h1, h⟩ := kg_some h
  refine s_Rm_kindOf_24 h1 (fun c => ?_) (fun c => ?_)
  · rw [if_pos c] at h
    exact e_Rm_kindOf_36  h
  · rw [if_neg c] at h
    exact e_Rm_kindOf_30  h
def fb_Rm_kindOf_18  (x1 : Int) (σ : kS) : kRes := kg ((-2147483648 ≤ x1 ∧ x1 < 2147483648)) (if x1 ≤ 90 then fb_Rm_kindOf_42  x1 σ else fb_Rm_kindOf_24  x1 σ)
theorem e_Rm_kindOf_18 {l : Launch} {G : kG} {yf : Int} {σf : kS}  {x1 : Int} {o2 : Option kV} {σ : kS} (h : fb_Rm_kindOf_18  x1 σ = some (some yf, σf)) : Rn l G dm_Rm_kindOf m_Rm_kindOf (kI fun y' σ' => y' = yf ∧ σ' = σf) 18 [some (.inr (9, 0)), some (.inl x1), o2] [] σ := by
  unfold fb_Rm_kindOf_18 at h
  obtain ⟨h1, h⟩ := kg_some h
  refine s_Rm_kindOf_18 h1 (fun c => ?_) (fun c => ?_)
  · rw [if_pos c] at h
    exact e_Rm_kindOf_42  h
  · rw [if_neg c] at h
    exact e_Rm_kindOf_24  h
def fb_Rm_kindOf_12  (x1 : Int) (σ : kS) : kRes := kg ((-2147483648 ≤ x1 ∧ x1 < 2147483648)) (if x1 < 65 then fb_Rm_kindOf_24  x1 σ else fb_Rm_kindOf_18  x1 σ)
theorem e_Rm_kindOf_12 {l : Launch} {G : kG} {yf : Int} {σf : kS}  {x1 : Int} {o2 : Option kV} {σ : kS} (h : fb_Rm_kindOf_12  x1 σ = some (some yf, σf)) : Rn l G dm_Rm_kindOf m_Rm_kindOf (kI fun y' σ' => y' = yf ∧ σ' = σf) 12 [some (.inr (9, 0)), some (.inl x1), o2] [] σ := by
  unfold fb_Rm_kindOf_12 at h
  obtain ⟨h1, h⟩ := kg_some h
  refine s_Rm_kindOf_12 h1 (fun c => ?_) (fun c => ?_)
  · rw [if_pos c] at h
    exact e_Rm_kindOf_24  h
  · rw [if_neg c] at h
    exact e_Rm_kindOf_18  h
def fb_Rm_kindOf_6  (x1 : Int) (σ : kS) : kRes := kg ((-2147483648 ≤ x1 ∧ x1 < 2147483648)) (if x1 ≤ 122 then fb_Rm_kindOf_42  x1 σ else fb_Rm_kindOf_12  x1 σ)
theorem e_Rm_kindOf_6 {l : Launch} {G : kG} {yf : Int} {σf : kS}  {x1 : Int} {o2 : Option kV} {σ : kS} (h : fb_Rm_kindOf_6  x1 σ = some (some yf, σf)) : Rn l G dm_Rm_kindOf m_Rm_kindOf (kI fun y' σ' => y' = yf ∧ σ' = σf) 6 [some (.inr (9, 0)), some (.inl x1), o2] [] σ := by
  unfold fb_Rm_kindOf_6 at h
  obtain ⟨h1, h⟩ := kg_some h
  refine s_Rm_kindOf_6 h1 (fun c => ?_) (fun c => ?_)
  · rw [if_pos c] at h
    exact e_Rm_kindOf_42  h
  · rw [if_neg c] at h
    exact e_Rm_kindOf_12  h
def fb_Rm_kindOf_0  (x1 : Int) (σ : kS) : kRes := kg ((-2147483648 ≤ x1 ∧ x1 < 2147483648)) (if x1 < 97 then fb_Rm_kindOf_12  x1 σ else fb_Rm_kindOf_6  x1 σ)
theorem e_Rm_kindOf_0 {l : Launch} {G : kG} {yf : Int} {σf : kS}  {x1 : Int} {o2 : Option kV} {σ : kS} (h : fb_Rm_kindOf_0  x1 σ = some (some yf, σf)) : Rn l G dm_Rm_kindOf m_Rm_kindOf (kI fun y' σ' => y' = yf ∧ σ' = σf) 0 [some (.inr (9, 0)), some (.inl x1), o2] [] σ := by
  unfold fb_Rm_kindOf_0 at h
  obtain ⟨h1, h⟩ := kg_some h
  refine s_Rm_kindOf_0 h1 (fun c => ?_) (fun c => ?_)
  · rw [if_pos c] at h
    exact e_Rm_kindOf_12  h
  · rw [if_neg c] at h
    exact e_Rm_kindOf_6  h
def f_Rm_kindOf (x1 : Int) (σ : kS) : kRes := fb_Rm_kindOf_0 x1 σ
theorem E_Rm_kindOf {l : Launch} {G : kG} {yf : Int} {σf : kS} {x1 : Int} {σ : kS} (h : f_Rm_kindOf x1 σ = some (some yf, σf)) : Call l G dm_Rm_kindOf y_Rm_kindOf m_Rm_kindOf [.inr (9, 0), .inl x1] σ (kI fun y' σ' => y' = yf ∧ σ' = σf) := by
  unfold f_Rm_kindOf at h
  exact Call.of (by decide +kernel) rfl (Nat.le_of_ble_eq_true rfl) (e_Rm_kindOf_0 h)
/-! Rm_stop -/
def fb_Rm_stop_59  (x1 : Int) (x2 : Int) (x3 : Int) (s0 : Int) (σ : kS) : kRes := kg ((s0 = 0 ∨ s0 = 1)) (some (some s0, σ))
theorem e_Rm_stop_59 {l : Launch} {G : kG} {yf : Int} {σf : kS}  {x1 : Int} {x2 : Int} {x3 : Int} {s0 : Int}  {σ : kS} (h : fb_Rm_stop_59  x1 x2 x3 s0 σ = some (some yf, σf)) : Rn l G dm_Rm_stop m_Rm_stop (kI fun y' σ' => y' = yf ∧ σ' = σf) 59 [some (.inr (9, 0)), some (.inl x1), some (.inl x2), some (.inl x3)] [.inl s0] σ := by
  unfold fb_Rm_stop_59 at h
  obtain ⟨h1, h⟩ := kg_some h
  simp only [Option.some.injEq, Prod.mk.injEq, true_and] at h
  exact s_Rm_stop_59 h1 ⟨_, rfl, h⟩
def fb_Rm_stop_58  (x1 : Int) (x2 : Int) (x3 : Int) (σ : kS) : kRes := fb_Rm_stop_59  x1 x2 x3 0 σ
theorem e_Rm_stop_58 {l : Launch} {G : kG} {yf : Int} {σf : kS}  {x1 : Int} {x2 : Int} {x3 : Int}  {σ : kS} (h : fb_Rm_stop_58  x1 x2 x3 σ = some (some yf, σf)) : Rn l G dm_Rm_stop m_Rm_stop (kI fun y' σ' => y' = yf ∧ σ' = σf) 58 [some (.inr (9, 0)), some (.inl x1), some (.inl x2), some (.inl x3)] [] σ := by
  unfold fb_Rm_stop_58 at h
  refine s_Rm_stop_58  ?_
  exact e_Rm_stop_59  h
def fb_Rm_stop_54  (x1 : Int) (x2 : Int) (x3 : Int) (σ : kS) : kRes := fb_Rm_stop_59  x1 x2 x3 1 σ
theorem e_Rm_stop_54 {l : Launch} {G : kG} {yf : Int} {σf : kS}  {x1 : Int} {x2 : Int} {x3 : Int}  {σ : kS} (h : fb_Rm_stop_54  x1 x2 x3 σ = some (some yf, σf)) : Rn l G dm_Rm_stop m_Rm_stop (kI fun y' σ' => y' = yf ∧ σ' = σf) 54 [some (.inr (9, 0)), some (.inl x1), some (.inl x2), some (.inl x3)] [] σ := by
  unfold fb_Rm_stop_54 at h
  refine s_Rm_stop_54  ?_
  exact e_Rm_stop_59  h
def fb_Rm_stop_50  (x1 : Int) (x2 : Int) (x3 : Int) (s0 : Int) (σ : kS) : kRes := kg ((-2147483648 ≤ s0 ∧ s0 < 2147483648) ∧ (-2147483648 ≤ x3 ∧ x3 < 2147483648)) (if s0 = x3 then fb_Rm_stop_58  x1 x2 x3 σ else fb_Rm_stop_54  x1 x2 x3 σ)
theorem e_Rm_stop_50 {l : Launch} {G : kG} {yf : Int} {σf : kS}  {x1 : Int} {x2 : Int} {x3 : Int} {s0 : Int}  {σ : kS} (h : fb_Rm_stop_50  x1 x2 x3 s0 σ = some (some yf, σf)) : Rn l G dm_Rm_stop m_Rm_stop (kI fun y' σ' => y' = yf ∧ σ' = σf) 50 [some (.inr (9, 0)), some (.inl x1), some (.inl x2), some (.inl x3)] [.inl s0] σ := by
  unfold fb_Rm_stop_50 at h
  obtain ⟨⟨h1, h2⟩, h⟩ := kg_some h
  refine s_Rm_stop_50 h1 h2 (fun c => ?_) (fun c => ?_)
  · rw [if_pos c] at h
    exact e_Rm_stop_58  h
  · rw [if_neg c] at h
    exact e_Rm_stop_54  h
def fb_Rm_stop_47  (x1 : Int) (x2 : Int) (x3 : Int) (s0 : Int) (σ : kS) : kRes := kbi (f_Rm_kindOf s0 σ) fun y σ1 => fb_Rm_stop_50  x1 x2 x3 y σ1
theorem e_Rm_stop_47 {l : Launch} {G : kG} {yf : Int} {σf : kS}  {x1 : Int} {x2 : Int} {x3 : Int} {s0 : Int}  {σ : kS} (h : fb_Rm_stop_47  x1 x2 x3 s0 σ = some (some yf, σf)) : Rn l G dm_Rm_stop m_Rm_stop (kI fun y' σ' => y' = yf ∧ σ' = σf) 47 [some (.inr (9, 0)), some (.inl x1), some (.inl x2), some (.inl x3)] [.inl s0, .inr (9, 0)] σ := by
  unfold fb_Rm_stop_47 at h
  obtain ⟨y, σ1, hc, h⟩ := kbi_some h
  refine s_Rm_stop_47  (by decide) (E_Rm_kindOf hc) (fun y2 σ2 e2 => ?_)
  obtain ⟨rfl, rfl⟩ := e2
  exact e_Rm_stop_50  h
def fb_Rm_stop_38  (x1 : Int) (x2 : Int) (x3 : Int) (σ : kS) : kRes := kbi (f_Rm_at x1 (x2 - 1) σ) fun y σ1 => fb_Rm_stop_47  x1 x2 x3 y σ1
theorem e_Rm_stop_38 {l : Launch} {G : kG} {yf : Int} {σf : kS}  {x1 : Int} {x2 : Int} {x3 : Int}  {σ : kS} (h : fb_Rm_stop_38  x1 x2 x3 σ = some (some yf, σf)) : Rn l G dm_Rm_stop m_Rm_stop (kI fun y' σ' => y' = yf ∧ σ' = σf) 38 [some (.inr (9, 0)), some (.inl x1), some (.inl x2), some (.inl x3)] [] σ := by
  unfold fb_Rm_stop_38 at h
  obtain ⟨y, σ1, hc, h⟩ := kbi_some h
  refine s_Rm_stop_38  (by decide) (E_Rm_at hc) (fun y2 σ2 e2 => ?_)
  obtain ⟨rfl, rfl⟩ := e2
  exact e_Rm_stop_47  h
def fb_Rm_stop_34  (x1 : Int) (x2 : Int) (x3 : Int) (σ : kS) : kRes := kg ((-2147483648 ≤ x2 ∧ x2 < 2147483648)) (if x2 = 0 then fb_Rm_stop_54  x1 x2 x3 σ else fb_Rm_stop_38  x1 x2 x3 σ)
theorem e_Rm_stop_34 {l : Launch} {G : kG} {yf : Int} {σf : kS}  {x1 : Int} {x2 : Int} {x3 : Int}  {σ : kS} (h : fb_Rm_stop_34  x1 x2 x3 σ = some (some yf, σf)) : Rn l G dm_Rm_stop m_Rm_stop (kI fun y' σ' => y' = yf ∧ σ' = σf) 34 [some (.inr (9, 0)), some (.inl x1), some (.inl x2), some (.inl x3)] [] σ := by
  unfold fb_Rm_stop_34 at h
  obtain ⟨h1, h⟩ := kg_some h
  refine s_Rm_stop_34 h1 (fun c => ?_) (fun c => ?_)
  · rw [if_pos c] at h
    exact e_Rm_stop_54  h
  · rw [if_neg c] at h
    exact e_Rm_stop_38  h
def fb_Rm_stop_29  (x1 : Int) (x2 : Int) (s0 : Int) (σ : kS) : kRes := kg ((-2147483648 ≤ s0 ∧ s0 < 2147483648)) (if s0 ≤ 0 then fb_Rm_stop_58  x1 x2 s0 σ else fb_Rm_stop_34  x1 x2 s0 σ)
theorem e_Rm_stop_29 {l : Launch} {G : kG} {yf : Int} {σf : kS}  {x1 : Int} {x2 : Int} {s0 : Int} {o3 : Option kV} {σ : kS} (h : fb_Rm_stop_29  x1 x2 s0 σ = some (some yf, σf)) : Rn l G dm_Rm_stop m_Rm_stop (kI fun y' σ' => y' = yf ∧ σ' = σf) 29 [some (.inr (9, 0)), some (.inl x1), some (.inl x2), o3] [.inl s0] σ := by
  unfold fb_Rm_stop_29 at h
  obtain ⟨h1, h⟩ := kg_some h
  refine s_Rm_stop_29 h1 (fun c => ?_) (fun c => ?_)
  · rw [if_pos c] at h
    exact e_Rm_stop_58  h
  · rw [if_neg c] at h
    exact e_Rm_stop_34  h
def fb_Rm_stop_26  (x1 : Int) (x2 : Int) (s0 : Int) (σ : kS) : kRes := kbi (f_Rm_kindOf s0 σ) fun y σ1 => fb_Rm_stop_29  x1 x2 y σ1
theorem e_Rm_stop_26 {l : Launch} {G : kG} {yf : Int} {σf : kS}  {x1 : Int} {x2 : Int} {s0 : Int} {o3 : Option kV} {σ : kS} (h : fb_Rm_stop_26  x1 x2 s0 σ = some (some yf, σf)) : Rn l G dm_Rm_stop m_Rm_stop (kI fun y' σ' => y' = yf ∧ σ' = σf) 26 [some (.inr (9, 0)), some (.inl x1), some (.inl x2), o3] [.inl s0, .inr (9, 0)] σ := by
  unfold fb_Rm_stop_26 at h
  obtain ⟨y, σ1, hc, h⟩ := kbi_some h
  refine s_Rm_stop_26  (by decide) (E_Rm_kindOf hc) (fun y2 σ2 e2 => ?_)
  obtain ⟨rfl, rfl⟩ := e2
  exact e_Rm_stop_29  h
def fb_Rm_stop_19  (x1 : Int) (x2 : Int) (σ : kS) : kRes := kbi (f_Rm_at x1 x2 σ) fun y σ1 => fb_Rm_stop_26  x1 x2 y σ1
theorem e_Rm_stop_19 {l : Launch} {G : kG} {yf : Int} {σf : kS}  {x1 : Int} {x2 : Int} {o3 : Option kV} {σ : kS} (h : fb_Rm_stop_19  x1 x2 σ = some (some yf, σf)) : Rn l G dm_Rm_stop m_Rm_stop (kI fun y' σ' => y' = yf ∧ σ' = σf) 19 [some (.inr (9, 0)), some (.inl x1), some (.inl x2), o3] [] σ := by
  unfold fb_Rm_stop_19 at h
  obtain ⟨y, σ1, hc, h⟩ := kbi_some h
  refine s_Rm_stop_19  (by decide) (E_Rm_at hc) (fun y2 σ2 e2 => ?_)
  obtain ⟨rfl, rfl⟩ := e2
  exact e_Rm_stop_26  h
def fb_Rm_stop_18  (x1 : Int) (x2 : Int) (s0 : Int) (σ : kS) : kRes := kg ((s0 = 0 ∨ s0 = 1)) (some (some s0, σ))
theorem e_Rm_stop_18 {l : Launch} {G : kG} {yf : Int} {σf : kS}  {x1 : Int} {x2 : Int} {s0 : Int} {o3 : Option kV} {σ : kS} (h : fb_Rm_stop_18  x1 x2 s0 σ = some (some yf, σf)) : Rn l G dm_Rm_stop m_Rm_stop (kI fun y' σ' => y' = yf ∧ σ' = σf) 18 [some (.inr (9, 0)), some (.inl x1), some (.inl x2), o3] [.inl s0] σ := by
  unfold fb_Rm_stop_18 at h
  obtain ⟨h1, h⟩ := kg_some h
  simp only [Option.some.injEq, Prod.mk.injEq, true_and] at h
  exact s_Rm_stop_18 h1 ⟨_, rfl, h⟩
def fb_Rm_stop_17  (x1 : Int) (x2 : Int) (σ : kS) : kRes := fb_Rm_stop_18  x1 x2 0 σ
theorem e_Rm_stop_17 {l : Launch} {G : kG} {yf : Int} {σf : kS}  {x1 : Int} {x2 : Int} {o3 : Option kV} {σ : kS} (h : fb_Rm_stop_17  x1 x2 σ = some (some yf, σf)) : Rn l G dm_Rm_stop m_Rm_stop (kI fun y' σ' => y' = yf ∧ σ' = σf) 17 [some (.inr (9, 0)), some (.inl x1), some (.inl x2), o3] [] σ := by
  unfold fb_Rm_stop_17 at h
  refine s_Rm_stop_17  ?_
  exact e_Rm_stop_18  h
def fb_Rm_stop_13  (x1 : Int) (x2 : Int) (σ : kS) : kRes := fb_Rm_stop_18  x1 x2 1 σ
theorem e_Rm_stop_13 {l : Launch} {G : kG} {yf : Int} {σf : kS}  {x1 : Int} {x2 : Int} {o3 : Option kV} {σ : kS} (h : fb_Rm_stop_13  x1 x2 σ = some (some yf, σf)) : Rn l G dm_Rm_stop m_Rm_stop (kI fun y' σ' => y' = yf ∧ σ' = σf) 13 [some (.inr (9, 0)), some (.inl x1), some (.inl x2), o3] [] σ := by
  unfold fb_Rm_stop_13 at h
  refine s_Rm_stop_13  ?_
  exact e_Rm_stop_18  h
def fb_Rm_stop_9  (x1 : Int) (x2 : Int) (σ : kS) : kRes := kg ((-2147483648 ≤ x2 ∧ x2 < 2147483648)) (if x2 = 0 then fb_Rm_stop_13  x1 x2 σ else fb_Rm_stop_17  x1 x2 σ)
theorem e_Rm_stop_9 {l : Launch} {G : kG} {yf : Int} {σf : kS}  {x1 : Int} {x2 : Int} {o3 : Option kV} {σ : kS} (h : fb_Rm_stop_9  x1 x2 σ = some (some yf, σf)) : Rn l G dm_Rm_stop m_Rm_stop (kI fun y' σ' => y' = yf ∧ σ' = σf) 9 [some (.inr (9, 0)), some (.inl x1), some (.inl x2), o3] [] σ := by
  unfold fb_Rm_stop_9 at h
  obtain ⟨h1, h⟩ := kg_some h
  refine s_Rm_stop_9 h1 (fun c => ?_) (fun c => ?_)
  · rw [if_neg c] at h
    exact e_Rm_stop_17  h
  · rw [if_pos c] at h
    exact e_Rm_stop_13  h
def fb_Rm_stop_0  (x1 : Int) (x2 : Int) (σ : kS) : kRes := kg ((0 ≤ x1 ∧ x1 < (100 : Nat)) ∧ (-2147483648 ≤ σ 21 0 (Int.toNat x1) ∧ σ 21 0 (Int.toNat x1) < 2147483648)) (if (σ 21 0 (Int.toNat x1)) = 0 then fb_Rm_stop_9  x1 x2 σ else fb_Rm_stop_19  x1 x2 σ)
theorem e_Rm_stop_0 {l : Launch} {G : kG} {yf : Int} {σf : kS}  {x1 : Int} {x2 : Int} {o3 : Option kV} {σ : kS} (h : fb_Rm_stop_0  x1 x2 σ = some (some yf, σf)) : Rn l G dm_Rm_stop m_Rm_stop (kI fun y' σ' => y' = yf ∧ σ' = σf) 0 [some (.inr (9, 0)), some (.inl x1), some (.inl x2), o3] [] σ := by
  unfold fb_Rm_stop_0 at h
  obtain ⟨⟨h1, h2⟩, h⟩ := kg_some h
  refine s_Rm_stop_0 h1 h2 (fun c => ?_) (fun c => ?_)
  · rw [if_neg c] at h
    exact e_Rm_stop_19  h
  · rw [if_pos c] at h
    exact e_Rm_stop_9  h
def f_Rm_stop (x1 : Int) (x2 : Int) (σ : kS) : kRes := fb_Rm_stop_0 x1 x2 σ
theorem E_Rm_stop {l : Launch} {G : kG} {yf : Int} {σf : kS} {x1 : Int} {x2 : Int} {σ : kS} (h : f_Rm_stop x1 x2 σ = some (some yf, σf)) : Call l G dm_Rm_stop y_Rm_stop m_Rm_stop [.inr (9, 0), .inl x1, .inl x2] σ (kI fun y' σ' => y' = yf ∧ σ' = σf) := by
  unfold f_Rm_stop at h
  exact Call.of (by decide +kernel) rfl (Nat.le_of_ble_eq_true rfl) (e_Rm_stop_0 h)
/-! Rm_toStop -/
def fb_Rm_toStop_171  (x1 : Int) (x2 : Int) (x3 : Int) (x4 : Int) (x5 : Int) (σ : kS) : kRes := some (some 0, σ)
theorem e_Rm_toStop_171 {l : Launch} {G : kG} {yf : Int} {σf : kS}  {x1 : Int} {x2 : Int} {x3 : Int} {x4 : Int} {x5 : Int} {o6 : Option kV} {o7 : Option kV} {σ : kS} (h : fb_Rm_toStop_171  x1 x2 x3 x4 x5 σ = some (some yf, σf)) : Rn l G dm_Rm_toStop m_Rm_toStop (kI fun y' σ' => y' = yf ∧ σ' = σf) 171 [some (.inr (9, 0)), some (.inl x1), some (.inl x2), some (.inl x3), some (.inl x4), some (.inl x5), o6, o7] [] σ := by
  unfold fb_Rm_toStop_171 at h
  simp only [Option.some.injEq, Prod.mk.injEq, true_and] at h
  exact s_Rm_toStop_171  ⟨_, rfl, h⟩
def fb_Rm_toStop_166 (k20 : Int → Int → Int → Int → Int → kS → kRes) (x1 : Int) (x2 : Int) (x3 : Int) (x4 : Int) (x5 : Int) (x6 : Int) (x7 : Int) (s0 : Int) (σ : kS) : kRes := k20 x1 x2 x3 s0 x5 σ
theorem e_Rm_toStop_166 {l : Launch} {G : kG} {yf : Int} {σf : kS} {k20 : Int → Int → Int → Int → Int → kS → kRes} (hk20 : ∀ (x1 : Int) (x2 : Int) (x3 : Int) (x4 : Int) (x5 : Int) (o6 : Option kV) (o7 : Option kV) (σ : kS), k20 x1 x2 x3 x4 x5 σ = some (some yf, σf) → Rn l G dm_Rm_toStop m_Rm_toStop (kI fun y' σ' => y' = yf ∧ σ' = σf) 20 [some (.inr (9, 0)), some (.inl x1), some (.inl x2), some (.inl x3), some (.inl x4), some (.inl x5), o6, o7] [] σ) {x1 : Int} {x2 : Int} {x3 : Int} {x4 : Int} {x5 : Int} {x6 : Int} {x7 : Int} {s0 : Int}  {σ : kS} (h : fb_Rm_toStop_166 k20 x1 x2 x3 x4 x5 x6 x7 s0 σ = some (some yf, σf)) : Rn l G dm_Rm_toStop m_Rm_toStop (kI fun y' σ' => y' = yf ∧ σ' = σf) 166 [some (.inr (9, 0)), some (.inl x1), some (.inl x2), some (.inl x3), some (.inl x4), some (.inl x5), some (.inl x6), some (.inl x7)] [.inl s0] σ := by
  unfold fb_Rm_toStop_166 at h
  refine s_Rm_toStop_166  ?_
  exact hk20 _ _ _ _ _ _ _ _ h
def fb_Rm_toStop_165 (k20 : Int → Int → Int → Int → Int → kS → kRes) (x1 : Int) (x2 : Int) (x3 : Int) (x4 : Int) (x5 : Int) (x6 : Int) (x7 : Int) (σ : kS) : kRes := fb_Rm_toStop_166 k20 x1 x2 x3 x4 x5 x6 x7 0 σ
theorem e_Rm_toStop_165 {l : Launch} {G : kG} {yf : Int} {σf : kS} {k20 : Int → Int → Int → Int → Int → kS → kRes} (hk20 : ∀ (x1 : Int) (x2 : Int) (x3 : Int) (x4 : Int) (x5 : Int) (o6 : Option kV) (o7 : Option kV) (σ : kS), k20 x1 x2 x3 x4 x5 σ = some (some yf, σf) → Rn l G dm_Rm_toStop m_Rm_toStop (kI fun y' σ' => y' = yf ∧ σ' = σf) 20 [some (.inr (9, 0)), some (.inl x1), some (.inl x2), some (.inl x3), some (.inl x4), some (.inl x5), o6, o7] [] σ) {x1 : Int} {x2 : Int} {x3 : Int} {x4 : Int} {x5 : Int} {x6 : Int} {x7 : Int}  {σ : kS} (h : fb_Rm_toStop_165 k20 x1 x2 x3 x4 x5 x6 x7 σ = some (some yf, σf)) : Rn l G dm_Rm_toStop m_Rm_toStop (kI fun y' σ' => y' = yf ∧ σ' = σf) 165 [some (.inr (9, 0)), some (.inl x1), some (.inl x2), some (.inl x3), some (.inl x4), some (.inl x5), some (.inl x6), some (.inl x7)] [] σ := by
  unfold fb_Rm_toStop_165 at h
  refine s_Rm_toStop_165  ?_
  exact e_Rm_toStop_166 hk20 h
def fb_Rm_toStop_154 (k20 : Int → Int → Int → Int → Int → kS → kRes) (x1 : Int) (x2 : Int) (x3 : Int) (x4 : Int) (x5 : Int) (x6 : Int) (x7 : Int) (σ : kS) : kRes := kg ((0 ≤ x3 ∧ x3 < (100 : Nat))) (fb_Rm_toStop_166 k20 x1 x2 x3 x4 x5 x6 x7 ((σ 21 0 (Int.toNat x3)) - 1) σ)
theorem e_Rm_toStop_154 {l : Launch} {G : kG} {yf : Int} {σf : kS} {k20 : Int → Int → Int → Int → Int → kS → kRes} (hk20 : ∀ (x1 : Int) (x2 : Int) (x3 : Int) (x4 : Int) (x5 : Int) (o6 : Option kV) (o7 : Option kV) (σ : kS), k20 x1 x2 x3 x4 x5 σ = some (some yf, σf) → Rn l G dm_Rm_toStop m_Rm_toStop (kI fun y' σ' => y' = yf ∧ σ' = σf) 20 [some (.inr (9, 0)), some (.inl x1), some (.inl x2), some (.inl x3), some (.inl x4), some (.inl x5), o6, o7] [] σ) {x1 : Int} {x2 : Int} {x3 : Int} {x4 : Int} {x5 : Int} {x6 : Int} {x7 : Int}  {σ : kS} (h : fb_Rm_toStop_154 k20 x1 x2 x3 x4 x5 x6 x7 σ = some (some yf, σf)) : Rn l G dm_Rm_toStop m_Rm_toStop (kI fun y' σ' => y' = yf ∧ σ' = σf) 154 [some (.inr (9, 0)), some (.inl x1), some (.inl x2), some (.inl x3), some (.inl x4), some (.inl x5), some (.inl x6), some (.inl x7)] [] σ := by
  unfold fb_Rm_toStop_154 at h
  obtain ⟨h1, h⟩ := kg_some h
  refine s_Rm_toStop_154 h1 ?_
  exact e_Rm_toStop_166 hk20 h
def fb_Rm_toStop_145 (k20 : Int → Int → Int → Int → Int → kS → kRes) (x1 : Int) (x2 : Int) (x3 : Int) (x4 : Int) (x5 : Int) (x6 : Int) (x7 : Int) (σ : kS) : kRes := kg ((0 ≤ x3 ∧ x3 < (100 : Nat)) ∧ (-2147483648 ≤ σ 21 0 (Int.toNat x3) ∧ σ 21 0 (Int.toNat x3) < 2147483648)) (if (σ 21 0 (Int.toNat x3)) ≤ 0 then fb_Rm_toStop_165 k20 x1 x2 x3 x4 x5 x6 x7 σ else fb_Rm_toStop_154 k20 x1 x2 x3 x4 x5 x6 x7 σ)
theorem e_Rm_toStop_145 {l : Launch} {G : kG} {yf : Int} {σf : kS} {k20 : Int → Int → Int → Int → Int → kS → kRes} (hk20 : ∀ (x1 : Int) (x2 : Int) (x3 : Int) (x4 : Int) (x5 : Int) (o6 : Option kV) (o7 : Option kV) (σ : kS), k20 x1 x2 x3 x4 x5 σ = some (some yf, σf) → Rn l G dm_Rm_toStop m_Rm_toStop (kI fun y' σ' => y' = yf ∧ σ' = σf) 20 [some (.inr (9, 0)), some (.inl x1), some (.inl x2), some (.inl x3), some (.inl x4), some (.inl x5), o6, o7] [] σ) {x1 : Int} {x2 : Int} {x3 : Int} {x4 : Int} {x5 : Int} {x6 : Int} {x7 : Int}  {σ : kS} (h : fb_Rm_toStop_145 k20 x1 x2 x3 x4 x5 x6 x7 σ = some (some yf, σf)) : Rn l G dm_Rm_toStop m_Rm_toStop (kI fun y' σ' => y' = yf ∧ σ' = σf) 145 [some (.inr (9, 0)), some (.inl x1), some (.inl x2), some (.inl x3), some (.inl x4), some (.inl x5), some (.inl x6), some (.inl x7)] [] σ := by
  unfold fb_Rm_toStop_145 at h
  obtain ⟨⟨h1, h2⟩, h⟩ := kg_some h
  refine s_Rm_toStop_145 h1 h2 (fun c => ?_) (fun c => ?_)
  · rw [if_pos c] at h
    exact e_Rm_toStop_165 hk20 h
  · rw [if_neg c] at h
    exact e_Rm_toStop_154 hk20 h
def fb_Rm_toStop_141 (k20 : Int → Int → Int → Int → Int → kS → kRes) (x1 : Int) (x2 : Int) (x3 : Int) (x4 : Int) (x5 : Int) (x6 : Int) (x7 : Int) (σ : kS) : kRes := fb_Rm_toStop_166 k20 x1 x2 x3 x4 x5 x6 x7 0 σ
theorem e_Rm_toStop_141 {l : Launch} {G : kG} {yf : Int} {σf : kS} {k20 : Int → Int → Int → Int → Int → kS → kRes} (hk20 : ∀ (x1 : Int) (x2 : Int) (x3 : Int) (x4 : Int) (x5 : Int) (o6 : Option kV) (o7 : Option kV) (σ : kS), k20 x1 x2 x3 x4 x5 σ = some (some yf, σf) → Rn l G dm_Rm_toStop m_Rm_toStop (kI fun y' σ' => y' = yf ∧ σ' = σf) 20 [some (.inr (9, 0)), some (.inl x1), some (.inl x2), some (.inl x3), some (.inl x4), some (.inl x5), o6, o7] [] σ) {x1 : Int} {x2 : Int} {x3 : Int} {x4 : Int} {x5 : Int} {x6 : Int} {x7 : Int}  {σ : kS} (h : fb_Rm_toStop_141 k20 x1 x2 x3 x4 x5 x6 x7 σ = some (some yf, σf)) : Rn l G dm_Rm_toStop m_Rm_toStop (kI fun y' σ' => y' = yf ∧ σ' = σf) 141 [some (.inr (9, 0)), some (.inl x1), some (.inl x2), some (.inl x3), some (.inl x4), some (.inl x5), some (.inl x6), some (.inl x7)] [] σ := by
  unfold fb_Rm_toStop_141 at h
  refine s_Rm_toStop_141  ?_
  exact e_Rm_toStop_166 hk20 h
def fb_Rm_toStop_136 (k20 : Int → Int → Int → Int → Int → kS → kRes) (x1 : Int) (x2 : Int) (x3 : Int) (x4 : Int) (x5 : Int) (x6 : Int) (x7 : Int) (σ : kS) : kRes := kg ((-2147483648 ≤ x7 ∧ x7 < 2147483648)) (if x7 = 0 then fb_Rm_toStop_141 k20 x1 x2 x3 x4 x5 x6 x7 σ else fb_Rm_toStop_145 k20 x1 x2 x3 x4 x5 x6 x7 σ)
theorem e_Rm_toStop_136 {l : Launch} {G : kG} {yf : Int} {σf : kS} {k20 : Int → Int → Int → Int → Int → kS → kRes} (hk20 : ∀ (x1 : Int) (x2 : Int) (x3 : Int) (x4 : Int) (x5 : Int) (o6 : Option kV) (o7 : Option kV) (σ : kS), k20 x1 x2 x3 x4 x5 σ = some (some yf, σf) → Rn l G dm_Rm_toStop m_Rm_toStop (kI fun y' σ' => y' = yf ∧ σ' = σf) 20 [some (.inr (9, 0)), some (.inl x1), some (.inl x2), some (.inl x3), some (.inl x4), some (.inl x5), o6, o7] [] σ) {x1 : Int} {x2 : Int} {x3 : Int} {x4 : Int} {x5 : Int} {x6 : Int} {x7 : Int}  {σ : kS} (h : fb_Rm_toStop_136 k20 x1 x2 x3 x4 x5 x6 x7 σ = some (some yf, σf)) : Rn l G dm_Rm_toStop m_Rm_toStop (kI fun y' σ' => y' = yf ∧ σ' = σf) 136 [some (.inr (9, 0)), some (.inl x1), some (.inl x2), some (.inl x3), some (.inl x4), some (.inl x5), some (.inl x6), some (.inl x7)] [] σ := by
  unfold fb_Rm_toStop_136 at h
  obtain ⟨h1, h⟩ := kg_some h
  refine s_Rm_toStop_136 h1 (fun c => ?_) (fun c => ?_)
  · rw [if_neg c] at h
    exact e_Rm_toStop_145 hk20 h
  · rw [if_pos c] at h
    exact e_Rm_toStop_141 hk20 h
def fb_Rm_toStop_130 (k20 : Int → Int → Int → Int → Int → kS → kRes) (x1 : Int) (x2 : Int) (x3 : Int) (x4 : Int) (x5 : Int) (x6 : Int) (s0 : Int) (σ : kS) : kRes := kg ((-2147483648 ≤ x2 ∧ x2 < 2147483648)) (if 0 < x2 then fb_Rm_toStop_141 k20 x1 x2 x3 x4 x5 x6 s0 σ else fb_Rm_toStop_136 k20 x1 x2 x3 x4 x5 x6 s0 σ)
theorem e_Rm_toStop_130 {l : Launch} {G : kG} {yf : Int} {σf : kS} {k20 : Int → Int → Int → Int → Int → kS → kRes} (hk20 : ∀ (x1 : Int) (x2 : Int) (x3 : Int) (x4 : Int) (x5 : Int) (o6 : Option kV) (o7 : Option kV) (σ : kS), k20 x1 x2 x3 x4 x5 σ = some (some yf, σf) → Rn l G dm_Rm_toStop m_Rm_toStop (kI fun y' σ' => y' = yf ∧ σ' = σf) 20 [some (.inr (9, 0)), some (.inl x1), some (.inl x2), some (.inl x3), some (.inl x4), some (.inl x5), o6, o7] [] σ) {x1 : Int} {x2 : Int} {x3 : Int} {x4 : Int} {x5 : Int} {x6 : Int} {s0 : Int} {o7 : Option kV} {σ : kS} (h : fb_Rm_toStop_130 k20 x1 x2 x3 x4 x5 x6 s0 σ = some (some yf, σf)) : Rn l G dm_Rm_toStop m_Rm_toStop (kI fun y' σ' => y' = yf ∧ σ' = σf) 130 [some (.inr (9, 0)), some (.inl x1), some (.inl x2), some (.inl x3), some (.inl x4), some (.inl x5), some (.inl x6), o7] [.inl s0] σ := by
  unfold fb_Rm_toStop_130 at h
  obtain ⟨h1, h⟩ := kg_some h
  refine s_Rm_toStop_130 h1 (fun c => ?_) (fun c => ?_)
  · rw [if_pos c] at h
    exact e_Rm_toStop_141 hk20 h
  · rw [if_neg c] at h
    exact e_Rm_toStop_136 hk20 h
def fb_Rm_toStop_129 (k20 : Int → Int → Int → Int → Int → kS → kRes) (x1 : Int) (x2 : Int) (x3 : Int) (x4 : Int) (x5 : Int) (x6 : Int) (σ : kS) : kRes := fb_Rm_toStop_130 k20 x1 x2 x3 x4 x5 x6 0 σ
theorem e_Rm_toStop_129 {l : Launch} {G : kG} {yf : Int} {σf : kS} {k20 : Int → Int → Int → Int → Int → kS → kRes} (hk20 : ∀ (x1 : Int) (x2 : Int) (x3 : Int) (x4 : Int) (x5 : Int) (o6 : Option kV) (o7 : Option kV) (σ : kS), k20 x1 x2 x3 x4 x5 σ = some (some yf, σf) → Rn l G dm_Rm_toStop m_Rm_toStop (kI fun y' σ' => y' = yf ∧ σ' = σf) 20 [some (.inr (9, 0)), some (.inl x1), some (.inl x2), some (.inl x3), some (.inl x4), some (.inl x5), o6, o7] [] σ) {x1 : Int} {x2 : Int} {x3 : Int} {x4 : Int} {x5 : Int} {x6 : Int} {o7 : Option kV} {σ : kS} (h : fb_Rm_toStop_129 k20 x1 x2 x3 x4 x5 x6 σ = some (some yf, σf)) : Rn l G dm_Rm_toStop m_Rm_toStop (kI fun y' σ' => y' = yf ∧ σ' = σf) 129 [some (.inr (9, 0)), some (.inl x1), some (.inl x2), some (.inl x3), some (.inl x4), some (.inl x5), some (.inl x6), o7] [] σ := by
  unfold fb_Rm_toStop_129 at h
  refine s_Rm_toStop_129  ?_
  exact e_Rm_toStop_130 hk20 h
def fb_Rm_toStop_125 (k20 : Int → Int → Int → Int → Int → kS → kRes) (x1 : Int) (x2 : Int) (x3 : Int) (x4 : Int) (x5 : Int) (x6 : Int) (σ : kS) : kRes := fb_Rm_toStop_130 k20 x1 x2 x3 x4 x5 x6 1 σ
theorem e_Rm_toStop_125 {l : Launch} {G : kG} {yf : Int} {σf : kS} {k20 : Int → Int → Int → Int → Int → kS → kRes} (hk20 : ∀ (x1 : Int) (x2 : Int) (x3 : Int) (x4 : Int) (x5 : Int) (o6 : Option kV) (o7 : Option kV) (σ : kS), k20 x1 x2 x3 x4 x5 σ = some (some yf, σf) → Rn l G dm_Rm_toStop m_Rm_toStop (kI fun y' σ' => y' = yf ∧ σ' = σf) 20 [some (.inr (9, 0)), some (.inl x1), some (.inl x2), some (.inl x3), some (.inl x4), some (.inl x5), o6, o7] [] σ) {x1 : Int} {x2 : Int} {x3 : Int} {x4 : Int} {x5 : Int} {x6 : Int} {o7 : Option kV} {σ : kS} (h : fb_Rm_toStop_125 k20 x1 x2 x3 x4 x5 x6 σ = some (some yf, σf)) : Rn l G dm_Rm_toStop m_Rm_toStop (kI fun y' σ' => y' = yf ∧ σ' = σf) 125 [some (.inr (9, 0)), some (.inl x1), some (.inl x2), some (.inl x3), some (.inl x4), some (.inl x5), some (.inl x6), o7] [] σ := by
  unfold fb_Rm_toStop_125 at h
  refine s_Rm_toStop_125  ?_
  exact e_Rm_toStop_130 hk20 h
def fb_Rm_toStop_115 (k20 : Int → Int → Int → Int → Int → kS → kRes) (x1 : Int) (x2 : Int) (x3 : Int) (x4 : Int) (x5 : Int) (x6 : Int) (σ : kS) : kRes := kg ((-2147483648 ≤ x3 ∧ x3 < 2147483648) ∧ (-2147483648 ≤ σ 22 0 0 ∧ σ 22 0 0 < 2147483648)) (if (σ 22 0 0) ≤ x3 then fb_Rm_toStop_129 k20 x1 x2 x3 x4 x5 x6 σ else fb_Rm_toStop_125 k20 x1 x2 x3 x4 x5 x6 σ)
theorem e_Rm_toStop_115 {l : Launch} {G : kG} {yf : Int} {σf : kS} {k20 : Int → Int → Int → Int → Int → kS → kRes} (hk20 : ∀ (x1 : Int) (x2 : Int) (x3 : Int) (x4 : Int) (x5 : Int) (o6 : Option kV) (o7 : Option kV) (σ : kS), k20 x1 x2 x3 x4 x5 σ = some (some yf, σf) → Rn l G dm_Rm_toStop m_Rm_toStop (kI fun y' σ' => y' = yf ∧ σ' = σf) 20 [some (.inr (9, 0)), some (.inl x1), some (.inl x2), some (.inl x3), some (.inl x4), some (.inl x5), o6, o7] [] σ) {x1 : Int} {x2 : Int} {x3 : Int} {x4 : Int} {x5 : Int} {x6 : Int} {o7 : Option kV} {σ : kS} (h : fb_Rm_toStop_115 k20 x1 x2 x3 x4 x5 x6 σ = some (some yf, σf)) : Rn l G dm_Rm_toStop m_Rm_toStop (kI fun y' σ' => y' = yf ∧ σ' = σf) 115 [some (.inr (9, 0)), some (.inl x1), some (.inl x2), some (.inl x3), some (.inl x4), some (.inl x5), some (.inl x6), o7] [] σ := by
  unfold fb_Rm_toStop_115 at h
  obtain ⟨⟨h1, h2⟩, h⟩ := kg_some h
  refine s_Rm_toStop_115 h1 h2 (fun c => ?_) (fun c => ?_)
  · rw [if_pos c] at h
    exact e_Rm_toStop_129 hk20 h
  · rw [if_neg c] at h
    exact e_Rm_toStop_125 hk20 h
def fb_Rm_toStop_107 (k20 : Int → Int → Int → Int → Int → kS → kRes) (x1 : Int) (x2 : Int) (x3 : Int) (x4 : Int) (x5 : Int) (x6 : Int) (σ : kS) : kRes := kg ((-2147483648 ≤ x3 + x2 ∧ x3 + x2 < 2147483648)) (if (x3 + x2) < 0 then fb_Rm_toStop_129 k20 x1 x2 (x3 + x2) x4 x5 x6 σ else fb_Rm_toStop_115 k20 x1 x2 (x3 + x2) x4 x5 x6 σ)
theorem e_Rm_toStop_107 {l : Launch} {G : kG} {yf : Int} {σf : kS} {k20 : Int → Int → Int → Int → Int → kS → kRes} (hk20 : ∀ (x1 : Int) (x2 : Int) (x3 : Int) (x4 : Int) (x5 : Int) (o6 : Option kV) (o7 : Option kV) (σ : kS), k20 x1 x2 x3 x4 x5 σ = some (some yf, σf) → Rn l G dm_Rm_toStop m_Rm_toStop (kI fun y' σ' => y' = yf ∧ σ' = σf) 20 [some (.inr (9, 0)), some (.inl x1), some (.inl x2), some (.inl x3), some (.inl x4), some (.inl x5), o6, o7] [] σ) {x1 : Int} {x2 : Int} {x3 : Int} {x4 : Int} {x5 : Int} {x6 : Int} {o7 : Option kV} {σ : kS} (h : fb_Rm_toStop_107 k20 x1 x2 x3 x4 x5 x6 σ = some (some yf, σf)) : Rn l G dm_Rm_toStop m_Rm_toStop (kI fun y' σ' => y' = yf ∧ σ' = σf) 107 [some (.inr (9, 0)), some (.inl x1), some (.inl x2), some (.inl x3), some (.inl x4), some (.inl x5), some (.inl x6), o7] [] σ := by
  unfold fb_Rm_toStop_107 at h
  obtain ⟨h1, h⟩ := kg_some h
  refine s_Rm_toStop_107 h1 (fun c => ?_) (fun c => ?_)
  · rw [if_pos c] at h
    exact e_Rm_toStop_129 hk20 h
  · rw [if_neg c] at h
    exact e_Rm_toStop_115 hk20 h
def fb_Rm_toStop_98 (k55 : Int → Int → Int → Int → Int → Int → kS → kRes) (x1 : Int) (x2 : Int) (x3 : Int) (x4 : Int) (x5 : Int) (x6 : Int) (σ : kS) : kRes := k55 x1 x2 x3 (x4 + x2) x5 x6 σ
theorem e_Rm_toStop_98 {l : Launch} {G : kG} {yf : Int} {σf : kS} {k55 : Int → Int → Int → Int → Int → Int → kS → kRes} (hk55 : ∀ (x1 : Int) (x2 : Int) (x3 : Int) (x4 : Int) (x5 : Int) (x6 : Int) (o7 : Option kV) (σ : kS), k55 x1 x2 x3 x4 x5 x6 σ = some (some yf, σf) → Rn l G dm_Rm_toStop m_Rm_toStop (kI fun y' σ' => y' = yf ∧ σ' = σf) 55 [some (.inr (9, 0)), some (.inl x1), some (.inl x2), some (.inl x3), some (.inl x4), some (.inl x5), some (.inl x6), o7] [] σ) {x1 : Int} {x2 : Int} {x3 : Int} {x4 : Int} {x5 : Int} {x6 : Int} {o7 : Option kV} {σ : kS} (h : fb_Rm_toStop_98 k55 x1 x2 x3 x4 x5 x6 σ = some (some yf, σf)) : Rn l G dm_Rm_toStop m_Rm_toStop (kI fun y' σ' => y' = yf ∧ σ' = σf) 98 [some (.inr (9, 0)), some (.inl x1), some (.inl x2), some (.inl x3), some (.inl x4), some (.inl x5), some (.inl x6), o7] [] σ := by
  unfold fb_Rm_toStop_98 at h
  refine s_Rm_toStop_98  ?_
  exact hk55 _ _ _ _ _ _ _ _ h
def fb_Rm_toStop_96  (x1 : Int) (x2 : Int) (x3 : Int) (x4 : Int) (x5 : Int) (x6 : Int) (σ : kS) : kRes := some (some 1, σ)
theorem e_Rm_toStop_96 {l : Launch} {G : kG} {yf : Int} {σf : kS}  {x1 : Int} {x2 : Int} {x3 : Int} {x4 : Int} {x5 : Int} {x6 : Int} {o7 : Option kV} {σ : kS} (h : fb_Rm_toStop_96  x1 x2 x3 x4 x5 x6 σ = some (some yf, σf)) : Rn l G dm_Rm_toStop m_Rm_toStop (kI fun y' σ' => y' = yf ∧ σ' = σf) 96 [some (.inr (9, 0)), some (.inl x1), some (.inl x2), some (.inl x3), some (.inl x4), some (.inl x5), some (.inl x6), o7] [] σ := by
  unfold fb_Rm_toStop_96 at h
  simp only [Option.some.injEq, Prod.mk.injEq, true_and] at h
  exact s_Rm_toStop_96  ⟨_, rfl, h⟩
def fb_Rm_toStop_77 (k55 : Int → Int → Int → Int → Int → Int → kS → kRes) (x1 : Int) (x2 : Int) (x3 : Int) (x4 : Int) (x5 : Int) (x6 : Int) (σ : kS) : kRes := kg ((-2147483648 ≤ x5 + (-1) ∧ x5 + (-1) < 2147483648)) (if (x5 + (-1)) = 0 then fb_Rm_toStop_96  x1 x2 x3 x4 (x5 + (-1)) x6 (kup (kup σ 9 0 16 x3) 9 0 17 x4) else fb_Rm_toStop_98 k55 x1 x2 x3 x4 (x5 + (-1)) x6 (kup (kup σ 9 0 16 x3) 9 0 17 x4))
theorem e_Rm_toStop_77 {l : Launch} {G : kG} {yf : Int} {σf : kS} {k55 : Int → Int → Int → Int → Int → Int → kS → kRes} (hk55 : ∀ (x1 : Int) (x2 : Int) (x3 : Int) (x4 : Int) (x5 : Int) (x6 : Int) (o7 : Option kV) (σ : kS), k55 x1 x2 x3 x4 x5 x6 σ = some (some yf, σf) → Rn l G dm_Rm_toStop m_Rm_toStop (kI fun y' σ' => y' = yf ∧ σ' = σf) 55 [some (.inr (9, 0)), some (.inl x1), some (.inl x2), some (.inl x3), some (.inl x4), some (.inl x5), some (.inl x6), o7] [] σ) {x1 : Int} {x2 : Int} {x3 : Int} {x4 : Int} {x5 : Int} {x6 : Int} {o7 : Option kV} {σ : kS} (h : fb_Rm_toStop_77 k55 x1 x2 x3 x4 x5 x6 σ = some (some yf, σf)) : Rn l G dm_Rm_toStop m_Rm_toStop (kI fun y' σ' => y' = yf ∧ σ' = σf) 77 [some (.inr (9, 0)), some (.inl x1), some (.inl x2), some (.inl x3), some (.inl x4), some (.inl x5), some (.inl x6), o7] [] σ := by
  unfold fb_Rm_toStop_77 at h
  obtain ⟨h1, h⟩ := kg_some h
  refine s_Rm_toStop_77 h1 (fun c => ?_) (fun c => ?_)
  · rw [if_neg c] at h
    exact e_Rm_toStop_98 hk55 h
  · rw [if_pos c] at h
    exact e_Rm_toStop_96  h
def fb_Rm_toStop_74 (k55 : Int → Int → Int → Int → Int → Int → kS → kRes) (x1 : Int) (x2 : Int) (x3 : Int) (x4 : Int) (x5 : Int) (x6 : Int) (s0 : Int) (σ : kS) : kRes := kg ((-2147483648 ≤ s0 ∧ s0 < 2147483648)) (if s0 = 0 then fb_Rm_toStop_98 k55 x1 x2 x3 x4 x5 x6 σ else fb_Rm_toStop_77 k55 x1 x2 x3 x4 x5 x6 σ)
theorem e_Rm_toStop_74 {l : Launch} {G : kG} {yf : Int} {σf : kS} {k55 : Int → Int → Int → Int → Int → Int → kS → kRes} (hk55 : ∀ (x1 : Int) (x2 : Int) (x3 : Int) (x4 : Int) (x5 : Int) (x6 : Int) (o7 : Option kV) (σ : kS), k55 x1 x2 x3 x4 x5 x6 σ = some (some yf, σf) → Rn l G dm_Rm_toStop m_Rm_toStop (kI fun y' σ' => y' = yf ∧ σ' = σf) 55 [some (.inr (9, 0)), some (.inl x1), some (.inl x2), some (.inl x3), some (.inl x4), some (.inl x5), some (.inl x6), o7] [] σ) {x1 : Int} {x2 : Int} {x3 : Int} {x4 : Int} {x5 : Int} {x6 : Int} {s0 : Int} {o7 : Option kV} {σ : kS} (h : fb_Rm_toStop_74 k55 x1 x2 x3 x4 x5 x6 s0 σ = some (some yf, σf)) : Rn l G dm_Rm_toStop m_Rm_toStop (kI fun y' σ' => y' = yf ∧ σ' = σf) 74 [some (.inr (9, 0)), some (.inl x1), some (.inl x2), some (.inl x3), some (.inl x4), some (.inl x5), some (.inl x6), o7] [.inl s0] σ := by
  unfold fb_Rm_toStop_74 at h
  obtain ⟨h1, h⟩ := kg_some h
  refine s_Rm_toStop_74 h1 (fun c => ?_) (fun c => ?_)
  · rw [if_pos c] at h
    exact e_Rm_toStop_98 hk55 h
  · rw [if_neg c] at h
    exact e_Rm_toStop_77 hk55 h
def fb_Rm_toStop_67 (k55 : Int → Int → Int → Int → Int → Int → kS → kRes) (x1 : Int) (x2 : Int) (x3 : Int) (x4 : Int) (x5 : Int) (x6 : Int) (σ : kS) : kRes := kbi (f_Rm_stop x3 x4 σ) fun y σ1 => fb_Rm_toStop_74 k55 x1 x2 x3 x4 x5 x6 y σ1
theorem e_Rm_toStop_67 {l : Launch} {G : kG} {yf : Int} {σf : kS} {k55 : Int → Int → Int → Int → Int → Int → kS → kRes} (hk55 : ∀ (x1 : Int) (x2 : Int) (x3 : Int) (x4 : Int) (x5 : Int) (x6 : Int) (o7 : Option kV) (σ : kS), k55 x1 x2 x3 x4 x5 x6 σ = some (some yf, σf) → Rn l G dm_Rm_toStop m_Rm_toStop (kI fun y' σ' => y' = yf ∧ σ' = σf) 55 [some (.inr (9, 0)), some (.inl x1), some (.inl x2), some (.inl x3), some (.inl x4), some (.inl x5), some (.inl x6), o7] [] σ) {x1 : Int} {x2 : Int} {x3 : Int} {x4 : Int} {x5 : Int} {x6 : Int} {o7 : Option kV} {σ : kS} (h : fb_Rm_toStop_67 k55 x1 x2 x3 x4 x5 x6 σ = some (some yf, σf)) : Rn l G dm_Rm_toStop m_Rm_toStop (kI fun y' σ' => y' = yf ∧ σ' = σf) 67 [some (.inr (9, 0)), some (.inl x1), some (.inl x2), some (.inl x3), some (.inl x4), some (.inl x5), some (.inl x6), o7] [] σ := by
  unfold fb_Rm_toStop_67 at h
  obtain ⟨y, σ1, hc, h⟩ := kbi_some h
  refine s_Rm_toStop_67  (by decide) (E_Rm_stop hc) (fun y2 σ2 e2 => ?_)
  obtain ⟨rfl, rfl⟩ := e2
  exact e_Rm_toStop_74 hk55 h
def fb_Rm_toStop_60 (k20 : Int → Int → Int → Int → Int → kS → kRes) (k55 : Int → Int → Int → Int → Int → Int → kS → kRes) (x1 : Int) (x2 : Int) (x3 : Int) (x4 : Int) (x5 : Int) (x6 : Int) (σ : kS) : kRes := kg ((-2147483648 ≤ x4 ∧ x4 < 2147483648) ∧ (-2147483648 ≤ x6 ∧ x6 < 2147483648)) (if x6 ≤ x4 then fb_Rm_toStop_107 k20 x1 x2 x3 x4 x5 x6 σ else fb_Rm_toStop_67 k55 x1 x2 x3 x4 x5 x6 σ)
theorem e_Rm_toStop_60 {l : Launch} {G : kG} {yf : Int} {σf : kS} {k20 : Int → Int → Int → Int → Int → kS → kRes} (hk20 : ∀ (x1 : Int) (x2 : Int) (x3 : Int) (x4 : Int) (x5 : Int) (o6 : Option kV) (o7 : Option kV) (σ : kS), k20 x1 x2 x3 x4 x5 σ = some (some yf, σf) → Rn l G dm_Rm_toStop m_Rm_toStop (kI fun y' σ' => y' = yf ∧ σ' = σf) 20 [some (.inr (9, 0)), some (.inl x1), some (.inl x2), some (.inl x3), some (.inl x4), some (.inl x5), o6, o7] [] σ) {k55 : Int → Int → Int → Int → Int → Int → kS → kRes} (hk55 : ∀ (x1 : Int) (x2 : Int) (x3 : Int) (x4 : Int) (x5 : Int) (x6 : Int) (o7 : Option kV) (σ : kS), k55 x1 x2 x3 x4 x5 x6 σ = some (some yf, σf) → Rn l G dm_Rm_toStop m_Rm_toStop (kI fun y' σ' => y' = yf ∧ σ' = σf) 55 [some (.inr (9, 0)), some (.inl x1), some (.inl x2), some (.inl x3), some (.inl x4), some (.inl x5), some (.inl x6), o7] [] σ) {x1 : Int} {x2 : Int} {x3 : Int} {x4 : Int} {x5 : Int} {x6 : Int} {o7 : Option kV} {σ : kS} (h : fb_Rm_toStop_60 k20 k55 x1 x2 x3 x4 x5 x6 σ = some (some yf, σf)) : Rn l G dm_Rm_toStop m_Rm_toStop (kI fun y' σ' => y' = yf ∧ σ' = σf) 60 [some (.inr (9, 0)), some (.inl x1), some (.inl x2), some (.inl x3), some (.inl x4), some (.inl x5), some (.inl x6), o7] [] σ := by
  unfold fb_Rm_toStop_60 at h
  obtain ⟨⟨h1, h2⟩, h⟩ := kg_some h
  refine s_Rm_toStop_60 h1 h2 (fun c => ?_) (fun c => ?_)
  · rw [if_pos c] at h
    exact e_Rm_toStop_107 hk20 h
  · rw [if_neg c] at h
    exact e_Rm_toStop_67 hk55 h
def fb_Rm_toStop_55 (k20 : Int → Int → Int → Int → Int → kS → kRes) (k55 : Int → Int → Int → Int → Int → Int → kS → kRes) (x1 : Int) (x2 : Int) (x3 : Int) (x4 : Int) (x5 : Int) (x6 : Int) (σ : kS) : kRes := kg ((-2147483648 ≤ x4 ∧ x4 < 2147483648)) (if x4 < 0 then fb_Rm_toStop_107 k20 x1 x2 x3 x4 x5 x6 σ else fb_Rm_toStop_60 k20 k55 x1 x2 x3 x4 x5 x6 σ)
theorem e_Rm_toStop_55 {l : Launch} {G : kG} {yf : Int} {σf : kS} {k20 : Int → Int → Int → Int → Int → kS → kRes} (hk20 : ∀ (x1 : Int) (x2 : Int) (x3 : Int) (x4 : Int) (x5 : Int) (o6 : Option kV) (o7 : Option kV) (σ : kS), k20 x1 x2 x3 x4 x5 σ = some (some yf, σf) → Rn l G dm_Rm_toStop m_Rm_toStop (kI fun y' σ' => y' = yf ∧ σ' = σf) 20 [some (.inr (9, 0)), some (.inl x1), some (.inl x2), some (.inl x3), some (.inl x4), some (.inl x5), o6, o7] [] σ) {k55 : Int → Int → Int → Int → Int → Int → kS → kRes} (hk55 : ∀ (x1 : Int) (x2 : Int) (x3 : Int) (x4 : Int) (x5 : Int) (x6 : Int) (o7 : Option kV) (σ : kS), k55 x1 x2 x3 x4 x5 x6 σ = some (some yf, σf) → Rn l G dm_Rm_toStop m_Rm_toStop (kI fun y' σ' => y' = yf ∧ σ' = σf) 55 [some (.inr (9, 0)), some (.inl x1), some (.inl x2), some (.inl x3), some (.inl x4), some (.inl x5), some (.inl x6), o7] [] σ) {x1 : Int} {x2 : Int} {x3 : Int} {x4 : Int} {x5 : Int} {x6 : Int} {o7 : Option kV} {σ : kS} (h : fb_Rm_toStop_55 k20 k55 x1 x2 x3 x4 x5 x6 σ = some (some yf, σf)) : Rn l G dm_Rm_toStop m_Rm_toStop (kI fun y' σ' => y' = yf ∧ σ' = σf) 55 [some (.inr (9, 0)), some (.inl x1), some (.inl x2), some (.inl x3), some (.inl x4), some (.inl x5), some (.inl x6), o7] [] σ := by
  unfold fb_Rm_toStop_55 at h
  obtain ⟨h1, h⟩ := kg_some h
  refine s_Rm_toStop_55 h1 (fun c => ?_) (fun c => ?_)
  · rw [if_pos c] at h
    exact e_Rm_toStop_107 hk20 h
  · rw [if_neg c] at h
    exact e_Rm_toStop_60 hk20 hk55 h
def fl_Rm_toStop_55 (k20 : Int → Int → Int → Int → Int → kS → kRes) : Nat → Int → Int → Int → Int → Int → Int → kS → kRes
  | 0, _, _, _, _, _, _, _ => none
  | n + 1, x1, x2, x3, x4, x5, x6, σ => fb_Rm_toStop_55 k20 (fl_Rm_toStop_55 k20 n) x1 x2 x3 x4 x5 x6 σ
theorem el_Rm_toStop_55 {l : Launch} {G : kG} {yf : Int} {σf : kS} {k20 : Int → Int → Int → Int → Int → kS → kRes} (hk20 : ∀ (x1 : Int) (x2 : Int) (x3 : Int) (x4 : Int) (x5 : Int) (o6 : Option kV) (o7 : Option kV) (σ : kS), k20 x1 x2 x3 x4 x5 σ = some (some yf, σf) → Rn l G dm_Rm_toStop m_Rm_toStop (kI fun y' σ' => y' = yf ∧ σ' = σf) 20 [some (.inr (9, 0)), some (.inl x1), some (.inl x2), some (.inl x3), some (.inl x4), some (.inl x5), o6, o7] [] σ) : ∀ (n : Nat) (x1 : Int) (x2 : Int) (x3 : Int) (x4 : Int) (x5 : Int) (x6 : Int) (o7 : Option kV) (σ : kS), fl_Rm_toStop_55 k20 n x1 x2 x3 x4 x5 x6 σ = some (some yf, σf) → Rn l G dm_Rm_toStop m_Rm_toStop (kI fun y' σ' => y' = yf ∧ σ' = σf) 55 [some (.inr (9, 0)), some (.inl x1), some (.inl x2), some (.inl x3), some (.inl x4), some (.inl x5), some (.inl x6), o7] [] σ := by
  intro n
  induction n with
  | zero => intro x1 x2 x3 x4 x5 x6 o7 σ h; simp only [fl_Rm_toStop_55] at h; cases h
  | succ n ih => intro x1 x2 x3 x4 x5 x6 o7 σ h; simp only [fl_Rm_toStop_55] at h; exact e_Rm_toStop_55 hk20 ih h
def fb_Rm_toStop_53 (k20 : Int → Int → Int → Int → Int → kS → kRes) (x1 : Int) (x2 : Int) (x3 : Int) (x4 : Int) (x5 : Int) (s0 : Int) (σ : kS) : kRes := fl_Rm_toStop_55 k20 3000 x1 x2 x3 x4 x5 s0 σ
theorem e_Rm_toStop_53 {l : Launch} {G : kG} {yf : Int} {σf : kS} {k20 : Int → Int → Int → Int → Int → kS → kRes} (hk20 : ∀ (x1 : Int) (x2 : Int) (x3 : Int) (x4 : Int) (x5 : Int) (o6 : Option kV) (o7 : Option kV) (σ : kS), k20 x1 x2 x3 x4 x5 σ = some (some yf, σf) → Rn l G dm_Rm_toStop m_Rm_toStop (kI fun y' σ' => y' = yf ∧ σ' = σf) 20 [some (.inr (9, 0)), some (.inl x1), some (.inl x2), some (.inl x3), some (.inl x4), some (.inl x5), o6, o7] [] σ) {x1 : Int} {x2 : Int} {x3 : Int} {x4 : Int} {x5 : Int} {s0 : Int} {o6 : Option kV} {o7 : Option kV} {σ : kS} (h : fb_Rm_toStop_53 k20 x1 x2 x3 x4 x5 s0 σ = some (some yf, σf)) : Rn l G dm_Rm_toStop m_Rm_toStop (kI fun y' σ' => y' = yf ∧ σ' = σf) 53 [some (.inr (9, 0)), some (.inl x1), some (.inl x2), some (.inl x3), some (.inl x4), some (.inl x5), o6, o7] [.inl s0] σ := by
  unfold fb_Rm_toStop_53 at h
  refine s_Rm_toStop_53  ?_
  exact el_Rm_toStop_55 hk20 _ _ _ _ _ _ _ _ _ h
def fb_Rm_toStop_52 (k20 : Int → Int → Int → Int → Int → kS → kRes) (x1 : Int) (x2 : Int) (x3 : Int) (x4 : Int) (x5 : Int) (σ : kS) : kRes := fb_Rm_toStop_53 k20 x1 x2 x3 x4 x5 1 σ
theorem e_Rm_toStop_52 {l : Launch} {G : kG} {yf : Int} {σf : kS} {k20 : Int → Int → Int → Int → Int → kS → kRes} (hk20 : ∀ (x1 : Int) (x2 : Int) (x3 : Int) (x4 : Int) (x5 : Int) (o6 : Option kV) (o7 : Option kV) (σ : kS), k20 x1 x2 x3 x4 x5 σ = some (some yf, σf) → Rn l G dm_Rm_toStop m_Rm_toStop (kI fun y' σ' => y' = yf ∧ σ' = σf) 20 [some (.inr (9, 0)), some (.inl x1), some (.inl x2), some (.inl x3), some (.inl x4), some (.inl x5), o6, o7] [] σ) {x1 : Int} {x2 : Int} {x3 : Int} {x4 : Int} {x5 : Int} {o6 : Option kV} {o7 : Option kV} {σ : kS} (h : fb_Rm_toStop_52 k20 x1 x2 x3 x4 x5 σ = some (some yf, σf)) : Rn l G dm_Rm_toStop m_Rm_toStop (kI fun y' σ' => y' = yf ∧ σ' = σf) 52 [some (.inr (9, 0)), some (.inl x1), some (.inl x2), some (.inl x3), some (.inl x4), some (.inl x5), o6, o7] [] σ := by
  unfold fb_Rm_toStop_52 at h
  refine s_Rm_toStop_52  ?_
  exact e_Rm_toStop_53 hk20 h
def fb_Rm_toStop_43 (k20 : Int → Int → Int → Int → Int → kS → kRes) (x1 : Int) (x2 : Int) (x3 : Int) (x4 : Int) (x5 : Int) (σ : kS) : kRes := kg ((0 ≤ x3 ∧ x3 < (100 : Nat))) (fb_Rm_toStop_53 k20 x1 x2 x3 x4 x5 (σ 21 0 (Int.toNat x3)) σ)
theorem e_Rm_toStop_43 {l : Launch} {G : kG} {yf : Int} {σf : kS} {k20 : Int → Int → Int → Int → Int → kS → kRes} (hk20 : ∀ (x1 : Int) (x2 : Int) (x3 : Int) (x4 : Int) (x5 : Int) (o6 : Option kV) (o7 : Option kV) (σ : kS), k20 x1 x2 x3 x4 x5 σ = some (some yf, σf) → Rn l G dm_Rm_toStop m_Rm_toStop (kI fun y' σ' => y' = yf ∧ σ' = σf) 20 [some (.inr (9, 0)), some (.inl x1), some (.inl x2), some (.inl x3), some (.inl x4), some (.inl x5), o6, o7] [] σ) {x1 : Int} {x2 : Int} {x3 : Int} {x4 : Int} {x5 : Int} {o6 : Option kV} {o7 : Option kV} {σ : kS} (h : fb_Rm_toStop_43 k20 x1 x2 x3 x4 x5 σ = some (some yf, σf)) : Rn l G dm_Rm_toStop m_Rm_toStop (kI fun y' σ' => y' = yf ∧ σ' = σf) 43 [some (.inr (9, 0)), some (.inl x1), some (.inl x2), some (.inl x3), some (.inl x4), some (.inl x5), o6, o7] [] σ := by
  unfold fb_Rm_toStop_43 at h
  obtain ⟨h1, h⟩ := kg_some h
  refine s_Rm_toStop_43 h1 ?_
  exact e_Rm_toStop_53 hk20 h
def fb_Rm_toStop_34 (k20 : Int → Int → Int → Int → Int → kS → kRes) (x1 : Int) (x2 : Int) (x3 : Int) (x4 : Int) (x5 : Int) (σ : kS) : kRes := kg ((0 ≤ x3 ∧ x3 < (100 : Nat)) ∧ (-2147483648 ≤ σ 21 0 (Int.toNat x3) ∧ σ 21 0 (Int.toNat x3) < 2147483648)) (if (σ 21 0 (Int.toNat x3)) ≤ 0 then fb_Rm_toStop_52 k20 x1 x2 x3 x4 x5 σ else fb_Rm_toStop_43 k20 x1 x2 x3 x4 x5 σ)
theorem e_Rm_toStop_34 {l : Launch} {G : kG} {yf : Int} {σf : kS} {k20 : Int → Int → Int → Int → Int → kS → kRes} (hk20 : ∀ (x1 : Int) (x2 : Int) (x3 : Int) (x4 : Int) (x5 : Int) (o6 : Option kV) (o7 : Option kV) (σ : kS), k20 x1 x2 x3 x4 x5 σ = some (some yf, σf) → Rn l G dm_Rm_toStop m_Rm_toStop (kI fun y' σ' => y' = yf ∧ σ' = σf) 20 [some (.inr (9, 0)), some (.inl x1), some (.inl x2), some (.inl x3), some (.inl x4), some (.inl x5), o6, o7] [] σ) {x1 : Int} {x2 : Int} {x3 : Int} {x4 : Int} {x5 : Int} {o6 : Option kV} {o7 : Option kV} {σ : kS} (h : fb_Rm_toStop_34 k20 x1 x2 x3 x4 x5 σ = some (some yf, σf)) : Rn l G dm_Rm_toStop m_Rm_toStop (kI fun y' σ' => y' = yf ∧ σ' = σf) 34 [some (.inr (9, 0)), some (.inl x1), some (.inl x2), some (.inl x3), some (.inl x4), some (.inl x5), o6, o7] [] σ := by
  unfold fb_Rm_toStop_34 at h
  obtain ⟨⟨h1, h2⟩, h⟩ := kg_some h
  refine s_Rm_toStop_34 h1 h2 (fun c => ?_) (fun c => ?_)
  · rw [if_pos c] at h
    exact e_Rm_toStop_52 hk20 h
  · rw [if_neg c] at h
    exact e_Rm_toStop_43 hk20 h
def fb_Rm_toStop_24 (k20 : Int → Int → Int → Int → Int → kS → kRes) (x1 : Int) (x2 : Int) (x3 : Int) (x4 : Int) (x5 : Int) (σ : kS) : kRes := kg ((-2147483648 ≤ x3 ∧ x3 < 2147483648) ∧ (-2147483648 ≤ σ 22 0 0 ∧ σ 22 0 0 < 2147483648)) (if (σ 22 0 0) ≤ x3 then fb_Rm_toStop_171  x1 x2 x3 x4 x5 σ else fb_Rm_toStop_34 k20 x1 x2 x3 x4 x5 σ)
theorem e_Rm_toStop_24 {l : Launch} {G : kG} {yf : Int} {σf : kS} {k20 : Int → Int → Int → Int → Int → kS → kRes} (hk20 : ∀ (x1 : Int) (x2 : Int) (x3 : Int) (x4 : Int) (x5 : Int) (o6 : Option kV) (o7 : Option kV) (σ : kS), k20 x1 x2 x3 x4 x5 σ = some (some yf, σf) → Rn l G dm_Rm_toStop m_Rm_toStop (kI fun y' σ' => y' = yf ∧ σ' = σf) 20 [some (.inr (9, 0)), some (.inl x1), some (.inl x2), some (.inl x3), some (.inl x4), some (.inl x5), o6, o7] [] σ) {x1 : Int} {x2 : Int} {x3 : Int} {x4 : Int} {x5 : Int} {o6 : Option kV} {o7 : Option kV} {σ : kS} (h : fb_Rm_toStop_24 k20 x1 x2 x3 x4 x5 σ = some (some yf, σf)) : Rn l G dm_Rm_toStop m_Rm_toStop (kI fun y' σ' => y' = yf ∧ σ' = σf) 24 [some (.inr (9, 0)), some (.inl x1), some (.inl x2), some (.inl x3), some (.inl x4), some (.inl x5), o6, o7] [] σ := by
  unfold fb_Rm_toStop_24 at h
  obtain ⟨⟨h1, h2⟩, h⟩ := kg_some h
  refine s_Rm_toStop_24 h1 h2 (fun c => ?_) (fun c => ?_)
  · rw [if_pos c] at h
    exact e_Rm_toStop_171  h
  · rw [if_neg c] at h
    exact e_Rm_toStop_34 hk20 h
def fb_Rm_toStop_20 (k20 : Int → Int → Int → Int → Int → kS → kRes) (x1 : Int) (x2 : Int) (x3 : Int) (x4 : Int) (x5 : Int) (σ : kS) : kRes := kg ((-2147483648 ≤ x3 ∧ x3 < 2147483648)) (if x3 < 0 then fb_Rm_toStop_171  x1 x2 x3 x4 x5 σ else fb_Rm_toStop_24 k20 x1 x2 x3 x4 x5 σ)
theorem e_Rm_toStop_20 {l : Launch} {G : kG} {yf : Int} {σf : kS} {k20 : Int → Int → Int → Int → Int → kS → kRes} (hk20 : ∀ (x1 : Int) (x2 : Int) (x3 : Int) (x4 : Int) (x5 : Int) (o6 : Option kV) (o7 : Option kV) (σ : kS), k20 x1 x2 x3 x4 x5 σ = some (some yf, σf) → Rn l G dm_Rm_toStop m_Rm_toStop (kI fun y' σ' => y' = yf ∧ σ' = σf) 20 [some (.inr (9, 0)), some (.inl x1), some (.inl x2), some (.inl x3), some (.inl x4), some (.inl x5), o6, o7] [] σ) {x1 : Int} {x2 : Int} {x3 : Int} {x4 : Int} {x5 : Int} {o6 : Option kV} {o7 : Option kV} {σ : kS} (h : fb_Rm_toStop_20 k20 x1 x2 x3 x4 x5 σ = some (some yf, σf)) : Rn l G dm_Rm_toStop m_Rm_toStop (kI fun y' σ' => y' = yf ∧ σ' = σf) 20 [some (.inr (9, 0)), some (.inl x1), some (.inl x2), some (.inl x3), some (.inl x4), some (.inl x5), o6, o7] [] σ := by
  unfold fb_Rm_toStop_20 at h
  obtain ⟨h1, h⟩ := kg_some h
  refine s_Rm_toStop_20 h1 (fun c => ?_) (fun c => ?_)
  · rw [if_pos c] at h
    exact e_Rm_toStop_171  h
  · rw [if_neg c] at h
    exact e_Rm_toStop_24 hk20 h
def fl_Rm_toStop_20  : Nat → Int → Int → Int → Int → Int → kS → kRes
  | 0, _, _, _, _, _, _ => none
  | n + 1, x1, x2, x3, x4, x5, σ => fb_Rm_toStop_20 (fl_Rm_toStop_20  n) x1 x2 x3 x4 x5 σ
theorem el_Rm_toStop_20 {l : Launch} {G : kG} {yf : Int} {σf : kS}  : ∀ (n : Nat) (x1 : Int) (x2 : Int) (x3 : Int) (x4 : Int) (x5 : Int) (o6 : Option kV) (o7 : Option kV) (σ : kS), fl_Rm_toStop_20  n x1 x2 x3 x4 x5 σ = some (some yf, σf) → Rn l G dm_Rm_toStop m_Rm_toStop (kI fun y' σ' => y' = yf ∧ σ' = σf) 20 [some (.inr (9, 0)), some (.inl x1), some (.inl x2), some (.inl x3), some (.inl x4), some (.inl x5), o6, o7] [] σ := by
  intro n
  induction n with
  | zero => intro x1 x2 x3 x4 x5 o6 o7 σ h; simp only [fl_Rm_toStop_20] at h; cases h
  | succ n ih => intro x1 x2 x3 x4 x5 o6 o7 σ h; simp only [fl_Rm_toStop_20] at h; exact e_Rm_toStop_20 ih h
def fb_Rm_toStop_0  (x1 : Int) (x2 : Int) (σ : kS) : kRes := fl_Rm_toStop_20  3000 x1 x2 (σ 23 0 0) ((σ 24 0 0) + x2) x1 σ
theorem e_Rm_toStop_0 {l : Launch} {G : kG} {yf : Int} {σf : kS}  {x1 : Int} {x2 : Int} {o3 : Option kV} {o4 : Option kV} {o5 : Option kV} {o6 : Option kV} {o7 : Option kV} {σ : kS} (h : fb_Rm_toStop_0  x1 x2 σ = some (some yf, σf)) : Rn l G dm_Rm_toStop m_Rm_toStop (kI fun y' σ' => y' = yf ∧ σ' = σf) 0 [some (.inr (9, 0)), some (.inl x1), some (.inl x2), o3, o4, o5, o6, o7] [] σ := by
  unfold fb_Rm_toStop_0 at h
  refine s_Rm_toStop_0  ?_
  exact el_Rm_toStop_20  _ _ _ _ _ _ _ _ _ h
def f_Rm_toStop (x1 : Int) (x2 : Int) (σ : kS) : kRes := fb_Rm_toStop_0 x1 x2 σ
theorem E_Rm_toStop {l : Launch} {G : kG} {yf : Int} {σf : kS} {x1 : Int} {x2 : Int} {σ : kS} (h : f_Rm_toStop x1 x2 σ = some (some yf, σf)) : Call l G dm_Rm_toStop y_Rm_toStop m_Rm_toStop [.inr (9, 0), .inl x1, .inl x2] σ (kI fun y' σ' => y' = yf ∧ σ' = σf) := by
  unfold f_Rm_toStop at h
  exact Call.of (by decide +kernel) rfl (Nat.le_of_ble_eq_true rfl) (e_Rm_toStop_0 h)
