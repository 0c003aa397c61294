/-! Kb_edit -/
def fb_Kb_edit_178  (x1 : Int) (σ : kS) : kRes := some (some 1, kup σ 2 0 4 ((σ 2 0 4) + 1))
theorem e_Kb_edit_178 {l : Launch} {G : kG} {yf : Int} {σf : kS}  {x1 : Int}  {σ : kS} (h : fb_Kb_edit_178  x1 σ = some (some yf, σf)) : Rn l G dm_Kb_edit m_Kb_edit (kI fun y' σ' => y' = yf ∧ σ' = σf) 178 [some (.inr (5, 0)), some (.inl x1)] [] σ := by
  unfold fb_Kb_edit_178 at h
  simp only [Option.some.injEq, Prod.mk.injEq, true_and] at h
  exact s_Kb_edit_178  ⟨_, rfl, h⟩
def fb_Kb_edit_156  (x1 : Int) (σ : kS) : kRes := kbu (f_Te_write (σ 2 0 3) (σ 2 0 4) x1 0 σ) fun σ1 => fb_Kb_edit_178  x1 σ1
theorem e_Kb_edit_156 {l : Launch} {G : kG} {yf : Int} {σf : kS}  {x1 : Int}  {σ : kS} (h : fb_Kb_edit_156  x1 σ = some (some yf, σf)) : Rn l G dm_Kb_edit m_Kb_edit (kI fun y' σ' => y' = yf ∧ σ' = σf) 156 [some (.inr (5, 0)), some (.inl x1)] [] σ := by
  unfold fb_Kb_edit_156 at h
  obtain ⟨σ1, hc, h⟩ := kbu_some h
  refine s_Kb_edit_156  (by decide) (E_Te_write hc) (fun σ2 e2 => ?_)
  subst e2
  exact e_Kb_edit_178  h
def fb_Kb_edit_154  (x1 : Int) (σ : kS) : kRes := some (some 0, σ)
theorem e_Kb_edit_154 {l : Launch} {G : kG} {yf : Int} {σf : kS}  {x1 : Int}  {σ : kS} (h : fb_Kb_edit_154  x1 σ = some (some yf, σf)) : Rn l G dm_Kb_edit m_Kb_edit (kI fun y' σ' => y' = yf ∧ σ' = σf) 154 [some (.inr (5, 0)), some (.inl x1)] [] σ := by
  unfold fb_Kb_edit_154 at h
  simp only [Option.some.injEq, Prod.mk.injEq, true_and] at h
  exact s_Kb_edit_154  ⟨_, rfl, h⟩
def fb_Kb_edit_151  (x1 : Int) (s0 : Int) (σ : kS) : kRes := kg ((-2147483648 ≤ s0 ∧ s0 < 2147483648)) (if s0 = 0 then fb_Kb_edit_154  x1 σ else fb_Kb_edit_156  x1 σ)
theorem e_Kb_edit_151 {l : Launch} {G : kG} {yf : Int} {σf : kS}  {x1 : Int} {s0 : Int}  {σ : kS} (h : fb_Kb_edit_151  x1 s0 σ = some (some yf, σf)) : Rn l G dm_Kb_edit m_Kb_edit (kI fun y' σ' => y' = yf ∧ σ' = σf) 151 [some (.inr (5, 0)), some (.inl x1)] [.inl s0] σ := by
  unfold fb_Kb_edit_151 at h
  obtain ⟨h1, h⟩ := kg_some h
  refine s_Kb_edit_151 h1 (fun c => ?_) (fun c => ?_)
  · rw [if_neg c] at h
    exact e_Kb_edit_156  h
  · rw [if_pos c] at h
    exact e_Kb_edit_154  h
def fb_Kb_edit_129  (x1 : Int) (σ : kS) : kRes := kbi (f_Te_openLetters (σ 2 0 3) (σ 2 0 4) 1 0 σ) fun y σ1 => fb_Kb_edit_151  x1 y σ1
theorem e_Kb_edit_129 {l : Launch} {G : kG} {yf : Int} {σf : kS}  {x1 : Int}  {σ : kS} (h : fb_Kb_edit_129  x1 σ = some (some yf, σf)) : Rn l G dm_Kb_edit m_Kb_edit (kI fun y' σ' => y' = yf ∧ σ' = σf) 129 [some (.inr (5, 0)), some (.inl x1)] [] σ := by
  unfold fb_Kb_edit_129 at h
  obtain ⟨y, σ1, hc, h⟩ := kbi_some h
  refine s_Kb_edit_129  (by decide) (E_Te_openLetters hc) (fun y2 σ2 e2 => ?_)
  obtain ⟨rfl, rfl⟩ := e2
  exact e_Kb_edit_151  h
def fb_Kb_edit_127  (x1 : Int) (σ : kS) : kRes := some (some 1, σ)
theorem e_Kb_edit_127 {l : Launch} {G : kG} {yf : Int} {σf : kS}  {x1 : Int}  {σ : kS} (h : fb_Kb_edit_127  x1 σ = some (some yf, σf)) : Rn l G dm_Kb_edit m_Kb_edit (kI fun y' σ' => y' = yf ∧ σ' = σf) 127 [some (.inr (5, 0)), some (.inl x1)] [] σ := by
  unfold fb_Kb_edit_127 at h
  simp only [Option.some.injEq, Prod.mk.injEq, true_and] at h
  exact s_Kb_edit_127  ⟨_, rfl, h⟩
def fb_Kb_edit_84  (x1 : Int) (σ : kS) : kRes := kbu (f_Te_closeLetters ((kup σ 2 0 4 ((σ 2 0 4) - 1)) 2 0 3) ((kup σ 2 0 4 ((σ 2 0 4) - 1)) 2 0 4) (((kup σ 2 0 4 ((σ 2 0 4) - 1)) 2 0 4) + 1) 0 (kup σ 2 0 4 ((σ 2 0 4) - 1))) fun σ1 => fb_Kb_edit_127  x1 σ1
theorem e_Kb_edit_84 {l : Launch} {G : kG} {yf : Int} {σf : kS}  {x1 : Int}  {σ : kS} (h : fb_Kb_edit_84  x1 σ = some (some yf, σf)) : Rn l G dm_Kb_edit m_Kb_edit (kI fun y' σ' => y' = yf ∧ σ' = σf) 84 [some (.inr (5, 0)), some (.inl x1)] [] σ := by
  unfold fb_Kb_edit_84 at h
  obtain ⟨σ1, hc, h⟩ := kbu_some h
  refine s_Kb_edit_84  (by decide) (E_Te_closeLetters hc) (fun σ2 e2 => ?_)
  subst e2
  exact e_Kb_edit_127  h
def fb_Kb_edit_82  (x1 : Int) (σ : kS) : kRes := some (some 0, σ)
theorem e_Kb_edit_82 {l : Launch} {G : kG} {yf : Int} {σf : kS}  {x1 : Int}  {σ : kS} (h : fb_Kb_edit_82  x1 σ = some (some yf, σf)) : Rn l G dm_Kb_edit m_Kb_edit (kI fun y' σ' => y' = yf ∧ σ' = σf) 82 [some (.inr (5, 0)), some (.inl x1)] [] σ := by
  unfold fb_Kb_edit_82 at h
  simp only [Option.some.injEq, Prod.mk.injEq, true_and] at h
  exact s_Kb_edit_82  ⟨_, rfl, h⟩
def fb_Kb_edit_68  (x1 : Int) (σ : kS) : kRes := kg ((-2147483648 ≤ σ 2 0 4 ∧ σ 2 0 4 < 2147483648) ∧ (-2147483648 ≤ σ 5 0 10 ∧ σ 5 0 10 < 2147483648)) (if (σ 5 0 10) < (σ 2 0 4) then fb_Kb_edit_84  x1 σ else fb_Kb_edit_82  x1 σ)
theorem e_Kb_edit_68 {l : Launch} {G : kG} {yf : Int} {σf : kS}  {x1 : Int}  {σ : kS} (h : fb_Kb_edit_68  x1 σ = some (some yf, σf)) : Rn l G dm_Kb_edit m_Kb_edit (kI fun y' σ' => y' = yf ∧ σ' = σf) 68 [some (.inr (5, 0)), some (.inl x1)] [] σ := by
  unfold fb_Kb_edit_68 at h
  obtain ⟨⟨h1, h2⟩, h⟩ := kg_some h
  refine s_Kb_edit_68 h1 h2 (fun c => ?_) (fun c => ?_)
  · rw [if_pos c] at h
    exact e_Kb_edit_84  h
  · rw [if_neg c] at h
    exact e_Kb_edit_82  h
def fb_Kb_edit_67  (x1 : Int) (s0 : Int) (σ : kS) : kRes := kg ((s0 = 0 ∨ s0 = 1)) (some (some s0, σ))
theorem e_Kb_edit_67 {l : Launch} {G : kG} {yf : Int} {σf : kS}  {x1 : Int} {s0 : Int}  {σ : kS} (h : fb_Kb_edit_67  x1 s0 σ = some (some yf, σf)) : Rn l G dm_Kb_edit m_Kb_edit (kI fun y' σ' => y' = yf ∧ σ' = σf) 67 [some (.inr (5, 0)), some (.inl x1)] [.inl s0] σ := by
  unfold fb_Kb_edit_67 at h
  obtain ⟨h1, h⟩ := kg_some h
  simp only [Option.some.injEq, Prod.mk.injEq, true_and] at h
  exact s_Kb_edit_67 h1 ⟨_, rfl, h⟩
def fb_Kb_edit_63  (x1 : Int) (σ : kS) : kRes := kbi (f_Kb_partLine  σ) fun y σ1 => fb_Kb_edit_67  x1 y σ1
theorem e_Kb_edit_63 {l : Launch} {G : kG} {yf : Int} {σf : kS}  {x1 : Int}  {σ : kS} (h : fb_Kb_edit_63  x1 σ = some (some yf, σf)) : Rn l G dm_Kb_edit m_Kb_edit (kI fun y' σ' => y' = yf ∧ σ' = σf) 63 [some (.inr (5, 0)), some (.inl x1)] [] σ := by
  unfold fb_Kb_edit_63 at h
  obtain ⟨y, σ1, hc, h⟩ := kbi_some h
  refine s_Kb_edit_63  (by decide) (E_Kb_partLine hc) (fun y2 σ2 e2 => ?_)
  obtain ⟨rfl, rfl⟩ := e2
  exact e_Kb_edit_67  h
def fb_Kb_edit_36  (x1 : Int) (σ : kS) : kRes := kg ((-2147483648 ≤ ((kup σ 5 0 6 0) 2 0 4) - 1 ∧ ((kup σ 5 0 6 0) 2 0 4) - 1 < 2147483648)) (some (some 1, kup (kup σ 5 0 6 0) 2 0 4 (max 0 (((kup σ 5 0 6 0) 2 0 4) - 1))))
theorem e_Kb_edit_36 {l : Launch} {G : kG} {yf : Int} {σf : kS}  {x1 : Int}  {σ : kS} (h : fb_Kb_edit_36  x1 σ = some (some yf, σf)) : Rn l G dm_Kb_edit m_Kb_edit (kI fun y' σ' => y' = yf ∧ σ' = σf) 36 [some (.inr (5, 0)), some (.inl x1)] [] σ := by
  unfold fb_Kb_edit_36 at h
  obtain ⟨h1, h⟩ := kg_some h
  simp only [Option.some.injEq, Prod.mk.injEq, true_and] at h
  exact s_Kb_edit_36 h1 (by decide) ⟨_, rfl, h⟩
def fb_Kb_edit_0  (x1 : Int) (σ : kS) : kRes := kg ((-2147483648 ≤ x1 ∧ x1 < 2147483648)) (if x1 = 8 then fb_Kb_edit_68  x1 σ else if x1 = 10 then fb_Kb_edit_63  x1 σ else if x1 = 27 then fb_Kb_edit_36  x1 σ else fb_Kb_edit_129  x1 σ)
theorem e_Kb_edit_0 {l : Launch} {G : kG} {yf : Int} {σf : kS}  {x1 : Int}  {σ : kS} (h : fb_Kb_edit_0  x1 σ = some (some yf, σf)) : Rn l G dm_Kb_edit m_Kb_edit (kI fun y' σ' => y' = yf ∧ σ' = σf) 0 [some (.inr (5, 0)), some (.inl x1)] [] σ := by
  unfold fb_Kb_edit_0 at h
  obtain ⟨h1, h⟩ := kg_some h
  refine s_Kb_edit_0 h1 (fun c => ?_) (fun c => ?_) (fun c => ?_) (fun c0 c1 c2 => ?_)
  · rw [if_pos c] at h
    exact e_Kb_edit_68  h
  · rw [if_neg (show ¬ x1 = 8 by omega), if_pos c] at h
    exact e_Kb_edit_63  h
  · rw [if_neg (show ¬ x1 = 8 by omega), if_neg (show ¬ x1 = 10 by omega), if_pos c] at h
    exact e_Kb_edit_36  h
  · rw [if_neg c0, if_neg c1, if_neg c2] at h
    exact e_Kb_edit_129  h
def f_Kb_edit (x1 : Int) (σ : kS) : kRes := fb_Kb_edit_0 x1 σ
theorem E_Kb_edit {l : Launch} {G : kG} {yf : Int} {σf : kS} {x1 : Int} {σ : kS} (h : f_Kb_edit x1 σ = some (some yf, σf)) : Call l G dm_Kb_edit y_Kb_edit m_Kb_edit [.inr (5, 0), .inl x1] σ (kI fun y' σ' => y' = yf ∧ σ' = σf) := by
  unfold f_Kb_edit at h
  exact Call.of (by decide +kernel) rfl (Nat.le_of_ble_eq_true rfl) (e_Kb_edit_0 h)
/-! Kb_insert -/
def fb_Kb_insert_25  (x1 : Int) (x2 : Int) (σ : kS) : kRes := kg ((x2 = 0 ∨ x2 = 1)) (some (some x2, σ))
theorem e_Kb_insert_25 {l : Launch} {G : kG} {yf : Int} {σf : kS}  {x1 : Int} {x2 : Int}  {σ : kS} (h : fb_Kb_insert_25  x1 x2 σ = some (some yf, σf)) : Rn l G dm_Kb_insert m_Kb_insert (kI fun y' σ' => y' = yf ∧ σ' = σf) 25 [some (.inr (5, 0)), some (.inl x1), some (.inl x2)] [] σ := by
  unfold fb_Kb_insert_25 at h
  obtain ⟨h1, h⟩ := kg_some h
  simp only [Option.some.injEq, Prod.mk.injEq, true_and] at h
  exact s_Kb_insert_25 h1 ⟨_, rfl, h⟩
def fb_Kb_insert_17  (x1 : Int) (x2 : Int) (σ : kS) : kRes := kbu (f_Ke_add x1 1 σ) fun σ1 => fb_Kb_insert_25  x1 x2 σ1
theorem e_Kb_insert_17 {l : Launch} {G : kG} {yf : Int} {σf : kS}  {x1 : Int} {x2 : Int}  {σ : kS} (h : fb_Kb_insert_17  x1 x2 σ = some (some yf, σf)) : Rn l G dm_Kb_insert m_Kb_insert (kI fun y' σ' => y' = yf ∧ σ' = σf) 17 [some (.inr (5, 0)), some (.inl x1), some (.inl x2)] [] σ := by
  unfold fb_Kb_insert_17 at h
  obtain ⟨σ1, hc, h⟩ := kbu_some h
  refine s_Kb_insert_17  (by decide) (E_Ke_add hc) (fun σ2 e2 => ?_)
  subst e2
  exact e_Kb_insert_25  h
def fb_Kb_insert_10  (x1 : Int) (x2 : Int) (σ : kS) : kRes := kg ((-2147483648 ≤ σ 5 0 12 ∧ σ 5 0 12 < 2147483648)) (if (σ 5 0 12) = 0 then fb_Kb_insert_17  x1 x2 σ else fb_Kb_insert_25  x1 x2 σ)
theorem e_Kb_insert_10 {l : Launch} {G : kG} {yf : Int} {σf : kS}  {x1 : Int} {x2 : Int}  {σ : kS} (h : fb_Kb_insert_10  x1 x2 σ = some (some yf, σf)) : Rn l G dm_Kb_insert m_Kb_insert (kI fun y' σ' => y' = yf ∧ σ' = σf) 10 [some (.inr (5, 0)), some (.inl x1), some (.inl x2)] [] σ := by
  unfold fb_Kb_insert_10 at h
  obtain ⟨h1, h⟩ := kg_some h
  refine s_Kb_insert_10 h1 (fun c => ?_) (fun c => ?_)
  · rw [if_neg c] at h
    exact e_Kb_insert_25  h
  · rw [if_pos c] at h
    exact e_Kb_insert_17  h
def fb_Kb_insert_5  (x1 : Int) (s0 : Int) (σ : kS) : kRes := kg ((-2147483648 ≤ s0 ∧ s0 < 2147483648)) (if s0 = 0 then fb_Kb_insert_25  x1 s0 σ else fb_Kb_insert_10  x1 s0 σ)
theorem e_Kb_insert_5 {l : Launch} {G : kG} {yf : Int} {σf : kS}  {x1 : Int} {s0 : Int} {o2 : Option kV} {σ : kS} (h : fb_Kb_insert_5  x1 s0 σ = some (some yf, σf)) : Rn l G dm_Kb_insert m_Kb_insert (kI fun y' σ' => y' = yf ∧ σ' = σf) 5 [some (.inr (5, 0)), some (.inl x1), o2] [.inl s0] σ := by
  unfold fb_Kb_insert_5 at h
  obtain ⟨h1, h⟩ := kg_some h
  refine s_Kb_insert_5 h1 (fun c => ?_) (fun c => ?_)
  · rw [if_pos c] at h
    exact e_Kb_insert_25  h
  · rw [if_neg c] at h
    exact e_Kb_insert_10  h
def fb_Kb_insert_0  (x1 : Int) (σ : kS) : kRes := kbi (f_Kb_edit x1 σ) fun y σ1 => fb_Kb_insert_5  x1 y σ1
theorem e_Kb_insert_0 {l : Launch} {G : kG} {yf : Int} {σf : kS}  {x1 : Int} {o2 : Option kV} {σ : kS} (h : fb_Kb_insert_0  x1 σ = some (some yf, σf)) : Rn l G dm_Kb_insert m_Kb_insert (kI fun y' σ' => y' = yf ∧ σ' = σf) 0 [some (.inr (5, 0)), some (.inl x1), o2] [] σ := by
  unfold fb_Kb_insert_0 at h
  obtain ⟨y, σ1, hc, h⟩ := kbi_some h
  refine s_Kb_insert_0  (by decide) (E_Kb_edit hc) (fun y2 σ2 e2 => ?_)
  obtain ⟨rfl, rfl⟩ := e2
  exact e_Kb_insert_5  h
def f_Kb_insert (x1 : Int) (σ : kS) : kRes := fb_Kb_insert_0 x1 σ
theorem E_Kb_insert {l : Launch} {G : kG} {yf : Int} {σf : kS} {x1 : Int} {σ : kS} (h : f_Kb_insert x1 σ = some (some yf, σf)) : Call l G dm_Kb_insert y_Kb_insert m_Kb_insert [.inr (5, 0), .inl x1] σ (kI fun y' σ' => y' = yf ∧ σ' = σf) := by
  unfold f_Kb_insert at h
  exact Call.of (by decide +kernel) rfl (Nat.le_of_ble_eq_true rfl) (e_Kb_insert_0 h)
/-! Kb_isRepeat -/
def fb_Kb_isRepeat_28  (x1 : Int) (s0 : Int) (σ : kS) : kRes := kg ((s0 = 0 ∨ s0 = 1)) (some (some s0, σ))
theorem e_Kb_isRepeat_28 {l : Launch} {G : kG} {yf : Int} {σf : kS}  {x1 : Int} {s0 : Int}  {σ : kS} (h : fb_Kb_isRepeat_28  x1 s0 σ = some (some yf, σf)) : Rn l G dm_Kb_isRepeat m_Kb_isRepeat (kI fun y' σ' => y' = yf ∧ σ' = σf) 28 [some (.inr (5, 0)), some (.inl x1)] [.inl s0] σ := by
  unfold fb_Kb_isRepeat_28 at h
  obtain ⟨h1, h⟩ := kg_some h
  simp only [Option.some.injEq, Prod.mk.injEq, true_and] at h
  exact s_Kb_isRepeat_28 h1 ⟨_, rfl, h⟩
def fb_Kb_isRepeat_27  (x1 : Int) (σ : kS) : kRes := fb_Kb_isRepeat_28  x1 0 σ
theorem e_Kb_isRepeat_27 {l : Launch} {G : kG} {yf : Int} {σf : kS}  {x1 : Int}  {σ : kS} (h : fb_Kb_isRepeat_27  x1 σ = some (some yf, σf)) : Rn l G dm_Kb_isRepeat m_Kb_isRepeat (kI fun y' σ' => y' = yf ∧ σ' = σf) 27 [some (.inr (5, 0)), some (.inl x1)] [] σ := by
  unfold fb_Kb_isRepeat_27 at h
  refine s_Kb_isRepeat_27  ?_
  exact e_Kb_isRepeat_28  h
def fb_Kb_isRepeat_23  (x1 : Int) (σ : kS) : kRes := fb_Kb_isRepeat_28  x1 1 σ
theorem e_Kb_isRepeat_23 {l : Launch} {G : kG} {yf : Int} {σf : kS}  {x1 : Int}  {σ : kS} (h : fb_Kb_isRepeat_23  x1 σ = some (some yf, σf)) : Rn l G dm_Kb_isRepeat m_Kb_isRepeat (kI fun y' σ' => y' = yf ∧ σ' = σf) 23 [some (.inr (5, 0)), some (.inl x1)] [] σ := by
  unfold fb_Kb_isRepeat_23 at h
  refine s_Kb_isRepeat_23  ?_
  exact e_Kb_isRepeat_28  h
def fb_Kb_isRepeat_13  (x1 : Int) (σ : kS) : kRes := kg ((-2147483648 ≤ σ 6 0 1 ∧ σ 6 0 1 < 2147483648)) (if (σ 6 0 1) = 0 then fb_Kb_isRepeat_23  x1 σ else fb_Kb_isRepeat_27  x1 σ)
theorem e_Kb_isRepeat_13 {l : Launch} {G : kG} {yf : Int} {σf : kS}  {x1 : Int}  {σ : kS} (h : fb_Kb_isRepeat_13  x1 σ = some (some yf, σf)) : Rn l G dm_Kb_isRepeat m_Kb_isRepeat (kI fun y' σ' => y' = yf ∧ σ' = σf) 13 [some (.inr (5, 0)), some (.inl x1)] [] σ := by
  unfold fb_Kb_isRepeat_13 at h
  obtain ⟨h1, h⟩ := kg_some h
  refine s_Kb_isRepeat_13 h1 (fun c => ?_) (fun c => ?_)
  · rw [if_neg c] at h
    exact e_Kb_isRepeat_27  h
  · rw [if_pos c] at h
    exact e_Kb_isRepeat_23  h
def fb_Kb_isRepeat_7  (x1 : Int) (σ : kS) : kRes := kg ((-2147483648 ≤ x1 ∧ x1 < 2147483648)) (if x1 = 46 then fb_Kb_isRepeat_13  x1 σ else fb_Kb_isRepeat_27  x1 σ)
theorem e_Kb_isRepeat_7 {l : Launch} {G : kG} {yf : Int} {σf : kS}  {x1 : Int}  {σ : kS} (h : fb_Kb_isRepeat_7  x1 σ = some (some yf, σf)) : Rn l G dm_Kb_isRepeat m_Kb_isRepeat (kI fun y' σ' => y' = yf ∧ σ' = σf) 7 [some (.inr (5, 0)), some (.inl x1)] [] σ := by
  unfold fb_Kb_isRepeat_7 at h
  obtain ⟨h1, h⟩ := kg_some h
  refine s_Kb_isRepeat_7 h1 (fun c => ?_) (fun c => ?_)
  · rw [if_neg c] at h
    exact e_Kb_isRepeat_27  h
  · rw [if_pos c] at h
    exact e_Kb_isRepeat_13  h
def fb_Kb_isRepeat_0  (x1 : Int) (σ : kS) : kRes := kg ((-2147483648 ≤ σ 5 0 6 ∧ σ 5 0 6 < 2147483648)) (if (σ 5 0 6) = 0 then fb_Kb_isRepeat_7  x1 σ else fb_Kb_isRepeat_27  x1 σ)
theorem e_Kb_isRepeat_0 {l : Launch} {G : kG} {yf : Int} {σf : kS}  {x1 : Int}  {σ : kS} (h : fb_Kb_isRepeat_0  x1 σ = some (some yf, σf)) : Rn l G dm_Kb_isRepeat m_Kb_isRepeat (kI fun y' σ' => y' = yf ∧ σ' = σf) 0 [some (.inr (5, 0)), some (.inl x1)] [] σ := by
  unfold fb_Kb_isRepeat_0 at h
  obtain ⟨h1, h⟩ := kg_some h
  refine s_Kb_isRepeat_0 h1 (fun c => ?_) (fun c => ?_)
  · rw [if_neg c] at h
    exact e_Kb_isRepeat_27  h
  · rw [if_pos c] at h
    exact e_Kb_isRepeat_7  h
def f_Kb_isRepeat (x1 : Int) (σ : kS) : kRes := fb_Kb_isRepeat_0 x1 σ
theorem E_Kb_isRepeat {l : Launch} {G : kG} {yf : Int} {σf : kS} {x1 : Int} {σ : kS} (h : f_Kb_isRepeat x1 σ = some (some yf, σf)) : Call l G dm_Kb_isRepeat y_Kb_isRepeat m_Kb_isRepeat [.inr (5, 0), .inl x1] σ (kI fun y' σ' => y' = yf ∧ σ' = σf) := by
  unfold f_Kb_isRepeat at h
  exact Call.of (by decide +kernel) rfl (Nat.le_of_ble_eq_true rfl) (e_Kb_isRepeat_0 h)
/-! Ke_isTooLong -/
def fb_Ke_isTooLong_17  (s0 : Int) (t : Nat) (σ : kS) : kRes := kg ((s0 = 0 ∨ s0 = 1)) (some (some s0, σ))
theorem e_Ke_isTooLong_17 {l : Launch} {G : kG} {yf : Int} {σf : kS}  {s0 : Int} {t : Nat}  {σ : kS} (h : fb_Ke_isTooLong_17  s0 t σ = some (some yf, σf)) : Rn l G dm_Ke_isTooLong m_Ke_isTooLong (kI fun y' σ' => y' = yf ∧ σ' = σf) 17 [some (.inr (6, t))] [.inl s0] σ := by
  unfold fb_Ke_isTooLong_17 at h
  obtain ⟨h1, h⟩ := kg_some h
  simp only [Option.some.injEq, Prod.mk.injEq, true_and] at h
  exact s_Ke_isTooLong_17 h1 ⟨_, rfl, h⟩
def fb_Ke_isTooLong_16  (t : Nat) (σ : kS) : kRes := fb_Ke_isTooLong_17  0 t σ
theorem e_Ke_isTooLong_16 {l : Launch} {G : kG} {yf : Int} {σf : kS}  {t : Nat}  {σ : kS} (h : fb_Ke_isTooLong_16  t σ = some (some yf, σf)) : Rn l G dm_Ke_isTooLong m_Ke_isTooLong (kI fun y' σ' => y' = yf ∧ σ' = σf) 16 [some (.inr (6, t))] [] σ := by
  unfold fb_Ke_isTooLong_16 at h
  refine s_Ke_isTooLong_16  ?_
  exact e_Ke_isTooLong_17  h
def fb_Ke_isTooLong_12  (t : Nat) (σ : kS) : kRes := fb_Ke_isTooLong_17  1 t σ
theorem e_Ke_isTooLong_12 {l : Launch} {G : kG} {yf : Int} {σf : kS}  {t : Nat}  {σ : kS} (h : fb_Ke_isTooLong_12  t σ = some (some yf, σf)) : Rn l G dm_Ke_isTooLong m_Ke_isTooLong (kI fun y' σ' => y' = yf ∧ σ' = σf) 12 [some (.inr (6, t))] [] σ := by
  unfold fb_Ke_isTooLong_12 at h
  refine s_Ke_isTooLong_12  ?_
  exact e_Ke_isTooLong_17  h
def fb_Ke_isTooLong_0  (t : Nat) (σ : kS) : kRes := kg ((-2147483648 ≤ σ 6 t 1 ∧ σ 6 t 1 < 2147483648) ∧ (-2147483648 ≤ (((if t = 0 then 4 else if t = 1 then 8 else 30) : Nat) : Int) ∧ (((if t = 0 then 4 else if t = 1 then 8 else 30) : Nat) : Int) < 2147483648)) (if (σ 6 t 1) ≤ (((if t = 0 then 4 else if t = 1 then 8 else 30) : Nat) : Int) then fb_Ke_isTooLong_16  t σ else fb_Ke_isTooLong_12  t σ)
theorem e_Ke_isTooLong_0 {l : Launch} {G : kG} {yf : Int} {σf : kS}  {t : Nat}  {σ : kS} (h : fb_Ke_isTooLong_0  t σ = some (some yf, σf)) : Rn l G dm_Ke_isTooLong m_Ke_isTooLong (kI fun y' σ' => y' = yf ∧ σ' = σf) 0 [some (.inr (6, t))] [] σ := by
  unfold fb_Ke_isTooLong_0 at h
  obtain ⟨⟨h1, h2⟩, h⟩ := kg_some h
  refine s_Ke_isTooLong_0 h1 h2 (fun c => ?_) (fun c => ?_)
  · rw [if_pos c] at h
    exact e_Ke_isTooLong_16  h
  · rw [if_neg c] at h
    exact e_Ke_isTooLong_12  h
def f_Ke_isTooLong (t : Nat) (σ : kS) : kRes := fb_Ke_isTooLong_0 t σ
theorem E_Ke_isTooLong {l : Launch} {G : kG} {yf : Int} {σf : kS} {t : Nat} {σ : kS} (h : f_Ke_isTooLong t σ = some (some yf, σf)) : Call l G dm_Ke_isTooLong y_Ke_isTooLong m_Ke_isTooLong [.inr (6, t)] σ (kI fun y' σ' => y' = yf ∧ σ' = σf) := by
  unfold f_Ke_isTooLong at h
  exact Call.of (by decide +kernel) rfl (Nat.le_of_ble_eq_true rfl) (e_Ke_isTooLong_0 h)
/-! Kb_repeat -/
def fb_Kb_repeat_96  (x1 : Int) (x2 : Int) (σ : kS) : kRes := kg ((x1 = 0 ∨ x1 = 1)) (some (some x1, kup σ 5 0 12 0))
theorem e_Kb_repeat_96 {l : Launch} {G : kG} {yf : Int} {σf : kS}  {x1 : Int} {x2 : Int} {o3 : Option kV} {σ : kS} (h : fb_Kb_repeat_96  x1 x2 σ = some (some yf, σf)) : Rn l G dm_Kb_repeat m_Kb_repeat (kI fun y' σ' => y' = yf ∧ σ' = σf) 96 [some (.inr (5, 0)), some (.inl x1), some (.inl x2), o3] [] σ := by
  unfold fb_Kb_repeat_96 at h
  obtain ⟨h1, h⟩ := kg_some h
  simp only [Option.some.injEq, Prod.mk.injEq, true_and] at h
  exact s_Kb_repeat_96 h1 ⟨_, rfl, h⟩
def fb_Kb_repeat_90 (k31 : Int → Int → kS → kRes) (x1 : Int) (x2 : Int) (x3 : Int) (σ : kS) : kRes := k31 x1 (x2 + 1) σ
theorem e_Kb_repeat_90 {l : Launch} {G : kG} {yf : Int} {σf : kS} {k31 : Int → Int → kS → kRes} (hk31 : ∀ (x1 : Int) (x2 : Int) (o3 : Option kV) (σ : kS), k31 x1 x2 σ = some (some yf, σf) → Rn l G dm_Kb_repeat m_Kb_repeat (kI fun y' σ' => y' = yf ∧ σ' = σf) 31 [some (.inr (5, 0)), some (.inl x1), some (.inl x2), o3] [] σ) {x1 : Int} {x2 : Int} {x3 : Int}  {σ : kS} (h : fb_Kb_repeat_90 k31 x1 x2 x3 σ = some (some yf, σf)) : Rn l G dm_Kb_repeat m_Kb_repeat (kI fun y' σ' => y' = yf ∧ σ' = σf) 90 [some (.inr (5, 0)), some (.inl x1), some (.inl x2), some (.inl x3)] [] σ := by
  unfold fb_Kb_repeat_90 at h
  refine s_Kb_repeat_90  ?_
  exact hk31 _ _ _ _ h
def fb_Kb_repeat_87  (x1 : Int) (x2 : Int) (x3 : Int) (σ : kS) : kRes := fb_Kb_repeat_96  x1 x2 σ
theorem e_Kb_repeat_87 {l : Launch} {G : kG} {yf : Int} {σf : kS}  {x1 : Int} {x2 : Int} {x3 : Int}  {σ : kS} (h : fb_Kb_repeat_87  x1 x2 x3 σ = some (some yf, σf)) : Rn l G dm_Kb_repeat m_Kb_repeat (kI fun y' σ' => y' = yf ∧ σ' = σf) 87 [some (.inr (5, 0)), some (.inl x1), some (.inl x2), some (.inl x3)] [] σ := by
  unfold fb_Kb_repeat_87 at h
  refine s_Kb_repeat_87  ?_
  exact e_Kb_repeat_96  h
def fb_Kb_repeat_78 (k31 : Int → Int → kS → kRes) (x1 : Int) (x2 : Int) (x3 : Int) (σ : kS) : kRes := kg ((-2147483648 ≤ σ 5 0 6 ∧ σ 5 0 6 < 2147483648)) (if (σ 5 0 6) = 0 then fb_Kb_repeat_87  0 x2 x3 σ else fb_Kb_repeat_90 k31 0 x2 x3 σ)
theorem e_Kb_repeat_78 {l : Launch} {G : kG} {yf : Int} {σf : kS} {k31 : Int → Int → kS → kRes} (hk31 : ∀ (x1 : Int) (x2 : Int) (o3 : Option kV) (σ : kS), k31 x1 x2 σ = some (some yf, σf) → Rn l G dm_Kb_repeat m_Kb_repeat (kI fun y' σ' => y' = yf ∧ σ' = σf) 31 [some (.inr (5, 0)), some (.inl x1), some (.inl x2), o3] [] σ) {x1 : Int} {x2 : Int} {x3 : Int}  {σ : kS} (h : fb_Kb_repeat_78 k31 x1 x2 x3 σ = some (some yf, σf)) : Rn l G dm_Kb_repeat m_Kb_repeat (kI fun y' σ' => y' = yf ∧ σ' = σf) 78 [some (.inr (5, 0)), some (.inl x1), some (.inl x2), some (.inl x3)] [] σ := by
  unfold fb_Kb_repeat_78 at h
  obtain ⟨h1, h⟩ := kg_some h
  refine s_Kb_repeat_78 h1 (fun c => ?_) (fun c => ?_)
  · rw [if_neg c] at h
    exact e_Kb_repeat_90 hk31 h
  · rw [if_pos c] at h
    exact e_Kb_repeat_87  h
def fb_Kb_repeat_75 (k31 : Int → Int → kS → kRes) (x1 : Int) (x2 : Int) (x3 : Int) (s0 : Int) (σ : kS) : kRes := kg ((-2147483648 ≤ s0 ∧ s0 < 2147483648)) (if s0 = 0 then fb_Kb_repeat_78 k31 x1 x2 x3 σ else fb_Kb_repeat_90 k31 x1 x2 x3 σ)
theorem e_Kb_repeat_75 {l : Launch} {G : kG} {yf : Int} {σf : kS} {k31 : Int → Int → kS → kRes} (hk31 : ∀ (x1 : Int) (x2 : Int) (o3 : Option kV) (σ : kS), k31 x1 x2 σ = some (some yf, σf) → Rn l G dm_Kb_repeat m_Kb_repeat (kI fun y' σ' => y' = yf ∧ σ' = σf) 31 [some (.inr (5, 0)), some (.inl x1), some (.inl x2), o3] [] σ) {x1 : Int} {x2 : Int} {x3 : Int} {s0 : Int}  {σ : kS} (h : fb_Kb_repeat_75 k31 x1 x2 x3 s0 σ = some (some yf, σf)) : Rn l G dm_Kb_repeat m_Kb_repeat (kI fun y' σ' => y' = yf ∧ σ' = σf) 75 [some (.inr (5, 0)), some (.inl x1), some (.inl x2), some (.inl x3)] [.inl s0] σ := by
  unfold fb_Kb_repeat_75 at h
  obtain ⟨h1, h⟩ := kg_some h
  refine s_Kb_repeat_75 h1 (fun c => ?_) (fun c => ?_)
  · rw [if_neg c] at h
    exact e_Kb_repeat_90 hk31 h
  · rw [if_pos c] at h
    exact e_Kb_repeat_78 hk31 h
def fb_Kb_repeat_70 (k31 : Int → Int → kS → kRes) (x1 : Int) (x2 : Int) (x3 : Int) (σ : kS) : kRes := kbi (f_Kb_insert x3 σ) fun y σ1 => fb_Kb_repeat_75 k31 x1 x2 x3 y σ1
theorem e_Kb_repeat_70 {l : Launch} {G : kG} {yf : Int} {σf : kS} {k31 : Int → Int → kS → kRes} (hk31 : ∀ (x1 : Int) (x2 : Int) (o3 : Option kV) (σ : kS), k31 x1 x2 σ = some (some yf, σf) → Rn l G dm_Kb_repeat m_Kb_repeat (kI fun y' σ' => y' = yf ∧ σ' = σf) 31 [some (.inr (5, 0)), some (.inl x1), some (.inl x2), o3] [] σ) {x1 : Int} {x2 : Int} {x3 : Int}  {σ : kS} (h : fb_Kb_repeat_70 k31 x1 x2 x3 σ = some (some yf, σf)) : Rn l G dm_Kb_repeat m_Kb_repeat (kI fun y' σ' => y' = yf ∧ σ' = σf) 70 [some (.inr (5, 0)), some (.inl x1), some (.inl x2), some (.inl x3)] [] σ := by
  unfold fb_Kb_repeat_70 at h
  obtain ⟨y, σ1, hc, h⟩ := kbi_some h
  refine s_Kb_repeat_70  (by decide) (E_Kb_insert hc) (fun y2 σ2 e2 => ?_)
  obtain ⟨rfl, rfl⟩ := e2
  exact e_Kb_repeat_75 hk31 h
def fb_Kb_repeat_67 (k31 : Int → Int → kS → kRes) (x1 : Int) (x2 : Int) (x3 : Int) (σ : kS) : kRes := fb_Kb_repeat_90 k31 x1 x2 x3 σ
theorem e_Kb_repeat_67 {l : Launch} {G : kG} {yf : Int} {σf : kS} {k31 : Int → Int → kS → kRes} (hk31 : ∀ (x1 : Int) (x2 : Int) (o3 : Option kV) (σ : kS), k31 x1 x2 σ = some (some yf, σf) → Rn l G dm_Kb_repeat m_Kb_repeat (kI fun y' σ' => y' = yf ∧ σ' = σf) 31 [some (.inr (5, 0)), some (.inl x1), some (.inl x2), o3] [] σ) {x1 : Int} {x2 : Int} {x3 : Int}  {σ : kS} (h : fb_Kb_repeat_67 k31 x1 x2 x3 σ = some (some yf, σf)) : Rn l G dm_Kb_repeat m_Kb_repeat (kI fun y' σ' => y' = yf ∧ σ' = σf) 67 [some (.inr (5, 0)), some (.inl x1), some (.inl x2), some (.inl x3)] [] σ := by
  unfold fb_Kb_repeat_67 at h
  refine s_Kb_repeat_67  ?_
  exact e_Kb_repeat_90 hk31 h
def fb_Kb_repeat_64 (k31 : Int → Int → kS → kRes) (x1 : Int) (x2 : Int) (x3 : Int) (s0 : Int) (σ : kS) : kRes := kg ((-2147483648 ≤ s0 ∧ s0 < 2147483648)) (if s0 = 0 then fb_Kb_repeat_78 k31 x1 x2 x3 σ else fb_Kb_repeat_67 k31 x1 x2 x3 σ)
theorem e_Kb_repeat_64 {l : Launch} {G : kG} {yf : Int} {σf : kS} {k31 : Int → Int → kS → kRes} (hk31 : ∀ (x1 : Int) (x2 : Int) (o3 : Option kV) (σ : kS), k31 x1 x2 σ = some (some yf, σf) → Rn l G dm_Kb_repeat m_Kb_repeat (kI fun y' σ' => y' = yf ∧ σ' = σf) 31 [some (.inr (5, 0)), some (.inl x1), some (.inl x2), o3] [] σ) {x1 : Int} {x2 : Int} {x3 : Int} {s0 : Int}  {σ : kS} (h : fb_Kb_repeat_64 k31 x1 x2 x3 s0 σ = some (some yf, σf)) : Rn l G dm_Kb_repeat m_Kb_repeat (kI fun y' σ' => y' = yf ∧ σ' = σf) 64 [some (.inr (5, 0)), some (.inl x1), some (.inl x2), some (.inl x3)] [.inl s0] σ := by
  unfold fb_Kb_repeat_64 at h
  obtain ⟨h1, h⟩ := kg_some h
  refine s_Kb_repeat_64 h1 (fun c => ?_) (fun c => ?_)
  · rw [if_pos c] at h
    exact e_Kb_repeat_78 hk31 h
  · rw [if_neg c] at h
    exact e_Kb_repeat_67 hk31 h
def fb_Kb_repeat_59 (k31 : Int → Int → kS → kRes) (x1 : Int) (x2 : Int) (x3 : Int) (σ : kS) : kRes := kbi (f_Kb_command x3 σ) fun y σ1 => fb_Kb_repeat_64 k31 x1 x2 x3 y σ1
theorem e_Kb_repeat_59 {l : Launch} {G : kG} {yf : Int} {σf : kS} {k31 : Int → Int → kS → kRes} (hk31 : ∀ (x1 : Int) (x2 : Int) (o3 : Option kV) (σ : kS), k31 x1 x2 σ = some (some yf, σf) → Rn l G dm_Kb_repeat m_Kb_repeat (kI fun y' σ' => y' = yf ∧ σ' = σf) 31 [some (.inr (5, 0)), some (.inl x1), some (.inl x2), o3] [] σ) {x1 : Int} {x2 : Int} {x3 : Int}  {σ : kS} (h : fb_Kb_repeat_59 k31 x1 x2 x3 σ = some (some yf, σf)) : Rn l G dm_Kb_repeat m_Kb_repeat (kI fun y' σ' => y' = yf ∧ σ' = σf) 59 [some (.inr (5, 0)), some (.inl x1), some (.inl x2), some (.inl x3)] [] σ := by
  unfold fb_Kb_repeat_59 at h
  obtain ⟨y, σ1, hc, h⟩ := kbi_some h
  refine s_Kb_repeat_59  (by decide) (E_Kb_command hc) (fun y2 σ2 e2 => ?_)
  obtain ⟨rfl, rfl⟩ := e2
  exact e_Kb_repeat_64 hk31 h
def fb_Kb_repeat_42 (k31 : Int → Int → kS → kRes) (x1 : Int) (x2 : Int) (σ : kS) : kRes := kg ((0 ≤ x2 ∧ x2 < (8 : Nat)) ∧ (-2147483648 ≤ σ 5 0 6 ∧ σ 5 0 6 < 2147483648)) (if (σ 5 0 6) = 0 then fb_Kb_repeat_59 k31 x1 x2 (σ 16 1 (Int.toNat x2)) σ else fb_Kb_repeat_70 k31 x1 x2 (σ 16 1 (Int.toNat x2)) σ)
theorem e_Kb_repeat_42 {l : Launch} {G : kG} {yf : Int} {σf : kS} {k31 : Int → Int → kS → kRes} (hk31 : ∀ (x1 : Int) (x2 : Int) (o3 : Option kV) (σ : kS), k31 x1 x2 σ = some (some yf, σf) → Rn l G dm_Kb_repeat m_Kb_repeat (kI fun y' σ' => y' = yf ∧ σ' = σf) 31 [some (.inr (5, 0)), some (.inl x1), some (.inl x2), o3] [] σ) {x1 : Int} {x2 : Int} {o3 : Option kV} {σ : kS} (h : fb_Kb_repeat_42 k31 x1 x2 σ = some (some yf, σf)) : Rn l G dm_Kb_repeat m_Kb_repeat (kI fun y' σ' => y' = yf ∧ σ' = σf) 42 [some (.inr (5, 0)), some (.inl x1), some (.inl x2), o3] [] σ := by
  unfold fb_Kb_repeat_42 at h
  obtain ⟨⟨h1, h2⟩, h⟩ := kg_some h
  refine s_Kb_repeat_42 h1 h2 (fun c => ?_) (fun c => ?_)
  · rw [if_neg c] at h
    exact e_Kb_repeat_70 hk31 h
  · rw [if_pos c] at h
    exact e_Kb_repeat_59 hk31 h
def fb_Kb_repeat_31 (k31 : Int → Int → kS → kRes) (x1 : Int) (x2 : Int) (σ : kS) : kRes := kg ((-2147483648 ≤ x2 ∧ x2 < 2147483648) ∧ (-2147483648 ≤ σ 6 1 1 ∧ σ 6 1 1 < 2147483648)) (if (σ 6 1 1) ≤ x2 then fb_Kb_repeat_96  x1 x2 σ else fb_Kb_repeat_42 k31 x1 x2 σ)
theorem e_Kb_repeat_31 {l : Launch} {G : kG} {yf : Int} {σf : kS} {k31 : Int → Int → kS → kRes} (hk31 : ∀ (x1 : Int) (x2 : Int) (o3 : Option kV) (σ : kS), k31 x1 x2 σ = some (some yf, σf) → Rn l G dm_Kb_repeat m_Kb_repeat (kI fun y' σ' => y' = yf ∧ σ' = σf) 31 [some (.inr (5, 0)), some (.inl x1), some (.inl x2), o3] [] σ) {x1 : Int} {x2 : Int} {o3 : Option kV} {σ : kS} (h : fb_Kb_repeat_31 k31 x1 x2 σ = some (some yf, σf)) : Rn l G dm_Kb_repeat m_Kb_repeat (kI fun y' σ' => y' = yf ∧ σ' = σf) 31 [some (.inr (5, 0)), some (.inl x1), some (.inl x2), o3] [] σ := by
  unfold fb_Kb_repeat_31 at h
  obtain ⟨⟨h1, h2⟩, h⟩ := kg_some h
  refine s_Kb_repeat_31 h1 h2 (fun c => ?_) (fun c => ?_)
  · rw [if_pos c] at h
    exact e_Kb_repeat_96  h
  · rw [if_neg c] at h
    exact e_Kb_repeat_42 hk31 h
def fl_Kb_repeat_31  : Nat → Int → Int → kS → kRes
  | 0, _, _, _ => none
  | n + 1, x1, x2, σ => fb_Kb_repeat_31 (fl_Kb_repeat_31  n) x1 x2 σ
theorem el_Kb_repeat_31 {l : Launch} {G : kG} {yf : Int} {σf : kS}  : ∀ (n : Nat) (x1 : Int) (x2 : Int) (o3 : Option kV) (σ : kS), fl_Kb_repeat_31  n x1 x2 σ = some (some yf, σf) → Rn l G dm_Kb_repeat m_Kb_repeat (kI fun y' σ' => y' = yf ∧ σ' = σf) 31 [some (.inr (5, 0)), some (.inl x1), some (.inl x2), o3] [] σ := by
  intro n
  induction n with
  | zero => intro x1 x2 o3 σ h; simp only [fl_Kb_repeat_31] at h; cases h
  | succ n ih => intro x1 x2 o3 σ h; simp only [fl_Kb_repeat_31] at h; exact e_Kb_repeat_31 ih h
def fb_Kb_repeat_22   (σ : kS) : kRes := fl_Kb_repeat_31  3000 1 0 (kup σ 5 0 12 1)
theorem e_Kb_repeat_22 {l : Launch} {G : kG} {yf : Int} {σf : kS}   {o1 : Option kV} {o2 : Option kV} {o3 : Option kV} {σ : kS} (h : fb_Kb_repeat_22   σ = some (some yf, σf)) : Rn l G dm_Kb_repeat m_Kb_repeat (kI fun y' σ' => y' = yf ∧ σ' = σf) 22 [some (.inr (5, 0)), o1, o2, o3] [] σ := by
  unfold fb_Kb_repeat_22 at h
  refine s_Kb_repeat_22  ?_
  exact el_Kb_repeat_31  _ _ _ _ _ h
def fb_Kb_repeat_20   (σ : kS) : kRes := some (some 0, σ)
theorem e_Kb_repeat_20 {l : Launch} {G : kG} {yf : Int} {σf : kS}   {o1 : Option kV} {o2 : Option kV} {o3 : Option kV} {σ : kS} (h : fb_Kb_repeat_20   σ = some (some yf, σf)) : Rn l G dm_Kb_repeat m_Kb_repeat (kI fun y' σ' => y' = yf ∧ σ' = σf) 20 [some (.inr (5, 0)), o1, o2, o3] [] σ := by
  unfold fb_Kb_repeat_20 at h
  simp only [Option.some.injEq, Prod.mk.injEq, true_and] at h
  exact s_Kb_repeat_20  ⟨_, rfl, h⟩
def fb_Kb_repeat_17  (s0 : Int) (σ : kS) : kRes := kg ((-2147483648 ≤ s0 ∧ s0 < 2147483648)) (if s0 = 0 then fb_Kb_repeat_22  σ else fb_Kb_repeat_20  σ)
theorem e_Kb_repeat_17 {l : Launch} {G : kG} {yf : Int} {σf : kS}  {s0 : Int} {o1 : Option kV} {o2 : Option kV} {o3 : Option kV} {σ : kS} (h : fb_Kb_repeat_17  s0 σ = some (some yf, σf)) : Rn l G dm_Kb_repeat m_Kb_repeat (kI fun y' σ' => y' = yf ∧ σ' = σf) 17 [some (.inr (5, 0)), o1, o2, o3] [.inl s0] σ := by
  unfold fb_Kb_repeat_17 at h
  obtain ⟨h1, h⟩ := kg_some h
  refine s_Kb_repeat_17 h1 (fun c => ?_) (fun c => ?_)
  · rw [if_pos c] at h
    exact e_Kb_repeat_22  h
  · rw [if_neg c] at h
    exact e_Kb_repeat_20  h
def fb_Kb_repeat_10   (σ : kS) : kRes := kbi (f_Ke_isTooLong 1 σ) fun y σ1 => fb_Kb_repeat_17  y σ1
theorem e_Kb_repeat_10 {l : Launch} {G : kG} {yf : Int} {σf : kS}   {o1 : Option kV} {o2 : Option kV} {o3 : Option kV} {σ : kS} (h : fb_Kb_repeat_10   σ = some (some yf, σf)) : Rn l G dm_Kb_repeat m_Kb_repeat (kI fun y' σ' => y' = yf ∧ σ' = σf) 10 [some (.inr (5, 0)), o1, o2, o3] [] σ := by
  unfold fb_Kb_repeat_10 at h
  obtain ⟨y, σ1, hc, h⟩ := kbi_some h
  refine s_Kb_repeat_10  (by decide) (E_Ke_isTooLong hc) (fun y2 σ2 e2 => ?_)
  obtain ⟨rfl, rfl⟩ := e2
  exact e_Kb_repeat_17  h
def fb_Kb_repeat_0   (σ : kS) : kRes := kg ((-2147483648 ≤ σ 6 1 1 ∧ σ 6 1 1 < 2147483648)) (if (σ 6 1 1) = 0 then fb_Kb_repeat_20  σ else fb_Kb_repeat_10  σ)
theorem e_Kb_repeat_0 {l : Launch} {G : kG} {yf : Int} {σf : kS}   {o1 : Option kV} {o2 : Option kV} {o3 : Option kV} {σ : kS} (h : fb_Kb_repeat_0   σ = some (some yf, σf)) : Rn l G dm_Kb_repeat m_Kb_repeat (kI fun y' σ' => y' = yf ∧ σ' = σf) 0 [some (.inr (5, 0)), o1, o2, o3] [] σ := by
  unfold fb_Kb_repeat_0 at h
  obtain ⟨h1, h⟩ := kg_some h
  refine s_Kb_repeat_0 h1 (fun c => ?_) (fun c => ?_)
  · rw [if_pos c] at h
    exact e_Kb_repeat_20  h
  · rw [if_neg c] at h
    exact e_Kb_repeat_10  h
def f_Kb_repeat  (σ : kS) : kRes := fb_Kb_repeat_0  σ
theorem E_Kb_repeat {l : Launch} {G : kG} {yf : Int} {σf : kS}  {σ : kS} (h : f_Kb_repeat  σ = some (some yf, σf)) : Call l G dm_Kb_repeat y_Kb_repeat m_Kb_repeat [.inr (5, 0)] σ (kI fun y' σ' => y' = yf ∧ σ' = σf) := by
  unfold f_Kb_repeat at h
  exact Call.of (by decide +kernel) rfl (Nat.le_of_ble_eq_true rfl) (e_Kb_repeat_0 h)
/-! Kb_reset -/
def fb_Kb_reset_9   (σ : kS) : kRes := some (none, kup (kup σ 6 1 1 0) 6 2 1 0)
theorem e_Kb_reset_9 {l : Launch} {G : kG} {σf : kS}    {σ : kS} (h : fb_Kb_reset_9   σ = some (none, σf)) : Rn l G dm_Kb_reset m_Kb_reset (kU fun σ' => σ' = σf) 9 [some (.inr (5, 0))] [] σ := by
  unfold fb_Kb_reset_9 at h
  simp only [Option.some.injEq, Prod.mk.injEq, true_and] at h
  exact s_Kb_reset_9  ⟨rfl, h⟩
def fb_Kb_reset_0   (σ : kS) : kRes := kbu (f_Kb_dropCommand  (kup σ 5 0 6 0)) fun σ1 => fb_Kb_reset_9  σ1
theorem e_Kb_reset_0 {l : Launch} {G : kG} {σf : kS}    {σ : kS} (h : fb_Kb_reset_0   σ = some (none, σf)) : Rn l G dm_Kb_reset m_Kb_reset (kU fun σ' => σ' = σf) 0 [some (.inr (5, 0))] [] σ := by
  unfold fb_Kb_reset_0 at h
  obtain ⟨σ1, hc, h⟩ := kbu_some h
  refine s_Kb_reset_0  (by decide) (E_Kb_dropCommand hc) (fun σ2 e2 => ?_)
  subst e2
  exact e_Kb_reset_9  h
def f_Kb_reset  (σ : kS) : kRes := fb_Kb_reset_0  σ
theorem E_Kb_reset {l : Launch} {G : kG} {σf : kS}  {σ : kS} (h : f_Kb_reset  σ = some (none, σf)) : Call l G dm_Kb_reset y_Kb_reset m_Kb_reset [.inr (5, 0)] σ (kU fun σ' => σ' = σf) := by
  unfold f_Kb_reset at h
  exact Call.of (by decide +kernel) rfl (Nat.le_of_ble_eq_true rfl) (e_Kb_reset_0 h)
/-! Ks_buffer -/
def fb_Ks_buffer_0   (σ : kS) : kRes := some (some (σ 1 0 4), σ)
theorem e_Ks_buffer_0 {l : Launch} {G : kG} {yf : Int} {σf : kS}    {σ : kS} (h : fb_Ks_buffer_0   σ = some (some yf, σf)) : Rn l G dm_Ks_buffer m_Ks_buffer (kI fun y' σ' => y' = yf ∧ σ' = σf) 0 [some (.inr (0, 0))] [] σ := by
  unfold fb_Ks_buffer_0 at h
  simp only [Option.some.injEq, Prod.mk.injEq, true_and] at h
  exact s_Ks_buffer_0  ⟨_, rfl, h⟩
def f_Ks_buffer  (σ : kS) : kRes := fb_Ks_buffer_0  σ
theorem E_Ks_buffer {l : Launch} {G : kG} {yf : Int} {σf : kS}  {σ : kS} (h : f_Ks_buffer  σ = some (some yf, σf)) : Call l G dm_Ks_buffer y_Ks_buffer m_Ks_buffer [.inr (0, 0)] σ (kI fun y' σ' => y' = yf ∧ σ' = σf) := by
  unfold f_Ks_buffer at h
  exact Call.of (by decide +kernel) rfl (Nat.le_of_ble_eq_true rfl) (e_Ks_buffer_0 h)
/-! Wi_codeAt -/
def fb_Wi_codeAt_38  (x1 : Int) (x2 : Int) (s0 : Int) (σ : kS) : kRes := some (some s0, σ)
theorem e_Wi_codeAt_38 {l : Launch} {G : kG} {yf : Int} {σf : kS}  {x1 : Int} {x2 : Int} {s0 : Int}  {σ : kS} (h : fb_Wi_codeAt_38  x1 x2 s0 σ = some (some yf, σf)) : Rn l G dm_Wi_codeAt m_Wi_codeAt (kI fun y' σ' => y' = yf ∧ σ' = σf) 38 [some (.inr (4, 0)), some (.inl x1), some (.inl x2)] [.inl s0] σ := by
  unfold fb_Wi_codeAt_38 at h
  simp only [Option.some.injEq, Prod.mk.injEq, true_and] at h
  exact s_Wi_codeAt_38  ⟨_, rfl, h⟩
def fb_Wi_codeAt_25  (x1 : Int) (x2 : Int) (σ : kS) : kRes := kg ((0 ≤ (x1 * (σ 4 0 2)) + x2 ∧ (x1 * (σ 4 0 2)) + x2 < (100 : Nat))) (fb_Wi_codeAt_38  x1 x2 (σ 15 0 (Int.toNat ((x1 * (σ 4 0 2)) + x2))) σ)
theorem e_Wi_codeAt_25 {l : Launch} {G : kG} {yf : Int} {σf : kS}  {x1 : Int} {x2 : Int}  {σ : kS} (h : fb_Wi_codeAt_25  x1 x2 σ = some (some yf, σf)) : Rn l G dm_Wi_codeAt m_Wi_codeAt (kI fun y' σ' => y' = yf ∧ σ' = σf) 25 [some (.inr (4, 0)), some (.inl x1), some (.inl x2)] [] σ := by
  unfold fb_Wi_codeAt_25 at h
  obtain ⟨h1, h⟩ := kg_some h
  refine s_Wi_codeAt_25 h1 ?_
  exact e_Wi_codeAt_38  h
def fb_Wi_codeAt_21  (x1 : Int) (x2 : Int) (σ : kS) : kRes := fb_Wi_codeAt_38  x1 x2 0 σ
theorem e_Wi_codeAt_21 {l : Launch} {G : kG} {yf : Int} {σf : kS}  {x1 : Int} {x2 : Int}  {σ : kS} (h : fb_Wi_codeAt_21  x1 x2 σ = some (some yf, σf)) : Rn l G dm_Wi_codeAt m_Wi_codeAt (kI fun y' σ' => y' = yf ∧ σ' = σf) 21 [some (.inr (4, 0)), some (.inl x1), some (.inl x2)] [] σ := by
  unfold fb_Wi_codeAt_21 at h
  refine s_Wi_codeAt_21  ?_
  exact e_Wi_codeAt_38  h
def fb_Wi_codeAt_13  (x1 : Int) (x2 : Int) (σ : kS) : kRes := kg ((-2147483648 ≤ x2 ∧ x2 < 2147483648) ∧ (-2147483648 ≤ σ 4 0 2 ∧ σ 4 0 2 < 2147483648)) (if x2 < (σ 4 0 2) then fb_Wi_codeAt_25  x1 x2 σ else fb_Wi_codeAt_21  x1 x2 σ)
theorem e_Wi_codeAt_13 {l : Launch} {G : kG} {yf : Int} {σf : kS}  {x1 : Int} {x2 : Int}  {σ : kS} (h : fb_Wi_codeAt_13  x1 x2 σ = some (some yf, σf)) : Rn l G dm_Wi_codeAt m_Wi_codeAt (kI fun y' σ' => y' = yf ∧ σ' = σf) 13 [some (.inr (4, 0)), some (.inl x1), some (.inl x2)] [] σ := by
  unfold fb_Wi_codeAt_13 at h
  obtain ⟨⟨h1, h2⟩, h⟩ := kg_some h
  refine s_Wi_codeAt_13 h1 h2 (fun c => ?_) (fun c => ?_)
  · rw [if_pos c] at h
    exact e_Wi_codeAt_25  h
  · rw [if_neg c] at h
    exact e_Wi_codeAt_21  h
def fb_Wi_codeAt_9  (x1 : Int) (x2 : Int) (σ : kS) : kRes := kg ((-2147483648 ≤ x2 ∧ x2 < 2147483648)) (if x2 < 0 then fb_Wi_codeAt_21  x1 x2 σ else fb_Wi_codeAt_13  x1 x2 σ)
theorem e_Wi_codeAt_9 {l : Launch} {G : kG} {yf : Int} {σf : kS}  {x1 : Int} {x2 : Int}  {σ : kS} (h : fb_Wi_codeAt_9  x1 x2 σ = some (some yf, σf)) : Rn l G dm_Wi_codeAt m_Wi_codeAt (kI fun y' σ' => y' = yf ∧ σ' = σf) 9 [some (.inr (4, 0)), some (.inl x1), some (.inl x2)] [] σ := by
  unfold fb_Wi_codeAt_9 at h
  obtain ⟨h1, h⟩ := kg_some h
  refine s_Wi_codeAt_9 h1 (fun c => ?_) (fun c => ?_)
  · rw [if_pos c] at h
    exact e_Wi_codeAt_21  h
  · rw [if_neg c] at h
    exact e_Wi_codeAt_13  h
def fb_Wi_codeAt_4  (x1 : Int) (x2 : Int) (σ : kS) : kRes := kg ((-2147483648 ≤ x1 ∧ x1 < 2147483648)) (if 5 ≤ x1 then fb_Wi_codeAt_21  x1 x2 σ else fb_Wi_codeAt_9  x1 x2 σ)
theorem e_Wi_codeAt_4 {l : Launch} {G : kG} {yf : Int} {σf : kS}  {x1 : Int} {x2 : Int}  {σ : kS} (h : fb_Wi_codeAt_4  x1 x2 σ = some (some yf, σf)) : Rn l G dm_Wi_codeAt m_Wi_codeAt (kI fun y' σ' => y' = yf ∧ σ' = σf) 4 [some (.inr (4, 0)), some (.inl x1), some (.inl x2)] [] σ := by
  unfold fb_Wi_codeAt_4 at h
  obtain ⟨h1, h⟩ := kg_some h
  refine s_Wi_codeAt_4 h1 (fun c => ?_) (fun c => ?_)
  · rw [if_pos c] at h
    exact e_Wi_codeAt_21  h
  · rw [if_neg c] at h
    exact e_Wi_codeAt_9  h
def fb_Wi_codeAt_0  (x1 : Int) (x2 : Int) (σ : kS) : kRes := kg ((-2147483648 ≤ x1 ∧ x1 < 2147483648)) (if x1 < 0 then fb_Wi_codeAt_21  x1 x2 σ else fb_Wi_codeAt_4  x1 x2 σ)
theorem e_Wi_codeAt_0 {l : Launch} {G : kG} {yf : Int} {σf : kS}  {x1 : Int} {x2 : Int}  {σ : kS} (h : fb_Wi_codeAt_0  x1 x2 σ = some (some yf, σf)) : Rn l G dm_Wi_codeAt m_Wi_codeAt (kI fun y' σ' => y' = yf ∧ σ' = σf) 0 [some (.inr (4, 0)), some (.inl x1), some (.inl x2)] [] σ := by
  unfold fb_Wi_codeAt_0 at h
  obtain ⟨h1, h⟩ := kg_some h
  refine s_Wi_codeAt_0 h1 (fun c => ?_) (fun c => ?_)
  · rw [if_pos c] at h
    exact e_Wi_codeAt_21  h
  · rw [if_neg c] at h
    exact e_Wi_codeAt_4  h
def f_Wi_codeAt (x1 : Int) (x2 : Int) (σ : kS) : kRes := fb_Wi_codeAt_0 x1 x2 σ
theorem E_Wi_codeAt {l : Launch} {G : kG} {yf : Int} {σf : kS} {x1 : Int} {x2 : Int} {σ : kS} (h : f_Wi_codeAt x1 x2 σ = some (some yf, σf)) : Call l G dm_Wi_codeAt y_Wi_codeAt m_Wi_codeAt [.inr (4, 0), .inl x1, .inl x2] σ (kI fun y' σ' => y' = yf ∧ σ' = σf) := by
  unfold f_Wi_codeAt at h
  exact Call.of (by decide +kernel) rfl (Nat.le_of_ble_eq_true rfl) (e_Wi_codeAt_0 h)
/-! Ks_cell -/
def fb_Ks_cell_9  (x1 : Int) (x2 : Int) (s0 : Int) (σ : kS) : kRes := some (some s0, σ)
theorem e_Ks_cell_9 {l : Launch} {G : kG} {yf : Int} {σf : kS}  {x1 : Int} {x2 : Int} {s0 : Int}  {σ : kS} (h : fb_Ks_cell_9  x1 x2 s0 σ = some (some yf, σf)) : Rn l G dm_Ks_cell m_Ks_cell (kI fun y' σ' => y' = yf ∧ σ' = σf) 9 [some (.inr (0, 0)), some (.inl x1), some (.inl x2)] [.inl s0] σ := by
  unfold fb_Ks_cell_9 at h
  simp only [Option.some.injEq, Prod.mk.injEq, true_and] at h
  exact s_Ks_cell_9  ⟨_, rfl, h⟩
def fb_Ks_cell_0  (x1 : Int) (x2 : Int) (σ : kS) : kRes := kbi (f_Wi_codeAt x1 x2 σ) fun y σ1 => fb_Ks_cell_9  x1 x2 y σ1
theorem e_Ks_cell_0 {l : Launch} {G : kG} {yf : Int} {σf : kS}  {x1 : Int} {x2 : Int}  {σ : kS} (h : fb_Ks_cell_0  x1 x2 σ = some (some yf, σf)) : Rn l G dm_Ks_cell m_Ks_cell (kI fun y' σ' => y' = yf ∧ σ' = σf) 0 [some (.inr (0, 0)), some (.inl x1), some (.inl x2)] [] σ := by
  unfold fb_Ks_cell_0 at h
  obtain ⟨y, σ1, hc, h⟩ := kbi_some h
  refine s_Ks_cell_0  (by decide) (E_Wi_codeAt hc) (fun y2 σ2 e2 => ?_)
  obtain ⟨rfl, rfl⟩ := e2
  exact e_Ks_cell_9  h
def f_Ks_cell (x1 : Int) (x2 : Int) (σ : kS) : kRes := fb_Ks_cell_0 x1 x2 σ
theorem E_Ks_cell {l : Launch} {G : kG} {yf : Int} {σf : kS} {x1 : Int} {x2 : Int} {σ : kS} (h : f_Ks_cell x1 x2 σ = some (some yf, σf)) : Call l G dm_Ks_cell y_Ks_cell m_Ks_cell [.inr (0, 0), .inl x1, .inl x2] σ (kI fun y' σ' => y' = yf ∧ σ' = σf) := by
  unfold f_Ks_cell at h
  exact Call.of (by decide +kernel) rfl (Nat.le_of_ble_eq_true rfl) (e_Ks_cell_0 h)
/-! Wi_rowsOf -/
def fb_Wi_rowsOf_6  (x2 : Int) (s0 : Int) (s1 : Int) (σ : kS) : kRes := kg (¬ Int32.ofInt (σ 4 0 2) = 0 ∧ (-2147483648 ≤ s1 ∧ s1 < 2147483648) ∧ (-2147483648 ≤ kdiv ((s0 + (σ 4 0 2)) - 1) (σ 4 0 2) ∧ kdiv ((s0 + (σ 4 0 2)) - 1) (σ 4 0 2) < 2147483648)) (some (some (max s1 (kdiv ((s0 + (σ 4 0 2)) - 1) (σ 4 0 2))), σ))
theorem e_Wi_rowsOf_6 {l : Launch} {G : kG} {yf : Int} {σf : kS}  {x2 : Int} {s0 : Int} {s1 : Int}  {σ : kS} (h : fb_Wi_rowsOf_6  x2 s0 s1 σ = some (some yf, σf)) : Rn l G dm_Wi_rowsOf m_Wi_rowsOf (kI fun y' σ' => y' = yf ∧ σ' = σf) 6 [some (.inr (4, 0)), some (.inr (2, 0)), some (.inl x2)] [.inl s0, .inl s1] σ := by
  unfold fb_Wi_rowsOf_6 at h
  obtain ⟨⟨h1, h2, h3⟩, h⟩ := kg_some h
  simp only [Option.some.injEq, Prod.mk.injEq, true_and] at h
  exact s_Wi_rowsOf_6 h1 h2 h3 (by decide) ⟨_, rfl, h⟩
def fb_Wi_rowsOf_0  (x2 : Int) (σ : kS) : kRes := kbi (f_Te_sizeOf x2 0 σ) fun y σ1 => fb_Wi_rowsOf_6  x2 y 1 σ1
theorem e_Wi_rowsOf_0 {l : Launch} {G : kG} {yf : Int} {σf : kS}  {x2 : Int}  {σ : kS} (h : fb_Wi_rowsOf_0  x2 σ = some (some yf, σf)) : Rn l G dm_Wi_rowsOf m_Wi_rowsOf (kI fun y' σ' => y' = yf ∧ σ' = σf) 0 [some (.inr (4, 0)), some (.inr (2, 0)), some (.inl x2)] [] σ := by
  unfold fb_Wi_rowsOf_0 at h
  obtain ⟨y, σ1, hc, h⟩ := kbi_some h
  refine s_Wi_rowsOf_0  (by decide) (E_Te_sizeOf hc) (fun y2 σ2 e2 => ?_)
  obtain ⟨rfl, rfl⟩ := e2
  exact e_Wi_rowsOf_6  h
def f_Wi_rowsOf (x2 : Int) (σ : kS) : kRes := fb_Wi_rowsOf_0 x2 σ
theorem E_Wi_rowsOf {l : Launch} {G : kG} {yf : Int} {σf : kS} {x2 : Int} {σ : kS} (h : f_Wi_rowsOf x2 σ = some (some yf, σf)) : Call l G dm_Wi_rowsOf y_Wi_rowsOf m_Wi_rowsOf [.inr (4, 0), .inr (2, 0), .inl x2] σ (kI fun y' σ' => y' = yf ∧ σ' = σf) := by
  unfold f_Wi_rowsOf at h
  exact Call.of (by decide +kernel) rfl (Nat.le_of_ble_eq_true rfl) (e_Wi_rowsOf_0 h)
/-! Wi_follow -/
def fb_Wi_follow_86  (x2 : Int) (x3 : Int) (σ : kS) : kRes := some (none, σ)
theorem e_Wi_follow_86 {l : Launch} {G : kG} {σf : kS}  {x2 : Int} {x3 : Int}  {σ : kS} (h : fb_Wi_follow_86  x2 x3 σ = some (none, σf)) : Rn l G dm_Wi_follow m_Wi_follow (kU fun σ' => σ' = σf) 86 [some (.inr (4, 0)), some (.inr (2, 0)), some (.inl x2), some (.inl x3)] [] σ := by
  unfold fb_Wi_follow_86 at h
  simp only [Option.some.injEq, Prod.mk.injEq, true_and] at h
  exact s_Wi_follow_86  ⟨rfl, h⟩
def fb_Wi_follow_71 (k45 : Int → Int → kS → kRes) (x2 : Int) (x3 : Int) (s0 : Int) (s1 : Int) (σ : kS) : kRes := k45 (s1 - s0) x3 (kup σ 4 0 3 ((σ 4 0 3) + 1))
theorem e_Wi_follow_71 {l : Launch} {G : kG} {σf : kS} {k45 : Int → Int → kS → kRes} (hk45 : ∀ (x2 : Int) (x3 : Int)  (σ : kS), k45 x2 x3 σ = some (none, σf) → Rn l G dm_Wi_follow m_Wi_follow (kU fun σ' => σ' = σf) 45 [some (.inr (4, 0)), some (.inr (2, 0)), some (.inl x2), some (.inl x3)] [] σ) {x2 : Int} {x3 : Int} {s0 : Int} {s1 : Int}  {σ : kS} (h : fb_Wi_follow_71 k45 x2 x3 s0 s1 σ = some (none, σf)) : Rn l G dm_Wi_follow m_Wi_follow (kU fun σ' => σ' = σf) 71 [some (.inr (4, 0)), some (.inr (2, 0)), some (.inl x2), some (.inl x3)] [.inl s0, .inl s1] σ := by
  unfold fb_Wi_follow_71 at h
  refine s_Wi_follow_71  ?_
  exact hk45 _ _ _ h
def fb_Wi_follow_61 (k45 : Int → Int → kS → kRes) (x2 : Int) (x3 : Int) (σ : kS) : kRes := kbi (f_Wi_rowsOf (σ 4 0 3) σ) fun y σ1 => fb_Wi_follow_71 k45 x2 x3 y x2 σ1
theorem e_Wi_follow_61 {l : Launch} {G : kG} {σf : kS} {k45 : Int → Int → kS → kRes} (hk45 : ∀ (x2 : Int) (x3 : Int)  (σ : kS), k45 x2 x3 σ = some (none, σf) → Rn l G dm_Wi_follow m_Wi_follow (kU fun σ' => σ' = σf) 45 [some (.inr (4, 0)), some (.inr (2, 0)), some (.inl x2), some (.inl x3)] [] σ) {x2 : Int} {x3 : Int}  {σ : kS} (h : fb_Wi_follow_61 k45 x2 x3 σ = some (none, σf)) : Rn l G dm_Wi_follow m_Wi_follow (kU fun σ' => σ' = σf) 61 [some (.inr (4, 0)), some (.inr (2, 0)), some (.inl x2), some (.inl x3)] [] σ := by
  unfold fb_Wi_follow_61 at h
  obtain ⟨y, σ1, hc, h⟩ := kbi_some h
  refine s_Wi_follow_61  (by decide) (E_Wi_rowsOf hc) (fun y2 σ2 e2 => ?_)
  obtain ⟨rfl, rfl⟩ := e2
  exact e_Wi_follow_71 hk45 h
def fb_Wi_follow_56 (k45 : Int → Int → kS → kRes) (x2 : Int) (x3 : Int) (σ : kS) : kRes := kg ((-2147483648 ≤ x2 ∧ x2 < 2147483648)) (if x2 ≤ 5 then fb_Wi_follow_86  x2 x3 σ else fb_Wi_follow_61 k45 x2 x3 σ)
theorem e_Wi_follow_56 {l : Launch} {G : kG} {σf : kS} {k45 : Int → Int → kS → kRes} (hk45 : ∀ (x2 : Int) (x3 : Int)  (σ : kS), k45 x2 x3 σ = some (none, σf) → Rn l G dm_Wi_follow m_Wi_follow (kU fun σ' => σ' = σf) 45 [some (.inr (4, 0)), some (.inr (2, 0)), some (.inl x2), some (.inl x3)] [] σ) {x2 : Int} {x3 : Int}  {σ : kS} (h : fb_Wi_follow_56 k45 x2 x3 σ = some (none, σf)) : Rn l G dm_Wi_follow m_Wi_follow (kU fun σ' => σ' = σf) 56 [some (.inr (4, 0)), some (.inr (2, 0)), some (.inl x2), some (.inl x3)] [] σ := by
  unfold fb_Wi_follow_56 at h
  obtain ⟨h1, h⟩ := kg_some h
  refine s_Wi_follow_56 h1 (fun c => ?_) (fun c => ?_)
  · rw [if_pos c] at h
    exact e_Wi_follow_86  h
  · rw [if_neg c] at h
    exact e_Wi_follow_61 hk45 h
def fb_Wi_follow_45 (k45 : Int → Int → kS → kRes) (x2 : Int) (x3 : Int) (σ : kS) : kRes := kg ((-2147483648 ≤ σ 4 0 3 ∧ σ 4 0 3 < 2147483648) ∧ (-2147483648 ≤ σ 2 0 3 ∧ σ 2 0 3 < 2147483648)) (if (σ 2 0 3) ≤ (σ 4 0 3) then fb_Wi_follow_86  x2 x3 σ else fb_Wi_follow_56 k45 x2 x3 σ)
theorem e_Wi_follow_45 {l : Launch} {G : kG} {σf : kS} {k45 : Int → Int → kS → kRes} (hk45 : ∀ (x2 : Int) (x3 : Int)  (σ : kS), k45 x2 x3 σ = some (none, σf) → Rn l G dm_Wi_follow m_Wi_follow (kU fun σ' => σ' = σf) 45 [some (.inr (4, 0)), some (.inr (2, 0)), some (.inl x2), some (.inl x3)] [] σ) {x2 : Int} {x3 : Int}  {σ : kS} (h : fb_Wi_follow_45 k45 x2 x3 σ = some (none, σf)) : Rn l G dm_Wi_follow m_Wi_follow (kU fun σ' => σ' = σf) 45 [some (.inr (4, 0)), some (.inr (2, 0)), some (.inl x2), some (.inl x3)] [] σ := by
  unfold fb_Wi_follow_45 at h
  obtain ⟨⟨h1, h2⟩, h⟩ := kg_some h
  refine s_Wi_follow_45 h1 h2 (fun c => ?_) (fun c => ?_)
  · rw [if_pos c] at h
    exact e_Wi_follow_86  h
  · rw [if_neg c] at h
    exact e_Wi_follow_56 hk45 h
def fl_Wi_follow_45  : Nat → Int → Int → kS → kRes
  | 0, _, _, _ => none
  | n + 1, x2, x3, σ => fb_Wi_follow_45 (fl_Wi_follow_45  n) x2 x3 σ
theorem el_Wi_follow_45 {l : Launch} {G : kG} {σf : kS}  : ∀ (n : Nat) (x2 : Int) (x3 : Int)  (σ : kS), fl_Wi_follow_45  n x2 x3 σ = some (none, σf) → Rn l G dm_Wi_follow m_Wi_follow (kU fun σ' => σ' = σf) 45 [some (.inr (4, 0)), some (.inr (2, 0)), some (.inl x2), some (.inl x3)] [] σ := by
  intro n
  induction n with
  | zero => intro x2 x3 σ h; simp only [fl_Wi_follow_45] at h; cases h
  | succ n ih => intro x2 x3 σ h; simp only [fl_Wi_follow_45] at h; exact e_Wi_follow_45 ih h
def fb_Wi_follow_37 (k22 : Int → Int → kS → kRes) (x2 : Int) (x3 : Int) (s0 : Int) (s1 : Int) (σ : kS) : kRes := k22 (s1 + s0) (x3 + 1) σ
theorem e_Wi_follow_37 {l : Launch} {G : kG} {σf : kS} {k22 : Int → Int → kS → kRes} (hk22 : ∀ (x2 : Int) (x3 : Int)  (σ : kS), k22 x2 x3 σ = some (none, σf) → Rn l G dm_Wi_follow m_Wi_follow (kU fun σ' => σ' = σf) 22 [some (.inr (4, 0)), some (.inr (2, 0)), some (.inl x2), some (.inl x3)] [] σ) {x2 : Int} {x3 : Int} {s0 : Int} {s1 : Int}  {σ : kS} (h : fb_Wi_follow_37 k22 x2 x3 s0 s1 σ = some (none, σf)) : Rn l G dm_Wi_follow m_Wi_follow (kU fun σ' => σ' = σf) 37 [some (.inr (4, 0)), some (.inr (2, 0)), some (.inl x2), some (.inl x3)] [.inl s0, .inl s1] σ := by
  unfold fb_Wi_follow_37 at h
  refine s_Wi_follow_37  ?_
  exact hk22 _ _ _ h
def fb_Wi_follow_30 (k22 : Int → Int → kS → kRes) (x2 : Int) (x3 : Int) (σ : kS) : kRes := kbi (f_Wi_rowsOf x3 σ) fun y σ1 => fb_Wi_follow_37 k22 x2 x3 y x2 σ1
theorem e_Wi_follow_30 {l : Launch} {G : kG} {σf : kS} {k22 : Int → Int → kS → kRes} (hk22 : ∀ (x2 : Int) (x3 : Int)  (σ : kS), k22 x2 x3 σ = some (none, σf) → Rn l G dm_Wi_follow m_Wi_follow (kU fun σ' => σ' = σf) 22 [some (.inr (4, 0)), some (.inr (2, 0)), some (.inl x2), some (.inl x3)] [] σ) {x2 : Int} {x3 : Int}  {σ : kS} (h : fb_Wi_follow_30 k22 x2 x3 σ = some (none, σf)) : Rn l G dm_Wi_follow m_Wi_follow (kU fun σ' => σ' = σf) 30 [some (.inr (4, 0)), some (.inr (2, 0)), some (.inl x2), some (.inl x3)] [] σ := by
  unfold fb_Wi_follow_30 at h
  obtain ⟨y, σ1, hc, h⟩ := kbi_some h
  refine s_Wi_follow_30  (by decide) (E_Wi_rowsOf hc) (fun y2 σ2 e2 => ?_)
  obtain ⟨rfl, rfl⟩ := e2
  exact e_Wi_follow_37 hk22 h
def fb_Wi_follow_22 (k22 : Int → Int → kS → kRes) (x2 : Int) (x3 : Int) (σ : kS) : kRes := kg ((-2147483648 ≤ x3 ∧ x3 < 2147483648) ∧ (-2147483648 ≤ σ 2 0 3 ∧ σ 2 0 3 < 2147483648)) (if (σ 2 0 3) < x3 then fl_Wi_follow_45  3000 x2 x3 σ else fb_Wi_follow_30 k22 x2 x3 σ)
theorem e_Wi_follow_22 {l : Launch} {G : kG} {σf : kS} {k22 : Int → Int → kS → kRes} (hk22 : ∀ (x2 : Int) (x3 : Int)  (σ : kS), k22 x2 x3 σ = some (none, σf) → Rn l G dm_Wi_follow m_Wi_follow (kU fun σ' => σ' = σf) 22 [some (.inr (4, 0)), some (.inr (2, 0)), some (.inl x2), some (.inl x3)] [] σ) {x2 : Int} {x3 : Int}  {σ : kS} (h : fb_Wi_follow_22 k22 x2 x3 σ = some (none, σf)) : Rn l G dm_Wi_follow m_Wi_follow (kU fun σ' => σ' = σf) 22 [some (.inr (4, 0)), some (.inr (2, 0)), some (.inl x2), some (.inl x3)] [] σ := by
  unfold fb_Wi_follow_22 at h
  obtain ⟨⟨h1, h2⟩, h⟩ := kg_some h
  refine s_Wi_follow_22 h1 h2 (fun c => ?_) (fun c => ?_)
  · rw [if_pos c] at h
    exact el_Wi_follow_45  _ _ _ _ h
  · rw [if_neg c] at h
    exact e_Wi_follow_30 hk22 h
def fl_Wi_follow_22  : Nat → Int → Int → kS → kRes
  | 0, _, _, _ => none
  | n + 1, x2, x3, σ => fb_Wi_follow_22 (fl_Wi_follow_22  n) x2 x3 σ
theorem el_Wi_follow_22 {l : Launch} {G : kG} {σf : kS}  : ∀ (n : Nat) (x2 : Int) (x3 : Int)  (σ : kS), fl_Wi_follow_22  n x2 x3 σ = some (none, σf) → Rn l G dm_Wi_follow m_Wi_follow (kU fun σ' => σ' = σf) 22 [some (.inr (4, 0)), some (.inr (2, 0)), some (.inl x2), some (.inl x3)] [] σ := by
  intro n
  induction n with
  | zero => intro x2 x3 σ h; simp only [fl_Wi_follow_22] at h; cases h
  | succ n ih => intro x2 x3 σ h; simp only [fl_Wi_follow_22] at h; exact e_Wi_follow_22 ih h
def fb_Wi_follow_0   (σ : kS) : kRes := kg ((-2147483648 ≤ σ 4 0 3 ∧ σ 4 0 3 < 2147483648) ∧ (-2147483648 ≤ σ 2 0 3 ∧ σ 2 0 3 < 2147483648)) (fl_Wi_follow_22  3000 0 ((kup σ 4 0 3 (min (σ 4 0 3) (σ 2 0 3))) 4 0 3) (kup σ 4 0 3 (min (σ 4 0 3) (σ 2 0 3))))
theorem e_Wi_follow_0 {l : Launch} {G : kG} {σf : kS}   {o2 : Option kV} {o3 : Option kV} {σ : kS} (h : fb_Wi_follow_0   σ = some (none, σf)) : Rn l G dm_Wi_follow m_Wi_follow (kU fun σ' => σ' = σf) 0 [some (.inr (4, 0)), some (.inr (2, 0)), o2, o3] [] σ := by
  unfold fb_Wi_follow_0 at h
  obtain ⟨⟨h1, h2⟩, h⟩ := kg_some h
  refine s_Wi_follow_0 h1 h2 (by decide) ?_
  exact el_Wi_follow_22  _ _ _ _ h
def f_Wi_follow  (σ : kS) : kRes := fb_Wi_follow_0  σ
theorem E_Wi_follow {l : Launch} {G : kG} {σf : kS}  {σ : kS} (h : f_Wi_follow  σ = some (none, σf)) : Call l G dm_Wi_follow y_Wi_follow m_Wi_follow [.inr (4, 0), .inr (2, 0)] σ (kU fun σ' => σ' = σf) := by
  unfold f_Wi_follow at h
  exact Call.of (by decide +kernel) rfl (Nat.le_of_ble_eq_true rfl) (e_Wi_follow_0 h)
/-! Wi_paint -/
def fb_Wi_paint_122  (x2 : Int) (x3 : Int) (x4 : Int) (σ : kS) : kRes := some (none, σ)
theorem e_Wi_paint_122 {l : Launch} {G : kG} {σf : kS}  {x2 : Int} {x3 : Int} {x4 : Int}  {σ : kS} (h : fb_Wi_paint_122  x2 x3 x4 σ = some (none, σf)) : Rn l G dm_Wi_paint m_Wi_paint (kU fun σ' => σ' = σf) 122 [some (.inr (4, 0)), some (.inr (2, 0)), some (.inl x2), some (.inl x3), some (.inl x4)] [] σ := by
  unfold fb_Wi_paint_122 at h
  simp only [Option.some.injEq, Prod.mk.injEq, true_and] at h
  exact s_Wi_paint_122  ⟨rfl, h⟩
def fb_Wi_paint_103 (k98 : Int → Int → Int → kS → kRes) (x2 : Int) (x3 : Int) (x4 : Int) (σ : kS) : kRes := kg ((0 ≤ x2 * (σ 4 0 2) ∧ x2 * (σ 4 0 2) < (100 : Nat))) (k98 (x2 + 1) x3 x4 (kup σ 15 1 (Int.toNat (x2 * (σ 4 0 2))) x4))
theorem e_Wi_paint_103 {l : Launch} {G : kG} {σf : kS} {k98 : Int → Int → Int → kS → kRes} (hk98 : ∀ (x2 : Int) (x3 : Int) (x4 : Int)  (σ : kS), k98 x2 x3 x4 σ = some (none, σf) → Rn l G dm_Wi_paint m_Wi_paint (kU fun σ' => σ' = σf) 98 [some (.inr (4, 0)), some (.inr (2, 0)), some (.inl x2), some (.inl x3), some (.inl x4)] [] σ) {x2 : Int} {x3 : Int} {x4 : Int}  {σ : kS} (h : fb_Wi_paint_103 k98 x2 x3 x4 σ = some (none, σf)) : Rn l G dm_Wi_paint m_Wi_paint (kU fun σ' => σ' = σf) 103 [some (.inr (4, 0)), some (.inr (2, 0)), some (.inl x2), some (.inl x3), some (.inl x4)] [] σ := by
  unfold fb_Wi_paint_103 at h
  obtain ⟨h1, h⟩ := kg_some h
  refine s_Wi_paint_103 h1 ?_
  exact hk98 _ _ _ _ h
def fb_Wi_paint_98 (k98 : Int → Int → Int → kS → kRes) (x2 : Int) (x3 : Int) (x4 : Int) (σ : kS) : kRes := kg ((-2147483648 ≤ x2 ∧ x2 < 2147483648)) (if 5 ≤ x2 then fb_Wi_paint_122  x2 x3 x4 σ else fb_Wi_paint_103 k98 x2 x3 x4 σ)
theorem e_Wi_paint_98 {l : Launch} {G : kG} {σf : kS} {k98 : Int → Int → Int → kS → kRes} (hk98 : ∀ (x2 : Int) (x3 : Int) (x4 : Int)  (σ : kS), k98 x2 x3 x4 σ = some (none, σf) → Rn l G dm_Wi_paint m_Wi_paint (kU fun σ' => σ' = σf) 98 [some (.inr (4, 0)), some (.inr (2, 0)), some (.inl x2), some (.inl x3), some (.inl x4)] [] σ) {x2 : Int} {x3 : Int} {x4 : Int}  {σ : kS} (h : fb_Wi_paint_98 k98 x2 x3 x4 σ = some (none, σf)) : Rn l G dm_Wi_paint m_Wi_paint (kU fun σ' => σ' = σf) 98 [some (.inr (4, 0)), some (.inr (2, 0)), some (.inl x2), some (.inl x3), some (.inl x4)] [] σ := by
  unfold fb_Wi_paint_98 at h
  obtain ⟨h1, h⟩ := kg_some h
  refine s_Wi_paint_98 h1 (fun c => ?_) (fun c => ?_)
  · rw [if_pos c] at h
    exact e_Wi_paint_122  h
  · rw [if_neg c] at h
    exact e_Wi_paint_103 hk98 h
def fl_Wi_paint_98  : Nat → Int → Int → Int → kS → kRes
  | 0, _, _, _, _ => none
  | n + 1, x2, x3, x4, σ => fb_Wi_paint_98 (fl_Wi_paint_98  n) x2 x3 x4 σ
theorem el_Wi_paint_98 {l : Launch} {G : kG} {σf : kS}  : ∀ (n : Nat) (x2 : Int) (x3 : Int) (x4 : Int)  (σ : kS), fl_Wi_paint_98  n x2 x3 x4 σ = some (none, σf) → Rn l G dm_Wi_paint m_Wi_paint (kU fun σ' => σ' = σf) 98 [some (.inr (4, 0)), some (.inr (2, 0)), some (.inl x2), some (.inl x3), some (.inl x4)] [] σ := by
  intro n
  induction n with
  | zero => intro x2 x3 x4 σ h; simp only [fl_Wi_paint_98] at h; cases h
  | succ n ih => intro x2 x3 x4 σ h; simp only [fl_Wi_paint_98] at h; exact e_Wi_paint_98 ih h
def fb_Wi_paint_96  (x2 : Int) (x3 : Int) (s0 : Int) (σ : kS) : kRes := fl_Wi_paint_98  3000 x2 x3 s0 σ
theorem e_Wi_paint_96 {l : Launch} {G : kG} {σf : kS}  {x2 : Int} {x3 : Int} {s0 : Int} {o4 : Option kV} {σ : kS} (h : fb_Wi_paint_96  x2 x3 s0 σ = some (none, σf)) : Rn l G dm_Wi_paint m_Wi_paint (kU fun σ' => σ' = σf) 96 [some (.inr (4, 0)), some (.inr (2, 0)), some (.inl x2), some (.inl x3), o4] [.inl s0] σ := by
  unfold fb_Wi_paint_96 at h
  refine s_Wi_paint_96  ?_
  exact el_Wi_paint_98  _ _ _ _ _ h
def fb_Wi_paint_94  (x2 : Int) (x3 : Int) (σ : kS) : kRes := fb_Wi_paint_96  x2 x3 126 σ
theorem e_Wi_paint_94 {l : Launch} {G : kG} {σf : kS}  {x2 : Int} {x3 : Int} {o4 : Option kV} {σ : kS} (h : fb_Wi_paint_94  x2 x3 σ = some (none, σf)) : Rn l G dm_Wi_paint m_Wi_paint (kU fun σ' => σ' = σf) 94 [some (.inr (4, 0)), some (.inr (2, 0)), some (.inl x2), some (.inl x3), o4] [] σ := by
  unfold fb_Wi_paint_94 at h
  refine s_Wi_paint_94  ?_
  exact e_Wi_paint_96  h
def fb_Wi_paint_89  (x2 : Int) (x3 : Int) (σ : kS) : kRes := fb_Wi_paint_96  x2 x3 64 σ
theorem e_Wi_paint_89 {l : Launch} {G : kG} {σf : kS}  {x2 : Int} {x3 : Int} {o4 : Option kV} {σ : kS} (h : fb_Wi_paint_89  x2 x3 σ = some (none, σf)) : Rn l G dm_Wi_paint m_Wi_paint (kU fun σ' => σ' = σf) 89 [some (.inr (4, 0)), some (.inr (2, 0)), some (.inl x2), some (.inl x3), o4] [] σ := by
  unfold fb_Wi_paint_89 at h
  refine s_Wi_paint_89  ?_
  exact e_Wi_paint_96  h
def fb_Wi_paint_81  (x2 : Int) (x3 : Int) (σ : kS) : kRes := kg ((-2147483648 ≤ x3 ∧ x3 < 2147483648) ∧ (-2147483648 ≤ σ 2 0 2 ∧ σ 2 0 2 < 2147483648)) (if (σ 2 0 2) ≤ x3 then fb_Wi_paint_94  x2 x3 σ else fb_Wi_paint_89  x2 x3 σ)
theorem e_Wi_paint_81 {l : Launch} {G : kG} {σf : kS}  {x2 : Int} {x3 : Int} {o4 : Option kV} {σ : kS} (h : fb_Wi_paint_81  x2 x3 σ = some (none, σf)) : Rn l G dm_Wi_paint m_Wi_paint (kU fun σ' => σ' = σf) 81 [some (.inr (4, 0)), some (.inr (2, 0)), some (.inl x2), some (.inl x3), o4] [] σ := by
  unfold fb_Wi_paint_81 at h
  obtain ⟨⟨h1, h2⟩, h⟩ := kg_some h
  refine s_Wi_paint_81 h1 h2 (fun c => ?_) (fun c => ?_)
  · rw [if_pos c] at h
    exact e_Wi_paint_94  h
  · rw [if_neg c] at h
    exact e_Wi_paint_89  h
def fb_Wi_paint_73 (k16 : Int → Int → kS → kRes) (x2 : Int) (x3 : Int) (x4 : Int) (s0 : Int) (s1 : Int) (σ : kS) : kRes := k16 (s1 + s0) (x3 + 1) σ
theorem e_Wi_paint_73 {l : Launch} {G : kG} {σf : kS} {k16 : Int → Int → kS → kRes} (hk16 : ∀ (x2 : Int) (x3 : Int) (o4 : Option kV) (σ : kS), k16 x2 x3 σ = some (none, σf) → Rn l G dm_Wi_paint m_Wi_paint (kU fun σ' => σ' = σf) 16 [some (.inr (4, 0)), some (.inr (2, 0)), some (.inl x2), some (.inl x3), o4] [] σ) {x2 : Int} {x3 : Int} {x4 : Int} {s0 : Int} {s1 : Int}  {σ : kS} (h : fb_Wi_paint_73 k16 x2 x3 x4 s0 s1 σ = some (none, σf)) : Rn l G dm_Wi_paint m_Wi_paint (kU fun σ' => σ' = σf) 73 [some (.inr (4, 0)), some (.inr (2, 0)), some (.inl x2), some (.inl x3), some (.inl x4)] [.inl s0, .inl s1] σ := by
  unfold fb_Wi_paint_73 at h
  refine s_Wi_paint_73  ?_
  exact hk16 _ _ _ _ h
def fb_Wi_paint_66 (k16 : Int → Int → kS → kRes) (x2 : Int) (x3 : Int) (x4 : Int) (σ : kS) : kRes := kbi (f_Wi_rowsOf x3 σ) fun y σ1 => fb_Wi_paint_73 k16 x2 x3 x4 y x2 σ1
theorem e_Wi_paint_66 {l : Launch} {G : kG} {σf : kS} {k16 : Int → Int → kS → kRes} (hk16 : ∀ (x2 : Int) (x3 : Int) (o4 : Option kV) (σ : kS), k16 x2 x3 σ = some (none, σf) → Rn l G dm_Wi_paint m_Wi_paint (kU fun σ' => σ' = σf) 16 [some (.inr (4, 0)), some (.inr (2, 0)), some (.inl x2), some (.inl x3), o4] [] σ) {x2 : Int} {x3 : Int} {x4 : Int}  {σ : kS} (h : fb_Wi_paint_66 k16 x2 x3 x4 σ = some (none, σf)) : Rn l G dm_Wi_paint m_Wi_paint (kU fun σ' => σ' = σf) 66 [some (.inr (4, 0)), some (.inr (2, 0)), some (.inl x2), some (.inl x3), some (.inl x4)] [] σ := by
  unfold fb_Wi_paint_66 at h
  obtain ⟨y, σ1, hc, h⟩ := kbi_some h
  refine s_Wi_paint_66  (by decide) (E_Wi_rowsOf hc) (fun y2 σ2 e2 => ?_)
  obtain ⟨rfl, rfl⟩ := e2
  exact e_Wi_paint_73 hk16 h
def fb_Wi_paint_41 (k16 : Int → Int → kS → kRes) (x2 : Int) (x3 : Int) (s0 : Int) (σ : kS) : kRes := kg (((0 : Int) ≤ (x3 * 20) ∧ (0 : Int) ≤ (x2 * (σ 4 0 2)) ∧ (0 : Int) ≤ s0 ∧ (x3 * 20) + s0 ≤ ((200 : Nat) : Int) ∧ (x2 * (σ 4 0 2)) + s0 ≤ ((100 : Nat) : Int))) (fb_Wi_paint_66 k16 x2 x3 s0 (kupA σ 15 1 (va_cpy (σ 10 0) (σ 15 1) (Int.toNat (x3 * 20)) (Int.toNat (x2 * (σ 4 0 2))) (Int.toNat s0))))
theorem e_Wi_paint_41 {l : Launch} {G : kG} {σf : kS} {k16 : Int → Int → kS → kRes} (hk16 : ∀ (x2 : Int) (x3 : Int) (o4 : Option kV) (σ : kS), k16 x2 x3 σ = some (none, σf) → Rn l G dm_Wi_paint m_Wi_paint (kU fun σ' => σ' = σf) 16 [some (.inr (4, 0)), some (.inr (2, 0)), some (.inl x2), some (.inl x3), o4] [] σ) {x2 : Int} {x3 : Int} {s0 : Int} {o4 : Option kV} {σ : kS} (h : fb_Wi_paint_41 k16 x2 x3 s0 σ = some (none, σf)) : Rn l G dm_Wi_paint m_Wi_paint (kU fun σ' => σ' = σf) 41 [some (.inr (4, 0)), some (.inr (2, 0)), some (.inl x2), some (.inl x3), o4] [.inl s0] σ := by
  unfold fb_Wi_paint_41 at h
  obtain ⟨h1, h⟩ := kg_some h
  refine s_Wi_paint_41 h1 (by decide) ?_
  exact e_Wi_paint_66 hk16 h
def fb_Wi_paint_36 (k16 : Int → Int → kS → kRes) (x2 : Int) (x3 : Int) (σ : kS) : kRes := kbi (f_Te_sizeOf x3 0 σ) fun y σ1 => fb_Wi_paint_41 k16 x2 x3 y σ1
theorem e_Wi_paint_36 {l : Launch} {G : kG} {σf : kS} {k16 : Int → Int → kS → kRes} (hk16 : ∀ (x2 : Int) (x3 : Int) (o4 : Option kV) (σ : kS), k16 x2 x3 σ = some (none, σf) → Rn l G dm_Wi_paint m_Wi_paint (kU fun σ' => σ' = σf) 16 [some (.inr (4, 0)), some (.inr (2, 0)), some (.inl x2), some (.inl x3), o4] [] σ) {x2 : Int} {x3 : Int} {o4 : Option kV} {σ : kS} (h : fb_Wi_paint_36 k16 x2 x3 σ = some (none, σf)) : Rn l G dm_Wi_paint m_Wi_paint (kU fun σ' => σ' = σf) 36 [some (.inr (4, 0)), some (.inr (2, 0)), some (.inl x2), some (.inl x3), o4] [] σ := by
  unfold fb_Wi_paint_36 at h
  obtain ⟨y, σ1, hc, h⟩ := kbi_some h
  refine s_Wi_paint_36  (by decide) (E_Te_sizeOf hc) (fun y2 σ2 e2 => ?_)
  obtain ⟨rfl, rfl⟩ := e2
  exact e_Wi_paint_41 hk16 h
def fb_Wi_paint_31 (k16 : Int → Int → kS → kRes) (x2 : Int) (x3 : Int) (s0 : Int) (s1 : Int) (σ : kS) : kRes := kg ((-2147483648 ≤ s1 + s0 ∧ s1 + s0 < 2147483648)) (if 5 < (s1 + s0) then fb_Wi_paint_81  x2 x3 σ else fb_Wi_paint_36 k16 x2 x3 σ)
theorem e_Wi_paint_31 {l : Launch} {G : kG} {σf : kS} {k16 : Int → Int → kS → kRes} (hk16 : ∀ (x2 : Int) (x3 : Int) (o4 : Option kV) (σ : kS), k16 x2 x3 σ = some (none, σf) → Rn l G dm_Wi_paint m_Wi_paint (kU fun σ' => σ' = σf) 16 [some (.inr (4, 0)), some (.inr (2, 0)), some (.inl x2), some (.inl x3), o4] [] σ) {x2 : Int} {x3 : Int} {s0 : Int} {s1 : Int} {o4 : Option kV} {σ : kS} (h : fb_Wi_paint_31 k16 x2 x3 s0 s1 σ = some (none, σf)) : Rn l G dm_Wi_paint m_Wi_paint (kU fun σ' => σ' = σf) 31 [some (.inr (4, 0)), some (.inr (2, 0)), some (.inl x2), some (.inl x3), o4] [.inl s0, .inl s1] σ := by
  unfold fb_Wi_paint_31 at h
  obtain ⟨h1, h⟩ := kg_some h
  refine s_Wi_paint_31 h1 (fun c => ?_) (fun c => ?_)
  · rw [if_pos c] at h
    exact e_Wi_paint_81  h
  · rw [if_neg c] at h
    exact e_Wi_paint_36 hk16 h
def fb_Wi_paint_24 (k16 : Int → Int → kS → kRes) (x2 : Int) (x3 : Int) (σ : kS) : kRes := kbi (f_Wi_rowsOf x3 σ) fun y σ1 => fb_Wi_paint_31 k16 x2 x3 y x2 σ1
theorem e_Wi_paint_24 {l : Launch} {G : kG} {σf : kS} {k16 : Int → Int → kS → kRes} (hk16 : ∀ (x2 : Int) (x3 : Int) (o4 : Option kV) (σ : kS), k16 x2 x3 σ = some (none, σf) → Rn l G dm_Wi_paint m_Wi_paint (kU fun σ' => σ' = σf) 16 [some (.inr (4, 0)), some (.inr (2, 0)), some (.inl x2), some (.inl x3), o4] [] σ) {x2 : Int} {x3 : Int} {o4 : Option kV} {σ : kS} (h : fb_Wi_paint_24 k16 x2 x3 σ = some (none, σf)) : Rn l G dm_Wi_paint m_Wi_paint (kU fun σ' => σ' = σf) 24 [some (.inr (4, 0)), some (.inr (2, 0)), some (.inl x2), some (.inl x3), o4] [] σ := by
  unfold fb_Wi_paint_24 at h
  obtain ⟨y, σ1, hc, h⟩ := kbi_some h
  refine s_Wi_paint_24  (by decide) (E_Wi_rowsOf hc) (fun y2 σ2 e2 => ?_)
  obtain ⟨rfl, rfl⟩ := e2
  exact e_Wi_paint_31 hk16 h
def fb_Wi_paint_16 (k16 : Int → Int → kS → kRes) (x2 : Int) (x3 : Int) (σ : kS) : kRes := kg ((-2147483648 ≤ x3 ∧ x3 < 2147483648) ∧ (-2147483648 ≤ σ 2 0 2 ∧ σ 2 0 2 < 2147483648)) (if (σ 2 0 2) ≤ x3 then fb_Wi_paint_81  x2 x3 σ else fb_Wi_paint_24 k16 x2 x3 σ)
theorem e_Wi_paint_16 {l : Launch} {G : kG} {σf : kS} {k16 : Int → Int → kS → kRes} (hk16 : ∀ (x2 : Int) (x3 : Int) (o4 : Option kV) (σ : kS), k16 x2 x3 σ = some (none, σf) → Rn l G dm_Wi_paint m_Wi_paint (kU fun σ' => σ' = σf) 16 [some (.inr (4, 0)), some (.inr (2, 0)), some (.inl x2), some (.inl x3), o4] [] σ) {x2 : Int} {x3 : Int} {o4 : Option kV} {σ : kS} (h : fb_Wi_paint_16 k16 x2 x3 σ = some (none, σf)) : Rn l G dm_Wi_paint m_Wi_paint (kU fun σ' => σ' = σf) 16 [some (.inr (4, 0)), some (.inr (2, 0)), some (.inl x2), some (.inl x3), o4] [] σ := by
  unfold fb_Wi_paint_16 at h
  obtain ⟨⟨h1, h2⟩, h⟩ := kg_some h
  refine s_Wi_paint_16 h1 h2 (fun c => ?_) (fun c => ?_)
  · rw [if_pos c] at h
    exact e_Wi_paint_81  h
  · rw [if_neg c] at h
    exact e_Wi_paint_24 hk16 h
def fl_Wi_paint_16  : Nat → Int → Int → kS → kRes
  | 0, _, _, _ => none
  | n + 1, x2, x3, σ => fb_Wi_paint_16 (fl_Wi_paint_16  n) x2 x3 σ
theorem el_Wi_paint_16 {l : Launch} {G : kG} {σf : kS}  : ∀ (n : Nat) (x2 : Int) (x3 : Int) (o4 : Option kV) (σ : kS), fl_Wi_paint_16  n x2 x3 σ = some (none, σf) → Rn l G dm_Wi_paint m_Wi_paint (kU fun σ' => σ' = σf) 16 [some (.inr (4, 0)), some (.inr (2, 0)), some (.inl x2), some (.inl x3), o4] [] σ := by
  intro n
  induction n with
  | zero => intro x2 x3 o4 σ h; simp only [fl_Wi_paint_16] at h; cases h
  | succ n ih => intro x2 x3 o4 σ h; simp only [fl_Wi_paint_16] at h; exact e_Wi_paint_16 ih h
def fb_Wi_paint_9   (σ : kS) : kRes := fl_Wi_paint_16  3000 0 (σ 4 0 3) σ
theorem e_Wi_paint_9 {l : Launch} {G : kG} {σf : kS}   {o2 : Option kV} {o3 : Option kV} {o4 : Option kV} {σ : kS} (h : fb_Wi_paint_9   σ = some (none, σf)) : Rn l G dm_Wi_paint m_Wi_paint (kU fun σ' => σ' = σf) 9 [some (.inr (4, 0)), some (.inr (2, 0)), o2, o3, o4] [] σ := by
  unfold fb_Wi_paint_9 at h
  refine s_Wi_paint_9  ?_
  exact el_Wi_paint_16  _ _ _ _ _ h
def fb_Wi_paint_0   (σ : kS) : kRes := kbu (f_Ar_fill2 32 1 σ) fun σ1 => fb_Wi_paint_9  σ1
theorem e_Wi_paint_0 {l : Launch} {G : kG} {σf : kS}   {o2 : Option kV} {o3 : Option kV} {o4 : Option kV} {σ : kS} (h : fb_Wi_paint_0   σ = some (none, σf)) : Rn l G dm_Wi_paint m_Wi_paint (kU fun σ' => σ' = σf) 0 [some (.inr (4, 0)), some (.inr (2, 0)), o2, o3, o4] [] σ := by
  unfold fb_Wi_paint_0 at h
  obtain ⟨σ1, hc, h⟩ := kbu_some h
  refine s_Wi_paint_0  (by decide) (E_Ar_fill2 hc) (fun σ2 e2 => ?_)
  subst e2
  exact e_Wi_paint_9  h
def f_Wi_paint  (σ : kS) : kRes := fb_Wi_paint_0  σ
theorem E_Wi_paint {l : Launch} {G : kG} {σf : kS}  {σ : kS} (h : f_Wi_paint  σ = some (none, σf)) : Call l G dm_Wi_paint y_Wi_paint m_Wi_paint [.inr (4, 0), .inr (2, 0)] σ (kU fun σ' => σ' = σf) := by
  unfold f_Wi_paint at h
  exact Call.of (by decide +kernel) rfl (Nat.le_of_ble_eq_true rfl) (e_Wi_paint_0 h)
/-! Wi_send -/
def fb_Wi_send_109  (x1 : Int) (σ : kS) : kRes := some (none, σ)
theorem e_Wi_send_109 {l : Launch} {G : kG} {σf : kS}  {x1 : Int} {o2 : Option kV} {o3 : Option kV} {o4 : Option kV} {σ : kS} (h : fb_Wi_send_109  x1 σ = some (none, σf)) : Rn l G dm_Wi_send m_Wi_send (kU fun σ' => σ' = σf) 109 [some (.inr (4, 0)), some (.inl x1), o2, o3, o4] [] σ := by
  unfold fb_Wi_send_109 at h
  simp only [Option.some.injEq, Prod.mk.injEq, true_and] at h
  exact s_Wi_send_109  ⟨rfl, h⟩
def fb_Wi_send_103 (k2 : Int → kS → kRes) (x1 : Int) (x2 : Int) (x3 : Int) (x4 : Int) (σ : kS) : kRes := k2 (x1 + 1) σ
theorem e_Wi_send_103 {l : Launch} {G : kG} {σf : kS} {k2 : Int → kS → kRes} (hk2 : ∀ (x1 : Int) (o2 : Option kV) (o3 : Option kV) (o4 : Option kV) (σ : kS), k2 x1 σ = some (none, σf) → Rn l G dm_Wi_send m_Wi_send (kU fun σ' => σ' = σf) 2 [some (.inr (4, 0)), some (.inl x1), o2, o3, o4] [] σ) {x1 : Int} {x2 : Int} {x3 : Int} {x4 : Int}  {σ : kS} (h : fb_Wi_send_103 k2 x1 x2 x3 x4 σ = some (none, σf)) : Rn l G dm_Wi_send m_Wi_send (kU fun σ' => σ' = σf) 103 [some (.inr (4, 0)), some (.inl x1), some (.inl x2), some (.inl x3), some (.inl x4)] [] σ := by
  unfold fb_Wi_send_103 at h
  refine s_Wi_send_103  ?_
  exact hk2 _ _ _ _ _ h
def fb_Wi_send_87 (k2 : Int → kS → kRes) (x1 : Int) (x2 : Int) (x3 : Int) (x4 : Int) (σ : kS) : kRes := fb_Wi_send_103 k2 x1 x2 x3 x4 (kup σ 4 0 4 ((σ 4 0 4) + (((3 + x3) - x2) + 1)))
theorem e_Wi_send_87 {l : Launch} {G : kG} {σf : kS} {k2 : Int → kS → kRes} (hk2 : ∀ (x1 : Int) (o2 : Option kV) (o3 : Option kV) (o4 : Option kV) (σ : kS), k2 x1 σ = some (none, σf) → Rn l G dm_Wi_send m_Wi_send (kU fun σ' => σ' = σf) 2 [some (.inr (4, 0)), some (.inl x1), o2, o3, o4] [] σ) {x1 : Int} {x2 : Int} {x3 : Int} {x4 : Int}  {σ : kS} (h : fb_Wi_send_87 k2 x1 x2 x3 x4 σ = some (none, σf)) : Rn l G dm_Wi_send m_Wi_send (kU fun σ' => σ' = σf) 87 [some (.inr (4, 0)), some (.inl x1), some (.inl x2), some (.inl x3), some (.inl x4)] [] σ := by
  unfold fb_Wi_send_87 at h
  refine s_Wi_send_87  ?_
  exact e_Wi_send_103 hk2 h
def fb_Wi_send_83 (k2 : Int → kS → kRes) (x1 : Int) (x2 : Int) (x3 : Int) (x4 : Int) (σ : kS) : kRes := kg ((-2147483648 ≤ x2 ∧ x2 < 2147483648)) (if x2 < 0 then fb_Wi_send_103 k2 x1 x2 x3 x4 σ else fb_Wi_send_87 k2 x1 x2 x3 x4 σ)
theorem e_Wi_send_83 {l : Launch} {G : kG} {σf : kS} {k2 : Int → kS → kRes} (hk2 : ∀ (x1 : Int) (o2 : Option kV) (o3 : Option kV) (o4 : Option kV) (σ : kS), k2 x1 σ = some (none, σf) → Rn l G dm_Wi_send m_Wi_send (kU fun σ' => σ' = σf) 2 [some (.inr (4, 0)), some (.inl x1), o2, o3, o4] [] σ) {x1 : Int} {x2 : Int} {x3 : Int} {x4 : Int}  {σ : kS} (h : fb_Wi_send_83 k2 x1 x2 x3 x4 σ = some (none, σf)) : Rn l G dm_Wi_send m_Wi_send (kU fun σ' => σ' = σf) 83 [some (.inr (4, 0)), some (.inl x1), some (.inl x2), some (.inl x3), some (.inl x4)] [] σ := by
  unfold fb_Wi_send_83 at h
  obtain ⟨h1, h⟩ := kg_some h
  refine s_Wi_send_83 h1 (fun c => ?_) (fun c => ?_)
  · rw [if_pos c] at h
    exact e_Wi_send_103 hk2 h
  · rw [if_neg c] at h
    exact e_Wi_send_87 hk2 h
def fb_Wi_send_77 (k19 : Int → Int → Int → Int → kS → kRes) (x1 : Int) (x2 : Int) (x3 : Int) (x4 : Int) (σ : kS) : kRes := k19 x1 x2 x3 (x4 + 1) σ
theorem e_Wi_send_77 {l : Launch} {G : kG} {σf : kS} {k19 : Int → Int → Int → Int → kS → kRes} (hk19 : ∀ (x1 : Int) (x2 : Int) (x3 : Int) (x4 : Int)  (σ : kS), k19 x1 x2 x3 x4 σ = some (none, σf) → Rn l G dm_Wi_send m_Wi_send (kU fun σ' => σ' = σf) 19 [some (.inr (4, 0)), some (.inl x1), some (.inl x2), some (.inl x3), some (.inl x4)] [] σ) {x1 : Int} {x2 : Int} {x3 : Int} {x4 : Int}  {σ : kS} (h : fb_Wi_send_77 k19 x1 x2 x3 x4 σ = some (none, σf)) : Rn l G dm_Wi_send m_Wi_send (kU fun σ' => σ' = σf) 77 [some (.inr (4, 0)), some (.inl x1), some (.inl x2), some (.inl x3), some (.inl x4)] [] σ := by
  unfold fb_Wi_send_77 at h
  refine s_Wi_send_77  ?_
  exact hk19 _ _ _ _ _ h
def fb_Wi_send_59 (k19 : Int → Int → Int → Int → kS → kRes) (x1 : Int) (x2 : Int) (x3 : Int) (x4 : Int) (s0 : Int) (σ : kS) : kRes := kg ((0 ≤ x4 ∧ x4 < (100 : Nat))) (fb_Wi_send_77 k19 x1 s0 x4 x4 (kup σ 15 0 (Int.toNat x4) (σ 15 1 (Int.toNat x4))))
theorem e_Wi_send_59 {l : Launch} {G : kG} {σf : kS} {k19 : Int → Int → Int → Int → kS → kRes} (hk19 : ∀ (x1 : Int) (x2 : Int) (x3 : Int) (x4 : Int)  (σ : kS), k19 x1 x2 x3 x4 σ = some (none, σf) → Rn l G dm_Wi_send m_Wi_send (kU fun σ' => σ' = σf) 19 [some (.inr (4, 0)), some (.inl x1), some (.inl x2), some (.inl x3), some (.inl x4)] [] σ) {x1 : Int} {x2 : Int} {x3 : Int} {x4 : Int} {s0 : Int}  {σ : kS} (h : fb_Wi_send_59 k19 x1 x2 x3 x4 s0 σ = some (none, σf)) : Rn l G dm_Wi_send m_Wi_send (kU fun σ' => σ' = σf) 59 [some (.inr (4, 0)), some (.inl x1), some (.inl x2), some (.inl x3), some (.inl x4)] [.inl s0] σ := by
  unfold fb_Wi_send_59 at h
  obtain ⟨h1, h⟩ := kg_some h
  refine s_Wi_send_59 h1 ?_
  exact e_Wi_send_77 hk19 h
def fb_Wi_send_58 (k19 : Int → Int → Int → Int → kS → kRes) (x1 : Int) (x2 : Int) (x3 : Int) (x4 : Int) (σ : kS) : kRes := fb_Wi_send_59 k19 x1 x2 x3 x4 x2 σ
theorem e_Wi_send_58 {l : Launch} {G : kG} {σf : kS} {k19 : Int → Int → Int → Int → kS → kRes} (hk19 : ∀ (x1 : Int) (x2 : Int) (x3 : Int) (x4 : Int)  (σ : kS), k19 x1 x2 x3 x4 σ = some (none, σf) → Rn l G dm_Wi_send m_Wi_send (kU fun σ' => σ' = σf) 19 [some (.inr (4, 0)), some (.inl x1), some (.inl x2), some (.inl x3), some (.inl x4)] [] σ) {x1 : Int} {x2 : Int} {x3 : Int} {x4 : Int}  {σ : kS} (h : fb_Wi_send_58 k19 x1 x2 x3 x4 σ = some (none, σf)) : Rn l G dm_Wi_send m_Wi_send (kU fun σ' => σ' = σf) 58 [some (.inr (4, 0)), some (.inl x1), some (.inl x2), some (.inl x3), some (.inl x4)] [] σ := by
  unfold fb_Wi_send_58 at h
  refine s_Wi_send_58  ?_
  exact e_Wi_send_59 hk19 h
def fb_Wi_send_53 (k19 : Int → Int → Int → Int → kS → kRes) (x1 : Int) (x2 : Int) (x3 : Int) (x4 : Int) (σ : kS) : kRes := fb_Wi_send_59 k19 x1 x2 x3 x4 x4 σ
theorem e_Wi_send_53 {l : Launch} {G : kG} {σf : kS} {k19 : Int → Int → Int → Int → kS → kRes} (hk19 : ∀ (x1 : Int) (x2 : Int) (x3 : Int) (x4 : Int)  (σ : kS), k19 x1 x2 x3 x4 σ = some (none, σf) → Rn l G dm_Wi_send m_Wi_send (kU fun σ' => σ' = σf) 19 [some (.inr (4, 0)), some (.inl x1), some (.inl x2), some (.inl x3), some (.inl x4)] [] σ) {x1 : Int} {x2 : Int} {x3 : Int} {x4 : Int}  {σ : kS} (h : fb_Wi_send_53 k19 x1 x2 x3 x4 σ = some (none, σf)) : Rn l G dm_Wi_send m_Wi_send (kU fun σ' => σ' = σf) 53 [some (.inr (4, 0)), some (.inl x1), some (.inl x2), some (.inl x3), some (.inl x4)] [] σ := by
  unfold fb_Wi_send_53 at h
  refine s_Wi_send_53  ?_
  exact e_Wi_send_59 hk19 h
def fb_Wi_send_49 (k19 : Int → Int → Int → Int → kS → kRes) (x1 : Int) (x2 : Int) (x3 : Int) (x4 : Int) (σ : kS) : kRes := kg ((-2147483648 ≤ x2 ∧ x2 < 2147483648)) (if 0 ≤ x2 then fb_Wi_send_58 k19 x1 x2 x3 x4 σ else fb_Wi_send_53 k19 x1 x2 x3 x4 σ)
theorem e_Wi_send_49 {l : Launch} {G : kG} {σf : kS} {k19 : Int → Int → Int → Int → kS → kRes} (hk19 : ∀ (x1 : Int) (x2 : Int) (x3 : Int) (x4 : Int)  (σ : kS), k19 x1 x2 x3 x4 σ = some (none, σf) → Rn l G dm_Wi_send m_Wi_send (kU fun σ' => σ' = σf) 19 [some (.inr (4, 0)), some (.inl x1), some (.inl x2), some (.inl x3), some (.inl x4)] [] σ) {x1 : Int} {x2 : Int} {x3 : Int} {x4 : Int}  {σ : kS} (h : fb_Wi_send_49 k19 x1 x2 x3 x4 σ = some (none, σf)) : Rn l G dm_Wi_send m_Wi_send (kU fun σ' => σ' = σf) 49 [some (.inr (4, 0)), some (.inl x1), some (.inl x2), some (.inl x3), some (.inl x4)] [] σ := by
  unfold fb_Wi_send_49 at h
  obtain ⟨h1, h⟩ := kg_some h
  refine s_Wi_send_49 h1 (fun c => ?_) (fun c => ?_)
  · rw [if_pos c] at h
    exact e_Wi_send_58 hk19 h
  · rw [if_neg c] at h
    exact e_Wi_send_53 hk19 h
def fb_Wi_send_32 (k19 : Int → Int → Int → Int → kS → kRes) (x1 : Int) (x2 : Int) (x3 : Int) (x4 : Int) (σ : kS) : kRes := kg ((0 ≤ x4 ∧ x4 < (100 : Nat)) ∧ (-2147483648 ≤ σ 15 0 (Int.toNat x4) ∧ σ 15 0 (Int.toNat x4) < 2147483648) ∧ (-2147483648 ≤ σ 15 1 (Int.toNat x4) ∧ σ 15 1 (Int.toNat x4) < 2147483648)) (if (σ 15 0 (Int.toNat x4)) = (σ 15 1 (Int.toNat x4)) then fb_Wi_send_77 k19 x1 x2 x3 x4 σ else fb_Wi_send_49 k19 x1 x2 x3 x4 σ)
theorem e_Wi_send_32 {l : Launch} {G : kG} {σf : kS} {k19 : Int → Int → Int → Int → kS → kRes} (hk19 : ∀ (x1 : Int) (x2 : Int) (x3 : Int) (x4 : Int)  (σ : kS), k19 x1 x2 x3 x4 σ = some (none, σf) → Rn l G dm_Wi_send m_Wi_send (kU fun σ' => σ' = σf) 19 [some (.inr (4, 0)), some (.inl x1), some (.inl x2), some (.inl x3), some (.inl x4)] [] σ) {x1 : Int} {x2 : Int} {x3 : Int} {x4 : Int}  {σ : kS} (h : fb_Wi_send_32 k19 x1 x2 x3 x4 σ = some (none, σf)) : Rn l G dm_Wi_send m_Wi_send (kU fun σ' => σ' = σf) 32 [some (.inr (4, 0)), some (.inl x1), some (.inl x2), some (.inl x3), some (.inl x4)] [] σ := by
  unfold fb_Wi_send_32 at h
  obtain ⟨⟨h1, h2, h3⟩, h⟩ := kg_some h
  refine s_Wi_send_32 h1 h2 h3 (fun c => ?_) (fun c => ?_)
  · rw [if_pos c] at h
    exact e_Wi_send_77 hk19 h
  · rw [if_neg c] at h
    exact e_Wi_send_49 hk19 h
def fb_Wi_send_19 (k2 : Int → kS → kRes) (k19 : Int → Int → Int → Int → kS → kRes) (x1 : Int) (x2 : Int) (x3 : Int) (x4 : Int) (σ : kS) : kRes := kg ((-2147483648 ≤ x4 ∧ x4 < 2147483648) ∧ (-2147483648 ≤ (x1 + 1) * (σ 4 0 2) ∧ (x1 + 1) * (σ 4 0 2) < 2147483648)) (if ((x1 + 1) * (σ 4 0 2)) ≤ x4 then fb_Wi_send_83 k2 x1 x2 x3 x4 σ else fb_Wi_send_32 k19 x1 x2 x3 x4 σ)
theorem e_Wi_send_19 {l : Launch} {G : kG} {σf : kS} {k2 : Int → kS → kRes} (hk2 : ∀ (x1 : Int) (o2 : Option kV) (o3 : Option kV) (o4 : Option kV) (σ : kS), k2 x1 σ = some (none, σf) → Rn l G dm_Wi_send m_Wi_send (kU fun σ' => σ' = σf) 2 [some (.inr (4, 0)), some (.inl x1), o2, o3, o4] [] σ) {k19 : Int → Int → Int → Int → kS → kRes} (hk19 : ∀ (x1 : Int) (x2 : Int) (x3 : Int) (x4 : Int)  (σ : kS), k19 x1 x2 x3 x4 σ = some (none, σf) → Rn l G dm_Wi_send m_Wi_send (kU fun σ' => σ' = σf) 19 [some (.inr (4, 0)), some (.inl x1), some (.inl x2), some (.inl x3), some (.inl x4)] [] σ) {x1 : Int} {x2 : Int} {x3 : Int} {x4 : Int}  {σ : kS} (h : fb_Wi_send_19 k2 k19 x1 x2 x3 x4 σ = some (none, σf)) : Rn l G dm_Wi_send m_Wi_send (kU fun σ' => σ' = σf) 19 [some (.inr (4, 0)), some (.inl x1), some (.inl x2), some (.inl x3), some (.inl x4)] [] σ := by
  unfold fb_Wi_send_19 at h
  obtain ⟨⟨h1, h2⟩, h⟩ := kg_some h
  refine s_Wi_send_19 h1 h2 (fun c => ?_) (fun c => ?_)
  · rw [if_pos c] at h
    exact e_Wi_send_83 hk2 h
  · rw [if_neg c] at h
    exact e_Wi_send_32 hk19 h
def fl_Wi_send_19 (k2 : Int → kS → kRes) : Nat → Int → Int → Int → Int → kS → kRes
  | 0, _, _, _, _, _ => none
  | n + 1, x1, x2, x3, x4, σ => fb_Wi_send_19 k2 (fl_Wi_send_19 k2 n) x1 x2 x3 x4 σ
theorem el_Wi_send_19 {l : Launch} {G : kG} {σf : kS} {k2 : Int → kS → kRes} (hk2 : ∀ (x1 : Int) (o2 : Option kV) (o3 : Option kV) (o4 : Option kV) (σ : kS), k2 x1 σ = some (none, σf) → Rn l G dm_Wi_send m_Wi_send (kU fun σ' => σ' = σf) 2 [some (.inr (4, 0)), some (.inl x1), o2, o3, o4] [] σ) : ∀ (n : Nat) (x1 : Int) (x2 : Int) (x3 : Int) (x4 : Int)  (σ : kS), fl_Wi_send_19 k2 n x1 x2 x3 x4 σ = some (none, σf) → Rn l G dm_Wi_send m_Wi_send (kU fun σ' => σ' = σf) 19 [some (.inr (4, 0)), some (.inl x1), some (.inl x2), some (.inl x3), some (.inl x4)] [] σ := by
  intro n
  induction n with
  | zero => intro x1 x2 x3 x4 σ h; simp only [fl_Wi_send_19] at h; cases h
  | succ n ih => intro x1 x2 x3 x4 σ h; simp only [fl_Wi_send_19] at h; exact e_Wi_send_19 hk2 ih h
def fb_Wi_send_7 (k2 : Int → kS → kRes) (x1 : Int) (σ : kS) : kRes := fl_Wi_send_19 k2 3000 x1 (-1) (-1) (x1 * (σ 4 0 2)) σ
theorem e_Wi_send_7 {l : Launch} {G : kG} {σf : kS} {k2 : Int → kS → kRes} (hk2 : ∀ (x1 : Int) (o2 : Option kV) (o3 : Option kV) (o4 : Option kV) (σ : kS), k2 x1 σ = some (none, σf) → Rn l G dm_Wi_send m_Wi_send (kU fun σ' => σ' = σf) 2 [some (.inr (4, 0)), some (.inl x1), o2, o3, o4] [] σ) {x1 : Int} {o2 : Option kV} {o3 : Option kV} {o4 : Option kV} {σ : kS} (h : fb_Wi_send_7 k2 x1 σ = some (none, σf)) : Rn l G dm_Wi_send m_Wi_send (kU fun σ' => σ' = σf) 7 [some (.inr (4, 0)), some (.inl x1), o2, o3, o4] [] σ := by
  unfold fb_Wi_send_7 at h
  refine s_Wi_send_7  ?_
  exact el_Wi_send_19 hk2 _ _ _ _ _ _ h
def fb_Wi_send_2 (k2 : Int → kS → kRes) (x1 : Int) (σ : kS) : kRes := kg ((-2147483648 ≤ x1 ∧ x1 < 2147483648)) (if 5 ≤ x1 then fb_Wi_send_109  x1 σ else fb_Wi_send_7 k2 x1 σ)
theorem e_Wi_send_2 {l : Launch} {G : kG} {σf : kS} {k2 : Int → kS → kRes} (hk2 : ∀ (x1 : Int) (o2 : Option kV) (o3 : Option kV) (o4 : Option kV) (σ : kS), k2 x1 σ = some (none, σf) → Rn l G dm_Wi_send m_Wi_send (kU fun σ' => σ' = σf) 2 [some (.inr (4, 0)), some (.inl x1), o2, o3, o4] [] σ) {x1 : Int} {o2 : Option kV} {o3 : Option kV} {o4 : Option kV} {σ : kS} (h : fb_Wi_send_2 k2 x1 σ = some (none, σf)) : Rn l G dm_Wi_send m_Wi_send (kU fun σ' => σ' = σf) 2 [some (.inr (4, 0)), some (.inl x1), o2, o3, o4] [] σ := by
  unfold fb_Wi_send_2 at h
  obtain ⟨h1, h⟩ := kg_some h
  refine s_Wi_send_2 h1 (fun c => ?_) (fun c => ?_)
  · rw [if_pos c] at h
    exact e_Wi_send_109  h
  · rw [if_neg c] at h
    exact e_Wi_send_7 hk2 h
def fl_Wi_send_2  : Nat → Int → kS → kRes
  | 0, _, _ => none
  | n + 1, x1, σ => fb_Wi_send_2 (fl_Wi_send_2  n) x1 σ
theorem el_Wi_send_2 {l : Launch} {G : kG} {σf : kS}  : ∀ (n : Nat) (x1 : Int) (o2 : Option kV) (o3 : Option kV) (o4 : Option kV) (σ : kS), fl_Wi_send_2  n x1 σ = some (none, σf) → Rn l G dm_Wi_send m_Wi_send (kU fun σ' => σ' = σf) 2 [some (.inr (4, 0)), some (.inl x1), o2, o3, o4] [] σ := by
  intro n
  induction n with
  | zero => intro x1 o2 o3 o4 σ h; simp only [fl_Wi_send_2] at h; cases h
  | succ n ih => intro x1 o2 o3 o4 σ h; simp only [fl_Wi_send_2] at h; exact e_Wi_send_2 ih h
def fb_Wi_send_0   (σ : kS) : kRes := fl_Wi_send_2  3000 0 σ
theorem e_Wi_send_0 {l : Launch} {G : kG} {σf : kS}   {o1 : Option kV} {o2 : Option kV} {o3 : Option kV} {o4 : Option kV} {σ : kS} (h : fb_Wi_send_0   σ = some (none, σf)) : Rn l G dm_Wi_send m_Wi_send (kU fun σ' => σ' = σf) 0 [some (.inr (4, 0)), o1, o2, o3, o4] [] σ := by
  unfold fb_Wi_send_0 at h
  refine s_Wi_send_0  ?_
  exact el_Wi_send_2  _ _ _ _ _ _ h
def f_Wi_send  (σ : kS) : kRes := fb_Wi_send_0  σ
theorem E_Wi_send {l : Launch} {G : kG} {σf : kS}  {σ : kS} (h : f_Wi_send  σ = some (none, σf)) : Call l G dm_Wi_send y_Wi_send m_Wi_send [.inr (4, 0)] σ (kU fun σ' => σ' = σf) := by
  unfold f_Wi_send at h
  exact Call.of (by decide +kernel) rfl (Nat.le_of_ble_eq_true rfl) (e_Wi_send_0 h)
/-! Wi_show -/
def fb_Wi_show_14   (σ : kS) : kRes := some (none, σ)
theorem e_Wi_show_14 {l : Launch} {G : kG} {σf : kS}    {σ : kS} (h : fb_Wi_show_14   σ = some (none, σf)) : Rn l G dm_Wi_show m_Wi_show (kU fun σ' => σ' = σf) 14 [some (.inr (4, 0)), some (.inr (2, 0))] [] σ := by
  unfold fb_Wi_show_14 at h
  simp only [Option.some.injEq, Prod.mk.injEq, true_and] at h
  exact s_Wi_show_14  ⟨rfl, h⟩
def fb_Wi_show_10   (σ : kS) : kRes := kbu (f_Wi_send  σ) fun σ1 => fb_Wi_show_14  σ1
theorem e_Wi_show_10 {l : Launch} {G : kG} {σf : kS}    {σ : kS} (h : fb_Wi_show_10   σ = some (none, σf)) : Rn l G dm_Wi_show m_Wi_show (kU fun σ' => σ' = σf) 10 [some (.inr (4, 0)), some (.inr (2, 0))] [] σ := by
  unfold fb_Wi_show_10 at h
  obtain ⟨σ1, hc, h⟩ := kbu_some h
  refine s_Wi_show_10  (by decide) (E_Wi_send hc) (fun σ2 e2 => ?_)
  subst e2
  exact e_Wi_show_14  h
def fb_Wi_show_5   (σ : kS) : kRes := kbu (f_Wi_paint  σ) fun σ1 => fb_Wi_show_10  σ1
theorem e_Wi_show_5 {l : Launch} {G : kG} {σf : kS}    {σ : kS} (h : fb_Wi_show_5   σ = some (none, σf)) : Rn l G dm_Wi_show m_Wi_show (kU fun σ' => σ' = σf) 5 [some (.inr (4, 0)), some (.inr (2, 0))] [] σ := by
  unfold fb_Wi_show_5 at h
  obtain ⟨σ1, hc, h⟩ := kbu_some h
  refine s_Wi_show_5  (by decide) (E_Wi_paint hc) (fun σ2 e2 => ?_)
  subst e2
  exact e_Wi_show_10  h
def fb_Wi_show_0   (σ : kS) : kRes := kbu (f_Wi_follow  σ) fun σ1 => fb_Wi_show_5  σ1
theorem e_Wi_show_0 {l : Launch} {G : kG} {σf : kS}    {σ : kS} (h : fb_Wi_show_0   σ = some (none, σf)) : Rn l G dm_Wi_show m_Wi_show (kU fun σ' => σ' = σf) 0 [some (.inr (4, 0)), some (.inr (2, 0))] [] σ := by
  unfold fb_Wi_show_0 at h
  obtain ⟨σ1, hc, h⟩ := kbu_some h
  refine s_Wi_show_0  (by decide) (E_Wi_follow hc) (fun σ2 e2 => ?_)
  subst e2
  exact e_Wi_show_5  h
def f_Wi_show  (σ : kS) : kRes := fb_Wi_show_0  σ
theorem E_Wi_show {l : Launch} {G : kG} {σf : kS}  {σ : kS} (h : f_Wi_show  σ = some (none, σf)) : Call l G dm_Wi_show y_Wi_show m_Wi_show [.inr (4, 0), .inr (2, 0)] σ (kU fun σ' => σ' = σf) := by
  unfold f_Wi_show at h
  exact Call.of (by decide +kernel) rfl (Nat.le_of_ble_eq_true rfl) (e_Wi_show_0 h)
/-! Ks_crash -/
def fb_Ks_crash_50   (σ : kS) : kRes := some (some (σ 2 0 2), σ)
theorem e_Ks_crash_50 {l : Launch} {G : kG} {yf : Int} {σf : kS}    {σ : kS} (h : fb_Ks_crash_50   σ = some (some yf, σf)) : Rn l G dm_Ks_crash m_Ks_crash (kI fun y' σ' => y' = yf ∧ σ' = σf) 50 [some (.inr (0, 0))] [] σ := by
  unfold fb_Ks_crash_50 at h
  simp only [Option.some.injEq, Prod.mk.injEq, true_and] at h
  exact s_Ks_crash_50  ⟨_, rfl, h⟩
def fb_Ks_crash_28   (σ : kS) : kRes := kbu (f_Wi_show  (kup σ 4 0 3 0)) fun σ1 => fb_Ks_crash_50  σ1
theorem e_Ks_crash_28 {l : Launch} {G : kG} {yf : Int} {σf : kS}    {σ : kS} (h : fb_Ks_crash_28   σ = some (some yf, σf)) : Rn l G dm_Ks_crash m_Ks_crash (kI fun y' σ' => y' = yf ∧ σ' = σf) 28 [some (.inr (0, 0))] [] σ := by
  unfold fb_Ks_crash_28 at h
  obtain ⟨σ1, hc, h⟩ := kbu_some h
  refine s_Ks_crash_28  (by decide) (E_Wi_show hc) (fun σ2 e2 => ?_)
  subst e2
  exact e_Ks_crash_50  h
def fb_Ks_crash_14   (σ : kS) : kRes := kbu (f_Di_recover 0 σ) fun σ1 => fb_Ks_crash_28  σ1
theorem e_Ks_crash_14 {l : Launch} {G : kG} {yf : Int} {σf : kS}    {σ : kS} (h : fb_Ks_crash_14   σ = some (some yf, σf)) : Rn l G dm_Ks_crash m_Ks_crash (kI fun y' σ' => y' = yf ∧ σ' = σf) 14 [some (.inr (0, 0))] [] σ := by
  unfold fb_Ks_crash_14 at h
  obtain ⟨σ1, hc, h⟩ := kbu_some h
  refine s_Ks_crash_14  (by decide) (E_Di_recover hc) (fun σ2 e2 => ?_)
  subst e2
  exact e_Ks_crash_28  h
def fb_Ks_crash_7   (σ : kS) : kRes := kbu (f_Kb_reset  σ) fun σ1 => fb_Ks_crash_14  σ1
theorem e_Ks_crash_7 {l : Launch} {G : kG} {yf : Int} {σf : kS}    {σ : kS} (h : fb_Ks_crash_7   σ = some (some yf, σf)) : Rn l G dm_Ks_crash m_Ks_crash (kI fun y' σ' => y' = yf ∧ σ' = σf) 7 [some (.inr (0, 0))] [] σ := by
  unfold fb_Ks_crash_7 at h
  obtain ⟨σ1, hc, h⟩ := kbu_some h
  refine s_Ks_crash_7  (by decide) (E_Kb_reset hc) (fun σ2 e2 => ?_)
  subst e2
  exact e_Ks_crash_14  h
def fb_Ks_crash_0   (σ : kS) : kRes := kbu (f_De_reset  σ) fun σ1 => fb_Ks_crash_7  σ1
theorem e_Ks_crash_0 {l : Launch} {G : kG} {yf : Int} {σf : kS}    {σ : kS} (h : fb_Ks_crash_0   σ = some (some yf, σf)) : Rn l G dm_Ks_crash m_Ks_crash (kI fun y' σ' => y' = yf ∧ σ' = σf) 0 [some (.inr (0, 0))] [] σ := by
  unfold fb_Ks_crash_0 at h
  obtain ⟨σ1, hc, h⟩ := kbu_some h
  refine s_Ks_crash_0  (by decide) (E_De_reset hc) (fun σ2 e2 => ?_)
  subst e2
  exact e_Ks_crash_7  h
def f_Ks_crash  (σ : kS) : kRes := fb_Ks_crash_0  σ
theorem E_Ks_crash {l : Launch} {G : kG} {yf : Int} {σf : kS}  {σ : kS} (h : f_Ks_crash  σ = some (some yf, σf)) : Call l G dm_Ks_crash y_Ks_crash m_Ks_crash [.inr (0, 0)] σ (kI fun y' σ' => y' = yf ∧ σ' = σf) := by
  unfold f_Ks_crash at h
  exact Call.of (by decide +kernel) rfl (Nat.le_of_ble_eq_true rfl) (e_Ks_crash_0 h)
/-! Ks_cursor -/
def fb_Ks_cursor_0   (σ : kS) : kRes := some (some (((σ 2 0 3) * 32) + (σ 2 0 4)), σ)
theorem e_Ks_cursor_0 {l : Launch} {G : kG} {yf : Int} {σf : kS}    {σ : kS} (h : fb_Ks_cursor_0   σ = some (some yf, σf)) : Rn l G dm_Ks_cursor m_Ks_cursor (kI fun y' σ' => y' = yf ∧ σ' = σf) 0 [some (.inr (0, 0))] [] σ := by
  unfold fb_Ks_cursor_0 at h
  simp only [Option.some.injEq, Prod.mk.injEq, true_and] at h
  exact s_Ks_cursor_0  ⟨_, rfl, h⟩
def f_Ks_cursor  (σ : kS) : kRes := fb_Ks_cursor_0  σ
theorem E_Ks_cursor {l : Launch} {G : kG} {yf : Int} {σf : kS}  {σ : kS} (h : f_Ks_cursor  σ = some (some yf, σf)) : Call l G dm_Ks_cursor y_Ks_cursor m_Ks_cursor [.inr (0, 0)] σ (kI fun y' σ' => y' = yf ∧ σ' = σf) := by
  unfold f_Ks_cursor at h
  exact Call.of (by decide +kernel) rfl (Nat.le_of_ble_eq_true rfl) (e_Ks_cursor_0 h)
/-! Ks_file -/
def fb_Ks_file_27  (s0 : Int) (σ : kS) : kRes := some (some s0, σ)
theorem e_Ks_file_27 {l : Launch} {G : kG} {yf : Int} {σf : kS}  {s0 : Int}  {σ : kS} (h : fb_Ks_file_27  s0 σ = some (some yf, σf)) : Rn l G dm_Ks_file m_Ks_file (kI fun y' σ' => y' = yf ∧ σ' = σf) 27 [some (.inr (0, 0))] [.inl s0] σ := by
  unfold fb_Ks_file_27 at h
  simp only [Option.some.injEq, Prod.mk.injEq, true_and] at h
  exact s_Ks_file_27  ⟨_, rfl, h⟩
def fb_Ks_file_17   (σ : kS) : kRes := fb_Ks_file_27  (σ 2 4 2) σ
theorem e_Ks_file_17 {l : Launch} {G : kG} {yf : Int} {σf : kS}    {σ : kS} (h : fb_Ks_file_17   σ = some (some yf, σf)) : Rn l G dm_Ks_file m_Ks_file (kI fun y' σ' => y' = yf ∧ σ' = σf) 17 [some (.inr (0, 0))] [] σ := by
  unfold fb_Ks_file_17 at h
  refine s_Ks_file_17  ?_
  exact e_Ks_file_27  h
def fb_Ks_file_13   (σ : kS) : kRes := fb_Ks_file_27  (-1) σ
theorem e_Ks_file_13 {l : Launch} {G : kG} {yf : Int} {σf : kS}    {σ : kS} (h : fb_Ks_file_13   σ = some (some yf, σf)) : Rn l G dm_Ks_file m_Ks_file (kI fun y' σ' => y' = yf ∧ σ' = σf) 13 [some (.inr (0, 0))] [] σ := by
  unfold fb_Ks_file_13 at h
  refine s_Ks_file_13  ?_
  exact e_Ks_file_27  h
def fb_Ks_file_0   (σ : kS) : kRes := kg ((-2147483648 ≤ σ 2 4 2 ∧ σ 2 4 2 < 2147483648)) (if (σ 2 4 2) = 0 then fb_Ks_file_13  σ else fb_Ks_file_17  σ)
theorem e_Ks_file_0 {l : Launch} {G : kG} {yf : Int} {σf : kS}    {σ : kS} (h : fb_Ks_file_0   σ = some (some yf, σf)) : Rn l G dm_Ks_file m_Ks_file (kI fun y' σ' => y' = yf ∧ σ' = σf) 0 [some (.inr (0, 0))] [] σ := by
  unfold fb_Ks_file_0 at h
  obtain ⟨h1, h⟩ := kg_some h
  refine s_Ks_file_0 h1 (fun c => ?_) (fun c => ?_)
  · rw [if_neg c] at h
    exact e_Ks_file_17  h
  · rw [if_pos c] at h
    exact e_Ks_file_13  h
def f_Ks_file  (σ : kS) : kRes := fb_Ks_file_0  σ
theorem E_Ks_file {l : Launch} {G : kG} {yf : Int} {σf : kS}  {σ : kS} (h : f_Ks_file  σ = some (some yf, σf)) : Call l G dm_Ks_file y_Ks_file m_Ks_file [.inr (0, 0)] σ (kI fun y' σ' => y' = yf ∧ σ' = σf) := by
  unfold f_Ks_file at h
  exact Call.of (by decide +kernel) rfl (Nat.le_of_ble_eq_true rfl) (e_Ks_file_0 h)
/-! Ks_held -/
def fb_Ks_held_12  (x1 : Int) (x2 : Int) (s0 : Int) (σ : kS) : kRes := some (some s0, σ)
theorem e_Ks_held_12 {l : Launch} {G : kG} {yf : Int} {σf : kS}  {x1 : Int} {x2 : Int} {s0 : Int}  {σ : kS} (h : fb_Ks_held_12  x1 x2 s0 σ = some (some yf, σf)) : Rn l G dm_Ks_held m_Ks_held (kI fun y' σ' => y' = yf ∧ σ' = σf) 12 [some (.inr (0, 0)), some (.inl x1), some (.inl x2)] [.inl s0] σ := by
  unfold fb_Ks_held_12 at h
  simp only [Option.some.injEq, Prod.mk.injEq, true_and] at h
  exact s_Ks_held_12  ⟨_, rfl, h⟩
def fb_Ks_held_0  (x1 : Int) (x2 : Int) (σ : kS) : kRes := kbi (f_Te_codeAt x1 x2 3 σ) fun y σ1 => fb_Ks_held_12  x1 x2 y σ1
theorem e_Ks_held_0 {l : Launch} {G : kG} {yf : Int} {σf : kS}  {x1 : Int} {x2 : Int}  {σ : kS} (h : fb_Ks_held_0  x1 x2 σ = some (some yf, σf)) : Rn l G dm_Ks_held m_Ks_held (kI fun y' σ' => y' = yf ∧ σ' = σf) 0 [some (.inr (0, 0)), some (.inl x1), some (.inl x2)] [] σ := by
  unfold fb_Ks_held_0 at h
  obtain ⟨y, σ1, hc, h⟩ := kbi_some h
  refine s_Ks_held_0  (by decide) (E_Te_codeAt hc) (fun y2 σ2 e2 => ?_)
  obtain ⟨rfl, rfl⟩ := e2
  exact e_Ks_held_12  h
def f_Ks_held (x1 : Int) (x2 : Int) (σ : kS) : kRes := fb_Ks_held_0 x1 x2 σ
theorem E_Ks_held {l : Launch} {G : kG} {yf : Int} {σf : kS} {x1 : Int} {x2 : Int} {σ : kS} (h : f_Ks_held x1 x2 σ = some (some yf, σf)) : Call l G dm_Ks_held y_Ks_held m_Ks_held [.inr (0, 0), .inl x1, .inl x2] σ (kI fun y' σ' => y' = yf ∧ σ' = σf) := by
  unfold f_Ks_held at h
  exact Call.of (by decide +kernel) rfl (Nat.le_of_ble_eq_true rfl) (e_Ks_held_0 h)
/-! Ks_isKey -/
def fb_Ks_isKey_35  (x0 : Int) (s0 : Int) (σ : kS) : kRes := kg ((s0 = 0 ∨ s0 = 1)) (some (some s0, σ))
theorem e_Ks_isKey_35 {l : Launch} {G : kG} {yf : Int} {σf : kS}  {x0 : Int} {s0 : Int}  {σ : kS} (h : fb_Ks_isKey_35  x0 s0 σ = some (some yf, σf)) : Rn l G dm_Ks_isKey m_Ks_isKey (kI fun y' σ' => y' = yf ∧ σ' = σf) 35 [some (.inl x0)] [.inl s0] σ := by
  unfold fb_Ks_isKey_35 at h
  obtain ⟨h1, h⟩ := kg_some h
  simp only [Option.some.injEq, Prod.mk.injEq, true_and] at h
  exact s_Ks_isKey_35 h1 ⟨_, rfl, h⟩
def fb_Ks_isKey_34  (x0 : Int) (σ : kS) : kRes := fb_Ks_isKey_35  x0 0 σ
theorem e_Ks_isKey_34 {l : Launch} {G : kG} {yf : Int} {σf : kS}  {x0 : Int}  {σ : kS} (h : fb_Ks_isKey_34  x0 σ = some (some yf, σf)) : Rn l G dm_Ks_isKey m_Ks_isKey (kI fun y' σ' => y' = yf ∧ σ' = σf) 34 [some (.inl x0)] [] σ := by
  unfold fb_Ks_isKey_34 at h
  refine s_Ks_isKey_34  ?_
  exact e_Ks_isKey_35  h
def fb_Ks_isKey_30  (x0 : Int) (σ : kS) : kRes := fb_Ks_isKey_35  x0 1 σ
theorem e_Ks_isKey_30 {l : Launch} {G : kG} {yf : Int} {σf : kS}  {x0 : Int}  {σ : kS} (h : fb_Ks_isKey_30  x0 σ = some (some yf, σf)) : Rn l G dm_Ks_isKey m_Ks_isKey (kI fun y' σ' => y' = yf ∧ σ' = σf) 30 [some (.inl x0)] [] σ := by
  unfold fb_Ks_isKey_30 at h
  refine s_Ks_isKey_30  ?_
  exact e_Ks_isKey_35  h
def fb_Ks_isKey_24  (x0 : Int) (σ : kS) : kRes := kg ((-2147483648 ≤ x0 ∧ x0 < 2147483648)) (if x0 = 8 then fb_Ks_isKey_30  x0 σ else fb_Ks_isKey_34  x0 σ)
theorem e_Ks_isKey_24 {l : Launch} {G : kG} {yf : Int} {σf : kS}  {x0 : Int}  {σ : kS} (h : fb_Ks_isKey_24  x0 σ = some (some yf, σf)) : Rn l G dm_Ks_isKey m_Ks_isKey (kI fun y' σ' => y' = yf ∧ σ' = σf) 24 [some (.inl x0)] [] σ := by
  unfold fb_Ks_isKey_24 at h
  obtain ⟨h1, h⟩ := kg_some h
  refine s_Ks_isKey_24 h1 (fun c => ?_) (fun c => ?_)
  · rw [if_neg c] at h
    exact e_Ks_isKey_34  h
  · rw [if_pos c] at h
    exact e_Ks_isKey_30  h
def fb_Ks_isKey_18  (x0 : Int) (σ : kS) : kRes := kg ((-2147483648 ≤ x0 ∧ x0 < 2147483648)) (if x0 = 10 then fb_Ks_isKey_30  x0 σ else fb_Ks_isKey_24  x0 σ)
theorem e_Ks_isKey_18 {l : Launch} {G : kG} {yf : Int} {σf : kS}  {x0 : Int}  {σ : kS} (h : fb_Ks_isKey_18  x0 σ = some (some yf, σf)) : Rn l G dm_Ks_isKey m_Ks_isKey (kI fun y' σ' => y' = yf ∧ σ' = σf) 18 [some (.inl x0)] [] σ := by
  unfold fb_Ks_isKey_18 at h
  obtain ⟨h1, h⟩ := kg_some h
  refine s_Ks_isKey_18 h1 (fun c => ?_) (fun c => ?_)
  · rw [if_pos c] at h
    exact e_Ks_isKey_30  h
  · rw [if_neg c] at h
    exact e_Ks_isKey_24  h
def fb_Ks_isKey_12  (x0 : Int) (σ : kS) : kRes := kg ((-2147483648 ≤ x0 ∧ x0 < 2147483648)) (if x0 = 27 then fb_Ks_isKey_30  x0 σ else fb_Ks_isKey_18  x0 σ)
theorem e_Ks_isKey_12 {l : Launch} {G : kG} {yf : Int} {σf : kS}  {x0 : Int}  {σ : kS} (h : fb_Ks_isKey_12  x0 σ = some (some yf, σf)) : Rn l G dm_Ks_isKey m_Ks_isKey (kI fun y' σ' => y' = yf ∧ σ' = σf) 12 [some (.inl x0)] [] σ := by
  unfold fb_Ks_isKey_12 at h
  obtain ⟨h1, h⟩ := kg_some h
  refine s_Ks_isKey_12 h1 (fun c => ?_) (fun c => ?_)
  · rw [if_pos c] at h
    exact e_Ks_isKey_30  h
  · rw [if_neg c] at h
    exact e_Ks_isKey_18  h
def fb_Ks_isKey_6  (x0 : Int) (σ : kS) : kRes := kg ((-2147483648 ≤ x0 ∧ x0 < 2147483648)) (if x0 ≤ 126 then fb_Ks_isKey_30  x0 σ else fb_Ks_isKey_12  x0 σ)
theorem e_Ks_isKey_6 {l : Launch} {G : kG} {yf : Int} {σf : kS}  {x0 : Int}  {σ : kS} (h : fb_Ks_isKey_6  x0 σ = some (some yf, σf)) : Rn l G dm_Ks_isKey m_Ks_isKey (kI fun y' σ' => y' = yf ∧ σ' = σf) 6 [some (.inl x0)] [] σ := by
  unfold fb_Ks_isKey_6 at h
  obtain ⟨h1, h⟩ := kg_some h
  refine s_Ks_isKey_6 h1 (fun c => ?_) (fun c => ?_)
  · rw [if_pos c] at h
    exact e_Ks_isKey_30  h
  · rw [if_neg c] at h
    exact e_Ks_isKey_12  h
def fb_Ks_isKey_0  (x0 : Int) (σ : kS) : kRes := kg ((-2147483648 ≤ x0 ∧ x0 < 2147483648)) (if x0 < 32 then fb_Ks_isKey_12  x0 σ else fb_Ks_isKey_6  x0 σ)
theorem e_Ks_isKey_0 {l : Launch} {G : kG} {yf : Int} {σf : kS}  {x0 : Int}  {σ : kS} (h : fb_Ks_isKey_0  x0 σ = some (some yf, σf)) : Rn l G dm_Ks_isKey m_Ks_isKey (kI fun y' σ' => y' = yf ∧ σ' = σf) 0 [some (.inl x0)] [] σ := by
  unfold fb_Ks_isKey_0 at h
  obtain ⟨h1, h⟩ := kg_some h
  refine s_Ks_isKey_0 h1 (fun c => ?_) (fun c => ?_)
  · rw [if_pos c] at h
    exact e_Ks_isKey_12  h
  · rw [if_neg c] at h
    exact e_Ks_isKey_6  h
def f_Ks_isKey (x0 : Int) (σ : kS) : kRes := fb_Ks_isKey_0 x0 σ
theorem E_Ks_isKey {l : Launch} {G : kG} {yf : Int} {σf : kS} {x0 : Int} {σ : kS} (h : f_Ks_isKey x0 σ = some (some yf, σf)) : Call l G dm_Ks_isKey y_Ks_isKey m_Ks_isKey [.inl x0] σ (kI fun y' σ' => y' = yf ∧ σ' = σf) := by
  unfold f_Ks_isKey at h
  exact Call.of (by decide +kernel) rfl (Nat.le_of_ble_eq_true rfl) (e_Ks_isKey_0 h)
/-! Ks_isWidth -/
def fb_Ks_isWidth_16  (x0 : Int) (s0 : Int) (σ : kS) : kRes := kg ((s0 = 0 ∨ s0 = 1)) (some (some s0, σ))
theorem e_Ks_isWidth_16 {l : Launch} {G : kG} {yf : Int} {σf : kS}  {x0 : Int} {s0 : Int}  {σ : kS} (h : fb_Ks_isWidth_16  x0 s0 σ = some (some yf, σf)) : Rn l G dm_Ks_isWidth m_Ks_isWidth (kI fun y' σ' => y' = yf ∧ σ' = σf) 16 [some (.inl x0)] [.inl s0] σ := by
  unfold fb_Ks_isWidth_16 at h
  obtain ⟨h1, h⟩ := kg_some h
  simp only [Option.some.injEq, Prod.mk.injEq, true_and] at h
  exact s_Ks_isWidth_16 h1 ⟨_, rfl, h⟩
def fb_Ks_isWidth_15  (x0 : Int) (σ : kS) : kRes := fb_Ks_isWidth_16  x0 0 σ
theorem e_Ks_isWidth_15 {l : Launch} {G : kG} {yf : Int} {σf : kS}  {x0 : Int}  {σ : kS} (h : fb_Ks_isWidth_15  x0 σ = some (some yf, σf)) : Rn l G dm_Ks_isWidth m_Ks_isWidth (kI fun y' σ' => y' = yf ∧ σ' = σf) 15 [some (.inl x0)] [] σ := by
  unfold fb_Ks_isWidth_15 at h
  refine s_Ks_isWidth_15  ?_
  exact e_Ks_isWidth_16  h
def fb_Ks_isWidth_11  (x0 : Int) (σ : kS) : kRes := fb_Ks_isWidth_16  x0 1 σ
theorem e_Ks_isWidth_11 {l : Launch} {G : kG} {yf : Int} {σf : kS}  {x0 : Int}  {σ : kS} (h : fb_Ks_isWidth_11  x0 σ = some (some yf, σf)) : Rn l G dm_Ks_isWidth m_Ks_isWidth (kI fun y' σ' => y' = yf ∧ σ' = σf) 11 [some (.inl x0)] [] σ := by
  unfold fb_Ks_isWidth_11 at h
  refine s_Ks_isWidth_11  ?_
  exact e_Ks_isWidth_16  h
def fb_Ks_isWidth_5  (x0 : Int) (σ : kS) : kRes := kg ((-2147483648 ≤ x0 ∧ x0 < 2147483648)) (if 20 < x0 then fb_Ks_isWidth_15  x0 σ else fb_Ks_isWidth_11  x0 σ)
theorem e_Ks_isWidth_5 {l : Launch} {G : kG} {yf : Int} {σf : kS}  {x0 : Int}  {σ : kS} (h : fb_Ks_isWidth_5  x0 σ = some (some yf, σf)) : Rn l G dm_Ks_isWidth m_Ks_isWidth (kI fun y' σ' => y' = yf ∧ σ' = σf) 5 [some (.inl x0)] [] σ := by
  unfold fb_Ks_isWidth_5 at h
  obtain ⟨h1, h⟩ := kg_some h
  refine s_Ks_isWidth_5 h1 (fun c => ?_) (fun c => ?_)
  · rw [if_pos c] at h
    exact e_Ks_isWidth_15  h
  · rw [if_neg c] at h
    exact e_Ks_isWidth_11  h
def fb_Ks_isWidth_0  (x0 : Int) (σ : kS) : kRes := kg ((-2147483648 ≤ x0 ∧ x0 < 2147483648)) (if x0 < 5 then fb_Ks_isWidth_15  x0 σ else fb_Ks_isWidth_5  x0 σ)
theorem e_Ks_isWidth_0 {l : Launch} {G : kG} {yf : Int} {σf : kS}  {x0 : Int}  {σ : kS} (h : fb_Ks_isWidth_0  x0 σ = some (some yf, σf)) : Rn l G dm_Ks_isWidth m_Ks_isWidth (kI fun y' σ' => y' = yf ∧ σ' = σf) 0 [some (.inl x0)] [] σ := by
  unfold fb_Ks_isWidth_0 at h
  obtain ⟨h1, h⟩ := kg_some h
  refine s_Ks_isWidth_0 h1 (fun c => ?_) (fun c => ?_)
  · rw [if_pos c] at h
    exact e_Ks_isWidth_15  h
  · rw [if_neg c] at h
    exact e_Ks_isWidth_5  h
def f_Ks_isWidth (x0 : Int) (σ : kS) : kRes := fb_Ks_isWidth_0 x0 σ
theorem E_Ks_isWidth {l : Launch} {G : kG} {yf : Int} {σf : kS} {x0 : Int} {σ : kS} (h : f_Ks_isWidth x0 σ = some (some yf, σf)) : Call l G dm_Ks_isWidth y_Ks_isWidth m_Ks_isWidth [.inl x0] σ (kI fun y' σ' => y' = yf ∧ σ' = σf) := by
  unfold f_Ks_isWidth at h
  exact Call.of (by decide +kernel) rfl (Nat.le_of_ble_eq_true rfl) (e_Ks_isWidth_0 h)
/-! Ks_key -/
def fb_Ks_key_121  (x1 : Int) (x2 : Int) (s0 : Int) (σ : kS) : kRes := some (some s0, σ)
theorem e_Ks_key_121 {l : Launch} {G : kG} {yf : Int} {σf : kS}  {x1 : Int} {x2 : Int} {s0 : Int}  {σ : kS} (h : fb_Ks_key_121  x1 x2 s0 σ = some (some yf, σf)) : Rn l G dm_Ks_key m_Ks_key (kI fun y' σ' => y' = yf ∧ σ' = σf) 121 [some (.inr (0, 0)), some (.inl x1), some (.inl x2)] [.inl s0] σ := by
  unfold fb_Ks_key_121 at h
  simp only [Option.some.injEq, Prod.mk.injEq, true_and] at h
  exact s_Ks_key_121  ⟨_, rfl, h⟩
def fb_Ks_key_120  (x1 : Int) (x2 : Int) (σ : kS) : kRes := fb_Ks_key_121  x1 x2 1 σ
theorem e_Ks_key_120 {l : Launch} {G : kG} {yf : Int} {σf : kS}  {x1 : Int} {x2 : Int}  {σ : kS} (h : fb_Ks_key_120  x1 x2 σ = some (some yf, σf)) : Rn l G dm_Ks_key m_Ks_key (kI fun y' σ' => y' = yf ∧ σ' = σf) 120 [some (.inr (0, 0)), some (.inl x1), some (.inl x2)] [] σ := by
  unfold fb_Ks_key_120 at h
  refine s_Ks_key_120  ?_
  exact e_Ks_key_121  h
def fb_Ks_key_116  (x1 : Int) (x2 : Int) (σ : kS) : kRes := fb_Ks_key_121  x1 x2 0 σ
theorem e_Ks_key_116 {l : Launch} {G : kG} {yf : Int} {σf : kS}  {x1 : Int} {x2 : Int}  {σ : kS} (h : fb_Ks_key_116  x1 x2 σ = some (some yf, σf)) : Rn l G dm_Ks_key m_Ks_key (kI fun y' σ' => y' = yf ∧ σ' = σf) 116 [some (.inr (0, 0)), some (.inl x1), some (.inl x2)] [] σ := by
  unfold fb_Ks_key_116 at h
  refine s_Ks_key_116  ?_
  exact e_Ks_key_121  h
def fb_Ks_key_112  (x1 : Int) (x2 : Int) (σ : kS) : kRes := kg ((-2147483648 ≤ x2 ∧ x2 < 2147483648)) (if x2 = 0 then fb_Ks_key_120  x1 x2 σ else fb_Ks_key_116  x1 x2 σ)
theorem e_Ks_key_112 {l : Launch} {G : kG} {yf : Int} {σf : kS}  {x1 : Int} {x2 : Int}  {σ : kS} (h : fb_Ks_key_112  x1 x2 σ = some (some yf, σf)) : Rn l G dm_Ks_key m_Ks_key (kI fun y' σ' => y' = yf ∧ σ' = σf) 112 [some (.inr (0, 0)), some (.inl x1), some (.inl x2)] [] σ := by
  unfold fb_Ks_key_112 at h
  obtain ⟨h1, h⟩ := kg_some h
  refine s_Ks_key_112 h1 (fun c => ?_) (fun c => ?_)
  · rw [if_pos c] at h
    exact e_Ks_key_120  h
  · rw [if_neg c] at h
    exact e_Ks_key_116  h
def fb_Ks_key_98  (x1 : Int) (x2 : Int) (σ : kS) : kRes := kbu (f_Wi_show  σ) fun σ1 => fb_Ks_key_112  x1 x2 σ1
theorem e_Ks_key_98 {l : Launch} {G : kG} {yf : Int} {σf : kS}  {x1 : Int} {x2 : Int}  {σ : kS} (h : fb_Ks_key_98  x1 x2 σ = some (some yf, σf)) : Rn l G dm_Ks_key m_Ks_key (kI fun y' σ' => y' = yf ∧ σ' = σf) 98 [some (.inr (0, 0)), some (.inl x1), some (.inl x2)] [] σ := by
  unfold fb_Ks_key_98 at h
  obtain ⟨σ1, hc, h⟩ := kbu_some h
  refine s_Ks_key_98  (by decide) (E_Wi_show hc) (fun σ2 e2 => ?_)
  subst e2
  exact e_Ks_key_112  h
def fb_Ks_key_97  (x1 : Int) (s0 : Int) (σ : kS) : kRes := fb_Ks_key_98  x1 s0 σ
theorem e_Ks_key_97 {l : Launch} {G : kG} {yf : Int} {σf : kS}  {x1 : Int} {s0 : Int} {o2 : Option kV} {σ : kS} (h : fb_Ks_key_97  x1 s0 σ = some (some yf, σf)) : Rn l G dm_Ks_key m_Ks_key (kI fun y' σ' => y' = yf ∧ σ' = σf) 97 [some (.inr (0, 0)), some (.inl x1), o2] [.inl s0] σ := by
  unfold fb_Ks_key_97 at h
  refine s_Ks_key_97  ?_
  exact e_Ks_key_98  h
def fb_Ks_key_89  (x1 : Int) (σ : kS) : kRes := kbi (f_Kb_command x1 σ) fun y σ1 => fb_Ks_key_97  x1 y σ1
theorem e_Ks_key_89 {l : Launch} {G : kG} {yf : Int} {σf : kS}  {x1 : Int} {o2 : Option kV} {σ : kS} (h : fb_Ks_key_89  x1 σ = some (some yf, σf)) : Rn l G dm_Ks_key m_Ks_key (kI fun y' σ' => y' = yf ∧ σ' = σf) 89 [some (.inr (0, 0)), some (.inl x1), o2] [] σ := by
  unfold fb_Ks_key_89 at h
  obtain ⟨y, σ1, hc, h⟩ := kbi_some h
  refine s_Ks_key_89  (by decide) (E_Kb_command hc) (fun y2 σ2 e2 => ?_)
  obtain ⟨rfl, rfl⟩ := e2
  exact e_Ks_key_97  h
def fb_Ks_key_86  (x1 : Int) (s0 : Int) (σ : kS) : kRes := fb_Ks_key_97  x1 s0 σ
theorem e_Ks_key_86 {l : Launch} {G : kG} {yf : Int} {σf : kS}  {x1 : Int} {s0 : Int} {o2 : Option kV} {σ : kS} (h : fb_Ks_key_86  x1 s0 σ = some (some yf, σf)) : Rn l G dm_Ks_key m_Ks_key (kI fun y' σ' => y' = yf ∧ σ' = σf) 86 [some (.inr (0, 0)), some (.inl x1), o2] [.inl s0] σ := by
  unfold fb_Ks_key_86 at h
  refine s_Ks_key_86  ?_
  exact e_Ks_key_97  h
def fb_Ks_key_79  (x1 : Int) (σ : kS) : kRes := kbi (f_Kb_repeat  σ) fun y σ1 => fb_Ks_key_86  x1 y σ1
theorem e_Ks_key_79 {l : Launch} {G : kG} {yf : Int} {σf : kS}  {x1 : Int} {o2 : Option kV} {σ : kS} (h : fb_Ks_key_79  x1 σ = some (some yf, σf)) : Rn l G dm_Ks_key m_Ks_key (kI fun y' σ' => y' = yf ∧ σ' = σf) 79 [some (.inr (0, 0)), some (.inl x1), o2] [] σ := by
  unfold fb_Ks_key_79 at h
  obtain ⟨y, σ1, hc, h⟩ := kbi_some h
  refine s_Ks_key_79  (by decide) (E_Kb_repeat hc) (fun y2 σ2 e2 => ?_)
  obtain ⟨rfl, rfl⟩ := e2
  exact e_Ks_key_86  h
def fb_Ks_key_76  (x1 : Int) (s0 : Int) (σ : kS) : kRes := kg ((-2147483648 ≤ s0 ∧ s0 < 2147483648)) (if s0 = 0 then fb_Ks_key_89  x1 σ else fb_Ks_key_79  x1 σ)
theorem e_Ks_key_76 {l : Launch} {G : kG} {yf : Int} {σf : kS}  {x1 : Int} {s0 : Int} {o2 : Option kV} {σ : kS} (h : fb_Ks_key_76  x1 s0 σ = some (some yf, σf)) : Rn l G dm_Ks_key m_Ks_key (kI fun y' σ' => y' = yf ∧ σ' = σf) 76 [some (.inr (0, 0)), some (.inl x1), o2] [.inl s0] σ := by
  unfold fb_Ks_key_76 at h
  obtain ⟨h1, h⟩ := kg_some h
  refine s_Ks_key_76 h1 (fun c => ?_) (fun c => ?_)
  · rw [if_pos c] at h
    exact e_Ks_key_89  h
  · rw [if_neg c] at h
    exact e_Ks_key_79  h
def fb_Ks_key_68  (x1 : Int) (σ : kS) : kRes := kbi (f_Kb_isRepeat x1 σ) fun y σ1 => fb_Ks_key_76  x1 y σ1
theorem e_Ks_key_68 {l : Launch} {G : kG} {yf : Int} {σf : kS}  {x1 : Int} {o2 : Option kV} {σ : kS} (h : fb_Ks_key_68  x1 σ = some (some yf, σf)) : Rn l G dm_Ks_key m_Ks_key (kI fun y' σ' => y' = yf ∧ σ' = σf) 68 [some (.inr (0, 0)), some (.inl x1), o2] [] σ := by
  unfold fb_Ks_key_68 at h
  obtain ⟨y, σ1, hc, h⟩ := kbi_some h
  refine s_Ks_key_68  (by decide) (E_Kb_isRepeat hc) (fun y2 σ2 e2 => ?_)
  obtain ⟨rfl, rfl⟩ := e2
  exact e_Ks_key_76  h
def fb_Ks_key_64  (x1 : Int) (s0 : Int) (σ : kS) : kRes := fb_Ks_key_98  x1 s0 σ
theorem e_Ks_key_64 {l : Launch} {G : kG} {yf : Int} {σf : kS}  {x1 : Int} {s0 : Int} {o2 : Option kV} {σ : kS} (h : fb_Ks_key_64  x1 s0 σ = some (some yf, σf)) : Rn l G dm_Ks_key m_Ks_key (kI fun y' σ' => y' = yf ∧ σ' = σf) 64 [some (.inr (0, 0)), some (.inl x1), o2] [.inl s0] σ := by
  unfold fb_Ks_key_64 at h
  refine s_Ks_key_64  ?_
  exact e_Ks_key_98  h
def fb_Ks_key_56  (x1 : Int) (σ : kS) : kRes := kbi (f_Kb_ask x1 σ) fun y σ1 => fb_Ks_key_64  x1 y σ1
theorem e_Ks_key_56 {l : Launch} {G : kG} {yf : Int} {σf : kS}  {x1 : Int} {o2 : Option kV} {σ : kS} (h : fb_Ks_key_56  x1 σ = some (some yf, σf)) : Rn l G dm_Ks_key m_Ks_key (kI fun y' σ' => y' = yf ∧ σ' = σf) 56 [some (.inr (0, 0)), some (.inl x1), o2] [] σ := by
  unfold fb_Ks_key_56 at h
  obtain ⟨y, σ1, hc, h⟩ := kbi_some h
  refine s_Ks_key_56  (by decide) (E_Kb_ask hc) (fun y2 σ2 e2 => ?_)
  obtain ⟨rfl, rfl⟩ := e2
  exact e_Ks_key_64  h
def fb_Ks_key_52  (x1 : Int) (s0 : Int) (σ : kS) : kRes := fb_Ks_key_98  x1 s0 σ
theorem e_Ks_key_52 {l : Launch} {G : kG} {yf : Int} {σf : kS}  {x1 : Int} {s0 : Int} {o2 : Option kV} {σ : kS} (h : fb_Ks_key_52  x1 s0 σ = some (some yf, σf)) : Rn l G dm_Ks_key m_Ks_key (kI fun y' σ' => y' = yf ∧ σ' = σf) 52 [some (.inr (0, 0)), some (.inl x1), o2] [.inl s0] σ := by
  unfold fb_Ks_key_52 at h
  refine s_Ks_key_52  ?_
  exact e_Ks_key_98  h
def fb_Ks_key_44  (x1 : Int) (σ : kS) : kRes := kbi (f_Kb_insert x1 σ) fun y σ1 => fb_Ks_key_52  x1 y σ1
theorem e_Ks_key_44 {l : Launch} {G : kG} {yf : Int} {σf : kS}  {x1 : Int} {o2 : Option kV} {σ : kS} (h : fb_Ks_key_44  x1 σ = some (some yf, σf)) : Rn l G dm_Ks_key m_Ks_key (kI fun y' σ' => y' = yf ∧ σ' = σf) 44 [some (.inr (0, 0)), some (.inl x1), o2] [] σ := by
  unfold fb_Ks_key_44 at h
  obtain ⟨y, σ1, hc, h⟩ := kbi_some h
  refine s_Ks_key_44  (by decide) (E_Kb_insert hc) (fun y2 σ2 e2 => ?_)
  obtain ⟨rfl, rfl⟩ := e2
  exact e_Ks_key_52  h
def fb_Ks_key_9  (x1 : Int) (σ : kS) : kRes := kg ((-2147483648 ≤ σ 5 0 6 ∧ σ 5 0 6 < 2147483648)) (if (σ 5 0 6) = 1 then fb_Ks_key_44  x1 σ else if (σ 5 0 6) = 2 then fb_Ks_key_56  x1 σ else fb_Ks_key_68  x1 σ)
theorem e_Ks_key_9 {l : Launch} {G : kG} {yf : Int} {σf : kS}  {x1 : Int} {o2 : Option kV} {σ : kS} (h : fb_Ks_key_9  x1 σ = some (some yf, σf)) : Rn l G dm_Ks_key m_Ks_key (kI fun y' σ' => y' = yf ∧ σ' = σf) 9 [some (.inr (0, 0)), some (.inl x1), o2] [] σ := by
  unfold fb_Ks_key_9 at h
  obtain ⟨h1, h⟩ := kg_some h
  refine s_Ks_key_9 h1 (fun c => ?_) (fun c => ?_) (fun c0 c1 => ?_)
  · rw [if_pos c] at h
    exact e_Ks_key_44  h
  · rw [if_neg (show ¬ (σ 5 0 6) = 1 by omega), if_pos c] at h
    exact e_Ks_key_56  h
  · rw [if_neg c0, if_neg c1] at h
    exact e_Ks_key_68  h
def fb_Ks_key_7  (x1 : Int) (σ : kS) : kRes := some (some (-1), σ)
theorem e_Ks_key_7 {l : Launch} {G : kG} {yf : Int} {σf : kS}  {x1 : Int} {o2 : Option kV} {σ : kS} (h : fb_Ks_key_7  x1 σ = some (some yf, σf)) : Rn l G dm_Ks_key m_Ks_key (kI fun y' σ' => y' = yf ∧ σ' = σf) 7 [some (.inr (0, 0)), some (.inl x1), o2] [] σ := by
  unfold fb_Ks_key_7 at h
  simp only [Option.some.injEq, Prod.mk.injEq, true_and] at h
  exact s_Ks_key_7  ⟨_, rfl, h⟩
def fb_Ks_key_4  (x1 : Int) (s0 : Int) (σ : kS) : kRes := kg ((-2147483648 ≤ s0 ∧ s0 < 2147483648)) (if s0 = 0 then fb_Ks_key_7  x1 σ else fb_Ks_key_9  x1 σ)
theorem e_Ks_key_4 {l : Launch} {G : kG} {yf : Int} {σf : kS}  {x1 : Int} {s0 : Int} {o2 : Option kV} {σ : kS} (h : fb_Ks_key_4  x1 s0 σ = some (some yf, σf)) : Rn l G dm_Ks_key m_Ks_key (kI fun y' σ' => y' = yf ∧ σ' = σf) 4 [some (.inr (0, 0)), some (.inl x1), o2] [.inl s0] σ := by
  unfold fb_Ks_key_4 at h
  obtain ⟨h1, h⟩ := kg_some h
  refine s_Ks_key_4 h1 (fun c => ?_) (fun c => ?_)
  · rw [if_neg c] at h
    exact e_Ks_key_9  h
  · rw [if_pos c] at h
    exact e_Ks_key_7  h
def fb_Ks_key_0  (x1 : Int) (σ : kS) : kRes := kbi (f_Ks_isKey x1 σ) fun y σ1 => fb_Ks_key_4  x1 y σ1
theorem e_Ks_key_0 {l : Launch} {G : kG} {yf : Int} {σf : kS}  {x1 : Int} {o2 : Option kV} {σ : kS} (h : fb_Ks_key_0  x1 σ = some (some yf, σf)) : Rn l G dm_Ks_key m_Ks_key (kI fun y' σ' => y' = yf ∧ σ' = σf) 0 [some (.inr (0, 0)), some (.inl x1), o2] [] σ := by
  unfold fb_Ks_key_0 at h
  obtain ⟨y, σ1, hc, h⟩ := kbi_some h
  refine s_Ks_key_0  (by decide) (E_Ks_isKey hc) (fun y2 σ2 e2 => ?_)
  obtain ⟨rfl, rfl⟩ := e2
  exact e_Ks_key_4  h
def f_Ks_key (x1 : Int) (σ : kS) : kRes := fb_Ks_key_0 x1 σ
theorem E_Ks_key {l : Launch} {G : kG} {yf : Int} {σf : kS} {x1 : Int} {σ : kS} (h : f_Ks_key x1 σ = some (some yf, σf)) : Call l G dm_Ks_key y_Ks_key m_Ks_key [.inr (0, 0), .inl x1] σ (kI fun y' σ' => y' = yf ∧ σ' = σf) := by
  unfold f_Ks_key at h
  exact Call.of (by decide +kernel) rfl (Nat.le_of_ble_eq_true rfl) (e_Ks_key_0 h)
/-! Ks_length -/
def fb_Ks_length_11  (x1 : Int) (s0 : Int) (σ : kS) : kRes := some (some s0, σ)
theorem e_Ks_length_11 {l : Launch} {G : kG} {yf : Int} {σf : kS}  {x1 : Int} {s0 : Int}  {σ : kS} (h : fb_Ks_length_11  x1 s0 σ = some (some yf, σf)) : Rn l G dm_Ks_length m_Ks_length (kI fun y' σ' => y' = yf ∧ σ' = σf) 11 [some (.inr (0, 0)), some (.inl x1)] [.inl s0] σ := by
  unfold fb_Ks_length_11 at h
  simp only [Option.some.injEq, Prod.mk.injEq, true_and] at h
  exact s_Ks_length_11  ⟨_, rfl, h⟩
def fb_Ks_length_0  (x1 : Int) (σ : kS) : kRes := kbi (f_Te_sizeOf x1 0 σ) fun y σ1 => fb_Ks_length_11  x1 y σ1
theorem e_Ks_length_0 {l : Launch} {G : kG} {yf : Int} {σf : kS}  {x1 : Int}  {σ : kS} (h : fb_Ks_length_0  x1 σ = some (some yf, σf)) : Rn l G dm_Ks_length m_Ks_length (kI fun y' σ' => y' = yf ∧ σ' = σf) 0 [some (.inr (0, 0)), some (.inl x1)] [] σ := by
  unfold fb_Ks_length_0 at h
  obtain ⟨y, σ1, hc, h⟩ := kbi_some h
  refine s_Ks_length_0  (by decide) (E_Te_sizeOf hc) (fun y2 σ2 e2 => ?_)
  obtain ⟨rfl, rfl⟩ := e2
  exact e_Ks_length_11  h
def f_Ks_length (x1 : Int) (σ : kS) : kRes := fb_Ks_length_0 x1 σ
theorem E_Ks_length {l : Launch} {G : kG} {yf : Int} {σf : kS} {x1 : Int} {σ : kS} (h : f_Ks_length x1 σ = some (some yf, σf)) : Call l G dm_Ks_length y_Ks_length m_Ks_length [.inr (0, 0), .inl x1] σ (kI fun y' σ' => y' = yf ∧ σ' = σf) := by
  unfold f_Ks_length at h
  exact Call.of (by decide +kernel) rfl (Nat.le_of_ble_eq_true rfl) (e_Ks_length_0 h)
/-! Ks_letter -/
def fb_Ks_letter_12  (x1 : Int) (x2 : Int) (s0 : Int) (σ : kS) : kRes := some (some s0, σ)
theorem e_Ks_letter_12 {l : Launch} {G : kG} {yf : Int} {σf : kS}  {x1 : Int} {x2 : Int} {s0 : Int}  {σ : kS} (h : fb_Ks_letter_12  x1 x2 s0 σ = some (some yf, σf)) : Rn l G dm_Ks_letter m_Ks_letter (kI fun y' σ' => y' = yf ∧ σ' = σf) 12 [some (.inr (0, 0)), some (.inl x1), some (.inl x2)] [.inl s0] σ := by
  unfold fb_Ks_letter_12 at h
  simp only [Option.some.injEq, Prod.mk.injEq, true_and] at h
  exact s_Ks_letter_12  ⟨_, rfl, h⟩
def fb_Ks_letter_0  (x1 : Int) (x2 : Int) (σ : kS) : kRes := kbi (f_Te_codeAt x1 x2 0 σ) fun y σ1 => fb_Ks_letter_12  x1 x2 y σ1
theorem e_Ks_letter_0 {l : Launch} {G : kG} {yf : Int} {σf : kS}  {x1 : Int} {x2 : Int}  {σ : kS} (h : fb_Ks_letter_0  x1 x2 σ = some (some yf, σf)) : Rn l G dm_Ks_letter m_Ks_letter (kI fun y' σ' => y' = yf ∧ σ' = σf) 0 [some (.inr (0, 0)), some (.inl x1), some (.inl x2)] [] σ := by
  unfold fb_Ks_letter_0 at h
  obtain ⟨y, σ1, hc, h⟩ := kbi_some h
  refine s_Ks_letter_0  (by decide) (E_Te_codeAt hc) (fun y2 σ2 e2 => ?_)
  obtain ⟨rfl, rfl⟩ := e2
  exact e_Ks_letter_12  h
def f_Ks_letter (x1 : Int) (x2 : Int) (σ : kS) : kRes := fb_Ks_letter_0 x1 x2 σ
theorem E_Ks_letter {l : Launch} {G : kG} {yf : Int} {σf : kS} {x1 : Int} {x2 : Int} {σ : kS} (h : f_Ks_letter x1 x2 σ = some (some yf, σf)) : Call l G dm_Ks_letter y_Ks_letter m_Ks_letter [.inr (0, 0), .inl x1, .inl x2] σ (kI fun y' σ' => y' = yf ∧ σ' = σf) := by
  unfold f_Ks_letter at h
  exact Call.of (by decide +kernel) rfl (Nat.le_of_ble_eq_true rfl) (e_Ks_letter_0 h)
/-! Ks_lines -/
def fb_Ks_lines_0   (σ : kS) : kRes := some (some (σ 2 0 2), σ)
theorem e_Ks_lines_0 {l : Launch} {G : kG} {yf : Int} {σf : kS}    {σ : kS} (h : fb_Ks_lines_0   σ = some (some yf, σf)) : Rn l G dm_Ks_lines m_Ks_lines (kI fun y' σ' => y' = yf ∧ σ' = σf) 0 [some (.inr (0, 0))] [] σ := by
  unfold fb_Ks_lines_0 at h
  simp only [Option.some.injEq, Prod.mk.injEq, true_and] at h
  exact s_Ks_lines_0  ⟨_, rfl, h⟩
def f_Ks_lines  (σ : kS) : kRes := fb_Ks_lines_0  σ
theorem E_Ks_lines {l : Launch} {G : kG} {yf : Int} {σf : kS}  {σ : kS} (h : f_Ks_lines  σ = some (some yf, σf)) : Call l G dm_Ks_lines y_Ks_lines m_Ks_lines [.inr (0, 0)] σ (kI fun y' σ' => y' = yf ∧ σ' = σf) := by
  unfold f_Ks_lines at h
  exact Call.of (by decide +kernel) rfl (Nat.le_of_ble_eq_true rfl) (e_Ks_lines_0 h)
/-! Ks_mode -/
def fb_Ks_mode_0   (σ : kS) : kRes := some (some (σ 5 0 6), σ)
theorem e_Ks_mode_0 {l : Launch} {G : kG} {yf : Int} {σf : kS}    {σ : kS} (h : fb_Ks_mode_0   σ = some (some yf, σf)) : Rn l G dm_Ks_mode m_Ks_mode (kI fun y' σ' => y' = yf ∧ σ' = σf) 0 [some (.inr (0, 0))] [] σ := by
  unfold fb_Ks_mode_0 at h
  simp only [Option.some.injEq, Prod.mk.injEq, true_and] at h
  exact s_Ks_mode_0  ⟨_, rfl, h⟩
def f_Ks_mode  (σ : kS) : kRes := fb_Ks_mode_0  σ
theorem E_Ks_mode {l : Launch} {G : kG} {yf : Int} {σf : kS}  {σ : kS} (h : f_Ks_mode  σ = some (some yf, σf)) : Call l G dm_Ks_mode y_Ks_mode m_Ks_mode [.inr (0, 0)] σ (kI fun y' σ' => y' = yf ∧ σ' = σf) := by
  unfold f_Ks_mode at h
  exact Call.of (by decide +kernel) rfl (Nat.le_of_ble_eq_true rfl) (e_Ks_mode_0 h)
/-! Wi_wipe -/
def fb_Wi_wipe_14  (x1 : Int) (σ : kS) : kRes := some (none, σ)
theorem e_Wi_wipe_14 {l : Launch} {G : kG} {σf : kS}  {x1 : Int}  {σ : kS} (h : fb_Wi_wipe_14  x1 σ = some (none, σf)) : Rn l G dm_Wi_wipe m_Wi_wipe (kU fun σ' => σ' = σf) 14 [some (.inr (4, 0)), some (.inl x1)] [] σ := by
  unfold fb_Wi_wipe_14 at h
  simp only [Option.some.injEq, Prod.mk.injEq, true_and] at h
  exact s_Wi_wipe_14  ⟨rfl, h⟩
def fb_Wi_wipe_0  (x1 : Int) (σ : kS) : kRes := kbu (f_Ar_fill2 32 0 (kup σ 4 0 2 x1)) fun σ1 => fb_Wi_wipe_14  x1 σ1
theorem e_Wi_wipe_0 {l : Launch} {G : kG} {σf : kS}  {x1 : Int}  {σ : kS} (h : fb_Wi_wipe_0  x1 σ = some (none, σf)) : Rn l G dm_Wi_wipe m_Wi_wipe (kU fun σ' => σ' = σf) 0 [some (.inr (4, 0)), some (.inl x1)] [] σ := by
  unfold fb_Wi_wipe_0 at h
  obtain ⟨σ1, hc, h⟩ := kbu_some h
  refine s_Wi_wipe_0  (by decide) (E_Ar_fill2 hc) (fun σ2 e2 => ?_)
  subst e2
  exact e_Wi_wipe_14  h
def f_Wi_wipe (x1 : Int) (σ : kS) : kRes := fb_Wi_wipe_0 x1 σ
theorem E_Wi_wipe {l : Launch} {G : kG} {σf : kS} {x1 : Int} {σ : kS} (h : f_Wi_wipe x1 σ = some (none, σf)) : Call l G dm_Wi_wipe y_Wi_wipe m_Wi_wipe [.inr (4, 0), .inl x1] σ (kU fun σ' => σ' = σf) := by
  unfold f_Wi_wipe at h
  exact Call.of (by decide +kernel) rfl (Nat.le_of_ble_eq_true rfl) (e_Wi_wipe_0 h)
/-! Ks_resize -/
def fb_Ks_resize_31  (x1 : Int) (σ : kS) : kRes := some (some 1, σ)
theorem e_Ks_resize_31 {l : Launch} {G : kG} {yf : Int} {σf : kS}  {x1 : Int}  {σ : kS} (h : fb_Ks_resize_31  x1 σ = some (some yf, σf)) : Rn l G dm_Ks_resize m_Ks_resize (kI fun y' σ' => y' = yf ∧ σ' = σf) 31 [some (.inr (0, 0)), some (.inl x1)] [] σ := by
  unfold fb_Ks_resize_31 at h
  simp only [Option.some.injEq, Prod.mk.injEq, true_and] at h
  exact s_Ks_resize_31  ⟨_, rfl, h⟩
def fb_Ks_resize_17  (x1 : Int) (σ : kS) : kRes := kbu (f_Wi_show  σ) fun σ1 => fb_Ks_resize_31  x1 σ1
theorem e_Ks_resize_17 {l : Launch} {G : kG} {yf : Int} {σf : kS}  {x1 : Int}  {σ : kS} (h : fb_Ks_resize_17  x1 σ = some (some yf, σf)) : Rn l G dm_Ks_resize m_Ks_resize (kI fun y' σ' => y' = yf ∧ σ' = σf) 17 [some (.inr (0, 0)), some (.inl x1)] [] σ := by
  unfold fb_Ks_resize_17 at h
  obtain ⟨σ1, hc, h⟩ := kbu_some h
  refine s_Ks_resize_17  (by decide) (E_Wi_show hc) (fun σ2 e2 => ?_)
  subst e2
  exact e_Ks_resize_31  h
def fb_Ks_resize_9  (x1 : Int) (σ : kS) : kRes := kbu (f_Wi_wipe x1 σ) fun σ1 => fb_Ks_resize_17  x1 σ1
theorem e_Ks_resize_9 {l : Launch} {G : kG} {yf : Int} {σf : kS}  {x1 : Int}  {σ : kS} (h : fb_Ks_resize_9  x1 σ = some (some yf, σf)) : Rn l G dm_Ks_resize m_Ks_resize (kI fun y' σ' => y' = yf ∧ σ' = σf) 9 [some (.inr (0, 0)), some (.inl x1)] [] σ := by
  unfold fb_Ks_resize_9 at h
  obtain ⟨σ1, hc, h⟩ := kbu_some h
  refine s_Ks_resize_9  (by decide) (E_Wi_wipe hc) (fun σ2 e2 => ?_)
  subst e2
  exact e_Ks_resize_17  h
def fb_Ks_resize_7  (x1 : Int) (σ : kS) : kRes := some (some 0, σ)
theorem e_Ks_resize_7 {l : Launch} {G : kG} {yf : Int} {σf : kS}  {x1 : Int}  {σ : kS} (h : fb_Ks_resize_7  x1 σ = some (some yf, σf)) : Rn l G dm_Ks_resize m_Ks_resize (kI fun y' σ' => y' = yf ∧ σ' = σf) 7 [some (.inr (0, 0)), some (.inl x1)] [] σ := by
  unfold fb_Ks_resize_7 at h
  simp only [Option.some.injEq, Prod.mk.injEq, true_and] at h
  exact s_Ks_resize_7  ⟨_, rfl, h⟩
def fb_Ks_resize_4  (x1 : Int) (s0 : Int) (σ : kS) : kRes := kg ((-2147483648 ≤ s0 ∧ s0 < 2147483648)) (if s0 = 0 then fb_Ks_resize_7  x1 σ else fb_Ks_resize_9  x1 σ)
theorem e_Ks_resize_4 {l : Launch} {G : kG} {yf : Int} {σf : kS}  {x1 : Int} {s0 : Int}  {σ : kS} (h : fb_Ks_resize_4  x1 s0 σ = some (some yf, σf)) : Rn l G dm_Ks_resize m_Ks_resize (kI fun y' σ' => y' = yf ∧ σ' = σf) 4 [some (.inr (0, 0)), some (.inl x1)] [.inl s0] σ := by
  unfold fb_Ks_resize_4 at h
  obtain ⟨h1, h⟩ := kg_some h
  refine s_Ks_resize_4 h1 (fun c => ?_) (fun c => ?_)
  · rw [if_neg c] at h
    exact e_Ks_resize_9  h
  · rw [if_pos c] at h
    exact e_Ks_resize_7  h
def fb_Ks_resize_0  (x1 : Int) (σ : kS) : kRes := kbi (f_Ks_isWidth x1 σ) fun y σ1 => fb_Ks_resize_4  x1 y σ1
theorem e_Ks_resize_0 {l : Launch} {G : kG} {yf : Int} {σf : kS}  {x1 : Int}  {σ : kS} (h : fb_Ks_resize_0  x1 σ = some (some yf, σf)) : Rn l G dm_Ks_resize m_Ks_resize (kI fun y' σ' => y' = yf ∧ σ' = σf) 0 [some (.inr (0, 0)), some (.inl x1)] [] σ := by
  unfold fb_Ks_resize_0 at h
  obtain ⟨y, σ1, hc, h⟩ := kbi_some h
  refine s_Ks_resize_0  (by decide) (E_Ks_isWidth hc) (fun y2 σ2 e2 => ?_)
  obtain ⟨rfl, rfl⟩ := e2
  exact e_Ks_resize_4  h
def f_Ks_resize (x1 : Int) (σ : kS) : kRes := fb_Ks_resize_0 x1 σ
theorem E_Ks_resize {l : Launch} {G : kG} {yf : Int} {σf : kS} {x1 : Int} {σ : kS} (h : f_Ks_resize x1 σ = some (some yf, σf)) : Call l G dm_Ks_resize y_Ks_resize m_Ks_resize [.inr (0, 0), .inl x1] σ (kI fun y' σ' => y' = yf ∧ σ' = σf) := by
  unfold f_Ks_resize at h
  exact Call.of (by decide +kernel) rfl (Nat.le_of_ble_eq_true rfl) (e_Ks_resize_0 h)
/-! Ks_sent -/
def fb_Ks_sent_0   (σ : kS) : kRes := some (some (σ 4 0 4), σ)
theorem e_Ks_sent_0 {l : Launch} {G : kG} {yf : Int} {σf : kS}    {σ : kS} (h : fb_Ks_sent_0   σ = some (some yf, σf)) : Rn l G dm_Ks_sent m_Ks_sent (kI fun y' σ' => y' = yf ∧ σ' = σf) 0 [some (.inr (0, 0))] [] σ := by
  unfold fb_Ks_sent_0 at h
  simp only [Option.some.injEq, Prod.mk.injEq, true_and] at h
  exact s_Ks_sent_0  ⟨_, rfl, h⟩
def f_Ks_sent  (σ : kS) : kRes := fb_Ks_sent_0  σ
theorem E_Ks_sent {l : Launch} {G : kG} {yf : Int} {σf : kS}  {σ : kS} (h : f_Ks_sent  σ = some (some yf, σf)) : Call l G dm_Ks_sent y_Ks_sent m_Ks_sent [.inr (0, 0)] σ (kI fun y' σ' => y' = yf ∧ σ' = σf) := by
  unfold f_Ks_sent at h
  exact Call.of (by decide +kernel) rfl (Nat.le_of_ble_eq_true rfl) (e_Ks_sent_0 h)
/-! Ks_stored -/
def fb_Ks_stored_12  (x1 : Int) (x2 : Int) (s0 : Int) (σ : kS) : kRes := some (some s0, σ)
theorem e_Ks_stored_12 {l : Launch} {G : kG} {yf : Int} {σf : kS}  {x1 : Int} {x2 : Int} {s0 : Int}  {σ : kS} (h : fb_Ks_stored_12  x1 x2 s0 σ = some (some yf, σf)) : Rn l G dm_Ks_stored m_Ks_stored (kI fun y' σ' => y' = yf ∧ σ' = σf) 12 [some (.inr (0, 0)), some (.inl x1), some (.inl x2)] [.inl s0] σ := by
  unfold fb_Ks_stored_12 at h
  simp only [Option.some.injEq, Prod.mk.injEq, true_and] at h
  exact s_Ks_stored_12  ⟨_, rfl, h⟩
def fb_Ks_stored_0  (x1 : Int) (x2 : Int) (σ : kS) : kRes := kbi (f_Te_codeAt x1 x2 4 σ) fun y σ1 => fb_Ks_stored_12  x1 x2 y σ1
theorem e_Ks_stored_0 {l : Launch} {G : kG} {yf : Int} {σf : kS}  {x1 : Int} {x2 : Int}  {σ : kS} (h : fb_Ks_stored_0  x1 x2 σ = some (some yf, σf)) : Rn l G dm_Ks_stored m_Ks_stored (kI fun y' σ' => y' = yf ∧ σ' = σf) 0 [some (.inr (0, 0)), some (.inl x1), some (.inl x2)] [] σ := by
  unfold fb_Ks_stored_0 at h
  obtain ⟨y, σ1, hc, h⟩ := kbi_some h
  refine s_Ks_stored_0  (by decide) (E_Te_codeAt hc) (fun y2 σ2 e2 => ?_)
  obtain ⟨rfl, rfl⟩ := e2
  exact e_Ks_stored_12  h
def f_Ks_stored (x1 : Int) (x2 : Int) (σ : kS) : kRes := fb_Ks_stored_0 x1 x2 σ
theorem E_Ks_stored {l : Launch} {G : kG} {yf : Int} {σf : kS} {x1 : Int} {x2 : Int} {σ : kS} (h : f_Ks_stored x1 x2 σ = some (some yf, σf)) : Call l G dm_Ks_stored y_Ks_stored m_Ks_stored [.inr (0, 0), .inl x1, .inl x2] σ (kI fun y' σ' => y' = yf ∧ σ' = σf) := by
  unfold f_Ks_stored at h
  exact Call.of (by decide +kernel) rfl (Nat.le_of_ble_eq_true rfl) (e_Ks_stored_0 h)
/-! Ks_sync -/
def fb_Ks_sync_7  (s0 : Int) (σ : kS) : kRes := some (some s0, σ)
theorem e_Ks_sync_7 {l : Launch} {G : kG} {yf : Int} {σf : kS}  {s0 : Int}  {σ : kS} (h : fb_Ks_sync_7  s0 σ = some (some yf, σf)) : Rn l G dm_Ks_sync m_Ks_sync (kI fun y' σ' => y' = yf ∧ σ' = σf) 7 [some (.inr (0, 0))] [.inl s0] σ := by
  unfold fb_Ks_sync_7 at h
  simp only [Option.some.injEq, Prod.mk.injEq, true_and] at h
  exact s_Ks_sync_7  ⟨_, rfl, h⟩
def fb_Ks_sync_0   (σ : kS) : kRes := kbi (f_Di_writeBlock  σ) fun y σ1 => fb_Ks_sync_7  y σ1
theorem e_Ks_sync_0 {l : Launch} {G : kG} {yf : Int} {σf : kS}    {σ : kS} (h : fb_Ks_sync_0   σ = some (some yf, σf)) : Rn l G dm_Ks_sync m_Ks_sync (kI fun y' σ' => y' = yf ∧ σ' = σf) 0 [some (.inr (0, 0))] [] σ := by
  unfold fb_Ks_sync_0 at h
  obtain ⟨y, σ1, hc, h⟩ := kbi_some h
  refine s_Ks_sync_0  (by decide) (E_Di_writeBlock hc) (fun y2 σ2 e2 => ?_)
  obtain ⟨rfl, rfl⟩ := e2
  exact e_Ks_sync_7  h
def f_Ks_sync  (σ : kS) : kRes := fb_Ks_sync_0  σ
theorem E_Ks_sync {l : Launch} {G : kG} {yf : Int} {σf : kS}  {σ : kS} (h : f_Ks_sync  σ = some (some yf, σf)) : Call l G dm_Ks_sync y_Ks_sync m_Ks_sync [.inr (0, 0)] σ (kI fun y' σ' => y' = yf ∧ σ' = σf) := by
  unfold f_Ks_sync at h
  exact Call.of (by decide +kernel) rfl (Nat.le_of_ble_eq_true rfl) (e_Ks_sync_0 h)
/-! Ks_top -/
def fb_Ks_top_0   (σ : kS) : kRes := some (some (σ 4 0 3), σ)
theorem e_Ks_top_0 {l : Launch} {G : kG} {yf : Int} {σf : kS}    {σ : kS} (h : fb_Ks_top_0   σ = some (some yf, σf)) : Rn l G dm_Ks_top m_Ks_top (kI fun y' σ' => y' = yf ∧ σ' = σf) 0 [some (.inr (0, 0))] [] σ := by
  unfold fb_Ks_top_0 at h
  simp only [Option.some.injEq, Prod.mk.injEq, true_and] at h
  exact s_Ks_top_0  ⟨_, rfl, h⟩
def f_Ks_top  (σ : kS) : kRes := fb_Ks_top_0  σ
theorem E_Ks_top {l : Launch} {G : kG} {yf : Int} {σf : kS}  {σ : kS} (h : f_Ks_top  σ = some (some yf, σf)) : Call l G dm_Ks_top y_Ks_top m_Ks_top [.inr (0, 0)] σ (kI fun y' σ' => y' = yf ∧ σ' = σf) := by
  unfold f_Ks_top at h
  exact Call.of (by decide +kernel) rfl (Nat.le_of_ble_eq_true rfl) (e_Ks_top_0 h)
/-! Rm_add -/
def fb_Rm_add_9  (x1 : Int) (x2 : Int) (σ : kS) : kRes := kg ((0 ≤ x1 ∧ x1 < (20 : Nat))) (some (some (x1 + 1), kup σ 33 0 (Int.toNat x1) x2))
theorem e_Rm_add_9 {l : Launch} {G : kG} {yf : Int} {σf : kS}  {x1 : Int} {x2 : Int}  {σ : kS} (h : fb_Rm_add_9  x1 x2 σ = some (some yf, σf)) : Rn l G dm_Rm_add m_Rm_add (kI fun y' σ' => y' = yf ∧ σ' = σf) 9 [some (.inr (9, 0)), some (.inl x1), some (.inl x2)] [] σ := by
  unfold fb_Rm_add_9 at h
  obtain ⟨h1, h⟩ := kg_some h
  simp only [Option.some.injEq, Prod.mk.injEq, true_and] at h
  exact s_Rm_add_9 h1 ⟨_, rfl, h⟩
def fb_Rm_add_6  (x1 : Int) (x2 : Int) (σ : kS) : kRes := some (some 21, σ)
theorem e_Rm_add_6 {l : Launch} {G : kG} {yf : Int} {σf : kS}  {x1 : Int} {x2 : Int}  {σ : kS} (h : fb_Rm_add_6  x1 x2 σ = some (some yf, σf)) : Rn l G dm_Rm_add m_Rm_add (kI fun y' σ' => y' = yf ∧ σ' = σf) 6 [some (.inr (9, 0)), some (.inl x1), some (.inl x2)] [] σ := by
  unfold fb_Rm_add_6 at h
  simp only [Option.some.injEq, Prod.mk.injEq, true_and] at h
  exact s_Rm_add_6  ⟨_, rfl, h⟩
def fb_Rm_add_0  (x1 : Int) (x2 : Int) (σ : kS) : kRes := kg ((-2147483648 ≤ x1 ∧ x1 < 2147483648)) (if x1 < 20 then fb_Rm_add_9  x1 x2 σ else fb_Rm_add_6  x1 x2 σ)
theorem e_Rm_add_0 {l : Launch} {G : kG} {yf : Int} {σf : kS}  {x1 : Int} {x2 : Int}  {σ : kS} (h : fb_Rm_add_0  x1 x2 σ = some (some yf, σf)) : Rn l G dm_Rm_add m_Rm_add (kI fun y' σ' => y' = yf ∧ σ' = σf) 0 [some (.inr (9, 0)), some (.inl x1), some (.inl x2)] [] σ := by
  unfold fb_Rm_add_0 at h
  obtain ⟨h1, h⟩ := kg_some h
  refine s_Rm_add_0 h1 (fun c => ?_) (fun c => ?_)
  · rw [if_pos c] at h
    exact e_Rm_add_9  h
  · rw [if_neg c] at h
    exact e_Rm_add_6  h
def f_Rm_add (x1 : Int) (x2 : Int) (σ : kS) : kRes := fb_Rm_add_0 x1 x2 σ
theorem E_Rm_add {l : Launch} {G : kG} {yf : Int} {σf : kS} {x1 : Int} {x2 : Int} {σ : kS} (h : f_Rm_add x1 x2 σ = some (some yf, σf)) : Call l G dm_Rm_add y_Rm_add m_Rm_add [.inr (9, 0), .inl x1, .inl x2] σ (kI fun y' σ' => y' = yf ∧ σ' = σf) := by
  unfold f_Rm_add at h
  exact Call.of (by decide +kernel) rfl (Nat.le_of_ble_eq_true rfl) (e_Rm_add_0 h)
/-! Rm_at -/
def fb_Rm_at_0  (x1 : Int) (x2 : Int) (σ : kS) : kRes := kg ((0 ≤ (20 * x1) + x2 ∧ (20 * x1) + x2 < (2000 : Nat))) (some (some (σ 20 0 (Int.toNat ((20 * x1) + x2))), σ))
theorem e_Rm_at_0 {l : Launch} {G : kG} {yf : Int} {σf : kS}  {x1 : Int} {x2 : Int}  {σ : kS} (h : fb_Rm_at_0  x1 x2 σ = some (some yf, σf)) : Rn l G dm_Rm_at m_Rm_at (kI fun y' σ' => y' = yf ∧ σ' = σf) 0 [some (.inr (9, 0)), some (.inl x1), some (.inl x2)] [] σ := by
  unfold fb_Rm_at_0 at h
  obtain ⟨h1, h⟩ := kg_some h
  simp only [Option.some.injEq, Prod.mk.injEq, true_and] at h
  exact s_Rm_at_0 h1 ⟨_, rfl, h⟩
def f_Rm_at (x1 : Int) (x2 : Int) (σ : kS) : kRes := fb_Rm_at_0 x1 x2 σ
theorem E_Rm_at {l : Launch} {G : kG} {yf : Int} {σf : kS} {x1 : Int} {x2 : Int} {σ : kS} (h : f_Rm_at x1 x2 σ = some (some yf, σf)) : Call l G dm_Rm_at y_Rm_at m_Rm_at [.inr (9, 0), .inl x1, .inl x2] σ (kI fun y' σ' => y' = yf ∧ σ' = σf) := by
  unfold f_Rm_at at h
  exact Call.of (by decide +kernel) rfl (Nat.le_of_ble_eq_true rfl) (e_Rm_at_0 h)
/-! Rm_seen -/
def fb_Rm_seen_18  (x1 : Int) (s0 : Int) (σ : kS) : kRes := some (some s0, σ)
theorem e_Rm_seen_18 {l : Launch} {G : kG} {yf : Int} {σf : kS}  {x1 : Int} {s0 : Int}  {σ : kS} (h : fb_Rm_seen_18  x1 s0 σ = some (some yf, σf)) : Rn l G dm_Rm_seen m_Rm_seen (kI fun y' σ' => y' = yf ∧ σ' = σf) 18 [some (.inr (9, 0)), some (.inl x1)] [.inl s0] σ := by
  unfold fb_Rm_seen_18 at h
  simp only [Option.some.injEq, Prod.mk.injEq, true_and] at h
  exact s_Rm_seen_18  ⟨_, rfl, h⟩
def fb_Rm_seen_17  (x1 : Int) (σ : kS) : kRes := fb_Rm_seen_18  x1 0 σ
theorem e_Rm_seen_17 {l : Launch} {G : kG} {yf : Int} {σf : kS}  {x1 : Int}  {σ : kS} (h : fb_Rm_seen_17  x1 σ = some (some yf, σf)) : Rn l G dm_Rm_seen m_Rm_seen (kI fun y' σ' => y' = yf ∧ σ' = σf) 17 [some (.inr (9, 0)), some (.inl x1)] [] σ := by
  unfold fb_Rm_seen_17 at h
  refine s_Rm_seen_17  ?_
  exact e_Rm_seen_18  h
def fb_Rm_seen_8  (x1 : Int) (σ : kS) : kRes := kg ((0 ≤ x1 ∧ x1 < (30 : Nat))) (fb_Rm_seen_18  x1 (σ 27 0 (Int.toNat x1)) σ)
theorem e_Rm_seen_8 {l : Launch} {G : kG} {yf : Int} {σf : kS}  {x1 : Int}  {σ : kS} (h : fb_Rm_seen_8  x1 σ = some (some yf, σf)) : Rn l G dm_Rm_seen m_Rm_seen (kI fun y' σ' => y' = yf ∧ σ' = σf) 8 [some (.inr (9, 0)), some (.inl x1)] [] σ := by
  unfold fb_Rm_seen_8 at h
  obtain ⟨h1, h⟩ := kg_some h
  refine s_Rm_seen_8 h1 ?_
  exact e_Rm_seen_18  h
def fb_Rm_seen_0  (x1 : Int) (σ : kS) : kRes := kg ((-2147483648 ≤ x1 ∧ x1 < 2147483648) ∧ (-2147483648 ≤ σ 9 0 20 ∧ σ 9 0 20 < 2147483648)) (if (σ 9 0 20) ≤ x1 then fb_Rm_seen_17  x1 σ else fb_Rm_seen_8  x1 σ)
theorem e_Rm_seen_0 {l : Launch} {G : kG} {yf : Int} {σf : kS}  {x1 : Int}  {σ : kS} (h : fb_Rm_seen_0  x1 σ = some (some yf, σf)) : Rn l G dm_Rm_seen m_Rm_seen (kI fun y' σ' => y' = yf ∧ σ' = σf) 0 [some (.inr (9, 0)), some (.inl x1)] [] σ := by
  unfold fb_Rm_seen_0 at h
  obtain ⟨⟨h1, h2⟩, h⟩ := kg_some h
  refine s_Rm_seen_0 h1 h2 (fun c => ?_) (fun c => ?_)
  · rw [if_pos c] at h
    exact e_Rm_seen_17  h
  · rw [if_neg c] at h
    exact e_Rm_seen_8  h
def f_Rm_seen (x1 : Int) (σ : kS) : kRes := fb_Rm_seen_0 x1 σ
theorem E_Rm_seen {l : Launch} {G : kG} {yf : Int} {σf : kS} {x1 : Int} {σ : kS} (h : f_Rm_seen x1 σ = some (some yf, σf)) : Call l G dm_Rm_seen y_Rm_seen m_Rm_seen [.inr (9, 0), .inl x1] σ (kI fun y' σ' => y' = yf ∧ σ' = σf) := by
  unfold f_Rm_seen at h
  exact Call.of (by decide +kernel) rfl (Nat.le_of_ble_eq_true rfl) (e_Rm_seen_0 h)
/-! Rm_takes -/
def fb_Rm_takes_213  (x1 : Int) (x2 : Int) (x3 : Int) (x4 : Int) (x5 : Int) (x6 : Int) (x7 : Int) (s0 : Int) (σ : kS) : kRes := kg ((s0 = 0 ∨ s0 = 1)) (some (some s0, σ))
theorem e_Rm_takes_213 {l : Launch} {G : kG} {yf : Int} {σf : kS}  {x1 : Int} {x2 : Int} {x3 : Int} {x4 : Int} {x5 : Int} {x6 : Int} {x7 : Int} {s0 : Int} {o8 : Option kV} {σ : kS} (h : fb_Rm_takes_213  x1 x2 x3 x4 x5 x6 x7 s0 σ = some (some yf, σf)) : Rn l G dm_Rm_takes m_Rm_takes (kI fun y' σ' => y' = yf ∧ σ' = σf) 213 [some (.inr (9, 0)), some (.inl x1), some (.inl x2), some (.inl x3), some (.inl x4), some (.inl x5), some (.inl x6), some (.inl x7), o8] [.inl s0] σ := by
  unfold fb_Rm_takes_213 at h
  obtain ⟨h1, h⟩ := kg_some h
  simp only [Option.some.injEq, Prod.mk.injEq, true_and] at h
  exact s_Rm_takes_213 h1 ⟨_, rfl, h⟩
def fb_Rm_takes_212  (x1 : Int) (x2 : Int) (x3 : Int) (x4 : Int) (x5 : Int) (x6 : Int) (x7 : Int) (σ : kS) : kRes := fb_Rm_takes_213  x1 x2 x3 x4 x5 x6 x7 0 σ
theorem e_Rm_takes_212 {l : Launch} {G : kG} {yf : Int} {σf : kS}  {x1 : Int} {x2 : Int} {x3 : Int} {x4 : Int} {x5 : Int} {x6 : Int} {x7 : Int} {o8 : Option kV} {σ : kS} (h : fb_Rm_takes_212  x1 x2 x3 x4 x5 x6 x7 σ = some (some yf, σf)) : Rn l G dm_Rm_takes m_Rm_takes (kI fun y' σ' => y' = yf ∧ σ' = σf) 212 [some (.inr (9, 0)), some (.inl x1), some (.inl x2), some (.inl x3), some (.inl x4), some (.inl x5), some (.inl x6), some (.inl x7), o8] [] σ := by
  unfold fb_Rm_takes_212 at h
  refine s_Rm_takes_212  ?_
  exact e_Rm_takes_213  h
def fb_Rm_takes_208  (x1 : Int) (x2 : Int) (x3 : Int) (x4 : Int) (x5 : Int) (x6 : Int) (x7 : Int) (σ : kS) : kRes := fb_Rm_takes_213  x1 x2 x3 x4 x5 x6 x7 1 σ
theorem e_Rm_takes_208 {l : Launch} {G : kG} {yf : Int} {σf : kS}  {x1 : Int} {x2 : Int} {x3 : Int} {x4 : Int} {x5 : Int} {x6 : Int} {x7 : Int} {o8 : Option kV} {σ : kS} (h : fb_Rm_takes_208  x1 x2 x3 x4 x5 x6 x7 σ = some (some yf, σf)) : Rn l G dm_Rm_takes m_Rm_takes (kI fun y' σ' => y' = yf ∧ σ' = σf) 208 [some (.inr (9, 0)), some (.inl x1), some (.inl x2), some (.inl x3), some (.inl x4), some (.inl x5), some (.inl x6), some (.inl x7), o8] [] σ := by
  unfold fb_Rm_takes_208 at h
  refine s_Rm_takes_208  ?_
  exact e_Rm_takes_213  h
def fb_Rm_takes_201  (x1 : Int) (x2 : Int) (x3 : Int) (x4 : Int) (x5 : Int) (x6 : Int) (x7 : Int) (σ : kS) : kRes := kg ((-2147483648 ≤ x7 ∧ x7 < 2147483648) ∧ (-2147483648 ≤ x5 ∧ x5 < 2147483648)) (if x7 = x5 then fb_Rm_takes_212  x1 x2 x3 x4 x5 x6 x7 σ else fb_Rm_takes_208  x1 x2 x3 x4 x5 x6 x7 σ)
theorem e_Rm_takes_201 {l : Launch} {G : kG} {yf : Int} {σf : kS}  {x1 : Int} {x2 : Int} {x3 : Int} {x4 : Int} {x5 : Int} {x6 : Int} {x7 : Int} {o8 : Option kV} {σ : kS} (h : fb_Rm_takes_201  x1 x2 x3 x4 x5 x6 x7 σ = some (some yf, σf)) : Rn l G dm_Rm_takes m_Rm_takes (kI fun y' σ' => y' = yf ∧ σ' = σf) 201 [some (.inr (9, 0)), some (.inl x1), some (.inl x2), some (.inl x3), some (.inl x4), some (.inl x5), some (.inl x6), some (.inl x7), o8] [] σ := by
  unfold fb_Rm_takes_201 at h
  obtain ⟨⟨h1, h2⟩, h⟩ := kg_some h
  refine s_Rm_takes_201 h1 h2 (fun c => ?_) (fun c => ?_)
  · rw [if_pos c] at h
    exact e_Rm_takes_212  h
  · rw [if_neg c] at h
    exact e_Rm_takes_208  h
def fb_Rm_takes_196 (k92 : Int → Int → Int → Int → Int → Int → Int → kS → kRes) (x1 : Int) (x2 : Int) (x3 : Int) (x4 : Int) (x5 : Int) (x6 : Int) (x7 : Int) (x8 : Int) (s0 : Int) (σ : kS) : kRes := k92 x1 x2 x3 x4 x5 s0 x7 σ
theorem e_Rm_takes_196 {l : Launch} {G : kG} {yf : Int} {σf : kS} {k92 : Int → Int → Int → Int → Int → Int → Int → kS → kRes} (hk92 : ∀ (x1 : Int) (x2 : Int) (x3 : Int) (x4 : Int) (x5 : Int) (x6 : Int) (x7 : Int) (o8 : Option kV) (σ : kS), k92 x1 x2 x3 x4 x5 x6 x7 σ = some (some yf, σf) → Rn l G dm_Rm_takes m_Rm_takes (kI fun y' σ' => y' = yf ∧ σ' = σf) 92 [some (.inr (9, 0)), some (.inl x1), some (.inl x2), some (.inl x3), some (.inl x4), some (.inl x5), some (.inl x6), some (.inl x7), o8] [] σ) {x1 : Int} {x2 : Int} {x3 : Int} {x4 : Int} {x5 : Int} {x6 : Int} {x7 : Int} {x8 : Int} {s0 : Int}  {σ : kS} (h : fb_Rm_takes_196 k92 x1 x2 x3 x4 x5 x6 x7 x8 s0 σ = some (some yf, σf)) : Rn l G dm_Rm_takes m_Rm_takes (kI fun y' σ' => y' = yf ∧ σ' = σf) 196 [some (.inr (9, 0)), some (.inl x1), some (.inl x2), some (.inl x3), some (.inl x4), some (.inl x5), some (.inl x6), some (.inl x7), some (.inl x8)] [.inl s0] σ := by
  unfold fb_Rm_takes_196 at h
  refine s_Rm_takes_196  ?_
  exact hk92 _ _ _ _ _ _ _ _ _ h
def fb_Rm_takes_192 (k92 : Int → Int → Int → Int → Int → Int → Int → kS → kRes) (x1 : Int) (x2 : Int) (x3 : Int) (x4 : Int) (x5 : Int) (x6 : Int) (x7 : Int) (x8 : Int) (σ : kS) : kRes := fb_Rm_takes_196 k92 x1 x2 x3 x4 x5 x6 x7 x8 (x6 + 1) σ
theorem e_Rm_takes_192 {l : Launch} {G : kG} {yf : Int} {σf : kS} {k92 : Int → Int → Int → Int → Int → Int → Int → kS → kRes} (hk92 : ∀ (x1 : Int) (x2 : Int) (x3 : Int) (x4 : Int) (x5 : Int) (x6 : Int) (x7 : Int) (o8 : Option kV) (σ : kS), k92 x1 x2 x3 x4 x5 x6 x7 σ = some (some yf, σf) → Rn l G dm_Rm_takes m_Rm_takes (kI fun y' σ' => y' = yf ∧ σ' = σf) 92 [some (.inr (9, 0)), some (.inl x1), some (.inl x2), some (.inl x3), some (.inl x4), some (.inl x5), some (.inl x6), some (.inl x7), o8] [] σ) {x1 : Int} {x2 : Int} {x3 : Int} {x4 : Int} {x5 : Int} {x6 : Int} {x7 : Int} {x8 : Int}  {σ : kS} (h : fb_Rm_takes_192 k92 x1 x2 x3 x4 x5 x6 x7 x8 σ = some (some yf, σf)) : Rn l G dm_Rm_takes m_Rm_takes (kI fun y' σ' => y' = yf ∧ σ' = σf) 192 [some (.inr (9, 0)), some (.inl x1), some (.inl x2), some (.inl x3), some (.inl x4), some (.inl x5), some (.inl x6), some (.inl x7), some (.inl x8)] [] σ := by
  unfold fb_Rm_takes_192 at h
  refine s_Rm_takes_192  ?_
  exact e_Rm_takes_196 hk92 h
def fb_Rm_takes_185 (k92 : Int → Int → Int → Int → Int → Int → Int → kS → kRes) (x1 : Int) (x2 : Int) (x3 : Int) (x4 : Int) (x5 : Int) (x6 : Int) (x7 : Int) (x8 : Int) (σ : kS) : kRes := fb_Rm_takes_196 k92 x1 x2 x3 x4 x5 x6 x7 x8 (x6 + 3) σ
theorem e_Rm_takes_185 {l : Launch} {G : kG} {yf : Int} {σf : kS} {k92 : Int → Int → Int → Int → Int → Int → Int → kS → kRes} (hk92 : ∀ (x1 : Int) (x2 : Int) (x3 : Int) (x4 : Int) (x5 : Int) (x6 : Int) (x7 : Int) (o8 : Option kV) (σ : kS), k92 x1 x2 x3 x4 x5 x6 x7 σ = some (some yf, σf) → Rn l G dm_Rm_takes m_Rm_takes (kI fun y' σ' => y' = yf ∧ σ' = σf) 92 [some (.inr (9, 0)), some (.inl x1), some (.inl x2), some (.inl x3), some (.inl x4), some (.inl x5), some (.inl x6), some (.inl x7), o8] [] σ) {x1 : Int} {x2 : Int} {x3 : Int} {x4 : Int} {x5 : Int} {x6 : Int} {x7 : Int} {x8 : Int}  {σ : kS} (h : fb_Rm_takes_185 k92 x1 x2 x3 x4 x5 x6 x7 x8 σ = some (some yf, σf)) : Rn l G dm_Rm_takes m_Rm_takes (kI fun y' σ' => y' = yf ∧ σ' = σf) 185 [some (.inr (9, 0)), some (.inl x1), some (.inl x2), some (.inl x3), some (.inl x4), some (.inl x5), some (.inl x6), some (.inl x7), some (.inl x8)] [] σ := by
  unfold fb_Rm_takes_185 at h
  refine s_Rm_takes_185  ?_
  exact e_Rm_takes_196 hk92 h
def fb_Rm_takes_178 (k92 : Int → Int → Int → Int → Int → Int → Int → kS → kRes) (x1 : Int) (x2 : Int) (x3 : Int) (x4 : Int) (x5 : Int) (x6 : Int) (x7 : Int) (x8 : Int) (s0 : Int) (σ : kS) : kRes := kg ((-2147483648 ≤ x8 ∧ x8 < 2147483648)) (if x8 = 0 then fb_Rm_takes_192 k92 x1 x2 x3 x4 x5 x6 s0 x8 σ else fb_Rm_takes_185 k92 x1 x2 x3 x4 x5 x6 s0 x8 σ)
theorem e_Rm_takes_178 {l : Launch} {G : kG} {yf : Int} {σf : kS} {k92 : Int → Int → Int → Int → Int → Int → Int → kS → kRes} (hk92 : ∀ (x1 : Int) (x2 : Int) (x3 : Int) (x4 : Int) (x5 : Int) (x6 : Int) (x7 : Int) (o8 : Option kV) (σ : kS), k92 x1 x2 x3 x4 x5 x6 x7 σ = some (some yf, σf) → Rn l G dm_Rm_takes m_Rm_takes (kI fun y' σ' => y' = yf ∧ σ' = σf) 92 [some (.inr (9, 0)), some (.inl x1), some (.inl x2), some (.inl x3), some (.inl x4), some (.inl x5), some (.inl x6), some (.inl x7), o8] [] σ) {x1 : Int} {x2 : Int} {x3 : Int} {x4 : Int} {x5 : Int} {x6 : Int} {x7 : Int} {x8 : Int} {s0 : Int}  {σ : kS} (h : fb_Rm_takes_178 k92 x1 x2 x3 x4 x5 x6 x7 x8 s0 σ = some (some yf, σf)) : Rn l G dm_Rm_takes m_Rm_takes (kI fun y' σ' => y' = yf ∧ σ' = σf) 178 [some (.inr (9, 0)), some (.inl x1), some (.inl x2), some (.inl x3), some (.inl x4), some (.inl x5), some (.inl x6), some (.inl x7), some (.inl x8)] [.inl s0] σ := by
  unfold fb_Rm_takes_178 at h
  obtain ⟨h1, h⟩ := kg_some h
  refine s_Rm_takes_178 h1 (fun c => ?_) (fun c => ?_)
  · rw [if_pos c] at h
    exact e_Rm_takes_192 hk92 h
  · rw [if_neg c] at h
    exact e_Rm_takes_185 hk92 h
def fb_Rm_takes_177 (k92 : Int → Int → Int → Int → Int → Int → Int → kS → kRes) (x1 : Int) (x2 : Int) (x3 : Int) (x4 : Int) (x5 : Int) (x6 : Int) (x7 : Int) (x8 : Int) (σ : kS) : kRes := fb_Rm_takes_178 k92 x1 x2 x3 x4 x5 x6 x7 x8 0 σ
theorem e_Rm_takes_177 {l : Launch} {G : kG} {yf : Int} {σf : kS} {k92 : Int → Int → Int → Int → Int → Int → Int → kS → kRes} (hk92 : ∀ (x1 : Int) (x2 : Int) (x3 : Int) (x4 : Int) (x5 : Int) (x6 : Int) (x7 : Int) (o8 : Option kV) (σ : kS), k92 x1 x2 x3 x4 x5 x6 x7 σ = some (some yf, σf) → Rn l G dm_Rm_takes m_Rm_takes (kI fun y' σ' => y' = yf ∧ σ' = σf) 92 [some (.inr (9, 0)), some (.inl x1), some (.inl x2), some (.inl x3), some (.inl x4), some (.inl x5), some (.inl x6), some (.inl x7), o8] [] σ) {x1 : Int} {x2 : Int} {x3 : Int} {x4 : Int} {x5 : Int} {x6 : Int} {x7 : Int} {x8 : Int}  {σ : kS} (h : fb_Rm_takes_177 k92 x1 x2 x3 x4 x5 x6 x7 x8 σ = some (some yf, σf)) : Rn l G dm_Rm_takes m_Rm_takes (kI fun y' σ' => y' = yf ∧ σ' = σf) 177 [some (.inr (9, 0)), some (.inl x1), some (.inl x2), some (.inl x3), some (.inl x4), some (.inl x5), some (.inl x6), some (.inl x7), some (.inl x8)] [] σ := by
  unfold fb_Rm_takes_177 at h
  refine s_Rm_takes_177  ?_
  exact e_Rm_takes_178 hk92 h
def fb_Rm_takes_173 (k92 : Int → Int → Int → Int → Int → Int → Int → kS → kRes) (x1 : Int) (x2 : Int) (x3 : Int) (x4 : Int) (x5 : Int) (x6 : Int) (x7 : Int) (x8 : Int) (σ : kS) : kRes := fb_Rm_takes_178 k92 x1 x2 x3 x4 x5 x6 x7 x8 1 σ
theorem e_Rm_takes_173 {l : Launch} {G : kG} {yf : Int} {σf : kS} {k92 : Int → Int → Int → Int → Int → Int → Int → kS → kRes} (hk92 : ∀ (x1 : Int) (x2 : Int) (x3 : Int) (x4 : Int) (x5 : Int) (x6 : Int) (x7 : Int) (o8 : Option kV) (σ : kS), k92 x1 x2 x3 x4 x5 x6 x7 σ = some (some yf, σf) → Rn l G dm_Rm_takes m_Rm_takes (kI fun y' σ' => y' = yf ∧ σ' = σf) 92 [some (.inr (9, 0)), some (.inl x1), some (.inl x2), some (.inl x3), some (.inl x4), some (.inl x5), some (.inl x6), some (.inl x7), o8] [] σ) {x1 : Int} {x2 : Int} {x3 : Int} {x4 : Int} {x5 : Int} {x6 : Int} {x7 : Int} {x8 : Int}  {σ : kS} (h : fb_Rm_takes_173 k92 x1 x2 x3 x4 x5 x6 x7 x8 σ = some (some yf, σf)) : Rn l G dm_Rm_takes m_Rm_takes (kI fun y' σ' => y' = yf ∧ σ' = σf) 173 [some (.inr (9, 0)), some (.inl x1), some (.inl x2), some (.inl x3), some (.inl x4), some (.inl x5), some (.inl x6), some (.inl x7), some (.inl x8)] [] σ := by
  unfold fb_Rm_takes_173 at h
  refine s_Rm_takes_173  ?_
  exact e_Rm_takes_178 hk92 h
def fb_Rm_takes_170 (k92 : Int → Int → Int → Int → Int → Int → Int → kS → kRes) (x1 : Int) (x2 : Int) (x3 : Int) (x4 : Int) (x5 : Int) (x6 : Int) (x7 : Int) (x8 : Int) (s0 : Int) (s1 : Int) (σ : kS) : kRes := kg ((-2147483648 ≤ s1 ∧ s1 < 2147483648) ∧ (-2147483648 ≤ s0 ∧ s0 < 2147483648)) (if s1 = s0 then fb_Rm_takes_173 k92 x1 x2 x3 x4 x5 x6 x7 x8 σ else fb_Rm_takes_177 k92 x1 x2 x3 x4 x5 x6 x7 x8 σ)
theorem e_Rm_takes_170 {l : Launch} {G : kG} {yf : Int} {σf : kS} {k92 : Int → Int → Int → Int → Int → Int → Int → kS → kRes} (hk92 : ∀ (x1 : Int) (x2 : Int) (x3 : Int) (x4 : Int) (x5 : Int) (x6 : Int) (x7 : Int) (o8 : Option kV) (σ : kS), k92 x1 x2 x3 x4 x5 x6 x7 σ = some (some yf, σf) → Rn l G dm_Rm_takes m_Rm_takes (kI fun y' σ' => y' = yf ∧ σ' = σf) 92 [some (.inr (9, 0)), some (.inl x1), some (.inl x2), some (.inl x3), some (.inl x4), some (.inl x5), some (.inl x6), some (.inl x7), o8] [] σ) {x1 : Int} {x2 : Int} {x3 : Int} {x4 : Int} {x5 : Int} {x6 : Int} {x7 : Int} {x8 : Int} {s0 : Int} {s1 : Int}  {σ : kS} (h : fb_Rm_takes_170 k92 x1 x2 x3 x4 x5 x6 x7 x8 s0 s1 σ = some (some yf, σf)) : Rn l G dm_Rm_takes m_Rm_takes (kI fun y' σ' => y' = yf ∧ σ' = σf) 170 [some (.inr (9, 0)), some (.inl x1), some (.inl x2), some (.inl x3), some (.inl x4), some (.inl x5), some (.inl x6), some (.inl x7), some (.inl x8)] [.inl s0, .inl s1] σ := by
  unfold fb_Rm_takes_170 at h
  obtain ⟨⟨h1, h2⟩, h⟩ := kg_some h
  refine s_Rm_takes_170 h1 h2 (fun c => ?_) (fun c => ?_)
  · rw [if_neg c] at h
    exact e_Rm_takes_177 hk92 h
  · rw [if_pos c] at h
    exact e_Rm_takes_173 hk92 h
def fb_Rm_takes_163 (k92 : Int → Int → Int → Int → Int → Int → Int → kS → kRes) (x1 : Int) (x2 : Int) (x3 : Int) (x4 : Int) (x5 : Int) (x6 : Int) (x7 : Int) (x8 : Int) (σ : kS) : kRes := kbi (f_Rm_seen x6 σ) fun y σ1 => fb_Rm_takes_170 k92 x1 x2 x3 x4 x5 x6 x7 x8 y x2 σ1
theorem e_Rm_takes_163 {l : Launch} {G : kG} {yf : Int} {σf : kS} {k92 : Int → Int → Int → Int → Int → Int → Int → kS → kRes} (hk92 : ∀ (x1 : Int) (x2 : Int) (x3 : Int) (x4 : Int) (x5 : Int) (x6 : Int) (x7 : Int) (o8 : Option kV) (σ : kS), k92 x1 x2 x3 x4 x5 x6 x7 σ = some (some yf, σf) → Rn l G dm_Rm_takes m_Rm_takes (kI fun y' σ' => y' = yf ∧ σ' = σf) 92 [some (.inr (9, 0)), some (.inl x1), some (.inl x2), some (.inl x3), some (.inl x4), some (.inl x5), some (.inl x6), some (.inl x7), o8] [] σ) {x1 : Int} {x2 : Int} {x3 : Int} {x4 : Int} {x5 : Int} {x6 : Int} {x7 : Int} {x8 : Int}  {σ : kS} (h : fb_Rm_takes_163 k92 x1 x2 x3 x4 x5 x6 x7 x8 σ = some (some yf, σf)) : Rn l G dm_Rm_takes m_Rm_takes (kI fun y' σ' => y' = yf ∧ σ' = σf) 163 [some (.inr (9, 0)), some (.inl x1), some (.inl x2), some (.inl x3), some (.inl x4), some (.inl x5), some (.inl x6), some (.inl x7), some (.inl x8)] [] σ := by
  unfold fb_Rm_takes_163 at h
  obtain ⟨y, σ1, hc, h⟩ := kbi_some h
  refine s_Rm_takes_163  (by decide) (E_Rm_seen hc) (fun y2 σ2 e2 => ?_)
  obtain ⟨rfl, rfl⟩ := e2
  exact e_Rm_takes_170 hk92 h
def fb_Rm_takes_160 (k92 : Int → Int → Int → Int → Int → Int → Int → kS → kRes) (x1 : Int) (x2 : Int) (x3 : Int) (x4 : Int) (x5 : Int) (x6 : Int) (x7 : Int) (x8 : Int) (σ : kS) : kRes := fb_Rm_takes_173 k92 x1 x2 x3 x4 x5 x6 x7 x8 σ
theorem e_Rm_takes_160 {l : Launch} {G : kG} {yf : Int} {σf : kS} {k92 : Int → Int → Int → Int → Int → Int → Int → kS → kRes} (hk92 : ∀ (x1 : Int) (x2 : Int) (x3 : Int) (x4 : Int) (x5 : Int) (x6 : Int) (x7 : Int) (o8 : Option kV) (σ : kS), k92 x1 x2 x3 x4 x5 x6 x7 σ = some (some yf, σf) → Rn l G dm_Rm_takes m_Rm_takes (kI fun y' σ' => y' = yf ∧ σ' = σf) 92 [some (.inr (9, 0)), some (.inl x1), some (.inl x2), some (.inl x3), some (.inl x4), some (.inl x5), some (.inl x6), some (.inl x7), o8] [] σ) {x1 : Int} {x2 : Int} {x3 : Int} {x4 : Int} {x5 : Int} {x6 : Int} {x7 : Int} {x8 : Int}  {σ : kS} (h : fb_Rm_takes_160 k92 x1 x2 x3 x4 x5 x6 x7 x8 σ = some (some yf, σf)) : Rn l G dm_Rm_takes m_Rm_takes (kI fun y' σ' => y' = yf ∧ σ' = σf) 160 [some (.inr (9, 0)), some (.inl x1), some (.inl x2), some (.inl x3), some (.inl x4), some (.inl x5), some (.inl x6), some (.inl x7), some (.inl x8)] [] σ := by
  unfold fb_Rm_takes_160 at h
  refine s_Rm_takes_160  ?_
  exact e_Rm_takes_173 hk92 h
def fb_Rm_takes_157 (k92 : Int → Int → Int → Int → Int → Int → Int → kS → kRes) (x1 : Int) (x2 : Int) (x3 : Int) (x4 : Int) (x5 : Int) (x6 : Int) (x7 : Int) (x8 : Int) (s0 : Int) (s1 : Int) (σ : kS) : kRes := kg ((-2147483648 ≤ s1 ∧ s1 < 2147483648) ∧ (-2147483648 ≤ s0 ∧ s0 < 2147483648)) (if s0 < s1 then fb_Rm_takes_177 k92 x1 x2 x3 x4 x5 x6 x7 x8 σ else fb_Rm_takes_160 k92 x1 x2 x3 x4 x5 x6 x7 x8 σ)
theorem e_Rm_takes_157 {l : Launch} {G : kG} {yf : Int} {σf : kS} {k92 : Int → Int → Int → Int → Int → Int → Int → kS → kRes} (hk92 : ∀ (x1 : Int) (x2 : Int) (x3 : Int) (x4 : Int) (x5 : Int) (x6 : Int) (x7 : Int) (o8 : Option kV) (σ : kS), k92 x1 x2 x3 x4 x5 x6 x7 σ = some (some yf, σf) → Rn l G dm_Rm_takes m_Rm_takes (kI fun y' σ' => y' = yf ∧ σ' = σf) 92 [some (.inr (9, 0)), some (.inl x1), some (.inl x2), some (.inl x3), some (.inl x4), some (.inl x5), some (.inl x6), some (.inl x7), o8] [] σ) {x1 : Int} {x2 : Int} {x3 : Int} {x4 : Int} {x5 : Int} {x6 : Int} {x7 : Int} {x8 : Int} {s0 : Int} {s1 : Int}  {σ : kS} (h : fb_Rm_takes_157 k92 x1 x2 x3 x4 x5 x6 x7 x8 s0 s1 σ = some (some yf, σf)) : Rn l G dm_Rm_takes m_Rm_takes (kI fun y' σ' => y' = yf ∧ σ' = σf) 157 [some (.inr (9, 0)), some (.inl x1), some (.inl x2), some (.inl x3), some (.inl x4), some (.inl x5), some (.inl x6), some (.inl x7), some (.inl x8)] [.inl s0, .inl s1] σ := by
  unfold fb_Rm_takes_157 at h
  obtain ⟨⟨h1, h2⟩, h⟩ := kg_some h
  refine s_Rm_takes_157 h1 h2 (fun c => ?_) (fun c => ?_)
  · rw [if_pos c] at h
    exact e_Rm_takes_177 hk92 h
  · rw [if_neg c] at h
    exact e_Rm_takes_160 hk92 h
def fb_Rm_takes_148 (k92 : Int → Int → Int → Int → Int → Int → Int → kS → kRes) (x1 : Int) (x2 : Int) (x3 : Int) (x4 : Int) (x5 : Int) (x6 : Int) (x7 : Int) (x8 : Int) (σ : kS) : kRes := kbi (f_Rm_seen (x6 + 2) σ) fun y σ1 => fb_Rm_takes_157 k92 x1 x2 x3 x4 x5 x6 x7 x8 y x2 σ1
theorem e_Rm_takes_148 {l : Launch} {G : kG} {yf : Int} {σf : kS} {k92 : Int → Int → Int → Int → Int → Int → Int → kS → kRes} (hk92 : ∀ (x1 : Int) (x2 : Int) (x3 : Int) (x4 : Int) (x5 : Int) (x6 : Int) (x7 : Int) (o8 : Option kV) (σ : kS), k92 x1 x2 x3 x4 x5 x6 x7 σ = some (some yf, σf) → Rn l G dm_Rm_takes m_Rm_takes (kI fun y' σ' => y' = yf ∧ σ' = σf) 92 [some (.inr (9, 0)), some (.inl x1), some (.inl x2), some (.inl x3), some (.inl x4), some (.inl x5), some (.inl x6), some (.inl x7), o8] [] σ) {x1 : Int} {x2 : Int} {x3 : Int} {x4 : Int} {x5 : Int} {x6 : Int} {x7 : Int} {x8 : Int}  {σ : kS} (h : fb_Rm_takes_148 k92 x1 x2 x3 x4 x5 x6 x7 x8 σ = some (some yf, σf)) : Rn l G dm_Rm_takes m_Rm_takes (kI fun y' σ' => y' = yf ∧ σ' = σf) 148 [some (.inr (9, 0)), some (.inl x1), some (.inl x2), some (.inl x3), some (.inl x4), some (.inl x5), some (.inl x6), some (.inl x7), some (.inl x8)] [] σ := by
  unfold fb_Rm_takes_148 at h
  obtain ⟨y, σ1, hc, h⟩ := kbi_some h
  refine s_Rm_takes_148  (by decide) (E_Rm_seen hc) (fun y2 σ2 e2 => ?_)
  obtain ⟨rfl, rfl⟩ := e2
  exact e_Rm_takes_157 hk92 h
def fb_Rm_takes_145 (k92 : Int → Int → Int → Int → Int → Int → Int → kS → kRes) (x1 : Int) (x2 : Int) (x3 : Int) (x4 : Int) (x5 : Int) (x6 : Int) (x7 : Int) (x8 : Int) (s0 : Int) (s1 : Int) (σ : kS) : kRes := kg ((-2147483648 ≤ s1 ∧ s1 < 2147483648) ∧ (-2147483648 ≤ s0 ∧ s0 < 2147483648)) (if s1 < s0 then fb_Rm_takes_177 k92 x1 x2 x3 x4 x5 x6 x7 x8 σ else fb_Rm_takes_148 k92 x1 x2 x3 x4 x5 x6 x7 x8 σ)
theorem e_Rm_takes_145 {l : Launch} {G : kG} {yf : Int} {σf : kS} {k92 : Int → Int → Int → Int → Int → Int → Int → kS → kRes} (hk92 : ∀ (x1 : Int) (x2 : Int) (x3 : Int) (x4 : Int) (x5 : Int) (x6 : Int) (x7 : Int) (o8 : Option kV) (σ : kS), k92 x1 x2 x3 x4 x5 x6 x7 σ = some (some yf, σf) → Rn l G dm_Rm_takes m_Rm_takes (kI fun y' σ' => y' = yf ∧ σ' = σf) 92 [some (.inr (9, 0)), some (.inl x1), some (.inl x2), some (.inl x3), some (.inl x4), some (.inl x5), some (.inl x6), some (.inl x7), o8] [] σ) {x1 : Int} {x2 : Int} {x3 : Int} {x4 : Int} {x5 : Int} {x6 : Int} {x7 : Int} {x8 : Int} {s0 : Int} {s1 : Int}  {σ : kS} (h : fb_Rm_takes_145 k92 x1 x2 x3 x4 x5 x6 x7 x8 s0 s1 σ = some (some yf, σf)) : Rn l G dm_Rm_takes m_Rm_takes (kI fun y' σ' => y' = yf ∧ σ' = σf) 145 [some (.inr (9, 0)), some (.inl x1), some (.inl x2), some (.inl x3), some (.inl x4), some (.inl x5), some (.inl x6), some (.inl x7), some (.inl x8)] [.inl s0, .inl s1] σ := by
  unfold fb_Rm_takes_145 at h
  obtain ⟨⟨h1, h2⟩, h⟩ := kg_some h
  refine s_Rm_takes_145 h1 h2 (fun c => ?_) (fun c => ?_)
  · rw [if_pos c] at h
    exact e_Rm_takes_177 hk92 h
  · rw [if_neg c] at h
    exact e_Rm_takes_148 hk92 h
def fb_Rm_takes_138 (k92 : Int → Int → Int → Int → Int → Int → Int → kS → kRes) (x1 : Int) (x2 : Int) (x3 : Int) (x4 : Int) (x5 : Int) (x6 : Int) (x7 : Int) (x8 : Int) (σ : kS) : kRes := kbi (f_Rm_seen x6 σ) fun y σ1 => fb_Rm_takes_145 k92 x1 x2 x3 x4 x5 x6 x7 x8 y x2 σ1
theorem e_Rm_takes_138 {l : Launch} {G : kG} {yf : Int} {σf : kS} {k92 : Int → Int → Int → Int → Int → Int → Int → kS → kRes} (hk92 : ∀ (x1 : Int) (x2 : Int) (x3 : Int) (x4 : Int) (x5 : Int) (x6 : Int) (x7 : Int) (o8 : Option kV) (σ : kS), k92 x1 x2 x3 x4 x5 x6 x7 σ = some (some yf, σf) → Rn l G dm_Rm_takes m_Rm_takes (kI fun y' σ' => y' = yf ∧ σ' = σf) 92 [some (.inr (9, 0)), some (.inl x1), some (.inl x2), some (.inl x3), some (.inl x4), some (.inl x5), some (.inl x6), some (.inl x7), o8] [] σ) {x1 : Int} {x2 : Int} {x3 : Int} {x4 : Int} {x5 : Int} {x6 : Int} {x7 : Int} {x8 : Int}  {σ : kS} (h : fb_Rm_takes_138 k92 x1 x2 x3 x4 x5 x6 x7 x8 σ = some (some yf, σf)) : Rn l G dm_Rm_takes m_Rm_takes (kI fun y' σ' => y' = yf ∧ σ' = σf) 138 [some (.inr (9, 0)), some (.inl x1), some (.inl x2), some (.inl x3), some (.inl x4), some (.inl x5), some (.inl x6), some (.inl x7), some (.inl x8)] [] σ := by
  unfold fb_Rm_takes_138 at h
  obtain ⟨y, σ1, hc, h⟩ := kbi_some h
  refine s_Rm_takes_138  (by decide) (E_Rm_seen hc) (fun y2 σ2 e2 => ?_)
  obtain ⟨rfl, rfl⟩ := e2
  exact e_Rm_takes_145 hk92 h
def fb_Rm_takes_133 (k92 : Int → Int → Int → Int → Int → Int → Int → kS → kRes) (x1 : Int) (x2 : Int) (x3 : Int) (x4 : Int) (x5 : Int) (x6 : Int) (x7 : Int) (x8 : Int) (σ : kS) : kRes := kg ((-2147483648 ≤ x8 ∧ x8 < 2147483648)) (if x8 = 0 then fb_Rm_takes_163 k92 x1 x2 x3 x4 x5 x6 x7 x8 σ else fb_Rm_takes_138 k92 x1 x2 x3 x4 x5 x6 x7 x8 σ)
theorem e_Rm_takes_133 {l : Launch} {G : kG} {yf : Int} {σf : kS} {k92 : Int → Int → Int → Int → Int → Int → Int → kS → kRes} (hk92 : ∀ (x1 : Int) (x2 : Int) (x3 : Int) (x4 : Int) (x5 : Int) (x6 : Int) (x7 : Int) (o8 : Option kV) (σ : kS), k92 x1 x2 x3 x4 x5 x6 x7 σ = some (some yf, σf) → Rn l G dm_Rm_takes m_Rm_takes (kI fun y' σ' => y' = yf ∧ σ' = σf) 92 [some (.inr (9, 0)), some (.inl x1), some (.inl x2), some (.inl x3), some (.inl x4), some (.inl x5), some (.inl x6), some (.inl x7), o8] [] σ) {x1 : Int} {x2 : Int} {x3 : Int} {x4 : Int} {x5 : Int} {x6 : Int} {x7 : Int} {x8 : Int}  {σ : kS} (h : fb_Rm_takes_133 k92 x1 x2 x3 x4 x5 x6 x7 x8 σ = some (some yf, σf)) : Rn l G dm_Rm_takes m_Rm_takes (kI fun y' σ' => y' = yf ∧ σ' = σf) 133 [some (.inr (9, 0)), some (.inl x1), some (.inl x2), some (.inl x3), some (.inl x4), some (.inl x5), some (.inl x6), some (.inl x7), some (.inl x8)] [] σ := by
  unfold fb_Rm_takes_133 at h
  obtain ⟨h1, h⟩ := kg_some h
  refine s_Rm_takes_133 h1 (fun c => ?_) (fun c => ?_)
  · rw [if_pos c] at h
    exact e_Rm_takes_163 hk92 h
  · rw [if_neg c] at h
    exact e_Rm_takes_138 hk92 h
def fb_Rm_takes_126 (k92 : Int → Int → Int → Int → Int → Int → Int → kS → kRes) (x1 : Int) (x2 : Int) (x3 : Int) (x4 : Int) (x5 : Int) (x6 : Int) (x7 : Int) (s0 : Int) (σ : kS) : kRes := kg ((-2147483648 ≤ x7 ∧ x7 < 2147483648)) (if x7 = 0 then fb_Rm_takes_133 k92 x1 x2 x3 x4 x5 x6 x7 s0 σ else fb_Rm_takes_173 k92 x1 x2 x3 x4 x5 x6 x7 s0 σ)
theorem e_Rm_takes_126 {l : Launch} {G : kG} {yf : Int} {σf : kS} {k92 : Int → Int → Int → Int → Int → Int → Int → kS → kRes} (hk92 : ∀ (x1 : Int) (x2 : Int) (x3 : Int) (x4 : Int) (x5 : Int) (x6 : Int) (x7 : Int) (o8 : Option kV) (σ : kS), k92 x1 x2 x3 x4 x5 x6 x7 σ = some (some yf, σf) → Rn l G dm_Rm_takes m_Rm_takes (kI fun y' σ' => y' = yf ∧ σ' = σf) 92 [some (.inr (9, 0)), some (.inl x1), some (.inl x2), some (.inl x3), some (.inl x4), some (.inl x5), some (.inl x6), some (.inl x7), o8] [] σ) {x1 : Int} {x2 : Int} {x3 : Int} {x4 : Int} {x5 : Int} {x6 : Int} {x7 : Int} {s0 : Int} {o8 : Option kV} {σ : kS} (h : fb_Rm_takes_126 k92 x1 x2 x3 x4 x5 x6 x7 s0 σ = some (some yf, σf)) : Rn l G dm_Rm_takes m_Rm_takes (kI fun y' σ' => y' = yf ∧ σ' = σf) 126 [some (.inr (9, 0)), some (.inl x1), some (.inl x2), some (.inl x3), some (.inl x4), some (.inl x5), some (.inl x6), some (.inl x7), o8] [.inl s0] σ := by
  unfold fb_Rm_takes_126 at h
  obtain ⟨h1, h⟩ := kg_some h
  refine s_Rm_takes_126 h1 (fun c => ?_) (fun c => ?_)
  · rw [if_neg c] at h
    exact e_Rm_takes_173 hk92 h
  · rw [if_pos c] at h
    exact e_Rm_takes_133 hk92 h
def fb_Rm_takes_125 (k92 : Int → Int → Int → Int → Int → Int → Int → kS → kRes) (x1 : Int) (x2 : Int) (x3 : Int) (x4 : Int) (x5 : Int) (x6 : Int) (x7 : Int) (σ : kS) : kRes := fb_Rm_takes_126 k92 x1 x2 x3 x4 x5 x6 x7 0 σ
theorem e_Rm_takes_125 {l : Launch} {G : kG} {yf : Int} {σf : kS} {k92 : Int → Int → Int → Int → Int → Int → Int → kS → kRes} (hk92 : ∀ (x1 : Int) (x2 : Int) (x3 : Int) (x4 : Int) (x5 : Int) (x6 : Int) (x7 : Int) (o8 : Option kV) (σ : kS), k92 x1 x2 x3 x4 x5 x6 x7 σ = some (some yf, σf) → Rn l G dm_Rm_takes m_Rm_takes (kI fun y' σ' => y' = yf ∧ σ' = σf) 92 [some (.inr (9, 0)), some (.inl x1), some (.inl x2), some (.inl x3), some (.inl x4), some (.inl x5), some (.inl x6), some (.inl x7), o8] [] σ) {x1 : Int} {x2 : Int} {x3 : Int} {x4 : Int} {x5 : Int} {x6 : Int} {x7 : Int} {o8 : Option kV} {σ : kS} (h : fb_Rm_takes_125 k92 x1 x2 x3 x4 x5 x6 x7 σ = some (some yf, σf)) : Rn l G dm_Rm_takes m_Rm_takes (kI fun y' σ' => y' = yf ∧ σ' = σf) 125 [some (.inr (9, 0)), some (.inl x1), some (.inl x2), some (.inl x3), some (.inl x4), some (.inl x5), some (.inl x6), some (.inl x7), o8] [] σ := by
  unfold fb_Rm_takes_125 at h
  refine s_Rm_takes_125  ?_
  exact e_Rm_takes_126 hk92 h
def fb_Rm_takes_121 (k92 : Int → Int → Int → Int → Int → Int → Int → kS → kRes) (x1 : Int) (x2 : Int) (x3 : Int) (x4 : Int) (x5 : Int) (x6 : Int) (x7 : Int) (σ : kS) : kRes := fb_Rm_takes_126 k92 x1 x2 x3 x4 x5 x6 x7 1 σ
theorem e_Rm_takes_121 {l : Launch} {G : kG} {yf : Int} {σf : kS} {k92 : Int → Int → Int → Int → Int → Int → Int → kS → kRes} (hk92 : ∀ (x1 : Int) (x2 : Int) (x3 : Int) (x4 : Int) (x5 : Int) (x6 : Int) (x7 : Int) (o8 : Option kV) (σ : kS), k92 x1 x2 x3 x4 x5 x6 x7 σ = some (some yf, σf) → Rn l G dm_Rm_takes m_Rm_takes (kI fun y' σ' => y' = yf ∧ σ' = σf) 92 [some (.inr (9, 0)), some (.inl x1), some (.inl x2), some (.inl x3), some (.inl x4), some (.inl x5), some (.inl x6), some (.inl x7), o8] [] σ) {x1 : Int} {x2 : Int} {x3 : Int} {x4 : Int} {x5 : Int} {x6 : Int} {x7 : Int} {o8 : Option kV} {σ : kS} (h : fb_Rm_takes_121 k92 x1 x2 x3 x4 x5 x6 x7 σ = some (some yf, σf)) : Rn l G dm_Rm_takes m_Rm_takes (kI fun y' σ' => y' = yf ∧ σ' = σf) 121 [some (.inr (9, 0)), some (.inl x1), some (.inl x2), some (.inl x3), some (.inl x4), some (.inl x5), some (.inl x6), some (.inl x7), o8] [] σ := by
  unfold fb_Rm_takes_121 at h
  refine s_Rm_takes_121  ?_
  exact e_Rm_takes_126 hk92 h
def fb_Rm_takes_116 (k92 : Int → Int → Int → Int → Int → Int → Int → kS → kRes) (x1 : Int) (x2 : Int) (x3 : Int) (x4 : Int) (x5 : Int) (x6 : Int) (x7 : Int) (s0 : Int) (σ : kS) : kRes := kg ((-2147483648 ≤ s0 ∧ s0 < 2147483648)) (if s0 = 45 then fb_Rm_takes_121 k92 x1 x2 x3 x4 x5 x6 x7 σ else fb_Rm_takes_125 k92 x1 x2 x3 x4 x5 x6 x7 σ)
theorem e_Rm_takes_116 {l : Launch} {G : kG} {yf : Int} {σf : kS} {k92 : Int → Int → Int → Int → Int → Int → Int → kS → kRes} (hk92 : ∀ (x1 : Int) (x2 : Int) (x3 : Int) (x4 : Int) (x5 : Int) (x6 : Int) (x7 : Int) (o8 : Option kV) (σ : kS), k92 x1 x2 x3 x4 x5 x6 x7 σ = some (some yf, σf) → Rn l G dm_Rm_takes m_Rm_takes (kI fun y' σ' => y' = yf ∧ σ' = σf) 92 [some (.inr (9, 0)), some (.inl x1), some (.inl x2), some (.inl x3), some (.inl x4), some (.inl x5), some (.inl x6), some (.inl x7), o8] [] σ) {x1 : Int} {x2 : Int} {x3 : Int} {x4 : Int} {x5 : Int} {x6 : Int} {x7 : Int} {s0 : Int} {o8 : Option kV} {σ : kS} (h : fb_Rm_takes_116 k92 x1 x2 x3 x4 x5 x6 x7 s0 σ = some (some yf, σf)) : Rn l G dm_Rm_takes m_Rm_takes (kI fun y' σ' => y' = yf ∧ σ' = σf) 116 [some (.inr (9, 0)), some (.inl x1), some (.inl x2), some (.inl x3), some (.inl x4), some (.inl x5), some (.inl x6), some (.inl x7), o8] [.inl s0] σ := by
  unfold fb_Rm_takes_116 at h
  obtain ⟨h1, h⟩ := kg_some h
  refine s_Rm_takes_116 h1 (fun c => ?_) (fun c => ?_)
  · rw [if_neg c] at h
    exact e_Rm_takes_125 hk92 h
  · rw [if_pos c] at h
    exact e_Rm_takes_121 hk92 h
def fb_Rm_takes_108 (k92 : Int → Int → Int → Int → Int → Int → Int → kS → kRes) (x1 : Int) (x2 : Int) (x3 : Int) (x4 : Int) (x5 : Int) (x6 : Int) (x7 : Int) (σ : kS) : kRes := kbi (f_Rm_seen (x6 + 1) σ) fun y σ1 => fb_Rm_takes_116 k92 x1 x2 x3 x4 x5 x6 x7 y σ1
theorem e_Rm_takes_108 {l : Launch} {G : kG} {yf : Int} {σf : kS} {k92 : Int → Int → Int → Int → Int → Int → Int → kS → kRes} (hk92 : ∀ (x1 : Int) (x2 : Int) (x3 : Int) (x4 : Int) (x5 : Int) (x6 : Int) (x7 : Int) (o8 : Option kV) (σ : kS), k92 x1 x2 x3 x4 x5 x6 x7 σ = some (some yf, σf) → Rn l G dm_Rm_takes m_Rm_takes (kI fun y' σ' => y' = yf ∧ σ' = σf) 92 [some (.inr (9, 0)), some (.inl x1), some (.inl x2), some (.inl x3), some (.inl x4), some (.inl x5), some (.inl x6), some (.inl x7), o8] [] σ) {x1 : Int} {x2 : Int} {x3 : Int} {x4 : Int} {x5 : Int} {x6 : Int} {x7 : Int} {o8 : Option kV} {σ : kS} (h : fb_Rm_takes_108 k92 x1 x2 x3 x4 x5 x6 x7 σ = some (some yf, σf)) : Rn l G dm_Rm_takes m_Rm_takes (kI fun y' σ' => y' = yf ∧ σ' = σf) 108 [some (.inr (9, 0)), some (.inl x1), some (.inl x2), some (.inl x3), some (.inl x4), some (.inl x5), some (.inl x6), some (.inl x7), o8] [] σ := by
  unfold fb_Rm_takes_108 at h
  obtain ⟨y, σ1, hc, h⟩ := kbi_some h
  refine s_Rm_takes_108  (by decide) (E_Rm_seen hc) (fun y2 σ2 e2 => ?_)
  obtain ⟨rfl, rfl⟩ := e2
  exact e_Rm_takes_116 hk92 h
def fb_Rm_takes_99 (k92 : Int → Int → Int → Int → Int → Int → Int → kS → kRes) (x1 : Int) (x2 : Int) (x3 : Int) (x4 : Int) (x5 : Int) (x6 : Int) (x7 : Int) (σ : kS) : kRes := kg ((-2147483648 ≤ x6 + 2 ∧ x6 + 2 < 2147483648) ∧ (-2147483648 ≤ x4 ∧ x4 < 2147483648)) (if x4 ≤ (x6 + 2) then fb_Rm_takes_125 k92 x1 x2 x3 x4 x5 x6 x7 σ else fb_Rm_takes_108 k92 x1 x2 x3 x4 x5 x6 x7 σ)
theorem e_Rm_takes_99 {l : Launch} {G : kG} {yf : Int} {σf : kS} {k92 : Int → Int → Int → Int → Int → Int → Int → kS → kRes} (hk92 : ∀ (x1 : Int) (x2 : Int) (x3 : Int) (x4 : Int) (x5 : Int) (x6 : Int) (x7 : Int) (o8 : Option kV) (σ : kS), k92 x1 x2 x3 x4 x5 x6 x7 σ = some (some yf, σf) → Rn l G dm_Rm_takes m_Rm_takes (kI fun y' σ' => y' = yf ∧ σ' = σf) 92 [some (.inr (9, 0)), some (.inl x1), some (.inl x2), some (.inl x3), some (.inl x4), some (.inl x5), some (.inl x6), some (.inl x7), o8] [] σ) {x1 : Int} {x2 : Int} {x3 : Int} {x4 : Int} {x5 : Int} {x6 : Int} {x7 : Int} {o8 : Option kV} {σ : kS} (h : fb_Rm_takes_99 k92 x1 x2 x3 x4 x5 x6 x7 σ = some (some yf, σf)) : Rn l G dm_Rm_takes m_Rm_takes (kI fun y' σ' => y' = yf ∧ σ' = σf) 99 [some (.inr (9, 0)), some (.inl x1), some (.inl x2), some (.inl x3), some (.inl x4), some (.inl x5), some (.inl x6), some (.inl x7), o8] [] σ := by
  unfold fb_Rm_takes_99 at h
  obtain ⟨⟨h1, h2⟩, h⟩ := kg_some h
  refine s_Rm_takes_99 h1 h2 (fun c => ?_) (fun c => ?_)
  · rw [if_pos c] at h
    exact e_Rm_takes_125 hk92 h
  · rw [if_neg c] at h
    exact e_Rm_takes_108 hk92 h
def fb_Rm_takes_92 (k92 : Int → Int → Int → Int → Int → Int → Int → kS → kRes) (x1 : Int) (x2 : Int) (x3 : Int) (x4 : Int) (x5 : Int) (x6 : Int) (x7 : Int) (σ : kS) : kRes := kg ((-2147483648 ≤ x6 ∧ x6 < 2147483648) ∧ (-2147483648 ≤ x4 ∧ x4 < 2147483648)) (if x4 ≤ x6 then fb_Rm_takes_201  x1 x2 x3 x4 x5 x6 x7 σ else fb_Rm_takes_99 k92 x1 x2 x3 x4 x5 x6 x7 σ)
theorem e_Rm_takes_92 {l : Launch} {G : kG} {yf : Int} {σf : kS} {k92 : Int → Int → Int → Int → Int → Int → Int → kS → kRes} (hk92 : ∀ (x1 : Int) (x2 : Int) (x3 : Int) (x4 : Int) (x5 : Int) (x6 : Int) (x7 : Int) (o8 : Option kV) (σ : kS), k92 x1 x2 x3 x4 x5 x6 x7 σ = some (some yf, σf) → Rn l G dm_Rm_takes m_Rm_takes (kI fun y' σ' => y' = yf ∧ σ' = σf) 92 [some (.inr (9, 0)), some (.inl x1), some (.inl x2), some (.inl x3), some (.inl x4), some (.inl x5), some (.inl x6), some (.inl x7), o8] [] σ) {x1 : Int} {x2 : Int} {x3 : Int} {x4 : Int} {x5 : Int} {x6 : Int} {x7 : Int} {o8 : Option kV} {σ : kS} (h : fb_Rm_takes_92 k92 x1 x2 x3 x4 x5 x6 x7 σ = some (some yf, σf)) : Rn l G dm_Rm_takes m_Rm_takes (kI fun y' σ' => y' = yf ∧ σ' = σf) 92 [some (.inr (9, 0)), some (.inl x1), some (.inl x2), some (.inl x3), some (.inl x4), some (.inl x5), some (.inl x6), some (.inl x7), o8] [] σ := by
  unfold fb_Rm_takes_92 at h
  obtain ⟨⟨h1, h2⟩, h⟩ := kg_some h
  refine s_Rm_takes_92 h1 h2 (fun c => ?_) (fun c => ?_)
  · rw [if_pos c] at h
    exact e_Rm_takes_201  h
  · rw [if_neg c] at h
    exact e_Rm_takes_99 hk92 h
def fl_Rm_takes_92  : Nat → Int → Int → Int → Int → Int → Int → Int → kS → kRes
  | 0, _, _, _, _, _, _, _, _ => none
  | n + 1, x1, x2, x3, x4, x5, x6, x7, σ => fb_Rm_takes_92 (fl_Rm_takes_92  n) x1 x2 x3 x4 x5 x6 x7 σ
theorem el_Rm_takes_92 {l : Launch} {G : kG} {yf : Int} {σf : kS}  : ∀ (n : Nat) (x1 : Int) (x2 : Int) (x3 : Int) (x4 : Int) (x5 : Int) (x6 : Int) (x7 : Int) (o8 : Option kV) (σ : kS), fl_Rm_takes_92  n x1 x2 x3 x4 x5 x6 x7 σ = some (some yf, σf) → Rn l G dm_Rm_takes m_Rm_takes (kI fun y' σ' => y' = yf ∧ σ' = σf) 92 [some (.inr (9, 0)), some (.inl x1), some (.inl x2), some (.inl x3), some (.inl x4), some (.inl x5), some (.inl x6), some (.inl x7), o8] [] σ := by
  intro n
  induction n with
  | zero => intro x1 x2 x3 x4 x5 x6 x7 o8 σ h; simp only [fl_Rm_takes_92] at h; cases h
  | succ n ih => intro x1 x2 x3 x4 x5 x6 x7 o8 σ h; simp only [fl_Rm_takes_92] at h; exact e_Rm_takes_92 ih h
def fb_Rm_takes_87  (x1 : Int) (x2 : Int) (x3 : Int) (x4 : Int) (x5 : Int) (s0 : Int) (σ : kS) : kRes := fl_Rm_takes_92  3000 x1 x2 x3 x4 x5 s0 0 σ
theorem e_Rm_takes_87 {l : Launch} {G : kG} {yf : Int} {σf : kS}  {x1 : Int} {x2 : Int} {x3 : Int} {x4 : Int} {x5 : Int} {s0 : Int} {o6 : Option kV} {o7 : Option kV} {o8 : Option kV} {σ : kS} (h : fb_Rm_takes_87  x1 x2 x3 x4 x5 s0 σ = some (some yf, σf)) : Rn l G dm_Rm_takes m_Rm_takes (kI fun y' σ' => y' = yf ∧ σ' = σf) 87 [some (.inr (9, 0)), some (.inl x1), some (.inl x2), some (.inl x3), some (.inl x4), some (.inl x5), o6, o7, o8] [.inl s0] σ := by
  unfold fb_Rm_takes_87 at h
  refine s_Rm_takes_87  ?_
  exact el_Rm_takes_92  _ _ _ _ _ _ _ _ _ _ h
def fb_Rm_takes_86  (x1 : Int) (x2 : Int) (x3 : Int) (x4 : Int) (x5 : Int) (σ : kS) : kRes := fb_Rm_takes_87  x1 x2 x3 x4 x5 x3 σ
theorem e_Rm_takes_86 {l : Launch} {G : kG} {yf : Int} {σf : kS}  {x1 : Int} {x2 : Int} {x3 : Int} {x4 : Int} {x5 : Int} {o6 : Option kV} {o7 : Option kV} {o8 : Option kV} {σ : kS} (h : fb_Rm_takes_86  x1 x2 x3 x4 x5 σ = some (some yf, σf)) : Rn l G dm_Rm_takes m_Rm_takes (kI fun y' σ' => y' = yf ∧ σ' = σf) 86 [some (.inr (9, 0)), some (.inl x1), some (.inl x2), some (.inl x3), some (.inl x4), some (.inl x5), o6, o7, o8] [] σ := by
  unfold fb_Rm_takes_86 at h
  refine s_Rm_takes_86  ?_
  exact e_Rm_takes_87  h
def fb_Rm_takes_80  (x1 : Int) (x2 : Int) (x3 : Int) (x4 : Int) (x5 : Int) (σ : kS) : kRes := fb_Rm_takes_87  x1 x2 x3 x4 x5 (x3 + 1) σ
theorem e_Rm_takes_80 {l : Launch} {G : kG} {yf : Int} {σf : kS}  {x1 : Int} {x2 : Int} {x3 : Int} {x4 : Int} {x5 : Int} {o6 : Option kV} {o7 : Option kV} {o8 : Option kV} {σ : kS} (h : fb_Rm_takes_80  x1 x2 x3 x4 x5 σ = some (some yf, σf)) : Rn l G dm_Rm_takes m_Rm_takes (kI fun y' σ' => y' = yf ∧ σ' = σf) 80 [some (.inr (9, 0)), some (.inl x1), some (.inl x2), some (.inl x3), some (.inl x4), some (.inl x5), o6, o7, o8] [] σ := by
  unfold fb_Rm_takes_80 at h
  refine s_Rm_takes_80  ?_
  exact e_Rm_takes_87  h
def fb_Rm_takes_73  (x1 : Int) (x2 : Int) (x3 : Int) (x4 : Int) (s0 : Int) (σ : kS) : kRes := kg ((-2147483648 ≤ s0 ∧ s0 < 2147483648)) (if s0 = 0 then fb_Rm_takes_86  x1 x2 x3 x4 s0 σ else fb_Rm_takes_80  x1 x2 x3 x4 s0 σ)
theorem e_Rm_takes_73 {l : Launch} {G : kG} {yf : Int} {σf : kS}  {x1 : Int} {x2 : Int} {x3 : Int} {x4 : Int} {s0 : Int} {o5 : Option kV} {o6 : Option kV} {o7 : Option kV} {o8 : Option kV} {σ : kS} (h : fb_Rm_takes_73  x1 x2 x3 x4 s0 σ = some (some yf, σf)) : Rn l G dm_Rm_takes m_Rm_takes (kI fun y' σ' => y' = yf ∧ σ' = σf) 73 [some (.inr (9, 0)), some (.inl x1), some (.inl x2), some (.inl x3), some (.inl x4), o5, o6, o7, o8] [.inl s0] σ := by
  unfold fb_Rm_takes_73 at h
  obtain ⟨h1, h⟩ := kg_some h
  refine s_Rm_takes_73 h1 (fun c => ?_) (fun c => ?_)
  · rw [if_pos c] at h
    exact e_Rm_takes_86  h
  · rw [if_neg c] at h
    exact e_Rm_takes_80  h
def fb_Rm_takes_72  (x1 : Int) (x2 : Int) (x3 : Int) (x4 : Int) (σ : kS) : kRes := fb_Rm_takes_73  x1 x2 x3 x4 0 σ
theorem e_Rm_takes_72 {l : Launch} {G : kG} {yf : Int} {σf : kS}  {x1 : Int} {x2 : Int} {x3 : Int} {x4 : Int} {o5 : Option kV} {o6 : Option kV} {o7 : Option kV} {o8 : Option kV} {σ : kS} (h : fb_Rm_takes_72  x1 x2 x3 x4 σ = some (some yf, σf)) : Rn l G dm_Rm_takes m_Rm_takes (kI fun y' σ' => y' = yf ∧ σ' = σf) 72 [some (.inr (9, 0)), some (.inl x1), some (.inl x2), some (.inl x3), some (.inl x4), o5, o6, o7, o8] [] σ := by
  unfold fb_Rm_takes_72 at h
  refine s_Rm_takes_72  ?_
  exact e_Rm_takes_73  h
def fb_Rm_takes_68  (x1 : Int) (x2 : Int) (x3 : Int) (x4 : Int) (σ : kS) : kRes := fb_Rm_takes_73  x1 x2 x3 x4 1 σ
theorem e_Rm_takes_68 {l : Launch} {G : kG} {yf : Int} {σf : kS}  {x1 : Int} {x2 : Int} {x3 : Int} {x4 : Int} {o5 : Option kV} {o6 : Option kV} {o7 : Option kV} {o8 : Option kV} {σ : kS} (h : fb_Rm_takes_68  x1 x2 x3 x4 σ = some (some yf, σf)) : Rn l G dm_Rm_takes m_Rm_takes (kI fun y' σ' => y' = yf ∧ σ' = σf) 68 [some (.inr (9, 0)), some (.inl x1), some (.inl x2), some (.inl x3), some (.inl x4), o5, o6, o7, o8] [] σ := by
  unfold fb_Rm_takes_68 at h
  refine s_Rm_takes_68  ?_
  exact e_Rm_takes_73  h
def fb_Rm_takes_60  (x1 : Int) (x2 : Int) (x3 : Int) (x4 : Int) (σ : kS) : kRes := kg ((-2147483648 ≤ x4 - x3 ∧ x4 - x3 < 2147483648)) (if (x4 - x3) ≤ 1 then fb_Rm_takes_72  x1 x2 x3 x4 σ else fb_Rm_takes_68  x1 x2 x3 x4 σ)
theorem e_Rm_takes_60 {l : Launch} {G : kG} {yf : Int} {σf : kS}  {x1 : Int} {x2 : Int} {x3 : Int} {x4 : Int} {o5 : Option kV} {o6 : Option kV} {o7 : Option kV} {o8 : Option kV} {σ : kS} (h : fb_Rm_takes_60  x1 x2 x3 x4 σ = some (some yf, σf)) : Rn l G dm_Rm_takes m_Rm_takes (kI fun y' σ' => y' = yf ∧ σ' = σf) 60 [some (.inr (9, 0)), some (.inl x1), some (.inl x2), some (.inl x3), some (.inl x4), o5, o6, o7, o8] [] σ := by
  unfold fb_Rm_takes_60 at h
  obtain ⟨h1, h⟩ := kg_some h
  refine s_Rm_takes_60 h1 (fun c => ?_) (fun c => ?_)
  · rw [if_pos c] at h
    exact e_Rm_takes_72  h
  · rw [if_neg c] at h
    exact e_Rm_takes_68  h
def fb_Rm_takes_55  (x1 : Int) (x2 : Int) (x3 : Int) (x4 : Int) (s0 : Int) (σ : kS) : kRes := kg ((-2147483648 ≤ s0 ∧ s0 < 2147483648)) (if s0 = 94 then fb_Rm_takes_60  x1 x2 x3 x4 σ else fb_Rm_takes_72  x1 x2 x3 x4 σ)
theorem e_Rm_takes_55 {l : Launch} {G : kG} {yf : Int} {σf : kS}  {x1 : Int} {x2 : Int} {x3 : Int} {x4 : Int} {s0 : Int} {o5 : Option kV} {o6 : Option kV} {o7 : Option kV} {o8 : Option kV} {σ : kS} (h : fb_Rm_takes_55  x1 x2 x3 x4 s0 σ = some (some yf, σf)) : Rn l G dm_Rm_takes m_Rm_takes (kI fun y' σ' => y' = yf ∧ σ' = σf) 55 [some (.inr (9, 0)), some (.inl x1), some (.inl x2), some (.inl x3), some (.inl x4), o5, o6, o7, o8] [.inl s0] σ := by
  unfold fb_Rm_takes_55 at h
  obtain ⟨h1, h⟩ := kg_some h
  refine s_Rm_takes_55 h1 (fun c => ?_) (fun c => ?_)
  · rw [if_neg c] at h
    exact e_Rm_takes_72  h
  · rw [if_pos c] at h
    exact e_Rm_takes_60  h
def fb_Rm_takes_35  (x1 : Int) (x2 : Int) (σ : kS) : kRes := kg ((0 ≤ x1 ∧ x1 < (8 : Nat))) (kbi (f_Rm_seen (σ 29 0 (Int.toNat x1)) σ) fun y σ1 => fb_Rm_takes_55  x1 x2 (σ 29 0 (Int.toNat x1)) (σ 30 0 (Int.toNat x1)) y σ1)
theorem e_Rm_takes_35 {l : Launch} {G : kG} {yf : Int} {σf : kS}  {x1 : Int} {x2 : Int} {o3 : Option kV} {o4 : Option kV} {o5 : Option kV} {o6 : Option kV} {o7 : Option kV} {o8 : Option kV} {σ : kS} (h : fb_Rm_takes_35  x1 x2 σ = some (some yf, σf)) : Rn l G dm_Rm_takes m_Rm_takes (kI fun y' σ' => y' = yf ∧ σ' = σf) 35 [some (.inr (9, 0)), some (.inl x1), some (.inl x2), o3, o4, o5, o6, o7, o8] [] σ := by
  unfold fb_Rm_takes_35 at h
  obtain ⟨h1, h⟩ := kg_some h
  obtain ⟨y, σ1, hc, h⟩ := kbi_some h
  refine s_Rm_takes_35 h1 (by decide) (E_Rm_seen hc) (fun y2 σ2 e2 => ?_)
  obtain ⟨rfl, rfl⟩ := e2
  exact e_Rm_takes_55  h
def fb_Rm_takes_34  (x1 : Int) (x2 : Int) (s0 : Int) (σ : kS) : kRes := kg ((s0 = 0 ∨ s0 = 1)) (some (some s0, σ))
theorem e_Rm_takes_34 {l : Launch} {G : kG} {yf : Int} {σf : kS}  {x1 : Int} {x2 : Int} {s0 : Int} {o3 : Option kV} {o4 : Option kV} {o5 : Option kV} {o6 : Option kV} {o7 : Option kV} {o8 : Option kV} {σ : kS} (h : fb_Rm_takes_34  x1 x2 s0 σ = some (some yf, σf)) : Rn l G dm_Rm_takes m_Rm_takes (kI fun y' σ' => y' = yf ∧ σ' = σf) 34 [some (.inr (9, 0)), some (.inl x1), some (.inl x2), o3, o4, o5, o6, o7, o8] [.inl s0] σ := by
  unfold fb_Rm_takes_34 at h
  obtain ⟨h1, h⟩ := kg_some h
  simp only [Option.some.injEq, Prod.mk.injEq, true_and] at h
  exact s_Rm_takes_34 h1 ⟨_, rfl, h⟩
def fb_Rm_takes_33  (x1 : Int) (x2 : Int) (σ : kS) : kRes := fb_Rm_takes_34  x1 x2 0 σ
theorem e_Rm_takes_33 {l : Launch} {G : kG} {yf : Int} {σf : kS}  {x1 : Int} {x2 : Int} {o3 : Option kV} {o4 : Option kV} {o5 : Option kV} {o6 : Option kV} {o7 : Option kV} {o8 : Option kV} {σ : kS} (h : fb_Rm_takes_33  x1 x2 σ = some (some yf, σf)) : Rn l G dm_Rm_takes m_Rm_takes (kI fun y' σ' => y' = yf ∧ σ' = σf) 33 [some (.inr (9, 0)), some (.inl x1), some (.inl x2), o3, o4, o5, o6, o7, o8] [] σ := by
  unfold fb_Rm_takes_33 at h
  refine s_Rm_takes_33  ?_
  exact e_Rm_takes_34  h
def fb_Rm_takes_29  (x1 : Int) (x2 : Int) (σ : kS) : kRes := fb_Rm_takes_34  x1 x2 1 σ
theorem e_Rm_takes_29 {l : Launch} {G : kG} {yf : Int} {σf : kS}  {x1 : Int} {x2 : Int} {o3 : Option kV} {o4 : Option kV} {o5 : Option kV} {o6 : Option kV} {o7 : Option kV} {o8 : Option kV} {σ : kS} (h : fb_Rm_takes_29  x1 x2 σ = some (some yf, σf)) : Rn l G dm_Rm_takes m_Rm_takes (kI fun y' σ' => y' = yf ∧ σ' = σf) 29 [some (.inr (9, 0)), some (.inl x1), some (.inl x2), o3, o4, o5, o6, o7, o8] [] σ := by
  unfold fb_Rm_takes_29 at h
  refine s_Rm_takes_29  ?_
  exact e_Rm_takes_34  h
def fb_Rm_takes_19  (x1 : Int) (x2 : Int) (σ : kS) : kRes := kg ((0 ≤ x1 ∧ x1 < (8 : Nat)) ∧ (-2147483648 ≤ σ 29 0 (Int.toNat x1) ∧ σ 29 0 (Int.toNat x1) < 2147483648) ∧ (-2147483648 ≤ x2 ∧ x2 < 2147483648)) (if (σ 29 0 (Int.toNat x1)) = x2 then fb_Rm_takes_29  x1 x2 σ else fb_Rm_takes_33  x1 x2 σ)
theorem e_Rm_takes_19 {l : Launch} {G : kG} {yf : Int} {σf : kS}  {x1 : Int} {x2 : Int} {o3 : Option kV} {o4 : Option kV} {o5 : Option kV} {o6 : Option kV} {o7 : Option kV} {o8 : Option kV} {σ : kS} (h : fb_Rm_takes_19  x1 x2 σ = some (some yf, σf)) : Rn l G dm_Rm_takes m_Rm_takes (kI fun y' σ' => y' = yf ∧ σ' = σf) 19 [some (.inr (9, 0)), some (.inl x1), some (.inl x2), o3, o4, o5, o6, o7, o8] [] σ := by
  unfold fb_Rm_takes_19 at h
  obtain ⟨⟨h1, h2, h3⟩, h⟩ := kg_some h
  refine s_Rm_takes_19 h1 h2 h3 (fun c => ?_) (fun c => ?_)
  · rw [if_neg c] at h
    exact e_Rm_takes_33  h
  · rw [if_pos c] at h
    exact e_Rm_takes_29  h
def fb_Rm_takes_10  (x1 : Int) (x2 : Int) (σ : kS) : kRes := kg ((0 ≤ x1 ∧ x1 < (8 : Nat)) ∧ (-2147483648 ≤ σ 28 0 (Int.toNat x1) ∧ σ 28 0 (Int.toNat x1) < 2147483648)) (if (σ 28 0 (Int.toNat x1)) = 0 then fb_Rm_takes_29  x1 x2 σ else fb_Rm_takes_19  x1 x2 σ)
theorem e_Rm_takes_10 {l : Launch} {G : kG} {yf : Int} {σf : kS}  {x1 : Int} {x2 : Int} {o3 : Option kV} {o4 : Option kV} {o5 : Option kV} {o6 : Option kV} {o7 : Option kV} {o8 : Option kV} {σ : kS} (h : fb_Rm_takes_10  x1 x2 σ = some (some yf, σf)) : Rn l G dm_Rm_takes m_Rm_takes (kI fun y' σ' => y' = yf ∧ σ' = σf) 10 [some (.inr (9, 0)), some (.inl x1), some (.inl x2), o3, o4, o5, o6, o7, o8] [] σ := by
  unfold fb_Rm_takes_10 at h
  obtain ⟨⟨h1, h2⟩, h⟩ := kg_some h
  refine s_Rm_takes_10 h1 h2 (fun c => ?_) (fun c => ?_)
  · rw [if_pos c] at h
    exact e_Rm_takes_29  h
  · rw [if_neg c] at h
    exact e_Rm_takes_19  h
def fb_Rm_takes_0  (x1 : Int) (x2 : Int) (σ : kS) : kRes := kg ((0 ≤ x1 ∧ x1 < (8 : Nat)) ∧ (-2147483648 ≤ σ 28 0 (Int.toNat x1) ∧ σ 28 0 (Int.toNat x1) < 2147483648)) (if 2 ≤ (σ 28 0 (Int.toNat x1)) then fb_Rm_takes_35  x1 x2 σ else fb_Rm_takes_10  x1 x2 σ)
theorem e_Rm_takes_0 {l : Launch} {G : kG} {yf : Int} {σf : kS}  {x1 : Int} {x2 : Int} {o3 : Option kV} {o4 : Option kV} {o5 : Option kV} {o6 : Option kV} {o7 : Option kV} {o8 : Option kV} {σ : kS} (h : fb_Rm_takes_0  x1 x2 σ = some (some yf, σf)) : Rn l G dm_Rm_takes m_Rm_takes (kI fun y' σ' => y' = yf ∧ σ' = σf) 0 [some (.inr (9, 0)), some (.inl x1), some (.inl x2), o3, o4, o5, o6, o7, o8] [] σ := by
  unfold fb_Rm_takes_0 at h
  obtain ⟨⟨h1, h2⟩, h⟩ := kg_some h
  refine s_Rm_takes_0 h1 h2 (fun c => ?_) (fun c => ?_)
  · rw [if_pos c] at h
    exact e_Rm_takes_35  h
  · rw [if_neg c] at h
    exact e_Rm_takes_10  h
def f_Rm_takes (x1 : Int) (x2 : Int) (σ : kS) : kRes := fb_Rm_takes_0 x1 x2 σ
theorem E_Rm_takes {l : Launch} {G : kG} {yf : Int} {σf : kS} {x1 : Int} {x2 : Int} {σ : kS} (h : f_Rm_takes x1 x2 σ = some (some yf, σf)) : Call l G dm_Rm_takes y_Rm_takes m_Rm_takes [.inr (9, 0), .inl x1, .inl x2] σ (kI fun y' σ' => y' = yf ∧ σ' = σf) := by
  unfold f_Rm_takes at h
  exact Call.of (by decide +kernel) rfl (Nat.le_of_ble_eq_true rfl) (e_Rm_takes_0 h)
