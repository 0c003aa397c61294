/-! Rm_inPrompt -/
def fb_Rm_inPrompt_148  (x1 : Int) (σ : kS) : kRes := some (some 0, σ)
theorem e_Rm_inPrompt_148 {l : Launch} {G : kG} {yf : Int} {σf : kS}  {x1 : Int} {o2 : Option kV} {σ : kS} (h : fb_Rm_inPrompt_148  x1 σ = some (some yf, σf)) : Rn l G dm_Rm_inPrompt m_Rm_inPrompt (kI fun y' σ' => y' = yf ∧ σ' = σf) 148 [some (.inr (9, 0)), some (.inl x1), o2] [] σ := by
  unfold fb_Rm_inPrompt_148 at h
  simp only [Option.some.injEq, Prod.mk.injEq, true_and] at h
  exact s_Rm_inPrompt_148  ⟨_, rfl, h⟩
def fb_Rm_inPrompt_128  (x1 : Int) (σ : kS) : kRes := kg ((0 ≤ σ 9 0 20 ∧ σ 9 0 20 < (30 : Nat))) (fb_Rm_inPrompt_148  x1 (kup (kup σ 27 0 (Int.toNat (σ 9 0 20)) x1) 9 0 20 (((kup σ 27 0 (Int.toNat (σ 9 0 20)) x1) 9 0 20) + 1)))
theorem e_Rm_inPrompt_128 {l : Launch} {G : kG} {yf : Int} {σf : kS}  {x1 : Int} {o2 : Option kV} {σ : kS} (h : fb_Rm_inPrompt_128  x1 σ = some (some yf, σf)) : Rn l G dm_Rm_inPrompt m_Rm_inPrompt (kI fun y' σ' => y' = yf ∧ σ' = σf) 128 [some (.inr (9, 0)), some (.inl x1), o2] [] σ := by
  unfold fb_Rm_inPrompt_128 at h
  obtain ⟨h1, h⟩ := kg_some h
  refine s_Rm_inPrompt_128 h1 ?_
  exact e_Rm_inPrompt_148  h
def fb_Rm_inPrompt_126  (x1 : Int) (σ : kS) : kRes := some (some 1, σ)
theorem e_Rm_inPrompt_126 {l : Launch} {G : kG} {yf : Int} {σf : kS}  {x1 : Int} {o2 : Option kV} {σ : kS} (h : fb_Rm_inPrompt_126  x1 σ = some (some yf, σf)) : Rn l G dm_Rm_inPrompt m_Rm_inPrompt (kI fun y' σ' => y' = yf ∧ σ' = σf) 126 [some (.inr (9, 0)), some (.inl x1), o2] [] σ := by
  unfold fb_Rm_inPrompt_126 at h
  simp only [Option.some.injEq, Prod.mk.injEq, true_and] at h
  exact s_Rm_inPrompt_126  ⟨_, rfl, h⟩
def fb_Rm_inPrompt_117  (x1 : Int) (σ : kS) : kRes := kg ((-2147483648 ≤ σ 9 0 20 ∧ σ 9 0 20 < 2147483648)) (if (σ 9 0 20) = 30 then fb_Rm_inPrompt_126  x1 σ else fb_Rm_inPrompt_128  x1 σ)
theorem e_Rm_inPrompt_117 {l : Launch} {G : kG} {yf : Int} {σf : kS}  {x1 : Int} {o2 : Option kV} {σ : kS} (h : fb_Rm_inPrompt_117  x1 σ = some (some yf, σf)) : Rn l G dm_Rm_inPrompt m_Rm_inPrompt (kI fun y' σ' => y' = yf ∧ σ' = σf) 117 [some (.inr (9, 0)), some (.inl x1), o2] [] σ := by
  unfold fb_Rm_inPrompt_117 at h
  obtain ⟨h1, h⟩ := kg_some h
  refine s_Rm_inPrompt_117 h1 (fun c => ?_) (fun c => ?_)
  · rw [if_neg c] at h
    exact e_Rm_inPrompt_128  h
  · rw [if_pos c] at h
    exact e_Rm_inPrompt_126  h
def fb_Rm_inPrompt_116  (x1 : Int) (x2 : Int) (s0 : Int) (σ : kS) : kRes := some (some s0, σ)
theorem e_Rm_inPrompt_116 {l : Launch} {G : kG} {yf : Int} {σf : kS}  {x1 : Int} {x2 : Int} {s0 : Int}  {σ : kS} (h : fb_Rm_inPrompt_116  x1 x2 s0 σ = some (some yf, σf)) : Rn l G dm_Rm_inPrompt m_Rm_inPrompt (kI fun y' σ' => y' = yf ∧ σ' = σf) 116 [some (.inr (9, 0)), some (.inl x1), some (.inl x2)] [.inl s0] σ := by
  unfold fb_Rm_inPrompt_116 at h
  simp only [Option.some.injEq, Prod.mk.injEq, true_and] at h
  exact s_Rm_inPrompt_116  ⟨_, rfl, h⟩
def fb_Rm_inPrompt_115  (x1 : Int) (x2 : Int) (σ : kS) : kRes := fb_Rm_inPrompt_116  x1 x2 0 σ
theorem e_Rm_inPrompt_115 {l : Launch} {G : kG} {yf : Int} {σf : kS}  {x1 : Int} {x2 : Int}  {σ : kS} (h : fb_Rm_inPrompt_115  x1 x2 σ = some (some yf, σf)) : Rn l G dm_Rm_inPrompt m_Rm_inPrompt (kI fun y' σ' => y' = yf ∧ σ' = σf) 115 [some (.inr (9, 0)), some (.inl x1), some (.inl x2)] [] σ := by
  unfold fb_Rm_inPrompt_115 at h
  refine s_Rm_inPrompt_115  ?_
  exact e_Rm_inPrompt_116  h
def fb_Rm_inPrompt_111  (x1 : Int) (x2 : Int) (σ : kS) : kRes := fb_Rm_inPrompt_116  x1 x2 1 σ
theorem e_Rm_inPrompt_111 {l : Launch} {G : kG} {yf : Int} {σf : kS}  {x1 : Int} {x2 : Int}  {σ : kS} (h : fb_Rm_inPrompt_111  x1 x2 σ = some (some yf, σf)) : Rn l G dm_Rm_inPrompt m_Rm_inPrompt (kI fun y' σ' => y' = yf ∧ σ' = σf) 111 [some (.inr (9, 0)), some (.inl x1), some (.inl x2)] [] σ := by
  unfold fb_Rm_inPrompt_111 at h
  refine s_Rm_inPrompt_111  ?_
  exact e_Rm_inPrompt_116  h
def fb_Rm_inPrompt_107  (x1 : Int) (x2 : Int) (σ : kS) : kRes := kg ((-2147483648 ≤ x2 ∧ x2 < 2147483648)) (if x2 = 0 then fb_Rm_inPrompt_111  x1 x2 σ else fb_Rm_inPrompt_115  x1 x2 σ)
theorem e_Rm_inPrompt_107 {l : Launch} {G : kG} {yf : Int} {σf : kS}  {x1 : Int} {x2 : Int}  {σ : kS} (h : fb_Rm_inPrompt_107  x1 x2 σ = some (some yf, σf)) : Rn l G dm_Rm_inPrompt m_Rm_inPrompt (kI fun y' σ' => y' = yf ∧ σ' = σf) 107 [some (.inr (9, 0)), some (.inl x1), some (.inl x2)] [] σ := by
  unfold fb_Rm_inPrompt_107 at h
  obtain ⟨h1, h⟩ := kg_some h
  refine s_Rm_inPrompt_107 h1 (fun c => ?_) (fun c => ?_)
  · rw [if_neg c] at h
    exact e_Rm_inPrompt_115  h
  · rw [if_pos c] at h
    exact e_Rm_inPrompt_111  h
def fb_Rm_inPrompt_103  (x1 : Int) (x2 : Int) (σ : kS) : kRes := kbu (f_Rm_clip  σ) fun σ1 => fb_Rm_inPrompt_107  x1 x2 σ1
theorem e_Rm_inPrompt_103 {l : Launch} {G : kG} {yf : Int} {σf : kS}  {x1 : Int} {x2 : Int}  {σ : kS} (h : fb_Rm_inPrompt_103  x1 x2 σ = some (some yf, σf)) : Rn l G dm_Rm_inPrompt m_Rm_inPrompt (kI fun y' σ' => y' = yf ∧ σ' = σf) 103 [some (.inr (9, 0)), some (.inl x1), some (.inl x2)] [] σ := by
  unfold fb_Rm_inPrompt_103 at h
  obtain ⟨σ1, hc, h⟩ := kbu_some h
  refine s_Rm_inPrompt_103  (by decide) (E_Rm_clip hc) (fun σ2 e2 => ?_)
  subst e2
  exact e_Rm_inPrompt_107  h
def fb_Rm_inPrompt_99  (x1 : Int) (x2 : Int) (σ : kS) : kRes := kbu (f_Rm_changed  σ) fun σ1 => fb_Rm_inPrompt_103  x1 x2 σ1
theorem e_Rm_inPrompt_99 {l : Launch} {G : kG} {yf : Int} {σf : kS}  {x1 : Int} {x2 : Int}  {σ : kS} (h : fb_Rm_inPrompt_99  x1 x2 σ = some (some yf, σf)) : Rn l G dm_Rm_inPrompt m_Rm_inPrompt (kI fun y' σ' => y' = yf ∧ σ' = σf) 99 [some (.inr (9, 0)), some (.inl x1), some (.inl x2)] [] σ := by
  unfold fb_Rm_inPrompt_99 at h
  obtain ⟨σ1, hc, h⟩ := kbu_some h
  refine s_Rm_inPrompt_99  (by decide) (E_Rm_changed hc) (fun σ2 e2 => ?_)
  subst e2
  exact e_Rm_inPrompt_103  h
def fb_Rm_inPrompt_94  (x1 : Int) (x2 : Int) (σ : kS) : kRes := kg ((-2147483648 ≤ x2 ∧ x2 < 2147483648)) (if x2 = 3 then fb_Rm_inPrompt_99  x1 x2 σ else fb_Rm_inPrompt_103  x1 x2 σ)
theorem e_Rm_inPrompt_94 {l : Launch} {G : kG} {yf : Int} {σf : kS}  {x1 : Int} {x2 : Int}  {σ : kS} (h : fb_Rm_inPrompt_94  x1 x2 σ = some (some yf, σf)) : Rn l G dm_Rm_inPrompt m_Rm_inPrompt (kI fun y' σ' => y' = yf ∧ σ' = σf) 94 [some (.inr (9, 0)), some (.inl x1), some (.inl x2)] [] σ := by
  unfold fb_Rm_inPrompt_94 at h
  obtain ⟨h1, h⟩ := kg_some h
  refine s_Rm_inPrompt_94 h1 (fun c => ?_) (fun c => ?_)
  · rw [if_neg c] at h
    exact e_Rm_inPrompt_103  h
  · rw [if_pos c] at h
    exact e_Rm_inPrompt_99  h
def fb_Rm_inPrompt_88  (x1 : Int) (x2 : Int) (σ : kS) : kRes := kbu (f_Rm_copyText 2 0 σ) fun σ1 => fb_Rm_inPrompt_94  x1 x2 σ1
theorem e_Rm_inPrompt_88 {l : Launch} {G : kG} {yf : Int} {σf : kS}  {x1 : Int} {x2 : Int}  {σ : kS} (h : fb_Rm_inPrompt_88  x1 x2 σ = some (some yf, σf)) : Rn l G dm_Rm_inPrompt m_Rm_inPrompt (kI fun y' σ' => y' = yf ∧ σ' = σf) 88 [some (.inr (9, 0)), some (.inl x1), some (.inl x2)] [] σ := by
  unfold fb_Rm_inPrompt_88 at h
  obtain ⟨σ1, hc, h⟩ := kbu_some h
  refine s_Rm_inPrompt_88  (by decide) (E_Rm_copyText hc) (fun σ2 e2 => ?_)
  subst e2
  exact e_Rm_inPrompt_94  h
def fb_Rm_inPrompt_83  (x1 : Int) (s0 : Int) (σ : kS) : kRes := kg ((-2147483648 ≤ s0 ∧ s0 < 2147483648)) (if s0 = 0 then fb_Rm_inPrompt_88  x1 s0 σ else fb_Rm_inPrompt_94  x1 s0 σ)
theorem e_Rm_inPrompt_83 {l : Launch} {G : kG} {yf : Int} {σf : kS}  {x1 : Int} {s0 : Int} {o2 : Option kV} {σ : kS} (h : fb_Rm_inPrompt_83  x1 s0 σ = some (some yf, σf)) : Rn l G dm_Rm_inPrompt m_Rm_inPrompt (kI fun y' σ' => y' = yf ∧ σ' = σf) 83 [some (.inr (9, 0)), some (.inl x1), o2] [.inl s0] σ := by
  unfold fb_Rm_inPrompt_83 at h
  obtain ⟨h1, h⟩ := kg_some h
  refine s_Rm_inPrompt_83 h1 (fun c => ?_) (fun c => ?_)
  · rw [if_neg c] at h
    exact e_Rm_inPrompt_94  h
  · rw [if_pos c] at h
    exact e_Rm_inPrompt_88  h
def fb_Rm_inPrompt_79  (x1 : Int) (σ : kS) : kRes := kbi (f_Rm_line  σ) fun y σ1 => fb_Rm_inPrompt_83  x1 y σ1
theorem e_Rm_inPrompt_79 {l : Launch} {G : kG} {yf : Int} {σf : kS}  {x1 : Int} {o2 : Option kV} {σ : kS} (h : fb_Rm_inPrompt_79  x1 σ = some (some yf, σf)) : Rn l G dm_Rm_inPrompt m_Rm_inPrompt (kI fun y' σ' => y' = yf ∧ σ' = σf) 79 [some (.inr (9, 0)), some (.inl x1), o2] [] σ := by
  unfold fb_Rm_inPrompt_79 at h
  obtain ⟨y, σ1, hc, h⟩ := kbi_some h
  refine s_Rm_inPrompt_79  (by decide) (E_Rm_line hc) (fun y2 σ2 e2 => ?_)
  obtain ⟨rfl, rfl⟩ := e2
  exact e_Rm_inPrompt_83  h
def fb_Rm_inPrompt_76  (x1 : Int) (s0 : Int) (σ : kS) : kRes := fb_Rm_inPrompt_83  x1 s0 σ
theorem e_Rm_inPrompt_76 {l : Launch} {G : kG} {yf : Int} {σf : kS}  {x1 : Int} {s0 : Int} {o2 : Option kV} {σ : kS} (h : fb_Rm_inPrompt_76  x1 s0 σ = some (some yf, σf)) : Rn l G dm_Rm_inPrompt m_Rm_inPrompt (kI fun y' σ' => y' = yf ∧ σ' = σf) 76 [some (.inr (9, 0)), some (.inl x1), o2] [.inl s0] σ := by
  unfold fb_Rm_inPrompt_76 at h
  refine s_Rm_inPrompt_76  ?_
  exact e_Rm_inPrompt_83  h
def fb_Rm_inPrompt_72  (x1 : Int) (σ : kS) : kRes := kbi (f_Rm_search  σ) fun y σ1 => fb_Rm_inPrompt_76  x1 y σ1
theorem e_Rm_inPrompt_72 {l : Launch} {G : kG} {yf : Int} {σf : kS}  {x1 : Int} {o2 : Option kV} {σ : kS} (h : fb_Rm_inPrompt_72  x1 σ = some (some yf, σf)) : Rn l G dm_Rm_inPrompt m_Rm_inPrompt (kI fun y' σ' => y' = yf ∧ σ' = σf) 72 [some (.inr (9, 0)), some (.inl x1), o2] [] σ := by
  unfold fb_Rm_inPrompt_72 at h
  obtain ⟨y, σ1, hc, h⟩ := kbi_some h
  refine s_Rm_inPrompt_72  (by decide) (E_Rm_search hc) (fun y2 σ2 e2 => ?_)
  obtain ⟨rfl, rfl⟩ := e2
  exact e_Rm_inPrompt_76  h
def fb_Rm_inPrompt_63  (x1 : Int) (σ : kS) : kRes := kg ((-2147483648 ≤ σ 9 0 21 ∧ σ 9 0 21 < 2147483648)) (if (σ 9 0 21) = 47 then fb_Rm_inPrompt_72  x1 σ else fb_Rm_inPrompt_79  x1 σ)
theorem e_Rm_inPrompt_63 {l : Launch} {G : kG} {yf : Int} {σf : kS}  {x1 : Int} {o2 : Option kV} {σ : kS} (h : fb_Rm_inPrompt_63  x1 σ = some (some yf, σf)) : Rn l G dm_Rm_inPrompt m_Rm_inPrompt (kI fun y' σ' => y' = yf ∧ σ' = σf) 63 [some (.inr (9, 0)), some (.inl x1), o2] [] σ := by
  unfold fb_Rm_inPrompt_63 at h
  obtain ⟨h1, h⟩ := kg_some h
  refine s_Rm_inPrompt_63 h1 (fun c => ?_) (fun c => ?_)
  · rw [if_neg c] at h
    exact e_Rm_inPrompt_79  h
  · rw [if_pos c] at h
    exact e_Rm_inPrompt_72  h
def fb_Rm_inPrompt_52  (x1 : Int) (σ : kS) : kRes := kbu (f_Rm_copyText 0 2 (kup σ 9 0 5 0)) fun σ1 => fb_Rm_inPrompt_63  x1 σ1
theorem e_Rm_inPrompt_52 {l : Launch} {G : kG} {yf : Int} {σf : kS}  {x1 : Int} {o2 : Option kV} {σ : kS} (h : fb_Rm_inPrompt_52  x1 σ = some (some yf, σf)) : Rn l G dm_Rm_inPrompt m_Rm_inPrompt (kI fun y' σ' => y' = yf ∧ σ' = σf) 52 [some (.inr (9, 0)), some (.inl x1), o2] [] σ := by
  unfold fb_Rm_inPrompt_52 at h
  obtain ⟨σ1, hc, h⟩ := kbu_some h
  refine s_Rm_inPrompt_52  (by decide) (E_Rm_copyText hc) (fun σ2 e2 => ?_)
  subst e2
  exact e_Rm_inPrompt_63  h
def fb_Rm_inPrompt_46  (x1 : Int) (σ : kS) : kRes := kg ((-2147483648 ≤ x1 ∧ x1 < 2147483648)) (if x1 = 10 then fb_Rm_inPrompt_52  x1 σ else fb_Rm_inPrompt_117  x1 σ)
theorem e_Rm_inPrompt_46 {l : Launch} {G : kG} {yf : Int} {σf : kS}  {x1 : Int} {o2 : Option kV} {σ : kS} (h : fb_Rm_inPrompt_46  x1 σ = some (some yf, σf)) : Rn l G dm_Rm_inPrompt m_Rm_inPrompt (kI fun y' σ' => y' = yf ∧ σ' = σf) 46 [some (.inr (9, 0)), some (.inl x1), o2] [] σ := by
  unfold fb_Rm_inPrompt_46 at h
  obtain ⟨h1, h⟩ := kg_some h
  refine s_Rm_inPrompt_46 h1 (fun c => ?_) (fun c => ?_)
  · rw [if_neg c] at h
    exact e_Rm_inPrompt_117  h
  · rw [if_pos c] at h
    exact e_Rm_inPrompt_52  h
def fb_Rm_inPrompt_33  (x1 : Int) (σ : kS) : kRes := fb_Rm_inPrompt_148  x1 (kup σ 9 0 20 ((σ 9 0 20) - 1))
theorem e_Rm_inPrompt_33 {l : Launch} {G : kG} {yf : Int} {σf : kS}  {x1 : Int} {o2 : Option kV} {σ : kS} (h : fb_Rm_inPrompt_33  x1 σ = some (some yf, σf)) : Rn l G dm_Rm_inPrompt m_Rm_inPrompt (kI fun y' σ' => y' = yf ∧ σ' = σf) 33 [some (.inr (9, 0)), some (.inl x1), o2] [] σ := by
  unfold fb_Rm_inPrompt_33 at h
  refine s_Rm_inPrompt_33  ?_
  exact e_Rm_inPrompt_148  h
def fb_Rm_inPrompt_27  (x1 : Int) (σ : kS) : kRes := kg ((-2147483648 ≤ x1 ∧ x1 < 2147483648)) (if x1 = 8 then fb_Rm_inPrompt_33  x1 σ else fb_Rm_inPrompt_46  x1 σ)
theorem e_Rm_inPrompt_27 {l : Launch} {G : kG} {yf : Int} {σf : kS}  {x1 : Int} {o2 : Option kV} {σ : kS} (h : fb_Rm_inPrompt_27  x1 σ = some (some yf, σf)) : Rn l G dm_Rm_inPrompt m_Rm_inPrompt (kI fun y' σ' => y' = yf ∧ σ' = σf) 27 [some (.inr (9, 0)), some (.inl x1), o2] [] σ := by
  unfold fb_Rm_inPrompt_27 at h
  obtain ⟨h1, h⟩ := kg_some h
  refine s_Rm_inPrompt_27 h1 (fun c => ?_) (fun c => ?_)
  · rw [if_neg c] at h
    exact e_Rm_inPrompt_46  h
  · rw [if_pos c] at h
    exact e_Rm_inPrompt_33  h
def fb_Rm_inPrompt_19  (x1 : Int) (σ : kS) : kRes := fb_Rm_inPrompt_148  x1 (kup σ 9 0 5 0)
theorem e_Rm_inPrompt_19 {l : Launch} {G : kG} {yf : Int} {σf : kS}  {x1 : Int} {o2 : Option kV} {σ : kS} (h : fb_Rm_inPrompt_19  x1 σ = some (some yf, σf)) : Rn l G dm_Rm_inPrompt m_Rm_inPrompt (kI fun y' σ' => y' = yf ∧ σ' = σf) 19 [some (.inr (9, 0)), some (.inl x1), o2] [] σ := by
  unfold fb_Rm_inPrompt_19 at h
  refine s_Rm_inPrompt_19  ?_
  exact e_Rm_inPrompt_148  h
def fb_Rm_inPrompt_12  (x1 : Int) (σ : kS) : kRes := kg ((-2147483648 ≤ σ 9 0 20 ∧ σ 9 0 20 < 2147483648)) (if (σ 9 0 20) = 0 then fb_Rm_inPrompt_19  x1 σ else fb_Rm_inPrompt_27  x1 σ)
theorem e_Rm_inPrompt_12 {l : Launch} {G : kG} {yf : Int} {σf : kS}  {x1 : Int} {o2 : Option kV} {σ : kS} (h : fb_Rm_inPrompt_12  x1 σ = some (some yf, σf)) : Rn l G dm_Rm_inPrompt m_Rm_inPrompt (kI fun y' σ' => y' = yf ∧ σ' = σf) 12 [some (.inr (9, 0)), some (.inl x1), o2] [] σ := by
  unfold fb_Rm_inPrompt_12 at h
  obtain ⟨h1, h⟩ := kg_some h
  refine s_Rm_inPrompt_12 h1 (fun c => ?_) (fun c => ?_)
  · rw [if_neg c] at h
    exact e_Rm_inPrompt_27  h
  · rw [if_pos c] at h
    exact e_Rm_inPrompt_19  h
def fb_Rm_inPrompt_6  (x1 : Int) (σ : kS) : kRes := kg ((-2147483648 ≤ x1 ∧ x1 < 2147483648)) (if x1 = 8 then fb_Rm_inPrompt_12  x1 σ else fb_Rm_inPrompt_27  x1 σ)
theorem e_Rm_inPrompt_6 {l : Launch} {G : kG} {yf : Int} {σf : kS}  {x1 : Int} {o2 : Option kV} {σ : kS} (h : fb_Rm_inPrompt_6  x1 σ = some (some yf, σf)) : Rn l G dm_Rm_inPrompt m_Rm_inPrompt (kI fun y' σ' => y' = yf ∧ σ' = σf) 6 [some (.inr (9, 0)), some (.inl x1), o2] [] σ := by
  unfold fb_Rm_inPrompt_6 at h
  obtain ⟨h1, h⟩ := kg_some h
  refine s_Rm_inPrompt_6 h1 (fun c => ?_) (fun c => ?_)
  · rw [if_neg c] at h
    exact e_Rm_inPrompt_27  h
  · rw [if_pos c] at h
    exact e_Rm_inPrompt_12  h
def fb_Rm_inPrompt_0  (x1 : Int) (σ : kS) : kRes := kg ((-2147483648 ≤ x1 ∧ x1 < 2147483648)) (if x1 = 27 then fb_Rm_inPrompt_19  x1 σ else fb_Rm_inPrompt_6  x1 σ)
theorem e_Rm_inPrompt_0 {l : Launch} {G : kG} {yf : Int} {σf : kS}  {x1 : Int} {o2 : Option kV} {σ : kS} (h : fb_Rm_inPrompt_0  x1 σ = some (some yf, σf)) : Rn l G dm_Rm_inPrompt m_Rm_inPrompt (kI fun y' σ' => y' = yf ∧ σ' = σf) 0 [some (.inr (9, 0)), some (.inl x1), o2] [] σ := by
  unfold fb_Rm_inPrompt_0 at h
  obtain ⟨h1, h⟩ := kg_some h
  refine s_Rm_inPrompt_0 h1 (fun c => ?_) (fun c => ?_)
  · rw [if_pos c] at h
    exact e_Rm_inPrompt_19  h
  · rw [if_neg c] at h
    exact e_Rm_inPrompt_6  h
def f_Rm_inPrompt (x1 : Int) (σ : kS) : kRes := fb_Rm_inPrompt_0 x1 σ
theorem E_Rm_inPrompt {l : Launch} {G : kG} {yf : Int} {σf : kS} {x1 : Int} {σ : kS} (h : f_Rm_inPrompt x1 σ = some (some yf, σf)) : Call l G dm_Rm_inPrompt y_Rm_inPrompt m_Rm_inPrompt [.inr (9, 0), .inl x1] σ (kI fun y' σ' => y' = yf ∧ σ' = σf) := by
  unfold f_Rm_inPrompt at h
  exact Call.of (by decide +kernel) rfl (Nat.le_of_ble_eq_true rfl) (e_Rm_inPrompt_0 h)
/-! Rm_part -/
def fb_Rm_part_120  (x1 : Int) (x2 : Int) (x3 : Int) (x4 : Int) (σ : kS) : kRes := some (some 1, kup σ 9 0 18 x3)
theorem e_Rm_part_120 {l : Launch} {G : kG} {yf : Int} {σf : kS}  {x1 : Int} {x2 : Int} {x3 : Int} {x4 : Int}  {σ : kS} (h : fb_Rm_part_120  x1 x2 x3 x4 σ = some (some yf, σf)) : Rn l G dm_Rm_part m_Rm_part (kI fun y' σ' => y' = yf ∧ σ' = σf) 120 [some (.inr (9, 0)), some (.inl x1), some (.inl x2), some (.inl x3), some (.inl x4)] [] σ := by
  unfold fb_Rm_part_120 at h
  simp only [Option.some.injEq, Prod.mk.injEq, true_and] at h
  exact s_Rm_part_120  ⟨_, rfl, h⟩
def fb_Rm_part_105  (x1 : Int) (x2 : Int) (x3 : Int) (x4 : Int) (σ : kS) : kRes := kg ((0 ≤ x1 ∧ x1 < (100 : Nat))) (kbu (f_Rm_place (x1 + 1) x3 (kup σ 21 0 (Int.toNat x1) x2)) fun σ1 => fb_Rm_part_120  x1 x2 x3 x4 σ1)
theorem e_Rm_part_105 {l : Launch} {G : kG} {yf : Int} {σf : kS}  {x1 : Int} {x2 : Int} {x3 : Int} {x4 : Int}  {σ : kS} (h : fb_Rm_part_105  x1 x2 x3 x4 σ = some (some yf, σf)) : Rn l G dm_Rm_part m_Rm_part (kI fun y' σ' => y' = yf ∧ σ' = σf) 105 [some (.inr (9, 0)), some (.inl x1), some (.inl x2), some (.inl x3), some (.inl x4)] [] σ := by
  unfold fb_Rm_part_105 at h
  obtain ⟨h1, h⟩ := kg_some h
  obtain ⟨σ1, hc, h⟩ := kbu_some h
  refine s_Rm_part_105 h1 (by decide) (E_Rm_place hc) (fun σ2 e2 => ?_)
  subst e2
  exact e_Rm_part_120  h
def fb_Rm_part_99 (k68 : Int → Int → Int → Int → kS → kRes) (x1 : Int) (x2 : Int) (x3 : Int) (x4 : Int) (σ : kS) : kRes := k68 x1 x2 x3 (x4 + 1) σ
theorem e_Rm_part_99 {l : Launch} {G : kG} {yf : Int} {σf : kS} {k68 : Int → Int → Int → Int → kS → kRes} (hk68 : ∀ (x1 : Int) (x2 : Int) (x3 : Int) (x4 : Int)  (σ : kS), k68 x1 x2 x3 x4 σ = some (some yf, σf) → Rn l G dm_Rm_part m_Rm_part (kI fun y' σ' => y' = yf ∧ σ' = σf) 68 [some (.inr (9, 0)), some (.inl x1), some (.inl x2), some (.inl x3), some (.inl x4)] [] σ) {x1 : Int} {x2 : Int} {x3 : Int} {x4 : Int}  {σ : kS} (h : fb_Rm_part_99 k68 x1 x2 x3 x4 σ = some (some yf, σf)) : Rn l G dm_Rm_part m_Rm_part (kI fun y' σ' => y' = yf ∧ σ' = σf) 99 [some (.inr (9, 0)), some (.inl x1), some (.inl x2), some (.inl x3), some (.inl x4)] [] σ := by
  unfold fb_Rm_part_99 at h
  refine s_Rm_part_99  ?_
  exact hk68 _ _ _ _ _ h
def fb_Rm_part_96 (k68 : Int → Int → Int → Int → kS → kRes) (x1 : Int) (x2 : Int) (x3 : Int) (x4 : Int) (s0 : Int) (s1 : Int) (s2 : Int) (σ : kS) : kRes := kbu (f_Rm_insertAt s2 s1 s0 σ) fun σ1 => fb_Rm_part_99 k68 x1 x2 x3 x4 σ1
theorem e_Rm_part_96 {l : Launch} {G : kG} {yf : Int} {σf : kS} {k68 : Int → Int → Int → Int → kS → kRes} (hk68 : ∀ (x1 : Int) (x2 : Int) (x3 : Int) (x4 : Int)  (σ : kS), k68 x1 x2 x3 x4 σ = some (some yf, σf) → Rn l G dm_Rm_part m_Rm_part (kI fun y' σ' => y' = yf ∧ σ' = σf) 68 [some (.inr (9, 0)), some (.inl x1), some (.inl x2), some (.inl x3), some (.inl x4)] [] σ) {x1 : Int} {x2 : Int} {x3 : Int} {x4 : Int} {s0 : Int} {s1 : Int} {s2 : Int}  {σ : kS} (h : fb_Rm_part_96 k68 x1 x2 x3 x4 s0 s1 s2 σ = some (some yf, σf)) : Rn l G dm_Rm_part m_Rm_part (kI fun y' σ' => y' = yf ∧ σ' = σf) 96 [some (.inr (9, 0)), some (.inl x1), some (.inl x2), some (.inl x3), some (.inl x4)] [.inl s0, .inl s1, .inl s2, .inr (9, 0)] σ := by
  unfold fb_Rm_part_96 at h
  obtain ⟨σ1, hc, h⟩ := kbu_some h
  refine s_Rm_part_96  (by decide) (E_Rm_insertAt hc) (fun σ2 e2 => ?_)
  subst e2
  exact e_Rm_part_99 hk68 h
def fb_Rm_part_79 (k68 : Int → Int → Int → Int → kS → kRes) (x1 : Int) (x2 : Int) (x3 : Int) (x4 : Int) (σ : kS) : kRes := kbi (f_Rm_at x1 x4 σ) fun y σ1 => fb_Rm_part_96 k68 x1 x2 x3 x4 y ((x3 + x4) - x2) (x1 + 1) σ1
theorem e_Rm_part_79 {l : Launch} {G : kG} {yf : Int} {σf : kS} {k68 : Int → Int → Int → Int → kS → kRes} (hk68 : ∀ (x1 : Int) (x2 : Int) (x3 : Int) (x4 : Int)  (σ : kS), k68 x1 x2 x3 x4 σ = some (some yf, σf) → Rn l G dm_Rm_part m_Rm_part (kI fun y' σ' => y' = yf ∧ σ' = σf) 68 [some (.inr (9, 0)), some (.inl x1), some (.inl x2), some (.inl x3), some (.inl x4)] [] σ) {x1 : Int} {x2 : Int} {x3 : Int} {x4 : Int}  {σ : kS} (h : fb_Rm_part_79 k68 x1 x2 x3 x4 σ = some (some yf, σf)) : Rn l G dm_Rm_part m_Rm_part (kI fun y' σ' => y' = yf ∧ σ' = σf) 79 [some (.inr (9, 0)), some (.inl x1), some (.inl x2), some (.inl x3), some (.inl x4)] [] σ := by
  unfold fb_Rm_part_79 at h
  obtain ⟨y, σ1, hc, h⟩ := kbi_some h
  refine s_Rm_part_79  (by decide) (E_Rm_at hc) (fun y2 σ2 e2 => ?_)
  obtain ⟨rfl, rfl⟩ := e2
  exact e_Rm_part_96 hk68 h
def fb_Rm_part_68 (k68 : Int → Int → Int → Int → kS → kRes) (x1 : Int) (x2 : Int) (x3 : Int) (x4 : Int) (σ : kS) : kRes := kg ((0 ≤ x1 ∧ x1 < (100 : Nat)) ∧ (-2147483648 ≤ x4 ∧ x4 < 2147483648) ∧ (-2147483648 ≤ σ 21 0 (Int.toNat x1) ∧ σ 21 0 (Int.toNat x1) < 2147483648)) (if (σ 21 0 (Int.toNat x1)) ≤ x4 then fb_Rm_part_105  x1 x2 x3 x4 σ else fb_Rm_part_79 k68 x1 x2 x3 x4 σ)
theorem e_Rm_part_68 {l : Launch} {G : kG} {yf : Int} {σf : kS} {k68 : Int → Int → Int → Int → kS → kRes} (hk68 : ∀ (x1 : Int) (x2 : Int) (x3 : Int) (x4 : Int)  (σ : kS), k68 x1 x2 x3 x4 σ = some (some yf, σf) → Rn l G dm_Rm_part m_Rm_part (kI fun y' σ' => y' = yf ∧ σ' = σf) 68 [some (.inr (9, 0)), some (.inl x1), some (.inl x2), some (.inl x3), some (.inl x4)] [] σ) {x1 : Int} {x2 : Int} {x3 : Int} {x4 : Int}  {σ : kS} (h : fb_Rm_part_68 k68 x1 x2 x3 x4 σ = some (some yf, σf)) : Rn l G dm_Rm_part m_Rm_part (kI fun y' σ' => y' = yf ∧ σ' = σf) 68 [some (.inr (9, 0)), some (.inl x1), some (.inl x2), some (.inl x3), some (.inl x4)] [] σ := by
  unfold fb_Rm_part_68 at h
  obtain ⟨⟨h1, h2, h3⟩, h⟩ := kg_some h
  refine s_Rm_part_68 h1 h2 h3 (fun c => ?_) (fun c => ?_)
  · rw [if_pos c] at h
    exact e_Rm_part_105  h
  · rw [if_neg c] at h
    exact e_Rm_part_79 hk68 h
def fl_Rm_part_68  : Nat → Int → Int → Int → Int → kS → kRes
  | 0, _, _, _, _, _ => none
  | n + 1, x1, x2, x3, x4, σ => fb_Rm_part_68 (fl_Rm_part_68  n) x1 x2 x3 x4 σ
theorem el_Rm_part_68 {l : Launch} {G : kG} {yf : Int} {σf : kS}  : ∀ (n : Nat) (x1 : Int) (x2 : Int) (x3 : Int) (x4 : Int)  (σ : kS), fl_Rm_part_68  n x1 x2 x3 x4 σ = some (some yf, σf) → Rn l G dm_Rm_part m_Rm_part (kI fun y' σ' => y' = yf ∧ σ' = σf) 68 [some (.inr (9, 0)), some (.inl x1), some (.inl x2), some (.inl x3), some (.inl x4)] [] σ := by
  intro n
  induction n with
  | zero => intro x1 x2 x3 x4 σ h; simp only [fl_Rm_part_68] at h; cases h
  | succ n ih => intro x1 x2 x3 x4 σ h; simp only [fl_Rm_part_68] at h; exact e_Rm_part_68 ih h
def fb_Rm_part_65  (x1 : Int) (x2 : Int) (x3 : Int) (x4 : Int) (σ : kS) : kRes := fl_Rm_part_68  3000 x1 x2 x3 x2 σ
theorem e_Rm_part_65 {l : Launch} {G : kG} {yf : Int} {σf : kS}  {x1 : Int} {x2 : Int} {x3 : Int} {x4 : Int}  {σ : kS} (h : fb_Rm_part_65  x1 x2 x3 x4 σ = some (some yf, σf)) : Rn l G dm_Rm_part m_Rm_part (kI fun y' σ' => y' = yf ∧ σ' = σf) 65 [some (.inr (9, 0)), some (.inl x1), some (.inl x2), some (.inl x3), some (.inl x4)] [] σ := by
  unfold fb_Rm_part_65 at h
  refine s_Rm_part_65  ?_
  exact el_Rm_part_68  _ _ _ _ _ _ h
def fb_Rm_part_59 (k42 : Int → Int → Int → Int → kS → kRes) (x1 : Int) (x2 : Int) (x3 : Int) (x4 : Int) (σ : kS) : kRes := k42 x1 x2 x3 (x4 + 1) σ
theorem e_Rm_part_59 {l : Launch} {G : kG} {yf : Int} {σf : kS} {k42 : Int → Int → Int → Int → kS → kRes} (hk42 : ∀ (x1 : Int) (x2 : Int) (x3 : Int) (x4 : Int)  (σ : kS), k42 x1 x2 x3 x4 σ = some (some yf, σf) → Rn l G dm_Rm_part m_Rm_part (kI fun y' σ' => y' = yf ∧ σ' = σf) 42 [some (.inr (9, 0)), some (.inl x1), some (.inl x2), some (.inl x3), some (.inl x4)] [] σ) {x1 : Int} {x2 : Int} {x3 : Int} {x4 : Int}  {σ : kS} (h : fb_Rm_part_59 k42 x1 x2 x3 x4 σ = some (some yf, σf)) : Rn l G dm_Rm_part m_Rm_part (kI fun y' σ' => y' = yf ∧ σ' = σf) 59 [some (.inr (9, 0)), some (.inl x1), some (.inl x2), some (.inl x3), some (.inl x4)] [] σ := by
  unfold fb_Rm_part_59 at h
  refine s_Rm_part_59  ?_
  exact hk42 _ _ _ _ _ h
def fb_Rm_part_48 (k42 : Int → Int → Int → Int → kS → kRes) (x1 : Int) (x2 : Int) (x3 : Int) (x4 : Int) (σ : kS) : kRes := kbu (f_Rm_insertAt (x1 + 1) x4 32 σ) fun σ1 => fb_Rm_part_59 k42 x1 x2 x3 x4 σ1
theorem e_Rm_part_48 {l : Launch} {G : kG} {yf : Int} {σf : kS} {k42 : Int → Int → Int → Int → kS → kRes} (hk42 : ∀ (x1 : Int) (x2 : Int) (x3 : Int) (x4 : Int)  (σ : kS), k42 x1 x2 x3 x4 σ = some (some yf, σf) → Rn l G dm_Rm_part m_Rm_part (kI fun y' σ' => y' = yf ∧ σ' = σf) 42 [some (.inr (9, 0)), some (.inl x1), some (.inl x2), some (.inl x3), some (.inl x4)] [] σ) {x1 : Int} {x2 : Int} {x3 : Int} {x4 : Int}  {σ : kS} (h : fb_Rm_part_48 k42 x1 x2 x3 x4 σ = some (some yf, σf)) : Rn l G dm_Rm_part m_Rm_part (kI fun y' σ' => y' = yf ∧ σ' = σf) 48 [some (.inr (9, 0)), some (.inl x1), some (.inl x2), some (.inl x3), some (.inl x4)] [] σ := by
  unfold fb_Rm_part_48 at h
  obtain ⟨σ1, hc, h⟩ := kbu_some h
  refine s_Rm_part_48  (by decide) (E_Rm_insertAt hc) (fun σ2 e2 => ?_)
  subst e2
  exact e_Rm_part_59 hk42 h
def fb_Rm_part_42 (k42 : Int → Int → Int → Int → kS → kRes) (x1 : Int) (x2 : Int) (x3 : Int) (x4 : Int) (σ : kS) : kRes := kg ((-2147483648 ≤ x4 ∧ x4 < 2147483648) ∧ (-2147483648 ≤ x3 ∧ x3 < 2147483648)) (if x3 ≤ x4 then fb_Rm_part_65  x1 x2 x3 x4 σ else fb_Rm_part_48 k42 x1 x2 x3 x4 σ)
theorem e_Rm_part_42 {l : Launch} {G : kG} {yf : Int} {σf : kS} {k42 : Int → Int → Int → Int → kS → kRes} (hk42 : ∀ (x1 : Int) (x2 : Int) (x3 : Int) (x4 : Int)  (σ : kS), k42 x1 x2 x3 x4 σ = some (some yf, σf) → Rn l G dm_Rm_part m_Rm_part (kI fun y' σ' => y' = yf ∧ σ' = σf) 42 [some (.inr (9, 0)), some (.inl x1), some (.inl x2), some (.inl x3), some (.inl x4)] [] σ) {x1 : Int} {x2 : Int} {x3 : Int} {x4 : Int}  {σ : kS} (h : fb_Rm_part_42 k42 x1 x2 x3 x4 σ = some (some yf, σf)) : Rn l G dm_Rm_part m_Rm_part (kI fun y' σ' => y' = yf ∧ σ' = σf) 42 [some (.inr (9, 0)), some (.inl x1), some (.inl x2), some (.inl x3), some (.inl x4)] [] σ := by
  unfold fb_Rm_part_42 at h
  obtain ⟨⟨h1, h2⟩, h⟩ := kg_some h
  refine s_Rm_part_42 h1 h2 (fun c => ?_) (fun c => ?_)
  · rw [if_pos c] at h
    exact e_Rm_part_65  h
  · rw [if_neg c] at h
    exact e_Rm_part_48 hk42 h
def fl_Rm_part_42  : Nat → Int → Int → Int → Int → kS → kRes
  | 0, _, _, _, _, _ => none
  | n + 1, x1, x2, x3, x4, σ => fb_Rm_part_42 (fl_Rm_part_42  n) x1 x2 x3 x4 σ
theorem el_Rm_part_42 {l : Launch} {G : kG} {yf : Int} {σf : kS}  : ∀ (n : Nat) (x1 : Int) (x2 : Int) (x3 : Int) (x4 : Int)  (σ : kS), fl_Rm_part_42  n x1 x2 x3 x4 σ = some (some yf, σf) → Rn l G dm_Rm_part m_Rm_part (kI fun y' σ' => y' = yf ∧ σ' = σf) 42 [some (.inr (9, 0)), some (.inl x1), some (.inl x2), some (.inl x3), some (.inl x4)] [] σ := by
  intro n
  induction n with
  | zero => intro x1 x2 x3 x4 σ h; simp only [fl_Rm_part_42] at h; cases h
  | succ n ih => intro x1 x2 x3 x4 σ h; simp only [fl_Rm_part_42] at h; exact e_Rm_part_42 ih h
def fb_Rm_part_39  (x1 : Int) (x2 : Int) (x3 : Int) (σ : kS) : kRes := fl_Rm_part_42  3000 x1 x2 x3 0 σ
theorem e_Rm_part_39 {l : Launch} {G : kG} {yf : Int} {σf : kS}  {x1 : Int} {x2 : Int} {x3 : Int} {o4 : Option kV} {σ : kS} (h : fb_Rm_part_39  x1 x2 x3 σ = some (some yf, σf)) : Rn l G dm_Rm_part m_Rm_part (kI fun y' σ' => y' = yf ∧ σ' = σf) 39 [some (.inr (9, 0)), some (.inl x1), some (.inl x2), some (.inl x3), o4] [] σ := by
  unfold fb_Rm_part_39 at h
  refine s_Rm_part_39  ?_
  exact el_Rm_part_42  _ _ _ _ _ _ h
def fb_Rm_part_31  (x1 : Int) (x2 : Int) (s0 : Int) (σ : kS) : kRes := kbu (f_Rm_openLine (x1 + 1) σ) fun σ1 => fb_Rm_part_39  x1 x2 s0 σ1
theorem e_Rm_part_31 {l : Launch} {G : kG} {yf : Int} {σf : kS}  {x1 : Int} {x2 : Int} {s0 : Int} {o3 : Option kV} {o4 : Option kV} {σ : kS} (h : fb_Rm_part_31  x1 x2 s0 σ = some (some yf, σf)) : Rn l G dm_Rm_part m_Rm_part (kI fun y' σ' => y' = yf ∧ σ' = σf) 31 [some (.inr (9, 0)), some (.inl x1), some (.inl x2), o3, o4] [.inl s0] σ := by
  unfold fb_Rm_part_31 at h
  obtain ⟨σ1, hc, h⟩ := kbu_some h
  refine s_Rm_part_31  (by decide) (E_Rm_openLine hc) (fun σ2 e2 => ?_)
  subst e2
  exact e_Rm_part_39  h
def fb_Rm_part_30  (x1 : Int) (x2 : Int) (σ : kS) : kRes := fb_Rm_part_31  x1 x2 x2 σ
theorem e_Rm_part_30 {l : Launch} {G : kG} {yf : Int} {σf : kS}  {x1 : Int} {x2 : Int} {o3 : Option kV} {o4 : Option kV} {σ : kS} (h : fb_Rm_part_30  x1 x2 σ = some (some yf, σf)) : Rn l G dm_Rm_part m_Rm_part (kI fun y' σ' => y' = yf ∧ σ' = σf) 30 [some (.inr (9, 0)), some (.inl x1), some (.inl x2), o3, o4] [] σ := by
  unfold fb_Rm_part_30 at h
  refine s_Rm_part_30  ?_
  exact e_Rm_part_31  h
def fb_Rm_part_27  (x1 : Int) (x2 : Int) (s0 : Int) (σ : kS) : kRes := fb_Rm_part_31  x1 x2 s0 σ
theorem e_Rm_part_27 {l : Launch} {G : kG} {yf : Int} {σf : kS}  {x1 : Int} {x2 : Int} {s0 : Int} {o3 : Option kV} {o4 : Option kV} {σ : kS} (h : fb_Rm_part_27  x1 x2 s0 σ = some (some yf, σf)) : Rn l G dm_Rm_part m_Rm_part (kI fun y' σ' => y' = yf ∧ σ' = σf) 27 [some (.inr (9, 0)), some (.inl x1), some (.inl x2), o3, o4] [.inl s0] σ := by
  unfold fb_Rm_part_27 at h
  refine s_Rm_part_27  ?_
  exact e_Rm_part_31  h
def fb_Rm_part_22  (x1 : Int) (x2 : Int) (σ : kS) : kRes := kbi (f_Rm_blanks x1 σ) fun y σ1 => fb_Rm_part_27  x1 x2 y σ1
theorem e_Rm_part_22 {l : Launch} {G : kG} {yf : Int} {σf : kS}  {x1 : Int} {x2 : Int} {o3 : Option kV} {o4 : Option kV} {σ : kS} (h : fb_Rm_part_22  x1 x2 σ = some (some yf, σf)) : Rn l G dm_Rm_part m_Rm_part (kI fun y' σ' => y' = yf ∧ σ' = σf) 22 [some (.inr (9, 0)), some (.inl x1), some (.inl x2), o3, o4] [] σ := by
  unfold fb_Rm_part_22 at h
  obtain ⟨y, σ1, hc, h⟩ := kbi_some h
  refine s_Rm_part_22  (by decide) (E_Rm_blanks hc) (fun y2 σ2 e2 => ?_)
  obtain ⟨rfl, rfl⟩ := e2
  exact e_Rm_part_27  h
def fb_Rm_part_18  (x1 : Int) (x2 : Int) (s0 : Int) (σ : kS) : kRes := kg ((-2147483648 ≤ s0 ∧ s0 < 2147483648) ∧ (-2147483648 ≤ x2 ∧ x2 < 2147483648)) (if x2 ≤ s0 then fb_Rm_part_30  x1 x2 σ else fb_Rm_part_22  x1 x2 σ)
theorem e_Rm_part_18 {l : Launch} {G : kG} {yf : Int} {σf : kS}  {x1 : Int} {x2 : Int} {s0 : Int} {o3 : Option kV} {o4 : Option kV} {σ : kS} (h : fb_Rm_part_18  x1 x2 s0 σ = some (some yf, σf)) : Rn l G dm_Rm_part m_Rm_part (kI fun y' σ' => y' = yf ∧ σ' = σf) 18 [some (.inr (9, 0)), some (.inl x1), some (.inl x2), o3, o4] [.inl s0] σ := by
  unfold fb_Rm_part_18 at h
  obtain ⟨⟨h1, h2⟩, h⟩ := kg_some h
  refine s_Rm_part_18 h1 h2 (fun c => ?_) (fun c => ?_)
  · rw [if_pos c] at h
    exact e_Rm_part_30  h
  · rw [if_neg c] at h
    exact e_Rm_part_22  h
def fb_Rm_part_13  (x1 : Int) (x2 : Int) (σ : kS) : kRes := kbi (f_Rm_blanks x1 σ) fun y σ1 => fb_Rm_part_18  x1 x2 y σ1
theorem e_Rm_part_13 {l : Launch} {G : kG} {yf : Int} {σf : kS}  {x1 : Int} {x2 : Int} {o3 : Option kV} {o4 : Option kV} {σ : kS} (h : fb_Rm_part_13  x1 x2 σ = some (some yf, σf)) : Rn l G dm_Rm_part m_Rm_part (kI fun y' σ' => y' = yf ∧ σ' = σf) 13 [some (.inr (9, 0)), some (.inl x1), some (.inl x2), o3, o4] [] σ := by
  unfold fb_Rm_part_13 at h
  obtain ⟨y, σ1, hc, h⟩ := kbi_some h
  refine s_Rm_part_13  (by decide) (E_Rm_blanks hc) (fun y2 σ2 e2 => ?_)
  obtain ⟨rfl, rfl⟩ := e2
  exact e_Rm_part_18  h
def fb_Rm_part_11  (x1 : Int) (x2 : Int) (σ : kS) : kRes := some (some 0, σ)
theorem e_Rm_part_11 {l : Launch} {G : kG} {yf : Int} {σf : kS}  {x1 : Int} {x2 : Int} {o3 : Option kV} {o4 : Option kV} {σ : kS} (h : fb_Rm_part_11  x1 x2 σ = some (some yf, σf)) : Rn l G dm_Rm_part m_Rm_part (kI fun y' σ' => y' = yf ∧ σ' = σf) 11 [some (.inr (9, 0)), some (.inl x1), some (.inl x2), o3, o4] [] σ := by
  unfold fb_Rm_part_11 at h
  simp only [Option.some.injEq, Prod.mk.injEq, true_and] at h
  exact s_Rm_part_11  ⟨_, rfl, h⟩
def fb_Rm_part_0  (x1 : Int) (x2 : Int) (σ : kS) : kRes := kg ((-2147483648 ≤ σ 22 0 0 ∧ σ 22 0 0 < 2147483648)) (if (σ 22 0 0) = 10 then fb_Rm_part_11  x1 x2 σ else fb_Rm_part_13  x1 x2 σ)
theorem e_Rm_part_0 {l : Launch} {G : kG} {yf : Int} {σf : kS}  {x1 : Int} {x2 : Int} {o3 : Option kV} {o4 : Option kV} {σ : kS} (h : fb_Rm_part_0  x1 x2 σ = some (some yf, σf)) : Rn l G dm_Rm_part m_Rm_part (kI fun y' σ' => y' = yf ∧ σ' = σf) 0 [some (.inr (9, 0)), some (.inl x1), some (.inl x2), o3, o4] [] σ := by
  unfold fb_Rm_part_0 at h
  obtain ⟨h1, h⟩ := kg_some h
  refine s_Rm_part_0 h1 (fun c => ?_) (fun c => ?_)
  · rw [if_neg c] at h
    exact e_Rm_part_13  h
  · rw [if_pos c] at h
    exact e_Rm_part_11  h
def f_Rm_part (x1 : Int) (x2 : Int) (σ : kS) : kRes := fb_Rm_part_0 x1 x2 σ
theorem E_Rm_part {l : Launch} {G : kG} {yf : Int} {σf : kS} {x1 : Int} {x2 : Int} {σ : kS} (h : f_Rm_part x1 x2 σ = some (some yf, σf)) : Call l G dm_Rm_part y_Rm_part m_Rm_part [.inr (9, 0), .inl x1, .inl x2] σ (kI fun y' σ' => y' = yf ∧ σ' = σf) := by
  unfold f_Rm_part at h
  exact Call.of (by decide +kernel) rfl (Nat.le_of_ble_eq_true rfl) (e_Rm_part_0 h)
/-! Rm_insert -/
def fb_Rm_insert_113  (x1 : Int) (x2 : Int) (x3 : Int) (σ : kS) : kRes := some (some 1, kup σ 24 0 0 ((σ 24 0 0) + 1))
theorem e_Rm_insert_113 {l : Launch} {G : kG} {yf : Int} {σf : kS}  {x1 : Int} {x2 : Int} {x3 : Int}  {σ : kS} (h : fb_Rm_insert_113  x1 x2 x3 σ = some (some yf, σf)) : Rn l G dm_Rm_insert m_Rm_insert (kI fun y' σ' => y' = yf ∧ σ' = σf) 113 [some (.inr (9, 0)), some (.inl x1), some (.inl x2), some (.inl x3)] [] σ := by
  unfold fb_Rm_insert_113 at h
  simp only [Option.some.injEq, Prod.mk.injEq, true_and] at h
  exact s_Rm_insert_113  ⟨_, rfl, h⟩
def fb_Rm_insert_106  (x1 : Int) (x2 : Int) (x3 : Int) (σ : kS) : kRes := kbu (f_Rm_insertAt x2 x3 x1 σ) fun σ1 => fb_Rm_insert_113  x1 x2 x3 σ1
theorem e_Rm_insert_106 {l : Launch} {G : kG} {yf : Int} {σf : kS}  {x1 : Int} {x2 : Int} {x3 : Int}  {σ : kS} (h : fb_Rm_insert_106  x1 x2 x3 σ = some (some yf, σf)) : Rn l G dm_Rm_insert m_Rm_insert (kI fun y' σ' => y' = yf ∧ σ' = σf) 106 [some (.inr (9, 0)), some (.inl x1), some (.inl x2), some (.inl x3)] [] σ := by
  unfold fb_Rm_insert_106 at h
  obtain ⟨σ1, hc, h⟩ := kbu_some h
  refine s_Rm_insert_106  (by decide) (E_Rm_insertAt hc) (fun σ2 e2 => ?_)
  subst e2
  exact e_Rm_insert_113  h
def fb_Rm_insert_104  (x1 : Int) (x2 : Int) (x3 : Int) (σ : kS) : kRes := some (some 0, σ)
theorem e_Rm_insert_104 {l : Launch} {G : kG} {yf : Int} {σf : kS}  {x1 : Int} {x2 : Int} {x3 : Int}  {σ : kS} (h : fb_Rm_insert_104  x1 x2 x3 σ = some (some yf, σf)) : Rn l G dm_Rm_insert m_Rm_insert (kI fun y' σ' => y' = yf ∧ σ' = σf) 104 [some (.inr (9, 0)), some (.inl x1), some (.inl x2), some (.inl x3)] [] σ := by
  unfold fb_Rm_insert_104 at h
  simp only [Option.some.injEq, Prod.mk.injEq, true_and] at h
  exact s_Rm_insert_104  ⟨_, rfl, h⟩
def fb_Rm_insert_93  (x1 : Int) (x2 : Int) (x3 : Int) (σ : kS) : kRes := kg ((0 ≤ x2 ∧ x2 < (100 : Nat)) ∧ (-2147483648 ≤ σ 21 0 (Int.toNat x2) ∧ σ 21 0 (Int.toNat x2) < 2147483648)) (if (σ 21 0 (Int.toNat x2)) = 20 then fb_Rm_insert_104  x1 x2 x3 σ else fb_Rm_insert_106  x1 x2 x3 σ)
theorem e_Rm_insert_93 {l : Launch} {G : kG} {yf : Int} {σf : kS}  {x1 : Int} {x2 : Int} {x3 : Int}  {σ : kS} (h : fb_Rm_insert_93  x1 x2 x3 σ = some (some yf, σf)) : Rn l G dm_Rm_insert m_Rm_insert (kI fun y' σ' => y' = yf ∧ σ' = σf) 93 [some (.inr (9, 0)), some (.inl x1), some (.inl x2), some (.inl x3)] [] σ := by
  unfold fb_Rm_insert_93 at h
  obtain ⟨⟨h1, h2⟩, h⟩ := kg_some h
  refine s_Rm_insert_93 h1 h2 (fun c => ?_) (fun c => ?_)
  · rw [if_neg c] at h
    exact e_Rm_insert_106  h
  · rw [if_pos c] at h
    exact e_Rm_insert_104  h
def fb_Rm_insert_92  (x1 : Int) (x2 : Int) (x3 : Int) (s0 : Int) (σ : kS) : kRes := kg ((s0 = 0 ∨ s0 = 1)) (some (some s0, σ))
theorem e_Rm_insert_92 {l : Launch} {G : kG} {yf : Int} {σf : kS}  {x1 : Int} {x2 : Int} {x3 : Int} {s0 : Int}  {σ : kS} (h : fb_Rm_insert_92  x1 x2 x3 s0 σ = some (some yf, σf)) : Rn l G dm_Rm_insert m_Rm_insert (kI fun y' σ' => y' = yf ∧ σ' = σf) 92 [some (.inr (9, 0)), some (.inl x1), some (.inl x2), some (.inl x3)] [.inl s0] σ := by
  unfold fb_Rm_insert_92 at h
  obtain ⟨h1, h⟩ := kg_some h
  simp only [Option.some.injEq, Prod.mk.injEq, true_and] at h
  exact s_Rm_insert_92 h1 ⟨_, rfl, h⟩
def fb_Rm_insert_86  (x1 : Int) (x2 : Int) (x3 : Int) (σ : kS) : kRes := kbi (f_Rm_part x2 x3 σ) fun y σ1 => fb_Rm_insert_92  x1 x2 x3 y σ1
theorem e_Rm_insert_86 {l : Launch} {G : kG} {yf : Int} {σf : kS}  {x1 : Int} {x2 : Int} {x3 : Int}  {σ : kS} (h : fb_Rm_insert_86  x1 x2 x3 σ = some (some yf, σf)) : Rn l G dm_Rm_insert m_Rm_insert (kI fun y' σ' => y' = yf ∧ σ' = σf) 86 [some (.inr (9, 0)), some (.inl x1), some (.inl x2), some (.inl x3)] [] σ := by
  unfold fb_Rm_insert_86 at h
  obtain ⟨y, σ1, hc, h⟩ := kbi_some h
  refine s_Rm_insert_86  (by decide) (E_Rm_part hc) (fun y2 σ2 e2 => ?_)
  obtain ⟨rfl, rfl⟩ := e2
  exact e_Rm_insert_92  h
def fb_Rm_insert_80  (x1 : Int) (x2 : Int) (x3 : Int) (σ : kS) : kRes := kg ((-2147483648 ≤ x1 ∧ x1 < 2147483648)) (if x1 = 10 then fb_Rm_insert_86  x1 x2 x3 σ else fb_Rm_insert_93  x1 x2 x3 σ)
theorem e_Rm_insert_80 {l : Launch} {G : kG} {yf : Int} {σf : kS}  {x1 : Int} {x2 : Int} {x3 : Int}  {σ : kS} (h : fb_Rm_insert_80  x1 x2 x3 σ = some (some yf, σf)) : Rn l G dm_Rm_insert m_Rm_insert (kI fun y' σ' => y' = yf ∧ σ' = σf) 80 [some (.inr (9, 0)), some (.inl x1), some (.inl x2), some (.inl x3)] [] σ := by
  unfold fb_Rm_insert_80 at h
  obtain ⟨h1, h⟩ := kg_some h
  refine s_Rm_insert_80 h1 (fun c => ?_) (fun c => ?_)
  · rw [if_neg c] at h
    exact e_Rm_insert_93  h
  · rw [if_pos c] at h
    exact e_Rm_insert_86  h
def fb_Rm_insert_68  (x1 : Int) (x2 : Int) (x3 : Int) (σ : kS) : kRes := some (some 1, kup σ 24 0 0 ((σ 24 0 0) - 1))
theorem e_Rm_insert_68 {l : Launch} {G : kG} {yf : Int} {σf : kS}  {x1 : Int} {x2 : Int} {x3 : Int}  {σ : kS} (h : fb_Rm_insert_68  x1 x2 x3 σ = some (some yf, σf)) : Rn l G dm_Rm_insert m_Rm_insert (kI fun y' σ' => y' = yf ∧ σ' = σf) 68 [some (.inr (9, 0)), some (.inl x1), some (.inl x2), some (.inl x3)] [] σ := by
  unfold fb_Rm_insert_68 at h
  simp only [Option.some.injEq, Prod.mk.injEq, true_and] at h
  exact s_Rm_insert_68  ⟨_, rfl, h⟩
def fb_Rm_insert_60  (x1 : Int) (x2 : Int) (x3 : Int) (σ : kS) : kRes := kbu (f_Rm_removeAt x2 (x3 - 1) σ) fun σ1 => fb_Rm_insert_68  x1 x2 x3 σ1
theorem e_Rm_insert_60 {l : Launch} {G : kG} {yf : Int} {σf : kS}  {x1 : Int} {x2 : Int} {x3 : Int}  {σ : kS} (h : fb_Rm_insert_60  x1 x2 x3 σ = some (some yf, σf)) : Rn l G dm_Rm_insert m_Rm_insert (kI fun y' σ' => y' = yf ∧ σ' = σf) 60 [some (.inr (9, 0)), some (.inl x1), some (.inl x2), some (.inl x3)] [] σ := by
  unfold fb_Rm_insert_60 at h
  obtain ⟨σ1, hc, h⟩ := kbu_some h
  refine s_Rm_insert_60  (by decide) (E_Rm_removeAt hc) (fun σ2 e2 => ?_)
  subst e2
  exact e_Rm_insert_68  h
def fb_Rm_insert_58  (x1 : Int) (x2 : Int) (x3 : Int) (σ : kS) : kRes := some (some 0, σ)
theorem e_Rm_insert_58 {l : Launch} {G : kG} {yf : Int} {σf : kS}  {x1 : Int} {x2 : Int} {x3 : Int}  {σ : kS} (h : fb_Rm_insert_58  x1 x2 x3 σ = some (some yf, σf)) : Rn l G dm_Rm_insert m_Rm_insert (kI fun y' σ' => y' = yf ∧ σ' = σf) 58 [some (.inr (9, 0)), some (.inl x1), some (.inl x2), some (.inl x3)] [] σ := by
  unfold fb_Rm_insert_58 at h
  simp only [Option.some.injEq, Prod.mk.injEq, true_and] at h
  exact s_Rm_insert_58  ⟨_, rfl, h⟩
def fb_Rm_insert_50  (x1 : Int) (x2 : Int) (x3 : Int) (σ : kS) : kRes := kg ((-2147483648 ≤ x3 ∧ x3 < 2147483648) ∧ (-2147483648 ≤ σ 9 0 18 ∧ σ 9 0 18 < 2147483648)) (if x3 = (σ 9 0 18) then fb_Rm_insert_58  x1 x2 x3 σ else fb_Rm_insert_60  x1 x2 x3 σ)
theorem e_Rm_insert_50 {l : Launch} {G : kG} {yf : Int} {σf : kS}  {x1 : Int} {x2 : Int} {x3 : Int}  {σ : kS} (h : fb_Rm_insert_50  x1 x2 x3 σ = some (some yf, σf)) : Rn l G dm_Rm_insert m_Rm_insert (kI fun y' σ' => y' = yf ∧ σ' = σf) 50 [some (.inr (9, 0)), some (.inl x1), some (.inl x2), some (.inl x3)] [] σ := by
  unfold fb_Rm_insert_50 at h
  obtain ⟨⟨h1, h2⟩, h⟩ := kg_some h
  refine s_Rm_insert_50 h1 h2 (fun c => ?_) (fun c => ?_)
  · rw [if_neg c] at h
    exact e_Rm_insert_60  h
  · rw [if_pos c] at h
    exact e_Rm_insert_58  h
def fb_Rm_insert_44  (x1 : Int) (x2 : Int) (x3 : Int) (σ : kS) : kRes := kg ((-2147483648 ≤ x1 ∧ x1 < 2147483648)) (if x1 = 8 then fb_Rm_insert_50  x1 x2 x3 σ else fb_Rm_insert_80  x1 x2 x3 σ)
theorem e_Rm_insert_44 {l : Launch} {G : kG} {yf : Int} {σf : kS}  {x1 : Int} {x2 : Int} {x3 : Int}  {σ : kS} (h : fb_Rm_insert_44  x1 x2 x3 σ = some (some yf, σf)) : Rn l G dm_Rm_insert m_Rm_insert (kI fun y' σ' => y' = yf ∧ σ' = σf) 44 [some (.inr (9, 0)), some (.inl x1), some (.inl x2), some (.inl x3)] [] σ := by
  unfold fb_Rm_insert_44 at h
  obtain ⟨h1, h⟩ := kg_some h
  refine s_Rm_insert_44 h1 (fun c => ?_) (fun c => ?_)
  · rw [if_neg c] at h
    exact e_Rm_insert_80  h
  · rw [if_pos c] at h
    exact e_Rm_insert_50  h
def fb_Rm_insert_41  (x1 : Int) (x2 : Int) (x3 : Int) (s0 : Int) (s1 : Int) (σ : kS) : kRes := kg ((0 ≤ s1 ∧ s1 < (10 : Nat))) (some (some 1, kup σ 24 0 (Int.toNat s1) s0))
theorem e_Rm_insert_41 {l : Launch} {G : kG} {yf : Int} {σf : kS}  {x1 : Int} {x2 : Int} {x3 : Int} {s0 : Int} {s1 : Int}  {σ : kS} (h : fb_Rm_insert_41  x1 x2 x3 s0 s1 σ = some (some yf, σf)) : Rn l G dm_Rm_insert m_Rm_insert (kI fun y' σ' => y' = yf ∧ σ' = σf) 41 [some (.inr (9, 0)), some (.inl x1), some (.inl x2), some (.inl x3)] [.inl s0, .inl s1, .inr (24, 0)] σ := by
  unfold fb_Rm_insert_41 at h
  obtain ⟨h1, h⟩ := kg_some h
  simp only [Option.some.injEq, Prod.mk.injEq, true_and] at h
  exact s_Rm_insert_41 h1 ⟨_, rfl, h⟩
def fb_Rm_insert_40  (x1 : Int) (x2 : Int) (x3 : Int) (s0 : Int) (σ : kS) : kRes := fb_Rm_insert_41  x1 x2 x3 0 s0 σ
theorem e_Rm_insert_40 {l : Launch} {G : kG} {yf : Int} {σf : kS}  {x1 : Int} {x2 : Int} {x3 : Int} {s0 : Int}  {σ : kS} (h : fb_Rm_insert_40  x1 x2 x3 s0 σ = some (some yf, σf)) : Rn l G dm_Rm_insert m_Rm_insert (kI fun y' σ' => y' = yf ∧ σ' = σf) 40 [some (.inr (9, 0)), some (.inl x1), some (.inl x2), some (.inl x3)] [.inl s0, .inr (24, 0)] σ := by
  unfold fb_Rm_insert_40 at h
  refine s_Rm_insert_40  ?_
  exact e_Rm_insert_41  h
def fb_Rm_insert_34  (x1 : Int) (x2 : Int) (x3 : Int) (s0 : Int) (σ : kS) : kRes := fb_Rm_insert_41  x1 x2 x3 (x3 - 1) s0 σ
theorem e_Rm_insert_34 {l : Launch} {G : kG} {yf : Int} {σf : kS}  {x1 : Int} {x2 : Int} {x3 : Int} {s0 : Int}  {σ : kS} (h : fb_Rm_insert_34  x1 x2 x3 s0 σ = some (some yf, σf)) : Rn l G dm_Rm_insert m_Rm_insert (kI fun y' σ' => y' = yf ∧ σ' = σf) 34 [some (.inr (9, 0)), some (.inl x1), some (.inl x2), some (.inl x3)] [.inl s0, .inr (24, 0)] σ := by
  unfold fb_Rm_insert_34 at h
  refine s_Rm_insert_34  ?_
  exact e_Rm_insert_41  h
def fb_Rm_insert_20  (x1 : Int) (x2 : Int) (x3 : Int) (σ : kS) : kRes := kg ((-2147483648 ≤ x3 ∧ x3 < 2147483648)) (if x3 ≤ 0 then fb_Rm_insert_40  x1 x2 x3 0 (kup σ 9 0 5 0) else fb_Rm_insert_34  x1 x2 x3 0 (kup σ 9 0 5 0))
theorem e_Rm_insert_20 {l : Launch} {G : kG} {yf : Int} {σf : kS}  {x1 : Int} {x2 : Int} {x3 : Int}  {σ : kS} (h : fb_Rm_insert_20  x1 x2 x3 σ = some (some yf, σf)) : Rn l G dm_Rm_insert m_Rm_insert (kI fun y' σ' => y' = yf ∧ σ' = σf) 20 [some (.inr (9, 0)), some (.inl x1), some (.inl x2), some (.inl x3)] [] σ := by
  unfold fb_Rm_insert_20 at h
  obtain ⟨h1, h⟩ := kg_some h
  refine s_Rm_insert_20 h1 (fun c => ?_) (fun c => ?_)
  · rw [if_pos c] at h
    exact e_Rm_insert_40  h
  · rw [if_neg c] at h
    exact e_Rm_insert_34  h
def fb_Rm_insert_0  (x1 : Int) (σ : kS) : kRes := kg ((-2147483648 ≤ x1 ∧ x1 < 2147483648)) (if x1 = 27 then fb_Rm_insert_20  x1 (σ 23 0 0) (σ 24 0 0) σ else fb_Rm_insert_44  x1 (σ 23 0 0) (σ 24 0 0) σ)
theorem e_Rm_insert_0 {l : Launch} {G : kG} {yf : Int} {σf : kS}  {x1 : Int} {o2 : Option kV} {o3 : Option kV} {σ : kS} (h : fb_Rm_insert_0  x1 σ = some (some yf, σf)) : Rn l G dm_Rm_insert m_Rm_insert (kI fun y' σ' => y' = yf ∧ σ' = σf) 0 [some (.inr (9, 0)), some (.inl x1), o2, o3] [] σ := by
  unfold fb_Rm_insert_0 at h
  obtain ⟨h1, h⟩ := kg_some h
  refine s_Rm_insert_0 h1 (fun c => ?_) (fun c => ?_)
  · rw [if_neg c] at h
    exact e_Rm_insert_44  h
  · rw [if_pos c] at h
    exact e_Rm_insert_20  h
def f_Rm_insert (x1 : Int) (σ : kS) : kRes := fb_Rm_insert_0 x1 σ
theorem E_Rm_insert {l : Launch} {G : kG} {yf : Int} {σf : kS} {x1 : Int} {σ : kS} (h : f_Rm_insert x1 σ = some (some yf, σf)) : Call l G dm_Rm_insert y_Rm_insert m_Rm_insert [.inr (9, 0), .inl x1] σ (kI fun y' σ' => y' = yf ∧ σ' = σf) := by
  unfold f_Rm_insert at h
  exact Call.of (by decide +kernel) rfl (Nat.le_of_ble_eq_true rfl) (e_Rm_insert_0 h)
/-! Rm_keep -/
def fb_Rm_keep_48  (x1 : Int) (s0 : Int) (σ : kS) : kRes := some (none, kup σ 9 0 14 s0)
theorem e_Rm_keep_48 {l : Launch} {G : kG} {σf : kS}  {x1 : Int} {s0 : Int}  {σ : kS} (h : fb_Rm_keep_48  x1 s0 σ = some (none, σf)) : Rn l G dm_Rm_keep m_Rm_keep (kU fun σ' => σ' = σf) 48 [some (.inr (9, 0)), some (.inl x1)] [.inl s0, .inr (9, 0)] σ := by
  unfold fb_Rm_keep_48 at h
  simp only [Option.some.injEq, Prod.mk.injEq, true_and] at h
  exact s_Rm_keep_48  ⟨rfl, h⟩
def fb_Rm_keep_46  (x1 : Int) (σ : kS) : kRes := fb_Rm_keep_48  x1 9 σ
theorem e_Rm_keep_46 {l : Launch} {G : kG} {σf : kS}  {x1 : Int}  {σ : kS} (h : fb_Rm_keep_46  x1 σ = some (none, σf)) : Rn l G dm_Rm_keep m_Rm_keep (kU fun σ' => σ' = σf) 46 [some (.inr (9, 0)), some (.inl x1)] [.inr (9, 0)] σ := by
  unfold fb_Rm_keep_46 at h
  refine s_Rm_keep_46  ?_
  exact e_Rm_keep_48  h
def fb_Rm_keep_37  (x1 : Int) (σ : kS) : kRes := fb_Rm_keep_48  x1 ((σ 9 0 14) + 1) σ
theorem e_Rm_keep_37 {l : Launch} {G : kG} {σf : kS}  {x1 : Int}  {σ : kS} (h : fb_Rm_keep_37  x1 σ = some (none, σf)) : Rn l G dm_Rm_keep m_Rm_keep (kU fun σ' => σ' = σf) 37 [some (.inr (9, 0)), some (.inl x1)] [.inr (9, 0)] σ := by
  unfold fb_Rm_keep_37 at h
  refine s_Rm_keep_37  ?_
  exact e_Rm_keep_48  h
def fb_Rm_keep_27  (x1 : Int) (σ : kS) : kRes := kg ((-2147483648 ≤ σ 9 0 14 ∧ σ 9 0 14 < 2147483648)) (if 9 ≤ (σ 9 0 14) then fb_Rm_keep_46  x1 σ else fb_Rm_keep_37  x1 σ)
theorem e_Rm_keep_27 {l : Launch} {G : kG} {σf : kS}  {x1 : Int}  {σ : kS} (h : fb_Rm_keep_27  x1 σ = some (none, σf)) : Rn l G dm_Rm_keep m_Rm_keep (kU fun σ' => σ' = σf) 27 [some (.inr (9, 0)), some (.inl x1)] [] σ := by
  unfold fb_Rm_keep_27 at h
  obtain ⟨h1, h⟩ := kg_some h
  refine s_Rm_keep_27 h1 (fun c => ?_) (fun c => ?_)
  · rw [if_pos c] at h
    exact e_Rm_keep_46  h
  · rw [if_neg c] at h
    exact e_Rm_keep_37  h
def fb_Rm_keep_17  (x1 : Int) (σ : kS) : kRes := kg ((0 ≤ σ 9 0 14 ∧ σ 9 0 14 < (8 : Nat))) (fb_Rm_keep_27  x1 (kup σ 26 0 (Int.toNat (σ 9 0 14)) x1))
theorem e_Rm_keep_17 {l : Launch} {G : kG} {σf : kS}  {x1 : Int}  {σ : kS} (h : fb_Rm_keep_17  x1 σ = some (none, σf)) : Rn l G dm_Rm_keep m_Rm_keep (kU fun σ' => σ' = σf) 17 [some (.inr (9, 0)), some (.inl x1)] [] σ := by
  unfold fb_Rm_keep_17 at h
  obtain ⟨h1, h⟩ := kg_some h
  refine s_Rm_keep_17 h1 ?_
  exact e_Rm_keep_27  h
def fb_Rm_keep_8  (x1 : Int) (σ : kS) : kRes := kg ((-2147483648 ≤ σ 9 0 14 ∧ σ 9 0 14 < 2147483648)) (if 8 ≤ (σ 9 0 14) then fb_Rm_keep_27  x1 σ else fb_Rm_keep_17  x1 σ)
theorem e_Rm_keep_8 {l : Launch} {G : kG} {σf : kS}  {x1 : Int}  {σ : kS} (h : fb_Rm_keep_8  x1 σ = some (none, σf)) : Rn l G dm_Rm_keep m_Rm_keep (kU fun σ' => σ' = σf) 8 [some (.inr (9, 0)), some (.inl x1)] [] σ := by
  unfold fb_Rm_keep_8 at h
  obtain ⟨h1, h⟩ := kg_some h
  refine s_Rm_keep_8 h1 (fun c => ?_) (fun c => ?_)
  · rw [if_pos c] at h
    exact e_Rm_keep_27  h
  · rw [if_neg c] at h
    exact e_Rm_keep_17  h
def fb_Rm_keep_7  (x1 : Int) (σ : kS) : kRes := some (none, σ)
theorem e_Rm_keep_7 {l : Launch} {G : kG} {σf : kS}  {x1 : Int}  {σ : kS} (h : fb_Rm_keep_7  x1 σ = some (none, σf)) : Rn l G dm_Rm_keep m_Rm_keep (kU fun σ' => σ' = σf) 7 [some (.inr (9, 0)), some (.inl x1)] [] σ := by
  unfold fb_Rm_keep_7 at h
  simp only [Option.some.injEq, Prod.mk.injEq, true_and] at h
  exact s_Rm_keep_7  ⟨rfl, h⟩
def fb_Rm_keep_0  (x1 : Int) (σ : kS) : kRes := kg ((-2147483648 ≤ σ 9 0 15 ∧ σ 9 0 15 < 2147483648)) (if (σ 9 0 15) = 0 then fb_Rm_keep_8  x1 σ else fb_Rm_keep_7  x1 σ)
theorem e_Rm_keep_0 {l : Launch} {G : kG} {σf : kS}  {x1 : Int}  {σ : kS} (h : fb_Rm_keep_0  x1 σ = some (none, σf)) : Rn l G dm_Rm_keep m_Rm_keep (kU fun σ' => σ' = σf) 0 [some (.inr (9, 0)), some (.inl x1)] [] σ := by
  unfold fb_Rm_keep_0 at h
  obtain ⟨h1, h⟩ := kg_some h
  refine s_Rm_keep_0 h1 (fun c => ?_) (fun c => ?_)
  · rw [if_pos c] at h
    exact e_Rm_keep_8  h
  · rw [if_neg c] at h
    exact e_Rm_keep_7  h
def f_Rm_keep (x1 : Int) (σ : kS) : kRes := fb_Rm_keep_0 x1 σ
theorem E_Rm_keep {l : Launch} {G : kG} {σf : kS} {x1 : Int} {σ : kS} (h : f_Rm_keep x1 σ = some (none, σf)) : Call l G dm_Rm_keep y_Rm_keep m_Rm_keep [.inr (9, 0), .inl x1] σ (kU fun σ' => σ' = σf) := by
  unfold f_Rm_keep at h
  exact Call.of (by decide +kernel) rfl (Nat.le_of_ble_eq_true rfl) (e_Rm_keep_0 h)
/-! Rm_work -/
def fb_Rm_work_176  (x1 : Int) (x2 : Int) (s0 : Int) (σ : kS) : kRes := some (some s0, σ)
theorem e_Rm_work_176 {l : Launch} {G : kG} {yf : Int} {σf : kS}  {x1 : Int} {x2 : Int} {s0 : Int} {o3 : Option kV} {σ : kS} (h : fb_Rm_work_176  x1 x2 s0 σ = some (some yf, σf)) : Rn l G dm_Rm_work m_Rm_work (kI fun y' σ' => y' = yf ∧ σ' = σf) 176 [some (.inr (9, 0)), some (.inl x1), some (.inl x2), o3] [.inl s0] σ := by
  unfold fb_Rm_work_176 at h
  simp only [Option.some.injEq, Prod.mk.injEq, true_and] at h
  exact s_Rm_work_176  ⟨_, rfl, h⟩
def fb_Rm_work_175  (x1 : Int) (x2 : Int) (σ : kS) : kRes := fb_Rm_work_176  x1 x2 0 σ
theorem e_Rm_work_175 {l : Launch} {G : kG} {yf : Int} {σf : kS}  {x1 : Int} {x2 : Int} {o3 : Option kV} {σ : kS} (h : fb_Rm_work_175  x1 x2 σ = some (some yf, σf)) : Rn l G dm_Rm_work m_Rm_work (kI fun y' σ' => y' = yf ∧ σ' = σf) 175 [some (.inr (9, 0)), some (.inl x1), some (.inl x2), o3] [] σ := by
  unfold fb_Rm_work_175 at h
  refine s_Rm_work_175  ?_
  exact e_Rm_work_176  h
def fb_Rm_work_171  (x1 : Int) (x2 : Int) (σ : kS) : kRes := fb_Rm_work_176  x1 x2 1 σ
theorem e_Rm_work_171 {l : Launch} {G : kG} {yf : Int} {σf : kS}  {x1 : Int} {x2 : Int} {o3 : Option kV} {σ : kS} (h : fb_Rm_work_171  x1 x2 σ = some (some yf, σf)) : Rn l G dm_Rm_work m_Rm_work (kI fun y' σ' => y' = yf ∧ σ' = σf) 171 [some (.inr (9, 0)), some (.inl x1), some (.inl x2), o3] [] σ := by
  unfold fb_Rm_work_171 at h
  refine s_Rm_work_171  ?_
  exact e_Rm_work_176  h
def fb_Rm_work_167  (x1 : Int) (x2 : Int) (σ : kS) : kRes := kg ((-2147483648 ≤ x2 ∧ x2 < 2147483648)) (if x2 = 0 then fb_Rm_work_171  x1 x2 σ else fb_Rm_work_175  x1 x2 σ)
theorem e_Rm_work_167 {l : Launch} {G : kG} {yf : Int} {σf : kS}  {x1 : Int} {x2 : Int} {o3 : Option kV} {σ : kS} (h : fb_Rm_work_167  x1 x2 σ = some (some yf, σf)) : Rn l G dm_Rm_work m_Rm_work (kI fun y' σ' => y' = yf ∧ σ' = σf) 167 [some (.inr (9, 0)), some (.inl x1), some (.inl x2), o3] [] σ := by
  unfold fb_Rm_work_167 at h
  obtain ⟨h1, h⟩ := kg_some h
  refine s_Rm_work_167 h1 (fun c => ?_) (fun c => ?_)
  · rw [if_neg c] at h
    exact e_Rm_work_175  h
  · rw [if_pos c] at h
    exact e_Rm_work_171  h
def fb_Rm_work_163  (x1 : Int) (x2 : Int) (σ : kS) : kRes := kbu (f_Rm_drop  σ) fun σ1 => fb_Rm_work_167  x1 x2 σ1
theorem e_Rm_work_163 {l : Launch} {G : kG} {yf : Int} {σf : kS}  {x1 : Int} {x2 : Int} {o3 : Option kV} {σ : kS} (h : fb_Rm_work_163  x1 x2 σ = some (some yf, σf)) : Rn l G dm_Rm_work m_Rm_work (kI fun y' σ' => y' = yf ∧ σ' = σf) 163 [some (.inr (9, 0)), some (.inl x1), some (.inl x2), o3] [] σ := by
  unfold fb_Rm_work_163 at h
  obtain ⟨σ1, hc, h⟩ := kbu_some h
  refine s_Rm_work_163  (by decide) (E_Rm_drop hc) (fun σ2 e2 => ?_)
  subst e2
  exact e_Rm_work_167  h
def fb_Rm_work_159  (x1 : Int) (x2 : Int) (σ : kS) : kRes := kbu (f_Rm_clip  σ) fun σ1 => fb_Rm_work_163  x1 x2 σ1
theorem e_Rm_work_159 {l : Launch} {G : kG} {yf : Int} {σf : kS}  {x1 : Int} {x2 : Int} {o3 : Option kV} {σ : kS} (h : fb_Rm_work_159  x1 x2 σ = some (some yf, σf)) : Rn l G dm_Rm_work m_Rm_work (kI fun y' σ' => y' = yf ∧ σ' = σf) 159 [some (.inr (9, 0)), some (.inl x1), some (.inl x2), o3] [] σ := by
  unfold fb_Rm_work_159 at h
  obtain ⟨σ1, hc, h⟩ := kbu_some h
  refine s_Rm_work_159  (by decide) (E_Rm_clip hc) (fun σ2 e2 => ?_)
  subst e2
  exact e_Rm_work_163  h
def fb_Rm_work_152  (x1 : Int) (x2 : Int) (σ : kS) : kRes := kg ((-2147483648 ≤ σ 9 0 5 ∧ σ 9 0 5 < 2147483648)) (if (σ 9 0 5) = 0 then fb_Rm_work_159  x1 x2 σ else fb_Rm_work_163  x1 x2 σ)
theorem e_Rm_work_152 {l : Launch} {G : kG} {yf : Int} {σf : kS}  {x1 : Int} {x2 : Int} {o3 : Option kV} {σ : kS} (h : fb_Rm_work_152  x1 x2 σ = some (some yf, σf)) : Rn l G dm_Rm_work m_Rm_work (kI fun y' σ' => y' = yf ∧ σ' = σf) 152 [some (.inr (9, 0)), some (.inl x1), some (.inl x2), o3] [] σ := by
  unfold fb_Rm_work_152 at h
  obtain ⟨h1, h⟩ := kg_some h
  refine s_Rm_work_152 h1 (fun c => ?_) (fun c => ?_)
  · rw [if_neg c] at h
    exact e_Rm_work_163  h
  · rw [if_pos c] at h
    exact e_Rm_work_159  h
def fb_Rm_work_146 (k128 : Int → Int → Int → kS → kRes) (x1 : Int) (x2 : Int) (x3 : Int) (σ : kS) : kRes := k128 x1 x2 (x3 + 1) σ
theorem e_Rm_work_146 {l : Launch} {G : kG} {yf : Int} {σf : kS} {k128 : Int → Int → Int → kS → kRes} (hk128 : ∀ (x1 : Int) (x2 : Int) (x3 : Int)  (σ : kS), k128 x1 x2 x3 σ = some (some yf, σf) → Rn l G dm_Rm_work m_Rm_work (kI fun y' σ' => y' = yf ∧ σ' = σf) 128 [some (.inr (9, 0)), some (.inl x1), some (.inl x2), some (.inl x3)] [] σ) {x1 : Int} {x2 : Int} {x3 : Int}  {σ : kS} (h : fb_Rm_work_146 k128 x1 x2 x3 σ = some (some yf, σf)) : Rn l G dm_Rm_work m_Rm_work (kI fun y' σ' => y' = yf ∧ σ' = σf) 146 [some (.inr (9, 0)), some (.inl x1), some (.inl x2), some (.inl x3)] [] σ := by
  unfold fb_Rm_work_146 at h
  refine s_Rm_work_146  ?_
  exact hk128 _ _ _ _ h
def fb_Rm_work_136 (k128 : Int → Int → Int → kS → kRes) (x1 : Int) (x2 : Int) (x3 : Int) (σ : kS) : kRes := kg ((0 ≤ x3 ∧ x3 < (6 : Nat))) (kbu (f_Rm_keep (σ 25 0 (Int.toNat x3)) σ) fun σ1 => fb_Rm_work_146 k128 x1 x2 x3 σ1)
theorem e_Rm_work_136 {l : Launch} {G : kG} {yf : Int} {σf : kS} {k128 : Int → Int → Int → kS → kRes} (hk128 : ∀ (x1 : Int) (x2 : Int) (x3 : Int)  (σ : kS), k128 x1 x2 x3 σ = some (some yf, σf) → Rn l G dm_Rm_work m_Rm_work (kI fun y' σ' => y' = yf ∧ σ' = σf) 128 [some (.inr (9, 0)), some (.inl x1), some (.inl x2), some (.inl x3)] [] σ) {x1 : Int} {x2 : Int} {x3 : Int}  {σ : kS} (h : fb_Rm_work_136 k128 x1 x2 x3 σ = some (some yf, σf)) : Rn l G dm_Rm_work m_Rm_work (kI fun y' σ' => y' = yf ∧ σ' = σf) 136 [some (.inr (9, 0)), some (.inl x1), some (.inl x2), some (.inl x3)] [] σ := by
  unfold fb_Rm_work_136 at h
  obtain ⟨h1, h⟩ := kg_some h
  obtain ⟨σ1, hc, h⟩ := kbu_some h
  refine s_Rm_work_136 h1 (by decide) (E_Rm_keep hc) (fun σ2 e2 => ?_)
  subst e2
  exact e_Rm_work_146 hk128 h
def fb_Rm_work_128 (k128 : Int → Int → Int → kS → kRes) (x1 : Int) (x2 : Int) (x3 : Int) (σ : kS) : kRes := kg ((-2147483648 ≤ x3 ∧ x3 < 2147483648) ∧ (-2147483648 ≤ σ 9 0 12 ∧ σ 9 0 12 < 2147483648)) (if (σ 9 0 12) ≤ x3 then fb_Rm_work_152  x1 x2 σ else fb_Rm_work_136 k128 x1 x2 x3 σ)
theorem e_Rm_work_128 {l : Launch} {G : kG} {yf : Int} {σf : kS} {k128 : Int → Int → Int → kS → kRes} (hk128 : ∀ (x1 : Int) (x2 : Int) (x3 : Int)  (σ : kS), k128 x1 x2 x3 σ = some (some yf, σf) → Rn l G dm_Rm_work m_Rm_work (kI fun y' σ' => y' = yf ∧ σ' = σf) 128 [some (.inr (9, 0)), some (.inl x1), some (.inl x2), some (.inl x3)] [] σ) {x1 : Int} {x2 : Int} {x3 : Int}  {σ : kS} (h : fb_Rm_work_128 k128 x1 x2 x3 σ = some (some yf, σf)) : Rn l G dm_Rm_work m_Rm_work (kI fun y' σ' => y' = yf ∧ σ' = σf) 128 [some (.inr (9, 0)), some (.inl x1), some (.inl x2), some (.inl x3)] [] σ := by
  unfold fb_Rm_work_128 at h
  obtain ⟨⟨h1, h2⟩, h⟩ := kg_some h
  refine s_Rm_work_128 h1 h2 (fun c => ?_) (fun c => ?_)
  · rw [if_pos c] at h
    exact e_Rm_work_152  h
  · rw [if_neg c] at h
    exact e_Rm_work_136 hk128 h
def fl_Rm_work_128  : Nat → Int → Int → Int → kS → kRes
  | 0, _, _, _, _ => none
  | n + 1, x1, x2, x3, σ => fb_Rm_work_128 (fl_Rm_work_128  n) x1 x2 x3 σ
theorem el_Rm_work_128 {l : Launch} {G : kG} {yf : Int} {σf : kS}  : ∀ (n : Nat) (x1 : Int) (x2 : Int) (x3 : Int)  (σ : kS), fl_Rm_work_128  n x1 x2 x3 σ = some (some yf, σf) → Rn l G dm_Rm_work m_Rm_work (kI fun y' σ' => y' = yf ∧ σ' = σf) 128 [some (.inr (9, 0)), some (.inl x1), some (.inl x2), some (.inl x3)] [] σ := by
  intro n
  induction n with
  | zero => intro x1 x2 x3 σ h; simp only [fl_Rm_work_128] at h; cases h
  | succ n ih => intro x1 x2 x3 σ h; simp only [fl_Rm_work_128] at h; exact e_Rm_work_128 ih h
def fb_Rm_work_123  (x1 : Int) (x2 : Int) (s0 : Int) (σ : kS) : kRes := fl_Rm_work_128  3000 x1 x2 0 (kup σ 9 0 14 s0)
theorem e_Rm_work_123 {l : Launch} {G : kG} {yf : Int} {σf : kS}  {x1 : Int} {x2 : Int} {s0 : Int} {o3 : Option kV} {σ : kS} (h : fb_Rm_work_123  x1 x2 s0 σ = some (some yf, σf)) : Rn l G dm_Rm_work m_Rm_work (kI fun y' σ' => y' = yf ∧ σ' = σf) 123 [some (.inr (9, 0)), some (.inl x1), some (.inl x2), o3] [.inl s0, .inr (9, 0)] σ := by
  unfold fb_Rm_work_123 at h
  refine s_Rm_work_123  ?_
  exact el_Rm_work_128  _ _ _ _ _ h
def fb_Rm_work_122  (x1 : Int) (x2 : Int) (σ : kS) : kRes := fb_Rm_work_123  x1 x2 0 σ
theorem e_Rm_work_122 {l : Launch} {G : kG} {yf : Int} {σf : kS}  {x1 : Int} {x2 : Int} {o3 : Option kV} {σ : kS} (h : fb_Rm_work_122  x1 x2 σ = some (some yf, σf)) : Rn l G dm_Rm_work m_Rm_work (kI fun y' σ' => y' = yf ∧ σ' = σf) 122 [some (.inr (9, 0)), some (.inl x1), some (.inl x2), o3] [.inr (9, 0)] σ := by
  unfold fb_Rm_work_122 at h
  refine s_Rm_work_122  ?_
  exact e_Rm_work_123  h
def fb_Rm_work_115  (x1 : Int) (x2 : Int) (σ : kS) : kRes := fb_Rm_work_123  x1 x2 (σ 9 0 14) σ
theorem e_Rm_work_115 {l : Launch} {G : kG} {yf : Int} {σf : kS}  {x1 : Int} {x2 : Int} {o3 : Option kV} {σ : kS} (h : fb_Rm_work_115  x1 x2 σ = some (some yf, σf)) : Rn l G dm_Rm_work m_Rm_work (kI fun y' σ' => y' = yf ∧ σ' = σf) 115 [some (.inr (9, 0)), some (.inl x1), some (.inl x2), o3] [.inr (9, 0)] σ := by
  unfold fb_Rm_work_115 at h
  refine s_Rm_work_115  ?_
  exact e_Rm_work_123  h
def fb_Rm_work_107  (x1 : Int) (x2 : Int) (σ : kS) : kRes := kg ((-2147483648 ≤ σ 9 0 15 ∧ σ 9 0 15 < 2147483648)) (if (σ 9 0 15) = 0 then fb_Rm_work_122  x1 x2 σ else fb_Rm_work_115  x1 x2 σ)
theorem e_Rm_work_107 {l : Launch} {G : kG} {yf : Int} {σf : kS}  {x1 : Int} {x2 : Int} {o3 : Option kV} {σ : kS} (h : fb_Rm_work_107  x1 x2 σ = some (some yf, σf)) : Rn l G dm_Rm_work m_Rm_work (kI fun y' σ' => y' = yf ∧ σ' = σf) 107 [some (.inr (9, 0)), some (.inl x1), some (.inl x2), o3] [] σ := by
  unfold fb_Rm_work_107 at h
  obtain ⟨h1, h⟩ := kg_some h
  refine s_Rm_work_107 h1 (fun c => ?_) (fun c => ?_)
  · rw [if_pos c] at h
    exact e_Rm_work_122  h
  · rw [if_neg c] at h
    exact e_Rm_work_115  h
def fb_Rm_work_103  (x1 : Int) (x2 : Int) (σ : kS) : kRes := kbu (f_Rm_changed  σ) fun σ1 => fb_Rm_work_107  x1 x2 σ1
theorem e_Rm_work_103 {l : Launch} {G : kG} {yf : Int} {σf : kS}  {x1 : Int} {x2 : Int} {o3 : Option kV} {σ : kS} (h : fb_Rm_work_103  x1 x2 σ = some (some yf, σf)) : Rn l G dm_Rm_work m_Rm_work (kI fun y' σ' => y' = yf ∧ σ' = σf) 103 [some (.inr (9, 0)), some (.inl x1), some (.inl x2), o3] [] σ := by
  unfold fb_Rm_work_103 at h
  obtain ⟨σ1, hc, h⟩ := kbu_some h
  refine s_Rm_work_103  (by decide) (E_Rm_changed hc) (fun σ2 e2 => ?_)
  subst e2
  exact e_Rm_work_107  h
def fb_Rm_work_98  (x1 : Int) (x2 : Int) (σ : kS) : kRes := kg ((-2147483648 ≤ x2 ∧ x2 < 2147483648)) (if x2 = 3 then fb_Rm_work_103  x1 x2 σ else fb_Rm_work_152  x1 x2 σ)
theorem e_Rm_work_98 {l : Launch} {G : kG} {yf : Int} {σf : kS}  {x1 : Int} {x2 : Int} {o3 : Option kV} {σ : kS} (h : fb_Rm_work_98  x1 x2 σ = some (some yf, σf)) : Rn l G dm_Rm_work m_Rm_work (kI fun y' σ' => y' = yf ∧ σ' = σf) 98 [some (.inr (9, 0)), some (.inl x1), some (.inl x2), o3] [] σ := by
  unfold fb_Rm_work_98 at h
  obtain ⟨h1, h⟩ := kg_some h
  refine s_Rm_work_98 h1 (fun c => ?_) (fun c => ?_)
  · rw [if_neg c] at h
    exact e_Rm_work_152  h
  · rw [if_pos c] at h
    exact e_Rm_work_103  h
def fb_Rm_work_96  (x1 : Int) (x2 : Int) (σ : kS) : kRes := some (some 0, σ)
theorem e_Rm_work_96 {l : Launch} {G : kG} {yf : Int} {σf : kS}  {x1 : Int} {x2 : Int} {o3 : Option kV} {σ : kS} (h : fb_Rm_work_96  x1 x2 σ = some (some yf, σf)) : Rn l G dm_Rm_work m_Rm_work (kI fun y' σ' => y' = yf ∧ σ' = σf) 96 [some (.inr (9, 0)), some (.inl x1), some (.inl x2), o3] [] σ := by
  unfold fb_Rm_work_96 at h
  simp only [Option.some.injEq, Prod.mk.injEq, true_and] at h
  exact s_Rm_work_96  ⟨_, rfl, h⟩
def fb_Rm_work_90  (x1 : Int) (s0 : Int) (σ : kS) : kRes := kg ((-2147483648 ≤ s0 ∧ s0 < 2147483648)) (if s0 = 1 then fb_Rm_work_96  x1 s0 σ else fb_Rm_work_98  x1 s0 σ)
theorem e_Rm_work_90 {l : Launch} {G : kG} {yf : Int} {σf : kS}  {x1 : Int} {s0 : Int} {o2 : Option kV} {o3 : Option kV} {σ : kS} (h : fb_Rm_work_90  x1 s0 σ = some (some yf, σf)) : Rn l G dm_Rm_work m_Rm_work (kI fun y' σ' => y' = yf ∧ σ' = σf) 90 [some (.inr (9, 0)), some (.inl x1), o2, o3] [.inl s0] σ := by
  unfold fb_Rm_work_90 at h
  obtain ⟨h1, h⟩ := kg_some h
  refine s_Rm_work_90 h1 (fun c => ?_) (fun c => ?_)
  · rw [if_neg c] at h
    exact e_Rm_work_98  h
  · rw [if_pos c] at h
    exact e_Rm_work_96  h
def fb_Rm_work_85  (x1 : Int) (σ : kS) : kRes := kbi (f_Rm_command x1 σ) fun y σ1 => fb_Rm_work_90  x1 y σ1
theorem e_Rm_work_85 {l : Launch} {G : kG} {yf : Int} {σf : kS}  {x1 : Int} {o2 : Option kV} {o3 : Option kV} {σ : kS} (h : fb_Rm_work_85  x1 σ = some (some yf, σf)) : Rn l G dm_Rm_work m_Rm_work (kI fun y' σ' => y' = yf ∧ σ' = σf) 85 [some (.inr (9, 0)), some (.inl x1), o2, o3] [] σ := by
  unfold fb_Rm_work_85 at h
  obtain ⟨y, σ1, hc, h⟩ := kbi_some h
  refine s_Rm_work_85  (by decide) (E_Rm_command hc) (fun y2 σ2 e2 => ?_)
  obtain ⟨rfl, rfl⟩ := e2
  exact e_Rm_work_90  h
def fb_Rm_work_59  (x1 : Int) (σ : kS) : kRes := kg ((0 ≤ σ 9 0 12 ∧ σ 9 0 12 < (6 : Nat))) (kbu (f_Rm_copyText 0 2 (kup (kup σ 25 0 (Int.toNat (σ 9 0 12)) x1) 9 0 12 (((kup σ 25 0 (Int.toNat (σ 9 0 12)) x1) 9 0 12) + 1))) fun σ1 => fb_Rm_work_85  x1 σ1)
theorem e_Rm_work_59 {l : Launch} {G : kG} {yf : Int} {σf : kS}  {x1 : Int} {o2 : Option kV} {o3 : Option kV} {σ : kS} (h : fb_Rm_work_59  x1 σ = some (some yf, σf)) : Rn l G dm_Rm_work m_Rm_work (kI fun y' σ' => y' = yf ∧ σ' = σf) 59 [some (.inr (9, 0)), some (.inl x1), o2, o3] [] σ := by
  unfold fb_Rm_work_59 at h
  obtain ⟨h1, h⟩ := kg_some h
  obtain ⟨σ1, hc, h⟩ := kbu_some h
  refine s_Rm_work_59 h1 (by decide) (E_Rm_copyText hc) (fun σ2 e2 => ?_)
  subst e2
  exact e_Rm_work_85  h
def fb_Rm_work_57  (x1 : Int) (σ : kS) : kRes := some (some 0, σ)
theorem e_Rm_work_57 {l : Launch} {G : kG} {yf : Int} {σf : kS}  {x1 : Int} {o2 : Option kV} {o3 : Option kV} {σ : kS} (h : fb_Rm_work_57  x1 σ = some (some yf, σf)) : Rn l G dm_Rm_work m_Rm_work (kI fun y' σ' => y' = yf ∧ σ' = σf) 57 [some (.inr (9, 0)), some (.inl x1), o2, o3] [] σ := by
  unfold fb_Rm_work_57 at h
  simp only [Option.some.injEq, Prod.mk.injEq, true_and] at h
  exact s_Rm_work_57  ⟨_, rfl, h⟩
def fb_Rm_work_53  (x1 : Int) (σ : kS) : kRes := kbu (f_Rm_drop  σ) fun σ1 => fb_Rm_work_57  x1 σ1
theorem e_Rm_work_53 {l : Launch} {G : kG} {yf : Int} {σf : kS}  {x1 : Int} {o2 : Option kV} {o3 : Option kV} {σ : kS} (h : fb_Rm_work_53  x1 σ = some (some yf, σf)) : Rn l G dm_Rm_work m_Rm_work (kI fun y' σ' => y' = yf ∧ σ' = σf) 53 [some (.inr (9, 0)), some (.inl x1), o2, o3] [] σ := by
  unfold fb_Rm_work_53 at h
  obtain ⟨σ1, hc, h⟩ := kbu_some h
  refine s_Rm_work_53  (by decide) (E_Rm_drop hc) (fun σ2 e2 => ?_)
  subst e2
  exact e_Rm_work_57  h
def fb_Rm_work_47  (x1 : Int) (σ : kS) : kRes := kg ((-2147483648 ≤ x1 ∧ x1 < 2147483648)) (if x1 = 27 then fb_Rm_work_53  x1 σ else fb_Rm_work_59  x1 σ)
theorem e_Rm_work_47 {l : Launch} {G : kG} {yf : Int} {σf : kS}  {x1 : Int} {o2 : Option kV} {o3 : Option kV} {σ : kS} (h : fb_Rm_work_47  x1 σ = some (some yf, σf)) : Rn l G dm_Rm_work m_Rm_work (kI fun y' σ' => y' = yf ∧ σ' = σf) 47 [some (.inr (9, 0)), some (.inl x1), o2, o3] [] σ := by
  unfold fb_Rm_work_47 at h
  obtain ⟨h1, h⟩ := kg_some h
  refine s_Rm_work_47 h1 (fun c => ?_) (fun c => ?_)
  · rw [if_neg c] at h
    exact e_Rm_work_59  h
  · rw [if_pos c] at h
    exact e_Rm_work_53  h
def fb_Rm_work_46  (x1 : Int) (x2 : Int) (s0 : Int) (σ : kS) : kRes := some (some s0, σ)
theorem e_Rm_work_46 {l : Launch} {G : kG} {yf : Int} {σf : kS}  {x1 : Int} {x2 : Int} {s0 : Int} {o3 : Option kV} {σ : kS} (h : fb_Rm_work_46  x1 x2 s0 σ = some (some yf, σf)) : Rn l G dm_Rm_work m_Rm_work (kI fun y' σ' => y' = yf ∧ σ' = σf) 46 [some (.inr (9, 0)), some (.inl x1), some (.inl x2), o3] [.inl s0] σ := by
  unfold fb_Rm_work_46 at h
  simp only [Option.some.injEq, Prod.mk.injEq, true_and] at h
  exact s_Rm_work_46  ⟨_, rfl, h⟩
def fb_Rm_work_45  (x1 : Int) (x2 : Int) (σ : kS) : kRes := fb_Rm_work_46  x1 x2 1 σ
theorem e_Rm_work_45 {l : Launch} {G : kG} {yf : Int} {σf : kS}  {x1 : Int} {x2 : Int} {o3 : Option kV} {σ : kS} (h : fb_Rm_work_45  x1 x2 σ = some (some yf, σf)) : Rn l G dm_Rm_work m_Rm_work (kI fun y' σ' => y' = yf ∧ σ' = σf) 45 [some (.inr (9, 0)), some (.inl x1), some (.inl x2), o3] [] σ := by
  unfold fb_Rm_work_45 at h
  refine s_Rm_work_45  ?_
  exact e_Rm_work_46  h
def fb_Rm_work_41  (x1 : Int) (x2 : Int) (σ : kS) : kRes := fb_Rm_work_46  x1 x2 0 σ
theorem e_Rm_work_41 {l : Launch} {G : kG} {yf : Int} {σf : kS}  {x1 : Int} {x2 : Int} {o3 : Option kV} {σ : kS} (h : fb_Rm_work_41  x1 x2 σ = some (some yf, σf)) : Rn l G dm_Rm_work m_Rm_work (kI fun y' σ' => y' = yf ∧ σ' = σf) 41 [some (.inr (9, 0)), some (.inl x1), some (.inl x2), o3] [] σ := by
  unfold fb_Rm_work_41 at h
  refine s_Rm_work_41  ?_
  exact e_Rm_work_46  h
def fb_Rm_work_37  (x1 : Int) (x2 : Int) (σ : kS) : kRes := kg ((-2147483648 ≤ x2 ∧ x2 < 2147483648)) (if x2 = 0 then fb_Rm_work_45  x1 x2 σ else fb_Rm_work_41  x1 x2 σ)
theorem e_Rm_work_37 {l : Launch} {G : kG} {yf : Int} {σf : kS}  {x1 : Int} {x2 : Int} {o3 : Option kV} {σ : kS} (h : fb_Rm_work_37  x1 x2 σ = some (some yf, σf)) : Rn l G dm_Rm_work m_Rm_work (kI fun y' σ' => y' = yf ∧ σ' = σf) 37 [some (.inr (9, 0)), some (.inl x1), some (.inl x2), o3] [] σ := by
  unfold fb_Rm_work_37 at h
  obtain ⟨h1, h⟩ := kg_some h
  refine s_Rm_work_37 h1 (fun c => ?_) (fun c => ?_)
  · rw [if_pos c] at h
    exact e_Rm_work_45  h
  · rw [if_neg c] at h
    exact e_Rm_work_41  h
def fb_Rm_work_32  (x1 : Int) (x2 : Int) (σ : kS) : kRes := kbu (f_Rm_keep x1 σ) fun σ1 => fb_Rm_work_37  x1 x2 σ1
theorem e_Rm_work_32 {l : Launch} {G : kG} {yf : Int} {σf : kS}  {x1 : Int} {x2 : Int} {o3 : Option kV} {σ : kS} (h : fb_Rm_work_32  x1 x2 σ = some (some yf, σf)) : Rn l G dm_Rm_work m_Rm_work (kI fun y' σ' => y' = yf ∧ σ' = σf) 32 [some (.inr (9, 0)), some (.inl x1), some (.inl x2), o3] [] σ := by
  unfold fb_Rm_work_32 at h
  obtain ⟨σ1, hc, h⟩ := kbu_some h
  refine s_Rm_work_32  (by decide) (E_Rm_keep hc) (fun σ2 e2 => ?_)
  subst e2
  exact e_Rm_work_37  h
def fb_Rm_work_27  (x1 : Int) (s0 : Int) (σ : kS) : kRes := kg ((-2147483648 ≤ s0 ∧ s0 < 2147483648)) (if s0 = 0 then fb_Rm_work_37  x1 s0 σ else fb_Rm_work_32  x1 s0 σ)
theorem e_Rm_work_27 {l : Launch} {G : kG} {yf : Int} {σf : kS}  {x1 : Int} {s0 : Int} {o2 : Option kV} {o3 : Option kV} {σ : kS} (h : fb_Rm_work_27  x1 s0 σ = some (some yf, σf)) : Rn l G dm_Rm_work m_Rm_work (kI fun y' σ' => y' = yf ∧ σ' = σf) 27 [some (.inr (9, 0)), some (.inl x1), o2, o3] [.inl s0] σ := by
  unfold fb_Rm_work_27 at h
  obtain ⟨h1, h⟩ := kg_some h
  refine s_Rm_work_27 h1 (fun c => ?_) (fun c => ?_)
  · rw [if_pos c] at h
    exact e_Rm_work_37  h
  · rw [if_neg c] at h
    exact e_Rm_work_32  h
def fb_Rm_work_22  (x1 : Int) (σ : kS) : kRes := kbi (f_Rm_insert x1 σ) fun y σ1 => fb_Rm_work_27  x1 y σ1
theorem e_Rm_work_22 {l : Launch} {G : kG} {yf : Int} {σf : kS}  {x1 : Int} {o2 : Option kV} {o3 : Option kV} {σ : kS} (h : fb_Rm_work_22  x1 σ = some (some yf, σf)) : Rn l G dm_Rm_work m_Rm_work (kI fun y' σ' => y' = yf ∧ σ' = σf) 22 [some (.inr (9, 0)), some (.inl x1), o2, o3] [] σ := by
  unfold fb_Rm_work_22 at h
  obtain ⟨y, σ1, hc, h⟩ := kbi_some h
  refine s_Rm_work_22  (by decide) (E_Rm_insert hc) (fun y2 σ2 e2 => ?_)
  obtain ⟨rfl, rfl⟩ := e2
  exact e_Rm_work_27  h
def fb_Rm_work_14  (x1 : Int) (σ : kS) : kRes := kg ((-2147483648 ≤ σ 9 0 5 ∧ σ 9 0 5 < 2147483648)) (if (σ 9 0 5) = 1 then fb_Rm_work_22  x1 σ else fb_Rm_work_47  x1 σ)
theorem e_Rm_work_14 {l : Launch} {G : kG} {yf : Int} {σf : kS}  {x1 : Int} {o2 : Option kV} {o3 : Option kV} {σ : kS} (h : fb_Rm_work_14  x1 σ = some (some yf, σf)) : Rn l G dm_Rm_work m_Rm_work (kI fun y' σ' => y' = yf ∧ σ' = σf) 14 [some (.inr (9, 0)), some (.inl x1), o2, o3] [] σ := by
  unfold fb_Rm_work_14 at h
  obtain ⟨h1, h⟩ := kg_some h
  refine s_Rm_work_14 h1 (fun c => ?_) (fun c => ?_)
  · rw [if_neg c] at h
    exact e_Rm_work_47  h
  · rw [if_pos c] at h
    exact e_Rm_work_22  h
def fb_Rm_work_13  (x1 : Int) (s0 : Int) (σ : kS) : kRes := some (some s0, σ)
theorem e_Rm_work_13 {l : Launch} {G : kG} {yf : Int} {σf : kS}  {x1 : Int} {s0 : Int} {o2 : Option kV} {o3 : Option kV} {σ : kS} (h : fb_Rm_work_13  x1 s0 σ = some (some yf, σf)) : Rn l G dm_Rm_work m_Rm_work (kI fun y' σ' => y' = yf ∧ σ' = σf) 13 [some (.inr (9, 0)), some (.inl x1), o2, o3] [.inl s0] σ := by
  unfold fb_Rm_work_13 at h
  simp only [Option.some.injEq, Prod.mk.injEq, true_and] at h
  exact s_Rm_work_13  ⟨_, rfl, h⟩
def fb_Rm_work_8  (x1 : Int) (σ : kS) : kRes := kbi (f_Rm_inPrompt x1 σ) fun y σ1 => fb_Rm_work_13  x1 y σ1
theorem e_Rm_work_8 {l : Launch} {G : kG} {yf : Int} {σf : kS}  {x1 : Int} {o2 : Option kV} {o3 : Option kV} {σ : kS} (h : fb_Rm_work_8  x1 σ = some (some yf, σf)) : Rn l G dm_Rm_work m_Rm_work (kI fun y' σ' => y' = yf ∧ σ' = σf) 8 [some (.inr (9, 0)), some (.inl x1), o2, o3] [] σ := by
  unfold fb_Rm_work_8 at h
  obtain ⟨y, σ1, hc, h⟩ := kbi_some h
  refine s_Rm_work_8  (by decide) (E_Rm_inPrompt hc) (fun y2 σ2 e2 => ?_)
  obtain ⟨rfl, rfl⟩ := e2
  exact e_Rm_work_13  h
def fb_Rm_work_0  (x1 : Int) (σ : kS) : kRes := kg ((-2147483648 ≤ σ 9 0 5 ∧ σ 9 0 5 < 2147483648)) (if (σ 9 0 5) = 2 then fb_Rm_work_8  x1 σ else fb_Rm_work_14  x1 σ)
theorem e_Rm_work_0 {l : Launch} {G : kG} {yf : Int} {σf : kS}  {x1 : Int} {o2 : Option kV} {o3 : Option kV} {σ : kS} (h : fb_Rm_work_0  x1 σ = some (some yf, σf)) : Rn l G dm_Rm_work m_Rm_work (kI fun y' σ' => y' = yf ∧ σ' = σf) 0 [some (.inr (9, 0)), some (.inl x1), o2, o3] [] σ := by
  unfold fb_Rm_work_0 at h
  obtain ⟨h1, h⟩ := kg_some h
  refine s_Rm_work_0 h1 (fun c => ?_) (fun c => ?_)
  · rw [if_neg c] at h
    exact e_Rm_work_14  h
  · rw [if_pos c] at h
    exact e_Rm_work_8  h
def f_Rm_work (x1 : Int) (σ : kS) : kRes := fb_Rm_work_0 x1 σ
theorem E_Rm_work {l : Launch} {G : kG} {yf : Int} {σf : kS} {x1 : Int} {σ : kS} (h : f_Rm_work x1 σ = some (some yf, σf)) : Call l G dm_Rm_work y_Rm_work m_Rm_work [.inr (9, 0), .inl x1] σ (kI fun y' σ' => y' = yf ∧ σ' = σf) := by
  unfold f_Rm_work at h
  exact Call.of (by decide +kernel) rfl (Nat.le_of_ble_eq_true rfl) (e_Rm_work_0 h)
/-! Rm_period -/
def fb_Rm_period_74  (x1 : Int) (x2 : Int) (σ : kS) : kRes := some (some x1, kup σ 9 0 15 0)
theorem e_Rm_period_74 {l : Launch} {G : kG} {yf : Int} {σf : kS}  {x1 : Int} {x2 : Int} {o3 : Option kV} {σ : kS} (h : fb_Rm_period_74  x1 x2 σ = some (some yf, σf)) : Rn l G dm_Rm_period m_Rm_period (kI fun y' σ' => y' = yf ∧ σ' = σf) 74 [some (.inr (9, 0)), some (.inl x1), some (.inl x2), o3] [] σ := by
  unfold fb_Rm_period_74 at h
  simp only [Option.some.injEq, Prod.mk.injEq, true_and] at h
  exact s_Rm_period_74  ⟨_, rfl, h⟩
def fb_Rm_period_67 (k27 : Int → Int → kS → kRes) (x1 : Int) (x2 : Int) (x3 : Int) (s0 : Int) (σ : kS) : kRes := k27 s0 (x2 + 1) σ
theorem e_Rm_period_67 {l : Launch} {G : kG} {yf : Int} {σf : kS} {k27 : Int → Int → kS → kRes} (hk27 : ∀ (x1 : Int) (x2 : Int) (o3 : Option kV) (σ : kS), k27 x1 x2 σ = some (some yf, σf) → Rn l G dm_Rm_period m_Rm_period (kI fun y' σ' => y' = yf ∧ σ' = σf) 27 [some (.inr (9, 0)), some (.inl x1), some (.inl x2), o3] [] σ) {x1 : Int} {x2 : Int} {x3 : Int} {s0 : Int}  {σ : kS} (h : fb_Rm_period_67 k27 x1 x2 x3 s0 σ = some (some yf, σf)) : Rn l G dm_Rm_period m_Rm_period (kI fun y' σ' => y' = yf ∧ σ' = σf) 67 [some (.inr (9, 0)), some (.inl x1), some (.inl x2), some (.inl x3)] [.inl s0] σ := by
  unfold fb_Rm_period_67 at h
  refine s_Rm_period_67  ?_
  exact hk27 _ _ _ _ h
def fb_Rm_period_66 (k27 : Int → Int → kS → kRes) (x1 : Int) (x2 : Int) (x3 : Int) (σ : kS) : kRes := fb_Rm_period_67 k27 x1 x2 x3 x1 σ
theorem e_Rm_period_66 {l : Launch} {G : kG} {yf : Int} {σf : kS} {k27 : Int → Int → kS → kRes} (hk27 : ∀ (x1 : Int) (x2 : Int) (o3 : Option kV) (σ : kS), k27 x1 x2 σ = some (some yf, σf) → Rn l G dm_Rm_period m_Rm_period (kI fun y' σ' => y' = yf ∧ σ' = σf) 27 [some (.inr (9, 0)), some (.inl x1), some (.inl x2), o3] [] σ) {x1 : Int} {x2 : Int} {x3 : Int}  {σ : kS} (h : fb_Rm_period_66 k27 x1 x2 x3 σ = some (some yf, σf)) : Rn l G dm_Rm_period m_Rm_period (kI fun y' σ' => y' = yf ∧ σ' = σf) 66 [some (.inr (9, 0)), some (.inl x1), some (.inl x2), some (.inl x3)] [] σ := by
  unfold fb_Rm_period_66 at h
  refine s_Rm_period_66  ?_
  exact e_Rm_period_67 hk27 h
def fb_Rm_period_62 (k27 : Int → Int → kS → kRes) (x1 : Int) (x2 : Int) (x3 : Int) (σ : kS) : kRes := fb_Rm_period_67 k27 x1 x2 x3 1 σ
theorem e_Rm_period_62 {l : Launch} {G : kG} {yf : Int} {σf : kS} {k27 : Int → Int → kS → kRes} (hk27 : ∀ (x1 : Int) (x2 : Int) (o3 : Option kV) (σ : kS), k27 x1 x2 σ = some (some yf, σf) → Rn l G dm_Rm_period m_Rm_period (kI fun y' σ' => y' = yf ∧ σ' = σf) 27 [some (.inr (9, 0)), some (.inl x1), some (.inl x2), o3] [] σ) {x1 : Int} {x2 : Int} {x3 : Int}  {σ : kS} (h : fb_Rm_period_62 k27 x1 x2 x3 σ = some (some yf, σf)) : Rn l G dm_Rm_period m_Rm_period (kI fun y' σ' => y' = yf ∧ σ' = σf) 62 [some (.inr (9, 0)), some (.inl x1), some (.inl x2), some (.inl x3)] [] σ := by
  unfold fb_Rm_period_62 at h
  refine s_Rm_period_62  ?_
  exact e_Rm_period_67 hk27 h
def fb_Rm_period_56 (k27 : Int → Int → kS → kRes) (x1 : Int) (x2 : Int) (s0 : Int) (σ : kS) : kRes := kg ((-2147483648 ≤ s0 ∧ s0 < 2147483648)) (if s0 = 1 then fb_Rm_period_62 k27 x1 x2 s0 σ else fb_Rm_period_66 k27 x1 x2 s0 σ)
theorem e_Rm_period_56 {l : Launch} {G : kG} {yf : Int} {σf : kS} {k27 : Int → Int → kS → kRes} (hk27 : ∀ (x1 : Int) (x2 : Int) (o3 : Option kV) (σ : kS), k27 x1 x2 σ = some (some yf, σf) → Rn l G dm_Rm_period m_Rm_period (kI fun y' σ' => y' = yf ∧ σ' = σf) 27 [some (.inr (9, 0)), some (.inl x1), some (.inl x2), o3] [] σ) {x1 : Int} {x2 : Int} {s0 : Int} {o3 : Option kV} {σ : kS} (h : fb_Rm_period_56 k27 x1 x2 s0 σ = some (some yf, σf)) : Rn l G dm_Rm_period m_Rm_period (kI fun y' σ' => y' = yf ∧ σ' = σf) 56 [some (.inr (9, 0)), some (.inl x1), some (.inl x2), o3] [.inl s0] σ := by
  unfold fb_Rm_period_56 at h
  obtain ⟨h1, h⟩ := kg_some h
  refine s_Rm_period_56 h1 (fun c => ?_) (fun c => ?_)
  · rw [if_neg c] at h
    exact e_Rm_period_66 hk27 h
  · rw [if_pos c] at h
    exact e_Rm_period_62 hk27 h
def fb_Rm_period_46 (k27 : Int → Int → kS → kRes) (x1 : Int) (x2 : Int) (σ : kS) : kRes := kg ((0 ≤ x2 ∧ x2 < (8 : Nat))) (kbi (f_Rm_work (σ 26 0 (Int.toNat x2)) σ) fun y σ1 => fb_Rm_period_56 k27 x1 x2 y σ1)
theorem e_Rm_period_46 {l : Launch} {G : kG} {yf : Int} {σf : kS} {k27 : Int → Int → kS → kRes} (hk27 : ∀ (x1 : Int) (x2 : Int) (o3 : Option kV) (σ : kS), k27 x1 x2 σ = some (some yf, σf) → Rn l G dm_Rm_period m_Rm_period (kI fun y' σ' => y' = yf ∧ σ' = σf) 27 [some (.inr (9, 0)), some (.inl x1), some (.inl x2), o3] [] σ) {x1 : Int} {x2 : Int} {o3 : Option kV} {σ : kS} (h : fb_Rm_period_46 k27 x1 x2 σ = some (some yf, σf)) : Rn l G dm_Rm_period m_Rm_period (kI fun y' σ' => y' = yf ∧ σ' = σf) 46 [some (.inr (9, 0)), some (.inl x1), some (.inl x2), o3] [] σ := by
  unfold fb_Rm_period_46 at h
  obtain ⟨h1, h⟩ := kg_some h
  obtain ⟨y, σ1, hc, h⟩ := kbi_some h
  refine s_Rm_period_46 h1 (by decide) (E_Rm_work hc) (fun y2 σ2 e2 => ?_)
  obtain ⟨rfl, rfl⟩ := e2
  exact e_Rm_period_56 hk27 h
def fb_Rm_period_39 (k27 : Int → Int → kS → kRes) (x1 : Int) (x2 : Int) (σ : kS) : kRes := kg ((-2147483648 ≤ σ 9 0 5 ∧ σ 9 0 5 < 2147483648)) (if (σ 9 0 5) = 0 then fb_Rm_period_74  x1 x2 σ else fb_Rm_period_46 k27 x1 x2 σ)
theorem e_Rm_period_39 {l : Launch} {G : kG} {yf : Int} {σf : kS} {k27 : Int → Int → kS → kRes} (hk27 : ∀ (x1 : Int) (x2 : Int) (o3 : Option kV) (σ : kS), k27 x1 x2 σ = some (some yf, σf) → Rn l G dm_Rm_period m_Rm_period (kI fun y' σ' => y' = yf ∧ σ' = σf) 27 [some (.inr (9, 0)), some (.inl x1), some (.inl x2), o3] [] σ) {x1 : Int} {x2 : Int} {o3 : Option kV} {σ : kS} (h : fb_Rm_period_39 k27 x1 x2 σ = some (some yf, σf)) : Rn l G dm_Rm_period m_Rm_period (kI fun y' σ' => y' = yf ∧ σ' = σf) 39 [some (.inr (9, 0)), some (.inl x1), some (.inl x2), o3] [] σ := by
  unfold fb_Rm_period_39 at h
  obtain ⟨h1, h⟩ := kg_some h
  refine s_Rm_period_39 h1 (fun c => ?_) (fun c => ?_)
  · rw [if_pos c] at h
    exact e_Rm_period_74  h
  · rw [if_neg c] at h
    exact e_Rm_period_46 hk27 h
def fb_Rm_period_35 (k27 : Int → Int → kS → kRes) (x1 : Int) (x2 : Int) (σ : kS) : kRes := kg ((-2147483648 ≤ x1 ∧ x1 < 2147483648)) (if x1 = 0 then fb_Rm_period_46 k27 x1 x2 σ else fb_Rm_period_39 k27 x1 x2 σ)
theorem e_Rm_period_35 {l : Launch} {G : kG} {yf : Int} {σf : kS} {k27 : Int → Int → kS → kRes} (hk27 : ∀ (x1 : Int) (x2 : Int) (o3 : Option kV) (σ : kS), k27 x1 x2 σ = some (some yf, σf) → Rn l G dm_Rm_period m_Rm_period (kI fun y' σ' => y' = yf ∧ σ' = σf) 27 [some (.inr (9, 0)), some (.inl x1), some (.inl x2), o3] [] σ) {x1 : Int} {x2 : Int} {o3 : Option kV} {σ : kS} (h : fb_Rm_period_35 k27 x1 x2 σ = some (some yf, σf)) : Rn l G dm_Rm_period m_Rm_period (kI fun y' σ' => y' = yf ∧ σ' = σf) 35 [some (.inr (9, 0)), some (.inl x1), some (.inl x2), o3] [] σ := by
  unfold fb_Rm_period_35 at h
  obtain ⟨h1, h⟩ := kg_some h
  refine s_Rm_period_35 h1 (fun c => ?_) (fun c => ?_)
  · rw [if_pos c] at h
    exact e_Rm_period_46 hk27 h
  · rw [if_neg c] at h
    exact e_Rm_period_39 hk27 h
def fb_Rm_period_27 (k27 : Int → Int → kS → kRes) (x1 : Int) (x2 : Int) (σ : kS) : kRes := kg ((-2147483648 ≤ x2 ∧ x2 < 2147483648) ∧ (-2147483648 ≤ σ 9 0 14 ∧ σ 9 0 14 < 2147483648)) (if (σ 9 0 14) ≤ x2 then fb_Rm_period_74  x1 x2 σ else fb_Rm_period_35 k27 x1 x2 σ)
theorem e_Rm_period_27 {l : Launch} {G : kG} {yf : Int} {σf : kS} {k27 : Int → Int → kS → kRes} (hk27 : ∀ (x1 : Int) (x2 : Int) (o3 : Option kV) (σ : kS), k27 x1 x2 σ = some (some yf, σf) → Rn l G dm_Rm_period m_Rm_period (kI fun y' σ' => y' = yf ∧ σ' = σf) 27 [some (.inr (9, 0)), some (.inl x1), some (.inl x2), o3] [] σ) {x1 : Int} {x2 : Int} {o3 : Option kV} {σ : kS} (h : fb_Rm_period_27 k27 x1 x2 σ = some (some yf, σf)) : Rn l G dm_Rm_period m_Rm_period (kI fun y' σ' => y' = yf ∧ σ' = σf) 27 [some (.inr (9, 0)), some (.inl x1), some (.inl x2), o3] [] σ := by
  unfold fb_Rm_period_27 at h
  obtain ⟨⟨h1, h2⟩, h⟩ := kg_some h
  refine s_Rm_period_27 h1 h2 (fun c => ?_) (fun c => ?_)
  · rw [if_pos c] at h
    exact e_Rm_period_74  h
  · rw [if_neg c] at h
    exact e_Rm_period_35 hk27 h
def fl_Rm_period_27  : Nat → Int → Int → kS → kRes
  | 0, _, _, _ => none
  | n + 1, x1, x2, σ => fb_Rm_period_27 (fl_Rm_period_27  n) x1 x2 σ
theorem el_Rm_period_27 {l : Launch} {G : kG} {yf : Int} {σf : kS}  : ∀ (n : Nat) (x1 : Int) (x2 : Int) (o3 : Option kV) (σ : kS), fl_Rm_period_27  n x1 x2 σ = some (some yf, σf) → Rn l G dm_Rm_period m_Rm_period (kI fun y' σ' => y' = yf ∧ σ' = σf) 27 [some (.inr (9, 0)), some (.inl x1), some (.inl x2), o3] [] σ := by
  intro n
  induction n with
  | zero => intro x1 x2 o3 σ h; simp only [fl_Rm_period_27] at h; cases h
  | succ n ih => intro x1 x2 o3 σ h; simp only [fl_Rm_period_27] at h; exact e_Rm_period_27 ih h
def fb_Rm_period_18   (σ : kS) : kRes := fl_Rm_period_27  3000 0 0 (kup σ 9 0 15 1)
theorem e_Rm_period_18 {l : Launch} {G : kG} {yf : Int} {σf : kS}   {o1 : Option kV} {o2 : Option kV} {o3 : Option kV} {σ : kS} (h : fb_Rm_period_18   σ = some (some yf, σf)) : Rn l G dm_Rm_period m_Rm_period (kI fun y' σ' => y' = yf ∧ σ' = σf) 18 [some (.inr (9, 0)), o1, o2, o3] [] σ := by
  unfold fb_Rm_period_18 at h
  refine s_Rm_period_18  ?_
  exact el_Rm_period_27  _ _ _ _ _ h
def fb_Rm_period_16   (σ : kS) : kRes := some (some 1, σ)
theorem e_Rm_period_16 {l : Launch} {G : kG} {yf : Int} {σf : kS}   {o1 : Option kV} {o2 : Option kV} {o3 : Option kV} {σ : kS} (h : fb_Rm_period_16   σ = some (some yf, σf)) : Rn l G dm_Rm_period m_Rm_period (kI fun y' σ' => y' = yf ∧ σ' = σf) 16 [some (.inr (9, 0)), o1, o2, o3] [] σ := by
  unfold fb_Rm_period_16 at h
  simp only [Option.some.injEq, Prod.mk.injEq, true_and] at h
  exact s_Rm_period_16  ⟨_, rfl, h⟩
def fb_Rm_period_7   (σ : kS) : kRes := kg ((-2147483648 ≤ σ 9 0 14 ∧ σ 9 0 14 < 2147483648)) (if (σ 9 0 14) ≤ 8 then fb_Rm_period_18  σ else fb_Rm_period_16  σ)
theorem e_Rm_period_7 {l : Launch} {G : kG} {yf : Int} {σf : kS}   {o1 : Option kV} {o2 : Option kV} {o3 : Option kV} {σ : kS} (h : fb_Rm_period_7   σ = some (some yf, σf)) : Rn l G dm_Rm_period m_Rm_period (kI fun y' σ' => y' = yf ∧ σ' = σf) 7 [some (.inr (9, 0)), o1, o2, o3] [] σ := by
  unfold fb_Rm_period_7 at h
  obtain ⟨h1, h⟩ := kg_some h
  refine s_Rm_period_7 h1 (fun c => ?_) (fun c => ?_)
  · rw [if_pos c] at h
    exact e_Rm_period_18  h
  · rw [if_neg c] at h
    exact e_Rm_period_16  h
def fb_Rm_period_0   (σ : kS) : kRes := kg ((-2147483648 ≤ σ 9 0 14 ∧ σ 9 0 14 < 2147483648)) (if (σ 9 0 14) = 0 then fb_Rm_period_16  σ else fb_Rm_period_7  σ)
theorem e_Rm_period_0 {l : Launch} {G : kG} {yf : Int} {σf : kS}   {o1 : Option kV} {o2 : Option kV} {o3 : Option kV} {σ : kS} (h : fb_Rm_period_0   σ = some (some yf, σf)) : Rn l G dm_Rm_period m_Rm_period (kI fun y' σ' => y' = yf ∧ σ' = σf) 0 [some (.inr (9, 0)), o1, o2, o3] [] σ := by
  unfold fb_Rm_period_0 at h
  obtain ⟨h1, h⟩ := kg_some h
  refine s_Rm_period_0 h1 (fun c => ?_) (fun c => ?_)
  · rw [if_pos c] at h
    exact e_Rm_period_16  h
  · rw [if_neg c] at h
    exact e_Rm_period_7  h
def f_Rm_period  (σ : kS) : kRes := fb_Rm_period_0  σ
theorem E_Rm_period {l : Launch} {G : kG} {yf : Int} {σf : kS}  {σ : kS} (h : f_Rm_period  σ = some (some yf, σf)) : Call l G dm_Rm_period y_Rm_period m_Rm_period [.inr (9, 0)] σ (kI fun y' σ' => y' = yf ∧ σ' = σf) := by
  unfold f_Rm_period at h
  exact Call.of (by decide +kernel) rfl (Nat.le_of_ble_eq_true rfl) (e_Rm_period_0 h)
/-! Rm_key -/
def fb_Rm_key_70  (x1 : Int) (x2 : Int) (σ : kS) : kRes := some (some x2, σ)
theorem e_Rm_key_70 {l : Launch} {G : kG} {yf : Int} {σf : kS}  {x1 : Int} {x2 : Int}  {σ : kS} (h : fb_Rm_key_70  x1 x2 σ = some (some yf, σf)) : Rn l G dm_Rm_key m_Rm_key (kI fun y' σ' => y' = yf ∧ σ' = σf) 70 [some (.inr (9, 0)), some (.inl x1), some (.inl x2)] [] σ := by
  unfold fb_Rm_key_70 at h
  simp only [Option.some.injEq, Prod.mk.injEq, true_and] at h
  exact s_Rm_key_70  ⟨_, rfl, h⟩
def fb_Rm_key_66  (x1 : Int) (x2 : Int) (σ : kS) : kRes := kbu (f_Rm_draw  σ) fun σ1 => fb_Rm_key_70  x1 x2 σ1
theorem e_Rm_key_66 {l : Launch} {G : kG} {yf : Int} {σf : kS}  {x1 : Int} {x2 : Int}  {σ : kS} (h : fb_Rm_key_66  x1 x2 σ = some (some yf, σf)) : Rn l G dm_Rm_key m_Rm_key (kI fun y' σ' => y' = yf ∧ σ' = σf) 66 [some (.inr (9, 0)), some (.inl x1), some (.inl x2)] [] σ := by
  unfold fb_Rm_key_66 at h
  obtain ⟨σ1, hc, h⟩ := kbu_some h
  refine s_Rm_key_66  (by decide) (E_Rm_draw hc) (fun σ2 e2 => ?_)
  subst e2
  exact e_Rm_key_70  h
def fb_Rm_key_65  (x1 : Int) (s0 : Int) (σ : kS) : kRes := fb_Rm_key_66  x1 s0 σ
theorem e_Rm_key_65 {l : Launch} {G : kG} {yf : Int} {σf : kS}  {x1 : Int} {s0 : Int} {o2 : Option kV} {σ : kS} (h : fb_Rm_key_65  x1 s0 σ = some (some yf, σf)) : Rn l G dm_Rm_key m_Rm_key (kI fun y' σ' => y' = yf ∧ σ' = σf) 65 [some (.inr (9, 0)), some (.inl x1), o2] [.inl s0] σ := by
  unfold fb_Rm_key_65 at h
  refine s_Rm_key_65  ?_
  exact e_Rm_key_66  h
def fb_Rm_key_60  (x1 : Int) (σ : kS) : kRes := kbi (f_Rm_work x1 σ) fun y σ1 => fb_Rm_key_65  x1 y σ1
theorem e_Rm_key_60 {l : Launch} {G : kG} {yf : Int} {σf : kS}  {x1 : Int} {o2 : Option kV} {σ : kS} (h : fb_Rm_key_60  x1 σ = some (some yf, σf)) : Rn l G dm_Rm_key m_Rm_key (kI fun y' σ' => y' = yf ∧ σ' = σf) 60 [some (.inr (9, 0)), some (.inl x1), o2] [] σ := by
  unfold fb_Rm_key_60 at h
  obtain ⟨y, σ1, hc, h⟩ := kbi_some h
  refine s_Rm_key_60  (by decide) (E_Rm_work hc) (fun y2 σ2 e2 => ?_)
  obtain ⟨rfl, rfl⟩ := e2
  exact e_Rm_key_65  h
def fb_Rm_key_56  (x1 : Int) (s0 : Int) (σ : kS) : kRes := fb_Rm_key_66  x1 s0 σ
theorem e_Rm_key_56 {l : Launch} {G : kG} {yf : Int} {σf : kS}  {x1 : Int} {s0 : Int} {o2 : Option kV} {σ : kS} (h : fb_Rm_key_56  x1 s0 σ = some (some yf, σf)) : Rn l G dm_Rm_key m_Rm_key (kI fun y' σ' => y' = yf ∧ σ' = σf) 56 [some (.inr (9, 0)), some (.inl x1), o2] [.inl s0] σ := by
  unfold fb_Rm_key_56 at h
  refine s_Rm_key_56  ?_
  exact e_Rm_key_66  h
def fb_Rm_key_52  (x1 : Int) (σ : kS) : kRes := kbi (f_Rm_period  σ) fun y σ1 => fb_Rm_key_56  x1 y σ1
theorem e_Rm_key_52 {l : Launch} {G : kG} {yf : Int} {σf : kS}  {x1 : Int} {o2 : Option kV} {σ : kS} (h : fb_Rm_key_52  x1 σ = some (some yf, σf)) : Rn l G dm_Rm_key m_Rm_key (kI fun y' σ' => y' = yf ∧ σ' = σf) 52 [some (.inr (9, 0)), some (.inl x1), o2] [] σ := by
  unfold fb_Rm_key_52 at h
  obtain ⟨y, σ1, hc, h⟩ := kbi_some h
  refine s_Rm_key_52  (by decide) (E_Rm_period hc) (fun y2 σ2 e2 => ?_)
  obtain ⟨rfl, rfl⟩ := e2
  exact e_Rm_key_56  h
def fb_Rm_key_45  (x1 : Int) (σ : kS) : kRes := kg ((-2147483648 ≤ σ 9 0 12 ∧ σ 9 0 12 < 2147483648)) (if (σ 9 0 12) = 0 then fb_Rm_key_52  x1 σ else fb_Rm_key_60  x1 σ)
theorem e_Rm_key_45 {l : Launch} {G : kG} {yf : Int} {σf : kS}  {x1 : Int} {o2 : Option kV} {σ : kS} (h : fb_Rm_key_45  x1 σ = some (some yf, σf)) : Rn l G dm_Rm_key m_Rm_key (kI fun y' σ' => y' = yf ∧ σ' = σf) 45 [some (.inr (9, 0)), some (.inl x1), o2] [] σ := by
  unfold fb_Rm_key_45 at h
  obtain ⟨h1, h⟩ := kg_some h
  refine s_Rm_key_45 h1 (fun c => ?_) (fun c => ?_)
  · rw [if_neg c] at h
    exact e_Rm_key_60  h
  · rw [if_pos c] at h
    exact e_Rm_key_52  h
def fb_Rm_key_39  (x1 : Int) (σ : kS) : kRes := kg ((-2147483648 ≤ x1 ∧ x1 < 2147483648)) (if x1 = 46 then fb_Rm_key_45  x1 σ else fb_Rm_key_60  x1 σ)
theorem e_Rm_key_39 {l : Launch} {G : kG} {yf : Int} {σf : kS}  {x1 : Int} {o2 : Option kV} {σ : kS} (h : fb_Rm_key_39  x1 σ = some (some yf, σf)) : Rn l G dm_Rm_key m_Rm_key (kI fun y' σ' => y' = yf ∧ σ' = σf) 39 [some (.inr (9, 0)), some (.inl x1), o2] [] σ := by
  unfold fb_Rm_key_39 at h
  obtain ⟨h1, h⟩ := kg_some h
  refine s_Rm_key_39 h1 (fun c => ?_) (fun c => ?_)
  · rw [if_neg c] at h
    exact e_Rm_key_60  h
  · rw [if_pos c] at h
    exact e_Rm_key_45  h
def fb_Rm_key_32  (x1 : Int) (σ : kS) : kRes := kg ((-2147483648 ≤ σ 9 0 5 ∧ σ 9 0 5 < 2147483648)) (if (σ 9 0 5) = 0 then fb_Rm_key_39  x1 σ else fb_Rm_key_60  x1 σ)
theorem e_Rm_key_32 {l : Launch} {G : kG} {yf : Int} {σf : kS}  {x1 : Int} {o2 : Option kV} {σ : kS} (h : fb_Rm_key_32  x1 σ = some (some yf, σf)) : Rn l G dm_Rm_key m_Rm_key (kI fun y' σ' => y' = yf ∧ σ' = σf) 32 [some (.inr (9, 0)), some (.inl x1), o2] [] σ := by
  unfold fb_Rm_key_32 at h
  obtain ⟨h1, h⟩ := kg_some h
  refine s_Rm_key_32 h1 (fun c => ?_) (fun c => ?_)
  · rw [if_neg c] at h
    exact e_Rm_key_60  h
  · rw [if_pos c] at h
    exact e_Rm_key_39  h
def fb_Rm_key_30  (x1 : Int) (σ : kS) : kRes := some (some (-1), σ)
theorem e_Rm_key_30 {l : Launch} {G : kG} {yf : Int} {σf : kS}  {x1 : Int} {o2 : Option kV} {σ : kS} (h : fb_Rm_key_30  x1 σ = some (some yf, σf)) : Rn l G dm_Rm_key m_Rm_key (kI fun y' σ' => y' = yf ∧ σ' = σf) 30 [some (.inr (9, 0)), some (.inl x1), o2] [] σ := by
  unfold fb_Rm_key_30 at h
  simp only [Option.some.injEq, Prod.mk.injEq, true_and] at h
  exact s_Rm_key_30  ⟨_, rfl, h⟩
def fb_Rm_key_24  (x1 : Int) (σ : kS) : kRes := kg ((-2147483648 ≤ x1 ∧ x1 < 2147483648)) (if x1 = 8 then fb_Rm_key_32  x1 σ else fb_Rm_key_30  x1 σ)
theorem e_Rm_key_24 {l : Launch} {G : kG} {yf : Int} {σf : kS}  {x1 : Int} {o2 : Option kV} {σ : kS} (h : fb_Rm_key_24  x1 σ = some (some yf, σf)) : Rn l G dm_Rm_key m_Rm_key (kI fun y' σ' => y' = yf ∧ σ' = σf) 24 [some (.inr (9, 0)), some (.inl x1), o2] [] σ := by
  unfold fb_Rm_key_24 at h
  obtain ⟨h1, h⟩ := kg_some h
  refine s_Rm_key_24 h1 (fun c => ?_) (fun c => ?_)
  · rw [if_pos c] at h
    exact e_Rm_key_32  h
  · rw [if_neg c] at h
    exact e_Rm_key_30  h
def fb_Rm_key_18  (x1 : Int) (σ : kS) : kRes := kg ((-2147483648 ≤ x1 ∧ x1 < 2147483648)) (if x1 = 10 then fb_Rm_key_32  x1 σ else fb_Rm_key_24  x1 σ)
theorem e_Rm_key_18 {l : Launch} {G : kG} {yf : Int} {σf : kS}  {x1 : Int} {o2 : Option kV} {σ : kS} (h : fb_Rm_key_18  x1 σ = some (some yf, σf)) : Rn l G dm_Rm_key m_Rm_key (kI fun y' σ' => y' = yf ∧ σ' = σf) 18 [some (.inr (9, 0)), some (.inl x1), o2] [] σ := by
  unfold fb_Rm_key_18 at h
  obtain ⟨h1, h⟩ := kg_some h
  refine s_Rm_key_18 h1 (fun c => ?_) (fun c => ?_)
  · rw [if_pos c] at h
    exact e_Rm_key_32  h
  · rw [if_neg c] at h
    exact e_Rm_key_24  h
def fb_Rm_key_12  (x1 : Int) (σ : kS) : kRes := kg ((-2147483648 ≤ x1 ∧ x1 < 2147483648)) (if x1 = 27 then fb_Rm_key_32  x1 σ else fb_Rm_key_18  x1 σ)
theorem e_Rm_key_12 {l : Launch} {G : kG} {yf : Int} {σf : kS}  {x1 : Int} {o2 : Option kV} {σ : kS} (h : fb_Rm_key_12  x1 σ = some (some yf, σf)) : Rn l G dm_Rm_key m_Rm_key (kI fun y' σ' => y' = yf ∧ σ' = σf) 12 [some (.inr (9, 0)), some (.inl x1), o2] [] σ := by
  unfold fb_Rm_key_12 at h
  obtain ⟨h1, h⟩ := kg_some h
  refine s_Rm_key_12 h1 (fun c => ?_) (fun c => ?_)
  · rw [if_pos c] at h
    exact e_Rm_key_32  h
  · rw [if_neg c] at h
    exact e_Rm_key_18  h
def fb_Rm_key_6  (x1 : Int) (σ : kS) : kRes := kg ((-2147483648 ≤ x1 ∧ x1 < 2147483648)) (if x1 ≤ 126 then fb_Rm_key_32  x1 σ else fb_Rm_key_12  x1 σ)
theorem e_Rm_key_6 {l : Launch} {G : kG} {yf : Int} {σf : kS}  {x1 : Int} {o2 : Option kV} {σ : kS} (h : fb_Rm_key_6  x1 σ = some (some yf, σf)) : Rn l G dm_Rm_key m_Rm_key (kI fun y' σ' => y' = yf ∧ σ' = σf) 6 [some (.inr (9, 0)), some (.inl x1), o2] [] σ := by
  unfold fb_Rm_key_6 at h
  obtain ⟨h1, h⟩ := kg_some h
  refine s_Rm_key_6 h1 (fun c => ?_) (fun c => ?_)
  · rw [if_pos c] at h
    exact e_Rm_key_32  h
  · rw [if_neg c] at h
    exact e_Rm_key_12  h
def fb_Rm_key_0  (x1 : Int) (σ : kS) : kRes := kg ((-2147483648 ≤ x1 ∧ x1 < 2147483648)) (if x1 < 32 then fb_Rm_key_12  x1 σ else fb_Rm_key_6  x1 σ)
theorem e_Rm_key_0 {l : Launch} {G : kG} {yf : Int} {σf : kS}  {x1 : Int} {o2 : Option kV} {σ : kS} (h : fb_Rm_key_0  x1 σ = some (some yf, σf)) : Rn l G dm_Rm_key m_Rm_key (kI fun y' σ' => y' = yf ∧ σ' = σf) 0 [some (.inr (9, 0)), some (.inl x1), o2] [] σ := by
  unfold fb_Rm_key_0 at h
  obtain ⟨h1, h⟩ := kg_some h
  refine s_Rm_key_0 h1 (fun c => ?_) (fun c => ?_)
  · rw [if_pos c] at h
    exact e_Rm_key_12  h
  · rw [if_neg c] at h
    exact e_Rm_key_6  h
def f_Rm_key (x1 : Int) (σ : kS) : kRes := fb_Rm_key_0 x1 σ
theorem E_Rm_key {l : Launch} {G : kG} {yf : Int} {σf : kS} {x1 : Int} {σ : kS} (h : f_Rm_key x1 σ = some (some yf, σf)) : Call l G dm_Rm_key y_Rm_key m_Rm_key [.inr (9, 0), .inl x1] σ (kI fun y' σ' => y' = yf ∧ σ' = σf) := by
  unfold f_Rm_key at h
  exact Call.of (by decide +kernel) rfl (Nat.le_of_ble_eq_true rfl) (e_Rm_key_0 h)
/-! Rm_length -/
def fb_Rm_length_24  (x1 : Int) (s0 : Int) (σ : kS) : kRes := some (some s0, σ)
theorem e_Rm_length_24 {l : Launch} {G : kG} {yf : Int} {σf : kS}  {x1 : Int} {s0 : Int}  {σ : kS} (h : fb_Rm_length_24  x1 s0 σ = some (some yf, σf)) : Rn l G dm_Rm_length m_Rm_length (kI fun y' σ' => y' = yf ∧ σ' = σf) 24 [some (.inr (9, 0)), some (.inl x1)] [.inl s0] σ := by
  unfold fb_Rm_length_24 at h
  simp only [Option.some.injEq, Prod.mk.injEq, true_and] at h
  exact s_Rm_length_24  ⟨_, rfl, h⟩
def fb_Rm_length_18  (x1 : Int) (σ : kS) : kRes := kg ((0 ≤ x1 ∧ x1 < (100 : Nat))) (fb_Rm_length_24  x1 (σ 21 0 (Int.toNat x1)) σ)
theorem e_Rm_length_18 {l : Launch} {G : kG} {yf : Int} {σf : kS}  {x1 : Int}  {σ : kS} (h : fb_Rm_length_18  x1 σ = some (some yf, σf)) : Rn l G dm_Rm_length m_Rm_length (kI fun y' σ' => y' = yf ∧ σ' = σf) 18 [some (.inr (9, 0)), some (.inl x1)] [] σ := by
  unfold fb_Rm_length_18 at h
  obtain ⟨h1, h⟩ := kg_some h
  refine s_Rm_length_18 h1 ?_
  exact e_Rm_length_24  h
def fb_Rm_length_14  (x1 : Int) (σ : kS) : kRes := fb_Rm_length_24  x1 (-1) σ
theorem e_Rm_length_14 {l : Launch} {G : kG} {yf : Int} {σf : kS}  {x1 : Int}  {σ : kS} (h : fb_Rm_length_14  x1 σ = some (some yf, σf)) : Rn l G dm_Rm_length m_Rm_length (kI fun y' σ' => y' = yf ∧ σ' = σf) 14 [some (.inr (9, 0)), some (.inl x1)] [] σ := by
  unfold fb_Rm_length_14 at h
  refine s_Rm_length_14  ?_
  exact e_Rm_length_24  h
def fb_Rm_length_4  (x1 : Int) (σ : kS) : kRes := kg ((-2147483648 ≤ x1 ∧ x1 < 2147483648) ∧ (-2147483648 ≤ σ 22 0 0 ∧ σ 22 0 0 < 2147483648)) (if x1 < (σ 22 0 0) then fb_Rm_length_18  x1 σ else fb_Rm_length_14  x1 σ)
theorem e_Rm_length_4 {l : Launch} {G : kG} {yf : Int} {σf : kS}  {x1 : Int}  {σ : kS} (h : fb_Rm_length_4  x1 σ = some (some yf, σf)) : Rn l G dm_Rm_length m_Rm_length (kI fun y' σ' => y' = yf ∧ σ' = σf) 4 [some (.inr (9, 0)), some (.inl x1)] [] σ := by
  unfold fb_Rm_length_4 at h
  obtain ⟨⟨h1, h2⟩, h⟩ := kg_some h
  refine s_Rm_length_4 h1 h2 (fun c => ?_) (fun c => ?_)
  · rw [if_pos c] at h
    exact e_Rm_length_18  h
  · rw [if_neg c] at h
    exact e_Rm_length_14  h
def fb_Rm_length_0  (x1 : Int) (σ : kS) : kRes := kg ((-2147483648 ≤ x1 ∧ x1 < 2147483648)) (if x1 < 0 then fb_Rm_length_14  x1 σ else fb_Rm_length_4  x1 σ)
theorem e_Rm_length_0 {l : Launch} {G : kG} {yf : Int} {σf : kS}  {x1 : Int}  {σ : kS} (h : fb_Rm_length_0  x1 σ = some (some yf, σf)) : Rn l G dm_Rm_length m_Rm_length (kI fun y' σ' => y' = yf ∧ σ' = σf) 0 [some (.inr (9, 0)), some (.inl x1)] [] σ := by
  unfold fb_Rm_length_0 at h
  obtain ⟨h1, h⟩ := kg_some h
  refine s_Rm_length_0 h1 (fun c => ?_) (fun c => ?_)
  · rw [if_pos c] at h
    exact e_Rm_length_14  h
  · rw [if_neg c] at h
    exact e_Rm_length_4  h
def f_Rm_length (x1 : Int) (σ : kS) : kRes := fb_Rm_length_0 x1 σ
theorem E_Rm_length {l : Launch} {G : kG} {yf : Int} {σf : kS} {x1 : Int} {σ : kS} (h : f_Rm_length x1 σ = some (some yf, σf)) : Call l G dm_Rm_length y_Rm_length m_Rm_length [.inr (9, 0), .inl x1] σ (kI fun y' σ' => y' = yf ∧ σ' = σf) := by
  unfold f_Rm_length at h
  exact Call.of (by decide +kernel) rfl (Nat.le_of_ble_eq_true rfl) (e_Rm_length_0 h)
/-! Rm_letter -/
def fb_Rm_letter_13  (x1 : Int) (x2 : Int) (s0 : Int) (σ : kS) : kRes := some (some s0, σ)
theorem e_Rm_letter_13 {l : Launch} {G : kG} {yf : Int} {σf : kS}  {x1 : Int} {x2 : Int} {s0 : Int}  {σ : kS} (h : fb_Rm_letter_13  x1 x2 s0 σ = some (some yf, σf)) : Rn l G dm_Rm_letter m_Rm_letter (kI fun y' σ' => y' = yf ∧ σ' = σf) 13 [some (.inr (9, 0)), some (.inl x1), some (.inl x2)] [.inl s0] σ := by
  unfold fb_Rm_letter_13 at h
  simp only [Option.some.injEq, Prod.mk.injEq, true_and] at h
  exact s_Rm_letter_13  ⟨_, rfl, h⟩
def fb_Rm_letter_0  (x1 : Int) (x2 : Int) (σ : kS) : kRes := kbi (f_Rm_character 0 (σ 22 0 0) x1 x2 σ) fun y σ1 => fb_Rm_letter_13  x1 x2 y σ1
theorem e_Rm_letter_0 {l : Launch} {G : kG} {yf : Int} {σf : kS}  {x1 : Int} {x2 : Int}  {σ : kS} (h : fb_Rm_letter_0  x1 x2 σ = some (some yf, σf)) : Rn l G dm_Rm_letter m_Rm_letter (kI fun y' σ' => y' = yf ∧ σ' = σf) 0 [some (.inr (9, 0)), some (.inl x1), some (.inl x2)] [] σ := by
  unfold fb_Rm_letter_0 at h
  obtain ⟨y, σ1, hc, h⟩ := kbi_some h
  refine s_Rm_letter_0  (by decide) (E_Rm_character hc) (fun y2 σ2 e2 => ?_)
  obtain ⟨rfl, rfl⟩ := e2
  exact e_Rm_letter_13  h
def f_Rm_letter (x1 : Int) (x2 : Int) (σ : kS) : kRes := fb_Rm_letter_0 x1 x2 σ
theorem E_Rm_letter {l : Launch} {G : kG} {yf : Int} {σf : kS} {x1 : Int} {x2 : Int} {σ : kS} (h : f_Rm_letter x1 x2 σ = some (some yf, σf)) : Call l G dm_Rm_letter y_Rm_letter m_Rm_letter [.inr (9, 0), .inl x1, .inl x2] σ (kI fun y' σ' => y' = yf ∧ σ' = σf) := by
  unfold f_Rm_letter at h
  exact Call.of (by decide +kernel) rfl (Nat.le_of_ble_eq_true rfl) (e_Rm_letter_0 h)
/-! Rm_lines -/
def fb_Rm_lines_0   (σ : kS) : kRes := some (some (σ 22 0 0), σ)
theorem e_Rm_lines_0 {l : Launch} {G : kG} {yf : Int} {σf : kS}    {σ : kS} (h : fb_Rm_lines_0   σ = some (some yf, σf)) : Rn l G dm_Rm_lines m_Rm_lines (kI fun y' σ' => y' = yf ∧ σ' = σf) 0 [some (.inr (9, 0))] [] σ := by
  unfold fb_Rm_lines_0 at h
  simp only [Option.some.injEq, Prod.mk.injEq, true_and] at h
  exact s_Rm_lines_0  ⟨_, rfl, h⟩
def f_Rm_lines  (σ : kS) : kRes := fb_Rm_lines_0  σ
theorem E_Rm_lines {l : Launch} {G : kG} {yf : Int} {σf : kS}  {σ : kS} (h : f_Rm_lines  σ = some (some yf, σf)) : Call l G dm_Rm_lines y_Rm_lines m_Rm_lines [.inr (9, 0)] σ (kI fun y' σ' => y' = yf ∧ σ' = σf) := by
  unfold f_Rm_lines at h
  exact Call.of (by decide +kernel) rfl (Nat.le_of_ble_eq_true rfl) (e_Rm_lines_0 h)
/-! Rm_mode -/
def fb_Rm_mode_0   (σ : kS) : kRes := some (some (σ 9 0 5), σ)
theorem e_Rm_mode_0 {l : Launch} {G : kG} {yf : Int} {σf : kS}    {σ : kS} (h : fb_Rm_mode_0   σ = some (some yf, σf)) : Rn l G dm_Rm_mode m_Rm_mode (kI fun y' σ' => y' = yf ∧ σ' = σf) 0 [some (.inr (9, 0))] [] σ := by
  unfold fb_Rm_mode_0 at h
  simp only [Option.some.injEq, Prod.mk.injEq, true_and] at h
  exact s_Rm_mode_0  ⟨_, rfl, h⟩
def f_Rm_mode  (σ : kS) : kRes := fb_Rm_mode_0  σ
theorem E_Rm_mode {l : Launch} {G : kG} {yf : Int} {σf : kS}  {σ : kS} (h : f_Rm_mode  σ = some (some yf, σf)) : Call l G dm_Rm_mode y_Rm_mode m_Rm_mode [.inr (9, 0)] σ (kI fun y' σ' => y' = yf ∧ σ' = σf) := by
  unfold f_Rm_mode at h
  exact Call.of (by decide +kernel) rfl (Nat.le_of_ble_eq_true rfl) (e_Rm_mode_0 h)
/-! Rm_resize -/
def fb_Rm_resize_26  (x1 : Int) (σ : kS) : kRes := some (some 1, σ)
theorem e_Rm_resize_26 {l : Launch} {G : kG} {yf : Int} {σf : kS}  {x1 : Int}  {σ : kS} (h : fb_Rm_resize_26  x1 σ = some (some yf, σf)) : Rn l G dm_Rm_resize m_Rm_resize (kI fun y' σ' => y' = yf ∧ σ' = σf) 26 [some (.inr (9, 0)), some (.inl x1)] [] σ := by
  unfold fb_Rm_resize_26 at h
  simp only [Option.some.injEq, Prod.mk.injEq, true_and] at h
  exact s_Rm_resize_26  ⟨_, rfl, h⟩
def fb_Rm_resize_22  (x1 : Int) (σ : kS) : kRes := kbu (f_Rm_draw  σ) fun σ1 => fb_Rm_resize_26  x1 σ1
theorem e_Rm_resize_22 {l : Launch} {G : kG} {yf : Int} {σf : kS}  {x1 : Int}  {σ : kS} (h : fb_Rm_resize_22  x1 σ = some (some yf, σf)) : Rn l G dm_Rm_resize m_Rm_resize (kI fun y' σ' => y' = yf ∧ σ' = σf) 22 [some (.inr (9, 0)), some (.inl x1)] [] σ := by
  unfold fb_Rm_resize_22 at h
  obtain ⟨σ1, hc, h⟩ := kbu_some h
  refine s_Rm_resize_22  (by decide) (E_Rm_draw hc) (fun σ2 e2 => ?_)
  subst e2
  exact e_Rm_resize_26  h
def fb_Rm_resize_13  (x1 : Int) (σ : kS) : kRes := kbu (f_Rm_blank  (kup σ 9 0 37 x1)) fun σ1 => fb_Rm_resize_22  x1 σ1
theorem e_Rm_resize_13 {l : Launch} {G : kG} {yf : Int} {σf : kS}  {x1 : Int}  {σ : kS} (h : fb_Rm_resize_13  x1 σ = some (some yf, σf)) : Rn l G dm_Rm_resize m_Rm_resize (kI fun y' σ' => y' = yf ∧ σ' = σf) 13 [some (.inr (9, 0)), some (.inl x1)] [] σ := by
  unfold fb_Rm_resize_13 at h
  obtain ⟨σ1, hc, h⟩ := kbu_some h
  refine s_Rm_resize_13  (by decide) (E_Rm_blank hc) (fun σ2 e2 => ?_)
  subst e2
  exact e_Rm_resize_22  h
def fb_Rm_resize_11  (x1 : Int) (σ : kS) : kRes := some (some 0, σ)
theorem e_Rm_resize_11 {l : Launch} {G : kG} {yf : Int} {σf : kS}  {x1 : Int}  {σ : kS} (h : fb_Rm_resize_11  x1 σ = some (some yf, σf)) : Rn l G dm_Rm_resize m_Rm_resize (kI fun y' σ' => y' = yf ∧ σ' = σf) 11 [some (.inr (9, 0)), some (.inl x1)] [] σ := by
  unfold fb_Rm_resize_11 at h
  simp only [Option.some.injEq, Prod.mk.injEq, true_and] at h
  exact s_Rm_resize_11  ⟨_, rfl, h⟩
def fb_Rm_resize_5  (x1 : Int) (σ : kS) : kRes := kg ((-2147483648 ≤ x1 ∧ x1 < 2147483648)) (if x1 ≤ 20 then fb_Rm_resize_13  x1 σ else fb_Rm_resize_11  x1 σ)
theorem e_Rm_resize_5 {l : Launch} {G : kG} {yf : Int} {σf : kS}  {x1 : Int}  {σ : kS} (h : fb_Rm_resize_5  x1 σ = some (some yf, σf)) : Rn l G dm_Rm_resize m_Rm_resize (kI fun y' σ' => y' = yf ∧ σ' = σf) 5 [some (.inr (9, 0)), some (.inl x1)] [] σ := by
  unfold fb_Rm_resize_5 at h
  obtain ⟨h1, h⟩ := kg_some h
  refine s_Rm_resize_5 h1 (fun c => ?_) (fun c => ?_)
  · rw [if_pos c] at h
    exact e_Rm_resize_13  h
  · rw [if_neg c] at h
    exact e_Rm_resize_11  h
def fb_Rm_resize_0  (x1 : Int) (σ : kS) : kRes := kg ((-2147483648 ≤ x1 ∧ x1 < 2147483648)) (if x1 < 5 then fb_Rm_resize_11  x1 σ else fb_Rm_resize_5  x1 σ)
theorem e_Rm_resize_0 {l : Launch} {G : kG} {yf : Int} {σf : kS}  {x1 : Int}  {σ : kS} (h : fb_Rm_resize_0  x1 σ = some (some yf, σf)) : Rn l G dm_Rm_resize m_Rm_resize (kI fun y' σ' => y' = yf ∧ σ' = σf) 0 [some (.inr (9, 0)), some (.inl x1)] [] σ := by
  unfold fb_Rm_resize_0 at h
  obtain ⟨h1, h⟩ := kg_some h
  refine s_Rm_resize_0 h1 (fun c => ?_) (fun c => ?_)
  · rw [if_pos c] at h
    exact e_Rm_resize_11  h
  · rw [if_neg c] at h
    exact e_Rm_resize_5  h
def f_Rm_resize (x1 : Int) (σ : kS) : kRes := fb_Rm_resize_0 x1 σ
theorem E_Rm_resize {l : Launch} {G : kG} {yf : Int} {σf : kS} {x1 : Int} {σ : kS} (h : f_Rm_resize x1 σ = some (some yf, σf)) : Call l G dm_Rm_resize y_Rm_resize m_Rm_resize [.inr (9, 0), .inl x1] σ (kI fun y' σ' => y' = yf ∧ σ' = σf) := by
  unfold f_Rm_resize at h
  exact Call.of (by decide +kernel) rfl (Nat.le_of_ble_eq_true rfl) (e_Rm_resize_0 h)
/-! Rm_sent -/
def fb_Rm_sent_0   (σ : kS) : kRes := some (some (σ 9 0 39), σ)
theorem e_Rm_sent_0 {l : Launch} {G : kG} {yf : Int} {σf : kS}    {σ : kS} (h : fb_Rm_sent_0   σ = some (some yf, σf)) : Rn l G dm_Rm_sent m_Rm_sent (kI fun y' σ' => y' = yf ∧ σ' = σf) 0 [some (.inr (9, 0))] [] σ := by
  unfold fb_Rm_sent_0 at h
  simp only [Option.some.injEq, Prod.mk.injEq, true_and] at h
  exact s_Rm_sent_0  ⟨_, rfl, h⟩
def f_Rm_sent  (σ : kS) : kRes := fb_Rm_sent_0  σ
theorem E_Rm_sent {l : Launch} {G : kG} {yf : Int} {σf : kS}  {σ : kS} (h : f_Rm_sent  σ = some (some yf, σf)) : Call l G dm_Rm_sent y_Rm_sent m_Rm_sent [.inr (9, 0)] σ (kI fun y' σ' => y' = yf ∧ σ' = σf) := by
  unfold f_Rm_sent at h
  exact Call.of (by decide +kernel) rfl (Nat.le_of_ble_eq_true rfl) (e_Rm_sent_0 h)
/-! Rm_stored -/
def fb_Rm_stored_13  (x1 : Int) (x2 : Int) (s0 : Int) (σ : kS) : kRes := some (some s0, σ)
theorem e_Rm_stored_13 {l : Launch} {G : kG} {yf : Int} {σf : kS}  {x1 : Int} {x2 : Int} {s0 : Int}  {σ : kS} (h : fb_Rm_stored_13  x1 x2 s0 σ = some (some yf, σf)) : Rn l G dm_Rm_stored m_Rm_stored (kI fun y' σ' => y' = yf ∧ σ' = σf) 13 [some (.inr (9, 0)), some (.inl x1), some (.inl x2)] [.inl s0] σ := by
  unfold fb_Rm_stored_13 at h
  simp only [Option.some.injEq, Prod.mk.injEq, true_and] at h
  exact s_Rm_stored_13  ⟨_, rfl, h⟩
def fb_Rm_stored_0  (x1 : Int) (x2 : Int) (σ : kS) : kRes := kbi (f_Rm_character 5 (σ 22 0 5) x1 x2 σ) fun y σ1 => fb_Rm_stored_13  x1 x2 y σ1
theorem e_Rm_stored_0 {l : Launch} {G : kG} {yf : Int} {σf : kS}  {x1 : Int} {x2 : Int}  {σ : kS} (h : fb_Rm_stored_0  x1 x2 σ = some (some yf, σf)) : Rn l G dm_Rm_stored m_Rm_stored (kI fun y' σ' => y' = yf ∧ σ' = σf) 0 [some (.inr (9, 0)), some (.inl x1), some (.inl x2)] [] σ := by
  unfold fb_Rm_stored_0 at h
  obtain ⟨y, σ1, hc, h⟩ := kbi_some h
  refine s_Rm_stored_0  (by decide) (E_Rm_character hc) (fun y2 σ2 e2 => ?_)
  obtain ⟨rfl, rfl⟩ := e2
  exact e_Rm_stored_13  h
def f_Rm_stored (x1 : Int) (x2 : Int) (σ : kS) : kRes := fb_Rm_stored_0 x1 x2 σ
theorem E_Rm_stored {l : Launch} {G : kG} {yf : Int} {σf : kS} {x1 : Int} {x2 : Int} {σ : kS} (h : f_Rm_stored x1 x2 σ = some (some yf, σf)) : Call l G dm_Rm_stored y_Rm_stored m_Rm_stored [.inr (9, 0), .inl x1, .inl x2] σ (kI fun y' σ' => y' = yf ∧ σ' = σf) := by
  unfold f_Rm_stored at h
  exact Call.of (by decide +kernel) rfl (Nat.le_of_ble_eq_true rfl) (e_Rm_stored_0 h)
/-! Rm_sync -/
def fb_Rm_sync_135  (x1 : Int) (x2 : Int) (σ : kS) : kRes := some (some x1, σ)
theorem e_Rm_sync_135 {l : Launch} {G : kG} {yf : Int} {σf : kS}  {x1 : Int} {x2 : Int}  {σ : kS} (h : fb_Rm_sync_135  x1 x2 σ = some (some yf, σf)) : Rn l G dm_Rm_sync m_Rm_sync (kI fun y' σ' => y' = yf ∧ σ' = σf) 135 [some (.inr (9, 0)), some (.inl x1), some (.inl x2)] [] σ := by
  unfold fb_Rm_sync_135 at h
  simp only [Option.some.injEq, Prod.mk.injEq, true_and] at h
  exact s_Rm_sync_135  ⟨_, rfl, h⟩
def fb_Rm_sync_120 (k112 : Int → Int → kS → kRes) (x1 : Int) (x2 : Int) (σ : kS) : kRes := kg ((0 ≤ x2 ∧ x2 < (3 : Nat))) (k112 (x1 + (σ 35 0 (Int.toNat x2))) (x2 + 1) σ)
theorem e_Rm_sync_120 {l : Launch} {G : kG} {yf : Int} {σf : kS} {k112 : Int → Int → kS → kRes} (hk112 : ∀ (x1 : Int) (x2 : Int)  (σ : kS), k112 x1 x2 σ = some (some yf, σf) → Rn l G dm_Rm_sync m_Rm_sync (kI fun y' σ' => y' = yf ∧ σ' = σf) 112 [some (.inr (9, 0)), some (.inl x1), some (.inl x2)] [] σ) {x1 : Int} {x2 : Int}  {σ : kS} (h : fb_Rm_sync_120 k112 x1 x2 σ = some (some yf, σf)) : Rn l G dm_Rm_sync m_Rm_sync (kI fun y' σ' => y' = yf ∧ σ' = σf) 120 [some (.inr (9, 0)), some (.inl x1), some (.inl x2)] [] σ := by
  unfold fb_Rm_sync_120 at h
  obtain ⟨h1, h⟩ := kg_some h
  refine s_Rm_sync_120 h1 ?_
  exact hk112 _ _ _ h
def fb_Rm_sync_112 (k112 : Int → Int → kS → kRes) (x1 : Int) (x2 : Int) (σ : kS) : kRes := kg ((-2147483648 ≤ x2 ∧ x2 < 2147483648) ∧ (-2147483648 ≤ σ 9 0 34 ∧ σ 9 0 34 < 2147483648)) (if (σ 9 0 34) ≤ x2 then fb_Rm_sync_135  x1 x2 σ else fb_Rm_sync_120 k112 x1 x2 σ)
theorem e_Rm_sync_112 {l : Launch} {G : kG} {yf : Int} {σf : kS} {k112 : Int → Int → kS → kRes} (hk112 : ∀ (x1 : Int) (x2 : Int)  (σ : kS), k112 x1 x2 σ = some (some yf, σf) → Rn l G dm_Rm_sync m_Rm_sync (kI fun y' σ' => y' = yf ∧ σ' = σf) 112 [some (.inr (9, 0)), some (.inl x1), some (.inl x2)] [] σ) {x1 : Int} {x2 : Int}  {σ : kS} (h : fb_Rm_sync_112 k112 x1 x2 σ = some (some yf, σf)) : Rn l G dm_Rm_sync m_Rm_sync (kI fun y' σ' => y' = yf ∧ σ' = σf) 112 [some (.inr (9, 0)), some (.inl x1), some (.inl x2)] [] σ := by
  unfold fb_Rm_sync_112 at h
  obtain ⟨⟨h1, h2⟩, h⟩ := kg_some h
  refine s_Rm_sync_112 h1 h2 (fun c => ?_) (fun c => ?_)
  · rw [if_pos c] at h
    exact e_Rm_sync_135  h
  · rw [if_neg c] at h
    exact e_Rm_sync_120 hk112 h
def fl_Rm_sync_112  : Nat → Int → Int → kS → kRes
  | 0, _, _, _ => none
  | n + 1, x1, x2, σ => fb_Rm_sync_112 (fl_Rm_sync_112  n) x1 x2 σ
theorem el_Rm_sync_112 {l : Launch} {G : kG} {yf : Int} {σf : kS}  : ∀ (n : Nat) (x1 : Int) (x2 : Int)  (σ : kS), fl_Rm_sync_112  n x1 x2 σ = some (some yf, σf) → Rn l G dm_Rm_sync m_Rm_sync (kI fun y' σ' => y' = yf ∧ σ' = σf) 112 [some (.inr (9, 0)), some (.inl x1), some (.inl x2)] [] σ := by
  intro n
  induction n with
  | zero => intro x1 x2 σ h; simp only [fl_Rm_sync_112] at h; cases h
  | succ n ih => intro x1 x2 σ h; simp only [fl_Rm_sync_112] at h; exact e_Rm_sync_112 ih h
def fb_Rm_sync_108   (σ : kS) : kRes := fl_Rm_sync_112  3000 0 0 σ
theorem e_Rm_sync_108 {l : Launch} {G : kG} {yf : Int} {σf : kS}   {o1 : Option kV} {o2 : Option kV} {σ : kS} (h : fb_Rm_sync_108   σ = some (some yf, σf)) : Rn l G dm_Rm_sync m_Rm_sync (kI fun y' σ' => y' = yf ∧ σ' = σf) 108 [some (.inr (9, 0)), o1, o2] [] σ := by
  unfold fb_Rm_sync_108 at h
  refine s_Rm_sync_108  ?_
  exact el_Rm_sync_112  _ _ _ _ h
def fb_Rm_sync_74 (k52 : Int → kS → kRes) (x1 : Int) (σ : kS) : kRes := kg ((0 ≤ x1 + 1 ∧ x1 + 1 < (3 : Nat)) ∧ (0 ≤ x1 ∧ x1 < (3 : Nat))) (k52 (x1 + 1) (kup (kup σ 34 0 (Int.toNat x1) (σ 34 0 (Int.toNat (x1 + 1)))) 35 0 (Int.toNat x1) ((kup σ 34 0 (Int.toNat x1) (σ 34 0 (Int.toNat (x1 + 1)))) 35 0 (Int.toNat (x1 + 1)))))
theorem e_Rm_sync_74 {l : Launch} {G : kG} {yf : Int} {σf : kS} {k52 : Int → kS → kRes} (hk52 : ∀ (x1 : Int) (o2 : Option kV) (σ : kS), k52 x1 σ = some (some yf, σf) → Rn l G dm_Rm_sync m_Rm_sync (kI fun y' σ' => y' = yf ∧ σ' = σf) 52 [some (.inr (9, 0)), some (.inl x1), o2] [] σ) {x1 : Int} {o2 : Option kV} {σ : kS} (h : fb_Rm_sync_74 k52 x1 σ = some (some yf, σf)) : Rn l G dm_Rm_sync m_Rm_sync (kI fun y' σ' => y' = yf ∧ σ' = σf) 74 [some (.inr (9, 0)), some (.inl x1), o2] [] σ := by
  unfold fb_Rm_sync_74 at h
  obtain ⟨⟨h1, h2⟩, h⟩ := kg_some h
  refine s_Rm_sync_74 h1 h2 ?_
  exact hk52 _ _ _ h
def fb_Rm_sync_60 (k52 : Int → kS → kRes) (x1 : Int) (σ : kS) : kRes := kbu (f_Rm_copyText ((7 + x1) + 1) (7 + x1) σ) fun σ1 => fb_Rm_sync_74 k52 x1 σ1
theorem e_Rm_sync_60 {l : Launch} {G : kG} {yf : Int} {σf : kS} {k52 : Int → kS → kRes} (hk52 : ∀ (x1 : Int) (o2 : Option kV) (σ : kS), k52 x1 σ = some (some yf, σf) → Rn l G dm_Rm_sync m_Rm_sync (kI fun y' σ' => y' = yf ∧ σ' = σf) 52 [some (.inr (9, 0)), some (.inl x1), o2] [] σ) {x1 : Int} {o2 : Option kV} {σ : kS} (h : fb_Rm_sync_60 k52 x1 σ = some (some yf, σf)) : Rn l G dm_Rm_sync m_Rm_sync (kI fun y' σ' => y' = yf ∧ σ' = σf) 60 [some (.inr (9, 0)), some (.inl x1), o2] [] σ := by
  unfold fb_Rm_sync_60 at h
  obtain ⟨σ1, hc, h⟩ := kbu_some h
  refine s_Rm_sync_60  (by decide) (E_Rm_copyText hc) (fun σ2 e2 => ?_)
  subst e2
  exact e_Rm_sync_74 hk52 h
def fb_Rm_sync_52 (k52 : Int → kS → kRes) (x1 : Int) (σ : kS) : kRes := kg ((-2147483648 ≤ x1 ∧ x1 < 2147483648) ∧ (-2147483648 ≤ σ 9 0 34 ∧ σ 9 0 34 < 2147483648)) (if (σ 9 0 34) ≤ x1 then fb_Rm_sync_108  σ else fb_Rm_sync_60 k52 x1 σ)
theorem e_Rm_sync_52 {l : Launch} {G : kG} {yf : Int} {σf : kS} {k52 : Int → kS → kRes} (hk52 : ∀ (x1 : Int) (o2 : Option kV) (σ : kS), k52 x1 σ = some (some yf, σf) → Rn l G dm_Rm_sync m_Rm_sync (kI fun y' σ' => y' = yf ∧ σ' = σf) 52 [some (.inr (9, 0)), some (.inl x1), o2] [] σ) {x1 : Int} {o2 : Option kV} {σ : kS} (h : fb_Rm_sync_52 k52 x1 σ = some (some yf, σf)) : Rn l G dm_Rm_sync m_Rm_sync (kI fun y' σ' => y' = yf ∧ σ' = σf) 52 [some (.inr (9, 0)), some (.inl x1), o2] [] σ := by
  unfold fb_Rm_sync_52 at h
  obtain ⟨⟨h1, h2⟩, h⟩ := kg_some h
  refine s_Rm_sync_52 h1 h2 (fun c => ?_) (fun c => ?_)
  · rw [if_pos c] at h
    exact e_Rm_sync_108  h
  · rw [if_neg c] at h
    exact e_Rm_sync_60 hk52 h
def fl_Rm_sync_52  : Nat → Int → kS → kRes
  | 0, _, _ => none
  | n + 1, x1, σ => fb_Rm_sync_52 (fl_Rm_sync_52  n) x1 σ
theorem el_Rm_sync_52 {l : Launch} {G : kG} {yf : Int} {σf : kS}  : ∀ (n : Nat) (x1 : Int) (o2 : Option kV) (σ : kS), fl_Rm_sync_52  n x1 σ = some (some yf, σf) → Rn l G dm_Rm_sync m_Rm_sync (kI fun y' σ' => y' = yf ∧ σ' = σf) 52 [some (.inr (9, 0)), some (.inl x1), o2] [] σ := by
  intro n
  induction n with
  | zero => intro x1 o2 σ h; simp only [fl_Rm_sync_52] at h; cases h
  | succ n ih => intro x1 o2 σ h; simp only [fl_Rm_sync_52] at h; exact e_Rm_sync_52 ih h
def fb_Rm_sync_40   (σ : kS) : kRes := fl_Rm_sync_52  3000 0 (kup σ 9 0 34 ((σ 9 0 34) - 1))
theorem e_Rm_sync_40 {l : Launch} {G : kG} {yf : Int} {σf : kS}   {o1 : Option kV} {o2 : Option kV} {σ : kS} (h : fb_Rm_sync_40   σ = some (some yf, σf)) : Rn l G dm_Rm_sync m_Rm_sync (kI fun y' σ' => y' = yf ∧ σ' = σf) 40 [some (.inr (9, 0)), o1, o2] [] σ := by
  unfold fb_Rm_sync_40 at h
  refine s_Rm_sync_40  ?_
  exact el_Rm_sync_52  _ _ _ _ h
def fb_Rm_sync_28   (σ : kS) : kRes := kbu (f_Rm_copyText 7 (σ 34 0 0) σ) fun σ1 => fb_Rm_sync_40  σ1
theorem e_Rm_sync_28 {l : Launch} {G : kG} {yf : Int} {σf : kS}   {o1 : Option kV} {o2 : Option kV} {σ : kS} (h : fb_Rm_sync_28   σ = some (some yf, σf)) : Rn l G dm_Rm_sync m_Rm_sync (kI fun y' σ' => y' = yf ∧ σ' = σf) 28 [some (.inr (9, 0)), o1, o2] [] σ := by
  unfold fb_Rm_sync_28 at h
  obtain ⟨σ1, hc, h⟩ := kbu_some h
  refine s_Rm_sync_28  (by decide) (E_Rm_copyText hc) (fun σ2 e2 => ?_)
  subst e2
  exact e_Rm_sync_40  h
def fb_Rm_sync_9   (σ : kS) : kRes := kg ((-2147483648 ≤ (kup σ 35 0 0 ((σ 35 0 0) - 1)) 35 0 0 ∧ (kup σ 35 0 0 ((σ 35 0 0) - 1)) 35 0 0 < 2147483648)) (if ((kup σ 35 0 0 ((σ 35 0 0) - 1)) 35 0 0) = 0 then fb_Rm_sync_28  (kup σ 35 0 0 ((σ 35 0 0) - 1)) else fb_Rm_sync_108  (kup σ 35 0 0 ((σ 35 0 0) - 1)))
theorem e_Rm_sync_9 {l : Launch} {G : kG} {yf : Int} {σf : kS}   {o1 : Option kV} {o2 : Option kV} {σ : kS} (h : fb_Rm_sync_9   σ = some (some yf, σf)) : Rn l G dm_Rm_sync m_Rm_sync (kI fun y' σ' => y' = yf ∧ σ' = σf) 9 [some (.inr (9, 0)), o1, o2] [] σ := by
  unfold fb_Rm_sync_9 at h
  obtain ⟨h1, h⟩ := kg_some h
  refine s_Rm_sync_9 h1 (fun c => ?_) (fun c => ?_)
  · rw [if_neg c] at h
    exact e_Rm_sync_108  h
  · rw [if_pos c] at h
    exact e_Rm_sync_28  h
def fb_Rm_sync_7   (σ : kS) : kRes := some (some (-1), σ)
theorem e_Rm_sync_7 {l : Launch} {G : kG} {yf : Int} {σf : kS}   {o1 : Option kV} {o2 : Option kV} {σ : kS} (h : fb_Rm_sync_7   σ = some (some yf, σf)) : Rn l G dm_Rm_sync m_Rm_sync (kI fun y' σ' => y' = yf ∧ σ' = σf) 7 [some (.inr (9, 0)), o1, o2] [] σ := by
  unfold fb_Rm_sync_7 at h
  simp only [Option.some.injEq, Prod.mk.injEq, true_and] at h
  exact s_Rm_sync_7  ⟨_, rfl, h⟩
def fb_Rm_sync_0   (σ : kS) : kRes := kg ((-2147483648 ≤ σ 9 0 34 ∧ σ 9 0 34 < 2147483648)) (if (σ 9 0 34) = 0 then fb_Rm_sync_7  σ else fb_Rm_sync_9  σ)
theorem e_Rm_sync_0 {l : Launch} {G : kG} {yf : Int} {σf : kS}   {o1 : Option kV} {o2 : Option kV} {σ : kS} (h : fb_Rm_sync_0   σ = some (some yf, σf)) : Rn l G dm_Rm_sync m_Rm_sync (kI fun y' σ' => y' = yf ∧ σ' = σf) 0 [some (.inr (9, 0)), o1, o2] [] σ := by
  unfold fb_Rm_sync_0 at h
  obtain ⟨h1, h⟩ := kg_some h
  refine s_Rm_sync_0 h1 (fun c => ?_) (fun c => ?_)
  · rw [if_neg c] at h
    exact e_Rm_sync_9  h
  · rw [if_pos c] at h
    exact e_Rm_sync_7  h
def f_Rm_sync  (σ : kS) : kRes := fb_Rm_sync_0  σ
theorem E_Rm_sync {l : Launch} {G : kG} {yf : Int} {σf : kS}  {σ : kS} (h : f_Rm_sync  σ = some (some yf, σf)) : Call l G dm_Rm_sync y_Rm_sync m_Rm_sync [.inr (9, 0)] σ (kI fun y' σ' => y' = yf ∧ σ' = σf) := by
  unfold f_Rm_sync at h
  exact Call.of (by decide +kernel) rfl (Nat.le_of_ble_eq_true rfl) (e_Rm_sync_0 h)
/-! Rm_top -/
def fb_Rm_top_0   (σ : kS) : kRes := some (some (σ 9 0 38), σ)
theorem e_Rm_top_0 {l : Launch} {G : kG} {yf : Int} {σf : kS}    {σ : kS} (h : fb_Rm_top_0   σ = some (some yf, σf)) : Rn l G dm_Rm_top m_Rm_top (kI fun y' σ' => y' = yf ∧ σ' = σf) 0 [some (.inr (9, 0))] [] σ := by
  unfold fb_Rm_top_0 at h
  simp only [Option.some.injEq, Prod.mk.injEq, true_and] at h
  exact s_Rm_top_0  ⟨_, rfl, h⟩
def f_Rm_top  (σ : kS) : kRes := fb_Rm_top_0  σ
theorem E_Rm_top {l : Launch} {G : kG} {yf : Int} {σf : kS}  {σ : kS} (h : f_Rm_top  σ = some (some yf, σf)) : Call l G dm_Rm_top y_Rm_top m_Rm_top [.inr (9, 0)] σ (kI fun y' σ' => y' = yf ∧ σ' = σf) := by
  unfold f_Rm_top at h
  exact Call.of (by decide +kernel) rfl (Nat.le_of_ble_eq_true rfl) (e_Rm_top_0 h)
