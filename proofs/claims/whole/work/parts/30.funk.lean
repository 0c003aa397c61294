/-! Rm_command -/
def fb_Rm_command_291  (x1 : Int) (x2 : Int) (x3 : Int) (s0 : Int) (σ : kS) : kRes := some (some s0, σ)
theorem e_Rm_command_291 {l : Launch} {G : kG} {yf : Int} {σf : kS}  {x1 : Int} {x2 : Int} {x3 : Int} {s0 : Int}  {σ : kS} (h : fb_Rm_command_291  x1 x2 x3 s0 σ = some (some yf, σf)) : Rn l G dm_Rm_command m_Rm_command (kI fun y' σ' => y' = yf ∧ σ' = σf) 291 [some (.inr (9, 0)), some (.inl x1), some (.inl x2), some (.inl x3)] [.inl s0] σ := by
  unfold fb_Rm_command_291 at h
  simp only [Option.some.injEq, Prod.mk.injEq, true_and] at h
  exact s_Rm_command_291  ⟨_, rfl, h⟩
def fb_Rm_command_286  (x1 : Int) (x2 : Int) (x3 : Int) (σ : kS) : kRes := kbi (f_Rm_simple x1 σ) fun y σ1 => fb_Rm_command_291  x1 x2 x3 y σ1
theorem e_Rm_command_286 {l : Launch} {G : kG} {yf : Int} {σf : kS}  {x1 : Int} {x2 : Int} {x3 : Int}  {σ : kS} (h : fb_Rm_command_286  x1 x2 x3 σ = some (some yf, σf)) : Rn l G dm_Rm_command m_Rm_command (kI fun y' σ' => y' = yf ∧ σ' = σf) 286 [some (.inr (9, 0)), some (.inl x1), some (.inl x2), some (.inl x3)] [] σ := by
  unfold fb_Rm_command_286 at h
  obtain ⟨y, σ1, hc, h⟩ := kbi_some h
  refine s_Rm_command_286  (by decide) (E_Rm_simple hc) (fun y2 σ2 e2 => ?_)
  obtain ⟨rfl, rfl⟩ := e2
  exact e_Rm_command_291  h
def fb_Rm_command_284  (x1 : Int) (x2 : Int) (x3 : Int) (σ : kS) : kRes := some (some 2, σ)
theorem e_Rm_command_284 {l : Launch} {G : kG} {yf : Int} {σf : kS}  {x1 : Int} {x2 : Int} {x3 : Int}  {σ : kS} (h : fb_Rm_command_284  x1 x2 x3 σ = some (some yf, σf)) : Rn l G dm_Rm_command m_Rm_command (kI fun y' σ' => y' = yf ∧ σ' = σf) 284 [some (.inr (9, 0)), some (.inl x1), some (.inl x2), some (.inl x3)] [] σ := by
  unfold fb_Rm_command_284 at h
  simp only [Option.some.injEq, Prod.mk.injEq, true_and] at h
  exact s_Rm_command_284  ⟨_, rfl, h⟩
def fb_Rm_command_272  (x1 : Int) (x2 : Int) (x3 : Int) (σ : kS) : kRes := kbu (f_Rm_place (σ 9 0 16) (σ 9 0 17) σ) fun σ1 => fb_Rm_command_284  x1 x2 x3 σ1
theorem e_Rm_command_272 {l : Launch} {G : kG} {yf : Int} {σf : kS}  {x1 : Int} {x2 : Int} {x3 : Int}  {σ : kS} (h : fb_Rm_command_272  x1 x2 x3 σ = some (some yf, σf)) : Rn l G dm_Rm_command m_Rm_command (kI fun y' σ' => y' = yf ∧ σ' = σf) 272 [some (.inr (9, 0)), some (.inl x1), some (.inl x2), some (.inl x3)] [] σ := by
  unfold fb_Rm_command_272 at h
  obtain ⟨σ1, hc, h⟩ := kbu_some h
  refine s_Rm_command_272  (by decide) (E_Rm_place hc) (fun σ2 e2 => ?_)
  subst e2
  exact e_Rm_command_284  h
def fb_Rm_command_269  (x1 : Int) (x2 : Int) (x3 : Int) (s0 : Int) (σ : kS) : kRes := kg ((-2147483648 ≤ s0 ∧ s0 < 2147483648)) (if s0 = 0 then fb_Rm_command_286  x1 x2 x3 σ else fb_Rm_command_272  x1 x2 x3 σ)
theorem e_Rm_command_269 {l : Launch} {G : kG} {yf : Int} {σf : kS}  {x1 : Int} {x2 : Int} {x3 : Int} {s0 : Int}  {σ : kS} (h : fb_Rm_command_269  x1 x2 x3 s0 σ = some (some yf, σf)) : Rn l G dm_Rm_command m_Rm_command (kI fun y' σ' => y' = yf ∧ σ' = σf) 269 [some (.inr (9, 0)), some (.inl x1), some (.inl x2), some (.inl x3)] [.inl s0] σ := by
  unfold fb_Rm_command_269 at h
  obtain ⟨h1, h⟩ := kg_some h
  refine s_Rm_command_269 h1 (fun c => ?_) (fun c => ?_)
  · rw [if_pos c] at h
    exact e_Rm_command_286  h
  · rw [if_neg c] at h
    exact e_Rm_command_272  h
def fb_Rm_command_263  (x1 : Int) (x2 : Int) (x3 : Int) (σ : kS) : kRes := kbi (f_Rm_motion x1 x2 σ) fun y σ1 => fb_Rm_command_269  x1 x2 x3 y σ1
theorem e_Rm_command_263 {l : Launch} {G : kG} {yf : Int} {σf : kS}  {x1 : Int} {x2 : Int} {x3 : Int}  {σ : kS} (h : fb_Rm_command_263  x1 x2 x3 σ = some (some yf, σf)) : Rn l G dm_Rm_command m_Rm_command (kI fun y' σ' => y' = yf ∧ σ' = σf) 263 [some (.inr (9, 0)), some (.inl x1), some (.inl x2), some (.inl x3)] [] σ := by
  unfold fb_Rm_command_263 at h
  obtain ⟨y, σ1, hc, h⟩ := kbi_some h
  refine s_Rm_command_263  (by decide) (E_Rm_motion hc) (fun y2 σ2 e2 => ?_)
  obtain ⟨rfl, rfl⟩ := e2
  exact e_Rm_command_269  h
def fb_Rm_command_246  (x1 : Int) (x2 : Int) (x3 : Int) (σ : kS) : kRes := some (some 2, kup (kup (kup σ 9 0 5 2) 9 0 21 x1) 9 0 20 0)
theorem e_Rm_command_246 {l : Launch} {G : kG} {yf : Int} {σf : kS}  {x1 : Int} {x2 : Int} {x3 : Int}  {σ : kS} (h : fb_Rm_command_246  x1 x2 x3 σ = some (some yf, σf)) : Rn l G dm_Rm_command m_Rm_command (kI fun y' σ' => y' = yf ∧ σ' = σf) 246 [some (.inr (9, 0)), some (.inl x1), some (.inl x2), some (.inl x3)] [] σ := by
  unfold fb_Rm_command_246 at h
  simp only [Option.some.injEq, Prod.mk.injEq, true_and] at h
  exact s_Rm_command_246  ⟨_, rfl, h⟩
def fb_Rm_command_240  (x1 : Int) (x2 : Int) (x3 : Int) (σ : kS) : kRes := kg ((-2147483648 ≤ x1 ∧ x1 < 2147483648)) (if x1 = 47 then fb_Rm_command_246  x1 x2 x3 σ else fb_Rm_command_263  x1 x2 x3 σ)
theorem e_Rm_command_240 {l : Launch} {G : kG} {yf : Int} {σf : kS}  {x1 : Int} {x2 : Int} {x3 : Int}  {σ : kS} (h : fb_Rm_command_240  x1 x2 x3 σ = some (some yf, σf)) : Rn l G dm_Rm_command m_Rm_command (kI fun y' σ' => y' = yf ∧ σ' = σf) 240 [some (.inr (9, 0)), some (.inl x1), some (.inl x2), some (.inl x3)] [] σ := by
  unfold fb_Rm_command_240 at h
  obtain ⟨h1, h⟩ := kg_some h
  refine s_Rm_command_240 h1 (fun c => ?_) (fun c => ?_)
  · rw [if_neg c] at h
    exact e_Rm_command_263  h
  · rw [if_pos c] at h
    exact e_Rm_command_246  h
def fb_Rm_command_234  (x1 : Int) (x2 : Int) (x3 : Int) (σ : kS) : kRes := kg ((-2147483648 ≤ x1 ∧ x1 < 2147483648)) (if x1 = 58 then fb_Rm_command_246  x1 x2 x3 σ else fb_Rm_command_240  x1 x2 x3 σ)
theorem e_Rm_command_234 {l : Launch} {G : kG} {yf : Int} {σf : kS}  {x1 : Int} {x2 : Int} {x3 : Int}  {σ : kS} (h : fb_Rm_command_234  x1 x2 x3 σ = some (some yf, σf)) : Rn l G dm_Rm_command m_Rm_command (kI fun y' σ' => y' = yf ∧ σ' = σf) 234 [some (.inr (9, 0)), some (.inl x1), some (.inl x2), some (.inl x3)] [] σ := by
  unfold fb_Rm_command_234 at h
  obtain ⟨h1, h⟩ := kg_some h
  refine s_Rm_command_234 h1 (fun c => ?_) (fun c => ?_)
  · rw [if_pos c] at h
    exact e_Rm_command_246  h
  · rw [if_neg c] at h
    exact e_Rm_command_240  h
def fb_Rm_command_233  (x1 : Int) (x2 : Int) (x3 : Int) (s0 : Int) (σ : kS) : kRes := some (some s0, σ)
theorem e_Rm_command_233 {l : Launch} {G : kG} {yf : Int} {σf : kS}  {x1 : Int} {x2 : Int} {x3 : Int} {s0 : Int}  {σ : kS} (h : fb_Rm_command_233  x1 x2 x3 s0 σ = some (some yf, σf)) : Rn l G dm_Rm_command m_Rm_command (kI fun y' σ' => y' = yf ∧ σ' = σf) 233 [some (.inr (9, 0)), some (.inl x1), some (.inl x2), some (.inl x3)] [.inl s0] σ := by
  unfold fb_Rm_command_233 at h
  simp only [Option.some.injEq, Prod.mk.injEq, true_and] at h
  exact s_Rm_command_233  ⟨_, rfl, h⟩
def fb_Rm_command_220  (x1 : Int) (x2 : Int) (x3 : Int) (σ : kS) : kRes := kbi (f_Rm_operate 108 x2 (kup σ 9 0 8 100)) fun y σ1 => fb_Rm_command_233  x1 x2 x3 y σ1
theorem e_Rm_command_220 {l : Launch} {G : kG} {yf : Int} {σf : kS}  {x1 : Int} {x2 : Int} {x3 : Int}  {σ : kS} (h : fb_Rm_command_220  x1 x2 x3 σ = some (some yf, σf)) : Rn l G dm_Rm_command m_Rm_command (kI fun y' σ' => y' = yf ∧ σ' = σf) 220 [some (.inr (9, 0)), some (.inl x1), some (.inl x2), some (.inl x3)] [] σ := by
  unfold fb_Rm_command_220 at h
  obtain ⟨y, σ1, hc, h⟩ := kbi_some h
  refine s_Rm_command_220  (by decide) (E_Rm_operate hc) (fun y2 σ2 e2 => ?_)
  obtain ⟨rfl, rfl⟩ := e2
  exact e_Rm_command_233  h
def fb_Rm_command_214  (x1 : Int) (x2 : Int) (x3 : Int) (σ : kS) : kRes := kg ((-2147483648 ≤ x1 ∧ x1 < 2147483648)) (if x1 = 120 then fb_Rm_command_220  x1 x2 x3 σ else fb_Rm_command_234  x1 x2 x3 σ)
theorem e_Rm_command_214 {l : Launch} {G : kG} {yf : Int} {σf : kS}  {x1 : Int} {x2 : Int} {x3 : Int}  {σ : kS} (h : fb_Rm_command_214  x1 x2 x3 σ = some (some yf, σf)) : Rn l G dm_Rm_command m_Rm_command (kI fun y' σ' => y' = yf ∧ σ' = σf) 214 [some (.inr (9, 0)), some (.inl x1), some (.inl x2), some (.inl x3)] [] σ := by
  unfold fb_Rm_command_214 at h
  obtain ⟨h1, h⟩ := kg_some h
  refine s_Rm_command_214 h1 (fun c => ?_) (fun c => ?_)
  · rw [if_neg c] at h
    exact e_Rm_command_234  h
  · rw [if_pos c] at h
    exact e_Rm_command_220  h
def fb_Rm_command_207  (x1 : Int) (x2 : Int) (x3 : Int) (σ : kS) : kRes := some (some 1, kup σ 9 0 8 x1)
theorem e_Rm_command_207 {l : Launch} {G : kG} {yf : Int} {σf : kS}  {x1 : Int} {x2 : Int} {x3 : Int}  {σ : kS} (h : fb_Rm_command_207  x1 x2 x3 σ = some (some yf, σf)) : Rn l G dm_Rm_command m_Rm_command (kI fun y' σ' => y' = yf ∧ σ' = σf) 207 [some (.inr (9, 0)), some (.inl x1), some (.inl x2), some (.inl x3)] [] σ := by
  unfold fb_Rm_command_207 at h
  simp only [Option.some.injEq, Prod.mk.injEq, true_and] at h
  exact s_Rm_command_207  ⟨_, rfl, h⟩
def fb_Rm_command_201  (x1 : Int) (x2 : Int) (x3 : Int) (σ : kS) : kRes := kg ((-2147483648 ≤ x1 ∧ x1 < 2147483648)) (if x1 = 121 then fb_Rm_command_207  x1 x2 x3 σ else fb_Rm_command_214  x1 x2 x3 σ)
theorem e_Rm_command_201 {l : Launch} {G : kG} {yf : Int} {σf : kS}  {x1 : Int} {x2 : Int} {x3 : Int}  {σ : kS} (h : fb_Rm_command_201  x1 x2 x3 σ = some (some yf, σf)) : Rn l G dm_Rm_command m_Rm_command (kI fun y' σ' => y' = yf ∧ σ' = σf) 201 [some (.inr (9, 0)), some (.inl x1), some (.inl x2), some (.inl x3)] [] σ := by
  unfold fb_Rm_command_201 at h
  obtain ⟨h1, h⟩ := kg_some h
  refine s_Rm_command_201 h1 (fun c => ?_) (fun c => ?_)
  · rw [if_neg c] at h
    exact e_Rm_command_214  h
  · rw [if_pos c] at h
    exact e_Rm_command_207  h
def fb_Rm_command_195  (x1 : Int) (x2 : Int) (x3 : Int) (σ : kS) : kRes := kg ((-2147483648 ≤ x1 ∧ x1 < 2147483648)) (if x1 = 99 then fb_Rm_command_207  x1 x2 x3 σ else fb_Rm_command_201  x1 x2 x3 σ)
theorem e_Rm_command_195 {l : Launch} {G : kG} {yf : Int} {σf : kS}  {x1 : Int} {x2 : Int} {x3 : Int}  {σ : kS} (h : fb_Rm_command_195  x1 x2 x3 σ = some (some yf, σf)) : Rn l G dm_Rm_command m_Rm_command (kI fun y' σ' => y' = yf ∧ σ' = σf) 195 [some (.inr (9, 0)), some (.inl x1), some (.inl x2), some (.inl x3)] [] σ := by
  unfold fb_Rm_command_195 at h
  obtain ⟨h1, h⟩ := kg_some h
  refine s_Rm_command_195 h1 (fun c => ?_) (fun c => ?_)
  · rw [if_pos c] at h
    exact e_Rm_command_207  h
  · rw [if_neg c] at h
    exact e_Rm_command_201  h
def fb_Rm_command_189  (x1 : Int) (x2 : Int) (x3 : Int) (σ : kS) : kRes := kg ((-2147483648 ≤ x1 ∧ x1 < 2147483648)) (if x1 = 100 then fb_Rm_command_207  x1 x2 x3 σ else fb_Rm_command_195  x1 x2 x3 σ)
theorem e_Rm_command_189 {l : Launch} {G : kG} {yf : Int} {σf : kS}  {x1 : Int} {x2 : Int} {x3 : Int}  {σ : kS} (h : fb_Rm_command_189  x1 x2 x3 σ = some (some yf, σf)) : Rn l G dm_Rm_command m_Rm_command (kI fun y' σ' => y' = yf ∧ σ' = σf) 189 [some (.inr (9, 0)), some (.inl x1), some (.inl x2), some (.inl x3)] [] σ := by
  unfold fb_Rm_command_189 at h
  obtain ⟨h1, h⟩ := kg_some h
  refine s_Rm_command_189 h1 (fun c => ?_) (fun c => ?_)
  · rw [if_pos c] at h
    exact e_Rm_command_207  h
  · rw [if_neg c] at h
    exact e_Rm_command_195  h
def fb_Rm_command_187  (x1 : Int) (x2 : Int) (x3 : Int) (σ : kS) : kRes := some (some 0, σ)
theorem e_Rm_command_187 {l : Launch} {G : kG} {yf : Int} {σf : kS}  {x1 : Int} {x2 : Int} {x3 : Int}  {σ : kS} (h : fb_Rm_command_187  x1 x2 x3 σ = some (some yf, σf)) : Rn l G dm_Rm_command m_Rm_command (kI fun y' σ' => y' = yf ∧ σ' = σf) 187 [some (.inr (9, 0)), some (.inl x1), some (.inl x2), some (.inl x3)] [] σ := by
  unfold fb_Rm_command_187 at h
  simp only [Option.some.injEq, Prod.mk.injEq, true_and] at h
  exact s_Rm_command_187  ⟨_, rfl, h⟩
def fb_Rm_command_183  (x1 : Int) (x2 : Int) (x3 : Int) (σ : kS) : kRes := kg ((-2147483648 ≤ x3 ∧ x3 < 2147483648)) (if x3 = 0 then fb_Rm_command_187  x1 x2 x3 σ else fb_Rm_command_189  x1 x2 x3 σ)
theorem e_Rm_command_183 {l : Launch} {G : kG} {yf : Int} {σf : kS}  {x1 : Int} {x2 : Int} {x3 : Int}  {σ : kS} (h : fb_Rm_command_183  x1 x2 x3 σ = some (some yf, σf)) : Rn l G dm_Rm_command m_Rm_command (kI fun y' σ' => y' = yf ∧ σ' = σf) 183 [some (.inr (9, 0)), some (.inl x1), some (.inl x2), some (.inl x3)] [] σ := by
  unfold fb_Rm_command_183 at h
  obtain ⟨h1, h⟩ := kg_some h
  refine s_Rm_command_183 h1 (fun c => ?_) (fun c => ?_)
  · rw [if_neg c] at h
    exact e_Rm_command_189  h
  · rw [if_pos c] at h
    exact e_Rm_command_187  h
def fb_Rm_command_175  (x1 : Int) (x2 : Int) (s0 : Int) (σ : kS) : kRes := kg ((-2147483648 ≤ σ 9 0 10 ∧ σ 9 0 10 < 2147483648)) (if (σ 9 0 10) ≤ 0 then fb_Rm_command_189  x1 x2 s0 σ else fb_Rm_command_183  x1 x2 s0 σ)
theorem e_Rm_command_175 {l : Launch} {G : kG} {yf : Int} {σf : kS}  {x1 : Int} {x2 : Int} {s0 : Int} {o3 : Option kV} {σ : kS} (h : fb_Rm_command_175  x1 x2 s0 σ = some (some yf, σf)) : Rn l G dm_Rm_command m_Rm_command (kI fun y' σ' => y' = yf ∧ σ' = σf) 175 [some (.inr (9, 0)), some (.inl x1), some (.inl x2), o3] [.inl s0] σ := by
  unfold fb_Rm_command_175 at h
  obtain ⟨h1, h⟩ := kg_some h
  refine s_Rm_command_175 h1 (fun c => ?_) (fun c => ?_)
  · rw [if_pos c] at h
    exact e_Rm_command_189  h
  · rw [if_neg c] at h
    exact e_Rm_command_183  h
def fb_Rm_command_174  (x1 : Int) (x2 : Int) (σ : kS) : kRes := fb_Rm_command_175  x1 x2 0 σ
theorem e_Rm_command_174 {l : Launch} {G : kG} {yf : Int} {σf : kS}  {x1 : Int} {x2 : Int} {o3 : Option kV} {σ : kS} (h : fb_Rm_command_174  x1 x2 σ = some (some yf, σf)) : Rn l G dm_Rm_command m_Rm_command (kI fun y' σ' => y' = yf ∧ σ' = σf) 174 [some (.inr (9, 0)), some (.inl x1), some (.inl x2), o3] [] σ := by
  unfold fb_Rm_command_174 at h
  refine s_Rm_command_174  ?_
  exact e_Rm_command_175  h
def fb_Rm_command_170  (x1 : Int) (x2 : Int) (σ : kS) : kRes := fb_Rm_command_175  x1 x2 1 σ
theorem e_Rm_command_170 {l : Launch} {G : kG} {yf : Int} {σf : kS}  {x1 : Int} {x2 : Int} {o3 : Option kV} {σ : kS} (h : fb_Rm_command_170  x1 x2 σ = some (some yf, σf)) : Rn l G dm_Rm_command m_Rm_command (kI fun y' σ' => y' = yf ∧ σ' = σf) 170 [some (.inr (9, 0)), some (.inl x1), some (.inl x2), o3] [] σ := by
  unfold fb_Rm_command_170 at h
  refine s_Rm_command_170  ?_
  exact e_Rm_command_175  h
def fb_Rm_command_164  (x1 : Int) (x2 : Int) (σ : kS) : kRes := kg ((-2147483648 ≤ x1 ∧ x1 < 2147483648)) (if x1 = 120 then fb_Rm_command_170  x1 x2 σ else fb_Rm_command_174  x1 x2 σ)
theorem e_Rm_command_164 {l : Launch} {G : kG} {yf : Int} {σf : kS}  {x1 : Int} {x2 : Int} {o3 : Option kV} {σ : kS} (h : fb_Rm_command_164  x1 x2 σ = some (some yf, σf)) : Rn l G dm_Rm_command m_Rm_command (kI fun y' σ' => y' = yf ∧ σ' = σf) 164 [some (.inr (9, 0)), some (.inl x1), some (.inl x2), o3] [] σ := by
  unfold fb_Rm_command_164 at h
  obtain ⟨h1, h⟩ := kg_some h
  refine s_Rm_command_164 h1 (fun c => ?_) (fun c => ?_)
  · rw [if_neg c] at h
    exact e_Rm_command_174  h
  · rw [if_pos c] at h
    exact e_Rm_command_170  h
def fb_Rm_command_158  (x1 : Int) (x2 : Int) (σ : kS) : kRes := kg ((-2147483648 ≤ x1 ∧ x1 < 2147483648)) (if x1 = 121 then fb_Rm_command_170  x1 x2 σ else fb_Rm_command_164  x1 x2 σ)
theorem e_Rm_command_158 {l : Launch} {G : kG} {yf : Int} {σf : kS}  {x1 : Int} {x2 : Int} {o3 : Option kV} {σ : kS} (h : fb_Rm_command_158  x1 x2 σ = some (some yf, σf)) : Rn l G dm_Rm_command m_Rm_command (kI fun y' σ' => y' = yf ∧ σ' = σf) 158 [some (.inr (9, 0)), some (.inl x1), some (.inl x2), o3] [] σ := by
  unfold fb_Rm_command_158 at h
  obtain ⟨h1, h⟩ := kg_some h
  refine s_Rm_command_158 h1 (fun c => ?_) (fun c => ?_)
  · rw [if_pos c] at h
    exact e_Rm_command_170  h
  · rw [if_neg c] at h
    exact e_Rm_command_164  h
def fb_Rm_command_152  (x1 : Int) (x2 : Int) (σ : kS) : kRes := kg ((-2147483648 ≤ x1 ∧ x1 < 2147483648)) (if x1 = 99 then fb_Rm_command_170  x1 x2 σ else fb_Rm_command_158  x1 x2 σ)
theorem e_Rm_command_152 {l : Launch} {G : kG} {yf : Int} {σf : kS}  {x1 : Int} {x2 : Int} {o3 : Option kV} {σ : kS} (h : fb_Rm_command_152  x1 x2 σ = some (some yf, σf)) : Rn l G dm_Rm_command m_Rm_command (kI fun y' σ' => y' = yf ∧ σ' = σf) 152 [some (.inr (9, 0)), some (.inl x1), some (.inl x2), o3] [] σ := by
  unfold fb_Rm_command_152 at h
  obtain ⟨h1, h⟩ := kg_some h
  refine s_Rm_command_152 h1 (fun c => ?_) (fun c => ?_)
  · rw [if_pos c] at h
    exact e_Rm_command_170  h
  · rw [if_neg c] at h
    exact e_Rm_command_158  h
def fb_Rm_command_146  (x1 : Int) (x2 : Int) (σ : kS) : kRes := kg ((-2147483648 ≤ x1 ∧ x1 < 2147483648)) (if x1 = 100 then fb_Rm_command_170  x1 x2 σ else fb_Rm_command_152  x1 x2 σ)
theorem e_Rm_command_146 {l : Launch} {G : kG} {yf : Int} {σf : kS}  {x1 : Int} {x2 : Int} {o3 : Option kV} {σ : kS} (h : fb_Rm_command_146  x1 x2 σ = some (some yf, σf)) : Rn l G dm_Rm_command m_Rm_command (kI fun y' σ' => y' = yf ∧ σ' = σf) 146 [some (.inr (9, 0)), some (.inl x1), some (.inl x2), o3] [] σ := by
  unfold fb_Rm_command_146 at h
  obtain ⟨h1, h⟩ := kg_some h
  refine s_Rm_command_146 h1 (fun c => ?_) (fun c => ?_)
  · rw [if_pos c] at h
    exact e_Rm_command_170  h
  · rw [if_neg c] at h
    exact e_Rm_command_152  h
def fb_Rm_command_140  (x1 : Int) (x2 : Int) (σ : kS) : kRes := kg ((-2147483648 ≤ x1 ∧ x1 < 2147483648)) (if x1 = 98 then fb_Rm_command_170  x1 x2 σ else fb_Rm_command_146  x1 x2 σ)
theorem e_Rm_command_140 {l : Launch} {G : kG} {yf : Int} {σf : kS}  {x1 : Int} {x2 : Int} {o3 : Option kV} {σ : kS} (h : fb_Rm_command_140  x1 x2 σ = some (some yf, σf)) : Rn l G dm_Rm_command m_Rm_command (kI fun y' σ' => y' = yf ∧ σ' = σf) 140 [some (.inr (9, 0)), some (.inl x1), some (.inl x2), o3] [] σ := by
  unfold fb_Rm_command_140 at h
  obtain ⟨h1, h⟩ := kg_some h
  refine s_Rm_command_140 h1 (fun c => ?_) (fun c => ?_)
  · rw [if_pos c] at h
    exact e_Rm_command_170  h
  · rw [if_neg c] at h
    exact e_Rm_command_146  h
def fb_Rm_command_134  (x1 : Int) (x2 : Int) (σ : kS) : kRes := kg ((-2147483648 ≤ x1 ∧ x1 < 2147483648)) (if x1 = 119 then fb_Rm_command_170  x1 x2 σ else fb_Rm_command_140  x1 x2 σ)
theorem e_Rm_command_134 {l : Launch} {G : kG} {yf : Int} {σf : kS}  {x1 : Int} {x2 : Int} {o3 : Option kV} {σ : kS} (h : fb_Rm_command_134  x1 x2 σ = some (some yf, σf)) : Rn l G dm_Rm_command m_Rm_command (kI fun y' σ' => y' = yf ∧ σ' = σf) 134 [some (.inr (9, 0)), some (.inl x1), some (.inl x2), o3] [] σ := by
  unfold fb_Rm_command_134 at h
  obtain ⟨h1, h⟩ := kg_some h
  refine s_Rm_command_134 h1 (fun c => ?_) (fun c => ?_)
  · rw [if_pos c] at h
    exact e_Rm_command_170  h
  · rw [if_neg c] at h
    exact e_Rm_command_140  h
def fb_Rm_command_128  (x1 : Int) (x2 : Int) (σ : kS) : kRes := kg ((-2147483648 ≤ x1 ∧ x1 < 2147483648)) (if x1 = 71 then fb_Rm_command_170  x1 x2 σ else fb_Rm_command_134  x1 x2 σ)
theorem e_Rm_command_128 {l : Launch} {G : kG} {yf : Int} {σf : kS}  {x1 : Int} {x2 : Int} {o3 : Option kV} {σ : kS} (h : fb_Rm_command_128  x1 x2 σ = some (some yf, σf)) : Rn l G dm_Rm_command m_Rm_command (kI fun y' σ' => y' = yf ∧ σ' = σf) 128 [some (.inr (9, 0)), some (.inl x1), some (.inl x2), o3] [] σ := by
  unfold fb_Rm_command_128 at h
  obtain ⟨h1, h⟩ := kg_some h
  refine s_Rm_command_128 h1 (fun c => ?_) (fun c => ?_)
  · rw [if_pos c] at h
    exact e_Rm_command_170  h
  · rw [if_neg c] at h
    exact e_Rm_command_134  h
def fb_Rm_command_122  (x1 : Int) (x2 : Int) (σ : kS) : kRes := kg ((-2147483648 ≤ x1 ∧ x1 < 2147483648)) (if x1 = 107 then fb_Rm_command_170  x1 x2 σ else fb_Rm_command_128  x1 x2 σ)
theorem e_Rm_command_122 {l : Launch} {G : kG} {yf : Int} {σf : kS}  {x1 : Int} {x2 : Int} {o3 : Option kV} {σ : kS} (h : fb_Rm_command_122  x1 x2 σ = some (some yf, σf)) : Rn l G dm_Rm_command m_Rm_command (kI fun y' σ' => y' = yf ∧ σ' = σf) 122 [some (.inr (9, 0)), some (.inl x1), some (.inl x2), o3] [] σ := by
  unfold fb_Rm_command_122 at h
  obtain ⟨h1, h⟩ := kg_some h
  refine s_Rm_command_122 h1 (fun c => ?_) (fun c => ?_)
  · rw [if_pos c] at h
    exact e_Rm_command_170  h
  · rw [if_neg c] at h
    exact e_Rm_command_128  h
def fb_Rm_command_116  (x1 : Int) (x2 : Int) (σ : kS) : kRes := kg ((-2147483648 ≤ x1 ∧ x1 < 2147483648)) (if x1 = 106 then fb_Rm_command_170  x1 x2 σ else fb_Rm_command_122  x1 x2 σ)
theorem e_Rm_command_116 {l : Launch} {G : kG} {yf : Int} {σf : kS}  {x1 : Int} {x2 : Int} {o3 : Option kV} {σ : kS} (h : fb_Rm_command_116  x1 x2 σ = some (some yf, σf)) : Rn l G dm_Rm_command m_Rm_command (kI fun y' σ' => y' = yf ∧ σ' = σf) 116 [some (.inr (9, 0)), some (.inl x1), some (.inl x2), o3] [] σ := by
  unfold fb_Rm_command_116 at h
  obtain ⟨h1, h⟩ := kg_some h
  refine s_Rm_command_116 h1 (fun c => ?_) (fun c => ?_)
  · rw [if_pos c] at h
    exact e_Rm_command_170  h
  · rw [if_neg c] at h
    exact e_Rm_command_122  h
def fb_Rm_command_110  (x1 : Int) (x2 : Int) (σ : kS) : kRes := kg ((-2147483648 ≤ x1 ∧ x1 < 2147483648)) (if x1 = 108 then fb_Rm_command_170  x1 x2 σ else fb_Rm_command_116  x1 x2 σ)
theorem e_Rm_command_110 {l : Launch} {G : kG} {yf : Int} {σf : kS}  {x1 : Int} {x2 : Int} {o3 : Option kV} {σ : kS} (h : fb_Rm_command_110  x1 x2 σ = some (some yf, σf)) : Rn l G dm_Rm_command m_Rm_command (kI fun y' σ' => y' = yf ∧ σ' = σf) 110 [some (.inr (9, 0)), some (.inl x1), some (.inl x2), o3] [] σ := by
  unfold fb_Rm_command_110 at h
  obtain ⟨h1, h⟩ := kg_some h
  refine s_Rm_command_110 h1 (fun c => ?_) (fun c => ?_)
  · rw [if_pos c] at h
    exact e_Rm_command_170  h
  · rw [if_neg c] at h
    exact e_Rm_command_116  h
def fb_Rm_command_104  (x1 : Int) (x2 : Int) (σ : kS) : kRes := kg ((-2147483648 ≤ x1 ∧ x1 < 2147483648)) (if x1 = 104 then fb_Rm_command_170  x1 x2 σ else fb_Rm_command_110  x1 x2 σ)
theorem e_Rm_command_104 {l : Launch} {G : kG} {yf : Int} {σf : kS}  {x1 : Int} {x2 : Int} {o3 : Option kV} {σ : kS} (h : fb_Rm_command_104  x1 x2 σ = some (some yf, σf)) : Rn l G dm_Rm_command m_Rm_command (kI fun y' σ' => y' = yf ∧ σ' = σf) 104 [some (.inr (9, 0)), some (.inl x1), some (.inl x2), o3] [] σ := by
  unfold fb_Rm_command_104 at h
  obtain ⟨h1, h⟩ := kg_some h
  refine s_Rm_command_104 h1 (fun c => ?_) (fun c => ?_)
  · rw [if_pos c] at h
    exact e_Rm_command_170  h
  · rw [if_neg c] at h
    exact e_Rm_command_110  h
def fb_Rm_command_103  (x1 : Int) (x2 : Int) (s0 : Int) (σ : kS) : kRes := some (some s0, σ)
theorem e_Rm_command_103 {l : Launch} {G : kG} {yf : Int} {σf : kS}  {x1 : Int} {x2 : Int} {s0 : Int} {o3 : Option kV} {σ : kS} (h : fb_Rm_command_103  x1 x2 s0 σ = some (some yf, σf)) : Rn l G dm_Rm_command m_Rm_command (kI fun y' σ' => y' = yf ∧ σ' = σf) 103 [some (.inr (9, 0)), some (.inl x1), some (.inl x2), o3] [.inl s0] σ := by
  unfold fb_Rm_command_103 at h
  simp only [Option.some.injEq, Prod.mk.injEq, true_and] at h
  exact s_Rm_command_103  ⟨_, rfl, h⟩
def fb_Rm_command_97  (x1 : Int) (x2 : Int) (σ : kS) : kRes := kbi (f_Rm_operate x1 x2 σ) fun y σ1 => fb_Rm_command_103  x1 x2 y σ1
theorem e_Rm_command_97 {l : Launch} {G : kG} {yf : Int} {σf : kS}  {x1 : Int} {x2 : Int} {o3 : Option kV} {σ : kS} (h : fb_Rm_command_97  x1 x2 σ = some (some yf, σf)) : Rn l G dm_Rm_command m_Rm_command (kI fun y' σ' => y' = yf ∧ σ' = σf) 97 [some (.inr (9, 0)), some (.inl x1), some (.inl x2), o3] [] σ := by
  unfold fb_Rm_command_97 at h
  obtain ⟨y, σ1, hc, h⟩ := kbi_some h
  refine s_Rm_command_97  (by decide) (E_Rm_operate hc) (fun y2 σ2 e2 => ?_)
  obtain ⟨rfl, rfl⟩ := e2
  exact e_Rm_command_103  h
def fb_Rm_command_89  (x1 : Int) (s0 : Int) (σ : kS) : kRes := kg ((-2147483648 ≤ σ 9 0 8 ∧ σ 9 0 8 < 2147483648)) (if (σ 9 0 8) = 0 then fb_Rm_command_104  x1 s0 σ else fb_Rm_command_97  x1 s0 σ)
theorem e_Rm_command_89 {l : Launch} {G : kG} {yf : Int} {σf : kS}  {x1 : Int} {s0 : Int} {o2 : Option kV} {o3 : Option kV} {σ : kS} (h : fb_Rm_command_89  x1 s0 σ = some (some yf, σf)) : Rn l G dm_Rm_command m_Rm_command (kI fun y' σ' => y' = yf ∧ σ' = σf) 89 [some (.inr (9, 0)), some (.inl x1), o2, o3] [.inl s0] σ := by
  unfold fb_Rm_command_89 at h
  obtain ⟨h1, h⟩ := kg_some h
  refine s_Rm_command_89 h1 (fun c => ?_) (fun c => ?_)
  · rw [if_pos c] at h
    exact e_Rm_command_104  h
  · rw [if_neg c] at h
    exact e_Rm_command_97  h
def fb_Rm_command_88  (x1 : Int) (σ : kS) : kRes := fb_Rm_command_89  x1 1 σ
theorem e_Rm_command_88 {l : Launch} {G : kG} {yf : Int} {σf : kS}  {x1 : Int} {o2 : Option kV} {o3 : Option kV} {σ : kS} (h : fb_Rm_command_88  x1 σ = some (some yf, σf)) : Rn l G dm_Rm_command m_Rm_command (kI fun y' σ' => y' = yf ∧ σ' = σf) 88 [some (.inr (9, 0)), some (.inl x1), o2, o3] [] σ := by
  unfold fb_Rm_command_88 at h
  refine s_Rm_command_88  ?_
  exact e_Rm_command_89  h
def fb_Rm_command_81  (x1 : Int) (σ : kS) : kRes := fb_Rm_command_89  x1 (σ 9 0 9) σ
theorem e_Rm_command_81 {l : Launch} {G : kG} {yf : Int} {σf : kS}  {x1 : Int} {o2 : Option kV} {o3 : Option kV} {σ : kS} (h : fb_Rm_command_81  x1 σ = some (some yf, σf)) : Rn l G dm_Rm_command m_Rm_command (kI fun y' σ' => y' = yf ∧ σ' = σf) 81 [some (.inr (9, 0)), some (.inl x1), o2, o3] [] σ := by
  unfold fb_Rm_command_81 at h
  refine s_Rm_command_81  ?_
  exact e_Rm_command_89  h
def fb_Rm_command_74  (x1 : Int) (σ : kS) : kRes := kg ((-2147483648 ≤ σ 9 0 10 ∧ σ 9 0 10 < 2147483648)) (if (σ 9 0 10) ≤ 0 then fb_Rm_command_88  x1 σ else fb_Rm_command_81  x1 σ)
theorem e_Rm_command_74 {l : Launch} {G : kG} {yf : Int} {σf : kS}  {x1 : Int} {o2 : Option kV} {o3 : Option kV} {σ : kS} (h : fb_Rm_command_74  x1 σ = some (some yf, σf)) : Rn l G dm_Rm_command m_Rm_command (kI fun y' σ' => y' = yf ∧ σ' = σf) 74 [some (.inr (9, 0)), some (.inl x1), o2, o3] [] σ := by
  unfold fb_Rm_command_74 at h
  obtain ⟨h1, h⟩ := kg_some h
  refine s_Rm_command_74 h1 (fun c => ?_) (fun c => ?_)
  · rw [if_pos c] at h
    exact e_Rm_command_88  h
  · rw [if_neg c] at h
    exact e_Rm_command_81  h
def fb_Rm_command_46  (x1 : Int) (σ : kS) : kRes := some (some 1, kup (kup σ 9 0 9 (((10 * (σ 9 0 9)) + x1) - 48)) 9 0 10 (((kup σ 9 0 9 (((10 * (σ 9 0 9)) + x1) - 48)) 9 0 10) + 1))
theorem e_Rm_command_46 {l : Launch} {G : kG} {yf : Int} {σf : kS}  {x1 : Int} {o2 : Option kV} {o3 : Option kV} {σ : kS} (h : fb_Rm_command_46  x1 σ = some (some yf, σf)) : Rn l G dm_Rm_command m_Rm_command (kI fun y' σ' => y' = yf ∧ σ' = σf) 46 [some (.inr (9, 0)), some (.inl x1), o2, o3] [] σ := by
  unfold fb_Rm_command_46 at h
  simp only [Option.some.injEq, Prod.mk.injEq, true_and] at h
  exact s_Rm_command_46  ⟨_, rfl, h⟩
def fb_Rm_command_40  (x1 : Int) (σ : kS) : kRes := kg ((-2147483648 ≤ x1 ∧ x1 < 2147483648)) (if 57 < x1 then fb_Rm_command_74  x1 σ else fb_Rm_command_46  x1 σ)
theorem e_Rm_command_40 {l : Launch} {G : kG} {yf : Int} {σf : kS}  {x1 : Int} {o2 : Option kV} {o3 : Option kV} {σ : kS} (h : fb_Rm_command_40  x1 σ = some (some yf, σf)) : Rn l G dm_Rm_command m_Rm_command (kI fun y' σ' => y' = yf ∧ σ' = σf) 40 [some (.inr (9, 0)), some (.inl x1), o2, o3] [] σ := by
  unfold fb_Rm_command_40 at h
  obtain ⟨h1, h⟩ := kg_some h
  refine s_Rm_command_40 h1 (fun c => ?_) (fun c => ?_)
  · rw [if_pos c] at h
    exact e_Rm_command_74  h
  · rw [if_neg c] at h
    exact e_Rm_command_46  h
def fb_Rm_command_34  (x1 : Int) (σ : kS) : kRes := kg ((-2147483648 ≤ x1 ∧ x1 < 2147483648)) (if x1 < 49 then fb_Rm_command_74  x1 σ else fb_Rm_command_40  x1 σ)
theorem e_Rm_command_34 {l : Launch} {G : kG} {yf : Int} {σf : kS}  {x1 : Int} {o2 : Option kV} {o3 : Option kV} {σ : kS} (h : fb_Rm_command_34  x1 σ = some (some yf, σf)) : Rn l G dm_Rm_command m_Rm_command (kI fun y' σ' => y' = yf ∧ σ' = σf) 34 [some (.inr (9, 0)), some (.inl x1), o2, o3] [] σ := by
  unfold fb_Rm_command_34 at h
  obtain ⟨h1, h⟩ := kg_some h
  refine s_Rm_command_34 h1 (fun c => ?_) (fun c => ?_)
  · rw [if_pos c] at h
    exact e_Rm_command_74  h
  · rw [if_neg c] at h
    exact e_Rm_command_40  h
def fb_Rm_command_27  (x1 : Int) (σ : kS) : kRes := kg ((-2147483648 ≤ σ 9 0 10 ∧ σ 9 0 10 < 2147483648)) (if (σ 9 0 10) = 0 then fb_Rm_command_34  x1 σ else fb_Rm_command_74  x1 σ)
theorem e_Rm_command_27 {l : Launch} {G : kG} {yf : Int} {σf : kS}  {x1 : Int} {o2 : Option kV} {o3 : Option kV} {σ : kS} (h : fb_Rm_command_27  x1 σ = some (some yf, σf)) : Rn l G dm_Rm_command m_Rm_command (kI fun y' σ' => y' = yf ∧ σ' = σf) 27 [some (.inr (9, 0)), some (.inl x1), o2, o3] [] σ := by
  unfold fb_Rm_command_27 at h
  obtain ⟨h1, h⟩ := kg_some h
  refine s_Rm_command_27 h1 (fun c => ?_) (fun c => ?_)
  · rw [if_neg c] at h
    exact e_Rm_command_74  h
  · rw [if_pos c] at h
    exact e_Rm_command_34  h
def fb_Rm_command_21  (x1 : Int) (σ : kS) : kRes := kg ((-2147483648 ≤ x1 ∧ x1 < 2147483648)) (if x1 ≤ 57 then fb_Rm_command_46  x1 σ else fb_Rm_command_27  x1 σ)
theorem e_Rm_command_21 {l : Launch} {G : kG} {yf : Int} {σf : kS}  {x1 : Int} {o2 : Option kV} {o3 : Option kV} {σ : kS} (h : fb_Rm_command_21  x1 σ = some (some yf, σf)) : Rn l G dm_Rm_command m_Rm_command (kI fun y' σ' => y' = yf ∧ σ' = σf) 21 [some (.inr (9, 0)), some (.inl x1), o2, o3] [] σ := by
  unfold fb_Rm_command_21 at h
  obtain ⟨h1, h⟩ := kg_some h
  refine s_Rm_command_21 h1 (fun c => ?_) (fun c => ?_)
  · rw [if_pos c] at h
    exact e_Rm_command_46  h
  · rw [if_neg c] at h
    exact e_Rm_command_27  h
def fb_Rm_command_15  (x1 : Int) (σ : kS) : kRes := kg ((-2147483648 ≤ x1 ∧ x1 < 2147483648)) (if x1 < 48 then fb_Rm_command_27  x1 σ else fb_Rm_command_21  x1 σ)
theorem e_Rm_command_15 {l : Launch} {G : kG} {yf : Int} {σf : kS}  {x1 : Int} {o2 : Option kV} {o3 : Option kV} {σ : kS} (h : fb_Rm_command_15  x1 σ = some (some yf, σf)) : Rn l G dm_Rm_command m_Rm_command (kI fun y' σ' => y' = yf ∧ σ' = σf) 15 [some (.inr (9, 0)), some (.inl x1), o2, o3] [] σ := by
  unfold fb_Rm_command_15 at h
  obtain ⟨h1, h⟩ := kg_some h
  refine s_Rm_command_15 h1 (fun c => ?_) (fun c => ?_)
  · rw [if_pos c] at h
    exact e_Rm_command_27  h
  · rw [if_neg c] at h
    exact e_Rm_command_21  h
def fb_Rm_command_7  (x1 : Int) (σ : kS) : kRes := kg ((-2147483648 ≤ σ 9 0 10 ∧ σ 9 0 10 < 2147483648)) (if (σ 9 0 10) = 1 then fb_Rm_command_15  x1 σ else fb_Rm_command_27  x1 σ)
theorem e_Rm_command_7 {l : Launch} {G : kG} {yf : Int} {σf : kS}  {x1 : Int} {o2 : Option kV} {o3 : Option kV} {σ : kS} (h : fb_Rm_command_7  x1 σ = some (some yf, σf)) : Rn l G dm_Rm_command m_Rm_command (kI fun y' σ' => y' = yf ∧ σ' = σf) 7 [some (.inr (9, 0)), some (.inl x1), o2, o3] [] σ := by
  unfold fb_Rm_command_7 at h
  obtain ⟨h1, h⟩ := kg_some h
  refine s_Rm_command_7 h1 (fun c => ?_) (fun c => ?_)
  · rw [if_neg c] at h
    exact e_Rm_command_27  h
  · rw [if_pos c] at h
    exact e_Rm_command_15  h
def fb_Rm_command_0  (x1 : Int) (σ : kS) : kRes := kg ((-2147483648 ≤ σ 9 0 8 ∧ σ 9 0 8 < 2147483648)) (if (σ 9 0 8) = 0 then fb_Rm_command_7  x1 σ else fb_Rm_command_74  x1 σ)
theorem e_Rm_command_0 {l : Launch} {G : kG} {yf : Int} {σf : kS}  {x1 : Int} {o2 : Option kV} {o3 : Option kV} {σ : kS} (h : fb_Rm_command_0  x1 σ = some (some yf, σf)) : Rn l G dm_Rm_command m_Rm_command (kI fun y' σ' => y' = yf ∧ σ' = σf) 0 [some (.inr (9, 0)), some (.inl x1), o2, o3] [] σ := by
  unfold fb_Rm_command_0 at h
  obtain ⟨h1, h⟩ := kg_some h
  refine s_Rm_command_0 h1 (fun c => ?_) (fun c => ?_)
  · rw [if_neg c] at h
    exact e_Rm_command_74  h
  · rw [if_pos c] at h
    exact e_Rm_command_7  h
def f_Rm_command (x1 : Int) (σ : kS) : kRes := fb_Rm_command_0 x1 σ
theorem E_Rm_command {l : Launch} {G : kG} {yf : Int} {σf : kS} {x1 : Int} {σ : kS} (h : f_Rm_command x1 σ = some (some yf, σf)) : Call l G dm_Rm_command y_Rm_command m_Rm_command [.inr (9, 0), .inl x1] σ (kI fun y' σ' => y' = yf ∧ σ' = σf) := by
  unfold f_Rm_command at h
  exact Call.of (by decide +kernel) rfl (Nat.le_of_ble_eq_true rfl) (e_Rm_command_0 h)
/-! Rm_rows -/
def fb_Rm_rows_31  (x1 : Int) (s0 : Int) (σ : kS) : kRes := some (some s0, σ)
theorem e_Rm_rows_31 {l : Launch} {G : kG} {yf : Int} {σf : kS}  {x1 : Int} {s0 : Int}  {σ : kS} (h : fb_Rm_rows_31  x1 s0 σ = some (some yf, σf)) : Rn l G dm_Rm_rows m_Rm_rows (kI fun y' σ' => y' = yf ∧ σ' = σf) 31 [some (.inr (9, 0)), some (.inl x1)] [.inl s0] σ := by
  unfold fb_Rm_rows_31 at h
  simp only [Option.some.injEq, Prod.mk.injEq, true_and] at h
  exact s_Rm_rows_31  ⟨_, rfl, h⟩
def fb_Rm_rows_13  (x1 : Int) (σ : kS) : kRes := kg ((0 ≤ x1 ∧ x1 < (100 : Nat)) ∧ ¬ Int32.ofInt (σ 9 0 37) = 0) (fb_Rm_rows_31  x1 (kdiv (((σ 21 0 (Int.toNat x1)) + (σ 9 0 37)) - 1) (σ 9 0 37)) σ)
theorem e_Rm_rows_13 {l : Launch} {G : kG} {yf : Int} {σf : kS}  {x1 : Int}  {σ : kS} (h : fb_Rm_rows_13  x1 σ = some (some yf, σf)) : Rn l G dm_Rm_rows m_Rm_rows (kI fun y' σ' => y' = yf ∧ σ' = σf) 13 [some (.inr (9, 0)), some (.inl x1)] [] σ := by
  unfold fb_Rm_rows_13 at h
  obtain ⟨⟨h1, h2⟩, h⟩ := kg_some h
  refine s_Rm_rows_13 h1 h2 ?_
  exact e_Rm_rows_31  h
def fb_Rm_rows_9  (x1 : Int) (σ : kS) : kRes := fb_Rm_rows_31  x1 1 σ
theorem e_Rm_rows_9 {l : Launch} {G : kG} {yf : Int} {σf : kS}  {x1 : Int}  {σ : kS} (h : fb_Rm_rows_9  x1 σ = some (some yf, σf)) : Rn l G dm_Rm_rows m_Rm_rows (kI fun y' σ' => y' = yf ∧ σ' = σf) 9 [some (.inr (9, 0)), some (.inl x1)] [] σ := by
  unfold fb_Rm_rows_9 at h
  refine s_Rm_rows_9  ?_
  exact e_Rm_rows_31  h
def fb_Rm_rows_0  (x1 : Int) (σ : kS) : kRes := kg ((0 ≤ x1 ∧ x1 < (100 : Nat)) ∧ (-2147483648 ≤ σ 21 0 (Int.toNat x1) ∧ σ 21 0 (Int.toNat x1) < 2147483648)) (if (σ 21 0 (Int.toNat x1)) = 0 then fb_Rm_rows_9  x1 σ else fb_Rm_rows_13  x1 σ)
theorem e_Rm_rows_0 {l : Launch} {G : kG} {yf : Int} {σf : kS}  {x1 : Int}  {σ : kS} (h : fb_Rm_rows_0  x1 σ = some (some yf, σf)) : Rn l G dm_Rm_rows m_Rm_rows (kI fun y' σ' => y' = yf ∧ σ' = σf) 0 [some (.inr (9, 0)), some (.inl x1)] [] σ := by
  unfold fb_Rm_rows_0 at h
  obtain ⟨⟨h1, h2⟩, h⟩ := kg_some h
  refine s_Rm_rows_0 h1 h2 (fun c => ?_) (fun c => ?_)
  · rw [if_neg c] at h
    exact e_Rm_rows_13  h
  · rw [if_pos c] at h
    exact e_Rm_rows_9  h
def f_Rm_rows (x1 : Int) (σ : kS) : kRes := fb_Rm_rows_0 x1 σ
theorem E_Rm_rows {l : Launch} {G : kG} {yf : Int} {σf : kS} {x1 : Int} {σ : kS} (h : f_Rm_rows x1 σ = some (some yf, σf)) : Call l G dm_Rm_rows y_Rm_rows m_Rm_rows [.inr (9, 0), .inl x1] σ (kI fun y' σ' => y' = yf ∧ σ' = σf) := by
  unfold f_Rm_rows at h
  exact Call.of (by decide +kernel) rfl (Nat.le_of_ble_eq_true rfl) (e_Rm_rows_0 h)
/-! Rm_needed -/
def fb_Rm_needed_31  (x1 : Int) (x2 : Int) (σ : kS) : kRes := some (some x1, σ)
theorem e_Rm_needed_31 {l : Launch} {G : kG} {yf : Int} {σf : kS}  {x1 : Int} {x2 : Int}  {σ : kS} (h : fb_Rm_needed_31  x1 x2 σ = some (some yf, σf)) : Rn l G dm_Rm_needed m_Rm_needed (kI fun y' σ' => y' = yf ∧ σ' = σf) 31 [some (.inr (9, 0)), some (.inl x1), some (.inl x2)] [] σ := by
  unfold fb_Rm_needed_31 at h
  simp only [Option.some.injEq, Prod.mk.injEq, true_and] at h
  exact s_Rm_needed_31  ⟨_, rfl, h⟩
def fb_Rm_needed_23 (k7 : Int → Int → kS → kRes) (x1 : Int) (x2 : Int) (s0 : Int) (s1 : Int) (σ : kS) : kRes := k7 (s1 + s0) (x2 + 1) σ
theorem e_Rm_needed_23 {l : Launch} {G : kG} {yf : Int} {σf : kS} {k7 : Int → Int → kS → kRes} (hk7 : ∀ (x1 : Int) (x2 : Int)  (σ : kS), k7 x1 x2 σ = some (some yf, σf) → Rn l G dm_Rm_needed m_Rm_needed (kI fun y' σ' => y' = yf ∧ σ' = σf) 7 [some (.inr (9, 0)), some (.inl x1), some (.inl x2)] [] σ) {x1 : Int} {x2 : Int} {s0 : Int} {s1 : Int}  {σ : kS} (h : fb_Rm_needed_23 k7 x1 x2 s0 s1 σ = some (some yf, σf)) : Rn l G dm_Rm_needed m_Rm_needed (kI fun y' σ' => y' = yf ∧ σ' = σf) 23 [some (.inr (9, 0)), some (.inl x1), some (.inl x2)] [.inl s0, .inl s1] σ := by
  unfold fb_Rm_needed_23 at h
  refine s_Rm_needed_23  ?_
  exact hk7 _ _ _ h
def fb_Rm_needed_17 (k7 : Int → Int → kS → kRes) (x1 : Int) (x2 : Int) (σ : kS) : kRes := kbi (f_Rm_rows x2 σ) fun y σ1 => fb_Rm_needed_23 k7 x1 x2 y x1 σ1
theorem e_Rm_needed_17 {l : Launch} {G : kG} {yf : Int} {σf : kS} {k7 : Int → Int → kS → kRes} (hk7 : ∀ (x1 : Int) (x2 : Int)  (σ : kS), k7 x1 x2 σ = some (some yf, σf) → Rn l G dm_Rm_needed m_Rm_needed (kI fun y' σ' => y' = yf ∧ σ' = σf) 7 [some (.inr (9, 0)), some (.inl x1), some (.inl x2)] [] σ) {x1 : Int} {x2 : Int}  {σ : kS} (h : fb_Rm_needed_17 k7 x1 x2 σ = some (some yf, σf)) : Rn l G dm_Rm_needed m_Rm_needed (kI fun y' σ' => y' = yf ∧ σ' = σf) 17 [some (.inr (9, 0)), some (.inl x1), some (.inl x2)] [] σ := by
  unfold fb_Rm_needed_17 at h
  obtain ⟨y, σ1, hc, h⟩ := kbi_some h
  refine s_Rm_needed_17  (by decide) (E_Rm_rows hc) (fun y2 σ2 e2 => ?_)
  obtain ⟨rfl, rfl⟩ := e2
  exact e_Rm_needed_23 hk7 h
def fb_Rm_needed_7 (k7 : Int → Int → kS → kRes) (x1 : Int) (x2 : Int) (σ : kS) : kRes := kg ((-2147483648 ≤ x2 ∧ x2 < 2147483648) ∧ (-2147483648 ≤ σ 23 0 0 ∧ σ 23 0 0 < 2147483648)) (if (σ 23 0 0) < x2 then fb_Rm_needed_31  x1 x2 σ else fb_Rm_needed_17 k7 x1 x2 σ)
theorem e_Rm_needed_7 {l : Launch} {G : kG} {yf : Int} {σf : kS} {k7 : Int → Int → kS → kRes} (hk7 : ∀ (x1 : Int) (x2 : Int)  (σ : kS), k7 x1 x2 σ = some (some yf, σf) → Rn l G dm_Rm_needed m_Rm_needed (kI fun y' σ' => y' = yf ∧ σ' = σf) 7 [some (.inr (9, 0)), some (.inl x1), some (.inl x2)] [] σ) {x1 : Int} {x2 : Int}  {σ : kS} (h : fb_Rm_needed_7 k7 x1 x2 σ = some (some yf, σf)) : Rn l G dm_Rm_needed m_Rm_needed (kI fun y' σ' => y' = yf ∧ σ' = σf) 7 [some (.inr (9, 0)), some (.inl x1), some (.inl x2)] [] σ := by
  unfold fb_Rm_needed_7 at h
  obtain ⟨⟨h1, h2⟩, h⟩ := kg_some h
  refine s_Rm_needed_7 h1 h2 (fun c => ?_) (fun c => ?_)
  · rw [if_pos c] at h
    exact e_Rm_needed_31  h
  · rw [if_neg c] at h
    exact e_Rm_needed_17 hk7 h
def fl_Rm_needed_7  : Nat → Int → Int → kS → kRes
  | 0, _, _, _ => none
  | n + 1, x1, x2, σ => fb_Rm_needed_7 (fl_Rm_needed_7  n) x1 x2 σ
theorem el_Rm_needed_7 {l : Launch} {G : kG} {yf : Int} {σf : kS}  : ∀ (n : Nat) (x1 : Int) (x2 : Int)  (σ : kS), fl_Rm_needed_7  n x1 x2 σ = some (some yf, σf) → Rn l G dm_Rm_needed m_Rm_needed (kI fun y' σ' => y' = yf ∧ σ' = σf) 7 [some (.inr (9, 0)), some (.inl x1), some (.inl x2)] [] σ := by
  intro n
  induction n with
  | zero => intro x1 x2 σ h; simp only [fl_Rm_needed_7] at h; cases h
  | succ n ih => intro x1 x2 σ h; simp only [fl_Rm_needed_7] at h; exact e_Rm_needed_7 ih h
def fb_Rm_needed_0   (σ : kS) : kRes := fl_Rm_needed_7  3000 0 (σ 9 0 38) σ
theorem e_Rm_needed_0 {l : Launch} {G : kG} {yf : Int} {σf : kS}   {o1 : Option kV} {o2 : Option kV} {σ : kS} (h : fb_Rm_needed_0   σ = some (some yf, σf)) : Rn l G dm_Rm_needed m_Rm_needed (kI fun y' σ' => y' = yf ∧ σ' = σf) 0 [some (.inr (9, 0)), o1, o2] [] σ := by
  unfold fb_Rm_needed_0 at h
  refine s_Rm_needed_0  ?_
  exact el_Rm_needed_7  _ _ _ _ h
def f_Rm_needed  (σ : kS) : kRes := fb_Rm_needed_0  σ
theorem E_Rm_needed {l : Launch} {G : kG} {yf : Int} {σf : kS}  {σ : kS} (h : f_Rm_needed  σ = some (some yf, σf)) : Call l G dm_Rm_needed y_Rm_needed m_Rm_needed [.inr (9, 0)] σ (kI fun y' σ' => y' = yf ∧ σ' = σf) := by
  unfold f_Rm_needed at h
  exact Call.of (by decide +kernel) rfl (Nat.le_of_ble_eq_true rfl) (e_Rm_needed_0 h)
/-! Rm_send -/
def fb_Rm_send_107  (x1 : Int) (x2 : Int) (x3 : Int) (x4 : Int) (σ : kS) : kRes := some (none, σ)
theorem e_Rm_send_107 {l : Launch} {G : kG} {σf : kS}  {x1 : Int} {x2 : Int} {x3 : Int} {x4 : Int}  {σ : kS} (h : fb_Rm_send_107  x1 x2 x3 x4 σ = some (none, σf)) : Rn l G dm_Rm_send m_Rm_send (kU fun σ' => σ' = σf) 107 [some (.inr (9, 0)), some (.inl x1), some (.inl x2), some (.inl x3), some (.inl x4)] [] σ := by
  unfold fb_Rm_send_107 at h
  simp only [Option.some.injEq, Prod.mk.injEq, true_and] at h
  exact s_Rm_send_107  ⟨rfl, h⟩
def fb_Rm_send_91  (x1 : Int) (x2 : Int) (x3 : Int) (x4 : Int) (σ : kS) : kRes := fb_Rm_send_107  x1 x2 x3 x4 (kup σ 9 0 39 (((((σ 9 0 39) + 3) + x3) - x2) + 1))
theorem e_Rm_send_91 {l : Launch} {G : kG} {σf : kS}  {x1 : Int} {x2 : Int} {x3 : Int} {x4 : Int}  {σ : kS} (h : fb_Rm_send_91  x1 x2 x3 x4 σ = some (none, σf)) : Rn l G dm_Rm_send m_Rm_send (kU fun σ' => σ' = σf) 91 [some (.inr (9, 0)), some (.inl x1), some (.inl x2), some (.inl x3), some (.inl x4)] [] σ := by
  unfold fb_Rm_send_91 at h
  refine s_Rm_send_91  ?_
  exact e_Rm_send_107  h
def fb_Rm_send_87  (x1 : Int) (x2 : Int) (x3 : Int) (x4 : Int) (σ : kS) : kRes := kg ((-2147483648 ≤ x2 ∧ x2 < 2147483648)) (if x2 < 0 then fb_Rm_send_107  x1 x2 x3 x4 σ else fb_Rm_send_91  x1 x2 x3 x4 σ)
theorem e_Rm_send_87 {l : Launch} {G : kG} {σf : kS}  {x1 : Int} {x2 : Int} {x3 : Int} {x4 : Int}  {σ : kS} (h : fb_Rm_send_87  x1 x2 x3 x4 σ = some (none, σf)) : Rn l G dm_Rm_send m_Rm_send (kU fun σ' => σ' = σf) 87 [some (.inr (9, 0)), some (.inl x1), some (.inl x2), some (.inl x3), some (.inl x4)] [] σ := by
  unfold fb_Rm_send_87 at h
  obtain ⟨h1, h⟩ := kg_some h
  refine s_Rm_send_87 h1 (fun c => ?_) (fun c => ?_)
  · rw [if_pos c] at h
    exact e_Rm_send_107  h
  · rw [if_neg c] at h
    exact e_Rm_send_91  h
def fb_Rm_send_81 (k7 : Int → Int → Int → Int → kS → kRes) (x1 : Int) (x2 : Int) (x3 : Int) (x4 : Int) (σ : kS) : kRes := k7 x1 x2 x3 (x4 + 1) σ
theorem e_Rm_send_81 {l : Launch} {G : kG} {σf : kS} {k7 : Int → Int → Int → Int → kS → kRes} (hk7 : ∀ (x1 : Int) (x2 : Int) (x3 : Int) (x4 : Int)  (σ : kS), k7 x1 x2 x3 x4 σ = some (none, σf) → Rn l G dm_Rm_send m_Rm_send (kU fun σ' => σ' = σf) 7 [some (.inr (9, 0)), some (.inl x1), some (.inl x2), some (.inl x3), some (.inl x4)] [] σ) {x1 : Int} {x2 : Int} {x3 : Int} {x4 : Int}  {σ : kS} (h : fb_Rm_send_81 k7 x1 x2 x3 x4 σ = some (none, σf)) : Rn l G dm_Rm_send m_Rm_send (kU fun σ' => σ' = σf) 81 [some (.inr (9, 0)), some (.inl x1), some (.inl x2), some (.inl x3), some (.inl x4)] [] σ := by
  unfold fb_Rm_send_81 at h
  refine s_Rm_send_81  ?_
  exact hk7 _ _ _ _ _ h
def fb_Rm_send_53 (k7 : Int → Int → Int → Int → kS → kRes) (x1 : Int) (x2 : Int) (x3 : Int) (x4 : Int) (s0 : Int) (σ : kS) : kRes := kg ((0 ≤ (20 * x1) + x4 ∧ (20 * x1) + x4 < (100 : Nat))) (fb_Rm_send_81 k7 x1 s0 x4 x4 (kup σ 36 0 (Int.toNat ((20 * x1) + x4)) (σ 37 0 (Int.toNat ((20 * x1) + x4)))))
theorem e_Rm_send_53 {l : Launch} {G : kG} {σf : kS} {k7 : Int → Int → Int → Int → kS → kRes} (hk7 : ∀ (x1 : Int) (x2 : Int) (x3 : Int) (x4 : Int)  (σ : kS), k7 x1 x2 x3 x4 σ = some (none, σf) → Rn l G dm_Rm_send m_Rm_send (kU fun σ' => σ' = σf) 7 [some (.inr (9, 0)), some (.inl x1), some (.inl x2), some (.inl x3), some (.inl x4)] [] σ) {x1 : Int} {x2 : Int} {x3 : Int} {x4 : Int} {s0 : Int}  {σ : kS} (h : fb_Rm_send_53 k7 x1 x2 x3 x4 s0 σ = some (none, σf)) : Rn l G dm_Rm_send m_Rm_send (kU fun σ' => σ' = σf) 53 [some (.inr (9, 0)), some (.inl x1), some (.inl x2), some (.inl x3), some (.inl x4)] [.inl s0] σ := by
  unfold fb_Rm_send_53 at h
  obtain ⟨h1, h⟩ := kg_some h
  refine s_Rm_send_53 h1 ?_
  exact e_Rm_send_81 hk7 h
def fb_Rm_send_52 (k7 : Int → Int → Int → Int → kS → kRes) (x1 : Int) (x2 : Int) (x3 : Int) (x4 : Int) (σ : kS) : kRes := fb_Rm_send_53 k7 x1 x2 x3 x4 x2 σ
theorem e_Rm_send_52 {l : Launch} {G : kG} {σf : kS} {k7 : Int → Int → Int → Int → kS → kRes} (hk7 : ∀ (x1 : Int) (x2 : Int) (x3 : Int) (x4 : Int)  (σ : kS), k7 x1 x2 x3 x4 σ = some (none, σf) → Rn l G dm_Rm_send m_Rm_send (kU fun σ' => σ' = σf) 7 [some (.inr (9, 0)), some (.inl x1), some (.inl x2), some (.inl x3), some (.inl x4)] [] σ) {x1 : Int} {x2 : Int} {x3 : Int} {x4 : Int}  {σ : kS} (h : fb_Rm_send_52 k7 x1 x2 x3 x4 σ = some (none, σf)) : Rn l G dm_Rm_send m_Rm_send (kU fun σ' => σ' = σf) 52 [some (.inr (9, 0)), some (.inl x1), some (.inl x2), some (.inl x3), some (.inl x4)] [] σ := by
  unfold fb_Rm_send_52 at h
  refine s_Rm_send_52  ?_
  exact e_Rm_send_53 hk7 h
def fb_Rm_send_47 (k7 : Int → Int → Int → Int → kS → kRes) (x1 : Int) (x2 : Int) (x3 : Int) (x4 : Int) (σ : kS) : kRes := fb_Rm_send_53 k7 x1 x2 x3 x4 x4 σ
theorem e_Rm_send_47 {l : Launch} {G : kG} {σf : kS} {k7 : Int → Int → Int → Int → kS → kRes} (hk7 : ∀ (x1 : Int) (x2 : Int) (x3 : Int) (x4 : Int)  (σ : kS), k7 x1 x2 x3 x4 σ = some (none, σf) → Rn l G dm_Rm_send m_Rm_send (kU fun σ' => σ' = σf) 7 [some (.inr (9, 0)), some (.inl x1), some (.inl x2), some (.inl x3), some (.inl x4)] [] σ) {x1 : Int} {x2 : Int} {x3 : Int} {x4 : Int}  {σ : kS} (h : fb_Rm_send_47 k7 x1 x2 x3 x4 σ = some (none, σf)) : Rn l G dm_Rm_send m_Rm_send (kU fun σ' => σ' = σf) 47 [some (.inr (9, 0)), some (.inl x1), some (.inl x2), some (.inl x3), some (.inl x4)] [] σ := by
  unfold fb_Rm_send_47 at h
  refine s_Rm_send_47  ?_
  exact e_Rm_send_53 hk7 h
def fb_Rm_send_43 (k7 : Int → Int → Int → Int → kS → kRes) (x1 : Int) (x2 : Int) (x3 : Int) (x4 : Int) (σ : kS) : kRes := kg ((-2147483648 ≤ x2 ∧ x2 < 2147483648)) (if 0 ≤ x2 then fb_Rm_send_52 k7 x1 x2 x3 x4 σ else fb_Rm_send_47 k7 x1 x2 x3 x4 σ)
theorem e_Rm_send_43 {l : Launch} {G : kG} {σf : kS} {k7 : Int → Int → Int → Int → kS → kRes} (hk7 : ∀ (x1 : Int) (x2 : Int) (x3 : Int) (x4 : Int)  (σ : kS), k7 x1 x2 x3 x4 σ = some (none, σf) → Rn l G dm_Rm_send m_Rm_send (kU fun σ' => σ' = σf) 7 [some (.inr (9, 0)), some (.inl x1), some (.inl x2), some (.inl x3), some (.inl x4)] [] σ) {x1 : Int} {x2 : Int} {x3 : Int} {x4 : Int}  {σ : kS} (h : fb_Rm_send_43 k7 x1 x2 x3 x4 σ = some (none, σf)) : Rn l G dm_Rm_send m_Rm_send (kU fun σ' => σ' = σf) 43 [some (.inr (9, 0)), some (.inl x1), some (.inl x2), some (.inl x3), some (.inl x4)] [] σ := by
  unfold fb_Rm_send_43 at h
  obtain ⟨h1, h⟩ := kg_some h
  refine s_Rm_send_43 h1 (fun c => ?_) (fun c => ?_)
  · rw [if_pos c] at h
    exact e_Rm_send_52 hk7 h
  · rw [if_neg c] at h
    exact e_Rm_send_47 hk7 h
def fb_Rm_send_16 (k7 : Int → Int → Int → Int → kS → kRes) (x1 : Int) (x2 : Int) (x3 : Int) (x4 : Int) (σ : kS) : kRes := kg ((0 ≤ (20 * x1) + x4 ∧ (20 * x1) + x4 < (100 : Nat)) ∧ (-2147483648 ≤ σ 37 0 (Int.toNat ((20 * x1) + x4)) ∧ σ 37 0 (Int.toNat ((20 * x1) + x4)) < 2147483648) ∧ (-2147483648 ≤ σ 36 0 (Int.toNat ((20 * x1) + x4)) ∧ σ 36 0 (Int.toNat ((20 * x1) + x4)) < 2147483648)) (if (σ 37 0 (Int.toNat ((20 * x1) + x4))) = (σ 36 0 (Int.toNat ((20 * x1) + x4))) then fb_Rm_send_81 k7 x1 x2 x3 x4 σ else fb_Rm_send_43 k7 x1 x2 x3 x4 σ)
theorem e_Rm_send_16 {l : Launch} {G : kG} {σf : kS} {k7 : Int → Int → Int → Int → kS → kRes} (hk7 : ∀ (x1 : Int) (x2 : Int) (x3 : Int) (x4 : Int)  (σ : kS), k7 x1 x2 x3 x4 σ = some (none, σf) → Rn l G dm_Rm_send m_Rm_send (kU fun σ' => σ' = σf) 7 [some (.inr (9, 0)), some (.inl x1), some (.inl x2), some (.inl x3), some (.inl x4)] [] σ) {x1 : Int} {x2 : Int} {x3 : Int} {x4 : Int}  {σ : kS} (h : fb_Rm_send_16 k7 x1 x2 x3 x4 σ = some (none, σf)) : Rn l G dm_Rm_send m_Rm_send (kU fun σ' => σ' = σf) 16 [some (.inr (9, 0)), some (.inl x1), some (.inl x2), some (.inl x3), some (.inl x4)] [] σ := by
  unfold fb_Rm_send_16 at h
  obtain ⟨⟨h1, h2, h3⟩, h⟩ := kg_some h
  refine s_Rm_send_16 h1 h2 h3 (fun c => ?_) (fun c => ?_)
  · rw [if_pos c] at h
    exact e_Rm_send_81 hk7 h
  · rw [if_neg c] at h
    exact e_Rm_send_43 hk7 h
def fb_Rm_send_7 (k7 : Int → Int → Int → Int → kS → kRes) (x1 : Int) (x2 : Int) (x3 : Int) (x4 : Int) (σ : kS) : kRes := kg ((-2147483648 ≤ x4 ∧ x4 < 2147483648) ∧ (-2147483648 ≤ σ 9 0 37 ∧ σ 9 0 37 < 2147483648)) (if (σ 9 0 37) ≤ x4 then fb_Rm_send_87  x1 x2 x3 x4 σ else fb_Rm_send_16 k7 x1 x2 x3 x4 σ)
theorem e_Rm_send_7 {l : Launch} {G : kG} {σf : kS} {k7 : Int → Int → Int → Int → kS → kRes} (hk7 : ∀ (x1 : Int) (x2 : Int) (x3 : Int) (x4 : Int)  (σ : kS), k7 x1 x2 x3 x4 σ = some (none, σf) → Rn l G dm_Rm_send m_Rm_send (kU fun σ' => σ' = σf) 7 [some (.inr (9, 0)), some (.inl x1), some (.inl x2), some (.inl x3), some (.inl x4)] [] σ) {x1 : Int} {x2 : Int} {x3 : Int} {x4 : Int}  {σ : kS} (h : fb_Rm_send_7 k7 x1 x2 x3 x4 σ = some (none, σf)) : Rn l G dm_Rm_send m_Rm_send (kU fun σ' => σ' = σf) 7 [some (.inr (9, 0)), some (.inl x1), some (.inl x2), some (.inl x3), some (.inl x4)] [] σ := by
  unfold fb_Rm_send_7 at h
  obtain ⟨⟨h1, h2⟩, h⟩ := kg_some h
  refine s_Rm_send_7 h1 h2 (fun c => ?_) (fun c => ?_)
  · rw [if_pos c] at h
    exact e_Rm_send_87  h
  · rw [if_neg c] at h
    exact e_Rm_send_16 hk7 h
def fl_Rm_send_7  : Nat → Int → Int → Int → Int → kS → kRes
  | 0, _, _, _, _, _ => none
  | n + 1, x1, x2, x3, x4, σ => fb_Rm_send_7 (fl_Rm_send_7  n) x1 x2 x3 x4 σ
theorem el_Rm_send_7 {l : Launch} {G : kG} {σf : kS}  : ∀ (n : Nat) (x1 : Int) (x2 : Int) (x3 : Int) (x4 : Int)  (σ : kS), fl_Rm_send_7  n x1 x2 x3 x4 σ = some (none, σf) → Rn l G dm_Rm_send m_Rm_send (kU fun σ' => σ' = σf) 7 [some (.inr (9, 0)), some (.inl x1), some (.inl x2), some (.inl x3), some (.inl x4)] [] σ := by
  intro n
  induction n with
  | zero => intro x1 x2 x3 x4 σ h; simp only [fl_Rm_send_7] at h; cases h
  | succ n ih => intro x1 x2 x3 x4 σ h; simp only [fl_Rm_send_7] at h; exact e_Rm_send_7 ih h
def fb_Rm_send_0  (x1 : Int) (σ : kS) : kRes := fl_Rm_send_7  3000 x1 (-1) (-1) 0 σ
theorem e_Rm_send_0 {l : Launch} {G : kG} {σf : kS}  {x1 : Int} {o2 : Option kV} {o3 : Option kV} {o4 : Option kV} {σ : kS} (h : fb_Rm_send_0  x1 σ = some (none, σf)) : Rn l G dm_Rm_send m_Rm_send (kU fun σ' => σ' = σf) 0 [some (.inr (9, 0)), some (.inl x1), o2, o3, o4] [] σ := by
  unfold fb_Rm_send_0 at h
  refine s_Rm_send_0  ?_
  exact el_Rm_send_7  _ _ _ _ _ _ h
def f_Rm_send (x1 : Int) (σ : kS) : kRes := fb_Rm_send_0 x1 σ
theorem E_Rm_send {l : Launch} {G : kG} {σf : kS} {x1 : Int} {σ : kS} (h : f_Rm_send x1 σ = some (none, σf)) : Call l G dm_Rm_send y_Rm_send m_Rm_send [.inr (9, 0), .inl x1] σ (kU fun σ' => σ' = σf) := by
  unfold f_Rm_send at h
  exact Call.of (by decide +kernel) rfl (Nat.le_of_ble_eq_true rfl) (e_Rm_send_0 h)
/-! Rm_draw -/
def fb_Rm_draw_265  (x1 : Int) (x2 : Int) (σ : kS) : kRes := some (none, σ)
theorem e_Rm_draw_265 {l : Launch} {G : kG} {σf : kS}  {x1 : Int} {x2 : Int} {o3 : Option kV} {o4 : Option kV} {o5 : Option kV} {σ : kS} (h : fb_Rm_draw_265  x1 x2 σ = some (none, σf)) : Rn l G dm_Rm_draw m_Rm_draw (kU fun σ' => σ' = σf) 265 [some (.inr (9, 0)), some (.inl x1), some (.inl x2), o3, o4, o5] [] σ := by
  unfold fb_Rm_draw_265 at h
  simp only [Option.some.injEq, Prod.mk.injEq, true_and] at h
  exact s_Rm_draw_265  ⟨rfl, h⟩
def fb_Rm_draw_259 (k249 : Int → Int → kS → kRes) (x1 : Int) (x2 : Int) (σ : kS) : kRes := k249 x1 (x2 + 1) σ
theorem e_Rm_draw_259 {l : Launch} {G : kG} {σf : kS} {k249 : Int → Int → kS → kRes} (hk249 : ∀ (x1 : Int) (x2 : Int) (o3 : Option kV) (o4 : Option kV) (o5 : Option kV) (σ : kS), k249 x1 x2 σ = some (none, σf) → Rn l G dm_Rm_draw m_Rm_draw (kU fun σ' => σ' = σf) 249 [some (.inr (9, 0)), some (.inl x1), some (.inl x2), o3, o4, o5] [] σ) {x1 : Int} {x2 : Int} {o3 : Option kV} {o4 : Option kV} {o5 : Option kV} {σ : kS} (h : fb_Rm_draw_259 k249 x1 x2 σ = some (none, σf)) : Rn l G dm_Rm_draw m_Rm_draw (kU fun σ' => σ' = σf) 259 [some (.inr (9, 0)), some (.inl x1), some (.inl x2), o3, o4, o5] [] σ := by
  unfold fb_Rm_draw_259 at h
  refine s_Rm_draw_259  ?_
  exact hk249 _ _ _ _ _ _ h
def fb_Rm_draw_254 (k249 : Int → Int → kS → kRes) (x1 : Int) (x2 : Int) (σ : kS) : kRes := kbu (f_Rm_send x2 σ) fun σ1 => fb_Rm_draw_259 k249 x1 x2 σ1
theorem e_Rm_draw_254 {l : Launch} {G : kG} {σf : kS} {k249 : Int → Int → kS → kRes} (hk249 : ∀ (x1 : Int) (x2 : Int) (o3 : Option kV) (o4 : Option kV) (o5 : Option kV) (σ : kS), k249 x1 x2 σ = some (none, σf) → Rn l G dm_Rm_draw m_Rm_draw (kU fun σ' => σ' = σf) 249 [some (.inr (9, 0)), some (.inl x1), some (.inl x2), o3, o4, o5] [] σ) {x1 : Int} {x2 : Int} {o3 : Option kV} {o4 : Option kV} {o5 : Option kV} {σ : kS} (h : fb_Rm_draw_254 k249 x1 x2 σ = some (none, σf)) : Rn l G dm_Rm_draw m_Rm_draw (kU fun σ' => σ' = σf) 254 [some (.inr (9, 0)), some (.inl x1), some (.inl x2), o3, o4, o5] [] σ := by
  unfold fb_Rm_draw_254 at h
  obtain ⟨σ1, hc, h⟩ := kbu_some h
  refine s_Rm_draw_254  (by decide) (E_Rm_send hc) (fun σ2 e2 => ?_)
  subst e2
  exact e_Rm_draw_259 hk249 h
def fb_Rm_draw_249 (k249 : Int → Int → kS → kRes) (x1 : Int) (x2 : Int) (σ : kS) : kRes := kg ((-2147483648 ≤ x2 ∧ x2 < 2147483648)) (if 5 ≤ x2 then fb_Rm_draw_265  x1 x2 σ else fb_Rm_draw_254 k249 x1 x2 σ)
theorem e_Rm_draw_249 {l : Launch} {G : kG} {σf : kS} {k249 : Int → Int → kS → kRes} (hk249 : ∀ (x1 : Int) (x2 : Int) (o3 : Option kV) (o4 : Option kV) (o5 : Option kV) (σ : kS), k249 x1 x2 σ = some (none, σf) → Rn l G dm_Rm_draw m_Rm_draw (kU fun σ' => σ' = σf) 249 [some (.inr (9, 0)), some (.inl x1), some (.inl x2), o3, o4, o5] [] σ) {x1 : Int} {x2 : Int} {o3 : Option kV} {o4 : Option kV} {o5 : Option kV} {σ : kS} (h : fb_Rm_draw_249 k249 x1 x2 σ = some (none, σf)) : Rn l G dm_Rm_draw m_Rm_draw (kU fun σ' => σ' = σf) 249 [some (.inr (9, 0)), some (.inl x1), some (.inl x2), o3, o4, o5] [] σ := by
  unfold fb_Rm_draw_249 at h
  obtain ⟨h1, h⟩ := kg_some h
  refine s_Rm_draw_249 h1 (fun c => ?_) (fun c => ?_)
  · rw [if_pos c] at h
    exact e_Rm_draw_265  h
  · rw [if_neg c] at h
    exact e_Rm_draw_254 hk249 h
def fl_Rm_draw_249  : Nat → Int → Int → kS → kRes
  | 0, _, _, _ => none
  | n + 1, x1, x2, σ => fb_Rm_draw_249 (fl_Rm_draw_249  n) x1 x2 σ
theorem el_Rm_draw_249 {l : Launch} {G : kG} {σf : kS}  : ∀ (n : Nat) (x1 : Int) (x2 : Int) (o3 : Option kV) (o4 : Option kV) (o5 : Option kV) (σ : kS), fl_Rm_draw_249  n x1 x2 σ = some (none, σf) → Rn l G dm_Rm_draw m_Rm_draw (kU fun σ' => σ' = σf) 249 [some (.inr (9, 0)), some (.inl x1), some (.inl x2), o3, o4, o5] [] σ := by
  intro n
  induction n with
  | zero => intro x1 x2 o3 o4 o5 σ h; simp only [fl_Rm_draw_249] at h; cases h
  | succ n ih => intro x1 x2 o3 o4 o5 σ h; simp only [fl_Rm_draw_249] at h; exact e_Rm_draw_249 ih h
def fb_Rm_draw_247  (x1 : Int) (x2 : Int) (σ : kS) : kRes := fl_Rm_draw_249  3000 x1 0 σ
theorem e_Rm_draw_247 {l : Launch} {G : kG} {σf : kS}  {x1 : Int} {x2 : Int} {o3 : Option kV} {o4 : Option kV} {o5 : Option kV} {σ : kS} (h : fb_Rm_draw_247  x1 x2 σ = some (none, σf)) : Rn l G dm_Rm_draw m_Rm_draw (kU fun σ' => σ' = σf) 247 [some (.inr (9, 0)), some (.inl x1), some (.inl x2), o3, o4, o5] [] σ := by
  unfold fb_Rm_draw_247 at h
  refine s_Rm_draw_247  ?_
  exact el_Rm_draw_249  _ _ _ _ _ _ _ h
def fb_Rm_draw_230 (k225 : Int → Int → kS → kRes) (x1 : Int) (x2 : Int) (σ : kS) : kRes := kg ((0 ≤ 20 * x2 ∧ 20 * x2 < (100 : Nat))) (k225 x1 (x2 + 1) (kup σ 37 0 (Int.toNat (20 * x2)) 126))
theorem e_Rm_draw_230 {l : Launch} {G : kG} {σf : kS} {k225 : Int → Int → kS → kRes} (hk225 : ∀ (x1 : Int) (x2 : Int) (o3 : Option kV) (o4 : Option kV) (o5 : Option kV) (σ : kS), k225 x1 x2 σ = some (none, σf) → Rn l G dm_Rm_draw m_Rm_draw (kU fun σ' => σ' = σf) 225 [some (.inr (9, 0)), some (.inl x1), some (.inl x2), o3, o4, o5] [] σ) {x1 : Int} {x2 : Int} {o3 : Option kV} {o4 : Option kV} {o5 : Option kV} {σ : kS} (h : fb_Rm_draw_230 k225 x1 x2 σ = some (none, σf)) : Rn l G dm_Rm_draw m_Rm_draw (kU fun σ' => σ' = σf) 230 [some (.inr (9, 0)), some (.inl x1), some (.inl x2), o3, o4, o5] [] σ := by
  unfold fb_Rm_draw_230 at h
  obtain ⟨h1, h⟩ := kg_some h
  refine s_Rm_draw_230 h1 ?_
  exact hk225 _ _ _ _ _ _ h
def fb_Rm_draw_225 (k225 : Int → Int → kS → kRes) (x1 : Int) (x2 : Int) (σ : kS) : kRes := kg ((-2147483648 ≤ x2 ∧ x2 < 2147483648)) (if 5 ≤ x2 then fb_Rm_draw_247  x1 x2 σ else fb_Rm_draw_230 k225 x1 x2 σ)
theorem e_Rm_draw_225 {l : Launch} {G : kG} {σf : kS} {k225 : Int → Int → kS → kRes} (hk225 : ∀ (x1 : Int) (x2 : Int) (o3 : Option kV) (o4 : Option kV) (o5 : Option kV) (σ : kS), k225 x1 x2 σ = some (none, σf) → Rn l G dm_Rm_draw m_Rm_draw (kU fun σ' => σ' = σf) 225 [some (.inr (9, 0)), some (.inl x1), some (.inl x2), o3, o4, o5] [] σ) {x1 : Int} {x2 : Int} {o3 : Option kV} {o4 : Option kV} {o5 : Option kV} {σ : kS} (h : fb_Rm_draw_225 k225 x1 x2 σ = some (none, σf)) : Rn l G dm_Rm_draw m_Rm_draw (kU fun σ' => σ' = σf) 225 [some (.inr (9, 0)), some (.inl x1), some (.inl x2), o3, o4, o5] [] σ := by
  unfold fb_Rm_draw_225 at h
  obtain ⟨h1, h⟩ := kg_some h
  refine s_Rm_draw_225 h1 (fun c => ?_) (fun c => ?_)
  · rw [if_pos c] at h
    exact e_Rm_draw_247  h
  · rw [if_neg c] at h
    exact e_Rm_draw_230 hk225 h
def fl_Rm_draw_225  : Nat → Int → Int → kS → kRes
  | 0, _, _, _ => none
  | n + 1, x1, x2, σ => fb_Rm_draw_225 (fl_Rm_draw_225  n) x1 x2 σ
theorem el_Rm_draw_225 {l : Launch} {G : kG} {σf : kS}  : ∀ (n : Nat) (x1 : Int) (x2 : Int) (o3 : Option kV) (o4 : Option kV) (o5 : Option kV) (σ : kS), fl_Rm_draw_225  n x1 x2 σ = some (none, σf) → Rn l G dm_Rm_draw m_Rm_draw (kU fun σ' => σ' = σf) 225 [some (.inr (9, 0)), some (.inl x1), some (.inl x2), o3, o4, o5] [] σ := by
  intro n
  induction n with
  | zero => intro x1 x2 o3 o4 o5 σ h; simp only [fl_Rm_draw_225] at h; cases h
  | succ n ih => intro x1 x2 o3 o4 o5 σ h; simp only [fl_Rm_draw_225] at h; exact e_Rm_draw_225 ih h
def fb_Rm_draw_223  (x1 : Int) (x2 : Int) (σ : kS) : kRes := fl_Rm_draw_225  3000 x1 x1 σ
theorem e_Rm_draw_223 {l : Launch} {G : kG} {σf : kS}  {x1 : Int} {x2 : Int} {o3 : Option kV} {o4 : Option kV} {o5 : Option kV} {σ : kS} (h : fb_Rm_draw_223  x1 x2 σ = some (none, σf)) : Rn l G dm_Rm_draw m_Rm_draw (kU fun σ' => σ' = σf) 223 [some (.inr (9, 0)), some (.inl x1), some (.inl x2), o3, o4, o5] [] σ := by
  unfold fb_Rm_draw_223 at h
  refine s_Rm_draw_223  ?_
  exact el_Rm_draw_225  _ _ _ _ _ _ _ h
def fb_Rm_draw_216 (k80 : Int → Int → kS → kRes) (x1 : Int) (x2 : Int) (x3 : Int) (x4 : Int) (x5 : Int) (s0 : Int) (σ : kS) : kRes := k80 s0 (x2 + 1) σ
theorem e_Rm_draw_216 {l : Launch} {G : kG} {σf : kS} {k80 : Int → Int → kS → kRes} (hk80 : ∀ (x1 : Int) (x2 : Int) (o3 : Option kV) (o4 : Option kV) (o5 : Option kV) (σ : kS), k80 x1 x2 σ = some (none, σf) → Rn l G dm_Rm_draw m_Rm_draw (kU fun σ' => σ' = σf) 80 [some (.inr (9, 0)), some (.inl x1), some (.inl x2), o3, o4, o5] [] σ) {x1 : Int} {x2 : Int} {x3 : Int} {x4 : Int} {x5 : Int} {s0 : Int}  {σ : kS} (h : fb_Rm_draw_216 k80 x1 x2 x3 x4 x5 s0 σ = some (none, σf)) : Rn l G dm_Rm_draw m_Rm_draw (kU fun σ' => σ' = σf) 216 [some (.inr (9, 0)), some (.inl x1), some (.inl x2), some (.inl x3), some (.inl x4), some (.inl x5)] [.inl s0] σ := by
  unfold fb_Rm_draw_216 at h
  refine s_Rm_draw_216  ?_
  exact hk80 _ _ _ _ _ _ h
def fb_Rm_draw_215 (k80 : Int → Int → kS → kRes) (x1 : Int) (x2 : Int) (x3 : Int) (x4 : Int) (x5 : Int) (σ : kS) : kRes := fb_Rm_draw_216 k80 x1 x2 x3 x4 x5 5 σ
theorem e_Rm_draw_215 {l : Launch} {G : kG} {σf : kS} {k80 : Int → Int → kS → kRes} (hk80 : ∀ (x1 : Int) (x2 : Int) (o3 : Option kV) (o4 : Option kV) (o5 : Option kV) (σ : kS), k80 x1 x2 σ = some (none, σf) → Rn l G dm_Rm_draw m_Rm_draw (kU fun σ' => σ' = σf) 80 [some (.inr (9, 0)), some (.inl x1), some (.inl x2), o3, o4, o5] [] σ) {x1 : Int} {x2 : Int} {x3 : Int} {x4 : Int} {x5 : Int}  {σ : kS} (h : fb_Rm_draw_215 k80 x1 x2 x3 x4 x5 σ = some (none, σf)) : Rn l G dm_Rm_draw m_Rm_draw (kU fun σ' => σ' = σf) 215 [some (.inr (9, 0)), some (.inl x1), some (.inl x2), some (.inl x3), some (.inl x4), some (.inl x5)] [] σ := by
  unfold fb_Rm_draw_215 at h
  refine s_Rm_draw_215  ?_
  exact e_Rm_draw_216 hk80 h
def fb_Rm_draw_209 (k80 : Int → Int → kS → kRes) (x1 : Int) (x2 : Int) (x3 : Int) (x4 : Int) (x5 : Int) (σ : kS) : kRes := fb_Rm_draw_216 k80 x1 x2 x3 x4 x5 (x1 + x3) σ
theorem e_Rm_draw_209 {l : Launch} {G : kG} {σf : kS} {k80 : Int → Int → kS → kRes} (hk80 : ∀ (x1 : Int) (x2 : Int) (o3 : Option kV) (o4 : Option kV) (o5 : Option kV) (σ : kS), k80 x1 x2 σ = some (none, σf) → Rn l G dm_Rm_draw m_Rm_draw (kU fun σ' => σ' = σf) 80 [some (.inr (9, 0)), some (.inl x1), some (.inl x2), o3, o4, o5] [] σ) {x1 : Int} {x2 : Int} {x3 : Int} {x4 : Int} {x5 : Int}  {σ : kS} (h : fb_Rm_draw_209 k80 x1 x2 x3 x4 x5 σ = some (none, σf)) : Rn l G dm_Rm_draw m_Rm_draw (kU fun σ' => σ' = σf) 209 [some (.inr (9, 0)), some (.inl x1), some (.inl x2), some (.inl x3), some (.inl x4), some (.inl x5)] [] σ := by
  unfold fb_Rm_draw_209 at h
  refine s_Rm_draw_209  ?_
  exact e_Rm_draw_216 hk80 h
def fb_Rm_draw_204 (k80 : Int → Int → kS → kRes) (x1 : Int) (x2 : Int) (x3 : Int) (x4 : Int) (x5 : Int) (σ : kS) : kRes := kg ((-2147483648 ≤ x4 ∧ x4 < 2147483648)) (if x4 = 0 then fb_Rm_draw_215 k80 x1 x2 x3 x4 x5 σ else fb_Rm_draw_209 k80 x1 x2 x3 x4 x5 σ)
theorem e_Rm_draw_204 {l : Launch} {G : kG} {σf : kS} {k80 : Int → Int → kS → kRes} (hk80 : ∀ (x1 : Int) (x2 : Int) (o3 : Option kV) (o4 : Option kV) (o5 : Option kV) (σ : kS), k80 x1 x2 σ = some (none, σf) → Rn l G dm_Rm_draw m_Rm_draw (kU fun σ' => σ' = σf) 80 [some (.inr (9, 0)), some (.inl x1), some (.inl x2), o3, o4, o5] [] σ) {x1 : Int} {x2 : Int} {x3 : Int} {x4 : Int} {x5 : Int}  {σ : kS} (h : fb_Rm_draw_204 k80 x1 x2 x3 x4 x5 σ = some (none, σf)) : Rn l G dm_Rm_draw m_Rm_draw (kU fun σ' => σ' = σf) 204 [some (.inr (9, 0)), some (.inl x1), some (.inl x2), some (.inl x3), some (.inl x4), some (.inl x5)] [] σ := by
  unfold fb_Rm_draw_204 at h
  obtain ⟨h1, h⟩ := kg_some h
  refine s_Rm_draw_204 h1 (fun c => ?_) (fun c => ?_)
  · rw [if_pos c] at h
    exact e_Rm_draw_215 hk80 h
  · rw [if_neg c] at h
    exact e_Rm_draw_209 hk80 h
def fb_Rm_draw_186 (k175 : Int → Int → Int → Int → Int → kS → kRes) (x1 : Int) (x2 : Int) (x3 : Int) (x4 : Int) (x5 : Int) (σ : kS) : kRes := kg ((0 ≤ 20 * x5 ∧ 20 * x5 < (100 : Nat))) (k175 x1 x2 x3 x4 (x5 + 1) (kup σ 37 0 (Int.toNat (20 * x5)) 64))
theorem e_Rm_draw_186 {l : Launch} {G : kG} {σf : kS} {k175 : Int → Int → Int → Int → Int → kS → kRes} (hk175 : ∀ (x1 : Int) (x2 : Int) (x3 : Int) (x4 : Int) (x5 : Int)  (σ : kS), k175 x1 x2 x3 x4 x5 σ = some (none, σf) → Rn l G dm_Rm_draw m_Rm_draw (kU fun σ' => σ' = σf) 175 [some (.inr (9, 0)), some (.inl x1), some (.inl x2), some (.inl x3), some (.inl x4), some (.inl x5)] [] σ) {x1 : Int} {x2 : Int} {x3 : Int} {x4 : Int} {x5 : Int}  {σ : kS} (h : fb_Rm_draw_186 k175 x1 x2 x3 x4 x5 σ = some (none, σf)) : Rn l G dm_Rm_draw m_Rm_draw (kU fun σ' => σ' = σf) 186 [some (.inr (9, 0)), some (.inl x1), some (.inl x2), some (.inl x3), some (.inl x4), some (.inl x5)] [] σ := by
  unfold fb_Rm_draw_186 at h
  obtain ⟨h1, h⟩ := kg_some h
  refine s_Rm_draw_186 h1 ?_
  exact hk175 _ _ _ _ _ _ h
def fb_Rm_draw_181 (k80 : Int → Int → kS → kRes) (k175 : Int → Int → Int → Int → Int → kS → kRes) (x1 : Int) (x2 : Int) (x3 : Int) (x4 : Int) (x5 : Int) (σ : kS) : kRes := kg ((-2147483648 ≤ x4 ∧ x4 < 2147483648)) (if x4 = 0 then fb_Rm_draw_186 k175 x1 x2 x3 x4 x5 σ else fb_Rm_draw_204 k80 x1 x2 x3 x4 x5 σ)
theorem e_Rm_draw_181 {l : Launch} {G : kG} {σf : kS} {k80 : Int → Int → kS → kRes} (hk80 : ∀ (x1 : Int) (x2 : Int) (o3 : Option kV) (o4 : Option kV) (o5 : Option kV) (σ : kS), k80 x1 x2 σ = some (none, σf) → Rn l G dm_Rm_draw m_Rm_draw (kU fun σ' => σ' = σf) 80 [some (.inr (9, 0)), some (.inl x1), some (.inl x2), o3, o4, o5] [] σ) {k175 : Int → Int → Int → Int → Int → kS → kRes} (hk175 : ∀ (x1 : Int) (x2 : Int) (x3 : Int) (x4 : Int) (x5 : Int)  (σ : kS), k175 x1 x2 x3 x4 x5 σ = some (none, σf) → Rn l G dm_Rm_draw m_Rm_draw (kU fun σ' => σ' = σf) 175 [some (.inr (9, 0)), some (.inl x1), some (.inl x2), some (.inl x3), some (.inl x4), some (.inl x5)] [] σ) {x1 : Int} {x2 : Int} {x3 : Int} {x4 : Int} {x5 : Int}  {σ : kS} (h : fb_Rm_draw_181 k80 k175 x1 x2 x3 x4 x5 σ = some (none, σf)) : Rn l G dm_Rm_draw m_Rm_draw (kU fun σ' => σ' = σf) 181 [some (.inr (9, 0)), some (.inl x1), some (.inl x2), some (.inl x3), some (.inl x4), some (.inl x5)] [] σ := by
  unfold fb_Rm_draw_181 at h
  obtain ⟨h1, h⟩ := kg_some h
  refine s_Rm_draw_181 h1 (fun c => ?_) (fun c => ?_)
  · rw [if_neg c] at h
    exact e_Rm_draw_204 hk80 h
  · rw [if_pos c] at h
    exact e_Rm_draw_186 hk175 h
def fb_Rm_draw_175 (k80 : Int → Int → kS → kRes) (k175 : Int → Int → Int → Int → Int → kS → kRes) (x1 : Int) (x2 : Int) (x3 : Int) (x4 : Int) (x5 : Int) (σ : kS) : kRes := kg ((-2147483648 ≤ x5 ∧ x5 < 2147483648)) (if 5 ≤ x5 then fb_Rm_draw_204 k80 x1 x2 x3 x4 x5 σ else fb_Rm_draw_181 k80 k175 x1 x2 x3 x4 x5 σ)
theorem e_Rm_draw_175 {l : Launch} {G : kG} {σf : kS} {k80 : Int → Int → kS → kRes} (hk80 : ∀ (x1 : Int) (x2 : Int) (o3 : Option kV) (o4 : Option kV) (o5 : Option kV) (σ : kS), k80 x1 x2 σ = some (none, σf) → Rn l G dm_Rm_draw m_Rm_draw (kU fun σ' => σ' = σf) 80 [some (.inr (9, 0)), some (.inl x1), some (.inl x2), o3, o4, o5] [] σ) {k175 : Int → Int → Int → Int → Int → kS → kRes} (hk175 : ∀ (x1 : Int) (x2 : Int) (x3 : Int) (x4 : Int) (x5 : Int)  (σ : kS), k175 x1 x2 x3 x4 x5 σ = some (none, σf) → Rn l G dm_Rm_draw m_Rm_draw (kU fun σ' => σ' = σf) 175 [some (.inr (9, 0)), some (.inl x1), some (.inl x2), some (.inl x3), some (.inl x4), some (.inl x5)] [] σ) {x1 : Int} {x2 : Int} {x3 : Int} {x4 : Int} {x5 : Int}  {σ : kS} (h : fb_Rm_draw_175 k80 k175 x1 x2 x3 x4 x5 σ = some (none, σf)) : Rn l G dm_Rm_draw m_Rm_draw (kU fun σ' => σ' = σf) 175 [some (.inr (9, 0)), some (.inl x1), some (.inl x2), some (.inl x3), some (.inl x4), some (.inl x5)] [] σ := by
  unfold fb_Rm_draw_175 at h
  obtain ⟨h1, h⟩ := kg_some h
  refine s_Rm_draw_175 h1 (fun c => ?_) (fun c => ?_)
  · rw [if_pos c] at h
    exact e_Rm_draw_204 hk80 h
  · rw [if_neg c] at h
    exact e_Rm_draw_181 hk80 hk175 h
def fl_Rm_draw_175 (k80 : Int → Int → kS → kRes) : Nat → Int → Int → Int → Int → Int → kS → kRes
  | 0, _, _, _, _, _, _ => none
  | n + 1, x1, x2, x3, x4, x5, σ => fb_Rm_draw_175 k80 (fl_Rm_draw_175 k80 n) x1 x2 x3 x4 x5 σ
theorem el_Rm_draw_175 {l : Launch} {G : kG} {σf : kS} {k80 : Int → Int → kS → kRes} (hk80 : ∀ (x1 : Int) (x2 : Int) (o3 : Option kV) (o4 : Option kV) (o5 : Option kV) (σ : kS), k80 x1 x2 σ = some (none, σf) → Rn l G dm_Rm_draw m_Rm_draw (kU fun σ' => σ' = σf) 80 [some (.inr (9, 0)), some (.inl x1), some (.inl x2), o3, o4, o5] [] σ) : ∀ (n : Nat) (x1 : Int) (x2 : Int) (x3 : Int) (x4 : Int) (x5 : Int)  (σ : kS), fl_Rm_draw_175 k80 n x1 x2 x3 x4 x5 σ = some (none, σf) → Rn l G dm_Rm_draw m_Rm_draw (kU fun σ' => σ' = σf) 175 [some (.inr (9, 0)), some (.inl x1), some (.inl x2), some (.inl x3), some (.inl x4), some (.inl x5)] [] σ := by
  intro n
  induction n with
  | zero => intro x1 x2 x3 x4 x5 σ h; simp only [fl_Rm_draw_175] at h; cases h
  | succ n ih => intro x1 x2 x3 x4 x5 σ h; simp only [fl_Rm_draw_175] at h; exact e_Rm_draw_175 hk80 ih h
def fb_Rm_draw_172 (k80 : Int → Int → kS → kRes) (x1 : Int) (x2 : Int) (x3 : Int) (x4 : Int) (x5 : Int) (σ : kS) : kRes := fl_Rm_draw_175 k80 3000 x1 x2 x3 x4 x1 σ
theorem e_Rm_draw_172 {l : Launch} {G : kG} {σf : kS} {k80 : Int → Int → kS → kRes} (hk80 : ∀ (x1 : Int) (x2 : Int) (o3 : Option kV) (o4 : Option kV) (o5 : Option kV) (σ : kS), k80 x1 x2 σ = some (none, σf) → Rn l G dm_Rm_draw m_Rm_draw (kU fun σ' => σ' = σf) 80 [some (.inr (9, 0)), some (.inl x1), some (.inl x2), o3, o4, o5] [] σ) {x1 : Int} {x2 : Int} {x3 : Int} {x4 : Int} {x5 : Int}  {σ : kS} (h : fb_Rm_draw_172 k80 x1 x2 x3 x4 x5 σ = some (none, σf)) : Rn l G dm_Rm_draw m_Rm_draw (kU fun σ' => σ' = σf) 172 [some (.inr (9, 0)), some (.inl x1), some (.inl x2), some (.inl x3), some (.inl x4), some (.inl x5)] [] σ := by
  unfold fb_Rm_draw_172 at h
  refine s_Rm_draw_172  ?_
  exact el_Rm_draw_175 hk80 _ _ _ _ _ _ _ h
def fb_Rm_draw_165 (k118 : Int → Int → Int → Int → Int → kS → kRes) (x1 : Int) (x2 : Int) (x3 : Int) (x4 : Int) (x5 : Int) (s0 : Int) (s1 : Int) (σ : kS) : kRes := kg ((0 ≤ s1 ∧ s1 < (100 : Nat))) (k118 x1 x2 x3 x4 (x5 + 1) (kup σ 37 0 (Int.toNat s1) s0))
theorem e_Rm_draw_165 {l : Launch} {G : kG} {σf : kS} {k118 : Int → Int → Int → Int → Int → kS → kRes} (hk118 : ∀ (x1 : Int) (x2 : Int) (x3 : Int) (x4 : Int) (x5 : Int)  (σ : kS), k118 x1 x2 x3 x4 x5 σ = some (none, σf) → Rn l G dm_Rm_draw m_Rm_draw (kU fun σ' => σ' = σf) 118 [some (.inr (9, 0)), some (.inl x1), some (.inl x2), some (.inl x3), some (.inl x4), some (.inl x5)] [] σ) {x1 : Int} {x2 : Int} {x3 : Int} {x4 : Int} {x5 : Int} {s0 : Int} {s1 : Int}  {σ : kS} (h : fb_Rm_draw_165 k118 x1 x2 x3 x4 x5 s0 s1 σ = some (none, σf)) : Rn l G dm_Rm_draw m_Rm_draw (kU fun σ' => σ' = σf) 165 [some (.inr (9, 0)), some (.inl x1), some (.inl x2), some (.inl x3), some (.inl x4), some (.inl x5)] [.inl s0, .inl s1, .inr (37, 0)] σ := by
  unfold fb_Rm_draw_165 at h
  obtain ⟨h1, h⟩ := kg_some h
  refine s_Rm_draw_165 h1 ?_
  exact hk118 _ _ _ _ _ _ h
def fb_Rm_draw_134 (k118 : Int → Int → Int → Int → Int → kS → kRes) (x1 : Int) (x2 : Int) (x3 : Int) (x4 : Int) (x5 : Int) (σ : kS) : kRes := kg (¬ Int32.ofInt (σ 9 0 37) = 0) (kbi (f_Rm_at x2 x5 σ) fun y σ1 => fb_Rm_draw_165 k118 x1 x2 x3 x4 x5 y ((20 * (x1 + (kdiv x5 (σ 9 0 37)))) + (kmod x5 (σ 9 0 37))) σ1)
theorem e_Rm_draw_134 {l : Launch} {G : kG} {σf : kS} {k118 : Int → Int → Int → Int → Int → kS → kRes} (hk118 : ∀ (x1 : Int) (x2 : Int) (x3 : Int) (x4 : Int) (x5 : Int)  (σ : kS), k118 x1 x2 x3 x4 x5 σ = some (none, σf) → Rn l G dm_Rm_draw m_Rm_draw (kU fun σ' => σ' = σf) 118 [some (.inr (9, 0)), some (.inl x1), some (.inl x2), some (.inl x3), some (.inl x4), some (.inl x5)] [] σ) {x1 : Int} {x2 : Int} {x3 : Int} {x4 : Int} {x5 : Int}  {σ : kS} (h : fb_Rm_draw_134 k118 x1 x2 x3 x4 x5 σ = some (none, σf)) : Rn l G dm_Rm_draw m_Rm_draw (kU fun σ' => σ' = σf) 134 [some (.inr (9, 0)), some (.inl x1), some (.inl x2), some (.inl x3), some (.inl x4), some (.inl x5)] [] σ := by
  unfold fb_Rm_draw_134 at h
  obtain ⟨h1, h⟩ := kg_some h
  obtain ⟨y, σ1, hc, h⟩ := kbi_some h
  refine s_Rm_draw_134 h1 (by decide) (E_Rm_at hc) (fun y2 σ2 e2 => ?_)
  obtain ⟨rfl, rfl⟩ := e2
  exact e_Rm_draw_165 hk118 h
def fb_Rm_draw_129 (k80 : Int → Int → kS → kRes) (k118 : Int → Int → Int → Int → Int → kS → kRes) (x1 : Int) (x2 : Int) (x3 : Int) (x4 : Int) (x5 : Int) (σ : kS) : kRes := kg ((-2147483648 ≤ x4 ∧ x4 < 2147483648)) (if x4 = 0 then fb_Rm_draw_172 k80 x1 x2 x3 x4 x5 σ else fb_Rm_draw_134 k118 x1 x2 x3 x4 x5 σ)
theorem e_Rm_draw_129 {l : Launch} {G : kG} {σf : kS} {k80 : Int → Int → kS → kRes} (hk80 : ∀ (x1 : Int) (x2 : Int) (o3 : Option kV) (o4 : Option kV) (o5 : Option kV) (σ : kS), k80 x1 x2 σ = some (none, σf) → Rn l G dm_Rm_draw m_Rm_draw (kU fun σ' => σ' = σf) 80 [some (.inr (9, 0)), some (.inl x1), some (.inl x2), o3, o4, o5] [] σ) {k118 : Int → Int → Int → Int → Int → kS → kRes} (hk118 : ∀ (x1 : Int) (x2 : Int) (x3 : Int) (x4 : Int) (x5 : Int)  (σ : kS), k118 x1 x2 x3 x4 x5 σ = some (none, σf) → Rn l G dm_Rm_draw m_Rm_draw (kU fun σ' => σ' = σf) 118 [some (.inr (9, 0)), some (.inl x1), some (.inl x2), some (.inl x3), some (.inl x4), some (.inl x5)] [] σ) {x1 : Int} {x2 : Int} {x3 : Int} {x4 : Int} {x5 : Int}  {σ : kS} (h : fb_Rm_draw_129 k80 k118 x1 x2 x3 x4 x5 σ = some (none, σf)) : Rn l G dm_Rm_draw m_Rm_draw (kU fun σ' => σ' = σf) 129 [some (.inr (9, 0)), some (.inl x1), some (.inl x2), some (.inl x3), some (.inl x4), some (.inl x5)] [] σ := by
  unfold fb_Rm_draw_129 at h
  obtain ⟨h1, h⟩ := kg_some h
  refine s_Rm_draw_129 h1 (fun c => ?_) (fun c => ?_)
  · rw [if_pos c] at h
    exact e_Rm_draw_172 hk80 h
  · rw [if_neg c] at h
    exact e_Rm_draw_134 hk118 h
def fb_Rm_draw_118 (k80 : Int → Int → kS → kRes) (k118 : Int → Int → Int → Int → Int → kS → kRes) (x1 : Int) (x2 : Int) (x3 : Int) (x4 : Int) (x5 : Int) (σ : kS) : kRes := kg ((0 ≤ x2 ∧ x2 < (100 : Nat)) ∧ (-2147483648 ≤ x5 ∧ x5 < 2147483648) ∧ (-2147483648 ≤ σ 21 0 (Int.toNat x2) ∧ σ 21 0 (Int.toNat x2) < 2147483648)) (if (σ 21 0 (Int.toNat x2)) ≤ x5 then fb_Rm_draw_172 k80 x1 x2 x3 x4 x5 σ else fb_Rm_draw_129 k80 k118 x1 x2 x3 x4 x5 σ)
theorem e_Rm_draw_118 {l : Launch} {G : kG} {σf : kS} {k80 : Int → Int → kS → kRes} (hk80 : ∀ (x1 : Int) (x2 : Int) (o3 : Option kV) (o4 : Option kV) (o5 : Option kV) (σ : kS), k80 x1 x2 σ = some (none, σf) → Rn l G dm_Rm_draw m_Rm_draw (kU fun σ' => σ' = σf) 80 [some (.inr (9, 0)), some (.inl x1), some (.inl x2), o3, o4, o5] [] σ) {k118 : Int → Int → Int → Int → Int → kS → kRes} (hk118 : ∀ (x1 : Int) (x2 : Int) (x3 : Int) (x4 : Int) (x5 : Int)  (σ : kS), k118 x1 x2 x3 x4 x5 σ = some (none, σf) → Rn l G dm_Rm_draw m_Rm_draw (kU fun σ' => σ' = σf) 118 [some (.inr (9, 0)), some (.inl x1), some (.inl x2), some (.inl x3), some (.inl x4), some (.inl x5)] [] σ) {x1 : Int} {x2 : Int} {x3 : Int} {x4 : Int} {x5 : Int}  {σ : kS} (h : fb_Rm_draw_118 k80 k118 x1 x2 x3 x4 x5 σ = some (none, σf)) : Rn l G dm_Rm_draw m_Rm_draw (kU fun σ' => σ' = σf) 118 [some (.inr (9, 0)), some (.inl x1), some (.inl x2), some (.inl x3), some (.inl x4), some (.inl x5)] [] σ := by
  unfold fb_Rm_draw_118 at h
  obtain ⟨⟨h1, h2, h3⟩, h⟩ := kg_some h
  refine s_Rm_draw_118 h1 h2 h3 (fun c => ?_) (fun c => ?_)
  · rw [if_pos c] at h
    exact e_Rm_draw_172 hk80 h
  · rw [if_neg c] at h
    exact e_Rm_draw_129 hk80 hk118 h
def fl_Rm_draw_118 (k80 : Int → Int → kS → kRes) : Nat → Int → Int → Int → Int → Int → kS → kRes
  | 0, _, _, _, _, _, _ => none
  | n + 1, x1, x2, x3, x4, x5, σ => fb_Rm_draw_118 k80 (fl_Rm_draw_118 k80 n) x1 x2 x3 x4 x5 σ
theorem el_Rm_draw_118 {l : Launch} {G : kG} {σf : kS} {k80 : Int → Int → kS → kRes} (hk80 : ∀ (x1 : Int) (x2 : Int) (o3 : Option kV) (o4 : Option kV) (o5 : Option kV) (σ : kS), k80 x1 x2 σ = some (none, σf) → Rn l G dm_Rm_draw m_Rm_draw (kU fun σ' => σ' = σf) 80 [some (.inr (9, 0)), some (.inl x1), some (.inl x2), o3, o4, o5] [] σ) : ∀ (n : Nat) (x1 : Int) (x2 : Int) (x3 : Int) (x4 : Int) (x5 : Int)  (σ : kS), fl_Rm_draw_118 k80 n x1 x2 x3 x4 x5 σ = some (none, σf) → Rn l G dm_Rm_draw m_Rm_draw (kU fun σ' => σ' = σf) 118 [some (.inr (9, 0)), some (.inl x1), some (.inl x2), some (.inl x3), some (.inl x4), some (.inl x5)] [] σ := by
  intro n
  induction n with
  | zero => intro x1 x2 x3 x4 x5 σ h; simp only [fl_Rm_draw_118] at h; cases h
  | succ n ih => intro x1 x2 x3 x4 x5 σ h; simp only [fl_Rm_draw_118] at h; exact e_Rm_draw_118 hk80 ih h
def fb_Rm_draw_113 (k80 : Int → Int → kS → kRes) (x1 : Int) (x2 : Int) (x3 : Int) (s0 : Int) (σ : kS) : kRes := fl_Rm_draw_118 k80 3000 x1 x2 x3 s0 0 σ
theorem e_Rm_draw_113 {l : Launch} {G : kG} {σf : kS} {k80 : Int → Int → kS → kRes} (hk80 : ∀ (x1 : Int) (x2 : Int) (o3 : Option kV) (o4 : Option kV) (o5 : Option kV) (σ : kS), k80 x1 x2 σ = some (none, σf) → Rn l G dm_Rm_draw m_Rm_draw (kU fun σ' => σ' = σf) 80 [some (.inr (9, 0)), some (.inl x1), some (.inl x2), o3, o4, o5] [] σ) {x1 : Int} {x2 : Int} {x3 : Int} {s0 : Int} {o4 : Option kV} {o5 : Option kV} {σ : kS} (h : fb_Rm_draw_113 k80 x1 x2 x3 s0 σ = some (none, σf)) : Rn l G dm_Rm_draw m_Rm_draw (kU fun σ' => σ' = σf) 113 [some (.inr (9, 0)), some (.inl x1), some (.inl x2), some (.inl x3), o4, o5] [.inl s0] σ := by
  unfold fb_Rm_draw_113 at h
  refine s_Rm_draw_113  ?_
  exact el_Rm_draw_118 hk80 _ _ _ _ _ _ _ h
def fb_Rm_draw_112 (k80 : Int → Int → kS → kRes) (x1 : Int) (x2 : Int) (x3 : Int) (σ : kS) : kRes := fb_Rm_draw_113 k80 x1 x2 x3 0 σ
theorem e_Rm_draw_112 {l : Launch} {G : kG} {σf : kS} {k80 : Int → Int → kS → kRes} (hk80 : ∀ (x1 : Int) (x2 : Int) (o3 : Option kV) (o4 : Option kV) (o5 : Option kV) (σ : kS), k80 x1 x2 σ = some (none, σf) → Rn l G dm_Rm_draw m_Rm_draw (kU fun σ' => σ' = σf) 80 [some (.inr (9, 0)), some (.inl x1), some (.inl x2), o3, o4, o5] [] σ) {x1 : Int} {x2 : Int} {x3 : Int} {o4 : Option kV} {o5 : Option kV} {σ : kS} (h : fb_Rm_draw_112 k80 x1 x2 x3 σ = some (none, σf)) : Rn l G dm_Rm_draw m_Rm_draw (kU fun σ' => σ' = σf) 112 [some (.inr (9, 0)), some (.inl x1), some (.inl x2), some (.inl x3), o4, o5] [] σ := by
  unfold fb_Rm_draw_112 at h
  refine s_Rm_draw_112  ?_
  exact e_Rm_draw_113 hk80 h
def fb_Rm_draw_108 (k80 : Int → Int → kS → kRes) (x1 : Int) (x2 : Int) (x3 : Int) (σ : kS) : kRes := fb_Rm_draw_113 k80 x1 x2 x3 1 σ
theorem e_Rm_draw_108 {l : Launch} {G : kG} {σf : kS} {k80 : Int → Int → kS → kRes} (hk80 : ∀ (x1 : Int) (x2 : Int) (o3 : Option kV) (o4 : Option kV) (o5 : Option kV) (σ : kS), k80 x1 x2 σ = some (none, σf) → Rn l G dm_Rm_draw m_Rm_draw (kU fun σ' => σ' = σf) 80 [some (.inr (9, 0)), some (.inl x1), some (.inl x2), o3, o4, o5] [] σ) {x1 : Int} {x2 : Int} {x3 : Int} {o4 : Option kV} {o5 : Option kV} {σ : kS} (h : fb_Rm_draw_108 k80 x1 x2 x3 σ = some (none, σf)) : Rn l G dm_Rm_draw m_Rm_draw (kU fun σ' => σ' = σf) 108 [some (.inr (9, 0)), some (.inl x1), some (.inl x2), some (.inl x3), o4, o5] [] σ := by
  unfold fb_Rm_draw_108 at h
  refine s_Rm_draw_108  ?_
  exact e_Rm_draw_113 hk80 h
def fb_Rm_draw_100 (k80 : Int → Int → kS → kRes) (x1 : Int) (x2 : Int) (s0 : Int) (σ : kS) : kRes := kg ((-2147483648 ≤ x1 + s0 ∧ x1 + s0 < 2147483648)) (if 5 < (x1 + s0) then fb_Rm_draw_112 k80 x1 x2 s0 σ else fb_Rm_draw_108 k80 x1 x2 s0 σ)
theorem e_Rm_draw_100 {l : Launch} {G : kG} {σf : kS} {k80 : Int → Int → kS → kRes} (hk80 : ∀ (x1 : Int) (x2 : Int) (o3 : Option kV) (o4 : Option kV) (o5 : Option kV) (σ : kS), k80 x1 x2 σ = some (none, σf) → Rn l G dm_Rm_draw m_Rm_draw (kU fun σ' => σ' = σf) 80 [some (.inr (9, 0)), some (.inl x1), some (.inl x2), o3, o4, o5] [] σ) {x1 : Int} {x2 : Int} {s0 : Int} {o3 : Option kV} {o4 : Option kV} {o5 : Option kV} {σ : kS} (h : fb_Rm_draw_100 k80 x1 x2 s0 σ = some (none, σf)) : Rn l G dm_Rm_draw m_Rm_draw (kU fun σ' => σ' = σf) 100 [some (.inr (9, 0)), some (.inl x1), some (.inl x2), o3, o4, o5] [.inl s0] σ := by
  unfold fb_Rm_draw_100 at h
  obtain ⟨h1, h⟩ := kg_some h
  refine s_Rm_draw_100 h1 (fun c => ?_) (fun c => ?_)
  · rw [if_pos c] at h
    exact e_Rm_draw_112 hk80 h
  · rw [if_neg c] at h
    exact e_Rm_draw_108 hk80 h
def fb_Rm_draw_95 (k80 : Int → Int → kS → kRes) (x1 : Int) (x2 : Int) (σ : kS) : kRes := kbi (f_Rm_rows x2 σ) fun y σ1 => fb_Rm_draw_100 k80 x1 x2 y σ1
theorem e_Rm_draw_95 {l : Launch} {G : kG} {σf : kS} {k80 : Int → Int → kS → kRes} (hk80 : ∀ (x1 : Int) (x2 : Int) (o3 : Option kV) (o4 : Option kV) (o5 : Option kV) (σ : kS), k80 x1 x2 σ = some (none, σf) → Rn l G dm_Rm_draw m_Rm_draw (kU fun σ' => σ' = σf) 80 [some (.inr (9, 0)), some (.inl x1), some (.inl x2), o3, o4, o5] [] σ) {x1 : Int} {x2 : Int} {o3 : Option kV} {o4 : Option kV} {o5 : Option kV} {σ : kS} (h : fb_Rm_draw_95 k80 x1 x2 σ = some (none, σf)) : Rn l G dm_Rm_draw m_Rm_draw (kU fun σ' => σ' = σf) 95 [some (.inr (9, 0)), some (.inl x1), some (.inl x2), o3, o4, o5] [] σ := by
  unfold fb_Rm_draw_95 at h
  obtain ⟨y, σ1, hc, h⟩ := kbi_some h
  refine s_Rm_draw_95  (by decide) (E_Rm_rows hc) (fun y2 σ2 e2 => ?_)
  obtain ⟨rfl, rfl⟩ := e2
  exact e_Rm_draw_100 hk80 h
def fb_Rm_draw_90 (k80 : Int → Int → kS → kRes) (x1 : Int) (x2 : Int) (σ : kS) : kRes := kg ((-2147483648 ≤ x1 ∧ x1 < 2147483648)) (if 5 ≤ x1 then fb_Rm_draw_223  x1 x2 σ else fb_Rm_draw_95 k80 x1 x2 σ)
theorem e_Rm_draw_90 {l : Launch} {G : kG} {σf : kS} {k80 : Int → Int → kS → kRes} (hk80 : ∀ (x1 : Int) (x2 : Int) (o3 : Option kV) (o4 : Option kV) (o5 : Option kV) (σ : kS), k80 x1 x2 σ = some (none, σf) → Rn l G dm_Rm_draw m_Rm_draw (kU fun σ' => σ' = σf) 80 [some (.inr (9, 0)), some (.inl x1), some (.inl x2), o3, o4, o5] [] σ) {x1 : Int} {x2 : Int} {o3 : Option kV} {o4 : Option kV} {o5 : Option kV} {σ : kS} (h : fb_Rm_draw_90 k80 x1 x2 σ = some (none, σf)) : Rn l G dm_Rm_draw m_Rm_draw (kU fun σ' => σ' = σf) 90 [some (.inr (9, 0)), some (.inl x1), some (.inl x2), o3, o4, o5] [] σ := by
  unfold fb_Rm_draw_90 at h
  obtain ⟨h1, h⟩ := kg_some h
  refine s_Rm_draw_90 h1 (fun c => ?_) (fun c => ?_)
  · rw [if_pos c] at h
    exact e_Rm_draw_223  h
  · rw [if_neg c] at h
    exact e_Rm_draw_95 hk80 h
def fb_Rm_draw_80 (k80 : Int → Int → kS → kRes) (x1 : Int) (x2 : Int) (σ : kS) : kRes := kg ((-2147483648 ≤ x2 ∧ x2 < 2147483648) ∧ (-2147483648 ≤ σ 22 0 0 ∧ σ 22 0 0 < 2147483648)) (if (σ 22 0 0) ≤ x2 then fb_Rm_draw_223  x1 x2 σ else fb_Rm_draw_90 k80 x1 x2 σ)
theorem e_Rm_draw_80 {l : Launch} {G : kG} {σf : kS} {k80 : Int → Int → kS → kRes} (hk80 : ∀ (x1 : Int) (x2 : Int) (o3 : Option kV) (o4 : Option kV) (o5 : Option kV) (σ : kS), k80 x1 x2 σ = some (none, σf) → Rn l G dm_Rm_draw m_Rm_draw (kU fun σ' => σ' = σf) 80 [some (.inr (9, 0)), some (.inl x1), some (.inl x2), o3, o4, o5] [] σ) {x1 : Int} {x2 : Int} {o3 : Option kV} {o4 : Option kV} {o5 : Option kV} {σ : kS} (h : fb_Rm_draw_80 k80 x1 x2 σ = some (none, σf)) : Rn l G dm_Rm_draw m_Rm_draw (kU fun σ' => σ' = σf) 80 [some (.inr (9, 0)), some (.inl x1), some (.inl x2), o3, o4, o5] [] σ := by
  unfold fb_Rm_draw_80 at h
  obtain ⟨⟨h1, h2⟩, h⟩ := kg_some h
  refine s_Rm_draw_80 h1 h2 (fun c => ?_) (fun c => ?_)
  · rw [if_pos c] at h
    exact e_Rm_draw_223  h
  · rw [if_neg c] at h
    exact e_Rm_draw_90 hk80 h
def fl_Rm_draw_80  : Nat → Int → Int → kS → kRes
  | 0, _, _, _ => none
  | n + 1, x1, x2, σ => fb_Rm_draw_80 (fl_Rm_draw_80  n) x1 x2 σ
theorem el_Rm_draw_80 {l : Launch} {G : kG} {σf : kS}  : ∀ (n : Nat) (x1 : Int) (x2 : Int) (o3 : Option kV) (o4 : Option kV) (o5 : Option kV) (σ : kS), fl_Rm_draw_80  n x1 x2 σ = some (none, σf) → Rn l G dm_Rm_draw m_Rm_draw (kU fun σ' => σ' = σf) 80 [some (.inr (9, 0)), some (.inl x1), some (.inl x2), o3, o4, o5] [] σ := by
  intro n
  induction n with
  | zero => intro x1 x2 o3 o4 o5 σ h; simp only [fl_Rm_draw_80] at h; cases h
  | succ n ih => intro x1 x2 o3 o4 o5 σ h; simp only [fl_Rm_draw_80] at h; exact e_Rm_draw_80 ih h
def fb_Rm_draw_73  (x1 : Int) (σ : kS) : kRes := fl_Rm_draw_80  3000 0 (σ 9 0 38) σ
theorem e_Rm_draw_73 {l : Launch} {G : kG} {σf : kS}  {x1 : Int} {o2 : Option kV} {o3 : Option kV} {o4 : Option kV} {o5 : Option kV} {σ : kS} (h : fb_Rm_draw_73  x1 σ = some (none, σf)) : Rn l G dm_Rm_draw m_Rm_draw (kU fun σ' => σ' = σf) 73 [some (.inr (9, 0)), some (.inl x1), o2, o3, o4, o5] [] σ := by
  unfold fb_Rm_draw_73 at h
  refine s_Rm_draw_73  ?_
  exact el_Rm_draw_80  _ _ _ _ _ _ _ h
def fb_Rm_draw_59 (k53 : Int → kS → kRes) (x1 : Int) (σ : kS) : kRes := kg ((0 ≤ x1 ∧ x1 < (100 : Nat))) (k53 (x1 + 1) (kup σ 37 0 (Int.toNat x1) 32))
theorem e_Rm_draw_59 {l : Launch} {G : kG} {σf : kS} {k53 : Int → kS → kRes} (hk53 : ∀ (x1 : Int) (o2 : Option kV) (o3 : Option kV) (o4 : Option kV) (o5 : Option kV) (σ : kS), k53 x1 σ = some (none, σf) → Rn l G dm_Rm_draw m_Rm_draw (kU fun σ' => σ' = σf) 53 [some (.inr (9, 0)), some (.inl x1), o2, o3, o4, o5] [] σ) {x1 : Int} {o2 : Option kV} {o3 : Option kV} {o4 : Option kV} {o5 : Option kV} {σ : kS} (h : fb_Rm_draw_59 k53 x1 σ = some (none, σf)) : Rn l G dm_Rm_draw m_Rm_draw (kU fun σ' => σ' = σf) 59 [some (.inr (9, 0)), some (.inl x1), o2, o3, o4, o5] [] σ := by
  unfold fb_Rm_draw_59 at h
  obtain ⟨h1, h⟩ := kg_some h
  refine s_Rm_draw_59 h1 ?_
  exact hk53 _ _ _ _ _ _ h
def fb_Rm_draw_53 (k53 : Int → kS → kRes) (x1 : Int) (σ : kS) : kRes := kg ((-2147483648 ≤ x1 ∧ x1 < 2147483648)) (if 100 ≤ x1 then fb_Rm_draw_73  x1 σ else fb_Rm_draw_59 k53 x1 σ)
theorem e_Rm_draw_53 {l : Launch} {G : kG} {σf : kS} {k53 : Int → kS → kRes} (hk53 : ∀ (x1 : Int) (o2 : Option kV) (o3 : Option kV) (o4 : Option kV) (o5 : Option kV) (σ : kS), k53 x1 σ = some (none, σf) → Rn l G dm_Rm_draw m_Rm_draw (kU fun σ' => σ' = σf) 53 [some (.inr (9, 0)), some (.inl x1), o2, o3, o4, o5] [] σ) {x1 : Int} {o2 : Option kV} {o3 : Option kV} {o4 : Option kV} {o5 : Option kV} {σ : kS} (h : fb_Rm_draw_53 k53 x1 σ = some (none, σf)) : Rn l G dm_Rm_draw m_Rm_draw (kU fun σ' => σ' = σf) 53 [some (.inr (9, 0)), some (.inl x1), o2, o3, o4, o5] [] σ := by
  unfold fb_Rm_draw_53 at h
  obtain ⟨h1, h⟩ := kg_some h
  refine s_Rm_draw_53 h1 (fun c => ?_) (fun c => ?_)
  · rw [if_pos c] at h
    exact e_Rm_draw_73  h
  · rw [if_neg c] at h
    exact e_Rm_draw_59 hk53 h
def fl_Rm_draw_53  : Nat → Int → kS → kRes
  | 0, _, _ => none
  | n + 1, x1, σ => fb_Rm_draw_53 (fl_Rm_draw_53  n) x1 σ
theorem el_Rm_draw_53 {l : Launch} {G : kG} {σf : kS}  : ∀ (n : Nat) (x1 : Int) (o2 : Option kV) (o3 : Option kV) (o4 : Option kV) (o5 : Option kV) (σ : kS), fl_Rm_draw_53  n x1 σ = some (none, σf) → Rn l G dm_Rm_draw m_Rm_draw (kU fun σ' => σ' = σf) 53 [some (.inr (9, 0)), some (.inl x1), o2, o3, o4, o5] [] σ := by
  intro n
  induction n with
  | zero => intro x1 o2 o3 o4 o5 σ h; simp only [fl_Rm_draw_53] at h; cases h
  | succ n ih => intro x1 o2 o3 o4 o5 σ h; simp only [fl_Rm_draw_53] at h; exact e_Rm_draw_53 ih h
def fb_Rm_draw_51   (σ : kS) : kRes := fl_Rm_draw_53  3000 0 σ
theorem e_Rm_draw_51 {l : Launch} {G : kG} {σf : kS}   {o1 : Option kV} {o2 : Option kV} {o3 : Option kV} {o4 : Option kV} {o5 : Option kV} {σ : kS} (h : fb_Rm_draw_51   σ = some (none, σf)) : Rn l G dm_Rm_draw m_Rm_draw (kU fun σ' => σ' = σf) 51 [some (.inr (9, 0)), o1, o2, o3, o4, o5] [] σ := by
  unfold fb_Rm_draw_51 at h
  refine s_Rm_draw_51  ?_
  exact el_Rm_draw_53  _ _ _ _ _ _ _ h
def fb_Rm_draw_38 (k30 : kS → kRes)  (σ : kS) : kRes := k30 (kup σ 9 0 38 ((σ 9 0 38) + 1))
theorem e_Rm_draw_38 {l : Launch} {G : kG} {σf : kS} {k30 : kS → kRes} (hk30 : ∀  (o1 : Option kV) (o2 : Option kV) (o3 : Option kV) (o4 : Option kV) (o5 : Option kV) (σ : kS), k30  σ = some (none, σf) → Rn l G dm_Rm_draw m_Rm_draw (kU fun σ' => σ' = σf) 30 [some (.inr (9, 0)), o1, o2, o3, o4, o5] [] σ)  {o1 : Option kV} {o2 : Option kV} {o3 : Option kV} {o4 : Option kV} {o5 : Option kV} {σ : kS} (h : fb_Rm_draw_38 k30  σ = some (none, σf)) : Rn l G dm_Rm_draw m_Rm_draw (kU fun σ' => σ' = σf) 38 [some (.inr (9, 0)), o1, o2, o3, o4, o5] [] σ := by
  unfold fb_Rm_draw_38 at h
  refine s_Rm_draw_38  ?_
  exact hk30 _ _ _ _ _ _ h
def fb_Rm_draw_34 (k30 : kS → kRes) (s0 : Int) (σ : kS) : kRes := kg ((-2147483648 ≤ s0 ∧ s0 < 2147483648)) (if s0 ≤ 5 then fb_Rm_draw_51  σ else fb_Rm_draw_38 k30 σ)
theorem e_Rm_draw_34 {l : Launch} {G : kG} {σf : kS} {k30 : kS → kRes} (hk30 : ∀  (o1 : Option kV) (o2 : Option kV) (o3 : Option kV) (o4 : Option kV) (o5 : Option kV) (σ : kS), k30  σ = some (none, σf) → Rn l G dm_Rm_draw m_Rm_draw (kU fun σ' => σ' = σf) 30 [some (.inr (9, 0)), o1, o2, o3, o4, o5] [] σ) {s0 : Int} {o1 : Option kV} {o2 : Option kV} {o3 : Option kV} {o4 : Option kV} {o5 : Option kV} {σ : kS} (h : fb_Rm_draw_34 k30 s0 σ = some (none, σf)) : Rn l G dm_Rm_draw m_Rm_draw (kU fun σ' => σ' = σf) 34 [some (.inr (9, 0)), o1, o2, o3, o4, o5] [.inl s0] σ := by
  unfold fb_Rm_draw_34 at h
  obtain ⟨h1, h⟩ := kg_some h
  refine s_Rm_draw_34 h1 (fun c => ?_) (fun c => ?_)
  · rw [if_pos c] at h
    exact e_Rm_draw_51  h
  · rw [if_neg c] at h
    exact e_Rm_draw_38 hk30 h
def fb_Rm_draw_30 (k30 : kS → kRes)  (σ : kS) : kRes := kbi (f_Rm_needed  σ) fun y σ1 => fb_Rm_draw_34 k30 y σ1
theorem e_Rm_draw_30 {l : Launch} {G : kG} {σf : kS} {k30 : kS → kRes} (hk30 : ∀  (o1 : Option kV) (o2 : Option kV) (o3 : Option kV) (o4 : Option kV) (o5 : Option kV) (σ : kS), k30  σ = some (none, σf) → Rn l G dm_Rm_draw m_Rm_draw (kU fun σ' => σ' = σf) 30 [some (.inr (9, 0)), o1, o2, o3, o4, o5] [] σ)  {o1 : Option kV} {o2 : Option kV} {o3 : Option kV} {o4 : Option kV} {o5 : Option kV} {σ : kS} (h : fb_Rm_draw_30 k30  σ = some (none, σf)) : Rn l G dm_Rm_draw m_Rm_draw (kU fun σ' => σ' = σf) 30 [some (.inr (9, 0)), o1, o2, o3, o4, o5] [] σ := by
  unfold fb_Rm_draw_30 at h
  obtain ⟨y, σ1, hc, h⟩ := kbi_some h
  refine s_Rm_draw_30  (by decide) (E_Rm_needed hc) (fun y2 σ2 e2 => ?_)
  obtain ⟨rfl, rfl⟩ := e2
  exact e_Rm_draw_34 hk30 h
def fl_Rm_draw_30  : Nat → kS → kRes
  | 0, _ => none
  | n + 1, σ => fb_Rm_draw_30 (fl_Rm_draw_30  n)  σ
theorem el_Rm_draw_30 {l : Launch} {G : kG} {σf : kS}  : ∀ (n : Nat)  (o1 : Option kV) (o2 : Option kV) (o3 : Option kV) (o4 : Option kV) (o5 : Option kV) (σ : kS), fl_Rm_draw_30  n  σ = some (none, σf) → Rn l G dm_Rm_draw m_Rm_draw (kU fun σ' => σ' = σf) 30 [some (.inr (9, 0)), o1, o2, o3, o4, o5] [] σ := by
  intro n
  induction n with
  | zero => intro o1 o2 o3 o4 o5 σ h; simp only [fl_Rm_draw_30] at h; cases h
  | succ n ih => intro o1 o2 o3 o4 o5 σ h; simp only [fl_Rm_draw_30] at h; exact e_Rm_draw_30 ih h
def fb_Rm_draw_27  (s0 : Int) (σ : kS) : kRes := fl_Rm_draw_30  3000 (kup σ 9 0 38 s0)
theorem e_Rm_draw_27 {l : Launch} {G : kG} {σf : kS}  {s0 : Int} {o1 : Option kV} {o2 : Option kV} {o3 : Option kV} {o4 : Option kV} {o5 : Option kV} {σ : kS} (h : fb_Rm_draw_27  s0 σ = some (none, σf)) : Rn l G dm_Rm_draw m_Rm_draw (kU fun σ' => σ' = σf) 27 [some (.inr (9, 0)), o1, o2, o3, o4, o5] [.inl s0, .inr (9, 0)] σ := by
  unfold fb_Rm_draw_27 at h
  refine s_Rm_draw_27  ?_
  exact el_Rm_draw_30  _ _ _ _ _ _ _ h
def fb_Rm_draw_23   (σ : kS) : kRes := fb_Rm_draw_27  (σ 9 0 38) σ
theorem e_Rm_draw_23 {l : Launch} {G : kG} {σf : kS}   {o1 : Option kV} {o2 : Option kV} {o3 : Option kV} {o4 : Option kV} {o5 : Option kV} {σ : kS} (h : fb_Rm_draw_23   σ = some (none, σf)) : Rn l G dm_Rm_draw m_Rm_draw (kU fun σ' => σ' = σf) 23 [some (.inr (9, 0)), o1, o2, o3, o4, o5] [.inr (9, 0)] σ := by
  unfold fb_Rm_draw_23 at h
  refine s_Rm_draw_23  ?_
  exact e_Rm_draw_27  h
def fb_Rm_draw_14   (σ : kS) : kRes := fb_Rm_draw_27  (σ 23 0 0) σ
theorem e_Rm_draw_14 {l : Launch} {G : kG} {σf : kS}   {o1 : Option kV} {o2 : Option kV} {o3 : Option kV} {o4 : Option kV} {o5 : Option kV} {σ : kS} (h : fb_Rm_draw_14   σ = some (none, σf)) : Rn l G dm_Rm_draw m_Rm_draw (kU fun σ' => σ' = σf) 14 [some (.inr (9, 0)), o1, o2, o3, o4, o5] [.inr (9, 0)] σ := by
  unfold fb_Rm_draw_14 at h
  refine s_Rm_draw_14  ?_
  exact e_Rm_draw_27  h
def fb_Rm_draw_0   (σ : kS) : kRes := kg ((-2147483648 ≤ σ 23 0 0 ∧ σ 23 0 0 < 2147483648) ∧ (-2147483648 ≤ σ 9 0 38 ∧ σ 9 0 38 < 2147483648)) (if (σ 9 0 38) ≤ (σ 23 0 0) then fb_Rm_draw_23  σ else fb_Rm_draw_14  σ)
theorem e_Rm_draw_0 {l : Launch} {G : kG} {σf : kS}   {o1 : Option kV} {o2 : Option kV} {o3 : Option kV} {o4 : Option kV} {o5 : Option kV} {σ : kS} (h : fb_Rm_draw_0   σ = some (none, σf)) : Rn l G dm_Rm_draw m_Rm_draw (kU fun σ' => σ' = σf) 0 [some (.inr (9, 0)), o1, o2, o3, o4, o5] [] σ := by
  unfold fb_Rm_draw_0 at h
  obtain ⟨⟨h1, h2⟩, h⟩ := kg_some h
  refine s_Rm_draw_0 h1 h2 (fun c => ?_) (fun c => ?_)
  · rw [if_pos c] at h
    exact e_Rm_draw_23  h
  · rw [if_neg c] at h
    exact e_Rm_draw_14  h
def f_Rm_draw  (σ : kS) : kRes := fb_Rm_draw_0  σ
theorem E_Rm_draw {l : Launch} {G : kG} {σf : kS}  {σ : kS} (h : f_Rm_draw  σ = some (none, σf)) : Call l G dm_Rm_draw y_Rm_draw m_Rm_draw [.inr (9, 0)] σ (kU fun σ' => σ' = σf) := by
  unfold f_Rm_draw at h
  exact Call.of (by decide +kernel) rfl (Nat.le_of_ble_eq_true rfl) (e_Rm_draw_0 h)
/-! Rm_drop -/
def fb_Rm_drop_0   (σ : kS) : kRes := some (none, kup (kup (kup (kup σ 9 0 8 0) 9 0 9 0) 9 0 10 0) 9 0 12 0)
theorem e_Rm_drop_0 {l : Launch} {G : kG} {σf : kS}    {σ : kS} (h : fb_Rm_drop_0   σ = some (none, σf)) : Rn l G dm_Rm_drop m_Rm_drop (kU fun σ' => σ' = σf) 0 [some (.inr (9, 0))] [] σ := by
  unfold fb_Rm_drop_0 at h
  simp only [Option.some.injEq, Prod.mk.injEq, true_and] at h
  exact s_Rm_drop_0  ⟨rfl, h⟩
def f_Rm_drop  (σ : kS) : kRes := fb_Rm_drop_0  σ
theorem E_Rm_drop {l : Launch} {G : kG} {σf : kS}  {σ : kS} (h : f_Rm_drop  σ = some (none, σf)) : Call l G dm_Rm_drop y_Rm_drop m_Rm_drop [.inr (9, 0)] σ (kU fun σ' => σ' = σf) := by
  unfold f_Rm_drop at h
  exact Call.of (by decide +kernel) rfl (Nat.le_of_ble_eq_true rfl) (e_Rm_drop_0 h)
/-! Rm_reset -/
def fb_Rm_reset_34   (σ : kS) : kRes := some (none, kup (kup (kup (kup σ 22 0 0 1) 21 0 0 0) 23 0 0 0) 24 0 0 0)
theorem e_Rm_reset_34 {l : Launch} {G : kG} {σf : kS}    {σ : kS} (h : fb_Rm_reset_34   σ = some (none, σf)) : Rn l G dm_Rm_reset m_Rm_reset (kU fun σ' => σ' = σf) 34 [some (.inr (9, 0))] [] σ := by
  unfold fb_Rm_reset_34 at h
  simp only [Option.some.injEq, Prod.mk.injEq, true_and] at h
  exact s_Rm_reset_34  ⟨rfl, h⟩
def fb_Rm_reset_0   (σ : kS) : kRes := kbu (f_Rm_drop  (kup (kup (kup (kup (kup (kup σ 9 0 5 0) 9 0 6 0) 9 0 7 (-1)) 9 0 14 0) 9 0 34 0) 9 0 38 0)) fun σ1 => fb_Rm_reset_34  σ1
theorem e_Rm_reset_0 {l : Launch} {G : kG} {σf : kS}    {σ : kS} (h : fb_Rm_reset_0   σ = some (none, σf)) : Rn l G dm_Rm_reset m_Rm_reset (kU fun σ' => σ' = σf) 0 [some (.inr (9, 0))] [] σ := by
  unfold fb_Rm_reset_0 at h
  obtain ⟨σ1, hc, h⟩ := kbu_some h
  refine s_Rm_reset_0  (by decide) (E_Rm_drop hc) (fun σ2 e2 => ?_)
  subst e2
  exact e_Rm_reset_34  h
def f_Rm_reset  (σ : kS) : kRes := fb_Rm_reset_0  σ
theorem E_Rm_reset {l : Launch} {G : kG} {σf : kS}  {σ : kS} (h : f_Rm_reset  σ = some (none, σf)) : Call l G dm_Rm_reset y_Rm_reset m_Rm_reset [.inr (9, 0)] σ (kU fun σ' => σ' = σf) := by
  unfold f_Rm_reset at h
  exact Call.of (by decide +kernel) rfl (Nat.le_of_ble_eq_true rfl) (e_Rm_reset_0 h)
/-! Rm_crash -/
def fb_Rm_crash_31   (σ : kS) : kRes := some (some (σ 22 0 0), σ)
theorem e_Rm_crash_31 {l : Launch} {G : kG} {yf : Int} {σf : kS}    {σ : kS} (h : fb_Rm_crash_31   σ = some (some yf, σf)) : Rn l G dm_Rm_crash m_Rm_crash (kI fun y' σ' => y' = yf ∧ σ' = σf) 31 [some (.inr (9, 0))] [] σ := by
  unfold fb_Rm_crash_31 at h
  simp only [Option.some.injEq, Prod.mk.injEq, true_and] at h
  exact s_Rm_crash_31  ⟨_, rfl, h⟩
def fb_Rm_crash_27   (σ : kS) : kRes := kbu (f_Rm_draw  σ) fun σ1 => fb_Rm_crash_31  σ1
theorem e_Rm_crash_27 {l : Launch} {G : kG} {yf : Int} {σf : kS}    {σ : kS} (h : fb_Rm_crash_27   σ = some (some yf, σf)) : Rn l G dm_Rm_crash m_Rm_crash (kI fun y' σ' => y' = yf ∧ σ' = σf) 27 [some (.inr (9, 0))] [] σ := by
  unfold fb_Rm_crash_27 at h
  obtain ⟨σ1, hc, h⟩ := kbu_some h
  refine s_Rm_crash_27  (by decide) (E_Rm_draw hc) (fun σ2 e2 => ?_)
  subst e2
  exact e_Rm_crash_31  h
def fb_Rm_crash_21   (σ : kS) : kRes := kbu (f_Rm_place 0 0 σ) fun σ1 => fb_Rm_crash_27  σ1
theorem e_Rm_crash_21 {l : Launch} {G : kG} {yf : Int} {σf : kS}    {σ : kS} (h : fb_Rm_crash_21   σ = some (some yf, σf)) : Rn l G dm_Rm_crash m_Rm_crash (kI fun y' σ' => y' = yf ∧ σ' = σf) 21 [some (.inr (9, 0))] [] σ := by
  unfold fb_Rm_crash_21 at h
  obtain ⟨σ1, hc, h⟩ := kbu_some h
  refine s_Rm_crash_21  (by decide) (E_Rm_place hc) (fun σ2 e2 => ?_)
  subst e2
  exact e_Rm_crash_27  h
def fb_Rm_crash_14   (σ : kS) : kRes := kbu (f_Rm_copyText 6 0 σ) fun σ1 => fb_Rm_crash_21  σ1
theorem e_Rm_crash_14 {l : Launch} {G : kG} {yf : Int} {σf : kS}    {σ : kS} (h : fb_Rm_crash_14   σ = some (some yf, σf)) : Rn l G dm_Rm_crash m_Rm_crash (kI fun y' σ' => y' = yf ∧ σ' = σf) 14 [some (.inr (9, 0))] [] σ := by
  unfold fb_Rm_crash_14 at h
  obtain ⟨σ1, hc, h⟩ := kbu_some h
  refine s_Rm_crash_14  (by decide) (E_Rm_copyText hc) (fun σ2 e2 => ?_)
  subst e2
  exact e_Rm_crash_21  h
def fb_Rm_crash_4   (σ : kS) : kRes := kg ((-2147483648 ≤ σ 22 0 6 ∧ σ 22 0 6 < 2147483648)) (if (σ 22 0 6) ≤ 0 then fb_Rm_crash_27  σ else fb_Rm_crash_14  σ)
theorem e_Rm_crash_4 {l : Launch} {G : kG} {yf : Int} {σf : kS}    {σ : kS} (h : fb_Rm_crash_4   σ = some (some yf, σf)) : Rn l G dm_Rm_crash m_Rm_crash (kI fun y' σ' => y' = yf ∧ σ' = σf) 4 [some (.inr (9, 0))] [] σ := by
  unfold fb_Rm_crash_4 at h
  obtain ⟨h1, h⟩ := kg_some h
  refine s_Rm_crash_4 h1 (fun c => ?_) (fun c => ?_)
  · rw [if_pos c] at h
    exact e_Rm_crash_27  h
  · rw [if_neg c] at h
    exact e_Rm_crash_14  h
def fb_Rm_crash_0   (σ : kS) : kRes := kbu (f_Rm_reset  σ) fun σ1 => fb_Rm_crash_4  σ1
theorem e_Rm_crash_0 {l : Launch} {G : kG} {yf : Int} {σf : kS}    {σ : kS} (h : fb_Rm_crash_0   σ = some (some yf, σf)) : Rn l G dm_Rm_crash m_Rm_crash (kI fun y' σ' => y' = yf ∧ σ' = σf) 0 [some (.inr (9, 0))] [] σ := by
  unfold fb_Rm_crash_0 at h
  obtain ⟨σ1, hc, h⟩ := kbu_some h
  refine s_Rm_crash_0  (by decide) (E_Rm_reset hc) (fun σ2 e2 => ?_)
  subst e2
  exact e_Rm_crash_4  h
def f_Rm_crash  (σ : kS) : kRes := fb_Rm_crash_0  σ
theorem E_Rm_crash {l : Launch} {G : kG} {yf : Int} {σf : kS}  {σ : kS} (h : f_Rm_crash  σ = some (some yf, σf)) : Call l G dm_Rm_crash y_Rm_crash m_Rm_crash [.inr (9, 0)] σ (kI fun y' σ' => y' = yf ∧ σ' = σf) := by
  unfold f_Rm_crash at h
  exact Call.of (by decide +kernel) rfl (Nat.le_of_ble_eq_true rfl) (e_Rm_crash_0 h)
/-! Rm_cursor -/
def fb_Rm_cursor_0   (σ : kS) : kRes := some (some ((32 * (σ 23 0 0)) + (σ 24 0 0)), σ)
theorem e_Rm_cursor_0 {l : Launch} {G : kG} {yf : Int} {σf : kS}    {σ : kS} (h : fb_Rm_cursor_0   σ = some (some yf, σf)) : Rn l G dm_Rm_cursor m_Rm_cursor (kI fun y' σ' => y' = yf ∧ σ' = σf) 0 [some (.inr (9, 0))] [] σ := by
  unfold fb_Rm_cursor_0 at h
  simp only [Option.some.injEq, Prod.mk.injEq, true_and] at h
  exact s_Rm_cursor_0  ⟨_, rfl, h⟩
def f_Rm_cursor  (σ : kS) : kRes := fb_Rm_cursor_0  σ
theorem E_Rm_cursor {l : Launch} {G : kG} {yf : Int} {σf : kS}  {σ : kS} (h : f_Rm_cursor  σ = some (some yf, σf)) : Call l G dm_Rm_cursor y_Rm_cursor m_Rm_cursor [.inr (9, 0)] σ (kI fun y' σ' => y' = yf ∧ σ' = σf) := by
  unfold f_Rm_cursor at h
  exact Call.of (by decide +kernel) rfl (Nat.le_of_ble_eq_true rfl) (e_Rm_cursor_0 h)
/-! Rm_file -/
def fb_Rm_file_0   (σ : kS) : kRes := some (some (σ 22 0 5), σ)
theorem e_Rm_file_0 {l : Launch} {G : kG} {yf : Int} {σf : kS}    {σ : kS} (h : fb_Rm_file_0   σ = some (some yf, σf)) : Rn l G dm_Rm_file m_Rm_file (kI fun y' σ' => y' = yf ∧ σ' = σf) 0 [some (.inr (9, 0))] [] σ := by
  unfold fb_Rm_file_0 at h
  simp only [Option.some.injEq, Prod.mk.injEq, true_and] at h
  exact s_Rm_file_0  ⟨_, rfl, h⟩
def f_Rm_file  (σ : kS) : kRes := fb_Rm_file_0  σ
theorem E_Rm_file {l : Launch} {G : kG} {yf : Int} {σf : kS}  {σ : kS} (h : f_Rm_file  σ = some (some yf, σf)) : Call l G dm_Rm_file y_Rm_file m_Rm_file [.inr (9, 0)] σ (kI fun y' σ' => y' = yf ∧ σ' = σf) := by
  unfold f_Rm_file at h
  exact Call.of (by decide +kernel) rfl (Nat.le_of_ble_eq_true rfl) (e_Rm_file_0 h)
/-! Rm_held -/
def fb_Rm_held_22  (x1 : Int) (x2 : Int) (s0 : Int) (σ : kS) : kRes := some (some s0, σ)
theorem e_Rm_held_22 {l : Launch} {G : kG} {yf : Int} {σf : kS}  {x1 : Int} {x2 : Int} {s0 : Int}  {σ : kS} (h : fb_Rm_held_22  x1 x2 s0 σ = some (some yf, σf)) : Rn l G dm_Rm_held m_Rm_held (kI fun y' σ' => y' = yf ∧ σ' = σf) 22 [some (.inr (9, 0)), some (.inl x1), some (.inl x2)] [.inl s0] σ := by
  unfold fb_Rm_held_22 at h
  simp only [Option.some.injEq, Prod.mk.injEq, true_and] at h
  exact s_Rm_held_22  ⟨_, rfl, h⟩
def fb_Rm_held_17  (x1 : Int) (x2 : Int) (s0 : Int) (s1 : Int) (σ : kS) : kRes := kbi (f_Rm_character s1 s0 x1 x2 σ) fun y σ1 => fb_Rm_held_22  x1 x2 y σ1
theorem e_Rm_held_17 {l : Launch} {G : kG} {yf : Int} {σf : kS}  {x1 : Int} {x2 : Int} {s0 : Int} {s1 : Int}  {σ : kS} (h : fb_Rm_held_17  x1 x2 s0 s1 σ = some (some yf, σf)) : Rn l G dm_Rm_held m_Rm_held (kI fun y' σ' => y' = yf ∧ σ' = σf) 17 [some (.inr (9, 0)), some (.inl x1), some (.inl x2)] [.inl s0, .inl s1, .inr (9, 0)] σ := by
  unfold fb_Rm_held_17 at h
  obtain ⟨y, σ1, hc, h⟩ := kbi_some h
  refine s_Rm_held_17  (by decide) (E_Rm_character hc) (fun y2 σ2 e2 => ?_)
  obtain ⟨rfl, rfl⟩ := e2
  exact e_Rm_held_22  h
def fb_Rm_held_13  (x1 : Int) (x2 : Int) (s0 : Int) (σ : kS) : kRes := fb_Rm_held_17  x1 x2 (σ 9 0 7) s0 σ
theorem e_Rm_held_13 {l : Launch} {G : kG} {yf : Int} {σf : kS}  {x1 : Int} {x2 : Int} {s0 : Int}  {σ : kS} (h : fb_Rm_held_13  x1 x2 s0 σ = some (some yf, σf)) : Rn l G dm_Rm_held m_Rm_held (kI fun y' σ' => y' = yf ∧ σ' = σf) 13 [some (.inr (9, 0)), some (.inl x1), some (.inl x2)] [.inl s0, .inr (9, 0)] σ := by
  unfold fb_Rm_held_13 at h
  refine s_Rm_held_13  ?_
  exact e_Rm_held_17  h
def fb_Rm_held_9  (x1 : Int) (x2 : Int) (s0 : Int) (σ : kS) : kRes := fb_Rm_held_17  x1 x2 1 s0 σ
theorem e_Rm_held_9 {l : Launch} {G : kG} {yf : Int} {σf : kS}  {x1 : Int} {x2 : Int} {s0 : Int}  {σ : kS} (h : fb_Rm_held_9  x1 x2 s0 σ = some (some yf, σf)) : Rn l G dm_Rm_held m_Rm_held (kI fun y' σ' => y' = yf ∧ σ' = σf) 9 [some (.inr (9, 0)), some (.inl x1), some (.inl x2)] [.inl s0, .inr (9, 0)] σ := by
  unfold fb_Rm_held_9 at h
  refine s_Rm_held_9  ?_
  exact e_Rm_held_17  h
def fb_Rm_held_0  (x1 : Int) (x2 : Int) (σ : kS) : kRes := kg ((-2147483648 ≤ σ 9 0 7 ∧ σ 9 0 7 < 2147483648)) (if (σ 9 0 7) = 0 then fb_Rm_held_9  x1 x2 4 σ else fb_Rm_held_13  x1 x2 4 σ)
theorem e_Rm_held_0 {l : Launch} {G : kG} {yf : Int} {σf : kS}  {x1 : Int} {x2 : Int}  {σ : kS} (h : fb_Rm_held_0  x1 x2 σ = some (some yf, σf)) : Rn l G dm_Rm_held m_Rm_held (kI fun y' σ' => y' = yf ∧ σ' = σf) 0 [some (.inr (9, 0)), some (.inl x1), some (.inl x2)] [] σ := by
  unfold fb_Rm_held_0 at h
  obtain ⟨h1, h⟩ := kg_some h
  refine s_Rm_held_0 h1 (fun c => ?_) (fun c => ?_)
  · rw [if_neg c] at h
    exact e_Rm_held_13  h
  · rw [if_pos c] at h
    exact e_Rm_held_9  h
def f_Rm_held (x1 : Int) (x2 : Int) (σ : kS) : kRes := fb_Rm_held_0 x1 x2 σ
theorem E_Rm_held {l : Launch} {G : kG} {yf : Int} {σf : kS} {x1 : Int} {x2 : Int} {σ : kS} (h : f_Rm_held x1 x2 σ = some (some yf, σf)) : Call l G dm_Rm_held y_Rm_held m_Rm_held [.inr (9, 0), .inl x1, .inl x2] σ (kI fun y' σ' => y' = yf ∧ σ' = σf) := by
  unfold f_Rm_held at h
  exact Call.of (by decide +kernel) rfl (Nat.le_of_ble_eq_true rfl) (e_Rm_held_0 h)
/-! Rm_line -/
def fb_Rm_line_229  (x1 : Int) (x2 : Int) (x3 : Int) (x4 : Int) (s0 : Int) (σ : kS) : kRes := some (some s0, σ)
theorem e_Rm_line_229 {l : Launch} {G : kG} {yf : Int} {σf : kS}  {x1 : Int} {x2 : Int} {x3 : Int} {x4 : Int} {s0 : Int}  {σ : kS} (h : fb_Rm_line_229  x1 x2 x3 x4 s0 σ = some (some yf, σf)) : Rn l G dm_Rm_line m_Rm_line (kI fun y' σ' => y' = yf ∧ σ' = σf) 229 [some (.inr (9, 0)), some (.inl x1), some (.inl x2), some (.inl x3), some (.inl x4)] [.inl s0] σ := by
  unfold fb_Rm_line_229 at h
  simp only [Option.some.injEq, Prod.mk.injEq, true_and] at h
  exact s_Rm_line_229  ⟨_, rfl, h⟩
def fb_Rm_line_226  (x1 : Int) (x2 : Int) (x3 : Int) (x4 : Int) (s0 : Int) (s1 : Int) (σ : kS) : kRes := kbi (f_Rm_carryOut s1 s0 σ) fun y σ1 => fb_Rm_line_229  x1 x2 x3 x4 y σ1
theorem e_Rm_line_226 {l : Launch} {G : kG} {yf : Int} {σf : kS}  {x1 : Int} {x2 : Int} {x3 : Int} {x4 : Int} {s0 : Int} {s1 : Int}  {σ : kS} (h : fb_Rm_line_226  x1 x2 x3 x4 s0 s1 σ = some (some yf, σf)) : Rn l G dm_Rm_line m_Rm_line (kI fun y' σ' => y' = yf ∧ σ' = σf) 226 [some (.inr (9, 0)), some (.inl x1), some (.inl x2), some (.inl x3), some (.inl x4)] [.inl s0, .inl s1, .inr (9, 0)] σ := by
  unfold fb_Rm_line_226 at h
  obtain ⟨y, σ1, hc, h⟩ := kbi_some h
  refine s_Rm_line_226  (by decide) (E_Rm_carryOut hc) (fun y2 σ2 e2 => ?_)
  obtain ⟨rfl, rfl⟩ := e2
  exact e_Rm_line_229  h
def fb_Rm_line_223  (x1 : Int) (x2 : Int) (x3 : Int) (x4 : Int) (s0 : Int) (σ : kS) : kRes := fb_Rm_line_226  x1 x2 x3 x4 (x2 - 1) s0 σ
theorem e_Rm_line_223 {l : Launch} {G : kG} {yf : Int} {σf : kS}  {x1 : Int} {x2 : Int} {x3 : Int} {x4 : Int} {s0 : Int}  {σ : kS} (h : fb_Rm_line_223  x1 x2 x3 x4 s0 σ = some (some yf, σf)) : Rn l G dm_Rm_line m_Rm_line (kI fun y' σ' => y' = yf ∧ σ' = σf) 223 [some (.inr (9, 0)), some (.inl x1), some (.inl x2), some (.inl x3), some (.inl x4)] [.inl s0, .inr (9, 0)] σ := by
  unfold fb_Rm_line_223 at h
  refine s_Rm_line_223  ?_
  exact e_Rm_line_226  h
def fb_Rm_line_212  (x1 : Int) (x2 : Int) (x3 : Int) (x4 : Int) (s0 : Int) (σ : kS) : kRes := fb_Rm_line_226  x1 x2 x3 x4 ((σ 22 0 0) - 1) s0 σ
theorem e_Rm_line_212 {l : Launch} {G : kG} {yf : Int} {σf : kS}  {x1 : Int} {x2 : Int} {x3 : Int} {x4 : Int} {s0 : Int}  {σ : kS} (h : fb_Rm_line_212  x1 x2 x3 x4 s0 σ = some (some yf, σf)) : Rn l G dm_Rm_line m_Rm_line (kI fun y' σ' => y' = yf ∧ σ' = σf) 212 [some (.inr (9, 0)), some (.inl x1), some (.inl x2), some (.inl x3), some (.inl x4)] [.inl s0, .inr (9, 0)] σ := by
  unfold fb_Rm_line_212 at h
  refine s_Rm_line_212  ?_
  exact e_Rm_line_226  h
def fb_Rm_line_207  (x1 : Int) (x2 : Int) (x3 : Int) (x4 : Int) (s0 : Int) (σ : kS) : kRes := kg ((-2147483648 ≤ x4 ∧ x4 < 2147483648)) (if x4 = 0 then fb_Rm_line_223  x1 x2 x3 x4 s0 σ else fb_Rm_line_212  x1 x2 x3 x4 s0 σ)
theorem e_Rm_line_207 {l : Launch} {G : kG} {yf : Int} {σf : kS}  {x1 : Int} {x2 : Int} {x3 : Int} {x4 : Int} {s0 : Int}  {σ : kS} (h : fb_Rm_line_207  x1 x2 x3 x4 s0 σ = some (some yf, σf)) : Rn l G dm_Rm_line m_Rm_line (kI fun y' σ' => y' = yf ∧ σ' = σf) 207 [some (.inr (9, 0)), some (.inl x1), some (.inl x2), some (.inl x3), some (.inl x4)] [.inl s0, .inr (9, 0)] σ := by
  unfold fb_Rm_line_207 at h
  obtain ⟨h1, h⟩ := kg_some h
  refine s_Rm_line_207 h1 (fun c => ?_) (fun c => ?_)
  · rw [if_pos c] at h
    exact e_Rm_line_223  h
  · rw [if_neg c] at h
    exact e_Rm_line_212  h
def fb_Rm_line_204  (x1 : Int) (x2 : Int) (x3 : Int) (x4 : Int) (σ : kS) : kRes := fb_Rm_line_207  x1 x2 x3 x4 (x1 - 1) σ
theorem e_Rm_line_204 {l : Launch} {G : kG} {yf : Int} {σf : kS}  {x1 : Int} {x2 : Int} {x3 : Int} {x4 : Int}  {σ : kS} (h : fb_Rm_line_204  x1 x2 x3 x4 σ = some (some yf, σf)) : Rn l G dm_Rm_line m_Rm_line (kI fun y' σ' => y' = yf ∧ σ' = σf) 204 [some (.inr (9, 0)), some (.inl x1), some (.inl x2), some (.inl x3), some (.inl x4)] [.inr (9, 0)] σ := by
  unfold fb_Rm_line_204 at h
  refine s_Rm_line_204  ?_
  exact e_Rm_line_207  h
def fb_Rm_line_200  (x1 : Int) (x2 : Int) (x3 : Int) (x4 : Int) (σ : kS) : kRes := fb_Rm_line_207  x1 x2 x3 x4 0 σ
theorem e_Rm_line_200 {l : Launch} {G : kG} {yf : Int} {σf : kS}  {x1 : Int} {x2 : Int} {x3 : Int} {x4 : Int}  {σ : kS} (h : fb_Rm_line_200  x1 x2 x3 x4 σ = some (some yf, σf)) : Rn l G dm_Rm_line m_Rm_line (kI fun y' σ' => y' = yf ∧ σ' = σf) 200 [some (.inr (9, 0)), some (.inl x1), some (.inl x2), some (.inl x3), some (.inl x4)] [.inr (9, 0)] σ := by
  unfold fb_Rm_line_200 at h
  refine s_Rm_line_200  ?_
  exact e_Rm_line_207  h
def fb_Rm_line_192  (x1 : Int) (x2 : Int) (x3 : Int) (s0 : Int) (σ : kS) : kRes := kg ((-2147483648 ≤ s0 ∧ s0 < 2147483648)) (if s0 = 0 then fb_Rm_line_204  x1 x2 x3 s0 σ else fb_Rm_line_200  x1 x2 x3 s0 σ)
theorem e_Rm_line_192 {l : Launch} {G : kG} {yf : Int} {σf : kS}  {x1 : Int} {x2 : Int} {x3 : Int} {s0 : Int} {o4 : Option kV} {σ : kS} (h : fb_Rm_line_192  x1 x2 x3 s0 σ = some (some yf, σf)) : Rn l G dm_Rm_line m_Rm_line (kI fun y' σ' => y' = yf ∧ σ' = σf) 192 [some (.inr (9, 0)), some (.inl x1), some (.inl x2), some (.inl x3), o4] [.inl s0] σ := by
  unfold fb_Rm_line_192 at h
  obtain ⟨h1, h⟩ := kg_some h
  refine s_Rm_line_192 h1 (fun c => ?_) (fun c => ?_)
  · rw [if_pos c] at h
    exact e_Rm_line_204  h
  · rw [if_neg c] at h
    exact e_Rm_line_200  h
def fb_Rm_line_191  (x1 : Int) (x2 : Int) (x3 : Int) (σ : kS) : kRes := fb_Rm_line_192  x1 x2 x3 0 σ
theorem e_Rm_line_191 {l : Launch} {G : kG} {yf : Int} {σf : kS}  {x1 : Int} {x2 : Int} {x3 : Int} {o4 : Option kV} {σ : kS} (h : fb_Rm_line_191  x1 x2 x3 σ = some (some yf, σf)) : Rn l G dm_Rm_line m_Rm_line (kI fun y' σ' => y' = yf ∧ σ' = σf) 191 [some (.inr (9, 0)), some (.inl x1), some (.inl x2), some (.inl x3), o4] [] σ := by
  unfold fb_Rm_line_191 at h
  refine s_Rm_line_191  ?_
  exact e_Rm_line_192  h
def fb_Rm_line_187  (x1 : Int) (x2 : Int) (x3 : Int) (σ : kS) : kRes := fb_Rm_line_192  x1 x2 x3 1 σ
theorem e_Rm_line_187 {l : Launch} {G : kG} {yf : Int} {σf : kS}  {x1 : Int} {x2 : Int} {x3 : Int} {o4 : Option kV} {σ : kS} (h : fb_Rm_line_187  x1 x2 x3 σ = some (some yf, σf)) : Rn l G dm_Rm_line m_Rm_line (kI fun y' σ' => y' = yf ∧ σ' = σf) 187 [some (.inr (9, 0)), some (.inl x1), some (.inl x2), some (.inl x3), o4] [] σ := by
  unfold fb_Rm_line_187 at h
  refine s_Rm_line_187  ?_
  exact e_Rm_line_192  h
def fb_Rm_line_182  (x1 : Int) (x2 : Int) (x3 : Int) (s0 : Int) (σ : kS) : kRes := kg ((-2147483648 ≤ s0 ∧ s0 < 2147483648)) (if s0 = 103 then fb_Rm_line_187  x1 x2 x3 σ else fb_Rm_line_191  x1 x2 x3 σ)
theorem e_Rm_line_182 {l : Launch} {G : kG} {yf : Int} {σf : kS}  {x1 : Int} {x2 : Int} {x3 : Int} {s0 : Int} {o4 : Option kV} {σ : kS} (h : fb_Rm_line_182  x1 x2 x3 s0 σ = some (some yf, σf)) : Rn l G dm_Rm_line m_Rm_line (kI fun y' σ' => y' = yf ∧ σ' = σf) 182 [some (.inr (9, 0)), some (.inl x1), some (.inl x2), some (.inl x3), o4] [.inl s0] σ := by
  unfold fb_Rm_line_182 at h
  obtain ⟨h1, h⟩ := kg_some h
  refine s_Rm_line_182 h1 (fun c => ?_) (fun c => ?_)
  · rw [if_neg c] at h
    exact e_Rm_line_191  h
  · rw [if_pos c] at h
    exact e_Rm_line_187  h
def fb_Rm_line_174  (x1 : Int) (x2 : Int) (x3 : Int) (σ : kS) : kRes := kbi (f_Rm_seen (σ 9 0 22) σ) fun y σ1 => fb_Rm_line_182  x1 x2 x3 y σ1
theorem e_Rm_line_174 {l : Launch} {G : kG} {yf : Int} {σf : kS}  {x1 : Int} {x2 : Int} {x3 : Int} {o4 : Option kV} {σ : kS} (h : fb_Rm_line_174  x1 x2 x3 σ = some (some yf, σf)) : Rn l G dm_Rm_line m_Rm_line (kI fun y' σ' => y' = yf ∧ σ' = σf) 174 [some (.inr (9, 0)), some (.inl x1), some (.inl x2), some (.inl x3), o4] [] σ := by
  unfold fb_Rm_line_174 at h
  obtain ⟨y, σ1, hc, h⟩ := kbi_some h
  refine s_Rm_line_174  (by decide) (E_Rm_seen hc) (fun y2 σ2 e2 => ?_)
  obtain ⟨rfl, rfl⟩ := e2
  exact e_Rm_line_182  h
def fb_Rm_line_169  (x1 : Int) (x2 : Int) (x3 : Int) (s0 : Int) (σ : kS) : kRes := kg ((-2147483648 ≤ s0 ∧ s0 < 2147483648)) (if s0 = 119 then fb_Rm_line_187  x1 x2 x3 σ else fb_Rm_line_174  x1 x2 x3 σ)
theorem e_Rm_line_169 {l : Launch} {G : kG} {yf : Int} {σf : kS}  {x1 : Int} {x2 : Int} {x3 : Int} {s0 : Int} {o4 : Option kV} {σ : kS} (h : fb_Rm_line_169  x1 x2 x3 s0 σ = some (some yf, σf)) : Rn l G dm_Rm_line m_Rm_line (kI fun y' σ' => y' = yf ∧ σ' = σf) 169 [some (.inr (9, 0)), some (.inl x1), some (.inl x2), some (.inl x3), o4] [.inl s0] σ := by
  unfold fb_Rm_line_169 at h
  obtain ⟨h1, h⟩ := kg_some h
  refine s_Rm_line_169 h1 (fun c => ?_) (fun c => ?_)
  · rw [if_pos c] at h
    exact e_Rm_line_187  h
  · rw [if_neg c] at h
    exact e_Rm_line_174  h
def fb_Rm_line_161  (x1 : Int) (x2 : Int) (x3 : Int) (σ : kS) : kRes := kbi (f_Rm_seen (σ 9 0 22) σ) fun y σ1 => fb_Rm_line_169  x1 x2 x3 y σ1
theorem e_Rm_line_161 {l : Launch} {G : kG} {yf : Int} {σf : kS}  {x1 : Int} {x2 : Int} {x3 : Int} {o4 : Option kV} {σ : kS} (h : fb_Rm_line_161  x1 x2 x3 σ = some (some yf, σf)) : Rn l G dm_Rm_line m_Rm_line (kI fun y' σ' => y' = yf ∧ σ' = σf) 161 [some (.inr (9, 0)), some (.inl x1), some (.inl x2), some (.inl x3), o4] [] σ := by
  unfold fb_Rm_line_161 at h
  obtain ⟨y, σ1, hc, h⟩ := kbi_some h
  refine s_Rm_line_161  (by decide) (E_Rm_seen hc) (fun y2 σ2 e2 => ?_)
  obtain ⟨rfl, rfl⟩ := e2
  exact e_Rm_line_169  h
def fb_Rm_line_157  (x1 : Int) (x2 : Int) (x3 : Int) (σ : kS) : kRes := kg ((-2147483648 ≤ x3 ∧ x3 < 2147483648)) (if x3 = 0 then fb_Rm_line_161  x1 x2 x3 σ else fb_Rm_line_191  x1 x2 x3 σ)
theorem e_Rm_line_157 {l : Launch} {G : kG} {yf : Int} {σf : kS}  {x1 : Int} {x2 : Int} {x3 : Int} {o4 : Option kV} {σ : kS} (h : fb_Rm_line_157  x1 x2 x3 σ = some (some yf, σf)) : Rn l G dm_Rm_line m_Rm_line (kI fun y' σ' => y' = yf ∧ σ' = σf) 157 [some (.inr (9, 0)), some (.inl x1), some (.inl x2), some (.inl x3), o4] [] σ := by
  unfold fb_Rm_line_157 at h
  obtain ⟨h1, h⟩ := kg_some h
  refine s_Rm_line_157 h1 (fun c => ?_) (fun c => ?_)
  · rw [if_neg c] at h
    exact e_Rm_line_191  h
  · rw [if_pos c] at h
    exact e_Rm_line_161  h
def fb_Rm_line_155  (x1 : Int) (x2 : Int) (x3 : Int) (σ : kS) : kRes := some (some 2, σ)
theorem e_Rm_line_155 {l : Launch} {G : kG} {yf : Int} {σf : kS}  {x1 : Int} {x2 : Int} {x3 : Int} {o4 : Option kV} {σ : kS} (h : fb_Rm_line_155  x1 x2 x3 σ = some (some yf, σf)) : Rn l G dm_Rm_line m_Rm_line (kI fun y' σ' => y' = yf ∧ σ' = σf) 155 [some (.inr (9, 0)), some (.inl x1), some (.inl x2), some (.inl x3), o4] [] σ := by
  unfold fb_Rm_line_155 at h
  simp only [Option.some.injEq, Prod.mk.injEq, true_and] at h
  exact s_Rm_line_155  ⟨_, rfl, h⟩
def fb_Rm_line_147  (x1 : Int) (x2 : Int) (x3 : Int) (σ : kS) : kRes := kbu (f_Rm_place (x2 - 1) 0 σ) fun σ1 => fb_Rm_line_155  x1 x2 x3 σ1
theorem e_Rm_line_147 {l : Launch} {G : kG} {yf : Int} {σf : kS}  {x1 : Int} {x2 : Int} {x3 : Int} {o4 : Option kV} {σ : kS} (h : fb_Rm_line_147  x1 x2 x3 σ = some (some yf, σf)) : Rn l G dm_Rm_line m_Rm_line (kI fun y' σ' => y' = yf ∧ σ' = σf) 147 [some (.inr (9, 0)), some (.inl x1), some (.inl x2), some (.inl x3), o4] [] σ := by
  unfold fb_Rm_line_147 at h
  obtain ⟨σ1, hc, h⟩ := kbu_some h
  refine s_Rm_line_147  (by decide) (E_Rm_place hc) (fun σ2 e2 => ?_)
  subst e2
  exact e_Rm_line_155  h
def fb_Rm_line_136  (x1 : Int) (x2 : Int) (x3 : Int) (σ : kS) : kRes := kg ((-2147483648 ≤ σ 9 0 22 ∧ σ 9 0 22 < 2147483648) ∧ (-2147483648 ≤ σ 9 0 20 ∧ σ 9 0 20 < 2147483648)) (if (σ 9 0 22) = (σ 9 0 20) then fb_Rm_line_147  x1 x2 x3 σ else fb_Rm_line_157  x1 x2 x3 σ)
theorem e_Rm_line_136 {l : Launch} {G : kG} {yf : Int} {σf : kS}  {x1 : Int} {x2 : Int} {x3 : Int} {o4 : Option kV} {σ : kS} (h : fb_Rm_line_136  x1 x2 x3 σ = some (some yf, σf)) : Rn l G dm_Rm_line m_Rm_line (kI fun y' σ' => y' = yf ∧ σ' = σf) 136 [some (.inr (9, 0)), some (.inl x1), some (.inl x2), some (.inl x3), o4] [] σ := by
  unfold fb_Rm_line_136 at h
  obtain ⟨⟨h1, h2⟩, h⟩ := kg_some h
  refine s_Rm_line_136 h1 h2 (fun c => ?_) (fun c => ?_)
  · rw [if_neg c] at h
    exact e_Rm_line_157  h
  · rw [if_pos c] at h
    exact e_Rm_line_147  h
def fb_Rm_line_134  (x1 : Int) (x2 : Int) (x3 : Int) (σ : kS) : kRes := some (some 0, σ)
theorem e_Rm_line_134 {l : Launch} {G : kG} {yf : Int} {σf : kS}  {x1 : Int} {x2 : Int} {x3 : Int} {o4 : Option kV} {σ : kS} (h : fb_Rm_line_134  x1 x2 x3 σ = some (some yf, σf)) : Rn l G dm_Rm_line m_Rm_line (kI fun y' σ' => y' = yf ∧ σ' = σf) 134 [some (.inr (9, 0)), some (.inl x1), some (.inl x2), some (.inl x3), o4] [] σ := by
  unfold fb_Rm_line_134 at h
  simp only [Option.some.injEq, Prod.mk.injEq, true_and] at h
  exact s_Rm_line_134  ⟨_, rfl, h⟩
def fb_Rm_line_124  (x1 : Int) (x2 : Int) (x3 : Int) (σ : kS) : kRes := kg ((-2147483648 ≤ x2 ∧ x2 < 2147483648) ∧ (-2147483648 ≤ σ 22 0 0 ∧ σ 22 0 0 < 2147483648)) (if x2 ≤ (σ 22 0 0) then fb_Rm_line_136  x1 x2 x3 σ else fb_Rm_line_134  x1 x2 x3 σ)
theorem e_Rm_line_124 {l : Launch} {G : kG} {yf : Int} {σf : kS}  {x1 : Int} {x2 : Int} {x3 : Int} {o4 : Option kV} {σ : kS} (h : fb_Rm_line_124  x1 x2 x3 σ = some (some yf, σf)) : Rn l G dm_Rm_line m_Rm_line (kI fun y' σ' => y' = yf ∧ σ' = σf) 124 [some (.inr (9, 0)), some (.inl x1), some (.inl x2), some (.inl x3), o4] [] σ := by
  unfold fb_Rm_line_124 at h
  obtain ⟨⟨h1, h2⟩, h⟩ := kg_some h
  refine s_Rm_line_124 h1 h2 (fun c => ?_) (fun c => ?_)
  · rw [if_pos c] at h
    exact e_Rm_line_136  h
  · rw [if_neg c] at h
    exact e_Rm_line_134  h
def fb_Rm_line_119  (x1 : Int) (x2 : Int) (x3 : Int) (σ : kS) : kRes := kg ((-2147483648 ≤ x2 ∧ x2 < 2147483648) ∧ (-2147483648 ≤ x1 ∧ x1 < 2147483648)) (if x2 < x1 then fb_Rm_line_134  x1 x2 x3 σ else fb_Rm_line_124  x1 x2 x3 σ)
theorem e_Rm_line_119 {l : Launch} {G : kG} {yf : Int} {σf : kS}  {x1 : Int} {x2 : Int} {x3 : Int} {o4 : Option kV} {σ : kS} (h : fb_Rm_line_119  x1 x2 x3 σ = some (some yf, σf)) : Rn l G dm_Rm_line m_Rm_line (kI fun y' σ' => y' = yf ∧ σ' = σf) 119 [some (.inr (9, 0)), some (.inl x1), some (.inl x2), some (.inl x3), o4] [] σ := by
  unfold fb_Rm_line_119 at h
  obtain ⟨⟨h1, h2⟩, h⟩ := kg_some h
  refine s_Rm_line_119 h1 h2 (fun c => ?_) (fun c => ?_)
  · rw [if_pos c] at h
    exact e_Rm_line_134  h
  · rw [if_neg c] at h
    exact e_Rm_line_124  h
def fb_Rm_line_114  (x1 : Int) (x2 : Int) (x3 : Int) (σ : kS) : kRes := kg ((-2147483648 ≤ x1 ∧ x1 < 2147483648)) (if x1 < 1 then fb_Rm_line_134  x1 x2 x3 σ else fb_Rm_line_119  x1 x2 x3 σ)
theorem e_Rm_line_114 {l : Launch} {G : kG} {yf : Int} {σf : kS}  {x1 : Int} {x2 : Int} {x3 : Int} {o4 : Option kV} {σ : kS} (h : fb_Rm_line_114  x1 x2 x3 σ = some (some yf, σf)) : Rn l G dm_Rm_line m_Rm_line (kI fun y' σ' => y' = yf ∧ σ' = σf) 114 [some (.inr (9, 0)), some (.inl x1), some (.inl x2), some (.inl x3), o4] [] σ := by
  unfold fb_Rm_line_114 at h
  obtain ⟨h1, h⟩ := kg_some h
  refine s_Rm_line_114 h1 (fun c => ?_) (fun c => ?_)
  · rw [if_pos c] at h
    exact e_Rm_line_134  h
  · rw [if_neg c] at h
    exact e_Rm_line_119  h
def fb_Rm_line_107  (x1 : Int) (x2 : Int) (x3 : Int) (σ : kS) : kRes := kg ((-2147483648 ≤ σ 9 0 23 ∧ σ 9 0 23 < 2147483648)) (if (σ 9 0 23) = 0 then fb_Rm_line_114  x1 x2 x3 σ else fb_Rm_line_134  x1 x2 x3 σ)
theorem e_Rm_line_107 {l : Launch} {G : kG} {yf : Int} {σf : kS}  {x1 : Int} {x2 : Int} {x3 : Int} {o4 : Option kV} {σ : kS} (h : fb_Rm_line_107  x1 x2 x3 σ = some (some yf, σf)) : Rn l G dm_Rm_line m_Rm_line (kI fun y' σ' => y' = yf ∧ σ' = σf) 107 [some (.inr (9, 0)), some (.inl x1), some (.inl x2), some (.inl x3), o4] [] σ := by
  unfold fb_Rm_line_107 at h
  obtain ⟨h1, h⟩ := kg_some h
  refine s_Rm_line_107 h1 (fun c => ?_) (fun c => ?_)
  · rw [if_neg c] at h
    exact e_Rm_line_134  h
  · rw [if_pos c] at h
    exact e_Rm_line_114  h
def fb_Rm_line_105  (x1 : Int) (x2 : Int) (x3 : Int) (σ : kS) : kRes := fb_Rm_line_107  x1 x2 0 σ
theorem e_Rm_line_105 {l : Launch} {G : kG} {yf : Int} {σf : kS}  {x1 : Int} {x2 : Int} {x3 : Int} {o4 : Option kV} {σ : kS} (h : fb_Rm_line_105  x1 x2 x3 σ = some (some yf, σf)) : Rn l G dm_Rm_line m_Rm_line (kI fun y' σ' => y' = yf ∧ σ' = σf) 105 [some (.inr (9, 0)), some (.inl x1), some (.inl x2), some (.inl x3), o4] [] σ := by
  unfold fb_Rm_line_105 at h
  refine s_Rm_line_105  ?_
  exact e_Rm_line_107  h
def fb_Rm_line_101  (x1 : Int) (x2 : Int) (x3 : Int) (s0 : Int) (σ : kS) : kRes := fb_Rm_line_107  x1 s0 x3 σ
theorem e_Rm_line_101 {l : Launch} {G : kG} {yf : Int} {σf : kS}  {x1 : Int} {x2 : Int} {x3 : Int} {s0 : Int} {o4 : Option kV} {σ : kS} (h : fb_Rm_line_101  x1 x2 x3 s0 σ = some (some yf, σf)) : Rn l G dm_Rm_line m_Rm_line (kI fun y' σ' => y' = yf ∧ σ' = σf) 101 [some (.inr (9, 0)), some (.inl x1), some (.inl x2), some (.inl x3), o4] [.inl s0] σ := by
  unfold fb_Rm_line_101 at h
  refine s_Rm_line_101  ?_
  exact e_Rm_line_107  h
def fb_Rm_line_100  (x1 : Int) (x2 : Int) (x3 : Int) (σ : kS) : kRes := fb_Rm_line_101  x1 x2 x3 x1 σ
theorem e_Rm_line_100 {l : Launch} {G : kG} {yf : Int} {σf : kS}  {x1 : Int} {x2 : Int} {x3 : Int} {o4 : Option kV} {σ : kS} (h : fb_Rm_line_100  x1 x2 x3 σ = some (some yf, σf)) : Rn l G dm_Rm_line m_Rm_line (kI fun y' σ' => y' = yf ∧ σ' = σf) 100 [some (.inr (9, 0)), some (.inl x1), some (.inl x2), some (.inl x3), o4] [] σ := by
  unfold fb_Rm_line_100 at h
  refine s_Rm_line_100  ?_
  exact e_Rm_line_101  h
def fb_Rm_line_97  (x1 : Int) (x2 : Int) (x3 : Int) (s0 : Int) (σ : kS) : kRes := fb_Rm_line_101  x1 x2 x3 s0 σ
theorem e_Rm_line_97 {l : Launch} {G : kG} {yf : Int} {σf : kS}  {x1 : Int} {x2 : Int} {x3 : Int} {s0 : Int} {o4 : Option kV} {σ : kS} (h : fb_Rm_line_97  x1 x2 x3 s0 σ = some (some yf, σf)) : Rn l G dm_Rm_line m_Rm_line (kI fun y' σ' => y' = yf ∧ σ' = σf) 97 [some (.inr (9, 0)), some (.inl x1), some (.inl x2), some (.inl x3), o4] [.inl s0] σ := by
  unfold fb_Rm_line_97 at h
  refine s_Rm_line_97  ?_
  exact e_Rm_line_101  h
def fb_Rm_line_87  (x1 : Int) (x2 : Int) (x3 : Int) (σ : kS) : kRes := kbi (f_Rm_address (σ 23 0 0) σ) fun y σ1 => fb_Rm_line_97  x1 x2 x3 y σ1
theorem e_Rm_line_87 {l : Launch} {G : kG} {yf : Int} {σf : kS}  {x1 : Int} {x2 : Int} {x3 : Int} {o4 : Option kV} {σ : kS} (h : fb_Rm_line_87  x1 x2 x3 σ = some (some yf, σf)) : Rn l G dm_Rm_line m_Rm_line (kI fun y' σ' => y' = yf ∧ σ' = σf) 87 [some (.inr (9, 0)), some (.inl x1), some (.inl x2), some (.inl x3), o4] [] σ := by
  unfold fb_Rm_line_87 at h
  obtain ⟨y, σ1, hc, h⟩ := kbi_some h
  refine s_Rm_line_87  (by decide) (E_Rm_address hc) (fun y2 σ2 e2 => ?_)
  obtain ⟨rfl, rfl⟩ := e2
  exact e_Rm_line_97  h
def fb_Rm_line_84  (x1 : Int) (x2 : Int) (x3 : Int) (s0 : Int) (σ : kS) : kRes := kg ((-2147483648 ≤ s0 ∧ s0 < 2147483648)) (if s0 = 0 then fb_Rm_line_100  x1 x2 x3 σ else fb_Rm_line_87  x1 x2 x3 σ)
theorem e_Rm_line_84 {l : Launch} {G : kG} {yf : Int} {σf : kS}  {x1 : Int} {x2 : Int} {x3 : Int} {s0 : Int} {o4 : Option kV} {σ : kS} (h : fb_Rm_line_84  x1 x2 x3 s0 σ = some (some yf, σf)) : Rn l G dm_Rm_line m_Rm_line (kI fun y' σ' => y' = yf ∧ σ' = σf) 84 [some (.inr (9, 0)), some (.inl x1), some (.inl x2), some (.inl x3), o4] [.inl s0] σ := by
  unfold fb_Rm_line_84 at h
  obtain ⟨h1, h⟩ := kg_some h
  refine s_Rm_line_84 h1 (fun c => ?_) (fun c => ?_)
  · rw [if_pos c] at h
    exact e_Rm_line_100  h
  · rw [if_neg c] at h
    exact e_Rm_line_87  h
def fb_Rm_line_78  (x1 : Int) (x2 : Int) (x3 : Int) (σ : kS) : kRes := kbi (f_Rm_take 44 σ) fun y σ1 => fb_Rm_line_84  x1 x2 x3 y σ1
theorem e_Rm_line_78 {l : Launch} {G : kG} {yf : Int} {σf : kS}  {x1 : Int} {x2 : Int} {x3 : Int} {o4 : Option kV} {σ : kS} (h : fb_Rm_line_78  x1 x2 x3 σ = some (some yf, σf)) : Rn l G dm_Rm_line m_Rm_line (kI fun y' σ' => y' = yf ∧ σ' = σf) 78 [some (.inr (9, 0)), some (.inl x1), some (.inl x2), some (.inl x3), o4] [] σ := by
  unfold fb_Rm_line_78 at h
  obtain ⟨y, σ1, hc, h⟩ := kbi_some h
  refine s_Rm_line_78  (by decide) (E_Rm_take hc) (fun y2 σ2 e2 => ?_)
  obtain ⟨rfl, rfl⟩ := e2
  exact e_Rm_line_84  h
def fb_Rm_line_70  (x1 : Int) (x2 : Int) (x3 : Int) (s0 : Int) (σ : kS) : kRes := kg ((-2147483648 ≤ σ 9 0 23 ∧ σ 9 0 23 < 2147483648)) (if (σ 9 0 23) = 0 then fb_Rm_line_78  s0 x2 x3 σ else fb_Rm_line_100  s0 x2 x3 σ)
theorem e_Rm_line_70 {l : Launch} {G : kG} {yf : Int} {σf : kS}  {x1 : Int} {x2 : Int} {x3 : Int} {s0 : Int} {o4 : Option kV} {σ : kS} (h : fb_Rm_line_70  x1 x2 x3 s0 σ = some (some yf, σf)) : Rn l G dm_Rm_line m_Rm_line (kI fun y' σ' => y' = yf ∧ σ' = σf) 70 [some (.inr (9, 0)), some (.inl x1), some (.inl x2), some (.inl x3), o4] [.inl s0] σ := by
  unfold fb_Rm_line_70 at h
  obtain ⟨h1, h⟩ := kg_some h
  refine s_Rm_line_70 h1 (fun c => ?_) (fun c => ?_)
  · rw [if_neg c] at h
    exact e_Rm_line_100  h
  · rw [if_pos c] at h
    exact e_Rm_line_78  h
def fb_Rm_line_60  (x1 : Int) (x2 : Int) (x3 : Int) (σ : kS) : kRes := kbi (f_Rm_address (σ 23 0 0) σ) fun y σ1 => fb_Rm_line_70  x1 x2 x3 y σ1
theorem e_Rm_line_60 {l : Launch} {G : kG} {yf : Int} {σf : kS}  {x1 : Int} {x2 : Int} {x3 : Int} {o4 : Option kV} {σ : kS} (h : fb_Rm_line_60  x1 x2 x3 σ = some (some yf, σf)) : Rn l G dm_Rm_line m_Rm_line (kI fun y' σ' => y' = yf ∧ σ' = σf) 60 [some (.inr (9, 0)), some (.inl x1), some (.inl x2), some (.inl x3), o4] [] σ := by
  unfold fb_Rm_line_60 at h
  obtain ⟨y, σ1, hc, h⟩ := kbi_some h
  refine s_Rm_line_60  (by decide) (E_Rm_address hc) (fun y2 σ2 e2 => ?_)
  obtain ⟨rfl, rfl⟩ := e2
  exact e_Rm_line_70  h
def fb_Rm_line_57  (x1 : Int) (x2 : Int) (x3 : Int) (s0 : Int) (σ : kS) : kRes := kg ((-2147483648 ≤ s0 ∧ s0 < 2147483648)) (if s0 = 0 then fb_Rm_line_105  x1 x2 x3 σ else fb_Rm_line_60  x1 x2 x3 σ)
theorem e_Rm_line_57 {l : Launch} {G : kG} {yf : Int} {σf : kS}  {x1 : Int} {x2 : Int} {x3 : Int} {s0 : Int} {o4 : Option kV} {σ : kS} (h : fb_Rm_line_57  x1 x2 x3 s0 σ = some (some yf, σf)) : Rn l G dm_Rm_line m_Rm_line (kI fun y' σ' => y' = yf ∧ σ' = σf) 57 [some (.inr (9, 0)), some (.inl x1), some (.inl x2), some (.inl x3), o4] [.inl s0] σ := by
  unfold fb_Rm_line_57 at h
  obtain ⟨h1, h⟩ := kg_some h
  refine s_Rm_line_57 h1 (fun c => ?_) (fun c => ?_)
  · rw [if_pos c] at h
    exact e_Rm_line_105  h
  · rw [if_neg c] at h
    exact e_Rm_line_60  h
def fb_Rm_line_53  (x1 : Int) (x2 : Int) (x3 : Int) (σ : kS) : kRes := kbi (f_Rm_addressed  σ) fun y σ1 => fb_Rm_line_57  x1 x2 x3 y σ1
theorem e_Rm_line_53 {l : Launch} {G : kG} {yf : Int} {σf : kS}  {x1 : Int} {x2 : Int} {x3 : Int} {o4 : Option kV} {σ : kS} (h : fb_Rm_line_53  x1 x2 x3 σ = some (some yf, σf)) : Rn l G dm_Rm_line m_Rm_line (kI fun y' σ' => y' = yf ∧ σ' = σf) 53 [some (.inr (9, 0)), some (.inl x1), some (.inl x2), some (.inl x3), o4] [] σ := by
  unfold fb_Rm_line_53 at h
  obtain ⟨y, σ1, hc, h⟩ := kbi_some h
  refine s_Rm_line_53  (by decide) (E_Rm_addressed hc) (fun y2 σ2 e2 => ?_)
  obtain ⟨rfl, rfl⟩ := e2
  exact e_Rm_line_57  h
def fb_Rm_line_41  (x1 : Int) (x2 : Int) (x3 : Int) (σ : kS) : kRes := fb_Rm_line_107  1 (σ 22 0 0) x3 σ
theorem e_Rm_line_41 {l : Launch} {G : kG} {yf : Int} {σf : kS}  {x1 : Int} {x2 : Int} {x3 : Int} {o4 : Option kV} {σ : kS} (h : fb_Rm_line_41  x1 x2 x3 σ = some (some yf, σf)) : Rn l G dm_Rm_line m_Rm_line (kI fun y' σ' => y' = yf ∧ σ' = σf) 41 [some (.inr (9, 0)), some (.inl x1), some (.inl x2), some (.inl x3), o4] [] σ := by
  unfold fb_Rm_line_41 at h
  refine s_Rm_line_41  ?_
  exact e_Rm_line_107  h
def fb_Rm_line_38  (x1 : Int) (x2 : Int) (x3 : Int) (s0 : Int) (σ : kS) : kRes := kg ((-2147483648 ≤ s0 ∧ s0 < 2147483648)) (if s0 = 0 then fb_Rm_line_53  x1 x2 x3 σ else fb_Rm_line_41  x1 x2 x3 σ)
theorem e_Rm_line_38 {l : Launch} {G : kG} {yf : Int} {σf : kS}  {x1 : Int} {x2 : Int} {x3 : Int} {s0 : Int} {o4 : Option kV} {σ : kS} (h : fb_Rm_line_38  x1 x2 x3 s0 σ = some (some yf, σf)) : Rn l G dm_Rm_line m_Rm_line (kI fun y' σ' => y' = yf ∧ σ' = σf) 38 [some (.inr (9, 0)), some (.inl x1), some (.inl x2), some (.inl x3), o4] [.inl s0] σ := by
  unfold fb_Rm_line_38 at h
  obtain ⟨h1, h⟩ := kg_some h
  refine s_Rm_line_38 h1 (fun c => ?_) (fun c => ?_)
  · rw [if_pos c] at h
    exact e_Rm_line_53  h
  · rw [if_neg c] at h
    exact e_Rm_line_41  h
def fb_Rm_line_19   (σ : kS) : kRes := kbi (f_Rm_take 37 σ) fun y σ1 => fb_Rm_line_38  ((σ 23 0 0) + 1) ((σ 23 0 0) + 1) 1 y σ1
theorem e_Rm_line_19 {l : Launch} {G : kG} {yf : Int} {σf : kS}   {o1 : Option kV} {o2 : Option kV} {o3 : Option kV} {o4 : Option kV} {σ : kS} (h : fb_Rm_line_19   σ = some (some yf, σf)) : Rn l G dm_Rm_line m_Rm_line (kI fun y' σ' => y' = yf ∧ σ' = σf) 19 [some (.inr (9, 0)), o1, o2, o3, o4] [] σ := by
  unfold fb_Rm_line_19 at h
  obtain ⟨y, σ1, hc, h⟩ := kbi_some h
  refine s_Rm_line_19  (by decide) (E_Rm_take hc) (fun y2 σ2 e2 => ?_)
  obtain ⟨rfl, rfl⟩ := e2
  exact e_Rm_line_38  h
def fb_Rm_line_17   (σ : kS) : kRes := some (some 2, σ)
theorem e_Rm_line_17 {l : Launch} {G : kG} {yf : Int} {σf : kS}   {o1 : Option kV} {o2 : Option kV} {o3 : Option kV} {o4 : Option kV} {σ : kS} (h : fb_Rm_line_17   σ = some (some yf, σf)) : Rn l G dm_Rm_line m_Rm_line (kI fun y' σ' => y' = yf ∧ σ' = σf) 17 [some (.inr (9, 0)), o1, o2, o3, o4] [] σ := by
  unfold fb_Rm_line_17 at h
  simp only [Option.some.injEq, Prod.mk.injEq, true_and] at h
  exact s_Rm_line_17  ⟨_, rfl, h⟩
def fb_Rm_line_0   (σ : kS) : kRes := kg ((-2147483648 ≤ (kup (kup σ 9 0 22 0) 9 0 23 0) 9 0 20 ∧ (kup (kup σ 9 0 22 0) 9 0 23 0) 9 0 20 < 2147483648)) (if ((kup (kup σ 9 0 22 0) 9 0 23 0) 9 0 20) = 0 then fb_Rm_line_17  (kup (kup σ 9 0 22 0) 9 0 23 0) else fb_Rm_line_19  (kup (kup σ 9 0 22 0) 9 0 23 0))
theorem e_Rm_line_0 {l : Launch} {G : kG} {yf : Int} {σf : kS}   {o1 : Option kV} {o2 : Option kV} {o3 : Option kV} {o4 : Option kV} {σ : kS} (h : fb_Rm_line_0   σ = some (some yf, σf)) : Rn l G dm_Rm_line m_Rm_line (kI fun y' σ' => y' = yf ∧ σ' = σf) 0 [some (.inr (9, 0)), o1, o2, o3, o4] [] σ := by
  unfold fb_Rm_line_0 at h
  obtain ⟨h1, h⟩ := kg_some h
  refine s_Rm_line_0 h1 (fun c => ?_) (fun c => ?_)
  · rw [if_neg c] at h
    exact e_Rm_line_19  h
  · rw [if_pos c] at h
    exact e_Rm_line_17  h
def f_Rm_line  (σ : kS) : kRes := fb_Rm_line_0  σ
theorem E_Rm_line {l : Launch} {G : kG} {yf : Int} {σf : kS}  {σ : kS} (h : f_Rm_line  σ = some (some yf, σf)) : Call l G dm_Rm_line y_Rm_line m_Rm_line [.inr (9, 0)] σ (kI fun y' σ' => y' = yf ∧ σ' = σf) := by
  unfold f_Rm_line at h
  exact Call.of (by decide +kernel) rfl (Nat.le_of_ble_eq_true rfl) (e_Rm_line_0 h)
/-! Rm_search -/
def fb_Rm_search_127  (x1 : Int) (σ : kS) : kRes := some (some 0, σ)
theorem e_Rm_search_127 {l : Launch} {G : kG} {yf : Int} {σf : kS}  {x1 : Int} {o2 : Option kV} {o3 : Option kV} {o4 : Option kV} {o5 : Option kV} {σ : kS} (h : fb_Rm_search_127  x1 σ = some (some yf, σf)) : Rn l G dm_Rm_search m_Rm_search (kI fun y' σ' => y' = yf ∧ σ' = σf) 127 [some (.inr (9, 0)), some (.inl x1), o2, o3, o4, o5] [] σ := by
  unfold fb_Rm_search_127 at h
  simp only [Option.some.injEq, Prod.mk.injEq, true_and] at h
  exact s_Rm_search_127  ⟨_, rfl, h⟩
def fb_Rm_search_121 (k16 : Int → kS → kRes) (x1 : Int) (x2 : Int) (x3 : Int) (x4 : Int) (x5 : Int) (σ : kS) : kRes := k16 (x1 + 1) σ
theorem e_Rm_search_121 {l : Launch} {G : kG} {yf : Int} {σf : kS} {k16 : Int → kS → kRes} (hk16 : ∀ (x1 : Int) (o2 : Option kV) (o3 : Option kV) (o4 : Option kV) (o5 : Option kV) (σ : kS), k16 x1 σ = some (some yf, σf) → Rn l G dm_Rm_search m_Rm_search (kI fun y' σ' => y' = yf ∧ σ' = σf) 16 [some (.inr (9, 0)), some (.inl x1), o2, o3, o4, o5] [] σ) {x1 : Int} {x2 : Int} {x3 : Int} {x4 : Int} {x5 : Int}  {σ : kS} (h : fb_Rm_search_121 k16 x1 x2 x3 x4 x5 σ = some (some yf, σf)) : Rn l G dm_Rm_search m_Rm_search (kI fun y' σ' => y' = yf ∧ σ' = σf) 121 [some (.inr (9, 0)), some (.inl x1), some (.inl x2), some (.inl x3), some (.inl x4), some (.inl x5)] [] σ := by
  unfold fb_Rm_search_121 at h
  refine s_Rm_search_121  ?_
  exact hk16 _ _ _ _ _ _ h
def fb_Rm_search_115 (k89 : Int → Int → Int → Int → Int → kS → kRes) (x1 : Int) (x2 : Int) (x3 : Int) (x4 : Int) (x5 : Int) (σ : kS) : kRes := k89 x1 x2 x3 x4 (x5 + 1) σ
theorem e_Rm_search_115 {l : Launch} {G : kG} {yf : Int} {σf : kS} {k89 : Int → Int → Int → Int → Int → kS → kRes} (hk89 : ∀ (x1 : Int) (x2 : Int) (x3 : Int) (x4 : Int) (x5 : Int)  (σ : kS), k89 x1 x2 x3 x4 x5 σ = some (some yf, σf) → Rn l G dm_Rm_search m_Rm_search (kI fun y' σ' => y' = yf ∧ σ' = σf) 89 [some (.inr (9, 0)), some (.inl x1), some (.inl x2), some (.inl x3), some (.inl x4), some (.inl x5)] [] σ) {x1 : Int} {x2 : Int} {x3 : Int} {x4 : Int} {x5 : Int}  {σ : kS} (h : fb_Rm_search_115 k89 x1 x2 x3 x4 x5 σ = some (some yf, σf)) : Rn l G dm_Rm_search m_Rm_search (kI fun y' σ' => y' = yf ∧ σ' = σf) 115 [some (.inr (9, 0)), some (.inl x1), some (.inl x2), some (.inl x3), some (.inl x4), some (.inl x5)] [] σ := by
  unfold fb_Rm_search_115 at h
  refine s_Rm_search_115  ?_
  exact hk89 _ _ _ _ _ _ h
def fb_Rm_search_113  (x1 : Int) (x2 : Int) (x3 : Int) (x4 : Int) (x5 : Int) (σ : kS) : kRes := some (some 2, σ)
theorem e_Rm_search_113 {l : Launch} {G : kG} {yf : Int} {σf : kS}  {x1 : Int} {x2 : Int} {x3 : Int} {x4 : Int} {x5 : Int}  {σ : kS} (h : fb_Rm_search_113  x1 x2 x3 x4 x5 σ = some (some yf, σf)) : Rn l G dm_Rm_search m_Rm_search (kI fun y' σ' => y' = yf ∧ σ' = σf) 113 [some (.inr (9, 0)), some (.inl x1), some (.inl x2), some (.inl x3), some (.inl x4), some (.inl x5)] [] σ := by
  unfold fb_Rm_search_113 at h
  simp only [Option.some.injEq, Prod.mk.injEq, true_and] at h
  exact s_Rm_search_113  ⟨_, rfl, h⟩
def fb_Rm_search_106  (x1 : Int) (x2 : Int) (x3 : Int) (x4 : Int) (x5 : Int) (σ : kS) : kRes := kbu (f_Rm_place x2 x5 σ) fun σ1 => fb_Rm_search_113  x1 x2 x3 x4 x5 σ1
theorem e_Rm_search_106 {l : Launch} {G : kG} {yf : Int} {σf : kS}  {x1 : Int} {x2 : Int} {x3 : Int} {x4 : Int} {x5 : Int}  {σ : kS} (h : fb_Rm_search_106  x1 x2 x3 x4 x5 σ = some (some yf, σf)) : Rn l G dm_Rm_search m_Rm_search (kI fun y' σ' => y' = yf ∧ σ' = σf) 106 [some (.inr (9, 0)), some (.inl x1), some (.inl x2), some (.inl x3), some (.inl x4), some (.inl x5)] [] σ := by
  unfold fb_Rm_search_106 at h
  obtain ⟨σ1, hc, h⟩ := kbu_some h
  refine s_Rm_search_106  (by decide) (E_Rm_place hc) (fun σ2 e2 => ?_)
  subst e2
  exact e_Rm_search_113  h
def fb_Rm_search_103 (k89 : Int → Int → Int → Int → Int → kS → kRes) (x1 : Int) (x2 : Int) (x3 : Int) (x4 : Int) (x5 : Int) (s0 : Int) (σ : kS) : kRes := kg ((-2147483648 ≤ s0 ∧ s0 < 2147483648)) (if s0 < 0 then fb_Rm_search_115 k89 x1 x2 x3 x4 x5 σ else fb_Rm_search_106  x1 x2 x3 x4 x5 σ)
theorem e_Rm_search_103 {l : Launch} {G : kG} {yf : Int} {σf : kS} {k89 : Int → Int → Int → Int → Int → kS → kRes} (hk89 : ∀ (x1 : Int) (x2 : Int) (x3 : Int) (x4 : Int) (x5 : Int)  (σ : kS), k89 x1 x2 x3 x4 x5 σ = some (some yf, σf) → Rn l G dm_Rm_search m_Rm_search (kI fun y' σ' => y' = yf ∧ σ' = σf) 89 [some (.inr (9, 0)), some (.inl x1), some (.inl x2), some (.inl x3), some (.inl x4), some (.inl x5)] [] σ) {x1 : Int} {x2 : Int} {x3 : Int} {x4 : Int} {x5 : Int} {s0 : Int}  {σ : kS} (h : fb_Rm_search_103 k89 x1 x2 x3 x4 x5 s0 σ = some (some yf, σf)) : Rn l G dm_Rm_search m_Rm_search (kI fun y' σ' => y' = yf ∧ σ' = σf) 103 [some (.inr (9, 0)), some (.inl x1), some (.inl x2), some (.inl x3), some (.inl x4), some (.inl x5)] [.inl s0] σ := by
  unfold fb_Rm_search_103 at h
  obtain ⟨h1, h⟩ := kg_some h
  refine s_Rm_search_103 h1 (fun c => ?_) (fun c => ?_)
  · rw [if_pos c] at h
    exact e_Rm_search_115 hk89 h
  · rw [if_neg c] at h
    exact e_Rm_search_106  h
def fb_Rm_search_96 (k89 : Int → Int → Int → Int → Int → kS → kRes) (x1 : Int) (x2 : Int) (x3 : Int) (x4 : Int) (x5 : Int) (σ : kS) : kRes := kbi (f_Rm_match x2 x5 σ) fun y σ1 => fb_Rm_search_103 k89 x1 x2 x3 x4 x5 y σ1
theorem e_Rm_search_96 {l : Launch} {G : kG} {yf : Int} {σf : kS} {k89 : Int → Int → Int → Int → Int → kS → kRes} (hk89 : ∀ (x1 : Int) (x2 : Int) (x3 : Int) (x4 : Int) (x5 : Int)  (σ : kS), k89 x1 x2 x3 x4 x5 σ = some (some yf, σf) → Rn l G dm_Rm_search m_Rm_search (kI fun y' σ' => y' = yf ∧ σ' = σf) 89 [some (.inr (9, 0)), some (.inl x1), some (.inl x2), some (.inl x3), some (.inl x4), some (.inl x5)] [] σ) {x1 : Int} {x2 : Int} {x3 : Int} {x4 : Int} {x5 : Int}  {σ : kS} (h : fb_Rm_search_96 k89 x1 x2 x3 x4 x5 σ = some (some yf, σf)) : Rn l G dm_Rm_search m_Rm_search (kI fun y' σ' => y' = yf ∧ σ' = σf) 96 [some (.inr (9, 0)), some (.inl x1), some (.inl x2), some (.inl x3), some (.inl x4), some (.inl x5)] [] σ := by
  unfold fb_Rm_search_96 at h
  obtain ⟨y, σ1, hc, h⟩ := kbi_some h
  refine s_Rm_search_96  (by decide) (E_Rm_match hc) (fun y2 σ2 e2 => ?_)
  obtain ⟨rfl, rfl⟩ := e2
  exact e_Rm_search_103 hk89 h
def fb_Rm_search_89 (k16 : Int → kS → kRes) (k89 : Int → Int → Int → Int → Int → kS → kRes) (x1 : Int) (x2 : Int) (x3 : Int) (x4 : Int) (x5 : Int) (σ : kS) : kRes := kg ((-2147483648 ≤ x5 ∧ x5 < 2147483648) ∧ (-2147483648 ≤ x4 ∧ x4 < 2147483648)) (if x4 < x5 then fb_Rm_search_121 k16 x1 x2 x3 x4 x5 σ else fb_Rm_search_96 k89 x1 x2 x3 x4 x5 σ)
theorem e_Rm_search_89 {l : Launch} {G : kG} {yf : Int} {σf : kS} {k16 : Int → kS → kRes} (hk16 : ∀ (x1 : Int) (o2 : Option kV) (o3 : Option kV) (o4 : Option kV) (o5 : Option kV) (σ : kS), k16 x1 σ = some (some yf, σf) → Rn l G dm_Rm_search m_Rm_search (kI fun y' σ' => y' = yf ∧ σ' = σf) 16 [some (.inr (9, 0)), some (.inl x1), o2, o3, o4, o5] [] σ) {k89 : Int → Int → Int → Int → Int → kS → kRes} (hk89 : ∀ (x1 : Int) (x2 : Int) (x3 : Int) (x4 : Int) (x5 : Int)  (σ : kS), k89 x1 x2 x3 x4 x5 σ = some (some yf, σf) → Rn l G dm_Rm_search m_Rm_search (kI fun y' σ' => y' = yf ∧ σ' = σf) 89 [some (.inr (9, 0)), some (.inl x1), some (.inl x2), some (.inl x3), some (.inl x4), some (.inl x5)] [] σ) {x1 : Int} {x2 : Int} {x3 : Int} {x4 : Int} {x5 : Int}  {σ : kS} (h : fb_Rm_search_89 k16 k89 x1 x2 x3 x4 x5 σ = some (some yf, σf)) : Rn l G dm_Rm_search m_Rm_search (kI fun y' σ' => y' = yf ∧ σ' = σf) 89 [some (.inr (9, 0)), some (.inl x1), some (.inl x2), some (.inl x3), some (.inl x4), some (.inl x5)] [] σ := by
  unfold fb_Rm_search_89 at h
  obtain ⟨⟨h1, h2⟩, h⟩ := kg_some h
  refine s_Rm_search_89 h1 h2 (fun c => ?_) (fun c => ?_)
  · rw [if_pos c] at h
    exact e_Rm_search_121 hk16 h
  · rw [if_neg c] at h
    exact e_Rm_search_96 hk89 h
def fl_Rm_search_89 (k16 : Int → kS → kRes) : Nat → Int → Int → Int → Int → Int → kS → kRes
  | 0, _, _, _, _, _, _ => none
  | n + 1, x1, x2, x3, x4, x5, σ => fb_Rm_search_89 k16 (fl_Rm_search_89 k16 n) x1 x2 x3 x4 x5 σ
theorem el_Rm_search_89 {l : Launch} {G : kG} {yf : Int} {σf : kS} {k16 : Int → kS → kRes} (hk16 : ∀ (x1 : Int) (o2 : Option kV) (o3 : Option kV) (o4 : Option kV) (o5 : Option kV) (σ : kS), k16 x1 σ = some (some yf, σf) → Rn l G dm_Rm_search m_Rm_search (kI fun y' σ' => y' = yf ∧ σ' = σf) 16 [some (.inr (9, 0)), some (.inl x1), o2, o3, o4, o5] [] σ) : ∀ (n : Nat) (x1 : Int) (x2 : Int) (x3 : Int) (x4 : Int) (x5 : Int)  (σ : kS), fl_Rm_search_89 k16 n x1 x2 x3 x4 x5 σ = some (some yf, σf) → Rn l G dm_Rm_search m_Rm_search (kI fun y' σ' => y' = yf ∧ σ' = σf) 89 [some (.inr (9, 0)), some (.inl x1), some (.inl x2), some (.inl x3), some (.inl x4), some (.inl x5)] [] σ := by
  intro n
  induction n with
  | zero => intro x1 x2 x3 x4 x5 σ h; simp only [fl_Rm_search_89] at h; cases h
  | succ n ih => intro x1 x2 x3 x4 x5 σ h; simp only [fl_Rm_search_89] at h; exact e_Rm_search_89 hk16 ih h
def fb_Rm_search_84 (k16 : Int → kS → kRes) (x1 : Int) (x2 : Int) (x3 : Int) (s0 : Int) (σ : kS) : kRes := fl_Rm_search_89 k16 3000 x1 x2 x3 s0 x3 σ
theorem e_Rm_search_84 {l : Launch} {G : kG} {yf : Int} {σf : kS} {k16 : Int → kS → kRes} (hk16 : ∀ (x1 : Int) (o2 : Option kV) (o3 : Option kV) (o4 : Option kV) (o5 : Option kV) (σ : kS), k16 x1 σ = some (some yf, σf) → Rn l G dm_Rm_search m_Rm_search (kI fun y' σ' => y' = yf ∧ σ' = σf) 16 [some (.inr (9, 0)), some (.inl x1), o2, o3, o4, o5] [] σ) {x1 : Int} {x2 : Int} {x3 : Int} {s0 : Int} {o4 : Option kV} {o5 : Option kV} {σ : kS} (h : fb_Rm_search_84 k16 x1 x2 x3 s0 σ = some (some yf, σf)) : Rn l G dm_Rm_search m_Rm_search (kI fun y' σ' => y' = yf ∧ σ' = σf) 84 [some (.inr (9, 0)), some (.inl x1), some (.inl x2), some (.inl x3), o4, o5] [.inl s0] σ := by
  unfold fb_Rm_search_84 at h
  refine s_Rm_search_84  ?_
  exact el_Rm_search_89 hk16 _ _ _ _ _ _ _ h
def fb_Rm_search_78 (k16 : Int → kS → kRes) (x1 : Int) (x2 : Int) (x3 : Int) (σ : kS) : kRes := kg ((0 ≤ x2 ∧ x2 < (100 : Nat))) (fb_Rm_search_84 k16 x1 x2 x3 (σ 21 0 (Int.toNat x2)) σ)
theorem e_Rm_search_78 {l : Launch} {G : kG} {yf : Int} {σf : kS} {k16 : Int → kS → kRes} (hk16 : ∀ (x1 : Int) (o2 : Option kV) (o3 : Option kV) (o4 : Option kV) (o5 : Option kV) (σ : kS), k16 x1 σ = some (some yf, σf) → Rn l G dm_Rm_search m_Rm_search (kI fun y' σ' => y' = yf ∧ σ' = σf) 16 [some (.inr (9, 0)), some (.inl x1), o2, o3, o4, o5] [] σ) {x1 : Int} {x2 : Int} {x3 : Int} {o4 : Option kV} {o5 : Option kV} {σ : kS} (h : fb_Rm_search_78 k16 x1 x2 x3 σ = some (some yf, σf)) : Rn l G dm_Rm_search m_Rm_search (kI fun y' σ' => y' = yf ∧ σ' = σf) 78 [some (.inr (9, 0)), some (.inl x1), some (.inl x2), some (.inl x3), o4, o5] [] σ := by
  unfold fb_Rm_search_78 at h
  obtain ⟨h1, h⟩ := kg_some h
  refine s_Rm_search_78 h1 ?_
  exact e_Rm_search_84 hk16 h
def fb_Rm_search_69 (k16 : Int → kS → kRes) (x1 : Int) (x2 : Int) (x3 : Int) (σ : kS) : kRes := fb_Rm_search_84 k16 x1 x2 x3 (σ 24 0 0) σ
theorem e_Rm_search_69 {l : Launch} {G : kG} {yf : Int} {σf : kS} {k16 : Int → kS → kRes} (hk16 : ∀ (x1 : Int) (o2 : Option kV) (o3 : Option kV) (o4 : Option kV) (o5 : Option kV) (σ : kS), k16 x1 σ = some (some yf, σf) → Rn l G dm_Rm_search m_Rm_search (kI fun y' σ' => y' = yf ∧ σ' = σf) 16 [some (.inr (9, 0)), some (.inl x1), o2, o3, o4, o5] [] σ) {x1 : Int} {x2 : Int} {x3 : Int} {o4 : Option kV} {o5 : Option kV} {σ : kS} (h : fb_Rm_search_69 k16 x1 x2 x3 σ = some (some yf, σf)) : Rn l G dm_Rm_search m_Rm_search (kI fun y' σ' => y' = yf ∧ σ' = σf) 69 [some (.inr (9, 0)), some (.inl x1), some (.inl x2), some (.inl x3), o4, o5] [] σ := by
  unfold fb_Rm_search_69 at h
  refine s_Rm_search_69  ?_
  exact e_Rm_search_84 hk16 h
def fb_Rm_search_58 (k16 : Int → kS → kRes) (x1 : Int) (x2 : Int) (s0 : Int) (σ : kS) : kRes := kg ((-2147483648 ≤ x1 ∧ x1 < 2147483648) ∧ (-2147483648 ≤ σ 22 0 0 ∧ σ 22 0 0 < 2147483648)) (if x1 = (σ 22 0 0) then fb_Rm_search_69 k16 x1 x2 s0 σ else fb_Rm_search_78 k16 x1 x2 s0 σ)
theorem e_Rm_search_58 {l : Launch} {G : kG} {yf : Int} {σf : kS} {k16 : Int → kS → kRes} (hk16 : ∀ (x1 : Int) (o2 : Option kV) (o3 : Option kV) (o4 : Option kV) (o5 : Option kV) (σ : kS), k16 x1 σ = some (some yf, σf) → Rn l G dm_Rm_search m_Rm_search (kI fun y' σ' => y' = yf ∧ σ' = σf) 16 [some (.inr (9, 0)), some (.inl x1), o2, o3, o4, o5] [] σ) {x1 : Int} {x2 : Int} {s0 : Int} {o3 : Option kV} {o4 : Option kV} {o5 : Option kV} {σ : kS} (h : fb_Rm_search_58 k16 x1 x2 s0 σ = some (some yf, σf)) : Rn l G dm_Rm_search m_Rm_search (kI fun y' σ' => y' = yf ∧ σ' = σf) 58 [some (.inr (9, 0)), some (.inl x1), some (.inl x2), o3, o4, o5] [.inl s0] σ := by
  unfold fb_Rm_search_58 at h
  obtain ⟨⟨h1, h2⟩, h⟩ := kg_some h
  refine s_Rm_search_58 h1 h2 (fun c => ?_) (fun c => ?_)
  · rw [if_neg c] at h
    exact e_Rm_search_78 hk16 h
  · rw [if_pos c] at h
    exact e_Rm_search_69 hk16 h
def fb_Rm_search_57 (k16 : Int → kS → kRes) (x1 : Int) (x2 : Int) (σ : kS) : kRes := fb_Rm_search_58 k16 x1 x2 0 σ
theorem e_Rm_search_57 {l : Launch} {G : kG} {yf : Int} {σf : kS} {k16 : Int → kS → kRes} (hk16 : ∀ (x1 : Int) (o2 : Option kV) (o3 : Option kV) (o4 : Option kV) (o5 : Option kV) (σ : kS), k16 x1 σ = some (some yf, σf) → Rn l G dm_Rm_search m_Rm_search (kI fun y' σ' => y' = yf ∧ σ' = σf) 16 [some (.inr (9, 0)), some (.inl x1), o2, o3, o4, o5] [] σ) {x1 : Int} {x2 : Int} {o3 : Option kV} {o4 : Option kV} {o5 : Option kV} {σ : kS} (h : fb_Rm_search_57 k16 x1 x2 σ = some (some yf, σf)) : Rn l G dm_Rm_search m_Rm_search (kI fun y' σ' => y' = yf ∧ σ' = σf) 57 [some (.inr (9, 0)), some (.inl x1), some (.inl x2), o3, o4, o5] [] σ := by
  unfold fb_Rm_search_57 at h
  refine s_Rm_search_57  ?_
  exact e_Rm_search_58 hk16 h
def fb_Rm_search_46 (k16 : Int → kS → kRes) (x1 : Int) (x2 : Int) (σ : kS) : kRes := fb_Rm_search_58 k16 x1 x2 ((σ 24 0 0) + 1) σ
theorem e_Rm_search_46 {l : Launch} {G : kG} {yf : Int} {σf : kS} {k16 : Int → kS → kRes} (hk16 : ∀ (x1 : Int) (o2 : Option kV) (o3 : Option kV) (o4 : Option kV) (o5 : Option kV) (σ : kS), k16 x1 σ = some (some yf, σf) → Rn l G dm_Rm_search m_Rm_search (kI fun y' σ' => y' = yf ∧ σ' = σf) 16 [some (.inr (9, 0)), some (.inl x1), o2, o3, o4, o5] [] σ) {x1 : Int} {x2 : Int} {o3 : Option kV} {o4 : Option kV} {o5 : Option kV} {σ : kS} (h : fb_Rm_search_46 k16 x1 x2 σ = some (some yf, σf)) : Rn l G dm_Rm_search m_Rm_search (kI fun y' σ' => y' = yf ∧ σ' = σf) 46 [some (.inr (9, 0)), some (.inl x1), some (.inl x2), o3, o4, o5] [] σ := by
  unfold fb_Rm_search_46 at h
  refine s_Rm_search_46  ?_
  exact e_Rm_search_58 hk16 h
def fb_Rm_search_26 (k16 : Int → kS → kRes) (x1 : Int) (σ : kS) : kRes := kg (¬ Int32.ofInt (σ 22 0 0) = 0 ∧ (-2147483648 ≤ x1 ∧ x1 < 2147483648)) (if x1 = 0 then fb_Rm_search_46 k16 x1 (kmod ((σ 23 0 0) + x1) (σ 22 0 0)) σ else fb_Rm_search_57 k16 x1 (kmod ((σ 23 0 0) + x1) (σ 22 0 0)) σ)
theorem e_Rm_search_26 {l : Launch} {G : kG} {yf : Int} {σf : kS} {k16 : Int → kS → kRes} (hk16 : ∀ (x1 : Int) (o2 : Option kV) (o3 : Option kV) (o4 : Option kV) (o5 : Option kV) (σ : kS), k16 x1 σ = some (some yf, σf) → Rn l G dm_Rm_search m_Rm_search (kI fun y' σ' => y' = yf ∧ σ' = σf) 16 [some (.inr (9, 0)), some (.inl x1), o2, o3, o4, o5] [] σ) {x1 : Int} {o2 : Option kV} {o3 : Option kV} {o4 : Option kV} {o5 : Option kV} {σ : kS} (h : fb_Rm_search_26 k16 x1 σ = some (some yf, σf)) : Rn l G dm_Rm_search m_Rm_search (kI fun y' σ' => y' = yf ∧ σ' = σf) 26 [some (.inr (9, 0)), some (.inl x1), o2, o3, o4, o5] [] σ := by
  unfold fb_Rm_search_26 at h
  obtain ⟨⟨h1, h2⟩, h⟩ := kg_some h
  refine s_Rm_search_26 h1 h2 (fun c => ?_) (fun c => ?_)
  · rw [if_neg c] at h
    exact e_Rm_search_57 hk16 h
  · rw [if_pos c] at h
    exact e_Rm_search_46 hk16 h
def fb_Rm_search_16 (k16 : Int → kS → kRes) (x1 : Int) (σ : kS) : kRes := kg ((-2147483648 ≤ x1 ∧ x1 < 2147483648) ∧ (-2147483648 ≤ σ 22 0 0 ∧ σ 22 0 0 < 2147483648)) (if (σ 22 0 0) < x1 then fb_Rm_search_127  x1 σ else fb_Rm_search_26 k16 x1 σ)
theorem e_Rm_search_16 {l : Launch} {G : kG} {yf : Int} {σf : kS} {k16 : Int → kS → kRes} (hk16 : ∀ (x1 : Int) (o2 : Option kV) (o3 : Option kV) (o4 : Option kV) (o5 : Option kV) (σ : kS), k16 x1 σ = some (some yf, σf) → Rn l G dm_Rm_search m_Rm_search (kI fun y' σ' => y' = yf ∧ σ' = σf) 16 [some (.inr (9, 0)), some (.inl x1), o2, o3, o4, o5] [] σ) {x1 : Int} {o2 : Option kV} {o3 : Option kV} {o4 : Option kV} {o5 : Option kV} {σ : kS} (h : fb_Rm_search_16 k16 x1 σ = some (some yf, σf)) : Rn l G dm_Rm_search m_Rm_search (kI fun y' σ' => y' = yf ∧ σ' = σf) 16 [some (.inr (9, 0)), some (.inl x1), o2, o3, o4, o5] [] σ := by
  unfold fb_Rm_search_16 at h
  obtain ⟨⟨h1, h2⟩, h⟩ := kg_some h
  refine s_Rm_search_16 h1 h2 (fun c => ?_) (fun c => ?_)
  · rw [if_pos c] at h
    exact e_Rm_search_127  h
  · rw [if_neg c] at h
    exact e_Rm_search_26 hk16 h
def fl_Rm_search_16  : Nat → Int → kS → kRes
  | 0, _, _ => none
  | n + 1, x1, σ => fb_Rm_search_16 (fl_Rm_search_16  n) x1 σ
theorem el_Rm_search_16 {l : Launch} {G : kG} {yf : Int} {σf : kS}  : ∀ (n : Nat) (x1 : Int) (o2 : Option kV) (o3 : Option kV) (o4 : Option kV) (o5 : Option kV) (σ : kS), fl_Rm_search_16  n x1 σ = some (some yf, σf) → Rn l G dm_Rm_search m_Rm_search (kI fun y' σ' => y' = yf ∧ σ' = σf) 16 [some (.inr (9, 0)), some (.inl x1), o2, o3, o4, o5] [] σ := by
  intro n
  induction n with
  | zero => intro x1 o2 o3 o4 o5 σ h; simp only [fl_Rm_search_16] at h; cases h
  | succ n ih => intro x1 o2 o3 o4 o5 σ h; simp only [fl_Rm_search_16] at h; exact e_Rm_search_16 ih h
def fb_Rm_search_14   (σ : kS) : kRes := fl_Rm_search_16  3000 0 σ
theorem e_Rm_search_14 {l : Launch} {G : kG} {yf : Int} {σf : kS}   {o1 : Option kV} {o2 : Option kV} {o3 : Option kV} {o4 : Option kV} {o5 : Option kV} {σ : kS} (h : fb_Rm_search_14   σ = some (some yf, σf)) : Rn l G dm_Rm_search m_Rm_search (kI fun y' σ' => y' = yf ∧ σ' = σf) 14 [some (.inr (9, 0)), o1, o2, o3, o4, o5] [] σ := by
  unfold fb_Rm_search_14 at h
  refine s_Rm_search_14  ?_
  exact el_Rm_search_16  _ _ _ _ _ _ _ h
def fb_Rm_search_12   (σ : kS) : kRes := some (some 0, σ)
theorem e_Rm_search_12 {l : Launch} {G : kG} {yf : Int} {σf : kS}   {o1 : Option kV} {o2 : Option kV} {o3 : Option kV} {o4 : Option kV} {o5 : Option kV} {σ : kS} (h : fb_Rm_search_12   σ = some (some yf, σf)) : Rn l G dm_Rm_search m_Rm_search (kI fun y' σ' => y' = yf ∧ σ' = σf) 12 [some (.inr (9, 0)), o1, o2, o3, o4, o5] [] σ := by
  unfold fb_Rm_search_12 at h
  simp only [Option.some.injEq, Prod.mk.injEq, true_and] at h
  exact s_Rm_search_12  ⟨_, rfl, h⟩
def fb_Rm_search_9  (s0 : Int) (σ : kS) : kRes := kg ((-2147483648 ≤ s0 ∧ s0 < 2147483648)) (if s0 = 0 then fb_Rm_search_12  σ else fb_Rm_search_14  σ)
theorem e_Rm_search_9 {l : Launch} {G : kG} {yf : Int} {σf : kS}  {s0 : Int} {o1 : Option kV} {o2 : Option kV} {o3 : Option kV} {o4 : Option kV} {o5 : Option kV} {σ : kS} (h : fb_Rm_search_9  s0 σ = some (some yf, σf)) : Rn l G dm_Rm_search m_Rm_search (kI fun y' σ' => y' = yf ∧ σ' = σf) 9 [some (.inr (9, 0)), o1, o2, o3, o4, o5] [.inl s0] σ := by
  unfold fb_Rm_search_9 at h
  obtain ⟨h1, h⟩ := kg_some h
  refine s_Rm_search_9 h1 (fun c => ?_) (fun c => ?_)
  · rw [if_neg c] at h
    exact e_Rm_search_14  h
  · rw [if_pos c] at h
    exact e_Rm_search_12  h
def fb_Rm_search_0   (σ : kS) : kRes := kbi (f_Rm_pattern 0 (σ 9 0 20) σ) fun y σ1 => fb_Rm_search_9  y σ1
theorem e_Rm_search_0 {l : Launch} {G : kG} {yf : Int} {σf : kS}   {o1 : Option kV} {o2 : Option kV} {o3 : Option kV} {o4 : Option kV} {o5 : Option kV} {σ : kS} (h : fb_Rm_search_0   σ = some (some yf, σf)) : Rn l G dm_Rm_search m_Rm_search (kI fun y' σ' => y' = yf ∧ σ' = σf) 0 [some (.inr (9, 0)), o1, o2, o3, o4, o5] [] σ := by
  unfold fb_Rm_search_0 at h
  obtain ⟨y, σ1, hc, h⟩ := kbi_some h
  refine s_Rm_search_0  (by decide) (E_Rm_pattern hc) (fun y2 σ2 e2 => ?_)
  obtain ⟨rfl, rfl⟩ := e2
  exact e_Rm_search_9  h
def f_Rm_search  (σ : kS) : kRes := fb_Rm_search_0  σ
theorem E_Rm_search {l : Launch} {G : kG} {yf : Int} {σf : kS}  {σ : kS} (h : f_Rm_search  σ = some (some yf, σf)) : Call l G dm_Rm_search y_Rm_search m_Rm_search [.inr (9, 0)] σ (kI fun y' σ' => y' = yf ∧ σ' = σf) := by
  unfold f_Rm_search at h
  exact Call.of (by decide +kernel) rfl (Nat.le_of_ble_eq_true rfl) (e_Rm_search_0 h)
