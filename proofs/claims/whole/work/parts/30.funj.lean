/-! Rm_motion -/
def fb_Rm_motion_304  (x1 : Int) (x2 : Int) (x3 : Int) (x4 : Int) (x5 : Int) (x6 : Int) (s0 : Int) (σ : kS) : kRes := kg ((s0 = 0 ∨ s0 = 1)) (some (some s0, σ))
theorem e_Rm_motion_304 {l : Launch} {G : kG} {yf : Int} {σf : kS}  {x1 : Int} {x2 : Int} {x3 : Int} {x4 : Int} {x5 : Int} {x6 : Int} {s0 : Int}  {σ : kS} (h : fb_Rm_motion_304  x1 x2 x3 x4 x5 x6 s0 σ = some (some yf, σf)) : Rn l G dm_Rm_motion m_Rm_motion (kI fun y' σ' => y' = yf ∧ σ' = σf) 304 [some (.inr (9, 0)), some (.inl x1), some (.inl x2), some (.inl x3), some (.inl x4), some (.inl x5), some (.inl x6)] [.inl s0] σ := by
  unfold fb_Rm_motion_304 at h
  obtain ⟨h1, h⟩ := kg_some h
  simp only [Option.some.injEq, Prod.mk.injEq, true_and] at h
  exact s_Rm_motion_304 h1 ⟨_, rfl, h⟩
def fb_Rm_motion_303  (x1 : Int) (x2 : Int) (x3 : Int) (x4 : Int) (x5 : Int) (x6 : Int) (σ : kS) : kRes := fb_Rm_motion_304  x1 x2 x3 x4 x5 x6 0 σ
theorem e_Rm_motion_303 {l : Launch} {G : kG} {yf : Int} {σf : kS}  {x1 : Int} {x2 : Int} {x3 : Int} {x4 : Int} {x5 : Int} {x6 : Int}  {σ : kS} (h : fb_Rm_motion_303  x1 x2 x3 x4 x5 x6 σ = some (some yf, σf)) : Rn l G dm_Rm_motion m_Rm_motion (kI fun y' σ' => y' = yf ∧ σ' = σf) 303 [some (.inr (9, 0)), some (.inl x1), some (.inl x2), some (.inl x3), some (.inl x4), some (.inl x5), some (.inl x6)] [] σ := by
  unfold fb_Rm_motion_303 at h
  refine s_Rm_motion_303  ?_
  exact e_Rm_motion_304  h
def fb_Rm_motion_299  (x1 : Int) (x2 : Int) (x3 : Int) (x4 : Int) (x5 : Int) (x6 : Int) (σ : kS) : kRes := fb_Rm_motion_304  x1 x2 x3 x4 x5 x6 1 σ
theorem e_Rm_motion_299 {l : Launch} {G : kG} {yf : Int} {σf : kS}  {x1 : Int} {x2 : Int} {x3 : Int} {x4 : Int} {x5 : Int} {x6 : Int}  {σ : kS} (h : fb_Rm_motion_299  x1 x2 x3 x4 x5 x6 σ = some (some yf, σf)) : Rn l G dm_Rm_motion m_Rm_motion (kI fun y' σ' => y' = yf ∧ σ' = σf) 299 [some (.inr (9, 0)), some (.inl x1), some (.inl x2), some (.inl x3), some (.inl x4), some (.inl x5), some (.inl x6)] [] σ := by
  unfold fb_Rm_motion_299 at h
  refine s_Rm_motion_299  ?_
  exact e_Rm_motion_304  h
def fb_Rm_motion_286  (x1 : Int) (x2 : Int) (x3 : Int) (x4 : Int) (x5 : Int) (x6 : Int) (σ : kS) : kRes := kg ((-2147483648 ≤ σ 9 0 16 ∧ σ 9 0 16 < 2147483648) ∧ (-2147483648 ≤ σ 22 0 0 ∧ σ 22 0 0 < 2147483648)) (if (σ 22 0 0) ≤ (σ 9 0 16) then fb_Rm_motion_303  x1 x2 x3 x4 x5 x6 σ else fb_Rm_motion_299  x1 x2 x3 x4 x5 x6 σ)
theorem e_Rm_motion_286 {l : Launch} {G : kG} {yf : Int} {σf : kS}  {x1 : Int} {x2 : Int} {x3 : Int} {x4 : Int} {x5 : Int} {x6 : Int}  {σ : kS} (h : fb_Rm_motion_286  x1 x2 x3 x4 x5 x6 σ = some (some yf, σf)) : Rn l G dm_Rm_motion m_Rm_motion (kI fun y' σ' => y' = yf ∧ σ' = σf) 286 [some (.inr (9, 0)), some (.inl x1), some (.inl x2), some (.inl x3), some (.inl x4), some (.inl x5), some (.inl x6)] [] σ := by
  unfold fb_Rm_motion_286 at h
  obtain ⟨⟨h1, h2⟩, h⟩ := kg_some h
  refine s_Rm_motion_286 h1 h2 (fun c => ?_) (fun c => ?_)
  · rw [if_pos c] at h
    exact e_Rm_motion_303  h
  · rw [if_neg c] at h
    exact e_Rm_motion_299  h
def fb_Rm_motion_279  (x1 : Int) (x2 : Int) (x3 : Int) (x4 : Int) (x5 : Int) (x6 : Int) (σ : kS) : kRes := kg ((-2147483648 ≤ σ 9 0 16 ∧ σ 9 0 16 < 2147483648)) (if (σ 9 0 16) < 0 then fb_Rm_motion_303  x1 x2 x3 x4 x5 x6 σ else fb_Rm_motion_286  x1 x2 x3 x4 x5 x6 σ)
theorem e_Rm_motion_279 {l : Launch} {G : kG} {yf : Int} {σf : kS}  {x1 : Int} {x2 : Int} {x3 : Int} {x4 : Int} {x5 : Int} {x6 : Int}  {σ : kS} (h : fb_Rm_motion_279  x1 x2 x3 x4 x5 x6 σ = some (some yf, σf)) : Rn l G dm_Rm_motion m_Rm_motion (kI fun y' σ' => y' = yf ∧ σ' = σf) 279 [some (.inr (9, 0)), some (.inl x1), some (.inl x2), some (.inl x3), some (.inl x4), some (.inl x5), some (.inl x6)] [] σ := by
  unfold fb_Rm_motion_279 at h
  obtain ⟨h1, h⟩ := kg_some h
  refine s_Rm_motion_279 h1 (fun c => ?_) (fun c => ?_)
  · rw [if_pos c] at h
    exact e_Rm_motion_303  h
  · rw [if_neg c] at h
    exact e_Rm_motion_286  h
def fb_Rm_motion_272  (x1 : Int) (x2 : Int) (x3 : Int) (x4 : Int) (x5 : Int) (s0 : Int) (σ : kS) : kRes := kg ((-2147483648 ≤ s0 ∧ s0 < 2147483648)) (if s0 = 0 then fb_Rm_motion_303  x1 x2 x3 x4 x5 s0 σ else fb_Rm_motion_279  x1 x2 x3 x4 x5 s0 σ)
theorem e_Rm_motion_272 {l : Launch} {G : kG} {yf : Int} {σf : kS}  {x1 : Int} {x2 : Int} {x3 : Int} {x4 : Int} {x5 : Int} {s0 : Int} {o6 : Option kV} {σ : kS} (h : fb_Rm_motion_272  x1 x2 x3 x4 x5 s0 σ = some (some yf, σf)) : Rn l G dm_Rm_motion m_Rm_motion (kI fun y' σ' => y' = yf ∧ σ' = σf) 272 [some (.inr (9, 0)), some (.inl x1), some (.inl x2), some (.inl x3), some (.inl x4), some (.inl x5), o6] [.inl s0] σ := by
  unfold fb_Rm_motion_272 at h
  obtain ⟨h1, h⟩ := kg_some h
  refine s_Rm_motion_272 h1 (fun c => ?_) (fun c => ?_)
  · rw [if_pos c] at h
    exact e_Rm_motion_303  h
  · rw [if_neg c] at h
    exact e_Rm_motion_279  h
def fb_Rm_motion_271  (x1 : Int) (x2 : Int) (x3 : Int) (x4 : Int) (x5 : Int) (σ : kS) : kRes := fb_Rm_motion_272  x1 x2 x3 x4 x5 0 σ
theorem e_Rm_motion_271 {l : Launch} {G : kG} {yf : Int} {σf : kS}  {x1 : Int} {x2 : Int} {x3 : Int} {x4 : Int} {x5 : Int} {o6 : Option kV} {σ : kS} (h : fb_Rm_motion_271  x1 x2 x3 x4 x5 σ = some (some yf, σf)) : Rn l G dm_Rm_motion m_Rm_motion (kI fun y' σ' => y' = yf ∧ σ' = σf) 271 [some (.inr (9, 0)), some (.inl x1), some (.inl x2), some (.inl x3), some (.inl x4), some (.inl x5), o6] [] σ := by
  unfold fb_Rm_motion_271 at h
  refine s_Rm_motion_271  ?_
  exact e_Rm_motion_272  h
def fb_Rm_motion_267  (x1 : Int) (x2 : Int) (x3 : Int) (x4 : Int) (x5 : Int) (σ : kS) : kRes := fb_Rm_motion_272  x1 x2 x3 x4 x5 1 σ
theorem e_Rm_motion_267 {l : Launch} {G : kG} {yf : Int} {σf : kS}  {x1 : Int} {x2 : Int} {x3 : Int} {x4 : Int} {x5 : Int} {o6 : Option kV} {σ : kS} (h : fb_Rm_motion_267  x1 x2 x3 x4 x5 σ = some (some yf, σf)) : Rn l G dm_Rm_motion m_Rm_motion (kI fun y' σ' => y' = yf ∧ σ' = σf) 267 [some (.inr (9, 0)), some (.inl x1), some (.inl x2), some (.inl x3), some (.inl x4), some (.inl x5), o6] [] σ := by
  unfold fb_Rm_motion_267 at h
  refine s_Rm_motion_267  ?_
  exact e_Rm_motion_272  h
def fb_Rm_motion_261  (x1 : Int) (x2 : Int) (x3 : Int) (x4 : Int) (x5 : Int) (σ : kS) : kRes := kg ((-2147483648 ≤ x1 ∧ x1 < 2147483648)) (if x1 = 36 then fb_Rm_motion_267  x1 x2 x3 x4 x5 σ else fb_Rm_motion_271  x1 x2 x3 x4 x5 σ)
theorem e_Rm_motion_261 {l : Launch} {G : kG} {yf : Int} {σf : kS}  {x1 : Int} {x2 : Int} {x3 : Int} {x4 : Int} {x5 : Int} {o6 : Option kV} {σ : kS} (h : fb_Rm_motion_261  x1 x2 x3 x4 x5 σ = some (some yf, σf)) : Rn l G dm_Rm_motion m_Rm_motion (kI fun y' σ' => y' = yf ∧ σ' = σf) 261 [some (.inr (9, 0)), some (.inl x1), some (.inl x2), some (.inl x3), some (.inl x4), some (.inl x5), o6] [] σ := by
  unfold fb_Rm_motion_261 at h
  obtain ⟨h1, h⟩ := kg_some h
  refine s_Rm_motion_261 h1 (fun c => ?_) (fun c => ?_)
  · rw [if_neg c] at h
    exact e_Rm_motion_271  h
  · rw [if_pos c] at h
    exact e_Rm_motion_267  h
def fb_Rm_motion_255  (x1 : Int) (x2 : Int) (x3 : Int) (x4 : Int) (x5 : Int) (σ : kS) : kRes := kg ((-2147483648 ≤ x1 ∧ x1 < 2147483648)) (if x1 = 48 then fb_Rm_motion_267  x1 x2 x3 x4 x5 σ else fb_Rm_motion_261  x1 x2 x3 x4 x5 σ)
theorem e_Rm_motion_255 {l : Launch} {G : kG} {yf : Int} {σf : kS}  {x1 : Int} {x2 : Int} {x3 : Int} {x4 : Int} {x5 : Int} {o6 : Option kV} {σ : kS} (h : fb_Rm_motion_255  x1 x2 x3 x4 x5 σ = some (some yf, σf)) : Rn l G dm_Rm_motion m_Rm_motion (kI fun y' σ' => y' = yf ∧ σ' = σf) 255 [some (.inr (9, 0)), some (.inl x1), some (.inl x2), some (.inl x3), some (.inl x4), some (.inl x5), o6] [] σ := by
  unfold fb_Rm_motion_255 at h
  obtain ⟨h1, h⟩ := kg_some h
  refine s_Rm_motion_255 h1 (fun c => ?_) (fun c => ?_)
  · rw [if_pos c] at h
    exact e_Rm_motion_267  h
  · rw [if_neg c] at h
    exact e_Rm_motion_261  h
def fb_Rm_motion_249  (x1 : Int) (x2 : Int) (x3 : Int) (x4 : Int) (x5 : Int) (σ : kS) : kRes := kg ((-2147483648 ≤ x1 ∧ x1 < 2147483648)) (if x1 = 71 then fb_Rm_motion_267  x1 x2 x3 x4 x5 σ else fb_Rm_motion_255  x1 x2 x3 x4 x5 σ)
theorem e_Rm_motion_249 {l : Launch} {G : kG} {yf : Int} {σf : kS}  {x1 : Int} {x2 : Int} {x3 : Int} {x4 : Int} {x5 : Int} {o6 : Option kV} {σ : kS} (h : fb_Rm_motion_249  x1 x2 x3 x4 x5 σ = some (some yf, σf)) : Rn l G dm_Rm_motion m_Rm_motion (kI fun y' σ' => y' = yf ∧ σ' = σf) 249 [some (.inr (9, 0)), some (.inl x1), some (.inl x2), some (.inl x3), some (.inl x4), some (.inl x5), o6] [] σ := by
  unfold fb_Rm_motion_249 at h
  obtain ⟨h1, h⟩ := kg_some h
  refine s_Rm_motion_249 h1 (fun c => ?_) (fun c => ?_)
  · rw [if_pos c] at h
    exact e_Rm_motion_267  h
  · rw [if_neg c] at h
    exact e_Rm_motion_255  h
def fb_Rm_motion_243  (x1 : Int) (x2 : Int) (x3 : Int) (x4 : Int) (x5 : Int) (σ : kS) : kRes := kg ((-2147483648 ≤ x1 ∧ x1 < 2147483648)) (if x1 = 107 then fb_Rm_motion_267  x1 x2 x3 x4 x5 σ else fb_Rm_motion_249  x1 x2 x3 x4 x5 σ)
theorem e_Rm_motion_243 {l : Launch} {G : kG} {yf : Int} {σf : kS}  {x1 : Int} {x2 : Int} {x3 : Int} {x4 : Int} {x5 : Int} {o6 : Option kV} {σ : kS} (h : fb_Rm_motion_243  x1 x2 x3 x4 x5 σ = some (some yf, σf)) : Rn l G dm_Rm_motion m_Rm_motion (kI fun y' σ' => y' = yf ∧ σ' = σf) 243 [some (.inr (9, 0)), some (.inl x1), some (.inl x2), some (.inl x3), some (.inl x4), some (.inl x5), o6] [] σ := by
  unfold fb_Rm_motion_243 at h
  obtain ⟨h1, h⟩ := kg_some h
  refine s_Rm_motion_243 h1 (fun c => ?_) (fun c => ?_)
  · rw [if_pos c] at h
    exact e_Rm_motion_267  h
  · rw [if_neg c] at h
    exact e_Rm_motion_249  h
def fb_Rm_motion_237  (x1 : Int) (x2 : Int) (x3 : Int) (x4 : Int) (x5 : Int) (σ : kS) : kRes := kg ((-2147483648 ≤ x1 ∧ x1 < 2147483648)) (if x1 = 106 then fb_Rm_motion_267  x1 x2 x3 x4 x5 σ else fb_Rm_motion_243  x1 x2 x3 x4 x5 σ)
theorem e_Rm_motion_237 {l : Launch} {G : kG} {yf : Int} {σf : kS}  {x1 : Int} {x2 : Int} {x3 : Int} {x4 : Int} {x5 : Int} {o6 : Option kV} {σ : kS} (h : fb_Rm_motion_237  x1 x2 x3 x4 x5 σ = some (some yf, σf)) : Rn l G dm_Rm_motion m_Rm_motion (kI fun y' σ' => y' = yf ∧ σ' = σf) 237 [some (.inr (9, 0)), some (.inl x1), some (.inl x2), some (.inl x3), some (.inl x4), some (.inl x5), o6] [] σ := by
  unfold fb_Rm_motion_237 at h
  obtain ⟨h1, h⟩ := kg_some h
  refine s_Rm_motion_237 h1 (fun c => ?_) (fun c => ?_)
  · rw [if_pos c] at h
    exact e_Rm_motion_267  h
  · rw [if_neg c] at h
    exact e_Rm_motion_243  h
def fb_Rm_motion_231  (x1 : Int) (x2 : Int) (x3 : Int) (x4 : Int) (x5 : Int) (σ : kS) : kRes := fb_Rm_motion_237  x1 x2 x3 x4 x5 (kup σ 9 0 17 x5)
theorem e_Rm_motion_231 {l : Launch} {G : kG} {yf : Int} {σf : kS}  {x1 : Int} {x2 : Int} {x3 : Int} {x4 : Int} {x5 : Int} {o6 : Option kV} {σ : kS} (h : fb_Rm_motion_231  x1 x2 x3 x4 x5 σ = some (some yf, σf)) : Rn l G dm_Rm_motion m_Rm_motion (kI fun y' σ' => y' = yf ∧ σ' = σf) 231 [some (.inr (9, 0)), some (.inl x1), some (.inl x2), some (.inl x3), some (.inl x4), some (.inl x5), o6] [] σ := by
  unfold fb_Rm_motion_231 at h
  refine s_Rm_motion_231  ?_
  exact e_Rm_motion_237  h
def fb_Rm_motion_225  (x1 : Int) (x2 : Int) (x3 : Int) (x4 : Int) (x5 : Int) (σ : kS) : kRes := kg ((-2147483648 ≤ x1 ∧ x1 < 2147483648)) (if x1 = 36 then fb_Rm_motion_231  x1 x2 x3 x4 x5 σ else fb_Rm_motion_237  x1 x2 x3 x4 x5 σ)
theorem e_Rm_motion_225 {l : Launch} {G : kG} {yf : Int} {σf : kS}  {x1 : Int} {x2 : Int} {x3 : Int} {x4 : Int} {x5 : Int} {o6 : Option kV} {σ : kS} (h : fb_Rm_motion_225  x1 x2 x3 x4 x5 σ = some (some yf, σf)) : Rn l G dm_Rm_motion m_Rm_motion (kI fun y' σ' => y' = yf ∧ σ' = σf) 225 [some (.inr (9, 0)), some (.inl x1), some (.inl x2), some (.inl x3), some (.inl x4), some (.inl x5), o6] [] σ := by
  unfold fb_Rm_motion_225 at h
  obtain ⟨h1, h⟩ := kg_some h
  refine s_Rm_motion_225 h1 (fun c => ?_) (fun c => ?_)
  · rw [if_neg c] at h
    exact e_Rm_motion_237  h
  · rw [if_pos c] at h
    exact e_Rm_motion_231  h
def fb_Rm_motion_220  (x1 : Int) (x2 : Int) (x3 : Int) (x4 : Int) (x5 : Int) (σ : kS) : kRes := fb_Rm_motion_225  x1 x2 x3 x4 x5 (kup σ 9 0 17 0)
theorem e_Rm_motion_220 {l : Launch} {G : kG} {yf : Int} {σf : kS}  {x1 : Int} {x2 : Int} {x3 : Int} {x4 : Int} {x5 : Int} {o6 : Option kV} {σ : kS} (h : fb_Rm_motion_220  x1 x2 x3 x4 x5 σ = some (some yf, σf)) : Rn l G dm_Rm_motion m_Rm_motion (kI fun y' σ' => y' = yf ∧ σ' = σf) 220 [some (.inr (9, 0)), some (.inl x1), some (.inl x2), some (.inl x3), some (.inl x4), some (.inl x5), o6] [] σ := by
  unfold fb_Rm_motion_220 at h
  refine s_Rm_motion_220  ?_
  exact e_Rm_motion_225  h
def fb_Rm_motion_214  (x1 : Int) (x2 : Int) (x3 : Int) (x4 : Int) (x5 : Int) (σ : kS) : kRes := kg ((-2147483648 ≤ x1 ∧ x1 < 2147483648)) (if x1 = 48 then fb_Rm_motion_220  x1 x2 x3 x4 x5 σ else fb_Rm_motion_225  x1 x2 x3 x4 x5 σ)
theorem e_Rm_motion_214 {l : Launch} {G : kG} {yf : Int} {σf : kS}  {x1 : Int} {x2 : Int} {x3 : Int} {x4 : Int} {x5 : Int} {o6 : Option kV} {σ : kS} (h : fb_Rm_motion_214  x1 x2 x3 x4 x5 σ = some (some yf, σf)) : Rn l G dm_Rm_motion m_Rm_motion (kI fun y' σ' => y' = yf ∧ σ' = σf) 214 [some (.inr (9, 0)), some (.inl x1), some (.inl x2), some (.inl x3), some (.inl x4), some (.inl x5), o6] [] σ := by
  unfold fb_Rm_motion_214 at h
  obtain ⟨h1, h⟩ := kg_some h
  refine s_Rm_motion_214 h1 (fun c => ?_) (fun c => ?_)
  · rw [if_neg c] at h
    exact e_Rm_motion_225  h
  · rw [if_pos c] at h
    exact e_Rm_motion_220  h
def fb_Rm_motion_208  (x1 : Int) (x2 : Int) (x3 : Int) (x4 : Int) (x5 : Int) (σ : kS) : kRes := kg ((-2147483648 ≤ x1 ∧ x1 < 2147483648)) (if x1 = 71 then fb_Rm_motion_220  x1 x2 x3 x4 x5 σ else fb_Rm_motion_214  x1 x2 x3 x4 x5 σ)
theorem e_Rm_motion_208 {l : Launch} {G : kG} {yf : Int} {σf : kS}  {x1 : Int} {x2 : Int} {x3 : Int} {x4 : Int} {x5 : Int} {o6 : Option kV} {σ : kS} (h : fb_Rm_motion_208  x1 x2 x3 x4 x5 σ = some (some yf, σf)) : Rn l G dm_Rm_motion m_Rm_motion (kI fun y' σ' => y' = yf ∧ σ' = σf) 208 [some (.inr (9, 0)), some (.inl x1), some (.inl x2), some (.inl x3), some (.inl x4), some (.inl x5), o6] [] σ := by
  unfold fb_Rm_motion_208 at h
  obtain ⟨h1, h⟩ := kg_some h
  refine s_Rm_motion_208 h1 (fun c => ?_) (fun c => ?_)
  · rw [if_pos c] at h
    exact e_Rm_motion_220  h
  · rw [if_neg c] at h
    exact e_Rm_motion_214  h
def fb_Rm_motion_207  (x1 : Int) (x2 : Int) (x3 : Int) (x4 : Int) (x5 : Int) (s0 : Int) (σ : kS) : kRes := kg ((s0 = 0 ∨ s0 = 1)) (some (some s0, σ))
theorem e_Rm_motion_207 {l : Launch} {G : kG} {yf : Int} {σf : kS}  {x1 : Int} {x2 : Int} {x3 : Int} {x4 : Int} {x5 : Int} {s0 : Int} {o6 : Option kV} {σ : kS} (h : fb_Rm_motion_207  x1 x2 x3 x4 x5 s0 σ = some (some yf, σf)) : Rn l G dm_Rm_motion m_Rm_motion (kI fun y' σ' => y' = yf ∧ σ' = σf) 207 [some (.inr (9, 0)), some (.inl x1), some (.inl x2), some (.inl x3), some (.inl x4), some (.inl x5), o6] [.inl s0] σ := by
  unfold fb_Rm_motion_207 at h
  obtain ⟨h1, h⟩ := kg_some h
  simp only [Option.some.injEq, Prod.mk.injEq, true_and] at h
  exact s_Rm_motion_207 h1 ⟨_, rfl, h⟩
def fb_Rm_motion_206  (x1 : Int) (x2 : Int) (x3 : Int) (x4 : Int) (x5 : Int) (σ : kS) : kRes := fb_Rm_motion_207  x1 x2 x3 x4 x5 0 σ
theorem e_Rm_motion_206 {l : Launch} {G : kG} {yf : Int} {σf : kS}  {x1 : Int} {x2 : Int} {x3 : Int} {x4 : Int} {x5 : Int} {o6 : Option kV} {σ : kS} (h : fb_Rm_motion_206  x1 x2 x3 x4 x5 σ = some (some yf, σf)) : Rn l G dm_Rm_motion m_Rm_motion (kI fun y' σ' => y' = yf ∧ σ' = σf) 206 [some (.inr (9, 0)), some (.inl x1), some (.inl x2), some (.inl x3), some (.inl x4), some (.inl x5), o6] [] σ := by
  unfold fb_Rm_motion_206 at h
  refine s_Rm_motion_206  ?_
  exact e_Rm_motion_207  h
def fb_Rm_motion_202  (x1 : Int) (x2 : Int) (x3 : Int) (x4 : Int) (x5 : Int) (σ : kS) : kRes := fb_Rm_motion_207  x1 x2 x3 x4 x5 1 σ
theorem e_Rm_motion_202 {l : Launch} {G : kG} {yf : Int} {σf : kS}  {x1 : Int} {x2 : Int} {x3 : Int} {x4 : Int} {x5 : Int} {o6 : Option kV} {σ : kS} (h : fb_Rm_motion_202  x1 x2 x3 x4 x5 σ = some (some yf, σf)) : Rn l G dm_Rm_motion m_Rm_motion (kI fun y' σ' => y' = yf ∧ σ' = σf) 202 [some (.inr (9, 0)), some (.inl x1), some (.inl x2), some (.inl x3), some (.inl x4), some (.inl x5), o6] [] σ := by
  unfold fb_Rm_motion_202 at h
  refine s_Rm_motion_202  ?_
  exact e_Rm_motion_207  h
def fb_Rm_motion_192  (x1 : Int) (x2 : Int) (x3 : Int) (x4 : Int) (x5 : Int) (s0 : Int) (σ : kS) : kRes := kg ((-2147483648 ≤ x4 ∧ x4 < 2147483648) ∧ (-2147483648 ≤ x5 ∧ x5 < 2147483648)) (if x5 ≤ x4 then fb_Rm_motion_206  x1 x2 x3 x4 x5 (kup σ 9 0 17 s0) else fb_Rm_motion_202  x1 x2 x3 x4 x5 (kup σ 9 0 17 s0))
theorem e_Rm_motion_192 {l : Launch} {G : kG} {yf : Int} {σf : kS}  {x1 : Int} {x2 : Int} {x3 : Int} {x4 : Int} {x5 : Int} {s0 : Int} {o6 : Option kV} {σ : kS} (h : fb_Rm_motion_192  x1 x2 x3 x4 x5 s0 σ = some (some yf, σf)) : Rn l G dm_Rm_motion m_Rm_motion (kI fun y' σ' => y' = yf ∧ σ' = σf) 192 [some (.inr (9, 0)), some (.inl x1), some (.inl x2), some (.inl x3), some (.inl x4), some (.inl x5), o6] [.inl s0, .inr (9, 0)] σ := by
  unfold fb_Rm_motion_192 at h
  obtain ⟨⟨h1, h2⟩, h⟩ := kg_some h
  refine s_Rm_motion_192 h1 h2 (fun c => ?_) (fun c => ?_)
  · rw [if_pos c] at h
    exact e_Rm_motion_206  h
  · rw [if_neg c] at h
    exact e_Rm_motion_202  h
def fb_Rm_motion_190  (x1 : Int) (x2 : Int) (x3 : Int) (x4 : Int) (x5 : Int) (σ : kS) : kRes := fb_Rm_motion_192  x1 x2 x3 x4 x5 x5 σ
theorem e_Rm_motion_190 {l : Launch} {G : kG} {yf : Int} {σf : kS}  {x1 : Int} {x2 : Int} {x3 : Int} {x4 : Int} {x5 : Int} {o6 : Option kV} {σ : kS} (h : fb_Rm_motion_190  x1 x2 x3 x4 x5 σ = some (some yf, σf)) : Rn l G dm_Rm_motion m_Rm_motion (kI fun y' σ' => y' = yf ∧ σ' = σf) 190 [some (.inr (9, 0)), some (.inl x1), some (.inl x2), some (.inl x3), some (.inl x4), some (.inl x5), o6] [.inr (9, 0)] σ := by
  unfold fb_Rm_motion_190 at h
  refine s_Rm_motion_190  ?_
  exact e_Rm_motion_192  h
def fb_Rm_motion_183  (x1 : Int) (x2 : Int) (x3 : Int) (x4 : Int) (x5 : Int) (σ : kS) : kRes := fb_Rm_motion_192  x1 x2 x3 x4 x5 (x4 + x2) σ
theorem e_Rm_motion_183 {l : Launch} {G : kG} {yf : Int} {σf : kS}  {x1 : Int} {x2 : Int} {x3 : Int} {x4 : Int} {x5 : Int} {o6 : Option kV} {σ : kS} (h : fb_Rm_motion_183  x1 x2 x3 x4 x5 σ = some (some yf, σf)) : Rn l G dm_Rm_motion m_Rm_motion (kI fun y' σ' => y' = yf ∧ σ' = σf) 183 [some (.inr (9, 0)), some (.inl x1), some (.inl x2), some (.inl x3), some (.inl x4), some (.inl x5), o6] [.inr (9, 0)] σ := by
  unfold fb_Rm_motion_183 at h
  refine s_Rm_motion_183  ?_
  exact e_Rm_motion_192  h
def fb_Rm_motion_173  (x1 : Int) (x2 : Int) (x3 : Int) (x4 : Int) (x5 : Int) (σ : kS) : kRes := kg ((-2147483648 ≤ x4 + x2 ∧ x4 + x2 < 2147483648) ∧ (-2147483648 ≤ x5 ∧ x5 < 2147483648)) (if x5 ≤ (x4 + x2) then fb_Rm_motion_190  x1 x2 x3 x4 x5 σ else fb_Rm_motion_183  x1 x2 x3 x4 x5 σ)
theorem e_Rm_motion_173 {l : Launch} {G : kG} {yf : Int} {σf : kS}  {x1 : Int} {x2 : Int} {x3 : Int} {x4 : Int} {x5 : Int} {o6 : Option kV} {σ : kS} (h : fb_Rm_motion_173  x1 x2 x3 x4 x5 σ = some (some yf, σf)) : Rn l G dm_Rm_motion m_Rm_motion (kI fun y' σ' => y' = yf ∧ σ' = σf) 173 [some (.inr (9, 0)), some (.inl x1), some (.inl x2), some (.inl x3), some (.inl x4), some (.inl x5), o6] [] σ := by
  unfold fb_Rm_motion_173 at h
  obtain ⟨⟨h1, h2⟩, h⟩ := kg_some h
  refine s_Rm_motion_173 h1 h2 (fun c => ?_) (fun c => ?_)
  · rw [if_pos c] at h
    exact e_Rm_motion_190  h
  · rw [if_neg c] at h
    exact e_Rm_motion_183  h
def fb_Rm_motion_167  (x1 : Int) (x2 : Int) (x3 : Int) (x4 : Int) (x5 : Int) (σ : kS) : kRes := kg ((-2147483648 ≤ x1 ∧ x1 < 2147483648)) (if x1 = 108 then fb_Rm_motion_173  x1 x2 x3 x4 x5 σ else fb_Rm_motion_208  x1 x2 x3 x4 x5 σ)
theorem e_Rm_motion_167 {l : Launch} {G : kG} {yf : Int} {σf : kS}  {x1 : Int} {x2 : Int} {x3 : Int} {x4 : Int} {x5 : Int} {o6 : Option kV} {σ : kS} (h : fb_Rm_motion_167  x1 x2 x3 x4 x5 σ = some (some yf, σf)) : Rn l G dm_Rm_motion m_Rm_motion (kI fun y' σ' => y' = yf ∧ σ' = σf) 167 [some (.inr (9, 0)), some (.inl x1), some (.inl x2), some (.inl x3), some (.inl x4), some (.inl x5), o6] [] σ := by
  unfold fb_Rm_motion_167 at h
  obtain ⟨h1, h⟩ := kg_some h
  refine s_Rm_motion_167 h1 (fun c => ?_) (fun c => ?_)
  · rw [if_neg c] at h
    exact e_Rm_motion_208  h
  · rw [if_pos c] at h
    exact e_Rm_motion_173  h
def fb_Rm_motion_166  (x1 : Int) (x2 : Int) (x3 : Int) (x4 : Int) (x5 : Int) (s0 : Int) (σ : kS) : kRes := kg ((s0 = 0 ∨ s0 = 1)) (some (some s0, σ))
theorem e_Rm_motion_166 {l : Launch} {G : kG} {yf : Int} {σf : kS}  {x1 : Int} {x2 : Int} {x3 : Int} {x4 : Int} {x5 : Int} {s0 : Int} {o6 : Option kV} {σ : kS} (h : fb_Rm_motion_166  x1 x2 x3 x4 x5 s0 σ = some (some yf, σf)) : Rn l G dm_Rm_motion m_Rm_motion (kI fun y' σ' => y' = yf ∧ σ' = σf) 166 [some (.inr (9, 0)), some (.inl x1), some (.inl x2), some (.inl x3), some (.inl x4), some (.inl x5), o6] [.inl s0] σ := by
  unfold fb_Rm_motion_166 at h
  obtain ⟨h1, h⟩ := kg_some h
  simp only [Option.some.injEq, Prod.mk.injEq, true_and] at h
  exact s_Rm_motion_166 h1 ⟨_, rfl, h⟩
def fb_Rm_motion_165  (x1 : Int) (x2 : Int) (x3 : Int) (x4 : Int) (x5 : Int) (σ : kS) : kRes := fb_Rm_motion_166  x1 x2 x3 x4 x5 0 σ
theorem e_Rm_motion_165 {l : Launch} {G : kG} {yf : Int} {σf : kS}  {x1 : Int} {x2 : Int} {x3 : Int} {x4 : Int} {x5 : Int} {o6 : Option kV} {σ : kS} (h : fb_Rm_motion_165  x1 x2 x3 x4 x5 σ = some (some yf, σf)) : Rn l G dm_Rm_motion m_Rm_motion (kI fun y' σ' => y' = yf ∧ σ' = σf) 165 [some (.inr (9, 0)), some (.inl x1), some (.inl x2), some (.inl x3), some (.inl x4), some (.inl x5), o6] [] σ := by
  unfold fb_Rm_motion_165 at h
  refine s_Rm_motion_165  ?_
  exact e_Rm_motion_166  h
def fb_Rm_motion_161  (x1 : Int) (x2 : Int) (x3 : Int) (x4 : Int) (x5 : Int) (σ : kS) : kRes := fb_Rm_motion_166  x1 x2 x3 x4 x5 1 σ
theorem e_Rm_motion_161 {l : Launch} {G : kG} {yf : Int} {σf : kS}  {x1 : Int} {x2 : Int} {x3 : Int} {x4 : Int} {x5 : Int} {o6 : Option kV} {σ : kS} (h : fb_Rm_motion_161  x1 x2 x3 x4 x5 σ = some (some yf, σf)) : Rn l G dm_Rm_motion m_Rm_motion (kI fun y' σ' => y' = yf ∧ σ' = σf) 161 [some (.inr (9, 0)), some (.inl x1), some (.inl x2), some (.inl x3), some (.inl x4), some (.inl x5), o6] [] σ := by
  unfold fb_Rm_motion_161 at h
  refine s_Rm_motion_161  ?_
  exact e_Rm_motion_166  h
def fb_Rm_motion_153  (x1 : Int) (x2 : Int) (x3 : Int) (x4 : Int) (x5 : Int) (s0 : Int) (σ : kS) : kRes := kg ((-2147483648 ≤ x4 ∧ x4 < 2147483648)) (if x4 ≤ 0 then fb_Rm_motion_165  x1 x2 x3 x4 x5 (kup σ 9 0 17 s0) else fb_Rm_motion_161  x1 x2 x3 x4 x5 (kup σ 9 0 17 s0))
theorem e_Rm_motion_153 {l : Launch} {G : kG} {yf : Int} {σf : kS}  {x1 : Int} {x2 : Int} {x3 : Int} {x4 : Int} {x5 : Int} {s0 : Int} {o6 : Option kV} {σ : kS} (h : fb_Rm_motion_153  x1 x2 x3 x4 x5 s0 σ = some (some yf, σf)) : Rn l G dm_Rm_motion m_Rm_motion (kI fun y' σ' => y' = yf ∧ σ' = σf) 153 [some (.inr (9, 0)), some (.inl x1), some (.inl x2), some (.inl x3), some (.inl x4), some (.inl x5), o6] [.inl s0, .inr (9, 0)] σ := by
  unfold fb_Rm_motion_153 at h
  obtain ⟨h1, h⟩ := kg_some h
  refine s_Rm_motion_153 h1 (fun c => ?_) (fun c => ?_)
  · rw [if_pos c] at h
    exact e_Rm_motion_165  h
  · rw [if_neg c] at h
    exact e_Rm_motion_161  h
def fb_Rm_motion_152  (x1 : Int) (x2 : Int) (x3 : Int) (x4 : Int) (x5 : Int) (σ : kS) : kRes := fb_Rm_motion_153  x1 x2 x3 x4 x5 0 σ
theorem e_Rm_motion_152 {l : Launch} {G : kG} {yf : Int} {σf : kS}  {x1 : Int} {x2 : Int} {x3 : Int} {x4 : Int} {x5 : Int} {o6 : Option kV} {σ : kS} (h : fb_Rm_motion_152  x1 x2 x3 x4 x5 σ = some (some yf, σf)) : Rn l G dm_Rm_motion m_Rm_motion (kI fun y' σ' => y' = yf ∧ σ' = σf) 152 [some (.inr (9, 0)), some (.inl x1), some (.inl x2), some (.inl x3), some (.inl x4), some (.inl x5), o6] [.inr (9, 0)] σ := by
  unfold fb_Rm_motion_152 at h
  refine s_Rm_motion_152  ?_
  exact e_Rm_motion_153  h
def fb_Rm_motion_145  (x1 : Int) (x2 : Int) (x3 : Int) (x4 : Int) (x5 : Int) (σ : kS) : kRes := fb_Rm_motion_153  x1 x2 x3 x4 x5 (x4 - x2) σ
theorem e_Rm_motion_145 {l : Launch} {G : kG} {yf : Int} {σf : kS}  {x1 : Int} {x2 : Int} {x3 : Int} {x4 : Int} {x5 : Int} {o6 : Option kV} {σ : kS} (h : fb_Rm_motion_145  x1 x2 x3 x4 x5 σ = some (some yf, σf)) : Rn l G dm_Rm_motion m_Rm_motion (kI fun y' σ' => y' = yf ∧ σ' = σf) 145 [some (.inr (9, 0)), some (.inl x1), some (.inl x2), some (.inl x3), some (.inl x4), some (.inl x5), o6] [.inr (9, 0)] σ := by
  unfold fb_Rm_motion_145 at h
  refine s_Rm_motion_145  ?_
  exact e_Rm_motion_153  h
def fb_Rm_motion_138  (x1 : Int) (x2 : Int) (x3 : Int) (x4 : Int) (x5 : Int) (σ : kS) : kRes := kg ((-2147483648 ≤ x4 ∧ x4 < 2147483648) ∧ (-2147483648 ≤ x2 ∧ x2 < 2147483648)) (if x4 ≤ x2 then fb_Rm_motion_152  x1 x2 x3 x4 x5 σ else fb_Rm_motion_145  x1 x2 x3 x4 x5 σ)
theorem e_Rm_motion_138 {l : Launch} {G : kG} {yf : Int} {σf : kS}  {x1 : Int} {x2 : Int} {x3 : Int} {x4 : Int} {x5 : Int} {o6 : Option kV} {σ : kS} (h : fb_Rm_motion_138  x1 x2 x3 x4 x5 σ = some (some yf, σf)) : Rn l G dm_Rm_motion m_Rm_motion (kI fun y' σ' => y' = yf ∧ σ' = σf) 138 [some (.inr (9, 0)), some (.inl x1), some (.inl x2), some (.inl x3), some (.inl x4), some (.inl x5), o6] [] σ := by
  unfold fb_Rm_motion_138 at h
  obtain ⟨⟨h1, h2⟩, h⟩ := kg_some h
  refine s_Rm_motion_138 h1 h2 (fun c => ?_) (fun c => ?_)
  · rw [if_pos c] at h
    exact e_Rm_motion_152  h
  · rw [if_neg c] at h
    exact e_Rm_motion_145  h
def fb_Rm_motion_132  (x1 : Int) (x2 : Int) (x3 : Int) (x4 : Int) (x5 : Int) (σ : kS) : kRes := kg ((-2147483648 ≤ x1 ∧ x1 < 2147483648)) (if x1 = 104 then fb_Rm_motion_138  x1 x2 x3 x4 x5 σ else fb_Rm_motion_167  x1 x2 x3 x4 x5 σ)
theorem e_Rm_motion_132 {l : Launch} {G : kG} {yf : Int} {σf : kS}  {x1 : Int} {x2 : Int} {x3 : Int} {x4 : Int} {x5 : Int} {o6 : Option kV} {σ : kS} (h : fb_Rm_motion_132  x1 x2 x3 x4 x5 σ = some (some yf, σf)) : Rn l G dm_Rm_motion m_Rm_motion (kI fun y' σ' => y' = yf ∧ σ' = σf) 132 [some (.inr (9, 0)), some (.inl x1), some (.inl x2), some (.inl x3), some (.inl x4), some (.inl x5), o6] [] σ := by
  unfold fb_Rm_motion_132 at h
  obtain ⟨h1, h⟩ := kg_some h
  refine s_Rm_motion_132 h1 (fun c => ?_) (fun c => ?_)
  · rw [if_neg c] at h
    exact e_Rm_motion_167  h
  · rw [if_pos c] at h
    exact e_Rm_motion_138  h
def fb_Rm_motion_131  (x1 : Int) (x2 : Int) (x3 : Int) (x4 : Int) (x5 : Int) (s0 : Int) (σ : kS) : kRes := kg ((s0 = 0 ∨ s0 = 1)) (some (some s0, σ))
theorem e_Rm_motion_131 {l : Launch} {G : kG} {yf : Int} {σf : kS}  {x1 : Int} {x2 : Int} {x3 : Int} {x4 : Int} {x5 : Int} {s0 : Int} {o6 : Option kV} {σ : kS} (h : fb_Rm_motion_131  x1 x2 x3 x4 x5 s0 σ = some (some yf, σf)) : Rn l G dm_Rm_motion m_Rm_motion (kI fun y' σ' => y' = yf ∧ σ' = σf) 131 [some (.inr (9, 0)), some (.inl x1), some (.inl x2), some (.inl x3), some (.inl x4), some (.inl x5), o6] [.inl s0] σ := by
  unfold fb_Rm_motion_131 at h
  obtain ⟨h1, h⟩ := kg_some h
  simp only [Option.some.injEq, Prod.mk.injEq, true_and] at h
  exact s_Rm_motion_131 h1 ⟨_, rfl, h⟩
def fb_Rm_motion_128  (x1 : Int) (x2 : Int) (x3 : Int) (x4 : Int) (x5 : Int) (s0 : Int) (s1 : Int) (σ : kS) : kRes := kbi (f_Rm_toStop s1 s0 σ) fun y σ1 => fb_Rm_motion_131  x1 x2 x3 x4 x5 y σ1
theorem e_Rm_motion_128 {l : Launch} {G : kG} {yf : Int} {σf : kS}  {x1 : Int} {x2 : Int} {x3 : Int} {x4 : Int} {x5 : Int} {s0 : Int} {s1 : Int} {o6 : Option kV} {σ : kS} (h : fb_Rm_motion_128  x1 x2 x3 x4 x5 s0 s1 σ = some (some yf, σf)) : Rn l G dm_Rm_motion m_Rm_motion (kI fun y' σ' => y' = yf ∧ σ' = σf) 128 [some (.inr (9, 0)), some (.inl x1), some (.inl x2), some (.inl x3), some (.inl x4), some (.inl x5), o6] [.inl s0, .inl s1, .inr (9, 0)] σ := by
  unfold fb_Rm_motion_128 at h
  obtain ⟨y, σ1, hc, h⟩ := kbi_some h
  refine s_Rm_motion_128  (by decide) (E_Rm_toStop hc) (fun y2 σ2 e2 => ?_)
  obtain ⟨rfl, rfl⟩ := e2
  exact e_Rm_motion_131  h
def fb_Rm_motion_127  (x1 : Int) (x2 : Int) (x3 : Int) (x4 : Int) (x5 : Int) (s0 : Int) (σ : kS) : kRes := fb_Rm_motion_128  x1 x2 x3 x4 x5 (-1) s0 σ
theorem e_Rm_motion_127 {l : Launch} {G : kG} {yf : Int} {σf : kS}  {x1 : Int} {x2 : Int} {x3 : Int} {x4 : Int} {x5 : Int} {s0 : Int} {o6 : Option kV} {σ : kS} (h : fb_Rm_motion_127  x1 x2 x3 x4 x5 s0 σ = some (some yf, σf)) : Rn l G dm_Rm_motion m_Rm_motion (kI fun y' σ' => y' = yf ∧ σ' = σf) 127 [some (.inr (9, 0)), some (.inl x1), some (.inl x2), some (.inl x3), some (.inl x4), some (.inl x5), o6] [.inl s0, .inr (9, 0)] σ := by
  unfold fb_Rm_motion_127 at h
  refine s_Rm_motion_127  ?_
  exact e_Rm_motion_128  h
def fb_Rm_motion_123  (x1 : Int) (x2 : Int) (x3 : Int) (x4 : Int) (x5 : Int) (s0 : Int) (σ : kS) : kRes := fb_Rm_motion_128  x1 x2 x3 x4 x5 1 s0 σ
theorem e_Rm_motion_123 {l : Launch} {G : kG} {yf : Int} {σf : kS}  {x1 : Int} {x2 : Int} {x3 : Int} {x4 : Int} {x5 : Int} {s0 : Int} {o6 : Option kV} {σ : kS} (h : fb_Rm_motion_123  x1 x2 x3 x4 x5 s0 σ = some (some yf, σf)) : Rn l G dm_Rm_motion m_Rm_motion (kI fun y' σ' => y' = yf ∧ σ' = σf) 123 [some (.inr (9, 0)), some (.inl x1), some (.inl x2), some (.inl x3), some (.inl x4), some (.inl x5), o6] [.inl s0, .inr (9, 0)] σ := by
  unfold fb_Rm_motion_123 at h
  refine s_Rm_motion_123  ?_
  exact e_Rm_motion_128  h
def fb_Rm_motion_115  (x1 : Int) (x2 : Int) (x3 : Int) (x4 : Int) (x5 : Int) (σ : kS) : kRes := kg ((-2147483648 ≤ x1 ∧ x1 < 2147483648)) (if x1 = 119 then fb_Rm_motion_123  x1 x2 x3 x4 x5 x2 σ else fb_Rm_motion_127  x1 x2 x3 x4 x5 x2 σ)
theorem e_Rm_motion_115 {l : Launch} {G : kG} {yf : Int} {σf : kS}  {x1 : Int} {x2 : Int} {x3 : Int} {x4 : Int} {x5 : Int} {o6 : Option kV} {σ : kS} (h : fb_Rm_motion_115  x1 x2 x3 x4 x5 σ = some (some yf, σf)) : Rn l G dm_Rm_motion m_Rm_motion (kI fun y' σ' => y' = yf ∧ σ' = σf) 115 [some (.inr (9, 0)), some (.inl x1), some (.inl x2), some (.inl x3), some (.inl x4), some (.inl x5), o6] [] σ := by
  unfold fb_Rm_motion_115 at h
  obtain ⟨h1, h⟩ := kg_some h
  refine s_Rm_motion_115 h1 (fun c => ?_) (fun c => ?_)
  · rw [if_neg c] at h
    exact e_Rm_motion_127  h
  · rw [if_pos c] at h
    exact e_Rm_motion_123  h
def fb_Rm_motion_109  (x1 : Int) (x2 : Int) (x3 : Int) (x4 : Int) (x5 : Int) (σ : kS) : kRes := kg ((-2147483648 ≤ x1 ∧ x1 < 2147483648)) (if x1 = 98 then fb_Rm_motion_115  x1 x2 x3 x4 x5 σ else fb_Rm_motion_132  x1 x2 x3 x4 x5 σ)
theorem e_Rm_motion_109 {l : Launch} {G : kG} {yf : Int} {σf : kS}  {x1 : Int} {x2 : Int} {x3 : Int} {x4 : Int} {x5 : Int} {o6 : Option kV} {σ : kS} (h : fb_Rm_motion_109  x1 x2 x3 x4 x5 σ = some (some yf, σf)) : Rn l G dm_Rm_motion m_Rm_motion (kI fun y' σ' => y' = yf ∧ σ' = σf) 109 [some (.inr (9, 0)), some (.inl x1), some (.inl x2), some (.inl x3), some (.inl x4), some (.inl x5), o6] [] σ := by
  unfold fb_Rm_motion_109 at h
  obtain ⟨h1, h⟩ := kg_some h
  refine s_Rm_motion_109 h1 (fun c => ?_) (fun c => ?_)
  · rw [if_neg c] at h
    exact e_Rm_motion_132  h
  · rw [if_pos c] at h
    exact e_Rm_motion_115  h
def fb_Rm_motion_94  (x1 : Int) (x2 : Int) (x3 : Int) (x4 : Int) (x5 : Int) (s0 : Int) (σ : kS) : kRes := kg ((-2147483648 ≤ x1 ∧ x1 < 2147483648)) (if x1 = 119 then fb_Rm_motion_115  x1 x2 x3 x4 x5 (kup (kup σ 9 0 16 s0) 9 0 17 x4) else fb_Rm_motion_109  x1 x2 x3 x4 x5 (kup (kup σ 9 0 16 s0) 9 0 17 x4))
theorem e_Rm_motion_94 {l : Launch} {G : kG} {yf : Int} {σf : kS}  {x1 : Int} {x2 : Int} {x3 : Int} {x4 : Int} {x5 : Int} {s0 : Int} {o6 : Option kV} {σ : kS} (h : fb_Rm_motion_94  x1 x2 x3 x4 x5 s0 σ = some (some yf, σf)) : Rn l G dm_Rm_motion m_Rm_motion (kI fun y' σ' => y' = yf ∧ σ' = σf) 94 [some (.inr (9, 0)), some (.inl x1), some (.inl x2), some (.inl x3), some (.inl x4), some (.inl x5), o6] [.inl s0, .inr (9, 0)] σ := by
  unfold fb_Rm_motion_94 at h
  obtain ⟨h1, h⟩ := kg_some h
  refine s_Rm_motion_94 h1 (fun c => ?_) (fun c => ?_)
  · rw [if_pos c] at h
    exact e_Rm_motion_115  h
  · rw [if_neg c] at h
    exact e_Rm_motion_109  h
def fb_Rm_motion_93  (x1 : Int) (x2 : Int) (x3 : Int) (x4 : Int) (x5 : Int) (σ : kS) : kRes := fb_Rm_motion_94  x1 x2 x3 x4 x5 x3 σ
theorem e_Rm_motion_93 {l : Launch} {G : kG} {yf : Int} {σf : kS}  {x1 : Int} {x2 : Int} {x3 : Int} {x4 : Int} {x5 : Int} {o6 : Option kV} {σ : kS} (h : fb_Rm_motion_93  x1 x2 x3 x4 x5 σ = some (some yf, σf)) : Rn l G dm_Rm_motion m_Rm_motion (kI fun y' σ' => y' = yf ∧ σ' = σf) 93 [some (.inr (9, 0)), some (.inl x1), some (.inl x2), some (.inl x3), some (.inl x4), some (.inl x5), o6] [.inr (9, 0)] σ := by
  unfold fb_Rm_motion_93 at h
  refine s_Rm_motion_93  ?_
  exact e_Rm_motion_94  h
def fb_Rm_motion_82  (x1 : Int) (x2 : Int) (x3 : Int) (x4 : Int) (x5 : Int) (σ : kS) : kRes := fb_Rm_motion_94  x1 x2 x3 x4 x5 ((σ 22 0 0) - 1) σ
theorem e_Rm_motion_82 {l : Launch} {G : kG} {yf : Int} {σf : kS}  {x1 : Int} {x2 : Int} {x3 : Int} {x4 : Int} {x5 : Int} {o6 : Option kV} {σ : kS} (h : fb_Rm_motion_82  x1 x2 x3 x4 x5 σ = some (some yf, σf)) : Rn l G dm_Rm_motion m_Rm_motion (kI fun y' σ' => y' = yf ∧ σ' = σf) 82 [some (.inr (9, 0)), some (.inl x1), some (.inl x2), some (.inl x3), some (.inl x4), some (.inl x5), o6] [.inr (9, 0)] σ := by
  unfold fb_Rm_motion_82 at h
  refine s_Rm_motion_82  ?_
  exact e_Rm_motion_94  h
def fb_Rm_motion_76  (x1 : Int) (x2 : Int) (x3 : Int) (x4 : Int) (x5 : Int) (σ : kS) : kRes := fb_Rm_motion_94  x1 x2 x3 x4 x5 (x2 - 1) σ
theorem e_Rm_motion_76 {l : Launch} {G : kG} {yf : Int} {σf : kS}  {x1 : Int} {x2 : Int} {x3 : Int} {x4 : Int} {x5 : Int} {o6 : Option kV} {σ : kS} (h : fb_Rm_motion_76  x1 x2 x3 x4 x5 σ = some (some yf, σf)) : Rn l G dm_Rm_motion m_Rm_motion (kI fun y' σ' => y' = yf ∧ σ' = σf) 76 [some (.inr (9, 0)), some (.inl x1), some (.inl x2), some (.inl x3), some (.inl x4), some (.inl x5), o6] [.inr (9, 0)] σ := by
  unfold fb_Rm_motion_76 at h
  refine s_Rm_motion_76  ?_
  exact e_Rm_motion_94  h
def fb_Rm_motion_69  (x1 : Int) (x2 : Int) (x3 : Int) (x4 : Int) (x5 : Int) (σ : kS) : kRes := kg ((-2147483648 ≤ σ 9 0 10 ∧ σ 9 0 10 < 2147483648)) (if (σ 9 0 10) ≤ 0 then fb_Rm_motion_82  x1 x2 x3 x4 x5 σ else fb_Rm_motion_76  x1 x2 x3 x4 x5 σ)
theorem e_Rm_motion_69 {l : Launch} {G : kG} {yf : Int} {σf : kS}  {x1 : Int} {x2 : Int} {x3 : Int} {x4 : Int} {x5 : Int} {o6 : Option kV} {σ : kS} (h : fb_Rm_motion_69  x1 x2 x3 x4 x5 σ = some (some yf, σf)) : Rn l G dm_Rm_motion m_Rm_motion (kI fun y' σ' => y' = yf ∧ σ' = σf) 69 [some (.inr (9, 0)), some (.inl x1), some (.inl x2), some (.inl x3), some (.inl x4), some (.inl x5), o6] [.inr (9, 0)] σ := by
  unfold fb_Rm_motion_69 at h
  obtain ⟨h1, h⟩ := kg_some h
  refine s_Rm_motion_69 h1 (fun c => ?_) (fun c => ?_)
  · rw [if_pos c] at h
    exact e_Rm_motion_82  h
  · rw [if_neg c] at h
    exact e_Rm_motion_76  h
def fb_Rm_motion_63  (x1 : Int) (x2 : Int) (x3 : Int) (x4 : Int) (x5 : Int) (σ : kS) : kRes := kg ((-2147483648 ≤ x1 ∧ x1 < 2147483648)) (if x1 = 71 then fb_Rm_motion_69  x1 x2 x3 x4 x5 σ else fb_Rm_motion_93  x1 x2 x3 x4 x5 σ)
theorem e_Rm_motion_63 {l : Launch} {G : kG} {yf : Int} {σf : kS}  {x1 : Int} {x2 : Int} {x3 : Int} {x4 : Int} {x5 : Int} {o6 : Option kV} {σ : kS} (h : fb_Rm_motion_63  x1 x2 x3 x4 x5 σ = some (some yf, σf)) : Rn l G dm_Rm_motion m_Rm_motion (kI fun y' σ' => y' = yf ∧ σ' = σf) 63 [some (.inr (9, 0)), some (.inl x1), some (.inl x2), some (.inl x3), some (.inl x4), some (.inl x5), o6] [.inr (9, 0)] σ := by
  unfold fb_Rm_motion_63 at h
  obtain ⟨h1, h⟩ := kg_some h
  refine s_Rm_motion_63 h1 (fun c => ?_) (fun c => ?_)
  · rw [if_neg c] at h
    exact e_Rm_motion_93  h
  · rw [if_pos c] at h
    exact e_Rm_motion_69  h
def fb_Rm_motion_57  (x1 : Int) (x2 : Int) (x3 : Int) (x4 : Int) (x5 : Int) (σ : kS) : kRes := fb_Rm_motion_94  x1 x2 x3 x4 x5 (x3 - x2) σ
theorem e_Rm_motion_57 {l : Launch} {G : kG} {yf : Int} {σf : kS}  {x1 : Int} {x2 : Int} {x3 : Int} {x4 : Int} {x5 : Int} {o6 : Option kV} {σ : kS} (h : fb_Rm_motion_57  x1 x2 x3 x4 x5 σ = some (some yf, σf)) : Rn l G dm_Rm_motion m_Rm_motion (kI fun y' σ' => y' = yf ∧ σ' = σf) 57 [some (.inr (9, 0)), some (.inl x1), some (.inl x2), some (.inl x3), some (.inl x4), some (.inl x5), o6] [.inr (9, 0)] σ := by
  unfold fb_Rm_motion_57 at h
  refine s_Rm_motion_57  ?_
  exact e_Rm_motion_94  h
def fb_Rm_motion_51  (x1 : Int) (x2 : Int) (x3 : Int) (x4 : Int) (x5 : Int) (σ : kS) : kRes := kg ((-2147483648 ≤ x1 ∧ x1 < 2147483648)) (if x1 = 107 then fb_Rm_motion_57  x1 x2 x3 x4 x5 σ else fb_Rm_motion_63  x1 x2 x3 x4 x5 σ)
theorem e_Rm_motion_51 {l : Launch} {G : kG} {yf : Int} {σf : kS}  {x1 : Int} {x2 : Int} {x3 : Int} {x4 : Int} {x5 : Int} {o6 : Option kV} {σ : kS} (h : fb_Rm_motion_51  x1 x2 x3 x4 x5 σ = some (some yf, σf)) : Rn l G dm_Rm_motion m_Rm_motion (kI fun y' σ' => y' = yf ∧ σ' = σf) 51 [some (.inr (9, 0)), some (.inl x1), some (.inl x2), some (.inl x3), some (.inl x4), some (.inl x5), o6] [.inr (9, 0)] σ := by
  unfold fb_Rm_motion_51 at h
  obtain ⟨h1, h⟩ := kg_some h
  refine s_Rm_motion_51 h1 (fun c => ?_) (fun c => ?_)
  · rw [if_neg c] at h
    exact e_Rm_motion_63  h
  · rw [if_pos c] at h
    exact e_Rm_motion_57  h
def fb_Rm_motion_45  (x1 : Int) (x2 : Int) (x3 : Int) (x4 : Int) (x5 : Int) (σ : kS) : kRes := fb_Rm_motion_94  x1 x2 x3 x4 x5 (x3 + x2) σ
theorem e_Rm_motion_45 {l : Launch} {G : kG} {yf : Int} {σf : kS}  {x1 : Int} {x2 : Int} {x3 : Int} {x4 : Int} {x5 : Int} {o6 : Option kV} {σ : kS} (h : fb_Rm_motion_45  x1 x2 x3 x4 x5 σ = some (some yf, σf)) : Rn l G dm_Rm_motion m_Rm_motion (kI fun y' σ' => y' = yf ∧ σ' = σf) 45 [some (.inr (9, 0)), some (.inl x1), some (.inl x2), some (.inl x3), some (.inl x4), some (.inl x5), o6] [.inr (9, 0)] σ := by
  unfold fb_Rm_motion_45 at h
  refine s_Rm_motion_45  ?_
  exact e_Rm_motion_94  h
def fb_Rm_motion_36  (x1 : Int) (x2 : Int) (x3 : Int) (x4 : Int) (s0 : Int) (σ : kS) : kRes := kg ((-2147483648 ≤ x1 ∧ x1 < 2147483648)) (if x1 = 106 then fb_Rm_motion_45  x1 x2 x3 x4 s0 σ else fb_Rm_motion_51  x1 x2 x3 x4 s0 σ)
theorem e_Rm_motion_36 {l : Launch} {G : kG} {yf : Int} {σf : kS}  {x1 : Int} {x2 : Int} {x3 : Int} {x4 : Int} {s0 : Int} {o5 : Option kV} {o6 : Option kV} {σ : kS} (h : fb_Rm_motion_36  x1 x2 x3 x4 s0 σ = some (some yf, σf)) : Rn l G dm_Rm_motion m_Rm_motion (kI fun y' σ' => y' = yf ∧ σ' = σf) 36 [some (.inr (9, 0)), some (.inl x1), some (.inl x2), some (.inl x3), some (.inl x4), o5, o6] [.inl s0] σ := by
  unfold fb_Rm_motion_36 at h
  obtain ⟨h1, h⟩ := kg_some h
  refine s_Rm_motion_36 h1 (fun c => ?_) (fun c => ?_)
  · rw [if_neg c] at h
    exact e_Rm_motion_51  h
  · rw [if_pos c] at h
    exact e_Rm_motion_45  h
def fb_Rm_motion_35  (x1 : Int) (x2 : Int) (x3 : Int) (x4 : Int) (σ : kS) : kRes := fb_Rm_motion_36  x1 x2 x3 x4 0 σ
theorem e_Rm_motion_35 {l : Launch} {G : kG} {yf : Int} {σf : kS}  {x1 : Int} {x2 : Int} {x3 : Int} {x4 : Int} {o5 : Option kV} {o6 : Option kV} {σ : kS} (h : fb_Rm_motion_35  x1 x2 x3 x4 σ = some (some yf, σf)) : Rn l G dm_Rm_motion m_Rm_motion (kI fun y' σ' => y' = yf ∧ σ' = σf) 35 [some (.inr (9, 0)), some (.inl x1), some (.inl x2), some (.inl x3), some (.inl x4), o5, o6] [] σ := by
  unfold fb_Rm_motion_35 at h
  refine s_Rm_motion_35  ?_
  exact e_Rm_motion_36  h
def fb_Rm_motion_24  (x1 : Int) (x2 : Int) (x3 : Int) (x4 : Int) (σ : kS) : kRes := kg ((0 ≤ x3 ∧ x3 < (100 : Nat))) (fb_Rm_motion_36  x1 x2 x3 x4 ((σ 21 0 (Int.toNat x3)) - 1) σ)
theorem e_Rm_motion_24 {l : Launch} {G : kG} {yf : Int} {σf : kS}  {x1 : Int} {x2 : Int} {x3 : Int} {x4 : Int} {o5 : Option kV} {o6 : Option kV} {σ : kS} (h : fb_Rm_motion_24  x1 x2 x3 x4 σ = some (some yf, σf)) : Rn l G dm_Rm_motion m_Rm_motion (kI fun y' σ' => y' = yf ∧ σ' = σf) 24 [some (.inr (9, 0)), some (.inl x1), some (.inl x2), some (.inl x3), some (.inl x4), o5, o6] [] σ := by
  unfold fb_Rm_motion_24 at h
  obtain ⟨h1, h⟩ := kg_some h
  refine s_Rm_motion_24 h1 ?_
  exact e_Rm_motion_36  h
def fb_Rm_motion_0  (x1 : Int) (x2 : Int) (σ : kS) : kRes := kg ((0 ≤ σ 23 0 0 ∧ σ 23 0 0 < (100 : Nat)) ∧ (-2147483648 ≤ σ 21 0 (Int.toNat (σ 23 0 0)) ∧ σ 21 0 (Int.toNat (σ 23 0 0)) < 2147483648)) (if (σ 21 0 (Int.toNat (σ 23 0 0))) ≤ 0 then fb_Rm_motion_35  x1 x2 (σ 23 0 0) (σ 24 0 0) σ else fb_Rm_motion_24  x1 x2 (σ 23 0 0) (σ 24 0 0) σ)
theorem e_Rm_motion_0 {l : Launch} {G : kG} {yf : Int} {σf : kS}  {x1 : Int} {x2 : Int} {o3 : Option kV} {o4 : Option kV} {o5 : Option kV} {o6 : Option kV} {σ : kS} (h : fb_Rm_motion_0  x1 x2 σ = some (some yf, σf)) : Rn l G dm_Rm_motion m_Rm_motion (kI fun y' σ' => y' = yf ∧ σ' = σf) 0 [some (.inr (9, 0)), some (.inl x1), some (.inl x2), o3, o4, o5, o6] [] σ := by
  unfold fb_Rm_motion_0 at h
  obtain ⟨⟨h1, h2⟩, h⟩ := kg_some h
  refine s_Rm_motion_0 h1 h2 (fun c => ?_) (fun c => ?_)
  · rw [if_pos c] at h
    exact e_Rm_motion_35  h
  · rw [if_neg c] at h
    exact e_Rm_motion_24  h
def f_Rm_motion (x1 : Int) (x2 : Int) (σ : kS) : kRes := fb_Rm_motion_0 x1 x2 σ
theorem E_Rm_motion {l : Launch} {G : kG} {yf : Int} {σf : kS} {x1 : Int} {x2 : Int} {σ : kS} (h : f_Rm_motion x1 x2 σ = some (some yf, σf)) : Call l G dm_Rm_motion y_Rm_motion m_Rm_motion [.inr (9, 0), .inl x1, .inl x2] σ (kI fun y' σ' => y' = yf ∧ σ' = σf) := by
  unfold f_Rm_motion at h
  exact Call.of (by decide +kernel) rfl (Nat.le_of_ble_eq_true rfl) (e_Rm_motion_0 h)
/-! Rm_wholeLines -/
def fb_Rm_wholeLines_69  (x1 : Int) (x2 : Int) (x3 : Int) (σ : kS) : kRes := some (some 3, σ)
theorem e_Rm_wholeLines_69 {l : Launch} {G : kG} {yf : Int} {σf : kS}  {x1 : Int} {x2 : Int} {x3 : Int}  {σ : kS} (h : fb_Rm_wholeLines_69  x1 x2 x3 σ = some (some yf, σf)) : Rn l G dm_Rm_wholeLines m_Rm_wholeLines (kI fun y' σ' => y' = yf ∧ σ' = σf) 69 [some (.inr (9, 0)), some (.inl x1), some (.inl x2), some (.inl x3)] [] σ := by
  unfold fb_Rm_wholeLines_69 at h
  simp only [Option.some.injEq, Prod.mk.injEq, true_and] at h
  exact s_Rm_wholeLines_69  ⟨_, rfl, h⟩
def fb_Rm_wholeLines_56  (x1 : Int) (x2 : Int) (x3 : Int) (σ : kS) : kRes := kg ((0 ≤ x1 ∧ x1 < (100 : Nat))) (kbu (f_Rm_beginInsert x1 0 (kup σ 21 0 (Int.toNat x1) 0)) fun σ1 => fb_Rm_wholeLines_69  x1 x2 x3 σ1)
theorem e_Rm_wholeLines_56 {l : Launch} {G : kG} {yf : Int} {σf : kS}  {x1 : Int} {x2 : Int} {x3 : Int}  {σ : kS} (h : fb_Rm_wholeLines_56  x1 x2 x3 σ = some (some yf, σf)) : Rn l G dm_Rm_wholeLines m_Rm_wholeLines (kI fun y' σ' => y' = yf ∧ σ' = σf) 56 [some (.inr (9, 0)), some (.inl x1), some (.inl x2), some (.inl x3)] [] σ := by
  unfold fb_Rm_wholeLines_56 at h
  obtain ⟨h1, h⟩ := kg_some h
  obtain ⟨σ1, hc, h⟩ := kbu_some h
  refine s_Rm_wholeLines_56 h1 (by decide) (E_Rm_beginInsert hc) (fun σ2 e2 => ?_)
  subst e2
  exact e_Rm_wholeLines_69  h
def fb_Rm_wholeLines_50 (k38 : Int → Int → Int → kS → kRes) (x1 : Int) (x2 : Int) (x3 : Int) (σ : kS) : kRes := k38 x1 x2 (x3 + 1) σ
theorem e_Rm_wholeLines_50 {l : Launch} {G : kG} {yf : Int} {σf : kS} {k38 : Int → Int → Int → kS → kRes} (hk38 : ∀ (x1 : Int) (x2 : Int) (x3 : Int)  (σ : kS), k38 x1 x2 x3 σ = some (some yf, σf) → Rn l G dm_Rm_wholeLines m_Rm_wholeLines (kI fun y' σ' => y' = yf ∧ σ' = σf) 38 [some (.inr (9, 0)), some (.inl x1), some (.inl x2), some (.inl x3)] [] σ) {x1 : Int} {x2 : Int} {x3 : Int}  {σ : kS} (h : fb_Rm_wholeLines_50 k38 x1 x2 x3 σ = some (some yf, σf)) : Rn l G dm_Rm_wholeLines m_Rm_wholeLines (kI fun y' σ' => y' = yf ∧ σ' = σf) 50 [some (.inr (9, 0)), some (.inl x1), some (.inl x2), some (.inl x3)] [] σ := by
  unfold fb_Rm_wholeLines_50 at h
  refine s_Rm_wholeLines_50  ?_
  exact hk38 _ _ _ _ h
def fb_Rm_wholeLines_43 (k38 : Int → Int → Int → kS → kRes) (x1 : Int) (x2 : Int) (x3 : Int) (σ : kS) : kRes := kbu (f_Rm_closeLine (x1 + 1) σ) fun σ1 => fb_Rm_wholeLines_50 k38 x1 x2 x3 σ1
theorem e_Rm_wholeLines_43 {l : Launch} {G : kG} {yf : Int} {σf : kS} {k38 : Int → Int → Int → kS → kRes} (hk38 : ∀ (x1 : Int) (x2 : Int) (x3 : Int)  (σ : kS), k38 x1 x2 x3 σ = some (some yf, σf) → Rn l G dm_Rm_wholeLines m_Rm_wholeLines (kI fun y' σ' => y' = yf ∧ σ' = σf) 38 [some (.inr (9, 0)), some (.inl x1), some (.inl x2), some (.inl x3)] [] σ) {x1 : Int} {x2 : Int} {x3 : Int}  {σ : kS} (h : fb_Rm_wholeLines_43 k38 x1 x2 x3 σ = some (some yf, σf)) : Rn l G dm_Rm_wholeLines m_Rm_wholeLines (kI fun y' σ' => y' = yf ∧ σ' = σf) 43 [some (.inr (9, 0)), some (.inl x1), some (.inl x2), some (.inl x3)] [] σ := by
  unfold fb_Rm_wholeLines_43 at h
  obtain ⟨σ1, hc, h⟩ := kbu_some h
  refine s_Rm_wholeLines_43  (by decide) (E_Rm_closeLine hc) (fun σ2 e2 => ?_)
  subst e2
  exact e_Rm_wholeLines_50 hk38 h
def fb_Rm_wholeLines_38 (k38 : Int → Int → Int → kS → kRes) (x1 : Int) (x2 : Int) (x3 : Int) (σ : kS) : kRes := kg ((-2147483648 ≤ x3 ∧ x3 < 2147483648) ∧ (-2147483648 ≤ x2 ∧ x2 < 2147483648)) (if x2 < x3 then fb_Rm_wholeLines_56  x1 x2 x3 σ else fb_Rm_wholeLines_43 k38 x1 x2 x3 σ)
theorem e_Rm_wholeLines_38 {l : Launch} {G : kG} {yf : Int} {σf : kS} {k38 : Int → Int → Int → kS → kRes} (hk38 : ∀ (x1 : Int) (x2 : Int) (x3 : Int)  (σ : kS), k38 x1 x2 x3 σ = some (some yf, σf) → Rn l G dm_Rm_wholeLines m_Rm_wholeLines (kI fun y' σ' => y' = yf ∧ σ' = σf) 38 [some (.inr (9, 0)), some (.inl x1), some (.inl x2), some (.inl x3)] [] σ) {x1 : Int} {x2 : Int} {x3 : Int}  {σ : kS} (h : fb_Rm_wholeLines_38 k38 x1 x2 x3 σ = some (some yf, σf)) : Rn l G dm_Rm_wholeLines m_Rm_wholeLines (kI fun y' σ' => y' = yf ∧ σ' = σf) 38 [some (.inr (9, 0)), some (.inl x1), some (.inl x2), some (.inl x3)] [] σ := by
  unfold fb_Rm_wholeLines_38 at h
  obtain ⟨⟨h1, h2⟩, h⟩ := kg_some h
  refine s_Rm_wholeLines_38 h1 h2 (fun c => ?_) (fun c => ?_)
  · rw [if_pos c] at h
    exact e_Rm_wholeLines_56  h
  · rw [if_neg c] at h
    exact e_Rm_wholeLines_43 hk38 h
def fl_Rm_wholeLines_38  : Nat → Int → Int → Int → kS → kRes
  | 0, _, _, _, _ => none
  | n + 1, x1, x2, x3, σ => fb_Rm_wholeLines_38 (fl_Rm_wholeLines_38  n) x1 x2 x3 σ
theorem el_Rm_wholeLines_38 {l : Launch} {G : kG} {yf : Int} {σf : kS}  : ∀ (n : Nat) (x1 : Int) (x2 : Int) (x3 : Int)  (σ : kS), fl_Rm_wholeLines_38  n x1 x2 x3 σ = some (some yf, σf) → Rn l G dm_Rm_wholeLines m_Rm_wholeLines (kI fun y' σ' => y' = yf ∧ σ' = σf) 38 [some (.inr (9, 0)), some (.inl x1), some (.inl x2), some (.inl x3)] [] σ := by
  intro n
  induction n with
  | zero => intro x1 x2 x3 σ h; simp only [fl_Rm_wholeLines_38] at h; cases h
  | succ n ih => intro x1 x2 x3 σ h; simp only [fl_Rm_wholeLines_38] at h; exact e_Rm_wholeLines_38 ih h
def fb_Rm_wholeLines_34  (x1 : Int) (x2 : Int) (σ : kS) : kRes := fl_Rm_wholeLines_38  3000 x1 x2 (x1 + 1) σ
theorem e_Rm_wholeLines_34 {l : Launch} {G : kG} {yf : Int} {σf : kS}  {x1 : Int} {x2 : Int} {o3 : Option kV} {σ : kS} (h : fb_Rm_wholeLines_34  x1 x2 σ = some (some yf, σf)) : Rn l G dm_Rm_wholeLines m_Rm_wholeLines (kI fun y' σ' => y' = yf ∧ σ' = σf) 34 [some (.inr (9, 0)), some (.inl x1), some (.inl x2), o3] [] σ := by
  unfold fb_Rm_wholeLines_34 at h
  refine s_Rm_wholeLines_34  ?_
  exact el_Rm_wholeLines_38  _ _ _ _ _ h
def fb_Rm_wholeLines_32  (x1 : Int) (x2 : Int) (σ : kS) : kRes := some (some 3, σ)
theorem e_Rm_wholeLines_32 {l : Launch} {G : kG} {yf : Int} {σf : kS}  {x1 : Int} {x2 : Int} {o3 : Option kV} {σ : kS} (h : fb_Rm_wholeLines_32  x1 x2 σ = some (some yf, σf)) : Rn l G dm_Rm_wholeLines m_Rm_wholeLines (kI fun y' σ' => y' = yf ∧ σ' = σf) 32 [some (.inr (9, 0)), some (.inl x1), some (.inl x2), o3] [] σ := by
  unfold fb_Rm_wholeLines_32 at h
  simp only [Option.some.injEq, Prod.mk.injEq, true_and] at h
  exact s_Rm_wholeLines_32  ⟨_, rfl, h⟩
def fb_Rm_wholeLines_26  (x1 : Int) (x2 : Int) (σ : kS) : kRes := kbu (f_Rm_takeLines x1 x2 σ) fun σ1 => fb_Rm_wholeLines_32  x1 x2 σ1
theorem e_Rm_wholeLines_26 {l : Launch} {G : kG} {yf : Int} {σf : kS}  {x1 : Int} {x2 : Int} {o3 : Option kV} {σ : kS} (h : fb_Rm_wholeLines_26  x1 x2 σ = some (some yf, σf)) : Rn l G dm_Rm_wholeLines m_Rm_wholeLines (kI fun y' σ' => y' = yf ∧ σ' = σf) 26 [some (.inr (9, 0)), some (.inl x1), some (.inl x2), o3] [] σ := by
  unfold fb_Rm_wholeLines_26 at h
  obtain ⟨σ1, hc, h⟩ := kbu_some h
  refine s_Rm_wholeLines_26  (by decide) (E_Rm_takeLines hc) (fun σ2 e2 => ?_)
  subst e2
  exact e_Rm_wholeLines_32  h
def fb_Rm_wholeLines_17  (x1 : Int) (x2 : Int) (σ : kS) : kRes := kg ((-2147483648 ≤ σ 9 0 8 ∧ σ 9 0 8 < 2147483648)) (if (σ 9 0 8) = 100 then fb_Rm_wholeLines_26  x1 x2 σ else fb_Rm_wholeLines_34  x1 x2 σ)
theorem e_Rm_wholeLines_17 {l : Launch} {G : kG} {yf : Int} {σf : kS}  {x1 : Int} {x2 : Int} {o3 : Option kV} {σ : kS} (h : fb_Rm_wholeLines_17  x1 x2 σ = some (some yf, σf)) : Rn l G dm_Rm_wholeLines m_Rm_wholeLines (kI fun y' σ' => y' = yf ∧ σ' = σf) 17 [some (.inr (9, 0)), some (.inl x1), some (.inl x2), o3] [] σ := by
  unfold fb_Rm_wholeLines_17 at h
  obtain ⟨h1, h⟩ := kg_some h
  refine s_Rm_wholeLines_17 h1 (fun c => ?_) (fun c => ?_)
  · rw [if_neg c] at h
    exact e_Rm_wholeLines_34  h
  · rw [if_pos c] at h
    exact e_Rm_wholeLines_26  h
def fb_Rm_wholeLines_15  (x1 : Int) (x2 : Int) (σ : kS) : kRes := some (some 2, σ)
theorem e_Rm_wholeLines_15 {l : Launch} {G : kG} {yf : Int} {σf : kS}  {x1 : Int} {x2 : Int} {o3 : Option kV} {σ : kS} (h : fb_Rm_wholeLines_15  x1 x2 σ = some (some yf, σf)) : Rn l G dm_Rm_wholeLines m_Rm_wholeLines (kI fun y' σ' => y' = yf ∧ σ' = σf) 15 [some (.inr (9, 0)), some (.inl x1), some (.inl x2), o3] [] σ := by
  unfold fb_Rm_wholeLines_15 at h
  simp only [Option.some.injEq, Prod.mk.injEq, true_and] at h
  exact s_Rm_wholeLines_15  ⟨_, rfl, h⟩
def fb_Rm_wholeLines_6  (x1 : Int) (x2 : Int) (σ : kS) : kRes := kg ((-2147483648 ≤ σ 9 0 8 ∧ σ 9 0 8 < 2147483648)) (if (σ 9 0 8) = 121 then fb_Rm_wholeLines_15  x1 x2 σ else fb_Rm_wholeLines_17  x1 x2 σ)
theorem e_Rm_wholeLines_6 {l : Launch} {G : kG} {yf : Int} {σf : kS}  {x1 : Int} {x2 : Int} {o3 : Option kV} {σ : kS} (h : fb_Rm_wholeLines_6  x1 x2 σ = some (some yf, σf)) : Rn l G dm_Rm_wholeLines m_Rm_wholeLines (kI fun y' σ' => y' = yf ∧ σ' = σf) 6 [some (.inr (9, 0)), some (.inl x1), some (.inl x2), o3] [] σ := by
  unfold fb_Rm_wholeLines_6 at h
  obtain ⟨h1, h⟩ := kg_some h
  refine s_Rm_wholeLines_6 h1 (fun c => ?_) (fun c => ?_)
  · rw [if_neg c] at h
    exact e_Rm_wholeLines_17  h
  · rw [if_pos c] at h
    exact e_Rm_wholeLines_15  h
def fb_Rm_wholeLines_0  (x1 : Int) (x2 : Int) (σ : kS) : kRes := kbu (f_Rm_hold x1 x2 σ) fun σ1 => fb_Rm_wholeLines_6  x1 x2 σ1
theorem e_Rm_wholeLines_0 {l : Launch} {G : kG} {yf : Int} {σf : kS}  {x1 : Int} {x2 : Int} {o3 : Option kV} {σ : kS} (h : fb_Rm_wholeLines_0  x1 x2 σ = some (some yf, σf)) : Rn l G dm_Rm_wholeLines m_Rm_wholeLines (kI fun y' σ' => y' = yf ∧ σ' = σf) 0 [some (.inr (9, 0)), some (.inl x1), some (.inl x2), o3] [] σ := by
  unfold fb_Rm_wholeLines_0 at h
  obtain ⟨σ1, hc, h⟩ := kbu_some h
  refine s_Rm_wholeLines_0  (by decide) (E_Rm_hold hc) (fun σ2 e2 => ?_)
  subst e2
  exact e_Rm_wholeLines_6  h
def f_Rm_wholeLines (x1 : Int) (x2 : Int) (σ : kS) : kRes := fb_Rm_wholeLines_0 x1 x2 σ
theorem E_Rm_wholeLines {l : Launch} {G : kG} {yf : Int} {σf : kS} {x1 : Int} {x2 : Int} {σ : kS} (h : f_Rm_wholeLines x1 x2 σ = some (some yf, σf)) : Call l G dm_Rm_wholeLines y_Rm_wholeLines m_Rm_wholeLines [.inr (9, 0), .inl x1, .inl x2] σ (kI fun y' σ' => y' = yf ∧ σ' = σf) := by
  unfold f_Rm_wholeLines at h
  exact Call.of (by decide +kernel) rfl (Nat.le_of_ble_eq_true rfl) (e_Rm_wholeLines_0 h)
/-! Rm_operate -/
def fb_Rm_operate_345  (x1 : Int) (x2 : Int) (x3 : Int) (x4 : Int) (s0 : Int) (σ : kS) : kRes := some (some s0, σ)
theorem e_Rm_operate_345 {l : Launch} {G : kG} {yf : Int} {σf : kS}  {x1 : Int} {x2 : Int} {x3 : Int} {x4 : Int} {s0 : Int}  {σ : kS} (h : fb_Rm_operate_345  x1 x2 x3 x4 s0 σ = some (some yf, σf)) : Rn l G dm_Rm_operate m_Rm_operate (kI fun y' σ' => y' = yf ∧ σ' = σf) 345 [some (.inr (9, 0)), some (.inl x1), some (.inl x2), some (.inl x3), some (.inl x4)] [.inl s0] σ := by
  unfold fb_Rm_operate_345 at h
  simp only [Option.some.injEq, Prod.mk.injEq, true_and] at h
  exact s_Rm_operate_345  ⟨_, rfl, h⟩
def fb_Rm_operate_344  (x1 : Int) (x2 : Int) (x3 : Int) (x4 : Int) (σ : kS) : kRes := fb_Rm_operate_345  x1 x2 x3 x4 0 σ
theorem e_Rm_operate_344 {l : Launch} {G : kG} {yf : Int} {σf : kS}  {x1 : Int} {x2 : Int} {x3 : Int} {x4 : Int}  {σ : kS} (h : fb_Rm_operate_344  x1 x2 x3 x4 σ = some (some yf, σf)) : Rn l G dm_Rm_operate m_Rm_operate (kI fun y' σ' => y' = yf ∧ σ' = σf) 344 [some (.inr (9, 0)), some (.inl x1), some (.inl x2), some (.inl x3), some (.inl x4)] [] σ := by
  unfold fb_Rm_operate_344 at h
  refine s_Rm_operate_344  ?_
  exact e_Rm_operate_345  h
def fb_Rm_operate_341  (x1 : Int) (x2 : Int) (x3 : Int) (x4 : Int) (s0 : Int) (σ : kS) : kRes := fb_Rm_operate_345  x1 x2 x3 x4 s0 σ
theorem e_Rm_operate_341 {l : Launch} {G : kG} {yf : Int} {σf : kS}  {x1 : Int} {x2 : Int} {x3 : Int} {x4 : Int} {s0 : Int}  {σ : kS} (h : fb_Rm_operate_341  x1 x2 x3 x4 s0 σ = some (some yf, σf)) : Rn l G dm_Rm_operate m_Rm_operate (kI fun y' σ' => y' = yf ∧ σ' = σf) 341 [some (.inr (9, 0)), some (.inl x1), some (.inl x2), some (.inl x3), some (.inl x4)] [.inl s0] σ := by
  unfold fb_Rm_operate_341 at h
  refine s_Rm_operate_341  ?_
  exact e_Rm_operate_345  h
def fb_Rm_operate_327  (x1 : Int) (x2 : Int) (x3 : Int) (x4 : Int) (σ : kS) : kRes := kbi (f_Rm_characters (σ 9 0 17) (σ 24 0 0) σ) fun y σ1 => fb_Rm_operate_341  x1 x2 x3 x4 y σ1
theorem e_Rm_operate_327 {l : Launch} {G : kG} {yf : Int} {σf : kS}  {x1 : Int} {x2 : Int} {x3 : Int} {x4 : Int}  {σ : kS} (h : fb_Rm_operate_327  x1 x2 x3 x4 σ = some (some yf, σf)) : Rn l G dm_Rm_operate m_Rm_operate (kI fun y' σ' => y' = yf ∧ σ' = σf) 327 [some (.inr (9, 0)), some (.inl x1), some (.inl x2), some (.inl x3), some (.inl x4)] [] σ := by
  unfold fb_Rm_operate_327 at h
  obtain ⟨y, σ1, hc, h⟩ := kbi_some h
  refine s_Rm_operate_327  (by decide) (E_Rm_characters hc) (fun y2 σ2 e2 => ?_)
  obtain ⟨rfl, rfl⟩ := e2
  exact e_Rm_operate_341  h
def fb_Rm_operate_322  (x1 : Int) (x2 : Int) (x3 : Int) (x4 : Int) (σ : kS) : kRes := kg ((-2147483648 ≤ x4 ∧ x4 < 2147483648)) (if x4 = 0 then fb_Rm_operate_344  x1 x2 x3 x4 σ else fb_Rm_operate_327  x1 x2 x3 x4 σ)
theorem e_Rm_operate_322 {l : Launch} {G : kG} {yf : Int} {σf : kS}  {x1 : Int} {x2 : Int} {x3 : Int} {x4 : Int}  {σ : kS} (h : fb_Rm_operate_322  x1 x2 x3 x4 σ = some (some yf, σf)) : Rn l G dm_Rm_operate m_Rm_operate (kI fun y' σ' => y' = yf ∧ σ' = σf) 322 [some (.inr (9, 0)), some (.inl x1), some (.inl x2), some (.inl x3), some (.inl x4)] [] σ := by
  unfold fb_Rm_operate_322 at h
  obtain ⟨h1, h⟩ := kg_some h
  refine s_Rm_operate_322 h1 (fun c => ?_) (fun c => ?_)
  · rw [if_pos c] at h
    exact e_Rm_operate_344  h
  · rw [if_neg c] at h
    exact e_Rm_operate_327  h
def fb_Rm_operate_321  (x1 : Int) (x2 : Int) (x3 : Int) (x4 : Int) (s0 : Int) (σ : kS) : kRes := some (some s0, σ)
theorem e_Rm_operate_321 {l : Launch} {G : kG} {yf : Int} {σf : kS}  {x1 : Int} {x2 : Int} {x3 : Int} {x4 : Int} {s0 : Int}  {σ : kS} (h : fb_Rm_operate_321  x1 x2 x3 x4 s0 σ = some (some yf, σf)) : Rn l G dm_Rm_operate m_Rm_operate (kI fun y' σ' => y' = yf ∧ σ' = σf) 321 [some (.inr (9, 0)), some (.inl x1), some (.inl x2), some (.inl x3), some (.inl x4)] [.inl s0] σ := by
  unfold fb_Rm_operate_321 at h
  simp only [Option.some.injEq, Prod.mk.injEq, true_and] at h
  exact s_Rm_operate_321  ⟨_, rfl, h⟩
def fb_Rm_operate_318  (x1 : Int) (x2 : Int) (x3 : Int) (x4 : Int) (s0 : Int) (s1 : Int) (σ : kS) : kRes := kbi (f_Rm_characters s1 s0 σ) fun y σ1 => fb_Rm_operate_321  x1 x2 x3 x4 y σ1
theorem e_Rm_operate_318 {l : Launch} {G : kG} {yf : Int} {σf : kS}  {x1 : Int} {x2 : Int} {x3 : Int} {x4 : Int} {s0 : Int} {s1 : Int}  {σ : kS} (h : fb_Rm_operate_318  x1 x2 x3 x4 s0 s1 σ = some (some yf, σf)) : Rn l G dm_Rm_operate m_Rm_operate (kI fun y' σ' => y' = yf ∧ σ' = σf) 318 [some (.inr (9, 0)), some (.inl x1), some (.inl x2), some (.inl x3), some (.inl x4)] [.inl s0, .inl s1, .inr (9, 0)] σ := by
  unfold fb_Rm_operate_318 at h
  obtain ⟨y, σ1, hc, h⟩ := kbi_some h
  refine s_Rm_operate_318  (by decide) (E_Rm_characters hc) (fun y2 σ2 e2 => ?_)
  obtain ⟨rfl, rfl⟩ := e2
  exact e_Rm_operate_321  h
def fb_Rm_operate_312  (x1 : Int) (x2 : Int) (x3 : Int) (x4 : Int) (s0 : Int) (σ : kS) : kRes := kg ((0 ≤ x3 ∧ x3 < (100 : Nat))) (fb_Rm_operate_318  x1 x2 x3 x4 (σ 21 0 (Int.toNat x3)) s0 σ)
theorem e_Rm_operate_312 {l : Launch} {G : kG} {yf : Int} {σf : kS}  {x1 : Int} {x2 : Int} {x3 : Int} {x4 : Int} {s0 : Int}  {σ : kS} (h : fb_Rm_operate_312  x1 x2 x3 x4 s0 σ = some (some yf, σf)) : Rn l G dm_Rm_operate m_Rm_operate (kI fun y' σ' => y' = yf ∧ σ' = σf) 312 [some (.inr (9, 0)), some (.inl x1), some (.inl x2), some (.inl x3), some (.inl x4)] [.inl s0, .inr (9, 0)] σ := by
  unfold fb_Rm_operate_312 at h
  obtain ⟨h1, h⟩ := kg_some h
  refine s_Rm_operate_312 h1 ?_
  exact e_Rm_operate_318  h
def fb_Rm_operate_305  (x1 : Int) (x2 : Int) (x3 : Int) (x4 : Int) (s0 : Int) (σ : kS) : kRes := fb_Rm_operate_318  x1 x2 x3 x4 (σ 9 0 17) s0 σ
theorem e_Rm_operate_305 {l : Launch} {G : kG} {yf : Int} {σf : kS}  {x1 : Int} {x2 : Int} {x3 : Int} {x4 : Int} {s0 : Int}  {σ : kS} (h : fb_Rm_operate_305  x1 x2 x3 x4 s0 σ = some (some yf, σf)) : Rn l G dm_Rm_operate m_Rm_operate (kI fun y' σ' => y' = yf ∧ σ' = σf) 305 [some (.inr (9, 0)), some (.inl x1), some (.inl x2), some (.inl x3), some (.inl x4)] [.inl s0, .inr (9, 0)] σ := by
  unfold fb_Rm_operate_305 at h
  refine s_Rm_operate_305  ?_
  exact e_Rm_operate_318  h
def fb_Rm_operate_293  (x1 : Int) (x2 : Int) (x3 : Int) (x4 : Int) (σ : kS) : kRes := kg ((-2147483648 ≤ x4 ∧ x4 < 2147483648)) (if x4 = 0 then fb_Rm_operate_312  x1 x2 x3 x4 (σ 24 0 0) σ else fb_Rm_operate_305  x1 x2 x3 x4 (σ 24 0 0) σ)
theorem e_Rm_operate_293 {l : Launch} {G : kG} {yf : Int} {σf : kS}  {x1 : Int} {x2 : Int} {x3 : Int} {x4 : Int}  {σ : kS} (h : fb_Rm_operate_293  x1 x2 x3 x4 σ = some (some yf, σf)) : Rn l G dm_Rm_operate m_Rm_operate (kI fun y' σ' => y' = yf ∧ σ' = σf) 293 [some (.inr (9, 0)), some (.inl x1), some (.inl x2), some (.inl x3), some (.inl x4)] [] σ := by
  unfold fb_Rm_operate_293 at h
  obtain ⟨h1, h⟩ := kg_some h
  refine s_Rm_operate_293 h1 (fun c => ?_) (fun c => ?_)
  · rw [if_pos c] at h
    exact e_Rm_operate_312  h
  · rw [if_neg c] at h
    exact e_Rm_operate_305  h
def fb_Rm_operate_285  (x1 : Int) (x2 : Int) (x3 : Int) (s0 : Int) (σ : kS) : kRes := kg ((-2147483648 ≤ x1 ∧ x1 < 2147483648)) (if x1 = 119 then fb_Rm_operate_293  x1 x2 x3 s0 σ else fb_Rm_operate_322  x1 x2 x3 s0 σ)
theorem e_Rm_operate_285 {l : Launch} {G : kG} {yf : Int} {σf : kS}  {x1 : Int} {x2 : Int} {x3 : Int} {s0 : Int} {o4 : Option kV} {σ : kS} (h : fb_Rm_operate_285  x1 x2 x3 s0 σ = some (some yf, σf)) : Rn l G dm_Rm_operate m_Rm_operate (kI fun y' σ' => y' = yf ∧ σ' = σf) 285 [some (.inr (9, 0)), some (.inl x1), some (.inl x2), some (.inl x3), o4] [.inl s0] σ := by
  unfold fb_Rm_operate_285 at h
  obtain ⟨h1, h⟩ := kg_some h
  refine s_Rm_operate_285 h1 (fun c => ?_) (fun c => ?_)
  · rw [if_neg c] at h
    exact e_Rm_operate_322  h
  · rw [if_pos c] at h
    exact e_Rm_operate_293  h
def fb_Rm_operate_284  (x1 : Int) (x2 : Int) (x3 : Int) (σ : kS) : kRes := fb_Rm_operate_285  x1 x2 x3 0 σ
theorem e_Rm_operate_284 {l : Launch} {G : kG} {yf : Int} {σf : kS}  {x1 : Int} {x2 : Int} {x3 : Int} {o4 : Option kV} {σ : kS} (h : fb_Rm_operate_284  x1 x2 x3 σ = some (some yf, σf)) : Rn l G dm_Rm_operate m_Rm_operate (kI fun y' σ' => y' = yf ∧ σ' = σf) 284 [some (.inr (9, 0)), some (.inl x1), some (.inl x2), some (.inl x3), o4] [] σ := by
  unfold fb_Rm_operate_284 at h
  refine s_Rm_operate_284  ?_
  exact e_Rm_operate_285  h
def fb_Rm_operate_280  (x1 : Int) (x2 : Int) (x3 : Int) (σ : kS) : kRes := fb_Rm_operate_285  x1 x2 x3 1 σ
theorem e_Rm_operate_280 {l : Launch} {G : kG} {yf : Int} {σf : kS}  {x1 : Int} {x2 : Int} {x3 : Int} {o4 : Option kV} {σ : kS} (h : fb_Rm_operate_280  x1 x2 x3 σ = some (some yf, σf)) : Rn l G dm_Rm_operate m_Rm_operate (kI fun y' σ' => y' = yf ∧ σ' = σf) 280 [some (.inr (9, 0)), some (.inl x1), some (.inl x2), some (.inl x3), o4] [] σ := by
  unfold fb_Rm_operate_280 at h
  refine s_Rm_operate_280  ?_
  exact e_Rm_operate_285  h
def fb_Rm_operate_272  (x1 : Int) (x2 : Int) (x3 : Int) (σ : kS) : kRes := kg ((-2147483648 ≤ σ 9 0 16 ∧ σ 9 0 16 < 2147483648) ∧ (-2147483648 ≤ x3 ∧ x3 < 2147483648)) (if (σ 9 0 16) = x3 then fb_Rm_operate_280  x1 x2 x3 σ else fb_Rm_operate_284  x1 x2 x3 σ)
theorem e_Rm_operate_272 {l : Launch} {G : kG} {yf : Int} {σf : kS}  {x1 : Int} {x2 : Int} {x3 : Int} {o4 : Option kV} {σ : kS} (h : fb_Rm_operate_272  x1 x2 x3 σ = some (some yf, σf)) : Rn l G dm_Rm_operate m_Rm_operate (kI fun y' σ' => y' = yf ∧ σ' = σf) 272 [some (.inr (9, 0)), some (.inl x1), some (.inl x2), some (.inl x3), o4] [] σ := by
  unfold fb_Rm_operate_272 at h
  obtain ⟨⟨h1, h2⟩, h⟩ := kg_some h
  refine s_Rm_operate_272 h1 h2 (fun c => ?_) (fun c => ?_)
  · rw [if_neg c] at h
    exact e_Rm_operate_284  h
  · rw [if_pos c] at h
    exact e_Rm_operate_280  h
def fb_Rm_operate_269  (x1 : Int) (x2 : Int) (x3 : Int) (s0 : Int) (σ : kS) : kRes := kg ((-2147483648 ≤ s0 ∧ s0 < 2147483648)) (if s0 = 0 then fb_Rm_operate_284  x1 x2 x3 σ else fb_Rm_operate_272  x1 x2 x3 σ)
theorem e_Rm_operate_269 {l : Launch} {G : kG} {yf : Int} {σf : kS}  {x1 : Int} {x2 : Int} {x3 : Int} {s0 : Int} {o4 : Option kV} {σ : kS} (h : fb_Rm_operate_269  x1 x2 x3 s0 σ = some (some yf, σf)) : Rn l G dm_Rm_operate m_Rm_operate (kI fun y' σ' => y' = yf ∧ σ' = σf) 269 [some (.inr (9, 0)), some (.inl x1), some (.inl x2), some (.inl x3), o4] [.inl s0] σ := by
  unfold fb_Rm_operate_269 at h
  obtain ⟨h1, h⟩ := kg_some h
  refine s_Rm_operate_269 h1 (fun c => ?_) (fun c => ?_)
  · rw [if_pos c] at h
    exact e_Rm_operate_284  h
  · rw [if_neg c] at h
    exact e_Rm_operate_272  h
def fb_Rm_operate_263  (x1 : Int) (x2 : Int) (x3 : Int) (σ : kS) : kRes := kbi (f_Rm_motion x1 x2 σ) fun y σ1 => fb_Rm_operate_269  x1 x2 x3 y σ1
theorem e_Rm_operate_263 {l : Launch} {G : kG} {yf : Int} {σf : kS}  {x1 : Int} {x2 : Int} {x3 : Int} {o4 : Option kV} {σ : kS} (h : fb_Rm_operate_263  x1 x2 x3 σ = some (some yf, σf)) : Rn l G dm_Rm_operate m_Rm_operate (kI fun y' σ' => y' = yf ∧ σ' = σf) 263 [some (.inr (9, 0)), some (.inl x1), some (.inl x2), some (.inl x3), o4] [] σ := by
  unfold fb_Rm_operate_263 at h
  obtain ⟨y, σ1, hc, h⟩ := kbi_some h
  refine s_Rm_operate_263  (by decide) (E_Rm_motion hc) (fun y2 σ2 e2 => ?_)
  obtain ⟨rfl, rfl⟩ := e2
  exact e_Rm_operate_269  h
def fb_Rm_operate_261  (x1 : Int) (x2 : Int) (x3 : Int) (σ : kS) : kRes := some (some 0, σ)
theorem e_Rm_operate_261 {l : Launch} {G : kG} {yf : Int} {σf : kS}  {x1 : Int} {x2 : Int} {x3 : Int} {o4 : Option kV} {σ : kS} (h : fb_Rm_operate_261  x1 x2 x3 σ = some (some yf, σf)) : Rn l G dm_Rm_operate m_Rm_operate (kI fun y' σ' => y' = yf ∧ σ' = σf) 261 [some (.inr (9, 0)), some (.inl x1), some (.inl x2), some (.inl x3), o4] [] σ := by
  unfold fb_Rm_operate_261 at h
  simp only [Option.some.injEq, Prod.mk.injEq, true_and] at h
  exact s_Rm_operate_261  ⟨_, rfl, h⟩
def fb_Rm_operate_255  (x1 : Int) (x2 : Int) (x3 : Int) (σ : kS) : kRes := kg ((-2147483648 ≤ x1 ∧ x1 < 2147483648)) (if x1 = 98 then fb_Rm_operate_263  x1 x2 x3 σ else fb_Rm_operate_261  x1 x2 x3 σ)
theorem e_Rm_operate_255 {l : Launch} {G : kG} {yf : Int} {σf : kS}  {x1 : Int} {x2 : Int} {x3 : Int} {o4 : Option kV} {σ : kS} (h : fb_Rm_operate_255  x1 x2 x3 σ = some (some yf, σf)) : Rn l G dm_Rm_operate m_Rm_operate (kI fun y' σ' => y' = yf ∧ σ' = σf) 255 [some (.inr (9, 0)), some (.inl x1), some (.inl x2), some (.inl x3), o4] [] σ := by
  unfold fb_Rm_operate_255 at h
  obtain ⟨h1, h⟩ := kg_some h
  refine s_Rm_operate_255 h1 (fun c => ?_) (fun c => ?_)
  · rw [if_pos c] at h
    exact e_Rm_operate_263  h
  · rw [if_neg c] at h
    exact e_Rm_operate_261  h
def fb_Rm_operate_249  (x1 : Int) (x2 : Int) (x3 : Int) (σ : kS) : kRes := kg ((-2147483648 ≤ x1 ∧ x1 < 2147483648)) (if x1 = 119 then fb_Rm_operate_263  x1 x2 x3 σ else fb_Rm_operate_255  x1 x2 x3 σ)
theorem e_Rm_operate_249 {l : Launch} {G : kG} {yf : Int} {σf : kS}  {x1 : Int} {x2 : Int} {x3 : Int} {o4 : Option kV} {σ : kS} (h : fb_Rm_operate_249  x1 x2 x3 σ = some (some yf, σf)) : Rn l G dm_Rm_operate m_Rm_operate (kI fun y' σ' => y' = yf ∧ σ' = σf) 249 [some (.inr (9, 0)), some (.inl x1), some (.inl x2), some (.inl x3), o4] [] σ := by
  unfold fb_Rm_operate_249 at h
  obtain ⟨h1, h⟩ := kg_some h
  refine s_Rm_operate_249 h1 (fun c => ?_) (fun c => ?_)
  · rw [if_pos c] at h
    exact e_Rm_operate_263  h
  · rw [if_neg c] at h
    exact e_Rm_operate_255  h
def fb_Rm_operate_248  (x1 : Int) (x2 : Int) (x3 : Int) (s0 : Int) (σ : kS) : kRes := some (some s0, σ)
theorem e_Rm_operate_248 {l : Launch} {G : kG} {yf : Int} {σf : kS}  {x1 : Int} {x2 : Int} {x3 : Int} {s0 : Int} {o4 : Option kV} {σ : kS} (h : fb_Rm_operate_248  x1 x2 x3 s0 σ = some (some yf, σf)) : Rn l G dm_Rm_operate m_Rm_operate (kI fun y' σ' => y' = yf ∧ σ' = σf) 248 [some (.inr (9, 0)), some (.inl x1), some (.inl x2), some (.inl x3), o4] [.inl s0] σ := by
  unfold fb_Rm_operate_248 at h
  simp only [Option.some.injEq, Prod.mk.injEq, true_and] at h
  exact s_Rm_operate_248  ⟨_, rfl, h⟩
def fb_Rm_operate_245  (x1 : Int) (x2 : Int) (x3 : Int) (s0 : Int) (s1 : Int) (σ : kS) : kRes := kbi (f_Rm_characters s1 s0 σ) fun y σ1 => fb_Rm_operate_248  x1 x2 x3 y σ1
theorem e_Rm_operate_245 {l : Launch} {G : kG} {yf : Int} {σf : kS}  {x1 : Int} {x2 : Int} {x3 : Int} {s0 : Int} {s1 : Int} {o4 : Option kV} {σ : kS} (h : fb_Rm_operate_245  x1 x2 x3 s0 s1 σ = some (some yf, σf)) : Rn l G dm_Rm_operate m_Rm_operate (kI fun y' σ' => y' = yf ∧ σ' = σf) 245 [some (.inr (9, 0)), some (.inl x1), some (.inl x2), some (.inl x3), o4] [.inl s0, .inl s1, .inr (9, 0)] σ := by
  unfold fb_Rm_operate_245 at h
  obtain ⟨y, σ1, hc, h⟩ := kbi_some h
  refine s_Rm_operate_245  (by decide) (E_Rm_characters hc) (fun y2 σ2 e2 => ?_)
  obtain ⟨rfl, rfl⟩ := e2
  exact e_Rm_operate_248  h
def fb_Rm_operate_239  (x1 : Int) (x2 : Int) (x3 : Int) (s0 : Int) (σ : kS) : kRes := kg ((0 ≤ x3 ∧ x3 < (100 : Nat))) (fb_Rm_operate_245  x1 x2 x3 (σ 21 0 (Int.toNat x3)) s0 σ)
theorem e_Rm_operate_239 {l : Launch} {G : kG} {yf : Int} {σf : kS}  {x1 : Int} {x2 : Int} {x3 : Int} {s0 : Int} {o4 : Option kV} {σ : kS} (h : fb_Rm_operate_239  x1 x2 x3 s0 σ = some (some yf, σf)) : Rn l G dm_Rm_operate m_Rm_operate (kI fun y' σ' => y' = yf ∧ σ' = σf) 239 [some (.inr (9, 0)), some (.inl x1), some (.inl x2), some (.inl x3), o4] [.inl s0, .inr (9, 0)] σ := by
  unfold fb_Rm_operate_239 at h
  obtain ⟨h1, h⟩ := kg_some h
  refine s_Rm_operate_239 h1 ?_
  exact e_Rm_operate_245  h
def fb_Rm_operate_228  (x1 : Int) (x2 : Int) (x3 : Int) (s0 : Int) (σ : kS) : kRes := fb_Rm_operate_245  x1 x2 x3 ((σ 24 0 0) + x2) s0 σ
theorem e_Rm_operate_228 {l : Launch} {G : kG} {yf : Int} {σf : kS}  {x1 : Int} {x2 : Int} {x3 : Int} {s0 : Int} {o4 : Option kV} {σ : kS} (h : fb_Rm_operate_228  x1 x2 x3 s0 σ = some (some yf, σf)) : Rn l G dm_Rm_operate m_Rm_operate (kI fun y' σ' => y' = yf ∧ σ' = σf) 228 [some (.inr (9, 0)), some (.inl x1), some (.inl x2), some (.inl x3), o4] [.inl s0, .inr (9, 0)] σ := by
  unfold fb_Rm_operate_228 at h
  refine s_Rm_operate_228  ?_
  exact e_Rm_operate_245  h
def fb_Rm_operate_204  (x1 : Int) (x2 : Int) (x3 : Int) (σ : kS) : kRes := kg ((0 ≤ x3 ∧ x3 < (100 : Nat)) ∧ (-2147483648 ≤ (σ 24 0 0) + x2 ∧ (σ 24 0 0) + x2 < 2147483648) ∧ (-2147483648 ≤ σ 21 0 (Int.toNat x3) ∧ σ 21 0 (Int.toNat x3) < 2147483648)) (if (σ 21 0 (Int.toNat x3)) ≤ ((σ 24 0 0) + x2) then fb_Rm_operate_239  x1 x2 x3 (σ 24 0 0) σ else fb_Rm_operate_228  x1 x2 x3 (σ 24 0 0) σ)
theorem e_Rm_operate_204 {l : Launch} {G : kG} {yf : Int} {σf : kS}  {x1 : Int} {x2 : Int} {x3 : Int} {o4 : Option kV} {σ : kS} (h : fb_Rm_operate_204  x1 x2 x3 σ = some (some yf, σf)) : Rn l G dm_Rm_operate m_Rm_operate (kI fun y' σ' => y' = yf ∧ σ' = σf) 204 [some (.inr (9, 0)), some (.inl x1), some (.inl x2), some (.inl x3), o4] [] σ := by
  unfold fb_Rm_operate_204 at h
  obtain ⟨⟨h1, h2, h3⟩, h⟩ := kg_some h
  refine s_Rm_operate_204 h1 h2 h3 (fun c => ?_) (fun c => ?_)
  · rw [if_pos c] at h
    exact e_Rm_operate_239  h
  · rw [if_neg c] at h
    exact e_Rm_operate_228  h
def fb_Rm_operate_198  (x1 : Int) (x2 : Int) (x3 : Int) (σ : kS) : kRes := kg ((-2147483648 ≤ x1 ∧ x1 < 2147483648)) (if x1 = 108 then fb_Rm_operate_204  x1 x2 x3 σ else fb_Rm_operate_249  x1 x2 x3 σ)
theorem e_Rm_operate_198 {l : Launch} {G : kG} {yf : Int} {σf : kS}  {x1 : Int} {x2 : Int} {x3 : Int} {o4 : Option kV} {σ : kS} (h : fb_Rm_operate_198  x1 x2 x3 σ = some (some yf, σf)) : Rn l G dm_Rm_operate m_Rm_operate (kI fun y' σ' => y' = yf ∧ σ' = σf) 198 [some (.inr (9, 0)), some (.inl x1), some (.inl x2), some (.inl x3), o4] [] σ := by
  unfold fb_Rm_operate_198 at h
  obtain ⟨h1, h⟩ := kg_some h
  refine s_Rm_operate_198 h1 (fun c => ?_) (fun c => ?_)
  · rw [if_neg c] at h
    exact e_Rm_operate_249  h
  · rw [if_pos c] at h
    exact e_Rm_operate_204  h
def fb_Rm_operate_197  (x1 : Int) (x2 : Int) (x3 : Int) (s0 : Int) (σ : kS) : kRes := some (some s0, σ)
theorem e_Rm_operate_197 {l : Launch} {G : kG} {yf : Int} {σf : kS}  {x1 : Int} {x2 : Int} {x3 : Int} {s0 : Int} {o4 : Option kV} {σ : kS} (h : fb_Rm_operate_197  x1 x2 x3 s0 σ = some (some yf, σf)) : Rn l G dm_Rm_operate m_Rm_operate (kI fun y' σ' => y' = yf ∧ σ' = σf) 197 [some (.inr (9, 0)), some (.inl x1), some (.inl x2), some (.inl x3), o4] [.inl s0] σ := by
  unfold fb_Rm_operate_197 at h
  simp only [Option.some.injEq, Prod.mk.injEq, true_and] at h
  exact s_Rm_operate_197  ⟨_, rfl, h⟩
def fb_Rm_operate_188  (x1 : Int) (x2 : Int) (x3 : Int) (s0 : Int) (σ : kS) : kRes := kbi (f_Rm_characters s0 (σ 24 0 0) σ) fun y σ1 => fb_Rm_operate_197  x1 x2 x3 y σ1
theorem e_Rm_operate_188 {l : Launch} {G : kG} {yf : Int} {σf : kS}  {x1 : Int} {x2 : Int} {x3 : Int} {s0 : Int} {o4 : Option kV} {σ : kS} (h : fb_Rm_operate_188  x1 x2 x3 s0 σ = some (some yf, σf)) : Rn l G dm_Rm_operate m_Rm_operate (kI fun y' σ' => y' = yf ∧ σ' = σf) 188 [some (.inr (9, 0)), some (.inl x1), some (.inl x2), some (.inl x3), o4] [.inl s0, .inr (9, 0)] σ := by
  unfold fb_Rm_operate_188 at h
  obtain ⟨y, σ1, hc, h⟩ := kbi_some h
  refine s_Rm_operate_188  (by decide) (E_Rm_characters hc) (fun y2 σ2 e2 => ?_)
  obtain ⟨rfl, rfl⟩ := e2
  exact e_Rm_operate_197  h
def fb_Rm_operate_187  (x1 : Int) (x2 : Int) (x3 : Int) (σ : kS) : kRes := fb_Rm_operate_188  x1 x2 x3 0 σ
theorem e_Rm_operate_187 {l : Launch} {G : kG} {yf : Int} {σf : kS}  {x1 : Int} {x2 : Int} {x3 : Int} {o4 : Option kV} {σ : kS} (h : fb_Rm_operate_187  x1 x2 x3 σ = some (some yf, σf)) : Rn l G dm_Rm_operate m_Rm_operate (kI fun y' σ' => y' = yf ∧ σ' = σf) 187 [some (.inr (9, 0)), some (.inl x1), some (.inl x2), some (.inl x3), o4] [.inr (9, 0)] σ := by
  unfold fb_Rm_operate_187 at h
  refine s_Rm_operate_187  ?_
  exact e_Rm_operate_188  h
def fb_Rm_operate_176  (x1 : Int) (x2 : Int) (x3 : Int) (σ : kS) : kRes := fb_Rm_operate_188  x1 x2 x3 ((σ 24 0 0) - x2) σ
theorem e_Rm_operate_176 {l : Launch} {G : kG} {yf : Int} {σf : kS}  {x1 : Int} {x2 : Int} {x3 : Int} {o4 : Option kV} {σ : kS} (h : fb_Rm_operate_176  x1 x2 x3 σ = some (some yf, σf)) : Rn l G dm_Rm_operate m_Rm_operate (kI fun y' σ' => y' = yf ∧ σ' = σf) 176 [some (.inr (9, 0)), some (.inl x1), some (.inl x2), some (.inl x3), o4] [.inr (9, 0)] σ := by
  unfold fb_Rm_operate_176 at h
  refine s_Rm_operate_176  ?_
  exact e_Rm_operate_188  h
def fb_Rm_operate_165  (x1 : Int) (x2 : Int) (x3 : Int) (σ : kS) : kRes := kg ((-2147483648 ≤ σ 24 0 0 ∧ σ 24 0 0 < 2147483648) ∧ (-2147483648 ≤ x2 ∧ x2 < 2147483648)) (if (σ 24 0 0) ≤ x2 then fb_Rm_operate_187  x1 x2 x3 σ else fb_Rm_operate_176  x1 x2 x3 σ)
theorem e_Rm_operate_165 {l : Launch} {G : kG} {yf : Int} {σf : kS}  {x1 : Int} {x2 : Int} {x3 : Int} {o4 : Option kV} {σ : kS} (h : fb_Rm_operate_165  x1 x2 x3 σ = some (some yf, σf)) : Rn l G dm_Rm_operate m_Rm_operate (kI fun y' σ' => y' = yf ∧ σ' = σf) 165 [some (.inr (9, 0)), some (.inl x1), some (.inl x2), some (.inl x3), o4] [] σ := by
  unfold fb_Rm_operate_165 at h
  obtain ⟨⟨h1, h2⟩, h⟩ := kg_some h
  refine s_Rm_operate_165 h1 h2 (fun c => ?_) (fun c => ?_)
  · rw [if_pos c] at h
    exact e_Rm_operate_187  h
  · rw [if_neg c] at h
    exact e_Rm_operate_176  h
def fb_Rm_operate_159  (x1 : Int) (x2 : Int) (x3 : Int) (σ : kS) : kRes := kg ((-2147483648 ≤ x1 ∧ x1 < 2147483648)) (if x1 = 104 then fb_Rm_operate_165  x1 x2 x3 σ else fb_Rm_operate_198  x1 x2 x3 σ)
theorem e_Rm_operate_159 {l : Launch} {G : kG} {yf : Int} {σf : kS}  {x1 : Int} {x2 : Int} {x3 : Int} {o4 : Option kV} {σ : kS} (h : fb_Rm_operate_159  x1 x2 x3 σ = some (some yf, σf)) : Rn l G dm_Rm_operate m_Rm_operate (kI fun y' σ' => y' = yf ∧ σ' = σf) 159 [some (.inr (9, 0)), some (.inl x1), some (.inl x2), some (.inl x3), o4] [] σ := by
  unfold fb_Rm_operate_159 at h
  obtain ⟨h1, h⟩ := kg_some h
  refine s_Rm_operate_159 h1 (fun c => ?_) (fun c => ?_)
  · rw [if_neg c] at h
    exact e_Rm_operate_198  h
  · rw [if_pos c] at h
    exact e_Rm_operate_165  h
def fb_Rm_operate_158  (x1 : Int) (x2 : Int) (x3 : Int) (s0 : Int) (σ : kS) : kRes := some (some s0, σ)
theorem e_Rm_operate_158 {l : Launch} {G : kG} {yf : Int} {σf : kS}  {x1 : Int} {x2 : Int} {x3 : Int} {s0 : Int} {o4 : Option kV} {σ : kS} (h : fb_Rm_operate_158  x1 x2 x3 s0 σ = some (some yf, σf)) : Rn l G dm_Rm_operate m_Rm_operate (kI fun y' σ' => y' = yf ∧ σ' = σf) 158 [some (.inr (9, 0)), some (.inl x1), some (.inl x2), some (.inl x3), o4] [.inl s0] σ := by
  unfold fb_Rm_operate_158 at h
  simp only [Option.some.injEq, Prod.mk.injEq, true_and] at h
  exact s_Rm_operate_158  ⟨_, rfl, h⟩
def fb_Rm_operate_149  (x1 : Int) (x2 : Int) (x3 : Int) (σ : kS) : kRes := kbi (f_Rm_wholeLines x3 (σ 9 0 16) σ) fun y σ1 => fb_Rm_operate_158  x1 x2 x3 y σ1
theorem e_Rm_operate_149 {l : Launch} {G : kG} {yf : Int} {σf : kS}  {x1 : Int} {x2 : Int} {x3 : Int} {o4 : Option kV} {σ : kS} (h : fb_Rm_operate_149  x1 x2 x3 σ = some (some yf, σf)) : Rn l G dm_Rm_operate m_Rm_operate (kI fun y' σ' => y' = yf ∧ σ' = σf) 149 [some (.inr (9, 0)), some (.inl x1), some (.inl x2), some (.inl x3), o4] [] σ := by
  unfold fb_Rm_operate_149 at h
  obtain ⟨y, σ1, hc, h⟩ := kbi_some h
  refine s_Rm_operate_149  (by decide) (E_Rm_wholeLines hc) (fun y2 σ2 e2 => ?_)
  obtain ⟨rfl, rfl⟩ := e2
  exact e_Rm_operate_158  h
def fb_Rm_operate_146  (x1 : Int) (x2 : Int) (x3 : Int) (s0 : Int) (σ : kS) : kRes := fb_Rm_operate_158  x1 x2 x3 s0 σ
theorem e_Rm_operate_146 {l : Launch} {G : kG} {yf : Int} {σf : kS}  {x1 : Int} {x2 : Int} {x3 : Int} {s0 : Int} {o4 : Option kV} {σ : kS} (h : fb_Rm_operate_146  x1 x2 x3 s0 σ = some (some yf, σf)) : Rn l G dm_Rm_operate m_Rm_operate (kI fun y' σ' => y' = yf ∧ σ' = σf) 146 [some (.inr (9, 0)), some (.inl x1), some (.inl x2), some (.inl x3), o4] [.inl s0] σ := by
  unfold fb_Rm_operate_146 at h
  refine s_Rm_operate_146  ?_
  exact e_Rm_operate_158  h
def fb_Rm_operate_137  (x1 : Int) (x2 : Int) (x3 : Int) (σ : kS) : kRes := kbi (f_Rm_wholeLines (σ 9 0 16) x3 σ) fun y σ1 => fb_Rm_operate_146  x1 x2 x3 y σ1
theorem e_Rm_operate_137 {l : Launch} {G : kG} {yf : Int} {σf : kS}  {x1 : Int} {x2 : Int} {x3 : Int} {o4 : Option kV} {σ : kS} (h : fb_Rm_operate_137  x1 x2 x3 σ = some (some yf, σf)) : Rn l G dm_Rm_operate m_Rm_operate (kI fun y' σ' => y' = yf ∧ σ' = σf) 137 [some (.inr (9, 0)), some (.inl x1), some (.inl x2), some (.inl x3), o4] [] σ := by
  unfold fb_Rm_operate_137 at h
  obtain ⟨y, σ1, hc, h⟩ := kbi_some h
  refine s_Rm_operate_137  (by decide) (E_Rm_wholeLines hc) (fun y2 σ2 e2 => ?_)
  obtain ⟨rfl, rfl⟩ := e2
  exact e_Rm_operate_146  h
def fb_Rm_operate_129  (x1 : Int) (x2 : Int) (x3 : Int) (σ : kS) : kRes := kg ((-2147483648 ≤ σ 9 0 16 ∧ σ 9 0 16 < 2147483648) ∧ (-2147483648 ≤ x3 ∧ x3 < 2147483648)) (if x3 ≤ (σ 9 0 16) then fb_Rm_operate_149  x1 x2 x3 σ else fb_Rm_operate_137  x1 x2 x3 σ)
theorem e_Rm_operate_129 {l : Launch} {G : kG} {yf : Int} {σf : kS}  {x1 : Int} {x2 : Int} {x3 : Int} {o4 : Option kV} {σ : kS} (h : fb_Rm_operate_129  x1 x2 x3 σ = some (some yf, σf)) : Rn l G dm_Rm_operate m_Rm_operate (kI fun y' σ' => y' = yf ∧ σ' = σf) 129 [some (.inr (9, 0)), some (.inl x1), some (.inl x2), some (.inl x3), o4] [] σ := by
  unfold fb_Rm_operate_129 at h
  obtain ⟨⟨h1, h2⟩, h⟩ := kg_some h
  refine s_Rm_operate_129 h1 h2 (fun c => ?_) (fun c => ?_)
  · rw [if_pos c] at h
    exact e_Rm_operate_149  h
  · rw [if_neg c] at h
    exact e_Rm_operate_137  h
def fb_Rm_operate_127  (x1 : Int) (x2 : Int) (x3 : Int) (σ : kS) : kRes := some (some 0, σ)
theorem e_Rm_operate_127 {l : Launch} {G : kG} {yf : Int} {σf : kS}  {x1 : Int} {x2 : Int} {x3 : Int} {o4 : Option kV} {σ : kS} (h : fb_Rm_operate_127  x1 x2 x3 σ = some (some yf, σf)) : Rn l G dm_Rm_operate m_Rm_operate (kI fun y' σ' => y' = yf ∧ σ' = σf) 127 [some (.inr (9, 0)), some (.inl x1), some (.inl x2), some (.inl x3), o4] [] σ := by
  unfold fb_Rm_operate_127 at h
  simp only [Option.some.injEq, Prod.mk.injEq, true_and] at h
  exact s_Rm_operate_127  ⟨_, rfl, h⟩
def fb_Rm_operate_124  (x1 : Int) (x2 : Int) (x3 : Int) (s0 : Int) (σ : kS) : kRes := kg ((-2147483648 ≤ s0 ∧ s0 < 2147483648)) (if s0 = 0 then fb_Rm_operate_127  x1 x2 x3 σ else fb_Rm_operate_129  x1 x2 x3 σ)
theorem e_Rm_operate_124 {l : Launch} {G : kG} {yf : Int} {σf : kS}  {x1 : Int} {x2 : Int} {x3 : Int} {s0 : Int} {o4 : Option kV} {σ : kS} (h : fb_Rm_operate_124  x1 x2 x3 s0 σ = some (some yf, σf)) : Rn l G dm_Rm_operate m_Rm_operate (kI fun y' σ' => y' = yf ∧ σ' = σf) 124 [some (.inr (9, 0)), some (.inl x1), some (.inl x2), some (.inl x3), o4] [.inl s0] σ := by
  unfold fb_Rm_operate_124 at h
  obtain ⟨h1, h⟩ := kg_some h
  refine s_Rm_operate_124 h1 (fun c => ?_) (fun c => ?_)
  · rw [if_neg c] at h
    exact e_Rm_operate_129  h
  · rw [if_pos c] at h
    exact e_Rm_operate_127  h
def fb_Rm_operate_118  (x1 : Int) (x2 : Int) (x3 : Int) (σ : kS) : kRes := kbi (f_Rm_motion x1 x2 σ) fun y σ1 => fb_Rm_operate_124  x1 x2 x3 y σ1
theorem e_Rm_operate_118 {l : Launch} {G : kG} {yf : Int} {σf : kS}  {x1 : Int} {x2 : Int} {x3 : Int} {o4 : Option kV} {σ : kS} (h : fb_Rm_operate_118  x1 x2 x3 σ = some (some yf, σf)) : Rn l G dm_Rm_operate m_Rm_operate (kI fun y' σ' => y' = yf ∧ σ' = σf) 118 [some (.inr (9, 0)), some (.inl x1), some (.inl x2), some (.inl x3), o4] [] σ := by
  unfold fb_Rm_operate_118 at h
  obtain ⟨y, σ1, hc, h⟩ := kbi_some h
  refine s_Rm_operate_118  (by decide) (E_Rm_motion hc) (fun y2 σ2 e2 => ?_)
  obtain ⟨rfl, rfl⟩ := e2
  exact e_Rm_operate_124  h
def fb_Rm_operate_112  (x1 : Int) (x2 : Int) (x3 : Int) (σ : kS) : kRes := kg ((-2147483648 ≤ x1 ∧ x1 < 2147483648)) (if x1 = 71 then fb_Rm_operate_118  x1 x2 x3 σ else fb_Rm_operate_159  x1 x2 x3 σ)
theorem e_Rm_operate_112 {l : Launch} {G : kG} {yf : Int} {σf : kS}  {x1 : Int} {x2 : Int} {x3 : Int} {o4 : Option kV} {σ : kS} (h : fb_Rm_operate_112  x1 x2 x3 σ = some (some yf, σf)) : Rn l G dm_Rm_operate m_Rm_operate (kI fun y' σ' => y' = yf ∧ σ' = σf) 112 [some (.inr (9, 0)), some (.inl x1), some (.inl x2), some (.inl x3), o4] [] σ := by
  unfold fb_Rm_operate_112 at h
  obtain ⟨h1, h⟩ := kg_some h
  refine s_Rm_operate_112 h1 (fun c => ?_) (fun c => ?_)
  · rw [if_neg c] at h
    exact e_Rm_operate_159  h
  · rw [if_pos c] at h
    exact e_Rm_operate_118  h
def fb_Rm_operate_106  (x1 : Int) (x2 : Int) (x3 : Int) (σ : kS) : kRes := kg ((-2147483648 ≤ x1 ∧ x1 < 2147483648)) (if x1 = 107 then fb_Rm_operate_118  x1 x2 x3 σ else fb_Rm_operate_112  x1 x2 x3 σ)
theorem e_Rm_operate_106 {l : Launch} {G : kG} {yf : Int} {σf : kS}  {x1 : Int} {x2 : Int} {x3 : Int} {o4 : Option kV} {σ : kS} (h : fb_Rm_operate_106  x1 x2 x3 σ = some (some yf, σf)) : Rn l G dm_Rm_operate m_Rm_operate (kI fun y' σ' => y' = yf ∧ σ' = σf) 106 [some (.inr (9, 0)), some (.inl x1), some (.inl x2), some (.inl x3), o4] [] σ := by
  unfold fb_Rm_operate_106 at h
  obtain ⟨h1, h⟩ := kg_some h
  refine s_Rm_operate_106 h1 (fun c => ?_) (fun c => ?_)
  · rw [if_pos c] at h
    exact e_Rm_operate_118  h
  · rw [if_neg c] at h
    exact e_Rm_operate_112  h
def fb_Rm_operate_100  (x1 : Int) (x2 : Int) (x3 : Int) (σ : kS) : kRes := kg ((-2147483648 ≤ x1 ∧ x1 < 2147483648)) (if x1 = 106 then fb_Rm_operate_118  x1 x2 x3 σ else fb_Rm_operate_106  x1 x2 x3 σ)
theorem e_Rm_operate_100 {l : Launch} {G : kG} {yf : Int} {σf : kS}  {x1 : Int} {x2 : Int} {x3 : Int} {o4 : Option kV} {σ : kS} (h : fb_Rm_operate_100  x1 x2 x3 σ = some (some yf, σf)) : Rn l G dm_Rm_operate m_Rm_operate (kI fun y' σ' => y' = yf ∧ σ' = σf) 100 [some (.inr (9, 0)), some (.inl x1), some (.inl x2), some (.inl x3), o4] [] σ := by
  unfold fb_Rm_operate_100 at h
  obtain ⟨h1, h⟩ := kg_some h
  refine s_Rm_operate_100 h1 (fun c => ?_) (fun c => ?_)
  · rw [if_pos c] at h
    exact e_Rm_operate_118  h
  · rw [if_neg c] at h
    exact e_Rm_operate_106  h
def fb_Rm_operate_99  (x1 : Int) (x2 : Int) (x3 : Int) (s0 : Int) (σ : kS) : kRes := some (some s0, σ)
theorem e_Rm_operate_99 {l : Launch} {G : kG} {yf : Int} {σf : kS}  {x1 : Int} {x2 : Int} {x3 : Int} {s0 : Int} {o4 : Option kV} {σ : kS} (h : fb_Rm_operate_99  x1 x2 x3 s0 σ = some (some yf, σf)) : Rn l G dm_Rm_operate m_Rm_operate (kI fun y' σ' => y' = yf ∧ σ' = σf) 99 [some (.inr (9, 0)), some (.inl x1), some (.inl x2), some (.inl x3), o4] [.inl s0] σ := by
  unfold fb_Rm_operate_99 at h
  simp only [Option.some.injEq, Prod.mk.injEq, true_and] at h
  exact s_Rm_operate_99  ⟨_, rfl, h⟩
def fb_Rm_operate_83  (x1 : Int) (x2 : Int) (x3 : Int) (σ : kS) : kRes := kg ((0 ≤ x3 ∧ x3 < (100 : Nat))) (kbi (f_Rm_characters (σ 24 0 0) (σ 21 0 (Int.toNat x3)) σ) fun y σ1 => fb_Rm_operate_99  x1 x2 x3 y σ1)
theorem e_Rm_operate_83 {l : Launch} {G : kG} {yf : Int} {σf : kS}  {x1 : Int} {x2 : Int} {x3 : Int} {o4 : Option kV} {σ : kS} (h : fb_Rm_operate_83  x1 x2 x3 σ = some (some yf, σf)) : Rn l G dm_Rm_operate m_Rm_operate (kI fun y' σ' => y' = yf ∧ σ' = σf) 83 [some (.inr (9, 0)), some (.inl x1), some (.inl x2), some (.inl x3), o4] [] σ := by
  unfold fb_Rm_operate_83 at h
  obtain ⟨h1, h⟩ := kg_some h
  obtain ⟨y, σ1, hc, h⟩ := kbi_some h
  refine s_Rm_operate_83 h1 (by decide) (E_Rm_characters hc) (fun y2 σ2 e2 => ?_)
  obtain ⟨rfl, rfl⟩ := e2
  exact e_Rm_operate_99  h
def fb_Rm_operate_80  (x1 : Int) (x2 : Int) (x3 : Int) (s0 : Int) (σ : kS) : kRes := fb_Rm_operate_99  x1 x2 x3 s0 σ
theorem e_Rm_operate_80 {l : Launch} {G : kG} {yf : Int} {σf : kS}  {x1 : Int} {x2 : Int} {x3 : Int} {s0 : Int} {o4 : Option kV} {σ : kS} (h : fb_Rm_operate_80  x1 x2 x3 s0 σ = some (some yf, σf)) : Rn l G dm_Rm_operate m_Rm_operate (kI fun y' σ' => y' = yf ∧ σ' = σf) 80 [some (.inr (9, 0)), some (.inl x1), some (.inl x2), some (.inl x3), o4] [.inl s0] σ := by
  unfold fb_Rm_operate_80 at h
  refine s_Rm_operate_80  ?_
  exact e_Rm_operate_99  h
def fb_Rm_operate_69  (x1 : Int) (x2 : Int) (x3 : Int) (σ : kS) : kRes := kbi (f_Rm_characters 0 (σ 24 0 0) σ) fun y σ1 => fb_Rm_operate_80  x1 x2 x3 y σ1
theorem e_Rm_operate_69 {l : Launch} {G : kG} {yf : Int} {σf : kS}  {x1 : Int} {x2 : Int} {x3 : Int} {o4 : Option kV} {σ : kS} (h : fb_Rm_operate_69  x1 x2 x3 σ = some (some yf, σf)) : Rn l G dm_Rm_operate m_Rm_operate (kI fun y' σ' => y' = yf ∧ σ' = σf) 69 [some (.inr (9, 0)), some (.inl x1), some (.inl x2), some (.inl x3), o4] [] σ := by
  unfold fb_Rm_operate_69 at h
  obtain ⟨y, σ1, hc, h⟩ := kbi_some h
  refine s_Rm_operate_69  (by decide) (E_Rm_characters hc) (fun y2 σ2 e2 => ?_)
  obtain ⟨rfl, rfl⟩ := e2
  exact e_Rm_operate_80  h
def fb_Rm_operate_63  (x1 : Int) (x2 : Int) (x3 : Int) (σ : kS) : kRes := kg ((-2147483648 ≤ x1 ∧ x1 < 2147483648)) (if x1 = 48 then fb_Rm_operate_69  x1 x2 x3 σ else fb_Rm_operate_83  x1 x2 x3 σ)
theorem e_Rm_operate_63 {l : Launch} {G : kG} {yf : Int} {σf : kS}  {x1 : Int} {x2 : Int} {x3 : Int} {o4 : Option kV} {σ : kS} (h : fb_Rm_operate_63  x1 x2 x3 σ = some (some yf, σf)) : Rn l G dm_Rm_operate m_Rm_operate (kI fun y' σ' => y' = yf ∧ σ' = σf) 63 [some (.inr (9, 0)), some (.inl x1), some (.inl x2), some (.inl x3), o4] [] σ := by
  unfold fb_Rm_operate_63 at h
  obtain ⟨h1, h⟩ := kg_some h
  refine s_Rm_operate_63 h1 (fun c => ?_) (fun c => ?_)
  · rw [if_neg c] at h
    exact e_Rm_operate_83  h
  · rw [if_pos c] at h
    exact e_Rm_operate_69  h
def fb_Rm_operate_61  (x1 : Int) (x2 : Int) (x3 : Int) (σ : kS) : kRes := some (some 0, σ)
theorem e_Rm_operate_61 {l : Launch} {G : kG} {yf : Int} {σf : kS}  {x1 : Int} {x2 : Int} {x3 : Int} {o4 : Option kV} {σ : kS} (h : fb_Rm_operate_61  x1 x2 x3 σ = some (some yf, σf)) : Rn l G dm_Rm_operate m_Rm_operate (kI fun y' σ' => y' = yf ∧ σ' = σf) 61 [some (.inr (9, 0)), some (.inl x1), some (.inl x2), some (.inl x3), o4] [] σ := by
  unfold fb_Rm_operate_61 at h
  simp only [Option.some.injEq, Prod.mk.injEq, true_and] at h
  exact s_Rm_operate_61  ⟨_, rfl, h⟩
def fb_Rm_operate_54  (x1 : Int) (x2 : Int) (x3 : Int) (σ : kS) : kRes := kg ((-2147483648 ≤ σ 9 0 10 ∧ σ 9 0 10 < 2147483648)) (if (σ 9 0 10) ≤ 0 then fb_Rm_operate_63  x1 x2 x3 σ else fb_Rm_operate_61  x1 x2 x3 σ)
theorem e_Rm_operate_54 {l : Launch} {G : kG} {yf : Int} {σf : kS}  {x1 : Int} {x2 : Int} {x3 : Int} {o4 : Option kV} {σ : kS} (h : fb_Rm_operate_54  x1 x2 x3 σ = some (some yf, σf)) : Rn l G dm_Rm_operate m_Rm_operate (kI fun y' σ' => y' = yf ∧ σ' = σf) 54 [some (.inr (9, 0)), some (.inl x1), some (.inl x2), some (.inl x3), o4] [] σ := by
  unfold fb_Rm_operate_54 at h
  obtain ⟨h1, h⟩ := kg_some h
  refine s_Rm_operate_54 h1 (fun c => ?_) (fun c => ?_)
  · rw [if_pos c] at h
    exact e_Rm_operate_63  h
  · rw [if_neg c] at h
    exact e_Rm_operate_61  h
def fb_Rm_operate_48  (x1 : Int) (x2 : Int) (x3 : Int) (σ : kS) : kRes := kg ((-2147483648 ≤ x1 ∧ x1 < 2147483648)) (if x1 = 36 then fb_Rm_operate_54  x1 x2 x3 σ else fb_Rm_operate_100  x1 x2 x3 σ)
theorem e_Rm_operate_48 {l : Launch} {G : kG} {yf : Int} {σf : kS}  {x1 : Int} {x2 : Int} {x3 : Int} {o4 : Option kV} {σ : kS} (h : fb_Rm_operate_48  x1 x2 x3 σ = some (some yf, σf)) : Rn l G dm_Rm_operate m_Rm_operate (kI fun y' σ' => y' = yf ∧ σ' = σf) 48 [some (.inr (9, 0)), some (.inl x1), some (.inl x2), some (.inl x3), o4] [] σ := by
  unfold fb_Rm_operate_48 at h
  obtain ⟨h1, h⟩ := kg_some h
  refine s_Rm_operate_48 h1 (fun c => ?_) (fun c => ?_)
  · rw [if_neg c] at h
    exact e_Rm_operate_100  h
  · rw [if_pos c] at h
    exact e_Rm_operate_54  h
def fb_Rm_operate_42  (x1 : Int) (x2 : Int) (x3 : Int) (σ : kS) : kRes := kg ((-2147483648 ≤ x1 ∧ x1 < 2147483648)) (if x1 = 48 then fb_Rm_operate_54  x1 x2 x3 σ else fb_Rm_operate_48  x1 x2 x3 σ)
theorem e_Rm_operate_42 {l : Launch} {G : kG} {yf : Int} {σf : kS}  {x1 : Int} {x2 : Int} {x3 : Int} {o4 : Option kV} {σ : kS} (h : fb_Rm_operate_42  x1 x2 x3 σ = some (some yf, σf)) : Rn l G dm_Rm_operate m_Rm_operate (kI fun y' σ' => y' = yf ∧ σ' = σf) 42 [some (.inr (9, 0)), some (.inl x1), some (.inl x2), some (.inl x3), o4] [] σ := by
  unfold fb_Rm_operate_42 at h
  obtain ⟨h1, h⟩ := kg_some h
  refine s_Rm_operate_42 h1 (fun c => ?_) (fun c => ?_)
  · rw [if_pos c] at h
    exact e_Rm_operate_54  h
  · rw [if_neg c] at h
    exact e_Rm_operate_48  h
def fb_Rm_operate_41  (x1 : Int) (x2 : Int) (x3 : Int) (s0 : Int) (σ : kS) : kRes := some (some s0, σ)
theorem e_Rm_operate_41 {l : Launch} {G : kG} {yf : Int} {σf : kS}  {x1 : Int} {x2 : Int} {x3 : Int} {s0 : Int} {o4 : Option kV} {σ : kS} (h : fb_Rm_operate_41  x1 x2 x3 s0 σ = some (some yf, σf)) : Rn l G dm_Rm_operate m_Rm_operate (kI fun y' σ' => y' = yf ∧ σ' = σf) 41 [some (.inr (9, 0)), some (.inl x1), some (.inl x2), some (.inl x3), o4] [.inl s0] σ := by
  unfold fb_Rm_operate_41 at h
  simp only [Option.some.injEq, Prod.mk.injEq, true_and] at h
  exact s_Rm_operate_41  ⟨_, rfl, h⟩
def fb_Rm_operate_31  (x1 : Int) (x2 : Int) (x3 : Int) (σ : kS) : kRes := kbi (f_Rm_wholeLines x3 ((x3 + x2) - 1) σ) fun y σ1 => fb_Rm_operate_41  x1 x2 x3 y σ1
theorem e_Rm_operate_31 {l : Launch} {G : kG} {yf : Int} {σf : kS}  {x1 : Int} {x2 : Int} {x3 : Int} {o4 : Option kV} {σ : kS} (h : fb_Rm_operate_31  x1 x2 x3 σ = some (some yf, σf)) : Rn l G dm_Rm_operate m_Rm_operate (kI fun y' σ' => y' = yf ∧ σ' = σf) 31 [some (.inr (9, 0)), some (.inl x1), some (.inl x2), some (.inl x3), o4] [] σ := by
  unfold fb_Rm_operate_31 at h
  obtain ⟨y, σ1, hc, h⟩ := kbi_some h
  refine s_Rm_operate_31  (by decide) (E_Rm_wholeLines hc) (fun y2 σ2 e2 => ?_)
  obtain ⟨rfl, rfl⟩ := e2
  exact e_Rm_operate_41  h
def fb_Rm_operate_27  (x1 : Int) (x2 : Int) (x3 : Int) (σ : kS) : kRes := fb_Rm_operate_41  x1 x2 x3 0 σ
theorem e_Rm_operate_27 {l : Launch} {G : kG} {yf : Int} {σf : kS}  {x1 : Int} {x2 : Int} {x3 : Int} {o4 : Option kV} {σ : kS} (h : fb_Rm_operate_27  x1 x2 x3 σ = some (some yf, σf)) : Rn l G dm_Rm_operate m_Rm_operate (kI fun y' σ' => y' = yf ∧ σ' = σf) 27 [some (.inr (9, 0)), some (.inl x1), some (.inl x2), some (.inl x3), o4] [] σ := by
  unfold fb_Rm_operate_27 at h
  refine s_Rm_operate_27  ?_
  exact e_Rm_operate_41  h
def fb_Rm_operate_15  (x1 : Int) (x2 : Int) (x3 : Int) (σ : kS) : kRes := kg ((-2147483648 ≤ x3 + x2 ∧ x3 + x2 < 2147483648) ∧ (-2147483648 ≤ σ 22 0 0 ∧ σ 22 0 0 < 2147483648)) (if (x3 + x2) ≤ (σ 22 0 0) then fb_Rm_operate_31  x1 x2 x3 σ else fb_Rm_operate_27  x1 x2 x3 σ)
theorem e_Rm_operate_15 {l : Launch} {G : kG} {yf : Int} {σf : kS}  {x1 : Int} {x2 : Int} {x3 : Int} {o4 : Option kV} {σ : kS} (h : fb_Rm_operate_15  x1 x2 x3 σ = some (some yf, σf)) : Rn l G dm_Rm_operate m_Rm_operate (kI fun y' σ' => y' = yf ∧ σ' = σf) 15 [some (.inr (9, 0)), some (.inl x1), some (.inl x2), some (.inl x3), o4] [] σ := by
  unfold fb_Rm_operate_15 at h
  obtain ⟨⟨h1, h2⟩, h⟩ := kg_some h
  refine s_Rm_operate_15 h1 h2 (fun c => ?_) (fun c => ?_)
  · rw [if_pos c] at h
    exact e_Rm_operate_31  h
  · rw [if_neg c] at h
    exact e_Rm_operate_27  h
def fb_Rm_operate_0  (x1 : Int) (x2 : Int) (σ : kS) : kRes := kg ((-2147483648 ≤ x1 ∧ x1 < 2147483648) ∧ (-2147483648 ≤ σ 9 0 8 ∧ σ 9 0 8 < 2147483648)) (if x1 = (σ 9 0 8) then fb_Rm_operate_15  x1 x2 (σ 23 0 0) σ else fb_Rm_operate_42  x1 x2 (σ 23 0 0) σ)
theorem e_Rm_operate_0 {l : Launch} {G : kG} {yf : Int} {σf : kS}  {x1 : Int} {x2 : Int} {o3 : Option kV} {o4 : Option kV} {σ : kS} (h : fb_Rm_operate_0  x1 x2 σ = some (some yf, σf)) : Rn l G dm_Rm_operate m_Rm_operate (kI fun y' σ' => y' = yf ∧ σ' = σf) 0 [some (.inr (9, 0)), some (.inl x1), some (.inl x2), o3, o4] [] σ := by
  unfold fb_Rm_operate_0 at h
  obtain ⟨⟨h1, h2⟩, h⟩ := kg_some h
  refine s_Rm_operate_0 h1 h2 (fun c => ?_) (fun c => ?_)
  · rw [if_neg c] at h
    exact e_Rm_operate_42  h
  · rw [if_pos c] at h
    exact e_Rm_operate_15  h
def f_Rm_operate (x1 : Int) (x2 : Int) (σ : kS) : kRes := fb_Rm_operate_0 x1 x2 σ
theorem E_Rm_operate {l : Launch} {G : kG} {yf : Int} {σf : kS} {x1 : Int} {x2 : Int} {σ : kS} (h : f_Rm_operate x1 x2 σ = some (some yf, σf)) : Call l G dm_Rm_operate y_Rm_operate m_Rm_operate [.inr (9, 0), .inl x1, .inl x2] σ (kI fun y' σ' => y' = yf ∧ σ' = σf) := by
  unfold f_Rm_operate at h
  exact Call.of (by decide +kernel) rfl (Nat.le_of_ble_eq_true rfl) (e_Rm_operate_0 h)
/-! Rm_insertAt -/
def fb_Rm_insertAt_46  (x1 : Int) (x2 : Int) (x3 : Int) (x4 : Int) (σ : kS) : kRes := kg ((0 ≤ (20 * x1) + x2 ∧ (20 * x1) + x2 < (2000 : Nat)) ∧ (0 ≤ x1 ∧ x1 < (100 : Nat))) (some (none, kup (kup σ 20 0 (Int.toNat ((20 * x1) + x2)) x3) 21 0 (Int.toNat x1) (((kup σ 20 0 (Int.toNat ((20 * x1) + x2)) x3) 21 0 (Int.toNat x1)) + 1)))
theorem e_Rm_insertAt_46 {l : Launch} {G : kG} {σf : kS}  {x1 : Int} {x2 : Int} {x3 : Int} {x4 : Int}  {σ : kS} (h : fb_Rm_insertAt_46  x1 x2 x3 x4 σ = some (none, σf)) : Rn l G dm_Rm_insertAt m_Rm_insertAt (kU fun σ' => σ' = σf) 46 [some (.inr (9, 0)), some (.inl x1), some (.inl x2), some (.inl x3), some (.inl x4)] [] σ := by
  unfold fb_Rm_insertAt_46 at h
  obtain ⟨⟨h1, h2⟩, h⟩ := kg_some h
  simp only [Option.some.injEq, Prod.mk.injEq, true_and] at h
  exact s_Rm_insertAt_46 h1 h2 ⟨rfl, h⟩
def fb_Rm_insertAt_14 (k8 : Int → Int → Int → Int → kS → kRes) (x1 : Int) (x2 : Int) (x3 : Int) (x4 : Int) (σ : kS) : kRes := kg ((0 ≤ ((20 * x1) + x4) - 1 ∧ ((20 * x1) + x4) - 1 < (2000 : Nat)) ∧ (0 ≤ (20 * x1) + x4 ∧ (20 * x1) + x4 < (2000 : Nat))) (k8 x1 x2 x3 (x4 + (-1)) (kup σ 20 0 (Int.toNat ((20 * x1) + x4)) (σ 20 0 (Int.toNat (((20 * x1) + x4) - 1)))))
theorem e_Rm_insertAt_14 {l : Launch} {G : kG} {σf : kS} {k8 : Int → Int → Int → Int → kS → kRes} (hk8 : ∀ (x1 : Int) (x2 : Int) (x3 : Int) (x4 : Int)  (σ : kS), k8 x1 x2 x3 x4 σ = some (none, σf) → Rn l G dm_Rm_insertAt m_Rm_insertAt (kU fun σ' => σ' = σf) 8 [some (.inr (9, 0)), some (.inl x1), some (.inl x2), some (.inl x3), some (.inl x4)] [] σ) {x1 : Int} {x2 : Int} {x3 : Int} {x4 : Int}  {σ : kS} (h : fb_Rm_insertAt_14 k8 x1 x2 x3 x4 σ = some (none, σf)) : Rn l G dm_Rm_insertAt m_Rm_insertAt (kU fun σ' => σ' = σf) 14 [some (.inr (9, 0)), some (.inl x1), some (.inl x2), some (.inl x3), some (.inl x4)] [] σ := by
  unfold fb_Rm_insertAt_14 at h
  obtain ⟨⟨h1, h2⟩, h⟩ := kg_some h
  refine s_Rm_insertAt_14 h1 h2 ?_
  exact hk8 _ _ _ _ _ h
def fb_Rm_insertAt_8 (k8 : Int → Int → Int → Int → kS → kRes) (x1 : Int) (x2 : Int) (x3 : Int) (x4 : Int) (σ : kS) : kRes := kg ((-2147483648 ≤ x4 ∧ x4 < 2147483648) ∧ (-2147483648 ≤ x2 ∧ x2 < 2147483648)) (if x4 ≤ x2 then fb_Rm_insertAt_46  x1 x2 x3 x4 σ else fb_Rm_insertAt_14 k8 x1 x2 x3 x4 σ)
theorem e_Rm_insertAt_8 {l : Launch} {G : kG} {σf : kS} {k8 : Int → Int → Int → Int → kS → kRes} (hk8 : ∀ (x1 : Int) (x2 : Int) (x3 : Int) (x4 : Int)  (σ : kS), k8 x1 x2 x3 x4 σ = some (none, σf) → Rn l G dm_Rm_insertAt m_Rm_insertAt (kU fun σ' => σ' = σf) 8 [some (.inr (9, 0)), some (.inl x1), some (.inl x2), some (.inl x3), some (.inl x4)] [] σ) {x1 : Int} {x2 : Int} {x3 : Int} {x4 : Int}  {σ : kS} (h : fb_Rm_insertAt_8 k8 x1 x2 x3 x4 σ = some (none, σf)) : Rn l G dm_Rm_insertAt m_Rm_insertAt (kU fun σ' => σ' = σf) 8 [some (.inr (9, 0)), some (.inl x1), some (.inl x2), some (.inl x3), some (.inl x4)] [] σ := by
  unfold fb_Rm_insertAt_8 at h
  obtain ⟨⟨h1, h2⟩, h⟩ := kg_some h
  refine s_Rm_insertAt_8 h1 h2 (fun c => ?_) (fun c => ?_)
  · rw [if_pos c] at h
    exact e_Rm_insertAt_46  h
  · rw [if_neg c] at h
    exact e_Rm_insertAt_14 hk8 h
def fl_Rm_insertAt_8  : Nat → Int → Int → Int → Int → kS → kRes
  | 0, _, _, _, _, _ => none
  | n + 1, x1, x2, x3, x4, σ => fb_Rm_insertAt_8 (fl_Rm_insertAt_8  n) x1 x2 x3 x4 σ
theorem el_Rm_insertAt_8 {l : Launch} {G : kG} {σf : kS}  : ∀ (n : Nat) (x1 : Int) (x2 : Int) (x3 : Int) (x4 : Int)  (σ : kS), fl_Rm_insertAt_8  n x1 x2 x3 x4 σ = some (none, σf) → Rn l G dm_Rm_insertAt m_Rm_insertAt (kU fun σ' => σ' = σf) 8 [some (.inr (9, 0)), some (.inl x1), some (.inl x2), some (.inl x3), some (.inl x4)] [] σ := by
  intro n
  induction n with
  | zero => intro x1 x2 x3 x4 σ h; simp only [fl_Rm_insertAt_8] at h; cases h
  | succ n ih => intro x1 x2 x3 x4 σ h; simp only [fl_Rm_insertAt_8] at h; exact e_Rm_insertAt_8 ih h
def fb_Rm_insertAt_0  (x1 : Int) (x2 : Int) (x3 : Int) (σ : kS) : kRes := kg ((0 ≤ x1 ∧ x1 < (100 : Nat))) (fl_Rm_insertAt_8  3000 x1 x2 x3 (σ 21 0 (Int.toNat x1)) σ)
theorem e_Rm_insertAt_0 {l : Launch} {G : kG} {σf : kS}  {x1 : Int} {x2 : Int} {x3 : Int} {o4 : Option kV} {σ : kS} (h : fb_Rm_insertAt_0  x1 x2 x3 σ = some (none, σf)) : Rn l G dm_Rm_insertAt m_Rm_insertAt (kU fun σ' => σ' = σf) 0 [some (.inr (9, 0)), some (.inl x1), some (.inl x2), some (.inl x3), o4] [] σ := by
  unfold fb_Rm_insertAt_0 at h
  obtain ⟨h1, h⟩ := kg_some h
  refine s_Rm_insertAt_0 h1 ?_
  exact el_Rm_insertAt_8  _ _ _ _ _ _ h
def f_Rm_insertAt (x1 : Int) (x2 : Int) (x3 : Int) (σ : kS) : kRes := fb_Rm_insertAt_0 x1 x2 x3 σ
theorem E_Rm_insertAt {l : Launch} {G : kG} {σf : kS} {x1 : Int} {x2 : Int} {x3 : Int} {σ : kS} (h : f_Rm_insertAt x1 x2 x3 σ = some (none, σf)) : Call l G dm_Rm_insertAt y_Rm_insertAt m_Rm_insertAt [.inr (9, 0), .inl x1, .inl x2, .inl x3] σ (kU fun σ' => σ' = σf) := by
  unfold f_Rm_insertAt at h
  exact Call.of (by decide +kernel) rfl (Nat.le_of_ble_eq_true rfl) (e_Rm_insertAt_0 h)
/-! Rm_putCharacters -/
def fb_Rm_putCharacters_65  (x1 : Int) (x2 : Int) (x3 : Int) (x4 : Int) (σ : kS) : kRes := some (some 3, kup σ 24 0 0 ((x1 + x3) - 1))
theorem e_Rm_putCharacters_65 {l : Launch} {G : kG} {yf : Int} {σf : kS}  {x1 : Int} {x2 : Int} {x3 : Int} {x4 : Int}  {σ : kS} (h : fb_Rm_putCharacters_65  x1 x2 x3 x4 σ = some (some yf, σf)) : Rn l G dm_Rm_putCharacters m_Rm_putCharacters (kI fun y' σ' => y' = yf ∧ σ' = σf) 65 [some (.inr (9, 0)), some (.inl x1), some (.inl x2), some (.inl x3), some (.inl x4)] [] σ := by
  unfold fb_Rm_putCharacters_65 at h
  simp only [Option.some.injEq, Prod.mk.injEq, true_and] at h
  exact s_Rm_putCharacters_65  ⟨_, rfl, h⟩
def fb_Rm_putCharacters_59 (k33 : Int → Int → Int → Int → kS → kRes) (x1 : Int) (x2 : Int) (x3 : Int) (x4 : Int) (σ : kS) : kRes := k33 x1 x2 x3 (x4 + 1) σ
theorem e_Rm_putCharacters_59 {l : Launch} {G : kG} {yf : Int} {σf : kS} {k33 : Int → Int → Int → Int → kS → kRes} (hk33 : ∀ (x1 : Int) (x2 : Int) (x3 : Int) (x4 : Int)  (σ : kS), k33 x1 x2 x3 x4 σ = some (some yf, σf) → Rn l G dm_Rm_putCharacters m_Rm_putCharacters (kI fun y' σ' => y' = yf ∧ σ' = σf) 33 [some (.inr (9, 0)), some (.inl x1), some (.inl x2), some (.inl x3), some (.inl x4)] [] σ) {x1 : Int} {x2 : Int} {x3 : Int} {x4 : Int}  {σ : kS} (h : fb_Rm_putCharacters_59 k33 x1 x2 x3 x4 σ = some (some yf, σf)) : Rn l G dm_Rm_putCharacters m_Rm_putCharacters (kI fun y' σ' => y' = yf ∧ σ' = σf) 59 [some (.inr (9, 0)), some (.inl x1), some (.inl x2), some (.inl x3), some (.inl x4)] [] σ := by
  unfold fb_Rm_putCharacters_59 at h
  refine s_Rm_putCharacters_59  ?_
  exact hk33 _ _ _ _ _ h
def fb_Rm_putCharacters_39 (k33 : Int → Int → Int → Int → kS → kRes) (x1 : Int) (x2 : Int) (x3 : Int) (x4 : Int) (σ : kS) : kRes := kg ((0 ≤ 800 + x4 ∧ 800 + x4 < (2000 : Nat))) (kbu (f_Rm_insertAt x2 (x1 + x4) (σ 20 0 (Int.toNat (800 + x4))) σ) fun σ1 => fb_Rm_putCharacters_59 k33 x1 x2 x3 x4 σ1)
theorem e_Rm_putCharacters_39 {l : Launch} {G : kG} {yf : Int} {σf : kS} {k33 : Int → Int → Int → Int → kS → kRes} (hk33 : ∀ (x1 : Int) (x2 : Int) (x3 : Int) (x4 : Int)  (σ : kS), k33 x1 x2 x3 x4 σ = some (some yf, σf) → Rn l G dm_Rm_putCharacters m_Rm_putCharacters (kI fun y' σ' => y' = yf ∧ σ' = σf) 33 [some (.inr (9, 0)), some (.inl x1), some (.inl x2), some (.inl x3), some (.inl x4)] [] σ) {x1 : Int} {x2 : Int} {x3 : Int} {x4 : Int}  {σ : kS} (h : fb_Rm_putCharacters_39 k33 x1 x2 x3 x4 σ = some (some yf, σf)) : Rn l G dm_Rm_putCharacters m_Rm_putCharacters (kI fun y' σ' => y' = yf ∧ σ' = σf) 39 [some (.inr (9, 0)), some (.inl x1), some (.inl x2), some (.inl x3), some (.inl x4)] [] σ := by
  unfold fb_Rm_putCharacters_39 at h
  obtain ⟨h1, h⟩ := kg_some h
  obtain ⟨σ1, hc, h⟩ := kbu_some h
  refine s_Rm_putCharacters_39 h1 (by decide) (E_Rm_insertAt hc) (fun σ2 e2 => ?_)
  subst e2
  exact e_Rm_putCharacters_59 hk33 h
def fb_Rm_putCharacters_33 (k33 : Int → Int → Int → Int → kS → kRes) (x1 : Int) (x2 : Int) (x3 : Int) (x4 : Int) (σ : kS) : kRes := kg ((-2147483648 ≤ x4 ∧ x4 < 2147483648) ∧ (-2147483648 ≤ x3 ∧ x3 < 2147483648)) (if x3 ≤ x4 then fb_Rm_putCharacters_65  x1 x2 x3 x4 σ else fb_Rm_putCharacters_39 k33 x1 x2 x3 x4 σ)
theorem e_Rm_putCharacters_33 {l : Launch} {G : kG} {yf : Int} {σf : kS} {k33 : Int → Int → Int → Int → kS → kRes} (hk33 : ∀ (x1 : Int) (x2 : Int) (x3 : Int) (x4 : Int)  (σ : kS), k33 x1 x2 x3 x4 σ = some (some yf, σf) → Rn l G dm_Rm_putCharacters m_Rm_putCharacters (kI fun y' σ' => y' = yf ∧ σ' = σf) 33 [some (.inr (9, 0)), some (.inl x1), some (.inl x2), some (.inl x3), some (.inl x4)] [] σ) {x1 : Int} {x2 : Int} {x3 : Int} {x4 : Int}  {σ : kS} (h : fb_Rm_putCharacters_33 k33 x1 x2 x3 x4 σ = some (some yf, σf)) : Rn l G dm_Rm_putCharacters m_Rm_putCharacters (kI fun y' σ' => y' = yf ∧ σ' = σf) 33 [some (.inr (9, 0)), some (.inl x1), some (.inl x2), some (.inl x3), some (.inl x4)] [] σ := by
  unfold fb_Rm_putCharacters_33 at h
  obtain ⟨⟨h1, h2⟩, h⟩ := kg_some h
  refine s_Rm_putCharacters_33 h1 h2 (fun c => ?_) (fun c => ?_)
  · rw [if_pos c] at h
    exact e_Rm_putCharacters_65  h
  · rw [if_neg c] at h
    exact e_Rm_putCharacters_39 hk33 h
def fl_Rm_putCharacters_33  : Nat → Int → Int → Int → Int → kS → kRes
  | 0, _, _, _, _, _ => none
  | n + 1, x1, x2, x3, x4, σ => fb_Rm_putCharacters_33 (fl_Rm_putCharacters_33  n) x1 x2 x3 x4 σ
theorem el_Rm_putCharacters_33 {l : Launch} {G : kG} {yf : Int} {σf : kS}  : ∀ (n : Nat) (x1 : Int) (x2 : Int) (x3 : Int) (x4 : Int)  (σ : kS), fl_Rm_putCharacters_33  n x1 x2 x3 x4 σ = some (some yf, σf) → Rn l G dm_Rm_putCharacters m_Rm_putCharacters (kI fun y' σ' => y' = yf ∧ σ' = σf) 33 [some (.inr (9, 0)), some (.inl x1), some (.inl x2), some (.inl x3), some (.inl x4)] [] σ := by
  intro n
  induction n with
  | zero => intro x1 x2 x3 x4 σ h; simp only [fl_Rm_putCharacters_33] at h; cases h
  | succ n ih => intro x1 x2 x3 x4 σ h; simp only [fl_Rm_putCharacters_33] at h; exact e_Rm_putCharacters_33 ih h
def fb_Rm_putCharacters_30  (x1 : Int) (x2 : Int) (x3 : Int) (σ : kS) : kRes := fl_Rm_putCharacters_33  3000 x1 x2 x3 0 σ
theorem e_Rm_putCharacters_30 {l : Launch} {G : kG} {yf : Int} {σf : kS}  {x1 : Int} {x2 : Int} {x3 : Int} {o4 : Option kV} {σ : kS} (h : fb_Rm_putCharacters_30  x1 x2 x3 σ = some (some yf, σf)) : Rn l G dm_Rm_putCharacters m_Rm_putCharacters (kI fun y' σ' => y' = yf ∧ σ' = σf) 30 [some (.inr (9, 0)), some (.inl x1), some (.inl x2), some (.inl x3), o4] [] σ := by
  unfold fb_Rm_putCharacters_30 at h
  refine s_Rm_putCharacters_30  ?_
  exact el_Rm_putCharacters_33  _ _ _ _ _ _ h
def fb_Rm_putCharacters_28  (x1 : Int) (x2 : Int) (x3 : Int) (σ : kS) : kRes := some (some 0, σ)
theorem e_Rm_putCharacters_28 {l : Launch} {G : kG} {yf : Int} {σf : kS}  {x1 : Int} {x2 : Int} {x3 : Int} {o4 : Option kV} {σ : kS} (h : fb_Rm_putCharacters_28  x1 x2 x3 σ = some (some yf, σf)) : Rn l G dm_Rm_putCharacters m_Rm_putCharacters (kI fun y' σ' => y' = yf ∧ σ' = σf) 28 [some (.inr (9, 0)), some (.inl x1), some (.inl x2), some (.inl x3), o4] [] σ := by
  unfold fb_Rm_putCharacters_28 at h
  simp only [Option.some.injEq, Prod.mk.injEq, true_and] at h
  exact s_Rm_putCharacters_28  ⟨_, rfl, h⟩
def fb_Rm_putCharacters_0  (x1 : Int) (σ : kS) : kRes := kg ((0 ≤ σ 23 0 0 ∧ σ 23 0 0 < (100 : Nat)) ∧ (-2147483648 ≤ (σ 21 0 (Int.toNat (σ 23 0 0))) + (σ 21 0 40) ∧ (σ 21 0 (Int.toNat (σ 23 0 0))) + (σ 21 0 40) < 2147483648)) (if ((σ 21 0 (Int.toNat (σ 23 0 0))) + (σ 21 0 40)) ≤ 20 then fb_Rm_putCharacters_30  x1 (σ 23 0 0) (σ 21 0 40) σ else fb_Rm_putCharacters_28  x1 (σ 23 0 0) (σ 21 0 40) σ)
theorem e_Rm_putCharacters_0 {l : Launch} {G : kG} {yf : Int} {σf : kS}  {x1 : Int} {o2 : Option kV} {o3 : Option kV} {o4 : Option kV} {σ : kS} (h : fb_Rm_putCharacters_0  x1 σ = some (some yf, σf)) : Rn l G dm_Rm_putCharacters m_Rm_putCharacters (kI fun y' σ' => y' = yf ∧ σ' = σf) 0 [some (.inr (9, 0)), some (.inl x1), o2, o3, o4] [] σ := by
  unfold fb_Rm_putCharacters_0 at h
  obtain ⟨⟨h1, h2⟩, h⟩ := kg_some h
  refine s_Rm_putCharacters_0 h1 h2 (fun c => ?_) (fun c => ?_)
  · rw [if_pos c] at h
    exact e_Rm_putCharacters_30  h
  · rw [if_neg c] at h
    exact e_Rm_putCharacters_28  h
def f_Rm_putCharacters (x1 : Int) (σ : kS) : kRes := fb_Rm_putCharacters_0 x1 σ
theorem E_Rm_putCharacters {l : Launch} {G : kG} {yf : Int} {σf : kS} {x1 : Int} {σ : kS} (h : f_Rm_putCharacters x1 σ = some (some yf, σf)) : Call l G dm_Rm_putCharacters y_Rm_putCharacters m_Rm_putCharacters [.inr (9, 0), .inl x1] σ (kI fun y' σ' => y' = yf ∧ σ' = σf) := by
  unfold f_Rm_putCharacters at h
  exact Call.of (by decide +kernel) rfl (Nat.le_of_ble_eq_true rfl) (e_Rm_putCharacters_0 h)
/-! Rm_putLines -/
def fb_Rm_putLines_64  (x1 : Int) (x2 : Int) (σ : kS) : kRes := some (some 3, σ)
theorem e_Rm_putLines_64 {l : Launch} {G : kG} {yf : Int} {σf : kS}  {x1 : Int} {x2 : Int}  {σ : kS} (h : fb_Rm_putLines_64  x1 x2 σ = some (some yf, σf)) : Rn l G dm_Rm_putLines m_Rm_putLines (kI fun y' σ' => y' = yf ∧ σ' = σf) 64 [some (.inr (9, 0)), some (.inl x1), some (.inl x2)] [] σ := by
  unfold fb_Rm_putLines_64 at h
  simp only [Option.some.injEq, Prod.mk.injEq, true_and] at h
  exact s_Rm_putLines_64  ⟨_, rfl, h⟩
def fb_Rm_putLines_58  (x1 : Int) (x2 : Int) (σ : kS) : kRes := kbu (f_Rm_place x1 0 σ) fun σ1 => fb_Rm_putLines_64  x1 x2 σ1
theorem e_Rm_putLines_58 {l : Launch} {G : kG} {yf : Int} {σf : kS}  {x1 : Int} {x2 : Int}  {σ : kS} (h : fb_Rm_putLines_58  x1 x2 σ = some (some yf, σf)) : Rn l G dm_Rm_putLines m_Rm_putLines (kI fun y' σ' => y' = yf ∧ σ' = σf) 58 [some (.inr (9, 0)), some (.inl x1), some (.inl x2)] [] σ := by
  unfold fb_Rm_putLines_58 at h
  obtain ⟨σ1, hc, h⟩ := kbu_some h
  refine s_Rm_putLines_58  (by decide) (E_Rm_place hc) (fun σ2 e2 => ?_)
  subst e2
  exact e_Rm_putLines_64  h
def fb_Rm_putLines_52 (k27 : Int → Int → kS → kRes) (x1 : Int) (x2 : Int) (σ : kS) : kRes := k27 x1 (x2 + 1) σ
theorem e_Rm_putLines_52 {l : Launch} {G : kG} {yf : Int} {σf : kS} {k27 : Int → Int → kS → kRes} (hk27 : ∀ (x1 : Int) (x2 : Int)  (σ : kS), k27 x1 x2 σ = some (some yf, σf) → Rn l G dm_Rm_putLines m_Rm_putLines (kI fun y' σ' => y' = yf ∧ σ' = σf) 27 [some (.inr (9, 0)), some (.inl x1), some (.inl x2)] [] σ) {x1 : Int} {x2 : Int}  {σ : kS} (h : fb_Rm_putLines_52 k27 x1 x2 σ = some (some yf, σf)) : Rn l G dm_Rm_putLines m_Rm_putLines (kI fun y' σ' => y' = yf ∧ σ' = σf) 52 [some (.inr (9, 0)), some (.inl x1), some (.inl x2)] [] σ := by
  unfold fb_Rm_putLines_52 at h
  refine s_Rm_putLines_52  ?_
  exact hk27 _ _ _ h
def fb_Rm_putLines_42 (k27 : Int → Int → kS → kRes) (x1 : Int) (x2 : Int) (σ : kS) : kRes := kbu (f_Rm_copyLine 4 x2 0 (x1 + x2) σ) fun σ1 => fb_Rm_putLines_52 k27 x1 x2 σ1
theorem e_Rm_putLines_42 {l : Launch} {G : kG} {yf : Int} {σf : kS} {k27 : Int → Int → kS → kRes} (hk27 : ∀ (x1 : Int) (x2 : Int)  (σ : kS), k27 x1 x2 σ = some (some yf, σf) → Rn l G dm_Rm_putLines m_Rm_putLines (kI fun y' σ' => y' = yf ∧ σ' = σf) 27 [some (.inr (9, 0)), some (.inl x1), some (.inl x2)] [] σ) {x1 : Int} {x2 : Int}  {σ : kS} (h : fb_Rm_putLines_42 k27 x1 x2 σ = some (some yf, σf)) : Rn l G dm_Rm_putLines m_Rm_putLines (kI fun y' σ' => y' = yf ∧ σ' = σf) 42 [some (.inr (9, 0)), some (.inl x1), some (.inl x2)] [] σ := by
  unfold fb_Rm_putLines_42 at h
  obtain ⟨σ1, hc, h⟩ := kbu_some h
  refine s_Rm_putLines_42  (by decide) (E_Rm_copyLine hc) (fun σ2 e2 => ?_)
  subst e2
  exact e_Rm_putLines_52 hk27 h
def fb_Rm_putLines_35 (k27 : Int → Int → kS → kRes) (x1 : Int) (x2 : Int) (σ : kS) : kRes := kbu (f_Rm_openLine (x1 + x2) σ) fun σ1 => fb_Rm_putLines_42 k27 x1 x2 σ1
theorem e_Rm_putLines_35 {l : Launch} {G : kG} {yf : Int} {σf : kS} {k27 : Int → Int → kS → kRes} (hk27 : ∀ (x1 : Int) (x2 : Int)  (σ : kS), k27 x1 x2 σ = some (some yf, σf) → Rn l G dm_Rm_putLines m_Rm_putLines (kI fun y' σ' => y' = yf ∧ σ' = σf) 27 [some (.inr (9, 0)), some (.inl x1), some (.inl x2)] [] σ) {x1 : Int} {x2 : Int}  {σ : kS} (h : fb_Rm_putLines_35 k27 x1 x2 σ = some (some yf, σf)) : Rn l G dm_Rm_putLines m_Rm_putLines (kI fun y' σ' => y' = yf ∧ σ' = σf) 35 [some (.inr (9, 0)), some (.inl x1), some (.inl x2)] [] σ := by
  unfold fb_Rm_putLines_35 at h
  obtain ⟨σ1, hc, h⟩ := kbu_some h
  refine s_Rm_putLines_35  (by decide) (E_Rm_openLine hc) (fun σ2 e2 => ?_)
  subst e2
  exact e_Rm_putLines_42 hk27 h
def fb_Rm_putLines_27 (k27 : Int → Int → kS → kRes) (x1 : Int) (x2 : Int) (σ : kS) : kRes := kg ((-2147483648 ≤ x2 ∧ x2 < 2147483648) ∧ (-2147483648 ≤ σ 9 0 7 ∧ σ 9 0 7 < 2147483648)) (if (σ 9 0 7) ≤ x2 then fb_Rm_putLines_58  x1 x2 σ else fb_Rm_putLines_35 k27 x1 x2 σ)
theorem e_Rm_putLines_27 {l : Launch} {G : kG} {yf : Int} {σf : kS} {k27 : Int → Int → kS → kRes} (hk27 : ∀ (x1 : Int) (x2 : Int)  (σ : kS), k27 x1 x2 σ = some (some yf, σf) → Rn l G dm_Rm_putLines m_Rm_putLines (kI fun y' σ' => y' = yf ∧ σ' = σf) 27 [some (.inr (9, 0)), some (.inl x1), some (.inl x2)] [] σ) {x1 : Int} {x2 : Int}  {σ : kS} (h : fb_Rm_putLines_27 k27 x1 x2 σ = some (some yf, σf)) : Rn l G dm_Rm_putLines m_Rm_putLines (kI fun y' σ' => y' = yf ∧ σ' = σf) 27 [some (.inr (9, 0)), some (.inl x1), some (.inl x2)] [] σ := by
  unfold fb_Rm_putLines_27 at h
  obtain ⟨⟨h1, h2⟩, h⟩ := kg_some h
  refine s_Rm_putLines_27 h1 h2 (fun c => ?_) (fun c => ?_)
  · rw [if_pos c] at h
    exact e_Rm_putLines_58  h
  · rw [if_neg c] at h
    exact e_Rm_putLines_35 hk27 h
def fl_Rm_putLines_27  : Nat → Int → Int → kS → kRes
  | 0, _, _, _ => none
  | n + 1, x1, x2, σ => fb_Rm_putLines_27 (fl_Rm_putLines_27  n) x1 x2 σ
theorem el_Rm_putLines_27 {l : Launch} {G : kG} {yf : Int} {σf : kS}  : ∀ (n : Nat) (x1 : Int) (x2 : Int)  (σ : kS), fl_Rm_putLines_27  n x1 x2 σ = some (some yf, σf) → Rn l G dm_Rm_putLines m_Rm_putLines (kI fun y' σ' => y' = yf ∧ σ' = σf) 27 [some (.inr (9, 0)), some (.inl x1), some (.inl x2)] [] σ := by
  intro n
  induction n with
  | zero => intro x1 x2 σ h; simp only [fl_Rm_putLines_27] at h; cases h
  | succ n ih => intro x1 x2 σ h; simp only [fl_Rm_putLines_27] at h; exact e_Rm_putLines_27 ih h
def fb_Rm_putLines_25  (x1 : Int) (σ : kS) : kRes := fl_Rm_putLines_27  3000 x1 0 σ
theorem e_Rm_putLines_25 {l : Launch} {G : kG} {yf : Int} {σf : kS}  {x1 : Int} {o2 : Option kV} {σ : kS} (h : fb_Rm_putLines_25  x1 σ = some (some yf, σf)) : Rn l G dm_Rm_putLines m_Rm_putLines (kI fun y' σ' => y' = yf ∧ σ' = σf) 25 [some (.inr (9, 0)), some (.inl x1), o2] [] σ := by
  unfold fb_Rm_putLines_25 at h
  refine s_Rm_putLines_25  ?_
  exact el_Rm_putLines_27  _ _ _ _ h
def fb_Rm_putLines_23  (x1 : Int) (σ : kS) : kRes := some (some 0, σ)
theorem e_Rm_putLines_23 {l : Launch} {G : kG} {yf : Int} {σf : kS}  {x1 : Int} {o2 : Option kV} {σ : kS} (h : fb_Rm_putLines_23  x1 σ = some (some yf, σf)) : Rn l G dm_Rm_putLines m_Rm_putLines (kI fun y' σ' => y' = yf ∧ σ' = σf) 23 [some (.inr (9, 0)), some (.inl x1), o2] [] σ := by
  unfold fb_Rm_putLines_23 at h
  simp only [Option.some.injEq, Prod.mk.injEq, true_and] at h
  exact s_Rm_putLines_23  ⟨_, rfl, h⟩
def fb_Rm_putLines_7  (x1 : Int) (σ : kS) : kRes := kg ((-2147483648 ≤ (σ 22 0 0) + (σ 9 0 7) ∧ (σ 22 0 0) + (σ 9 0 7) < 2147483648)) (if ((σ 22 0 0) + (σ 9 0 7)) ≤ 10 then fb_Rm_putLines_25  x1 σ else fb_Rm_putLines_23  x1 σ)
theorem e_Rm_putLines_7 {l : Launch} {G : kG} {yf : Int} {σf : kS}  {x1 : Int} {o2 : Option kV} {σ : kS} (h : fb_Rm_putLines_7  x1 σ = some (some yf, σf)) : Rn l G dm_Rm_putLines m_Rm_putLines (kI fun y' σ' => y' = yf ∧ σ' = σf) 7 [some (.inr (9, 0)), some (.inl x1), o2] [] σ := by
  unfold fb_Rm_putLines_7 at h
  obtain ⟨h1, h⟩ := kg_some h
  refine s_Rm_putLines_7 h1 (fun c => ?_) (fun c => ?_)
  · rw [if_pos c] at h
    exact e_Rm_putLines_25  h
  · rw [if_neg c] at h
    exact e_Rm_putLines_23  h
def fb_Rm_putLines_0  (x1 : Int) (σ : kS) : kRes := kg ((-2147483648 ≤ σ 9 0 7 ∧ σ 9 0 7 < 2147483648)) (if (σ 9 0 7) < 0 then fb_Rm_putLines_23  x1 σ else fb_Rm_putLines_7  x1 σ)
theorem e_Rm_putLines_0 {l : Launch} {G : kG} {yf : Int} {σf : kS}  {x1 : Int} {o2 : Option kV} {σ : kS} (h : fb_Rm_putLines_0  x1 σ = some (some yf, σf)) : Rn l G dm_Rm_putLines m_Rm_putLines (kI fun y' σ' => y' = yf ∧ σ' = σf) 0 [some (.inr (9, 0)), some (.inl x1), o2] [] σ := by
  unfold fb_Rm_putLines_0 at h
  obtain ⟨h1, h⟩ := kg_some h
  refine s_Rm_putLines_0 h1 (fun c => ?_) (fun c => ?_)
  · rw [if_pos c] at h
    exact e_Rm_putLines_23  h
  · rw [if_neg c] at h
    exact e_Rm_putLines_7  h
def f_Rm_putLines (x1 : Int) (σ : kS) : kRes := fb_Rm_putLines_0 x1 σ
theorem E_Rm_putLines {l : Launch} {G : kG} {yf : Int} {σf : kS} {x1 : Int} {σ : kS} (h : f_Rm_putLines x1 σ = some (some yf, σf)) : Call l G dm_Rm_putLines y_Rm_putLines m_Rm_putLines [.inr (9, 0), .inl x1] σ (kI fun y' σ' => y' = yf ∧ σ' = σf) := by
  unfold f_Rm_putLines at h
  exact Call.of (by decide +kernel) rfl (Nat.le_of_ble_eq_true rfl) (e_Rm_putLines_0 h)
/-! Rm_simple -/
def fb_Rm_simple_317  (x1 : Int) (x2 : Int) (x3 : Int) (σ : kS) : kRes := some (some 0, σ)
theorem e_Rm_simple_317 {l : Launch} {G : kG} {yf : Int} {σf : kS}  {x1 : Int} {x2 : Int} {x3 : Int} {o4 : Option kV} {o5 : Option kV} {o6 : Option kV} {σ : kS} (h : fb_Rm_simple_317  x1 x2 x3 σ = some (some yf, σf)) : Rn l G dm_Rm_simple m_Rm_simple (kI fun y' σ' => y' = yf ∧ σ' = σf) 317 [some (.inr (9, 0)), some (.inl x1), some (.inl x2), some (.inl x3), o4, o5, o6] [] σ := by
  unfold fb_Rm_simple_317 at h
  simp only [Option.some.injEq, Prod.mk.injEq, true_and] at h
  exact s_Rm_simple_317  ⟨_, rfl, h⟩
def fb_Rm_simple_315  (x1 : Int) (x2 : Int) (x3 : Int) (x4 : Int) (x5 : Int) (x6 : Int) (σ : kS) : kRes := some (some 3, σ)
theorem e_Rm_simple_315 {l : Launch} {G : kG} {yf : Int} {σf : kS}  {x1 : Int} {x2 : Int} {x3 : Int} {x4 : Int} {x5 : Int} {x6 : Int}  {σ : kS} (h : fb_Rm_simple_315  x1 x2 x3 x4 x5 x6 σ = some (some yf, σf)) : Rn l G dm_Rm_simple m_Rm_simple (kI fun y' σ' => y' = yf ∧ σ' = σf) 315 [some (.inr (9, 0)), some (.inl x1), some (.inl x2), some (.inl x3), some (.inl x4), some (.inl x5), some (.inl x6)] [] σ := by
  unfold fb_Rm_simple_315 at h
  simp only [Option.some.injEq, Prod.mk.injEq, true_and] at h
  exact s_Rm_simple_315  ⟨_, rfl, h⟩
def fb_Rm_simple_307  (x1 : Int) (x2 : Int) (x3 : Int) (x4 : Int) (x5 : Int) (x6 : Int) (σ : kS) : kRes := kbu (f_Rm_beginInsert x5 x4 σ) fun σ1 => fb_Rm_simple_315  x1 x2 x3 x4 x5 x6 σ1
theorem e_Rm_simple_307 {l : Launch} {G : kG} {yf : Int} {σf : kS}  {x1 : Int} {x2 : Int} {x3 : Int} {x4 : Int} {x5 : Int} {x6 : Int}  {σ : kS} (h : fb_Rm_simple_307  x1 x2 x3 x4 x5 x6 σ = some (some yf, σf)) : Rn l G dm_Rm_simple m_Rm_simple (kI fun y' σ' => y' = yf ∧ σ' = σf) 307 [some (.inr (9, 0)), some (.inl x1), some (.inl x2), some (.inl x3), some (.inl x4), some (.inl x5), some (.inl x6)] [] σ := by
  unfold fb_Rm_simple_307 at h
  obtain ⟨σ1, hc, h⟩ := kbu_some h
  refine s_Rm_simple_307  (by decide) (E_Rm_beginInsert hc) (fun σ2 e2 => ?_)
  subst e2
  exact e_Rm_simple_315  h
def fb_Rm_simple_301 (k284 : Int → Int → Int → Int → Int → Int → kS → kRes) (x1 : Int) (x2 : Int) (x3 : Int) (x4 : Int) (x5 : Int) (x6 : Int) (σ : kS) : kRes := k284 x1 x2 x3 x4 x5 (x6 + 1) σ
theorem e_Rm_simple_301 {l : Launch} {G : kG} {yf : Int} {σf : kS} {k284 : Int → Int → Int → Int → Int → Int → kS → kRes} (hk284 : ∀ (x1 : Int) (x2 : Int) (x3 : Int) (x4 : Int) (x5 : Int) (x6 : Int)  (σ : kS), k284 x1 x2 x3 x4 x5 x6 σ = some (some yf, σf) → Rn l G dm_Rm_simple m_Rm_simple (kI fun y' σ' => y' = yf ∧ σ' = σf) 284 [some (.inr (9, 0)), some (.inl x1), some (.inl x2), some (.inl x3), some (.inl x4), some (.inl x5), some (.inl x6)] [] σ) {x1 : Int} {x2 : Int} {x3 : Int} {x4 : Int} {x5 : Int} {x6 : Int}  {σ : kS} (h : fb_Rm_simple_301 k284 x1 x2 x3 x4 x5 x6 σ = some (some yf, σf)) : Rn l G dm_Rm_simple m_Rm_simple (kI fun y' σ' => y' = yf ∧ σ' = σf) 301 [some (.inr (9, 0)), some (.inl x1), some (.inl x2), some (.inl x3), some (.inl x4), some (.inl x5), some (.inl x6)] [] σ := by
  unfold fb_Rm_simple_301 at h
  refine s_Rm_simple_301  ?_
  exact hk284 _ _ _ _ _ _ _ h
def fb_Rm_simple_291 (k284 : Int → Int → Int → Int → Int → Int → kS → kRes) (x1 : Int) (x2 : Int) (x3 : Int) (x4 : Int) (x5 : Int) (x6 : Int) (σ : kS) : kRes := kbu (f_Rm_insertAt x5 x6 32 σ) fun σ1 => fb_Rm_simple_301 k284 x1 x2 x3 x4 x5 x6 σ1
theorem e_Rm_simple_291 {l : Launch} {G : kG} {yf : Int} {σf : kS} {k284 : Int → Int → Int → Int → Int → Int → kS → kRes} (hk284 : ∀ (x1 : Int) (x2 : Int) (x3 : Int) (x4 : Int) (x5 : Int) (x6 : Int)  (σ : kS), k284 x1 x2 x3 x4 x5 x6 σ = some (some yf, σf) → Rn l G dm_Rm_simple m_Rm_simple (kI fun y' σ' => y' = yf ∧ σ' = σf) 284 [some (.inr (9, 0)), some (.inl x1), some (.inl x2), some (.inl x3), some (.inl x4), some (.inl x5), some (.inl x6)] [] σ) {x1 : Int} {x2 : Int} {x3 : Int} {x4 : Int} {x5 : Int} {x6 : Int}  {σ : kS} (h : fb_Rm_simple_291 k284 x1 x2 x3 x4 x5 x6 σ = some (some yf, σf)) : Rn l G dm_Rm_simple m_Rm_simple (kI fun y' σ' => y' = yf ∧ σ' = σf) 291 [some (.inr (9, 0)), some (.inl x1), some (.inl x2), some (.inl x3), some (.inl x4), some (.inl x5), some (.inl x6)] [] σ := by
  unfold fb_Rm_simple_291 at h
  obtain ⟨σ1, hc, h⟩ := kbu_some h
  refine s_Rm_simple_291  (by decide) (E_Rm_insertAt hc) (fun σ2 e2 => ?_)
  subst e2
  exact e_Rm_simple_301 hk284 h
def fb_Rm_simple_284 (k284 : Int → Int → Int → Int → Int → Int → kS → kRes) (x1 : Int) (x2 : Int) (x3 : Int) (x4 : Int) (x5 : Int) (x6 : Int) (σ : kS) : kRes := kg ((-2147483648 ≤ x6 ∧ x6 < 2147483648) ∧ (-2147483648 ≤ x4 ∧ x4 < 2147483648)) (if x4 ≤ x6 then fb_Rm_simple_307  x1 x2 x3 x4 x5 x6 σ else fb_Rm_simple_291 k284 x1 x2 x3 x4 x5 x6 σ)
theorem e_Rm_simple_284 {l : Launch} {G : kG} {yf : Int} {σf : kS} {k284 : Int → Int → Int → Int → Int → Int → kS → kRes} (hk284 : ∀ (x1 : Int) (x2 : Int) (x3 : Int) (x4 : Int) (x5 : Int) (x6 : Int)  (σ : kS), k284 x1 x2 x3 x4 x5 x6 σ = some (some yf, σf) → Rn l G dm_Rm_simple m_Rm_simple (kI fun y' σ' => y' = yf ∧ σ' = σf) 284 [some (.inr (9, 0)), some (.inl x1), some (.inl x2), some (.inl x3), some (.inl x4), some (.inl x5), some (.inl x6)] [] σ) {x1 : Int} {x2 : Int} {x3 : Int} {x4 : Int} {x5 : Int} {x6 : Int}  {σ : kS} (h : fb_Rm_simple_284 k284 x1 x2 x3 x4 x5 x6 σ = some (some yf, σf)) : Rn l G dm_Rm_simple m_Rm_simple (kI fun y' σ' => y' = yf ∧ σ' = σf) 284 [some (.inr (9, 0)), some (.inl x1), some (.inl x2), some (.inl x3), some (.inl x4), some (.inl x5), some (.inl x6)] [] σ := by
  unfold fb_Rm_simple_284 at h
  obtain ⟨⟨h1, h2⟩, h⟩ := kg_some h
  refine s_Rm_simple_284 h1 h2 (fun c => ?_) (fun c => ?_)
  · rw [if_pos c] at h
    exact e_Rm_simple_307  h
  · rw [if_neg c] at h
    exact e_Rm_simple_291 hk284 h
def fl_Rm_simple_284  : Nat → Int → Int → Int → Int → Int → Int → kS → kRes
  | 0, _, _, _, _, _, _, _ => none
  | n + 1, x1, x2, x3, x4, x5, x6, σ => fb_Rm_simple_284 (fl_Rm_simple_284  n) x1 x2 x3 x4 x5 x6 σ
theorem el_Rm_simple_284 {l : Launch} {G : kG} {yf : Int} {σf : kS}  : ∀ (n : Nat) (x1 : Int) (x2 : Int) (x3 : Int) (x4 : Int) (x5 : Int) (x6 : Int)  (σ : kS), fl_Rm_simple_284  n x1 x2 x3 x4 x5 x6 σ = some (some yf, σf) → Rn l G dm_Rm_simple m_Rm_simple (kI fun y' σ' => y' = yf ∧ σ' = σf) 284 [some (.inr (9, 0)), some (.inl x1), some (.inl x2), some (.inl x3), some (.inl x4), some (.inl x5), some (.inl x6)] [] σ := by
  intro n
  induction n with
  | zero => intro x1 x2 x3 x4 x5 x6 σ h; simp only [fl_Rm_simple_284] at h; cases h
  | succ n ih => intro x1 x2 x3 x4 x5 x6 σ h; simp only [fl_Rm_simple_284] at h; exact e_Rm_simple_284 ih h
def fb_Rm_simple_281  (x1 : Int) (x2 : Int) (x3 : Int) (x4 : Int) (x5 : Int) (σ : kS) : kRes := fl_Rm_simple_284  3000 x1 x2 x3 x4 x5 0 σ
theorem e_Rm_simple_281 {l : Launch} {G : kG} {yf : Int} {σf : kS}  {x1 : Int} {x2 : Int} {x3 : Int} {x4 : Int} {x5 : Int} {o6 : Option kV} {σ : kS} (h : fb_Rm_simple_281  x1 x2 x3 x4 x5 σ = some (some yf, σf)) : Rn l G dm_Rm_simple m_Rm_simple (kI fun y' σ' => y' = yf ∧ σ' = σf) 281 [some (.inr (9, 0)), some (.inl x1), some (.inl x2), some (.inl x3), some (.inl x4), some (.inl x5), o6] [] σ := by
  unfold fb_Rm_simple_281 at h
  refine s_Rm_simple_281  ?_
  exact el_Rm_simple_284  _ _ _ _ _ _ _ _ h
def fb_Rm_simple_273  (x1 : Int) (x2 : Int) (x3 : Int) (x4 : Int) (s0 : Int) (σ : kS) : kRes := kbu (f_Rm_openLine s0 σ) fun σ1 => fb_Rm_simple_281  x1 x2 x3 x4 s0 σ1
theorem e_Rm_simple_273 {l : Launch} {G : kG} {yf : Int} {σf : kS}  {x1 : Int} {x2 : Int} {x3 : Int} {x4 : Int} {s0 : Int} {o5 : Option kV} {o6 : Option kV} {σ : kS} (h : fb_Rm_simple_273  x1 x2 x3 x4 s0 σ = some (some yf, σf)) : Rn l G dm_Rm_simple m_Rm_simple (kI fun y' σ' => y' = yf ∧ σ' = σf) 273 [some (.inr (9, 0)), some (.inl x1), some (.inl x2), some (.inl x3), some (.inl x4), o5, o6] [.inl s0] σ := by
  unfold fb_Rm_simple_273 at h
  obtain ⟨σ1, hc, h⟩ := kbu_some h
  refine s_Rm_simple_273  (by decide) (E_Rm_openLine hc) (fun σ2 e2 => ?_)
  subst e2
  exact e_Rm_simple_281  h
def fb_Rm_simple_272  (x1 : Int) (x2 : Int) (x3 : Int) (x4 : Int) (σ : kS) : kRes := fb_Rm_simple_273  x1 x2 x3 x4 x2 σ
theorem e_Rm_simple_272 {l : Launch} {G : kG} {yf : Int} {σf : kS}  {x1 : Int} {x2 : Int} {x3 : Int} {x4 : Int} {o5 : Option kV} {o6 : Option kV} {σ : kS} (h : fb_Rm_simple_272  x1 x2 x3 x4 σ = some (some yf, σf)) : Rn l G dm_Rm_simple m_Rm_simple (kI fun y' σ' => y' = yf ∧ σ' = σf) 272 [some (.inr (9, 0)), some (.inl x1), some (.inl x2), some (.inl x3), some (.inl x4), o5, o6] [] σ := by
  unfold fb_Rm_simple_272 at h
  refine s_Rm_simple_272  ?_
  exact e_Rm_simple_273  h
def fb_Rm_simple_266  (x1 : Int) (x2 : Int) (x3 : Int) (x4 : Int) (σ : kS) : kRes := fb_Rm_simple_273  x1 x2 x3 x4 (x2 + 1) σ
theorem e_Rm_simple_266 {l : Launch} {G : kG} {yf : Int} {σf : kS}  {x1 : Int} {x2 : Int} {x3 : Int} {x4 : Int} {o5 : Option kV} {o6 : Option kV} {σ : kS} (h : fb_Rm_simple_266  x1 x2 x3 x4 σ = some (some yf, σf)) : Rn l G dm_Rm_simple m_Rm_simple (kI fun y' σ' => y' = yf ∧ σ' = σf) 266 [some (.inr (9, 0)), some (.inl x1), some (.inl x2), some (.inl x3), some (.inl x4), o5, o6] [] σ := by
  unfold fb_Rm_simple_266 at h
  refine s_Rm_simple_266  ?_
  exact e_Rm_simple_273  h
def fb_Rm_simple_258  (x1 : Int) (x2 : Int) (x3 : Int) (s0 : Int) (σ : kS) : kRes := kg ((-2147483648 ≤ x1 ∧ x1 < 2147483648)) (if x1 = 111 then fb_Rm_simple_266  x1 x2 x3 s0 σ else fb_Rm_simple_272  x1 x2 x3 s0 σ)
theorem e_Rm_simple_258 {l : Launch} {G : kG} {yf : Int} {σf : kS}  {x1 : Int} {x2 : Int} {x3 : Int} {s0 : Int} {o4 : Option kV} {o5 : Option kV} {o6 : Option kV} {σ : kS} (h : fb_Rm_simple_258  x1 x2 x3 s0 σ = some (some yf, σf)) : Rn l G dm_Rm_simple m_Rm_simple (kI fun y' σ' => y' = yf ∧ σ' = σf) 258 [some (.inr (9, 0)), some (.inl x1), some (.inl x2), some (.inl x3), o4, o5, o6] [.inl s0] σ := by
  unfold fb_Rm_simple_258 at h
  obtain ⟨h1, h⟩ := kg_some h
  refine s_Rm_simple_258 h1 (fun c => ?_) (fun c => ?_)
  · rw [if_neg c] at h
    exact e_Rm_simple_272  h
  · rw [if_pos c] at h
    exact e_Rm_simple_266  h
def fb_Rm_simple_253  (x1 : Int) (x2 : Int) (x3 : Int) (σ : kS) : kRes := kbi (f_Rm_blanks x2 σ) fun y σ1 => fb_Rm_simple_258  x1 x2 x3 y σ1
theorem e_Rm_simple_253 {l : Launch} {G : kG} {yf : Int} {σf : kS}  {x1 : Int} {x2 : Int} {x3 : Int} {o4 : Option kV} {o5 : Option kV} {o6 : Option kV} {σ : kS} (h : fb_Rm_simple_253  x1 x2 x3 σ = some (some yf, σf)) : Rn l G dm_Rm_simple m_Rm_simple (kI fun y' σ' => y' = yf ∧ σ' = σf) 253 [some (.inr (9, 0)), some (.inl x1), some (.inl x2), some (.inl x3), o4, o5, o6] [] σ := by
  unfold fb_Rm_simple_253 at h
  obtain ⟨y, σ1, hc, h⟩ := kbi_some h
  refine s_Rm_simple_253  (by decide) (E_Rm_blanks hc) (fun y2 σ2 e2 => ?_)
  obtain ⟨rfl, rfl⟩ := e2
  exact e_Rm_simple_258  h
def fb_Rm_simple_251  (x1 : Int) (x2 : Int) (x3 : Int) (σ : kS) : kRes := some (some 0, σ)
theorem e_Rm_simple_251 {l : Launch} {G : kG} {yf : Int} {σf : kS}  {x1 : Int} {x2 : Int} {x3 : Int} {o4 : Option kV} {o5 : Option kV} {o6 : Option kV} {σ : kS} (h : fb_Rm_simple_251  x1 x2 x3 σ = some (some yf, σf)) : Rn l G dm_Rm_simple m_Rm_simple (kI fun y' σ' => y' = yf ∧ σ' = σf) 251 [some (.inr (9, 0)), some (.inl x1), some (.inl x2), some (.inl x3), o4, o5, o6] [] σ := by
  unfold fb_Rm_simple_251 at h
  simp only [Option.some.injEq, Prod.mk.injEq, true_and] at h
  exact s_Rm_simple_251  ⟨_, rfl, h⟩
def fb_Rm_simple_240  (x1 : Int) (x2 : Int) (x3 : Int) (σ : kS) : kRes := kg ((-2147483648 ≤ σ 22 0 0 ∧ σ 22 0 0 < 2147483648)) (if (σ 22 0 0) = 10 then fb_Rm_simple_251  x1 x2 x3 σ else fb_Rm_simple_253  x1 x2 x3 σ)
theorem e_Rm_simple_240 {l : Launch} {G : kG} {yf : Int} {σf : kS}  {x1 : Int} {x2 : Int} {x3 : Int} {o4 : Option kV} {o5 : Option kV} {o6 : Option kV} {σ : kS} (h : fb_Rm_simple_240  x1 x2 x3 σ = some (some yf, σf)) : Rn l G dm_Rm_simple m_Rm_simple (kI fun y' σ' => y' = yf ∧ σ' = σf) 240 [some (.inr (9, 0)), some (.inl x1), some (.inl x2), some (.inl x3), o4, o5, o6] [] σ := by
  unfold fb_Rm_simple_240 at h
  obtain ⟨h1, h⟩ := kg_some h
  refine s_Rm_simple_240 h1 (fun c => ?_) (fun c => ?_)
  · rw [if_neg c] at h
    exact e_Rm_simple_253  h
  · rw [if_pos c] at h
    exact e_Rm_simple_251  h
def fb_Rm_simple_238  (x1 : Int) (x2 : Int) (x3 : Int) (σ : kS) : kRes := some (some 3, σ)
theorem e_Rm_simple_238 {l : Launch} {G : kG} {yf : Int} {σf : kS}  {x1 : Int} {x2 : Int} {x3 : Int} {o4 : Option kV} {o5 : Option kV} {o6 : Option kV} {σ : kS} (h : fb_Rm_simple_238  x1 x2 x3 σ = some (some yf, σf)) : Rn l G dm_Rm_simple m_Rm_simple (kI fun y' σ' => y' = yf ∧ σ' = σf) 238 [some (.inr (9, 0)), some (.inl x1), some (.inl x2), some (.inl x3), o4, o5, o6] [] σ := by
  unfold fb_Rm_simple_238 at h
  simp only [Option.some.injEq, Prod.mk.injEq, true_and] at h
  exact s_Rm_simple_238  ⟨_, rfl, h⟩
def fb_Rm_simple_232  (x1 : Int) (x2 : Int) (x3 : Int) (σ : kS) : kRes := kbu (f_Rm_beginInsert x2 x3 σ) fun σ1 => fb_Rm_simple_238  x1 x2 x3 σ1
theorem e_Rm_simple_232 {l : Launch} {G : kG} {yf : Int} {σf : kS}  {x1 : Int} {x2 : Int} {x3 : Int} {o4 : Option kV} {o5 : Option kV} {o6 : Option kV} {σ : kS} (h : fb_Rm_simple_232  x1 x2 x3 σ = some (some yf, σf)) : Rn l G dm_Rm_simple m_Rm_simple (kI fun y' σ' => y' = yf ∧ σ' = σf) 232 [some (.inr (9, 0)), some (.inl x1), some (.inl x2), some (.inl x3), o4, o5, o6] [] σ := by
  unfold fb_Rm_simple_232 at h
  obtain ⟨σ1, hc, h⟩ := kbu_some h
  refine s_Rm_simple_232  (by decide) (E_Rm_beginInsert hc) (fun σ2 e2 => ?_)
  subst e2
  exact e_Rm_simple_238  h
def fb_Rm_simple_230  (x1 : Int) (x2 : Int) (x3 : Int) (σ : kS) : kRes := some (some 3, σ)
theorem e_Rm_simple_230 {l : Launch} {G : kG} {yf : Int} {σf : kS}  {x1 : Int} {x2 : Int} {x3 : Int} {o4 : Option kV} {o5 : Option kV} {o6 : Option kV} {σ : kS} (h : fb_Rm_simple_230  x1 x2 x3 σ = some (some yf, σf)) : Rn l G dm_Rm_simple m_Rm_simple (kI fun y' σ' => y' = yf ∧ σ' = σf) 230 [some (.inr (9, 0)), some (.inl x1), some (.inl x2), some (.inl x3), o4, o5, o6] [] σ := by
  unfold fb_Rm_simple_230 at h
  simp only [Option.some.injEq, Prod.mk.injEq, true_and] at h
  exact s_Rm_simple_230  ⟨_, rfl, h⟩
def fb_Rm_simple_227  (x1 : Int) (x2 : Int) (x3 : Int) (s0 : Int) (s1 : Int) (σ : kS) : kRes := kbu (f_Rm_beginInsert s1 s0 σ) fun σ1 => fb_Rm_simple_230  x1 x2 x3 σ1
theorem e_Rm_simple_227 {l : Launch} {G : kG} {yf : Int} {σf : kS}  {x1 : Int} {x2 : Int} {x3 : Int} {s0 : Int} {s1 : Int} {o4 : Option kV} {o5 : Option kV} {o6 : Option kV} {σ : kS} (h : fb_Rm_simple_227  x1 x2 x3 s0 s1 σ = some (some yf, σf)) : Rn l G dm_Rm_simple m_Rm_simple (kI fun y' σ' => y' = yf ∧ σ' = σf) 227 [some (.inr (9, 0)), some (.inl x1), some (.inl x2), some (.inl x3), o4, o5, o6] [.inl s0, .inl s1, .inr (9, 0)] σ := by
  unfold fb_Rm_simple_227 at h
  obtain ⟨σ1, hc, h⟩ := kbu_some h
  refine s_Rm_simple_227  (by decide) (E_Rm_beginInsert hc) (fun σ2 e2 => ?_)
  subst e2
  exact e_Rm_simple_230  h
def fb_Rm_simple_220  (x1 : Int) (x2 : Int) (x3 : Int) (σ : kS) : kRes := kbi (f_Rm_blanks x2 σ) fun y σ1 => fb_Rm_simple_227  x1 x2 x3 y x2 σ1
theorem e_Rm_simple_220 {l : Launch} {G : kG} {yf : Int} {σf : kS}  {x1 : Int} {x2 : Int} {x3 : Int} {o4 : Option kV} {o5 : Option kV} {o6 : Option kV} {σ : kS} (h : fb_Rm_simple_220  x1 x2 x3 σ = some (some yf, σf)) : Rn l G dm_Rm_simple m_Rm_simple (kI fun y' σ' => y' = yf ∧ σ' = σf) 220 [some (.inr (9, 0)), some (.inl x1), some (.inl x2), some (.inl x3), o4, o5, o6] [] σ := by
  unfold fb_Rm_simple_220 at h
  obtain ⟨y, σ1, hc, h⟩ := kbi_some h
  refine s_Rm_simple_220  (by decide) (E_Rm_blanks hc) (fun y2 σ2 e2 => ?_)
  obtain ⟨rfl, rfl⟩ := e2
  exact e_Rm_simple_227  h
def fb_Rm_simple_218  (x1 : Int) (x2 : Int) (x3 : Int) (σ : kS) : kRes := some (some 3, σ)
theorem e_Rm_simple_218 {l : Launch} {G : kG} {yf : Int} {σf : kS}  {x1 : Int} {x2 : Int} {x3 : Int} {o4 : Option kV} {o5 : Option kV} {o6 : Option kV} {σ : kS} (h : fb_Rm_simple_218  x1 x2 x3 σ = some (some yf, σf)) : Rn l G dm_Rm_simple m_Rm_simple (kI fun y' σ' => y' = yf ∧ σ' = σf) 218 [some (.inr (9, 0)), some (.inl x1), some (.inl x2), some (.inl x3), o4, o5, o6] [] σ := by
  unfold fb_Rm_simple_218 at h
  simp only [Option.some.injEq, Prod.mk.injEq, true_and] at h
  exact s_Rm_simple_218  ⟨_, rfl, h⟩
def fb_Rm_simple_215  (x1 : Int) (x2 : Int) (x3 : Int) (s0 : Int) (s1 : Int) (σ : kS) : kRes := kbu (f_Rm_beginInsert s1 s0 σ) fun σ1 => fb_Rm_simple_218  x1 x2 x3 σ1
theorem e_Rm_simple_215 {l : Launch} {G : kG} {yf : Int} {σf : kS}  {x1 : Int} {x2 : Int} {x3 : Int} {s0 : Int} {s1 : Int} {o4 : Option kV} {o5 : Option kV} {o6 : Option kV} {σ : kS} (h : fb_Rm_simple_215  x1 x2 x3 s0 s1 σ = some (some yf, σf)) : Rn l G dm_Rm_simple m_Rm_simple (kI fun y' σ' => y' = yf ∧ σ' = σf) 215 [some (.inr (9, 0)), some (.inl x1), some (.inl x2), some (.inl x3), o4, o5, o6] [.inl s0, .inl s1, .inr (9, 0)] σ := by
  unfold fb_Rm_simple_215 at h
  obtain ⟨σ1, hc, h⟩ := kbu_some h
  refine s_Rm_simple_215  (by decide) (E_Rm_beginInsert hc) (fun σ2 e2 => ?_)
  subst e2
  exact e_Rm_simple_218  h
def fb_Rm_simple_207  (x1 : Int) (x2 : Int) (x3 : Int) (s0 : Int) (σ : kS) : kRes := fb_Rm_simple_215  x1 x2 x3 ((σ 24 0 0) + 1) s0 σ
theorem e_Rm_simple_207 {l : Launch} {G : kG} {yf : Int} {σf : kS}  {x1 : Int} {x2 : Int} {x3 : Int} {s0 : Int} {o4 : Option kV} {o5 : Option kV} {o6 : Option kV} {σ : kS} (h : fb_Rm_simple_207  x1 x2 x3 s0 σ = some (some yf, σf)) : Rn l G dm_Rm_simple m_Rm_simple (kI fun y' σ' => y' = yf ∧ σ' = σf) 207 [some (.inr (9, 0)), some (.inl x1), some (.inl x2), some (.inl x3), o4, o5, o6] [.inl s0, .inr (9, 0)] σ := by
  unfold fb_Rm_simple_207 at h
  refine s_Rm_simple_207  ?_
  exact e_Rm_simple_215  h
def fb_Rm_simple_203  (x1 : Int) (x2 : Int) (x3 : Int) (s0 : Int) (σ : kS) : kRes := fb_Rm_simple_215  x1 x2 x3 0 s0 σ
theorem e_Rm_simple_203 {l : Launch} {G : kG} {yf : Int} {σf : kS}  {x1 : Int} {x2 : Int} {x3 : Int} {s0 : Int} {o4 : Option kV} {o5 : Option kV} {o6 : Option kV} {σ : kS} (h : fb_Rm_simple_203  x1 x2 x3 s0 σ = some (some yf, σf)) : Rn l G dm_Rm_simple m_Rm_simple (kI fun y' σ' => y' = yf ∧ σ' = σf) 203 [some (.inr (9, 0)), some (.inl x1), some (.inl x2), some (.inl x3), o4, o5, o6] [.inl s0, .inr (9, 0)] σ := by
  unfold fb_Rm_simple_203 at h
  refine s_Rm_simple_203  ?_
  exact e_Rm_simple_215  h
def fb_Rm_simple_197  (x1 : Int) (x2 : Int) (x3 : Int) (σ : kS) : kRes := kg ((-2147483648 ≤ x3 ∧ x3 < 2147483648)) (if x3 = 0 then fb_Rm_simple_203  x1 x2 x3 x2 σ else fb_Rm_simple_207  x1 x2 x3 x2 σ)
theorem e_Rm_simple_197 {l : Launch} {G : kG} {yf : Int} {σf : kS}  {x1 : Int} {x2 : Int} {x3 : Int} {o4 : Option kV} {o5 : Option kV} {o6 : Option kV} {σ : kS} (h : fb_Rm_simple_197  x1 x2 x3 σ = some (some yf, σf)) : Rn l G dm_Rm_simple m_Rm_simple (kI fun y' σ' => y' = yf ∧ σ' = σf) 197 [some (.inr (9, 0)), some (.inl x1), some (.inl x2), some (.inl x3), o4, o5, o6] [] σ := by
  unfold fb_Rm_simple_197 at h
  obtain ⟨h1, h⟩ := kg_some h
  refine s_Rm_simple_197 h1 (fun c => ?_) (fun c => ?_)
  · rw [if_neg c] at h
    exact e_Rm_simple_207  h
  · rw [if_pos c] at h
    exact e_Rm_simple_203  h
def fb_Rm_simple_195  (x1 : Int) (x2 : Int) (x3 : Int) (σ : kS) : kRes := some (some 3, σ)
theorem e_Rm_simple_195 {l : Launch} {G : kG} {yf : Int} {σf : kS}  {x1 : Int} {x2 : Int} {x3 : Int} {o4 : Option kV} {o5 : Option kV} {o6 : Option kV} {σ : kS} (h : fb_Rm_simple_195  x1 x2 x3 σ = some (some yf, σf)) : Rn l G dm_Rm_simple m_Rm_simple (kI fun y' σ' => y' = yf ∧ σ' = σf) 195 [some (.inr (9, 0)), some (.inl x1), some (.inl x2), some (.inl x3), o4, o5, o6] [] σ := by
  unfold fb_Rm_simple_195 at h
  simp only [Option.some.injEq, Prod.mk.injEq, true_and] at h
  exact s_Rm_simple_195  ⟨_, rfl, h⟩
def fb_Rm_simple_184  (x1 : Int) (x2 : Int) (x3 : Int) (σ : kS) : kRes := kbu (f_Rm_beginInsert x2 (σ 24 0 0) σ) fun σ1 => fb_Rm_simple_195  x1 x2 x3 σ1
theorem e_Rm_simple_184 {l : Launch} {G : kG} {yf : Int} {σf : kS}  {x1 : Int} {x2 : Int} {x3 : Int} {o4 : Option kV} {o5 : Option kV} {o6 : Option kV} {σ : kS} (h : fb_Rm_simple_184  x1 x2 x3 σ = some (some yf, σf)) : Rn l G dm_Rm_simple m_Rm_simple (kI fun y' σ' => y' = yf ∧ σ' = σf) 184 [some (.inr (9, 0)), some (.inl x1), some (.inl x2), some (.inl x3), o4, o5, o6] [] σ := by
  unfold fb_Rm_simple_184 at h
  obtain ⟨σ1, hc, h⟩ := kbu_some h
  refine s_Rm_simple_184  (by decide) (E_Rm_beginInsert hc) (fun σ2 e2 => ?_)
  subst e2
  exact e_Rm_simple_195  h
def fb_Rm_simple_182  (x1 : Int) (x2 : Int) (x3 : Int) (σ : kS) : kRes := some (some 2, σ)
theorem e_Rm_simple_182 {l : Launch} {G : kG} {yf : Int} {σf : kS}  {x1 : Int} {x2 : Int} {x3 : Int} {o4 : Option kV} {o5 : Option kV} {o6 : Option kV} {σ : kS} (h : fb_Rm_simple_182  x1 x2 x3 σ = some (some yf, σf)) : Rn l G dm_Rm_simple m_Rm_simple (kI fun y' σ' => y' = yf ∧ σ' = σf) 182 [some (.inr (9, 0)), some (.inl x1), some (.inl x2), some (.inl x3), o4, o5, o6] [] σ := by
  unfold fb_Rm_simple_182 at h
  simp only [Option.some.injEq, Prod.mk.injEq, true_and] at h
  exact s_Rm_simple_182  ⟨_, rfl, h⟩
def fb_Rm_simple_176  (x1 : Int) (x2 : Int) (x3 : Int) (σ : kS) : kRes := kbu (f_Rm_copyText 3 0 σ) fun σ1 => fb_Rm_simple_182  x1 x2 x3 σ1
theorem e_Rm_simple_176 {l : Launch} {G : kG} {yf : Int} {σf : kS}  {x1 : Int} {x2 : Int} {x3 : Int} {o4 : Option kV} {o5 : Option kV} {o6 : Option kV} {σ : kS} (h : fb_Rm_simple_176  x1 x2 x3 σ = some (some yf, σf)) : Rn l G dm_Rm_simple m_Rm_simple (kI fun y' σ' => y' = yf ∧ σ' = σf) 176 [some (.inr (9, 0)), some (.inl x1), some (.inl x2), some (.inl x3), o4, o5, o6] [] σ := by
  unfold fb_Rm_simple_176 at h
  obtain ⟨σ1, hc, h⟩ := kbu_some h
  refine s_Rm_simple_176  (by decide) (E_Rm_copyText hc) (fun σ2 e2 => ?_)
  subst e2
  exact e_Rm_simple_182  h
def fb_Rm_simple_170  (x1 : Int) (x2 : Int) (x3 : Int) (σ : kS) : kRes := kbu (f_Rm_copyText 0 1 σ) fun σ1 => fb_Rm_simple_176  x1 x2 x3 σ1
theorem e_Rm_simple_170 {l : Launch} {G : kG} {yf : Int} {σf : kS}  {x1 : Int} {x2 : Int} {x3 : Int} {o4 : Option kV} {o5 : Option kV} {o6 : Option kV} {σ : kS} (h : fb_Rm_simple_170  x1 x2 x3 σ = some (some yf, σf)) : Rn l G dm_Rm_simple m_Rm_simple (kI fun y' σ' => y' = yf ∧ σ' = σf) 170 [some (.inr (9, 0)), some (.inl x1), some (.inl x2), some (.inl x3), o4, o5, o6] [] σ := by
  unfold fb_Rm_simple_170 at h
  obtain ⟨σ1, hc, h⟩ := kbu_some h
  refine s_Rm_simple_170  (by decide) (E_Rm_copyText hc) (fun σ2 e2 => ?_)
  subst e2
  exact e_Rm_simple_176  h
def fb_Rm_simple_164  (x1 : Int) (x2 : Int) (x3 : Int) (σ : kS) : kRes := kbu (f_Rm_copyText 1 3 σ) fun σ1 => fb_Rm_simple_170  x1 x2 x3 σ1
theorem e_Rm_simple_164 {l : Launch} {G : kG} {yf : Int} {σf : kS}  {x1 : Int} {x2 : Int} {x3 : Int} {o4 : Option kV} {o5 : Option kV} {o6 : Option kV} {σ : kS} (h : fb_Rm_simple_164  x1 x2 x3 σ = some (some yf, σf)) : Rn l G dm_Rm_simple m_Rm_simple (kI fun y' σ' => y' = yf ∧ σ' = σf) 164 [some (.inr (9, 0)), some (.inl x1), some (.inl x2), some (.inl x3), o4, o5, o6] [] σ := by
  unfold fb_Rm_simple_164 at h
  obtain ⟨σ1, hc, h⟩ := kbu_some h
  refine s_Rm_simple_164  (by decide) (E_Rm_copyText hc) (fun σ2 e2 => ?_)
  subst e2
  exact e_Rm_simple_170  h
def fb_Rm_simple_162  (x1 : Int) (x2 : Int) (x3 : Int) (σ : kS) : kRes := some (some 0, σ)
theorem e_Rm_simple_162 {l : Launch} {G : kG} {yf : Int} {σf : kS}  {x1 : Int} {x2 : Int} {x3 : Int} {o4 : Option kV} {o5 : Option kV} {o6 : Option kV} {σ : kS} (h : fb_Rm_simple_162  x1 x2 x3 σ = some (some yf, σf)) : Rn l G dm_Rm_simple m_Rm_simple (kI fun y' σ' => y' = yf ∧ σ' = σf) 162 [some (.inr (9, 0)), some (.inl x1), some (.inl x2), some (.inl x3), o4, o5, o6] [] σ := by
  unfold fb_Rm_simple_162 at h
  simp only [Option.some.injEq, Prod.mk.injEq, true_and] at h
  exact s_Rm_simple_162  ⟨_, rfl, h⟩
def fb_Rm_simple_155  (x1 : Int) (x2 : Int) (x3 : Int) (σ : kS) : kRes := kg ((-2147483648 ≤ σ 9 0 6 ∧ σ 9 0 6 < 2147483648)) (if (σ 9 0 6) = 0 then fb_Rm_simple_162  x1 x2 x3 σ else fb_Rm_simple_164  x1 x2 x3 σ)
theorem e_Rm_simple_155 {l : Launch} {G : kG} {yf : Int} {σf : kS}  {x1 : Int} {x2 : Int} {x3 : Int} {o4 : Option kV} {o5 : Option kV} {o6 : Option kV} {σ : kS} (h : fb_Rm_simple_155  x1 x2 x3 σ = some (some yf, σf)) : Rn l G dm_Rm_simple m_Rm_simple (kI fun y' σ' => y' = yf ∧ σ' = σf) 155 [some (.inr (9, 0)), some (.inl x1), some (.inl x2), some (.inl x3), o4, o5, o6] [] σ := by
  unfold fb_Rm_simple_155 at h
  obtain ⟨h1, h⟩ := kg_some h
  refine s_Rm_simple_155 h1 (fun c => ?_) (fun c => ?_)
  · rw [if_neg c] at h
    exact e_Rm_simple_164  h
  · rw [if_pos c] at h
    exact e_Rm_simple_162  h
def fb_Rm_simple_154  (x1 : Int) (x2 : Int) (x3 : Int) (s0 : Int) (σ : kS) : kRes := some (some s0, σ)
theorem e_Rm_simple_154 {l : Launch} {G : kG} {yf : Int} {σf : kS}  {x1 : Int} {x2 : Int} {x3 : Int} {s0 : Int} {o4 : Option kV} {o5 : Option kV} {o6 : Option kV} {σ : kS} (h : fb_Rm_simple_154  x1 x2 x3 s0 σ = some (some yf, σf)) : Rn l G dm_Rm_simple m_Rm_simple (kI fun y' σ' => y' = yf ∧ σ' = σf) 154 [some (.inr (9, 0)), some (.inl x1), some (.inl x2), some (.inl x3), o4, o5, o6] [.inl s0] σ := by
  unfold fb_Rm_simple_154 at h
  simp only [Option.some.injEq, Prod.mk.injEq, true_and] at h
  exact s_Rm_simple_154  ⟨_, rfl, h⟩
def fb_Rm_simple_151  (x1 : Int) (x2 : Int) (x3 : Int) (s0 : Int) (σ : kS) : kRes := kbi (f_Rm_putLines s0 σ) fun y σ1 => fb_Rm_simple_154  x1 x2 x3 y σ1
theorem e_Rm_simple_151 {l : Launch} {G : kG} {yf : Int} {σf : kS}  {x1 : Int} {x2 : Int} {x3 : Int} {s0 : Int} {o4 : Option kV} {o5 : Option kV} {o6 : Option kV} {σ : kS} (h : fb_Rm_simple_151  x1 x2 x3 s0 σ = some (some yf, σf)) : Rn l G dm_Rm_simple m_Rm_simple (kI fun y' σ' => y' = yf ∧ σ' = σf) 151 [some (.inr (9, 0)), some (.inl x1), some (.inl x2), some (.inl x3), o4, o5, o6] [.inl s0, .inr (9, 0)] σ := by
  unfold fb_Rm_simple_151 at h
  obtain ⟨y, σ1, hc, h⟩ := kbi_some h
  refine s_Rm_simple_151  (by decide) (E_Rm_putLines hc) (fun y2 σ2 e2 => ?_)
  obtain ⟨rfl, rfl⟩ := e2
  exact e_Rm_simple_154  h
def fb_Rm_simple_148  (x1 : Int) (x2 : Int) (x3 : Int) (σ : kS) : kRes := fb_Rm_simple_151  x1 x2 x3 (x2 + 1) σ
theorem e_Rm_simple_148 {l : Launch} {G : kG} {yf : Int} {σf : kS}  {x1 : Int} {x2 : Int} {x3 : Int} {o4 : Option kV} {o5 : Option kV} {o6 : Option kV} {σ : kS} (h : fb_Rm_simple_148  x1 x2 x3 σ = some (some yf, σf)) : Rn l G dm_Rm_simple m_Rm_simple (kI fun y' σ' => y' = yf ∧ σ' = σf) 148 [some (.inr (9, 0)), some (.inl x1), some (.inl x2), some (.inl x3), o4, o5, o6] [.inr (9, 0)] σ := by
  unfold fb_Rm_simple_148 at h
  refine s_Rm_simple_148  ?_
  exact e_Rm_simple_151  h
def fb_Rm_simple_144  (x1 : Int) (x2 : Int) (x3 : Int) (σ : kS) : kRes := fb_Rm_simple_151  x1 x2 x3 x2 σ
theorem e_Rm_simple_144 {l : Launch} {G : kG} {yf : Int} {σf : kS}  {x1 : Int} {x2 : Int} {x3 : Int} {o4 : Option kV} {o5 : Option kV} {o6 : Option kV} {σ : kS} (h : fb_Rm_simple_144  x1 x2 x3 σ = some (some yf, σf)) : Rn l G dm_Rm_simple m_Rm_simple (kI fun y' σ' => y' = yf ∧ σ' = σf) 144 [some (.inr (9, 0)), some (.inl x1), some (.inl x2), some (.inl x3), o4, o5, o6] [.inr (9, 0)] σ := by
  unfold fb_Rm_simple_144 at h
  refine s_Rm_simple_144  ?_
  exact e_Rm_simple_151  h
def fb_Rm_simple_137  (x1 : Int) (x2 : Int) (x3 : Int) (σ : kS) : kRes := kg ((-2147483648 ≤ x1 ∧ x1 < 2147483648)) (if x1 = 80 then fb_Rm_simple_144  x1 x2 x3 σ else fb_Rm_simple_148  x1 x2 x3 σ)
theorem e_Rm_simple_137 {l : Launch} {G : kG} {yf : Int} {σf : kS}  {x1 : Int} {x2 : Int} {x3 : Int} {o4 : Option kV} {o5 : Option kV} {o6 : Option kV} {σ : kS} (h : fb_Rm_simple_137  x1 x2 x3 σ = some (some yf, σf)) : Rn l G dm_Rm_simple m_Rm_simple (kI fun y' σ' => y' = yf ∧ σ' = σf) 137 [some (.inr (9, 0)), some (.inl x1), some (.inl x2), some (.inl x3), o4, o5, o6] [] σ := by
  unfold fb_Rm_simple_137 at h
  obtain ⟨h1, h⟩ := kg_some h
  refine s_Rm_simple_137 h1 (fun c => ?_) (fun c => ?_)
  · rw [if_neg c] at h
    exact e_Rm_simple_148  h
  · rw [if_pos c] at h
    exact e_Rm_simple_144  h
def fb_Rm_simple_134  (x1 : Int) (x2 : Int) (x3 : Int) (s0 : Int) (σ : kS) : kRes := fb_Rm_simple_154  x1 x2 x3 s0 σ
theorem e_Rm_simple_134 {l : Launch} {G : kG} {yf : Int} {σf : kS}  {x1 : Int} {x2 : Int} {x3 : Int} {s0 : Int} {o4 : Option kV} {o5 : Option kV} {o6 : Option kV} {σ : kS} (h : fb_Rm_simple_134  x1 x2 x3 s0 σ = some (some yf, σf)) : Rn l G dm_Rm_simple m_Rm_simple (kI fun y' σ' => y' = yf ∧ σ' = σf) 134 [some (.inr (9, 0)), some (.inl x1), some (.inl x2), some (.inl x3), o4, o5, o6] [.inl s0] σ := by
  unfold fb_Rm_simple_134 at h
  refine s_Rm_simple_134  ?_
  exact e_Rm_simple_154  h
def fb_Rm_simple_131  (x1 : Int) (x2 : Int) (x3 : Int) (s0 : Int) (σ : kS) : kRes := kbi (f_Rm_putCharacters s0 σ) fun y σ1 => fb_Rm_simple_134  x1 x2 x3 y σ1
theorem e_Rm_simple_131 {l : Launch} {G : kG} {yf : Int} {σf : kS}  {x1 : Int} {x2 : Int} {x3 : Int} {s0 : Int} {o4 : Option kV} {o5 : Option kV} {o6 : Option kV} {σ : kS} (h : fb_Rm_simple_131  x1 x2 x3 s0 σ = some (some yf, σf)) : Rn l G dm_Rm_simple m_Rm_simple (kI fun y' σ' => y' = yf ∧ σ' = σf) 131 [some (.inr (9, 0)), some (.inl x1), some (.inl x2), some (.inl x3), o4, o5, o6] [.inl s0, .inr (9, 0)] σ := by
  unfold fb_Rm_simple_131 at h
  obtain ⟨y, σ1, hc, h⟩ := kbi_some h
  refine s_Rm_simple_131  (by decide) (E_Rm_putCharacters hc) (fun y2 σ2 e2 => ?_)
  obtain ⟨rfl, rfl⟩ := e2
  exact e_Rm_simple_134  h
def fb_Rm_simple_123  (x1 : Int) (x2 : Int) (x3 : Int) (σ : kS) : kRes := fb_Rm_simple_131  x1 x2 x3 ((σ 24 0 0) + 1) σ
theorem e_Rm_simple_123 {l : Launch} {G : kG} {yf : Int} {σf : kS}  {x1 : Int} {x2 : Int} {x3 : Int} {o4 : Option kV} {o5 : Option kV} {o6 : Option kV} {σ : kS} (h : fb_Rm_simple_123  x1 x2 x3 σ = some (some yf, σf)) : Rn l G dm_Rm_simple m_Rm_simple (kI fun y' σ' => y' = yf ∧ σ' = σf) 123 [some (.inr (9, 0)), some (.inl x1), some (.inl x2), some (.inl x3), o4, o5, o6] [.inr (9, 0)] σ := by
  unfold fb_Rm_simple_123 at h
  refine s_Rm_simple_123  ?_
  exact e_Rm_simple_131  h
def fb_Rm_simple_114  (x1 : Int) (x2 : Int) (x3 : Int) (σ : kS) : kRes := fb_Rm_simple_131  x1 x2 x3 (σ 24 0 0) σ
theorem e_Rm_simple_114 {l : Launch} {G : kG} {yf : Int} {σf : kS}  {x1 : Int} {x2 : Int} {x3 : Int} {o4 : Option kV} {o5 : Option kV} {o6 : Option kV} {σ : kS} (h : fb_Rm_simple_114  x1 x2 x3 σ = some (some yf, σf)) : Rn l G dm_Rm_simple m_Rm_simple (kI fun y' σ' => y' = yf ∧ σ' = σf) 114 [some (.inr (9, 0)), some (.inl x1), some (.inl x2), some (.inl x3), o4, o5, o6] [.inr (9, 0)] σ := by
  unfold fb_Rm_simple_114 at h
  refine s_Rm_simple_114  ?_
  exact e_Rm_simple_131  h
def fb_Rm_simple_110  (x1 : Int) (x2 : Int) (x3 : Int) (σ : kS) : kRes := kg ((-2147483648 ≤ x3 ∧ x3 < 2147483648)) (if x3 = 0 then fb_Rm_simple_114  x1 x2 x3 σ else fb_Rm_simple_123  x1 x2 x3 σ)
theorem e_Rm_simple_110 {l : Launch} {G : kG} {yf : Int} {σf : kS}  {x1 : Int} {x2 : Int} {x3 : Int} {o4 : Option kV} {o5 : Option kV} {o6 : Option kV} {σ : kS} (h : fb_Rm_simple_110  x1 x2 x3 σ = some (some yf, σf)) : Rn l G dm_Rm_simple m_Rm_simple (kI fun y' σ' => y' = yf ∧ σ' = σf) 110 [some (.inr (9, 0)), some (.inl x1), some (.inl x2), some (.inl x3), o4, o5, o6] [.inr (9, 0)] σ := by
  unfold fb_Rm_simple_110 at h
  obtain ⟨h1, h⟩ := kg_some h
  refine s_Rm_simple_110 h1 (fun c => ?_) (fun c => ?_)
  · rw [if_neg c] at h
    exact e_Rm_simple_123  h
  · rw [if_pos c] at h
    exact e_Rm_simple_114  h
def fb_Rm_simple_103  (x1 : Int) (x2 : Int) (x3 : Int) (σ : kS) : kRes := kg ((-2147483648 ≤ x1 ∧ x1 < 2147483648)) (if x1 = 80 then fb_Rm_simple_114  x1 x2 x3 σ else fb_Rm_simple_110  x1 x2 x3 σ)
theorem e_Rm_simple_103 {l : Launch} {G : kG} {yf : Int} {σf : kS}  {x1 : Int} {x2 : Int} {x3 : Int} {o4 : Option kV} {o5 : Option kV} {o6 : Option kV} {σ : kS} (h : fb_Rm_simple_103  x1 x2 x3 σ = some (some yf, σf)) : Rn l G dm_Rm_simple m_Rm_simple (kI fun y' σ' => y' = yf ∧ σ' = σf) 103 [some (.inr (9, 0)), some (.inl x1), some (.inl x2), some (.inl x3), o4, o5, o6] [] σ := by
  unfold fb_Rm_simple_103 at h
  obtain ⟨h1, h⟩ := kg_some h
  refine s_Rm_simple_103 h1 (fun c => ?_) (fun c => ?_)
  · rw [if_pos c] at h
    exact e_Rm_simple_114  h
  · rw [if_neg c] at h
    exact e_Rm_simple_110  h
def fb_Rm_simple_96  (x1 : Int) (x2 : Int) (x3 : Int) (σ : kS) : kRes := kg ((-2147483648 ≤ σ 9 0 7 ∧ σ 9 0 7 < 2147483648)) (if (σ 9 0 7) = 0 then fb_Rm_simple_103  x1 x2 x3 σ else fb_Rm_simple_137  x1 x2 x3 σ)
theorem e_Rm_simple_96 {l : Launch} {G : kG} {yf : Int} {σf : kS}  {x1 : Int} {x2 : Int} {x3 : Int} {o4 : Option kV} {o5 : Option kV} {o6 : Option kV} {σ : kS} (h : fb_Rm_simple_96  x1 x2 x3 σ = some (some yf, σf)) : Rn l G dm_Rm_simple m_Rm_simple (kI fun y' σ' => y' = yf ∧ σ' = σf) 96 [some (.inr (9, 0)), some (.inl x1), some (.inl x2), some (.inl x3), o4, o5, o6] [] σ := by
  unfold fb_Rm_simple_96 at h
  obtain ⟨h1, h⟩ := kg_some h
  refine s_Rm_simple_96 h1 (fun c => ?_) (fun c => ?_)
  · rw [if_neg c] at h
    exact e_Rm_simple_137  h
  · rw [if_pos c] at h
    exact e_Rm_simple_103  h
def fb_Rm_simple_0  (x1 : Int) (σ : kS) : kRes := kg ((0 ≤ σ 23 0 0 ∧ σ 23 0 0 < (100 : Nat)) ∧ (-2147483648 ≤ x1 ∧ x1 < 2147483648)) (if x1 = 65 then fb_Rm_simple_232  x1 (σ 23 0 0) (σ 21 0 (Int.toNat (σ 23 0 0))) σ else if x1 = 73 then fb_Rm_simple_220  x1 (σ 23 0 0) (σ 21 0 (Int.toNat (σ 23 0 0))) σ else if x1 = 79 then fb_Rm_simple_240  x1 (σ 23 0 0) (σ 21 0 (Int.toNat (σ 23 0 0))) σ else if x1 = 80 then fb_Rm_simple_96  x1 (σ 23 0 0) (σ 21 0 (Int.toNat (σ 23 0 0))) σ else if x1 = 97 then fb_Rm_simple_197  x1 (σ 23 0 0) (σ 21 0 (Int.toNat (σ 23 0 0))) σ else if x1 = 105 then fb_Rm_simple_184  x1 (σ 23 0 0) (σ 21 0 (Int.toNat (σ 23 0 0))) σ else if x1 = 111 then fb_Rm_simple_240  x1 (σ 23 0 0) (σ 21 0 (Int.toNat (σ 23 0 0))) σ else if x1 = 112 then fb_Rm_simple_96  x1 (σ 23 0 0) (σ 21 0 (Int.toNat (σ 23 0 0))) σ else if x1 = 117 then fb_Rm_simple_155  x1 (σ 23 0 0) (σ 21 0 (Int.toNat (σ 23 0 0))) σ else fb_Rm_simple_317  x1 (σ 23 0 0) (σ 21 0 (Int.toNat (σ 23 0 0))) σ)
theorem e_Rm_simple_0 {l : Launch} {G : kG} {yf : Int} {σf : kS}  {x1 : Int} {o2 : Option kV} {o3 : Option kV} {o4 : Option kV} {o5 : Option kV} {o6 : Option kV} {σ : kS} (h : fb_Rm_simple_0  x1 σ = some (some yf, σf)) : Rn l G dm_Rm_simple m_Rm_simple (kI fun y' σ' => y' = yf ∧ σ' = σf) 0 [some (.inr (9, 0)), some (.inl x1), o2, o3, o4, o5, o6] [] σ := by
  unfold fb_Rm_simple_0 at h
  obtain ⟨⟨h1, h2⟩, h⟩ := kg_some h
  refine s_Rm_simple_0 h1 h2 (fun c => ?_) (fun c => ?_) (fun c => ?_) (fun c => ?_) (fun c => ?_) (fun c => ?_) (fun c => ?_) (fun c => ?_) (fun c => ?_) (fun c0 c1 c2 c3 c4 c5 c6 c7 c8 => ?_)
  · rw [if_pos c] at h
    exact e_Rm_simple_232  h
  · rw [if_neg (show ¬ x1 = 65 by omega), if_pos c] at h
    exact e_Rm_simple_220  h
  · rw [if_neg (show ¬ x1 = 65 by omega), if_neg (show ¬ x1 = 73 by omega), if_pos c] at h
    exact e_Rm_simple_240  h
  · rw [if_neg (show ¬ x1 = 65 by omega), if_neg (show ¬ x1 = 73 by omega), if_neg (show ¬ x1 = 79 by omega), if_pos c] at h
    exact e_Rm_simple_96  h
  · rw [if_neg (show ¬ x1 = 65 by omega), if_neg (show ¬ x1 = 73 by omega), if_neg (show ¬ x1 = 79 by omega), if_neg (show ¬ x1 = 80 by omega), if_pos c] at h
    exact e_Rm_simple_197  h
  · rw [if_neg (show ¬ x1 = 65 by omega), if_neg (show ¬ x1 = 73 by omega), if_neg (show ¬ x1 = 79 by omega), if_neg (show ¬ x1 = 80 by omega), if_neg (show ¬ x1 = 97 by omega), if_pos c] at h
    exact e_Rm_simple_184  h
  · rw [if_neg (show ¬ x1 = 65 by omega), if_neg (show ¬ x1 = 73 by omega), if_neg (show ¬ x1 = 79 by omega), if_neg (show ¬ x1 = 80 by omega), if_neg (show ¬ x1 = 97 by omega), if_neg (show ¬ x1 = 105 by omega), if_pos c] at h
    exact e_Rm_simple_240  h
  · rw [if_neg (show ¬ x1 = 65 by omega), if_neg (show ¬ x1 = 73 by omega), if_neg (show ¬ x1 = 79 by omega), if_neg (show ¬ x1 = 80 by omega), if_neg (show ¬ x1 = 97 by omega), if_neg (show ¬ x1 = 105 by omega), if_neg (show ¬ x1 = 111 by omega), if_pos c] at h
    exact e_Rm_simple_96  h
  · rw [if_neg (show ¬ x1 = 65 by omega), if_neg (show ¬ x1 = 73 by omega), if_neg (show ¬ x1 = 79 by omega), if_neg (show ¬ x1 = 80 by omega), if_neg (show ¬ x1 = 97 by omega), if_neg (show ¬ x1 = 105 by omega), if_neg (show ¬ x1 = 111 by omega), if_neg (show ¬ x1 = 112 by omega), if_pos c] at h
    exact e_Rm_simple_155  h
  · rw [if_neg c0, if_neg c1, if_neg c2, if_neg c3, if_neg c4, if_neg c5, if_neg c6, if_neg c7, if_neg c8] at h
    exact e_Rm_simple_317  h
def f_Rm_simple (x1 : Int) (σ : kS) : kRes := fb_Rm_simple_0 x1 σ
theorem E_Rm_simple {l : Launch} {G : kG} {yf : Int} {σf : kS} {x1 : Int} {σ : kS} (h : f_Rm_simple x1 σ = some (some yf, σf)) : Call l G dm_Rm_simple y_Rm_simple m_Rm_simple [.inr (9, 0), .inl x1] σ (kI fun y' σ' => y' = yf ∧ σ' = σf) := by
  unfold f_Rm_simple at h
  exact Call.of (by decide +kernel) rfl (Nat.le_of_ble_eq_true rfl) (e_Rm_simple_0 h)
