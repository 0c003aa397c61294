/-! Rm_match -/
def fb_Rm_match_203  (x1 : Int) (x2 : Int) (x3 : Int) (x4 : Int) (x5 : Int) (σ : kS) : kRes := some (some (-1), σ)
theorem e_Rm_match_203 {l : Launch} {G : kG} {yf : Int} {σf : kS}  {x1 : Int} {x2 : Int} {x3 : Int} {x4 : Int} {x5 : Int} {o6 : Option kV} {o7 : Option kV} {o8 : Option kV} {σ : kS} (h : fb_Rm_match_203  x1 x2 x3 x4 x5 σ = some (some yf, σf)) : Rn l G dm_Rm_match m_Rm_match (kI fun y' σ' => y' = yf ∧ σ' = σf) 203 [some (.inr (9, 0)), some (.inl x1), some (.inl x2), some (.inl x3), some (.inl x4), some (.inl x5), o6, o7, o8] [] σ := by
  unfold fb_Rm_match_203 at h
  simp only [Option.some.injEq, Prod.mk.injEq, true_and] at h
  exact s_Rm_match_203  ⟨_, rfl, h⟩
def fb_Rm_match_197 (k177 : Int → Int → Int → Int → Int → kS → kRes) (x1 : Int) (x2 : Int) (x3 : Int) (x4 : Int) (x5 : Int) (σ : kS) : kRes := k177 x1 x2 x3 x4 (x5 + (-1)) σ
theorem e_Rm_match_197 {l : Launch} {G : kG} {yf : Int} {σf : kS} {k177 : Int → Int → Int → Int → Int → kS → kRes} (hk177 : ∀ (x1 : Int) (x2 : Int) (x3 : Int) (x4 : Int) (x5 : Int) (o6 : Option kV) (o7 : Option kV) (o8 : Option kV) (σ : kS), k177 x1 x2 x3 x4 x5 σ = some (some yf, σf) → Rn l G dm_Rm_match m_Rm_match (kI fun y' σ' => y' = yf ∧ σ' = σf) 177 [some (.inr (9, 0)), some (.inl x1), some (.inl x2), some (.inl x3), some (.inl x4), some (.inl x5), o6, o7, o8] [] σ) {x1 : Int} {x2 : Int} {x3 : Int} {x4 : Int} {x5 : Int} {o6 : Option kV} {o7 : Option kV} {o8 : Option kV} {σ : kS} (h : fb_Rm_match_197 k177 x1 x2 x3 x4 x5 σ = some (some yf, σf)) : Rn l G dm_Rm_match m_Rm_match (kI fun y' σ' => y' = yf ∧ σ' = σf) 197 [some (.inr (9, 0)), some (.inl x1), some (.inl x2), some (.inl x3), some (.inl x4), some (.inl x5), o6, o7, o8] [] σ := by
  unfold fb_Rm_match_197 at h
  refine s_Rm_match_197  ?_
  exact hk177 _ _ _ _ _ _ _ _ _ h
def fb_Rm_match_194  (x1 : Int) (x2 : Int) (x3 : Int) (x4 : Int) (x5 : Int) (σ : kS) : kRes := some (some x5, σ)
theorem e_Rm_match_194 {l : Launch} {G : kG} {yf : Int} {σf : kS}  {x1 : Int} {x2 : Int} {x3 : Int} {x4 : Int} {x5 : Int} {o6 : Option kV} {o7 : Option kV} {o8 : Option kV} {σ : kS} (h : fb_Rm_match_194  x1 x2 x3 x4 x5 σ = some (some yf, σf)) : Rn l G dm_Rm_match m_Rm_match (kI fun y' σ' => y' = yf ∧ σ' = σf) 194 [some (.inr (9, 0)), some (.inl x1), some (.inl x2), some (.inl x3), some (.inl x4), some (.inl x5), o6, o7, o8] [] σ := by
  unfold fb_Rm_match_194 at h
  simp only [Option.some.injEq, Prod.mk.injEq, true_and] at h
  exact s_Rm_match_194  ⟨_, rfl, h⟩
def fb_Rm_match_183 (k177 : Int → Int → Int → Int → Int → kS → kRes) (x1 : Int) (x2 : Int) (x3 : Int) (x4 : Int) (x5 : Int) (σ : kS) : kRes := kg ((-2147483648 ≤ kand (kshr x4 x5) 1 ∧ kand (kshr x4 x5) 1 < 2147483648)) (if (kand (kshr x4 x5) 1) = 1 then fb_Rm_match_194  x1 x2 x3 x4 x5 σ else fb_Rm_match_197 k177 x1 x2 x3 x4 x5 σ)
theorem e_Rm_match_183 {l : Launch} {G : kG} {yf : Int} {σf : kS} {k177 : Int → Int → Int → Int → Int → kS → kRes} (hk177 : ∀ (x1 : Int) (x2 : Int) (x3 : Int) (x4 : Int) (x5 : Int) (o6 : Option kV) (o7 : Option kV) (o8 : Option kV) (σ : kS), k177 x1 x2 x3 x4 x5 σ = some (some yf, σf) → Rn l G dm_Rm_match m_Rm_match (kI fun y' σ' => y' = yf ∧ σ' = σf) 177 [some (.inr (9, 0)), some (.inl x1), some (.inl x2), some (.inl x3), some (.inl x4), some (.inl x5), o6, o7, o8] [] σ) {x1 : Int} {x2 : Int} {x3 : Int} {x4 : Int} {x5 : Int} {o6 : Option kV} {o7 : Option kV} {o8 : Option kV} {σ : kS} (h : fb_Rm_match_183 k177 x1 x2 x3 x4 x5 σ = some (some yf, σf)) : Rn l G dm_Rm_match m_Rm_match (kI fun y' σ' => y' = yf ∧ σ' = σf) 183 [some (.inr (9, 0)), some (.inl x1), some (.inl x2), some (.inl x3), some (.inl x4), some (.inl x5), o6, o7, o8] [] σ := by
  unfold fb_Rm_match_183 at h
  obtain ⟨h1, h⟩ := kg_some h
  refine s_Rm_match_183 h1 (fun c => ?_) (fun c => ?_)
  · rw [if_neg c] at h
    exact e_Rm_match_197 hk177 h
  · rw [if_pos c] at h
    exact e_Rm_match_194  h
def fb_Rm_match_177 (k177 : Int → Int → Int → Int → Int → kS → kRes) (x1 : Int) (x2 : Int) (x3 : Int) (x4 : Int) (x5 : Int) (σ : kS) : kRes := kg ((-2147483648 ≤ x5 ∧ x5 < 2147483648) ∧ (-2147483648 ≤ x2 ∧ x2 < 2147483648)) (if x5 < x2 then fb_Rm_match_203  x1 x2 x3 x4 x5 σ else fb_Rm_match_183 k177 x1 x2 x3 x4 x5 σ)
theorem e_Rm_match_177 {l : Launch} {G : kG} {yf : Int} {σf : kS} {k177 : Int → Int → Int → Int → Int → kS → kRes} (hk177 : ∀ (x1 : Int) (x2 : Int) (x3 : Int) (x4 : Int) (x5 : Int) (o6 : Option kV) (o7 : Option kV) (o8 : Option kV) (σ : kS), k177 x1 x2 x3 x4 x5 σ = some (some yf, σf) → Rn l G dm_Rm_match m_Rm_match (kI fun y' σ' => y' = yf ∧ σ' = σf) 177 [some (.inr (9, 0)), some (.inl x1), some (.inl x2), some (.inl x3), some (.inl x4), some (.inl x5), o6, o7, o8] [] σ) {x1 : Int} {x2 : Int} {x3 : Int} {x4 : Int} {x5 : Int} {o6 : Option kV} {o7 : Option kV} {o8 : Option kV} {σ : kS} (h : fb_Rm_match_177 k177 x1 x2 x3 x4 x5 σ = some (some yf, σf)) : Rn l G dm_Rm_match m_Rm_match (kI fun y' σ' => y' = yf ∧ σ' = σf) 177 [some (.inr (9, 0)), some (.inl x1), some (.inl x2), some (.inl x3), some (.inl x4), some (.inl x5), o6, o7, o8] [] σ := by
  unfold fb_Rm_match_177 at h
  obtain ⟨⟨h1, h2⟩, h⟩ := kg_some h
  refine s_Rm_match_177 h1 h2 (fun c => ?_) (fun c => ?_)
  · rw [if_pos c] at h
    exact e_Rm_match_203  h
  · rw [if_neg c] at h
    exact e_Rm_match_183 hk177 h
def fl_Rm_match_177  : Nat → Int → Int → Int → Int → Int → kS → kRes
  | 0, _, _, _, _, _, _ => none
  | n + 1, x1, x2, x3, x4, x5, σ => fb_Rm_match_177 (fl_Rm_match_177  n) x1 x2 x3 x4 x5 σ
theorem el_Rm_match_177 {l : Launch} {G : kG} {yf : Int} {σf : kS}  : ∀ (n : Nat) (x1 : Int) (x2 : Int) (x3 : Int) (x4 : Int) (x5 : Int) (o6 : Option kV) (o7 : Option kV) (o8 : Option kV) (σ : kS), fl_Rm_match_177  n x1 x2 x3 x4 x5 σ = some (some yf, σf) → Rn l G dm_Rm_match m_Rm_match (kI fun y' σ' => y' = yf ∧ σ' = σf) 177 [some (.inr (9, 0)), some (.inl x1), some (.inl x2), some (.inl x3), some (.inl x4), some (.inl x5), o6, o7, o8] [] σ := by
  intro n
  induction n with
  | zero => intro x1 x2 x3 x4 x5 o6 o7 o8 σ h; simp only [fl_Rm_match_177] at h; cases h
  | succ n ih => intro x1 x2 x3 x4 x5 o6 o7 o8 σ h; simp only [fl_Rm_match_177] at h; exact e_Rm_match_177 ih h
def fb_Rm_match_174  (x1 : Int) (x2 : Int) (x3 : Int) (x4 : Int) (x5 : Int) (σ : kS) : kRes := fl_Rm_match_177  3000 x1 x2 x3 x4 x3 σ
theorem e_Rm_match_174 {l : Launch} {G : kG} {yf : Int} {σf : kS}  {x1 : Int} {x2 : Int} {x3 : Int} {x4 : Int} {x5 : Int} {o6 : Option kV} {o7 : Option kV} {o8 : Option kV} {σ : kS} (h : fb_Rm_match_174  x1 x2 x3 x4 x5 σ = some (some yf, σf)) : Rn l G dm_Rm_match m_Rm_match (kI fun y' σ' => y' = yf ∧ σ' = σf) 174 [some (.inr (9, 0)), some (.inl x1), some (.inl x2), some (.inl x3), some (.inl x4), some (.inl x5), o6, o7, o8] [] σ := by
  unfold fb_Rm_match_174 at h
  refine s_Rm_match_174  ?_
  exact el_Rm_match_177  _ _ _ _ _ _ _ _ _ _ h
def fb_Rm_match_173  (x1 : Int) (x2 : Int) (x3 : Int) (x4 : Int) (x5 : Int) (s0 : Int) (σ : kS) : kRes := some (some s0, σ)
theorem e_Rm_match_173 {l : Launch} {G : kG} {yf : Int} {σf : kS}  {x1 : Int} {x2 : Int} {x3 : Int} {x4 : Int} {x5 : Int} {s0 : Int} {o6 : Option kV} {o7 : Option kV} {o8 : Option kV} {σ : kS} (h : fb_Rm_match_173  x1 x2 x3 x4 x5 s0 σ = some (some yf, σf)) : Rn l G dm_Rm_match m_Rm_match (kI fun y' σ' => y' = yf ∧ σ' = σf) 173 [some (.inr (9, 0)), some (.inl x1), some (.inl x2), some (.inl x3), some (.inl x4), some (.inl x5), o6, o7, o8] [.inl s0] σ := by
  unfold fb_Rm_match_173 at h
  simp only [Option.some.injEq, Prod.mk.injEq, true_and] at h
  exact s_Rm_match_173  ⟨_, rfl, h⟩
def fb_Rm_match_172  (x1 : Int) (x2 : Int) (x3 : Int) (x4 : Int) (x5 : Int) (σ : kS) : kRes := fb_Rm_match_173  x1 x2 x3 x4 x5 (-1) σ
theorem e_Rm_match_172 {l : Launch} {G : kG} {yf : Int} {σf : kS}  {x1 : Int} {x2 : Int} {x3 : Int} {x4 : Int} {x5 : Int} {o6 : Option kV} {o7 : Option kV} {o8 : Option kV} {σ : kS} (h : fb_Rm_match_172  x1 x2 x3 x4 x5 σ = some (some yf, σf)) : Rn l G dm_Rm_match m_Rm_match (kI fun y' σ' => y' = yf ∧ σ' = σf) 172 [some (.inr (9, 0)), some (.inl x1), some (.inl x2), some (.inl x3), some (.inl x4), some (.inl x5), o6, o7, o8] [] σ := by
  unfold fb_Rm_match_172 at h
  refine s_Rm_match_172  ?_
  exact e_Rm_match_173  h
def fb_Rm_match_168  (x1 : Int) (x2 : Int) (x3 : Int) (x4 : Int) (x5 : Int) (σ : kS) : kRes := fb_Rm_match_173  x1 x2 x3 x4 x5 x3 σ
theorem e_Rm_match_168 {l : Launch} {G : kG} {yf : Int} {σf : kS}  {x1 : Int} {x2 : Int} {x3 : Int} {x4 : Int} {x5 : Int} {o6 : Option kV} {o7 : Option kV} {o8 : Option kV} {σ : kS} (h : fb_Rm_match_168  x1 x2 x3 x4 x5 σ = some (some yf, σf)) : Rn l G dm_Rm_match m_Rm_match (kI fun y' σ' => y' = yf ∧ σ' = σf) 168 [some (.inr (9, 0)), some (.inl x1), some (.inl x2), some (.inl x3), some (.inl x4), some (.inl x5), o6, o7, o8] [] σ := by
  unfold fb_Rm_match_168 at h
  refine s_Rm_match_168  ?_
  exact e_Rm_match_173  h
def fb_Rm_match_158  (x1 : Int) (x2 : Int) (x3 : Int) (x4 : Int) (x5 : Int) (σ : kS) : kRes := kg ((-2147483648 ≤ kand (kshr x4 x3) 1 ∧ kand (kshr x4 x3) 1 < 2147483648)) (if (kand (kshr x4 x3) 1) = 1 then fb_Rm_match_168  x1 x2 x3 x4 x5 σ else fb_Rm_match_172  x1 x2 x3 x4 x5 σ)
theorem e_Rm_match_158 {l : Launch} {G : kG} {yf : Int} {σf : kS}  {x1 : Int} {x2 : Int} {x3 : Int} {x4 : Int} {x5 : Int} {o6 : Option kV} {o7 : Option kV} {o8 : Option kV} {σ : kS} (h : fb_Rm_match_158  x1 x2 x3 x4 x5 σ = some (some yf, σf)) : Rn l G dm_Rm_match m_Rm_match (kI fun y' σ' => y' = yf ∧ σ' = σf) 158 [some (.inr (9, 0)), some (.inl x1), some (.inl x2), some (.inl x3), some (.inl x4), some (.inl x5), o6, o7, o8] [] σ := by
  unfold fb_Rm_match_158 at h
  obtain ⟨h1, h⟩ := kg_some h
  refine s_Rm_match_158 h1 (fun c => ?_) (fun c => ?_)
  · rw [if_neg c] at h
    exact e_Rm_match_172  h
  · rw [if_pos c] at h
    exact e_Rm_match_168  h
def fb_Rm_match_151  (x1 : Int) (x2 : Int) (x3 : Int) (x4 : Int) (x5 : Int) (σ : kS) : kRes := kg ((-2147483648 ≤ σ 9 0 30 ∧ σ 9 0 30 < 2147483648)) (if (σ 9 0 30) = 0 then fb_Rm_match_174  x1 x2 x3 x4 x5 σ else fb_Rm_match_158  x1 x2 x3 x4 x5 σ)
theorem e_Rm_match_151 {l : Launch} {G : kG} {yf : Int} {σf : kS}  {x1 : Int} {x2 : Int} {x3 : Int} {x4 : Int} {x5 : Int} {o6 : Option kV} {o7 : Option kV} {o8 : Option kV} {σ : kS} (h : fb_Rm_match_151  x1 x2 x3 x4 x5 σ = some (some yf, σf)) : Rn l G dm_Rm_match m_Rm_match (kI fun y' σ' => y' = yf ∧ σ' = σf) 151 [some (.inr (9, 0)), some (.inl x1), some (.inl x2), some (.inl x3), some (.inl x4), some (.inl x5), o6, o7, o8] [] σ := by
  unfold fb_Rm_match_151 at h
  obtain ⟨h1, h⟩ := kg_some h
  refine s_Rm_match_151 h1 (fun c => ?_) (fun c => ?_)
  · rw [if_pos c] at h
    exact e_Rm_match_174  h
  · rw [if_neg c] at h
    exact e_Rm_match_158  h
def fb_Rm_match_141 (k28 : Int → Int → Int → Int → Int → kS → kRes) (x1 : Int) (x2 : Int) (x3 : Int) (x4 : Int) (x5 : Int) (x6 : Int) (x7 : Int) (σ : kS) : kRes := k28 x1 x2 x3 x6 (x5 + 1) σ
theorem e_Rm_match_141 {l : Launch} {G : kG} {yf : Int} {σf : kS} {k28 : Int → Int → Int → Int → Int → kS → kRes} (hk28 : ∀ (x1 : Int) (x2 : Int) (x3 : Int) (x4 : Int) (x5 : Int) (o6 : Option kV) (o7 : Option kV) (o8 : Option kV) (σ : kS), k28 x1 x2 x3 x4 x5 σ = some (some yf, σf) → Rn l G dm_Rm_match m_Rm_match (kI fun y' σ' => y' = yf ∧ σ' = σf) 28 [some (.inr (9, 0)), some (.inl x1), some (.inl x2), some (.inl x3), some (.inl x4), some (.inl x5), o6, o7, o8] [] σ) {x1 : Int} {x2 : Int} {x3 : Int} {x4 : Int} {x5 : Int} {x6 : Int} {x7 : Int} {o8 : Option kV} {σ : kS} (h : fb_Rm_match_141 k28 x1 x2 x3 x4 x5 x6 x7 σ = some (some yf, σf)) : Rn l G dm_Rm_match m_Rm_match (kI fun y' σ' => y' = yf ∧ σ' = σf) 141 [some (.inr (9, 0)), some (.inl x1), some (.inl x2), some (.inl x3), some (.inl x4), some (.inl x5), some (.inl x6), some (.inl x7), o8] [] σ := by
  unfold fb_Rm_match_141 at h
  refine s_Rm_match_141  ?_
  exact hk28 _ _ _ _ _ _ _ _ _ h
def fb_Rm_match_135 (k58 : Int → Int → Int → Int → Int → Int → Int → kS → kRes) (x1 : Int) (x2 : Int) (x3 : Int) (x4 : Int) (x5 : Int) (x6 : Int) (x7 : Int) (x8 : Int) (σ : kS) : kRes := k58 x1 x2 x3 x4 x5 x6 (x7 + 1) σ
theorem e_Rm_match_135 {l : Launch} {G : kG} {yf : Int} {σf : kS} {k58 : Int → Int → Int → Int → Int → Int → Int → kS → kRes} (hk58 : ∀ (x1 : Int) (x2 : Int) (x3 : Int) (x4 : Int) (x5 : Int) (x6 : Int) (x7 : Int) (o8 : Option kV) (σ : kS), k58 x1 x2 x3 x4 x5 x6 x7 σ = some (some yf, σf) → Rn l G dm_Rm_match m_Rm_match (kI fun y' σ' => y' = yf ∧ σ' = σf) 58 [some (.inr (9, 0)), some (.inl x1), some (.inl x2), some (.inl x3), some (.inl x4), some (.inl x5), some (.inl x6), some (.inl x7), o8] [] σ) {x1 : Int} {x2 : Int} {x3 : Int} {x4 : Int} {x5 : Int} {x6 : Int} {x7 : Int} {x8 : Int}  {σ : kS} (h : fb_Rm_match_135 k58 x1 x2 x3 x4 x5 x6 x7 x8 σ = some (some yf, σf)) : Rn l G dm_Rm_match m_Rm_match (kI fun y' σ' => y' = yf ∧ σ' = σf) 135 [some (.inr (9, 0)), some (.inl x1), some (.inl x2), some (.inl x3), some (.inl x4), some (.inl x5), some (.inl x6), some (.inl x7), some (.inl x8)] [] σ := by
  unfold fb_Rm_match_135 at h
  refine s_Rm_match_135  ?_
  exact hk58 _ _ _ _ _ _ _ _ _ h
def fb_Rm_match_124 (k58 : Int → Int → Int → Int → Int → Int → Int → kS → kRes) (x1 : Int) (x2 : Int) (x3 : Int) (x4 : Int) (x5 : Int) (x6 : Int) (x7 : Int) (x8 : Int) (σ : kS) : kRes := fb_Rm_match_135 k58 x1 x2 x3 x4 x5 (kor x6 (kshl 1 (x7 + 1))) x7 x8 σ
theorem e_Rm_match_124 {l : Launch} {G : kG} {yf : Int} {σf : kS} {k58 : Int → Int → Int → Int → Int → Int → Int → kS → kRes} (hk58 : ∀ (x1 : Int) (x2 : Int) (x3 : Int) (x4 : Int) (x5 : Int) (x6 : Int) (x7 : Int) (o8 : Option kV) (σ : kS), k58 x1 x2 x3 x4 x5 x6 x7 σ = some (some yf, σf) → Rn l G dm_Rm_match m_Rm_match (kI fun y' σ' => y' = yf ∧ σ' = σf) 58 [some (.inr (9, 0)), some (.inl x1), some (.inl x2), some (.inl x3), some (.inl x4), some (.inl x5), some (.inl x6), some (.inl x7), o8] [] σ) {x1 : Int} {x2 : Int} {x3 : Int} {x4 : Int} {x5 : Int} {x6 : Int} {x7 : Int} {x8 : Int}  {σ : kS} (h : fb_Rm_match_124 k58 x1 x2 x3 x4 x5 x6 x7 x8 σ = some (some yf, σf)) : Rn l G dm_Rm_match m_Rm_match (kI fun y' σ' => y' = yf ∧ σ' = σf) 124 [some (.inr (9, 0)), some (.inl x1), some (.inl x2), some (.inl x3), some (.inl x4), some (.inl x5), some (.inl x6), some (.inl x7), some (.inl x8)] [] σ := by
  unfold fb_Rm_match_124 at h
  refine s_Rm_match_124  ?_
  exact e_Rm_match_135 hk58 h
def fb_Rm_match_121 (k58 : Int → Int → Int → Int → Int → Int → Int → kS → kRes) (x1 : Int) (x2 : Int) (x3 : Int) (x4 : Int) (x5 : Int) (x6 : Int) (x7 : Int) (x8 : Int) (s0 : Int) (σ : kS) : kRes := kg ((-2147483648 ≤ s0 ∧ s0 < 2147483648)) (if s0 = 0 then fb_Rm_match_135 k58 x1 x2 x3 x4 x5 x6 x7 x8 σ else fb_Rm_match_124 k58 x1 x2 x3 x4 x5 x6 x7 x8 σ)
theorem e_Rm_match_121 {l : Launch} {G : kG} {yf : Int} {σf : kS} {k58 : Int → Int → Int → Int → Int → Int → Int → kS → kRes} (hk58 : ∀ (x1 : Int) (x2 : Int) (x3 : Int) (x4 : Int) (x5 : Int) (x6 : Int) (x7 : Int) (o8 : Option kV) (σ : kS), k58 x1 x2 x3 x4 x5 x6 x7 σ = some (some yf, σf) → Rn l G dm_Rm_match m_Rm_match (kI fun y' σ' => y' = yf ∧ σ' = σf) 58 [some (.inr (9, 0)), some (.inl x1), some (.inl x2), some (.inl x3), some (.inl x4), some (.inl x5), some (.inl x6), some (.inl x7), o8] [] σ) {x1 : Int} {x2 : Int} {x3 : Int} {x4 : Int} {x5 : Int} {x6 : Int} {x7 : Int} {x8 : Int} {s0 : Int}  {σ : kS} (h : fb_Rm_match_121 k58 x1 x2 x3 x4 x5 x6 x7 x8 s0 σ = some (some yf, σf)) : Rn l G dm_Rm_match m_Rm_match (kI fun y' σ' => y' = yf ∧ σ' = σf) 121 [some (.inr (9, 0)), some (.inl x1), some (.inl x2), some (.inl x3), some (.inl x4), some (.inl x5), some (.inl x6), some (.inl x7), some (.inl x8)] [.inl s0] σ := by
  unfold fb_Rm_match_121 at h
  obtain ⟨h1, h⟩ := kg_some h
  refine s_Rm_match_121 h1 (fun c => ?_) (fun c => ?_)
  · rw [if_pos c] at h
    exact e_Rm_match_135 hk58 h
  · rw [if_neg c] at h
    exact e_Rm_match_124 hk58 h
def fb_Rm_match_118 (k58 : Int → Int → Int → Int → Int → Int → Int → kS → kRes) (x1 : Int) (x2 : Int) (x3 : Int) (x4 : Int) (x5 : Int) (x6 : Int) (x7 : Int) (x8 : Int) (s0 : Int) (s1 : Int) (σ : kS) : kRes := kbi (f_Rm_takes s1 s0 σ) fun y σ1 => fb_Rm_match_121 k58 x1 x2 x3 x4 x5 x6 x7 x8 y σ1
theorem e_Rm_match_118 {l : Launch} {G : kG} {yf : Int} {σf : kS} {k58 : Int → Int → Int → Int → Int → Int → Int → kS → kRes} (hk58 : ∀ (x1 : Int) (x2 : Int) (x3 : Int) (x4 : Int) (x5 : Int) (x6 : Int) (x7 : Int) (o8 : Option kV) (σ : kS), k58 x1 x2 x3 x4 x5 x6 x7 σ = some (some yf, σf) → Rn l G dm_Rm_match m_Rm_match (kI fun y' σ' => y' = yf ∧ σ' = σf) 58 [some (.inr (9, 0)), some (.inl x1), some (.inl x2), some (.inl x3), some (.inl x4), some (.inl x5), some (.inl x6), some (.inl x7), o8] [] σ) {x1 : Int} {x2 : Int} {x3 : Int} {x4 : Int} {x5 : Int} {x6 : Int} {x7 : Int} {x8 : Int} {s0 : Int} {s1 : Int}  {σ : kS} (h : fb_Rm_match_118 k58 x1 x2 x3 x4 x5 x6 x7 x8 s0 s1 σ = some (some yf, σf)) : Rn l G dm_Rm_match m_Rm_match (kI fun y' σ' => y' = yf ∧ σ' = σf) 118 [some (.inr (9, 0)), some (.inl x1), some (.inl x2), some (.inl x3), some (.inl x4), some (.inl x5), some (.inl x6), some (.inl x7), some (.inl x8)] [.inl s0, .inl s1, .inr (9, 0)] σ := by
  unfold fb_Rm_match_118 at h
  obtain ⟨y, σ1, hc, h⟩ := kbi_some h
  refine s_Rm_match_118  (by decide) (E_Rm_takes hc) (fun y2 σ2 e2 => ?_)
  obtain ⟨rfl, rfl⟩ := e2
  exact e_Rm_match_121 hk58 h
def fb_Rm_match_108 (k58 : Int → Int → Int → Int → Int → Int → Int → kS → kRes) (x1 : Int) (x2 : Int) (x3 : Int) (x4 : Int) (x5 : Int) (x6 : Int) (x7 : Int) (x8 : Int) (σ : kS) : kRes := kbi (f_Rm_at x1 x7 σ) fun y σ1 => fb_Rm_match_118 k58 x1 x2 x3 x4 x5 x6 x7 x8 y x5 σ1
theorem e_Rm_match_108 {l : Launch} {G : kG} {yf : Int} {σf : kS} {k58 : Int → Int → Int → Int → Int → Int → Int → kS → kRes} (hk58 : ∀ (x1 : Int) (x2 : Int) (x3 : Int) (x4 : Int) (x5 : Int) (x6 : Int) (x7 : Int) (o8 : Option kV) (σ : kS), k58 x1 x2 x3 x4 x5 x6 x7 σ = some (some yf, σf) → Rn l G dm_Rm_match m_Rm_match (kI fun y' σ' => y' = yf ∧ σ' = σf) 58 [some (.inr (9, 0)), some (.inl x1), some (.inl x2), some (.inl x3), some (.inl x4), some (.inl x5), some (.inl x6), some (.inl x7), o8] [] σ) {x1 : Int} {x2 : Int} {x3 : Int} {x4 : Int} {x5 : Int} {x6 : Int} {x7 : Int} {x8 : Int}  {σ : kS} (h : fb_Rm_match_108 k58 x1 x2 x3 x4 x5 x6 x7 x8 σ = some (some yf, σf)) : Rn l G dm_Rm_match m_Rm_match (kI fun y' σ' => y' = yf ∧ σ' = σf) 108 [some (.inr (9, 0)), some (.inl x1), some (.inl x2), some (.inl x3), some (.inl x4), some (.inl x5), some (.inl x6), some (.inl x7), some (.inl x8)] [] σ := by
  unfold fb_Rm_match_108 at h
  obtain ⟨y, σ1, hc, h⟩ := kbi_some h
  refine s_Rm_match_108  (by decide) (E_Rm_at hc) (fun y2 σ2 e2 => ?_)
  obtain ⟨rfl, rfl⟩ := e2
  exact e_Rm_match_118 hk58 h
def fb_Rm_match_101 (k58 : Int → Int → Int → Int → Int → Int → Int → kS → kRes) (x1 : Int) (x2 : Int) (x3 : Int) (x4 : Int) (x5 : Int) (x6 : Int) (x7 : Int) (s0 : Int) (σ : kS) : kRes := kg ((-2147483648 ≤ s0 ∧ s0 < 2147483648)) (if s0 = 0 then fb_Rm_match_135 k58 x1 x2 x3 x4 x5 x6 x7 s0 σ else fb_Rm_match_108 k58 x1 x2 x3 x4 x5 x6 x7 s0 σ)
theorem e_Rm_match_101 {l : Launch} {G : kG} {yf : Int} {σf : kS} {k58 : Int → Int → Int → Int → Int → Int → Int → kS → kRes} (hk58 : ∀ (x1 : Int) (x2 : Int) (x3 : Int) (x4 : Int) (x5 : Int) (x6 : Int) (x7 : Int) (o8 : Option kV) (σ : kS), k58 x1 x2 x3 x4 x5 x6 x7 σ = some (some yf, σf) → Rn l G dm_Rm_match m_Rm_match (kI fun y' σ' => y' = yf ∧ σ' = σf) 58 [some (.inr (9, 0)), some (.inl x1), some (.inl x2), some (.inl x3), some (.inl x4), some (.inl x5), some (.inl x6), some (.inl x7), o8] [] σ) {x1 : Int} {x2 : Int} {x3 : Int} {x4 : Int} {x5 : Int} {x6 : Int} {x7 : Int} {s0 : Int} {o8 : Option kV} {σ : kS} (h : fb_Rm_match_101 k58 x1 x2 x3 x4 x5 x6 x7 s0 σ = some (some yf, σf)) : Rn l G dm_Rm_match m_Rm_match (kI fun y' σ' => y' = yf ∧ σ' = σf) 101 [some (.inr (9, 0)), some (.inl x1), some (.inl x2), some (.inl x3), some (.inl x4), some (.inl x5), some (.inl x6), some (.inl x7), o8] [.inl s0] σ := by
  unfold fb_Rm_match_101 at h
  obtain ⟨h1, h⟩ := kg_some h
  refine s_Rm_match_101 h1 (fun c => ?_) (fun c => ?_)
  · rw [if_pos c] at h
    exact e_Rm_match_135 hk58 h
  · rw [if_neg c] at h
    exact e_Rm_match_108 hk58 h
def fb_Rm_match_100 (k58 : Int → Int → Int → Int → Int → Int → Int → kS → kRes) (x1 : Int) (x2 : Int) (x3 : Int) (x4 : Int) (x5 : Int) (x6 : Int) (x7 : Int) (σ : kS) : kRes := fb_Rm_match_101 k58 x1 x2 x3 x4 x5 x6 x7 0 σ
theorem e_Rm_match_100 {l : Launch} {G : kG} {yf : Int} {σf : kS} {k58 : Int → Int → Int → Int → Int → Int → Int → kS → kRes} (hk58 : ∀ (x1 : Int) (x2 : Int) (x3 : Int) (x4 : Int) (x5 : Int) (x6 : Int) (x7 : Int) (o8 : Option kV) (σ : kS), k58 x1 x2 x3 x4 x5 x6 x7 σ = some (some yf, σf) → Rn l G dm_Rm_match m_Rm_match (kI fun y' σ' => y' = yf ∧ σ' = σf) 58 [some (.inr (9, 0)), some (.inl x1), some (.inl x2), some (.inl x3), some (.inl x4), some (.inl x5), some (.inl x6), some (.inl x7), o8] [] σ) {x1 : Int} {x2 : Int} {x3 : Int} {x4 : Int} {x5 : Int} {x6 : Int} {x7 : Int} {o8 : Option kV} {σ : kS} (h : fb_Rm_match_100 k58 x1 x2 x3 x4 x5 x6 x7 σ = some (some yf, σf)) : Rn l G dm_Rm_match m_Rm_match (kI fun y' σ' => y' = yf ∧ σ' = σf) 100 [some (.inr (9, 0)), some (.inl x1), some (.inl x2), some (.inl x3), some (.inl x4), some (.inl x5), some (.inl x6), some (.inl x7), o8] [] σ := by
  unfold fb_Rm_match_100 at h
  refine s_Rm_match_100  ?_
  exact e_Rm_match_101 hk58 h
def fb_Rm_match_96 (k58 : Int → Int → Int → Int → Int → Int → Int → kS → kRes) (x1 : Int) (x2 : Int) (x3 : Int) (x4 : Int) (x5 : Int) (x6 : Int) (x7 : Int) (σ : kS) : kRes := fb_Rm_match_101 k58 x1 x2 x3 x4 x5 x6 x7 1 σ
theorem e_Rm_match_96 {l : Launch} {G : kG} {yf : Int} {σf : kS} {k58 : Int → Int → Int → Int → Int → Int → Int → kS → kRes} (hk58 : ∀ (x1 : Int) (x2 : Int) (x3 : Int) (x4 : Int) (x5 : Int) (x6 : Int) (x7 : Int) (o8 : Option kV) (σ : kS), k58 x1 x2 x3 x4 x5 x6 x7 σ = some (some yf, σf) → Rn l G dm_Rm_match m_Rm_match (kI fun y' σ' => y' = yf ∧ σ' = σf) 58 [some (.inr (9, 0)), some (.inl x1), some (.inl x2), some (.inl x3), some (.inl x4), some (.inl x5), some (.inl x6), some (.inl x7), o8] [] σ) {x1 : Int} {x2 : Int} {x3 : Int} {x4 : Int} {x5 : Int} {x6 : Int} {x7 : Int} {o8 : Option kV} {σ : kS} (h : fb_Rm_match_96 k58 x1 x2 x3 x4 x5 x6 x7 σ = some (some yf, σf)) : Rn l G dm_Rm_match m_Rm_match (kI fun y' σ' => y' = yf ∧ σ' = σf) 96 [some (.inr (9, 0)), some (.inl x1), some (.inl x2), some (.inl x3), some (.inl x4), some (.inl x5), some (.inl x6), some (.inl x7), o8] [] σ := by
  unfold fb_Rm_match_96 at h
  refine s_Rm_match_96  ?_
  exact e_Rm_match_101 hk58 h
def fb_Rm_match_85 (k58 : Int → Int → Int → Int → Int → Int → Int → kS → kRes) (x1 : Int) (x2 : Int) (x3 : Int) (x4 : Int) (x5 : Int) (x6 : Int) (x7 : Int) (σ : kS) : kRes := kg ((-2147483648 ≤ kand (kshr x6 x7) 1 ∧ kand (kshr x6 x7) 1 < 2147483648)) (if (kand (kshr x6 x7) 1) = 1 then fb_Rm_match_96 k58 x1 x2 x3 x4 x5 x6 x7 σ else fb_Rm_match_100 k58 x1 x2 x3 x4 x5 x6 x7 σ)
theorem e_Rm_match_85 {l : Launch} {G : kG} {yf : Int} {σf : kS} {k58 : Int → Int → Int → Int → Int → Int → Int → kS → kRes} (hk58 : ∀ (x1 : Int) (x2 : Int) (x3 : Int) (x4 : Int) (x5 : Int) (x6 : Int) (x7 : Int) (o8 : Option kV) (σ : kS), k58 x1 x2 x3 x4 x5 x6 x7 σ = some (some yf, σf) → Rn l G dm_Rm_match m_Rm_match (kI fun y' σ' => y' = yf ∧ σ' = σf) 58 [some (.inr (9, 0)), some (.inl x1), some (.inl x2), some (.inl x3), some (.inl x4), some (.inl x5), some (.inl x6), some (.inl x7), o8] [] σ) {x1 : Int} {x2 : Int} {x3 : Int} {x4 : Int} {x5 : Int} {x6 : Int} {x7 : Int} {o8 : Option kV} {σ : kS} (h : fb_Rm_match_85 k58 x1 x2 x3 x4 x5 x6 x7 σ = some (some yf, σf)) : Rn l G dm_Rm_match m_Rm_match (kI fun y' σ' => y' = yf ∧ σ' = σf) 85 [some (.inr (9, 0)), some (.inl x1), some (.inl x2), some (.inl x3), some (.inl x4), some (.inl x5), some (.inl x6), some (.inl x7), o8] [] σ := by
  unfold fb_Rm_match_85 at h
  obtain ⟨h1, h⟩ := kg_some h
  refine s_Rm_match_85 h1 (fun c => ?_) (fun c => ?_)
  · rw [if_neg c] at h
    exact e_Rm_match_100 hk58 h
  · rw [if_pos c] at h
    exact e_Rm_match_96 hk58 h
def fb_Rm_match_75 (k58 : Int → Int → Int → Int → Int → Int → Int → kS → kRes) (x1 : Int) (x2 : Int) (x3 : Int) (x4 : Int) (x5 : Int) (x6 : Int) (x7 : Int) (σ : kS) : kRes := kg ((0 ≤ x5 ∧ x5 < (8 : Nat)) ∧ (-2147483648 ≤ σ 31 0 (Int.toNat x5) ∧ σ 31 0 (Int.toNat x5) < 2147483648)) (if (σ 31 0 (Int.toNat x5)) = 0 then fb_Rm_match_100 k58 x1 x2 x3 x4 x5 x6 x7 σ else fb_Rm_match_85 k58 x1 x2 x3 x4 x5 x6 x7 σ)
theorem e_Rm_match_75 {l : Launch} {G : kG} {yf : Int} {σf : kS} {k58 : Int → Int → Int → Int → Int → Int → Int → kS → kRes} (hk58 : ∀ (x1 : Int) (x2 : Int) (x3 : Int) (x4 : Int) (x5 : Int) (x6 : Int) (x7 : Int) (o8 : Option kV) (σ : kS), k58 x1 x2 x3 x4 x5 x6 x7 σ = some (some yf, σf) → Rn l G dm_Rm_match m_Rm_match (kI fun y' σ' => y' = yf ∧ σ' = σf) 58 [some (.inr (9, 0)), some (.inl x1), some (.inl x2), some (.inl x3), some (.inl x4), some (.inl x5), some (.inl x6), some (.inl x7), o8] [] σ) {x1 : Int} {x2 : Int} {x3 : Int} {x4 : Int} {x5 : Int} {x6 : Int} {x7 : Int} {o8 : Option kV} {σ : kS} (h : fb_Rm_match_75 k58 x1 x2 x3 x4 x5 x6 x7 σ = some (some yf, σf)) : Rn l G dm_Rm_match m_Rm_match (kI fun y' σ' => y' = yf ∧ σ' = σf) 75 [some (.inr (9, 0)), some (.inl x1), some (.inl x2), some (.inl x3), some (.inl x4), some (.inl x5), some (.inl x6), some (.inl x7), o8] [] σ := by
  unfold fb_Rm_match_75 at h
  obtain ⟨⟨h1, h2⟩, h⟩ := kg_some h
  refine s_Rm_match_75 h1 h2 (fun c => ?_) (fun c => ?_)
  · rw [if_pos c] at h
    exact e_Rm_match_100 hk58 h
  · rw [if_neg c] at h
    exact e_Rm_match_85 hk58 h
def fb_Rm_match_64 (k58 : Int → Int → Int → Int → Int → Int → Int → kS → kRes) (x1 : Int) (x2 : Int) (x3 : Int) (x4 : Int) (x5 : Int) (x6 : Int) (x7 : Int) (σ : kS) : kRes := kg ((-2147483648 ≤ kand (kshr x4 x7) 1 ∧ kand (kshr x4 x7) 1 < 2147483648)) (if (kand (kshr x4 x7) 1) = 1 then fb_Rm_match_96 k58 x1 x2 x3 x4 x5 x6 x7 σ else fb_Rm_match_75 k58 x1 x2 x3 x4 x5 x6 x7 σ)
theorem e_Rm_match_64 {l : Launch} {G : kG} {yf : Int} {σf : kS} {k58 : Int → Int → Int → Int → Int → Int → Int → kS → kRes} (hk58 : ∀ (x1 : Int) (x2 : Int) (x3 : Int) (x4 : Int) (x5 : Int) (x6 : Int) (x7 : Int) (o8 : Option kV) (σ : kS), k58 x1 x2 x3 x4 x5 x6 x7 σ = some (some yf, σf) → Rn l G dm_Rm_match m_Rm_match (kI fun y' σ' => y' = yf ∧ σ' = σf) 58 [some (.inr (9, 0)), some (.inl x1), some (.inl x2), some (.inl x3), some (.inl x4), some (.inl x5), some (.inl x6), some (.inl x7), o8] [] σ) {x1 : Int} {x2 : Int} {x3 : Int} {x4 : Int} {x5 : Int} {x6 : Int} {x7 : Int} {o8 : Option kV} {σ : kS} (h : fb_Rm_match_64 k58 x1 x2 x3 x4 x5 x6 x7 σ = some (some yf, σf)) : Rn l G dm_Rm_match m_Rm_match (kI fun y' σ' => y' = yf ∧ σ' = σf) 64 [some (.inr (9, 0)), some (.inl x1), some (.inl x2), some (.inl x3), some (.inl x4), some (.inl x5), some (.inl x6), some (.inl x7), o8] [] σ := by
  unfold fb_Rm_match_64 at h
  obtain ⟨h1, h⟩ := kg_some h
  refine s_Rm_match_64 h1 (fun c => ?_) (fun c => ?_)
  · rw [if_pos c] at h
    exact e_Rm_match_96 hk58 h
  · rw [if_neg c] at h
    exact e_Rm_match_75 hk58 h
def fb_Rm_match_58 (k28 : Int → Int → Int → Int → Int → kS → kRes) (k58 : Int → Int → Int → Int → Int → Int → Int → kS → kRes) (x1 : Int) (x2 : Int) (x3 : Int) (x4 : Int) (x5 : Int) (x6 : Int) (x7 : Int) (σ : kS) : kRes := kg ((-2147483648 ≤ x7 ∧ x7 < 2147483648) ∧ (-2147483648 ≤ x3 ∧ x3 < 2147483648)) (if x3 ≤ x7 then fb_Rm_match_141 k28 x1 x2 x3 x4 x5 x6 x7 σ else fb_Rm_match_64 k58 x1 x2 x3 x4 x5 x6 x7 σ)
theorem e_Rm_match_58 {l : Launch} {G : kG} {yf : Int} {σf : kS} {k28 : Int → Int → Int → Int → Int → kS → kRes} (hk28 : ∀ (x1 : Int) (x2 : Int) (x3 : Int) (x4 : Int) (x5 : Int) (o6 : Option kV) (o7 : Option kV) (o8 : Option kV) (σ : kS), k28 x1 x2 x3 x4 x5 σ = some (some yf, σf) → Rn l G dm_Rm_match m_Rm_match (kI fun y' σ' => y' = yf ∧ σ' = σf) 28 [some (.inr (9, 0)), some (.inl x1), some (.inl x2), some (.inl x3), some (.inl x4), some (.inl x5), o6, o7, o8] [] σ) {k58 : Int → Int → Int → Int → Int → Int → Int → kS → kRes} (hk58 : ∀ (x1 : Int) (x2 : Int) (x3 : Int) (x4 : Int) (x5 : Int) (x6 : Int) (x7 : Int) (o8 : Option kV) (σ : kS), k58 x1 x2 x3 x4 x5 x6 x7 σ = some (some yf, σf) → Rn l G dm_Rm_match m_Rm_match (kI fun y' σ' => y' = yf ∧ σ' = σf) 58 [some (.inr (9, 0)), some (.inl x1), some (.inl x2), some (.inl x3), some (.inl x4), some (.inl x5), some (.inl x6), some (.inl x7), o8] [] σ) {x1 : Int} {x2 : Int} {x3 : Int} {x4 : Int} {x5 : Int} {x6 : Int} {x7 : Int} {o8 : Option kV} {σ : kS} (h : fb_Rm_match_58 k28 k58 x1 x2 x3 x4 x5 x6 x7 σ = some (some yf, σf)) : Rn l G dm_Rm_match m_Rm_match (kI fun y' σ' => y' = yf ∧ σ' = σf) 58 [some (.inr (9, 0)), some (.inl x1), some (.inl x2), some (.inl x3), some (.inl x4), some (.inl x5), some (.inl x6), some (.inl x7), o8] [] σ := by
  unfold fb_Rm_match_58 at h
  obtain ⟨⟨h1, h2⟩, h⟩ := kg_some h
  refine s_Rm_match_58 h1 h2 (fun c => ?_) (fun c => ?_)
  · rw [if_pos c] at h
    exact e_Rm_match_141 hk28 h
  · rw [if_neg c] at h
    exact e_Rm_match_64 hk58 h
def fl_Rm_match_58 (k28 : Int → Int → Int → Int → Int → kS → kRes) : Nat → Int → Int → Int → Int → Int → Int → Int → kS → kRes
  | 0, _, _, _, _, _, _, _, _ => none
  | n + 1, x1, x2, x3, x4, x5, x6, x7, σ => fb_Rm_match_58 k28 (fl_Rm_match_58 k28 n) x1 x2 x3 x4 x5 x6 x7 σ
theorem el_Rm_match_58 {l : Launch} {G : kG} {yf : Int} {σf : kS} {k28 : Int → Int → Int → Int → Int → kS → kRes} (hk28 : ∀ (x1 : Int) (x2 : Int) (x3 : Int) (x4 : Int) (x5 : Int) (o6 : Option kV) (o7 : Option kV) (o8 : Option kV) (σ : kS), k28 x1 x2 x3 x4 x5 σ = some (some yf, σf) → Rn l G dm_Rm_match m_Rm_match (kI fun y' σ' => y' = yf ∧ σ' = σf) 28 [some (.inr (9, 0)), some (.inl x1), some (.inl x2), some (.inl x3), some (.inl x4), some (.inl x5), o6, o7, o8] [] σ) : ∀ (n : Nat) (x1 : Int) (x2 : Int) (x3 : Int) (x4 : Int) (x5 : Int) (x6 : Int) (x7 : Int) (o8 : Option kV) (σ : kS), fl_Rm_match_58 k28 n x1 x2 x3 x4 x5 x6 x7 σ = some (some yf, σf) → Rn l G dm_Rm_match m_Rm_match (kI fun y' σ' => y' = yf ∧ σ' = σf) 58 [some (.inr (9, 0)), some (.inl x1), some (.inl x2), some (.inl x3), some (.inl x4), some (.inl x5), some (.inl x6), some (.inl x7), o8] [] σ := by
  intro n
  induction n with
  | zero => intro x1 x2 x3 x4 x5 x6 x7 o8 σ h; simp only [fl_Rm_match_58] at h; cases h
  | succ n ih => intro x1 x2 x3 x4 x5 x6 x7 o8 σ h; simp only [fl_Rm_match_58] at h; exact e_Rm_match_58 hk28 ih h
def fb_Rm_match_53 (k28 : Int → Int → Int → Int → Int → kS → kRes) (x1 : Int) (x2 : Int) (x3 : Int) (x4 : Int) (x5 : Int) (s0 : Int) (σ : kS) : kRes := fl_Rm_match_58 k28 3000 x1 x2 x3 x4 x5 s0 x2 σ
theorem e_Rm_match_53 {l : Launch} {G : kG} {yf : Int} {σf : kS} {k28 : Int → Int → Int → Int → Int → kS → kRes} (hk28 : ∀ (x1 : Int) (x2 : Int) (x3 : Int) (x4 : Int) (x5 : Int) (o6 : Option kV) (o7 : Option kV) (o8 : Option kV) (σ : kS), k28 x1 x2 x3 x4 x5 σ = some (some yf, σf) → Rn l G dm_Rm_match m_Rm_match (kI fun y' σ' => y' = yf ∧ σ' = σf) 28 [some (.inr (9, 0)), some (.inl x1), some (.inl x2), some (.inl x3), some (.inl x4), some (.inl x5), o6, o7, o8] [] σ) {x1 : Int} {x2 : Int} {x3 : Int} {x4 : Int} {x5 : Int} {s0 : Int} {o6 : Option kV} {o7 : Option kV} {o8 : Option kV} {σ : kS} (h : fb_Rm_match_53 k28 x1 x2 x3 x4 x5 s0 σ = some (some yf, σf)) : Rn l G dm_Rm_match m_Rm_match (kI fun y' σ' => y' = yf ∧ σ' = σf) 53 [some (.inr (9, 0)), some (.inl x1), some (.inl x2), some (.inl x3), some (.inl x4), some (.inl x5), o6, o7, o8] [.inl s0] σ := by
  unfold fb_Rm_match_53 at h
  refine s_Rm_match_53  ?_
  exact el_Rm_match_58 hk28 _ _ _ _ _ _ _ _ _ _ h
def fb_Rm_match_52 (k28 : Int → Int → Int → Int → Int → kS → kRes) (x1 : Int) (x2 : Int) (x3 : Int) (x4 : Int) (x5 : Int) (σ : kS) : kRes := fb_Rm_match_53 k28 x1 x2 x3 x4 x5 0 σ
theorem e_Rm_match_52 {l : Launch} {G : kG} {yf : Int} {σf : kS} {k28 : Int → Int → Int → Int → Int → kS → kRes} (hk28 : ∀ (x1 : Int) (x2 : Int) (x3 : Int) (x4 : Int) (x5 : Int) (o6 : Option kV) (o7 : Option kV) (o8 : Option kV) (σ : kS), k28 x1 x2 x3 x4 x5 σ = some (some yf, σf) → Rn l G dm_Rm_match m_Rm_match (kI fun y' σ' => y' = yf ∧ σ' = σf) 28 [some (.inr (9, 0)), some (.inl x1), some (.inl x2), some (.inl x3), some (.inl x4), some (.inl x5), o6, o7, o8] [] σ) {x1 : Int} {x2 : Int} {x3 : Int} {x4 : Int} {x5 : Int} {o6 : Option kV} {o7 : Option kV} {o8 : Option kV} {σ : kS} (h : fb_Rm_match_52 k28 x1 x2 x3 x4 x5 σ = some (some yf, σf)) : Rn l G dm_Rm_match m_Rm_match (kI fun y' σ' => y' = yf ∧ σ' = σf) 52 [some (.inr (9, 0)), some (.inl x1), some (.inl x2), some (.inl x3), some (.inl x4), some (.inl x5), o6, o7, o8] [] σ := by
  unfold fb_Rm_match_52 at h
  refine s_Rm_match_52  ?_
  exact e_Rm_match_53 hk28 h
def fb_Rm_match_47 (k28 : Int → Int → Int → Int → Int → kS → kRes) (x1 : Int) (x2 : Int) (x3 : Int) (x4 : Int) (x5 : Int) (σ : kS) : kRes := fb_Rm_match_53 k28 x1 x2 x3 x4 x5 x4 σ
theorem e_Rm_match_47 {l : Launch} {G : kG} {yf : Int} {σf : kS} {k28 : Int → Int → Int → Int → Int → kS → kRes} (hk28 : ∀ (x1 : Int) (x2 : Int) (x3 : Int) (x4 : Int) (x5 : Int) (o6 : Option kV) (o7 : Option kV) (o8 : Option kV) (σ : kS), k28 x1 x2 x3 x4 x5 σ = some (some yf, σf) → Rn l G dm_Rm_match m_Rm_match (kI fun y' σ' => y' = yf ∧ σ' = σf) 28 [some (.inr (9, 0)), some (.inl x1), some (.inl x2), some (.inl x3), some (.inl x4), some (.inl x5), o6, o7, o8] [] σ) {x1 : Int} {x2 : Int} {x3 : Int} {x4 : Int} {x5 : Int} {o6 : Option kV} {o7 : Option kV} {o8 : Option kV} {σ : kS} (h : fb_Rm_match_47 k28 x1 x2 x3 x4 x5 σ = some (some yf, σf)) : Rn l G dm_Rm_match m_Rm_match (kI fun y' σ' => y' = yf ∧ σ' = σf) 47 [some (.inr (9, 0)), some (.inl x1), some (.inl x2), some (.inl x3), some (.inl x4), some (.inl x5), o6, o7, o8] [] σ := by
  unfold fb_Rm_match_47 at h
  refine s_Rm_match_47  ?_
  exact e_Rm_match_53 hk28 h
def fb_Rm_match_37 (k28 : Int → Int → Int → Int → Int → kS → kRes) (x1 : Int) (x2 : Int) (x3 : Int) (x4 : Int) (x5 : Int) (σ : kS) : kRes := kg ((0 ≤ x5 ∧ x5 < (8 : Nat)) ∧ (-2147483648 ≤ σ 31 0 (Int.toNat x5) ∧ σ 31 0 (Int.toNat x5) < 2147483648)) (if (σ 31 0 (Int.toNat x5)) = 0 then fb_Rm_match_52 k28 x1 x2 x3 x4 x5 σ else fb_Rm_match_47 k28 x1 x2 x3 x4 x5 σ)
theorem e_Rm_match_37 {l : Launch} {G : kG} {yf : Int} {σf : kS} {k28 : Int → Int → Int → Int → Int → kS → kRes} (hk28 : ∀ (x1 : Int) (x2 : Int) (x3 : Int) (x4 : Int) (x5 : Int) (o6 : Option kV) (o7 : Option kV) (o8 : Option kV) (σ : kS), k28 x1 x2 x3 x4 x5 σ = some (some yf, σf) → Rn l G dm_Rm_match m_Rm_match (kI fun y' σ' => y' = yf ∧ σ' = σf) 28 [some (.inr (9, 0)), some (.inl x1), some (.inl x2), some (.inl x3), some (.inl x4), some (.inl x5), o6, o7, o8] [] σ) {x1 : Int} {x2 : Int} {x3 : Int} {x4 : Int} {x5 : Int} {o6 : Option kV} {o7 : Option kV} {o8 : Option kV} {σ : kS} (h : fb_Rm_match_37 k28 x1 x2 x3 x4 x5 σ = some (some yf, σf)) : Rn l G dm_Rm_match m_Rm_match (kI fun y' σ' => y' = yf ∧ σ' = σf) 37 [some (.inr (9, 0)), some (.inl x1), some (.inl x2), some (.inl x3), some (.inl x4), some (.inl x5), o6, o7, o8] [] σ := by
  unfold fb_Rm_match_37 at h
  obtain ⟨⟨h1, h2⟩, h⟩ := kg_some h
  refine s_Rm_match_37 h1 h2 (fun c => ?_) (fun c => ?_)
  · rw [if_pos c] at h
    exact e_Rm_match_52 hk28 h
  · rw [if_neg c] at h
    exact e_Rm_match_47 hk28 h
def fb_Rm_match_28 (k28 : Int → Int → Int → Int → Int → kS → kRes) (x1 : Int) (x2 : Int) (x3 : Int) (x4 : Int) (x5 : Int) (σ : kS) : kRes := kg ((-2147483648 ≤ x5 ∧ x5 < 2147483648) ∧ (-2147483648 ≤ σ 9 0 28 ∧ σ 9 0 28 < 2147483648)) (if (σ 9 0 28) ≤ x5 then fb_Rm_match_151  x1 x2 x3 x4 x5 σ else fb_Rm_match_37 k28 x1 x2 x3 x4 x5 σ)
theorem e_Rm_match_28 {l : Launch} {G : kG} {yf : Int} {σf : kS} {k28 : Int → Int → Int → Int → Int → kS → kRes} (hk28 : ∀ (x1 : Int) (x2 : Int) (x3 : Int) (x4 : Int) (x5 : Int) (o6 : Option kV) (o7 : Option kV) (o8 : Option kV) (σ : kS), k28 x1 x2 x3 x4 x5 σ = some (some yf, σf) → Rn l G dm_Rm_match m_Rm_match (kI fun y' σ' => y' = yf ∧ σ' = σf) 28 [some (.inr (9, 0)), some (.inl x1), some (.inl x2), some (.inl x3), some (.inl x4), some (.inl x5), o6, o7, o8] [] σ) {x1 : Int} {x2 : Int} {x3 : Int} {x4 : Int} {x5 : Int} {o6 : Option kV} {o7 : Option kV} {o8 : Option kV} {σ : kS} (h : fb_Rm_match_28 k28 x1 x2 x3 x4 x5 σ = some (some yf, σf)) : Rn l G dm_Rm_match m_Rm_match (kI fun y' σ' => y' = yf ∧ σ' = σf) 28 [some (.inr (9, 0)), some (.inl x1), some (.inl x2), some (.inl x3), some (.inl x4), some (.inl x5), o6, o7, o8] [] σ := by
  unfold fb_Rm_match_28 at h
  obtain ⟨⟨h1, h2⟩, h⟩ := kg_some h
  refine s_Rm_match_28 h1 h2 (fun c => ?_) (fun c => ?_)
  · rw [if_pos c] at h
    exact e_Rm_match_151  h
  · rw [if_neg c] at h
    exact e_Rm_match_37 hk28 h
def fl_Rm_match_28  : Nat → Int → Int → Int → Int → Int → kS → kRes
  | 0, _, _, _, _, _, _ => none
  | n + 1, x1, x2, x3, x4, x5, σ => fb_Rm_match_28 (fl_Rm_match_28  n) x1 x2 x3 x4 x5 σ
theorem el_Rm_match_28 {l : Launch} {G : kG} {yf : Int} {σf : kS}  : ∀ (n : Nat) (x1 : Int) (x2 : Int) (x3 : Int) (x4 : Int) (x5 : Int) (o6 : Option kV) (o7 : Option kV) (o8 : Option kV) (σ : kS), fl_Rm_match_28  n x1 x2 x3 x4 x5 σ = some (some yf, σf) → Rn l G dm_Rm_match m_Rm_match (kI fun y' σ' => y' = yf ∧ σ' = σf) 28 [some (.inr (9, 0)), some (.inl x1), some (.inl x2), some (.inl x3), some (.inl x4), some (.inl x5), o6, o7, o8] [] σ := by
  intro n
  induction n with
  | zero => intro x1 x2 x3 x4 x5 o6 o7 o8 σ h; simp only [fl_Rm_match_28] at h; cases h
  | succ n ih => intro x1 x2 x3 x4 x5 o6 o7 o8 σ h; simp only [fl_Rm_match_28] at h; exact e_Rm_match_28 ih h
def fb_Rm_match_13  (x1 : Int) (x2 : Int) (σ : kS) : kRes := kg ((0 ≤ x1 ∧ x1 < (100 : Nat))) (fl_Rm_match_28  3000 x1 x2 (σ 21 0 (Int.toNat x1)) (kshl 1 x2) 0 σ)
theorem e_Rm_match_13 {l : Launch} {G : kG} {yf : Int} {σf : kS}  {x1 : Int} {x2 : Int} {o3 : Option kV} {o4 : Option kV} {o5 : Option kV} {o6 : Option kV} {o7 : Option kV} {o8 : Option kV} {σ : kS} (h : fb_Rm_match_13  x1 x2 σ = some (some yf, σf)) : Rn l G dm_Rm_match m_Rm_match (kI fun y' σ' => y' = yf ∧ σ' = σf) 13 [some (.inr (9, 0)), some (.inl x1), some (.inl x2), o3, o4, o5, o6, o7, o8] [] σ := by
  unfold fb_Rm_match_13 at h
  obtain ⟨h1, h⟩ := kg_some h
  refine s_Rm_match_13 h1 ?_
  exact el_Rm_match_28  _ _ _ _ _ _ _ _ _ _ h
def fb_Rm_match_11  (x1 : Int) (x2 : Int) (σ : kS) : kRes := some (some (-1), σ)
theorem e_Rm_match_11 {l : Launch} {G : kG} {yf : Int} {σf : kS}  {x1 : Int} {x2 : Int} {o3 : Option kV} {o4 : Option kV} {o5 : Option kV} {o6 : Option kV} {o7 : Option kV} {o8 : Option kV} {σ : kS} (h : fb_Rm_match_11  x1 x2 σ = some (some yf, σf)) : Rn l G dm_Rm_match m_Rm_match (kI fun y' σ' => y' = yf ∧ σ' = σf) 11 [some (.inr (9, 0)), some (.inl x1), some (.inl x2), o3, o4, o5, o6, o7, o8] [] σ := by
  unfold fb_Rm_match_11 at h
  simp only [Option.some.injEq, Prod.mk.injEq, true_and] at h
  exact s_Rm_match_11  ⟨_, rfl, h⟩
def fb_Rm_match_7  (x1 : Int) (x2 : Int) (σ : kS) : kRes := kg ((-2147483648 ≤ x2 ∧ x2 < 2147483648)) (if x2 ≤ 0 then fb_Rm_match_13  x1 x2 σ else fb_Rm_match_11  x1 x2 σ)
theorem e_Rm_match_7 {l : Launch} {G : kG} {yf : Int} {σf : kS}  {x1 : Int} {x2 : Int} {o3 : Option kV} {o4 : Option kV} {o5 : Option kV} {o6 : Option kV} {o7 : Option kV} {o8 : Option kV} {σ : kS} (h : fb_Rm_match_7  x1 x2 σ = some (some yf, σf)) : Rn l G dm_Rm_match m_Rm_match (kI fun y' σ' => y' = yf ∧ σ' = σf) 7 [some (.inr (9, 0)), some (.inl x1), some (.inl x2), o3, o4, o5, o6, o7, o8] [] σ := by
  unfold fb_Rm_match_7 at h
  obtain ⟨h1, h⟩ := kg_some h
  refine s_Rm_match_7 h1 (fun c => ?_) (fun c => ?_)
  · rw [if_pos c] at h
    exact e_Rm_match_13  h
  · rw [if_neg c] at h
    exact e_Rm_match_11  h
def fb_Rm_match_0  (x1 : Int) (x2 : Int) (σ : kS) : kRes := kg ((-2147483648 ≤ σ 9 0 29 ∧ σ 9 0 29 < 2147483648)) (if (σ 9 0 29) = 0 then fb_Rm_match_13  x1 x2 σ else fb_Rm_match_7  x1 x2 σ)
theorem e_Rm_match_0 {l : Launch} {G : kG} {yf : Int} {σf : kS}  {x1 : Int} {x2 : Int} {o3 : Option kV} {o4 : Option kV} {o5 : Option kV} {o6 : Option kV} {o7 : Option kV} {o8 : Option kV} {σ : kS} (h : fb_Rm_match_0  x1 x2 σ = some (some yf, σf)) : Rn l G dm_Rm_match m_Rm_match (kI fun y' σ' => y' = yf ∧ σ' = σf) 0 [some (.inr (9, 0)), some (.inl x1), some (.inl x2), o3, o4, o5, o6, o7, o8] [] σ := by
  unfold fb_Rm_match_0 at h
  obtain ⟨h1, h⟩ := kg_some h
  refine s_Rm_match_0 h1 (fun c => ?_) (fun c => ?_)
  · rw [if_pos c] at h
    exact e_Rm_match_13  h
  · rw [if_neg c] at h
    exact e_Rm_match_7  h
def f_Rm_match (x1 : Int) (x2 : Int) (σ : kS) : kRes := fb_Rm_match_0 x1 x2 σ
theorem E_Rm_match {l : Launch} {G : kG} {yf : Int} {σf : kS} {x1 : Int} {x2 : Int} {σ : kS} (h : f_Rm_match x1 x2 σ = some (some yf, σf)) : Call l G dm_Rm_match y_Rm_match m_Rm_match [.inr (9, 0), .inl x1, .inl x2] σ (kI fun y' σ' => y' = yf ∧ σ' = σf) := by
  unfold f_Rm_match at h
  exact Call.of (by decide +kernel) rfl (Nat.le_of_ble_eq_true rfl) (e_Rm_match_0 h)
/-! Rm_somewhere -/
def fb_Rm_somewhere_39  (x1 : Int) (x2 : Int) (x3 : Int) (σ : kS) : kRes := kg ((x2 = 0 ∨ x2 = 1)) (some (some x2, σ))
theorem e_Rm_somewhere_39 {l : Launch} {G : kG} {yf : Int} {σf : kS}  {x1 : Int} {x2 : Int} {x3 : Int}  {σ : kS} (h : fb_Rm_somewhere_39  x1 x2 x3 σ = some (some yf, σf)) : Rn l G dm_Rm_somewhere m_Rm_somewhere (kI fun y' σ' => y' = yf ∧ σ' = σf) 39 [some (.inr (9, 0)), some (.inl x1), some (.inl x2), some (.inl x3)] [] σ := by
  unfold fb_Rm_somewhere_39 at h
  obtain ⟨h1, h⟩ := kg_some h
  simp only [Option.some.injEq, Prod.mk.injEq, true_and] at h
  exact s_Rm_somewhere_39 h1 ⟨_, rfl, h⟩
def fb_Rm_somewhere_32 (k4 : Int → Int → Int → kS → kRes) (x1 : Int) (x2 : Int) (x3 : Int) (s0 : Int) (σ : kS) : kRes := k4 x1 s0 (x3 + 1) σ
theorem e_Rm_somewhere_32 {l : Launch} {G : kG} {yf : Int} {σf : kS} {k4 : Int → Int → Int → kS → kRes} (hk4 : ∀ (x1 : Int) (x2 : Int) (x3 : Int)  (σ : kS), k4 x1 x2 x3 σ = some (some yf, σf) → Rn l G dm_Rm_somewhere m_Rm_somewhere (kI fun y' σ' => y' = yf ∧ σ' = σf) 4 [some (.inr (9, 0)), some (.inl x1), some (.inl x2), some (.inl x3)] [] σ) {x1 : Int} {x2 : Int} {x3 : Int} {s0 : Int}  {σ : kS} (h : fb_Rm_somewhere_32 k4 x1 x2 x3 s0 σ = some (some yf, σf)) : Rn l G dm_Rm_somewhere m_Rm_somewhere (kI fun y' σ' => y' = yf ∧ σ' = σf) 32 [some (.inr (9, 0)), some (.inl x1), some (.inl x2), some (.inl x3)] [.inl s0] σ := by
  unfold fb_Rm_somewhere_32 at h
  refine s_Rm_somewhere_32  ?_
  exact hk4 _ _ _ _ h
def fb_Rm_somewhere_31 (k4 : Int → Int → Int → kS → kRes) (x1 : Int) (x2 : Int) (x3 : Int) (σ : kS) : kRes := fb_Rm_somewhere_32 k4 x1 x2 x3 0 σ
theorem e_Rm_somewhere_31 {l : Launch} {G : kG} {yf : Int} {σf : kS} {k4 : Int → Int → Int → kS → kRes} (hk4 : ∀ (x1 : Int) (x2 : Int) (x3 : Int)  (σ : kS), k4 x1 x2 x3 σ = some (some yf, σf) → Rn l G dm_Rm_somewhere m_Rm_somewhere (kI fun y' σ' => y' = yf ∧ σ' = σf) 4 [some (.inr (9, 0)), some (.inl x1), some (.inl x2), some (.inl x3)] [] σ) {x1 : Int} {x2 : Int} {x3 : Int}  {σ : kS} (h : fb_Rm_somewhere_31 k4 x1 x2 x3 σ = some (some yf, σf)) : Rn l G dm_Rm_somewhere m_Rm_somewhere (kI fun y' σ' => y' = yf ∧ σ' = σf) 31 [some (.inr (9, 0)), some (.inl x1), some (.inl x2), some (.inl x3)] [] σ := by
  unfold fb_Rm_somewhere_31 at h
  refine s_Rm_somewhere_31  ?_
  exact e_Rm_somewhere_32 hk4 h
def fb_Rm_somewhere_27 (k4 : Int → Int → Int → kS → kRes) (x1 : Int) (x2 : Int) (x3 : Int) (σ : kS) : kRes := fb_Rm_somewhere_32 k4 x1 x2 x3 1 σ
theorem e_Rm_somewhere_27 {l : Launch} {G : kG} {yf : Int} {σf : kS} {k4 : Int → Int → Int → kS → kRes} (hk4 : ∀ (x1 : Int) (x2 : Int) (x3 : Int)  (σ : kS), k4 x1 x2 x3 σ = some (some yf, σf) → Rn l G dm_Rm_somewhere m_Rm_somewhere (kI fun y' σ' => y' = yf ∧ σ' = σf) 4 [some (.inr (9, 0)), some (.inl x1), some (.inl x2), some (.inl x3)] [] σ) {x1 : Int} {x2 : Int} {x3 : Int}  {σ : kS} (h : fb_Rm_somewhere_27 k4 x1 x2 x3 σ = some (some yf, σf)) : Rn l G dm_Rm_somewhere m_Rm_somewhere (kI fun y' σ' => y' = yf ∧ σ' = σf) 27 [some (.inr (9, 0)), some (.inl x1), some (.inl x2), some (.inl x3)] [] σ := by
  unfold fb_Rm_somewhere_27 at h
  refine s_Rm_somewhere_27  ?_
  exact e_Rm_somewhere_32 hk4 h
def fb_Rm_somewhere_24 (k4 : Int → Int → Int → kS → kRes) (x1 : Int) (x2 : Int) (x3 : Int) (s0 : Int) (σ : kS) : kRes := kg ((-2147483648 ≤ s0 ∧ s0 < 2147483648)) (if s0 < 0 then fb_Rm_somewhere_31 k4 x1 x2 x3 σ else fb_Rm_somewhere_27 k4 x1 x2 x3 σ)
theorem e_Rm_somewhere_24 {l : Launch} {G : kG} {yf : Int} {σf : kS} {k4 : Int → Int → Int → kS → kRes} (hk4 : ∀ (x1 : Int) (x2 : Int) (x3 : Int)  (σ : kS), k4 x1 x2 x3 σ = some (some yf, σf) → Rn l G dm_Rm_somewhere m_Rm_somewhere (kI fun y' σ' => y' = yf ∧ σ' = σf) 4 [some (.inr (9, 0)), some (.inl x1), some (.inl x2), some (.inl x3)] [] σ) {x1 : Int} {x2 : Int} {x3 : Int} {s0 : Int}  {σ : kS} (h : fb_Rm_somewhere_24 k4 x1 x2 x3 s0 σ = some (some yf, σf)) : Rn l G dm_Rm_somewhere m_Rm_somewhere (kI fun y' σ' => y' = yf ∧ σ' = σf) 24 [some (.inr (9, 0)), some (.inl x1), some (.inl x2), some (.inl x3)] [.inl s0] σ := by
  unfold fb_Rm_somewhere_24 at h
  obtain ⟨h1, h⟩ := kg_some h
  refine s_Rm_somewhere_24 h1 (fun c => ?_) (fun c => ?_)
  · rw [if_pos c] at h
    exact e_Rm_somewhere_31 hk4 h
  · rw [if_neg c] at h
    exact e_Rm_somewhere_27 hk4 h
def fb_Rm_somewhere_18 (k4 : Int → Int → Int → kS → kRes) (x1 : Int) (x2 : Int) (x3 : Int) (σ : kS) : kRes := kbi (f_Rm_match x1 x3 σ) fun y σ1 => fb_Rm_somewhere_24 k4 x1 x2 x3 y σ1
theorem e_Rm_somewhere_18 {l : Launch} {G : kG} {yf : Int} {σf : kS} {k4 : Int → Int → Int → kS → kRes} (hk4 : ∀ (x1 : Int) (x2 : Int) (x3 : Int)  (σ : kS), k4 x1 x2 x3 σ = some (some yf, σf) → Rn l G dm_Rm_somewhere m_Rm_somewhere (kI fun y' σ' => y' = yf ∧ σ' = σf) 4 [some (.inr (9, 0)), some (.inl x1), some (.inl x2), some (.inl x3)] [] σ) {x1 : Int} {x2 : Int} {x3 : Int}  {σ : kS} (h : fb_Rm_somewhere_18 k4 x1 x2 x3 σ = some (some yf, σf)) : Rn l G dm_Rm_somewhere m_Rm_somewhere (kI fun y' σ' => y' = yf ∧ σ' = σf) 18 [some (.inr (9, 0)), some (.inl x1), some (.inl x2), some (.inl x3)] [] σ := by
  unfold fb_Rm_somewhere_18 at h
  obtain ⟨y, σ1, hc, h⟩ := kbi_some h
  refine s_Rm_somewhere_18  (by decide) (E_Rm_match hc) (fun y2 σ2 e2 => ?_)
  obtain ⟨rfl, rfl⟩ := e2
  exact e_Rm_somewhere_24 hk4 h
def fb_Rm_somewhere_14 (k4 : Int → Int → Int → kS → kRes) (x1 : Int) (x2 : Int) (x3 : Int) (σ : kS) : kRes := kg ((-2147483648 ≤ x2 ∧ x2 < 2147483648)) (if x2 = 0 then fb_Rm_somewhere_18 k4 x1 x2 x3 σ else fb_Rm_somewhere_27 k4 x1 x2 x3 σ)
theorem e_Rm_somewhere_14 {l : Launch} {G : kG} {yf : Int} {σf : kS} {k4 : Int → Int → Int → kS → kRes} (hk4 : ∀ (x1 : Int) (x2 : Int) (x3 : Int)  (σ : kS), k4 x1 x2 x3 σ = some (some yf, σf) → Rn l G dm_Rm_somewhere m_Rm_somewhere (kI fun y' σ' => y' = yf ∧ σ' = σf) 4 [some (.inr (9, 0)), some (.inl x1), some (.inl x2), some (.inl x3)] [] σ) {x1 : Int} {x2 : Int} {x3 : Int}  {σ : kS} (h : fb_Rm_somewhere_14 k4 x1 x2 x3 σ = some (some yf, σf)) : Rn l G dm_Rm_somewhere m_Rm_somewhere (kI fun y' σ' => y' = yf ∧ σ' = σf) 14 [some (.inr (9, 0)), some (.inl x1), some (.inl x2), some (.inl x3)] [] σ := by
  unfold fb_Rm_somewhere_14 at h
  obtain ⟨h1, h⟩ := kg_some h
  refine s_Rm_somewhere_14 h1 (fun c => ?_) (fun c => ?_)
  · rw [if_neg c] at h
    exact e_Rm_somewhere_27 hk4 h
  · rw [if_pos c] at h
    exact e_Rm_somewhere_18 hk4 h
def fb_Rm_somewhere_4 (k4 : Int → Int → Int → kS → kRes) (x1 : Int) (x2 : Int) (x3 : Int) (σ : kS) : kRes := kg ((0 ≤ x1 ∧ x1 < (100 : Nat)) ∧ (-2147483648 ≤ x3 ∧ x3 < 2147483648) ∧ (-2147483648 ≤ σ 21 0 (Int.toNat x1) ∧ σ 21 0 (Int.toNat x1) < 2147483648)) (if (σ 21 0 (Int.toNat x1)) < x3 then fb_Rm_somewhere_39  x1 x2 x3 σ else fb_Rm_somewhere_14 k4 x1 x2 x3 σ)
theorem e_Rm_somewhere_4 {l : Launch} {G : kG} {yf : Int} {σf : kS} {k4 : Int → Int → Int → kS → kRes} (hk4 : ∀ (x1 : Int) (x2 : Int) (x3 : Int)  (σ : kS), k4 x1 x2 x3 σ = some (some yf, σf) → Rn l G dm_Rm_somewhere m_Rm_somewhere (kI fun y' σ' => y' = yf ∧ σ' = σf) 4 [some (.inr (9, 0)), some (.inl x1), some (.inl x2), some (.inl x3)] [] σ) {x1 : Int} {x2 : Int} {x3 : Int}  {σ : kS} (h : fb_Rm_somewhere_4 k4 x1 x2 x3 σ = some (some yf, σf)) : Rn l G dm_Rm_somewhere m_Rm_somewhere (kI fun y' σ' => y' = yf ∧ σ' = σf) 4 [some (.inr (9, 0)), some (.inl x1), some (.inl x2), some (.inl x3)] [] σ := by
  unfold fb_Rm_somewhere_4 at h
  obtain ⟨⟨h1, h2, h3⟩, h⟩ := kg_some h
  refine s_Rm_somewhere_4 h1 h2 h3 (fun c => ?_) (fun c => ?_)
  · rw [if_pos c] at h
    exact e_Rm_somewhere_39  h
  · rw [if_neg c] at h
    exact e_Rm_somewhere_14 hk4 h
def fl_Rm_somewhere_4  : Nat → Int → Int → Int → kS → kRes
  | 0, _, _, _, _ => none
  | n + 1, x1, x2, x3, σ => fb_Rm_somewhere_4 (fl_Rm_somewhere_4  n) x1 x2 x3 σ
theorem el_Rm_somewhere_4 {l : Launch} {G : kG} {yf : Int} {σf : kS}  : ∀ (n : Nat) (x1 : Int) (x2 : Int) (x3 : Int)  (σ : kS), fl_Rm_somewhere_4  n x1 x2 x3 σ = some (some yf, σf) → Rn l G dm_Rm_somewhere m_Rm_somewhere (kI fun y' σ' => y' = yf ∧ σ' = σf) 4 [some (.inr (9, 0)), some (.inl x1), some (.inl x2), some (.inl x3)] [] σ := by
  intro n
  induction n with
  | zero => intro x1 x2 x3 σ h; simp only [fl_Rm_somewhere_4] at h; cases h
  | succ n ih => intro x1 x2 x3 σ h; simp only [fl_Rm_somewhere_4] at h; exact e_Rm_somewhere_4 ih h
def fb_Rm_somewhere_0  (x1 : Int) (σ : kS) : kRes := fl_Rm_somewhere_4  3000 x1 0 0 σ
theorem e_Rm_somewhere_0 {l : Launch} {G : kG} {yf : Int} {σf : kS}  {x1 : Int} {o2 : Option kV} {o3 : Option kV} {σ : kS} (h : fb_Rm_somewhere_0  x1 σ = some (some yf, σf)) : Rn l G dm_Rm_somewhere m_Rm_somewhere (kI fun y' σ' => y' = yf ∧ σ' = σf) 0 [some (.inr (9, 0)), some (.inl x1), o2, o3] [] σ := by
  unfold fb_Rm_somewhere_0 at h
  refine s_Rm_somewhere_0  ?_
  exact el_Rm_somewhere_4  _ _ _ _ _ h
def f_Rm_somewhere (x1 : Int) (σ : kS) : kRes := fb_Rm_somewhere_0 x1 σ
theorem E_Rm_somewhere {l : Launch} {G : kG} {yf : Int} {σf : kS} {x1 : Int} {σ : kS} (h : f_Rm_somewhere x1 σ = some (some yf, σf)) : Call l G dm_Rm_somewhere y_Rm_somewhere m_Rm_somewhere [.inr (9, 0), .inl x1] σ (kI fun y' σ' => y' = yf ∧ σ' = σf) := by
  unfold f_Rm_somewhere at h
  exact Call.of (by decide +kernel) rfl (Nat.le_of_ble_eq_true rfl) (e_Rm_somewhere_0 h)
/-! Rm_below -/
def fb_Rm_below_41  (x1 : Int) (x2 : Int) (σ : kS) : kRes := some (some 0, kup σ 9 0 23 1)
theorem e_Rm_below_41 {l : Launch} {G : kG} {yf : Int} {σf : kS}  {x1 : Int} {x2 : Int} {o3 : Option kV} {σ : kS} (h : fb_Rm_below_41  x1 x2 σ = some (some yf, σf)) : Rn l G dm_Rm_below m_Rm_below (kI fun y' σ' => y' = yf ∧ σ' = σf) 41 [some (.inr (9, 0)), some (.inl x1), some (.inl x2), o3] [] σ := by
  unfold fb_Rm_below_41 at h
  simp only [Option.some.injEq, Prod.mk.injEq, true_and] at h
  exact s_Rm_below_41  ⟨_, rfl, h⟩
def fb_Rm_below_35 (k2 : Int → Int → kS → kRes) (x1 : Int) (x2 : Int) (x3 : Int) (σ : kS) : kRes := k2 x1 (x2 + 1) σ
theorem e_Rm_below_35 {l : Launch} {G : kG} {yf : Int} {σf : kS} {k2 : Int → Int → kS → kRes} (hk2 : ∀ (x1 : Int) (x2 : Int) (o3 : Option kV) (σ : kS), k2 x1 x2 σ = some (some yf, σf) → Rn l G dm_Rm_below m_Rm_below (kI fun y' σ' => y' = yf ∧ σ' = σf) 2 [some (.inr (9, 0)), some (.inl x1), some (.inl x2), o3] [] σ) {x1 : Int} {x2 : Int} {x3 : Int}  {σ : kS} (h : fb_Rm_below_35 k2 x1 x2 x3 σ = some (some yf, σf)) : Rn l G dm_Rm_below m_Rm_below (kI fun y' σ' => y' = yf ∧ σ' = σf) 35 [some (.inr (9, 0)), some (.inl x1), some (.inl x2), some (.inl x3)] [] σ := by
  unfold fb_Rm_below_35 at h
  refine s_Rm_below_35  ?_
  exact hk2 _ _ _ _ h
def fb_Rm_below_31  (x1 : Int) (x2 : Int) (x3 : Int) (σ : kS) : kRes := some (some (x3 + 1), σ)
theorem e_Rm_below_31 {l : Launch} {G : kG} {yf : Int} {σf : kS}  {x1 : Int} {x2 : Int} {x3 : Int}  {σ : kS} (h : fb_Rm_below_31  x1 x2 x3 σ = some (some yf, σf)) : Rn l G dm_Rm_below m_Rm_below (kI fun y' σ' => y' = yf ∧ σ' = σf) 31 [some (.inr (9, 0)), some (.inl x1), some (.inl x2), some (.inl x3)] [] σ := by
  unfold fb_Rm_below_31 at h
  simp only [Option.some.injEq, Prod.mk.injEq, true_and] at h
  exact s_Rm_below_31  ⟨_, rfl, h⟩
def fb_Rm_below_28 (k2 : Int → Int → kS → kRes) (x1 : Int) (x2 : Int) (x3 : Int) (s0 : Int) (σ : kS) : kRes := kg ((-2147483648 ≤ s0 ∧ s0 < 2147483648)) (if s0 = 0 then fb_Rm_below_35 k2 x1 x2 x3 σ else fb_Rm_below_31  x1 x2 x3 σ)
theorem e_Rm_below_28 {l : Launch} {G : kG} {yf : Int} {σf : kS} {k2 : Int → Int → kS → kRes} (hk2 : ∀ (x1 : Int) (x2 : Int) (o3 : Option kV) (σ : kS), k2 x1 x2 σ = some (some yf, σf) → Rn l G dm_Rm_below m_Rm_below (kI fun y' σ' => y' = yf ∧ σ' = σf) 2 [some (.inr (9, 0)), some (.inl x1), some (.inl x2), o3] [] σ) {x1 : Int} {x2 : Int} {x3 : Int} {s0 : Int}  {σ : kS} (h : fb_Rm_below_28 k2 x1 x2 x3 s0 σ = some (some yf, σf)) : Rn l G dm_Rm_below m_Rm_below (kI fun y' σ' => y' = yf ∧ σ' = σf) 28 [some (.inr (9, 0)), some (.inl x1), some (.inl x2), some (.inl x3)] [.inl s0] σ := by
  unfold fb_Rm_below_28 at h
  obtain ⟨h1, h⟩ := kg_some h
  refine s_Rm_below_28 h1 (fun c => ?_) (fun c => ?_)
  · rw [if_pos c] at h
    exact e_Rm_below_35 hk2 h
  · rw [if_neg c] at h
    exact e_Rm_below_31  h
def fb_Rm_below_12 (k2 : Int → Int → kS → kRes) (x1 : Int) (x2 : Int) (σ : kS) : kRes := kg (¬ Int32.ofInt (σ 22 0 0) = 0) (kbi (f_Rm_somewhere (kmod (x1 + x2) (σ 22 0 0)) σ) fun y σ1 => fb_Rm_below_28 k2 x1 x2 (kmod (x1 + x2) (σ 22 0 0)) y σ1)
theorem e_Rm_below_12 {l : Launch} {G : kG} {yf : Int} {σf : kS} {k2 : Int → Int → kS → kRes} (hk2 : ∀ (x1 : Int) (x2 : Int) (o3 : Option kV) (σ : kS), k2 x1 x2 σ = some (some yf, σf) → Rn l G dm_Rm_below m_Rm_below (kI fun y' σ' => y' = yf ∧ σ' = σf) 2 [some (.inr (9, 0)), some (.inl x1), some (.inl x2), o3] [] σ) {x1 : Int} {x2 : Int} {o3 : Option kV} {σ : kS} (h : fb_Rm_below_12 k2 x1 x2 σ = some (some yf, σf)) : Rn l G dm_Rm_below m_Rm_below (kI fun y' σ' => y' = yf ∧ σ' = σf) 12 [some (.inr (9, 0)), some (.inl x1), some (.inl x2), o3] [] σ := by
  unfold fb_Rm_below_12 at h
  obtain ⟨h1, h⟩ := kg_some h
  obtain ⟨y, σ1, hc, h⟩ := kbi_some h
  refine s_Rm_below_12 h1 (by decide) (E_Rm_somewhere hc) (fun y2 σ2 e2 => ?_)
  obtain ⟨rfl, rfl⟩ := e2
  exact e_Rm_below_28 hk2 h
def fb_Rm_below_2 (k2 : Int → Int → kS → kRes) (x1 : Int) (x2 : Int) (σ : kS) : kRes := kg ((-2147483648 ≤ x2 ∧ x2 < 2147483648) ∧ (-2147483648 ≤ σ 22 0 0 ∧ σ 22 0 0 < 2147483648)) (if (σ 22 0 0) < x2 then fb_Rm_below_41  x1 x2 σ else fb_Rm_below_12 k2 x1 x2 σ)
theorem e_Rm_below_2 {l : Launch} {G : kG} {yf : Int} {σf : kS} {k2 : Int → Int → kS → kRes} (hk2 : ∀ (x1 : Int) (x2 : Int) (o3 : Option kV) (σ : kS), k2 x1 x2 σ = some (some yf, σf) → Rn l G dm_Rm_below m_Rm_below (kI fun y' σ' => y' = yf ∧ σ' = σf) 2 [some (.inr (9, 0)), some (.inl x1), some (.inl x2), o3] [] σ) {x1 : Int} {x2 : Int} {o3 : Option kV} {σ : kS} (h : fb_Rm_below_2 k2 x1 x2 σ = some (some yf, σf)) : Rn l G dm_Rm_below m_Rm_below (kI fun y' σ' => y' = yf ∧ σ' = σf) 2 [some (.inr (9, 0)), some (.inl x1), some (.inl x2), o3] [] σ := by
  unfold fb_Rm_below_2 at h
  obtain ⟨⟨h1, h2⟩, h⟩ := kg_some h
  refine s_Rm_below_2 h1 h2 (fun c => ?_) (fun c => ?_)
  · rw [if_pos c] at h
    exact e_Rm_below_41  h
  · rw [if_neg c] at h
    exact e_Rm_below_12 hk2 h
def fl_Rm_below_2  : Nat → Int → Int → kS → kRes
  | 0, _, _, _ => none
  | n + 1, x1, x2, σ => fb_Rm_below_2 (fl_Rm_below_2  n) x1 x2 σ
theorem el_Rm_below_2 {l : Launch} {G : kG} {yf : Int} {σf : kS}  : ∀ (n : Nat) (x1 : Int) (x2 : Int) (o3 : Option kV) (σ : kS), fl_Rm_below_2  n x1 x2 σ = some (some yf, σf) → Rn l G dm_Rm_below m_Rm_below (kI fun y' σ' => y' = yf ∧ σ' = σf) 2 [some (.inr (9, 0)), some (.inl x1), some (.inl x2), o3] [] σ := by
  intro n
  induction n with
  | zero => intro x1 x2 o3 σ h; simp only [fl_Rm_below_2] at h; cases h
  | succ n ih => intro x1 x2 o3 σ h; simp only [fl_Rm_below_2] at h; exact e_Rm_below_2 ih h
def fb_Rm_below_0  (x1 : Int) (σ : kS) : kRes := fl_Rm_below_2  3000 x1 1 σ
theorem e_Rm_below_0 {l : Launch} {G : kG} {yf : Int} {σf : kS}  {x1 : Int} {o2 : Option kV} {o3 : Option kV} {σ : kS} (h : fb_Rm_below_0  x1 σ = some (some yf, σf)) : Rn l G dm_Rm_below m_Rm_below (kI fun y' σ' => y' = yf ∧ σ' = σf) 0 [some (.inr (9, 0)), some (.inl x1), o2, o3] [] σ := by
  unfold fb_Rm_below_0 at h
  refine s_Rm_below_0  ?_
  exact el_Rm_below_2  _ _ _ _ _ h
def f_Rm_below (x1 : Int) (σ : kS) : kRes := fb_Rm_below_0 x1 σ
theorem E_Rm_below {l : Launch} {G : kG} {yf : Int} {σf : kS} {x1 : Int} {σ : kS} (h : f_Rm_below x1 σ = some (some yf, σf)) : Call l G dm_Rm_below y_Rm_below m_Rm_below [.inr (9, 0), .inl x1] σ (kI fun y' σ' => y' = yf ∧ σ' = σf) := by
  unfold f_Rm_below at h
  exact Call.of (by decide +kernel) rfl (Nat.le_of_ble_eq_true rfl) (e_Rm_below_0 h)
/-! Rm_atom -/
def fb_Rm_atom_224  (x1 : Int) (x2 : Int) (x3 : Int) (x4 : Int) (s0 : Int) (σ : kS) : kRes := some (some s0, kup σ 9 0 28 ((σ 9 0 28) + 1))
theorem e_Rm_atom_224 {l : Launch} {G : kG} {yf : Int} {σf : kS}  {x1 : Int} {x2 : Int} {x3 : Int} {x4 : Int} {s0 : Int} {o5 : Option kV} {σ : kS} (h : fb_Rm_atom_224  x1 x2 x3 x4 s0 σ = some (some yf, σf)) : Rn l G dm_Rm_atom m_Rm_atom (kI fun y' σ' => y' = yf ∧ σ' = σf) 224 [some (.inr (9, 0)), some (.inl x1), some (.inl x2), some (.inl x3), some (.inl x4), o5] [.inl s0] σ := by
  unfold fb_Rm_atom_224 at h
  simp only [Option.some.injEq, Prod.mk.injEq, true_and] at h
  exact s_Rm_atom_224  ⟨_, rfl, h⟩
def fb_Rm_atom_222  (x1 : Int) (x2 : Int) (x3 : Int) (x4 : Int) (σ : kS) : kRes := fb_Rm_atom_224  x1 x2 x3 x4 x4 σ
theorem e_Rm_atom_222 {l : Launch} {G : kG} {yf : Int} {σf : kS}  {x1 : Int} {x2 : Int} {x3 : Int} {x4 : Int} {o5 : Option kV} {σ : kS} (h : fb_Rm_atom_222  x1 x2 x3 x4 σ = some (some yf, σf)) : Rn l G dm_Rm_atom m_Rm_atom (kI fun y' σ' => y' = yf ∧ σ' = σf) 222 [some (.inr (9, 0)), some (.inl x1), some (.inl x2), some (.inl x3), some (.inl x4), o5] [] σ := by
  unfold fb_Rm_atom_222 at h
  refine s_Rm_atom_222  ?_
  exact e_Rm_atom_224  h
def fb_Rm_atom_215  (x1 : Int) (x2 : Int) (x3 : Int) (x4 : Int) (σ : kS) : kRes := fb_Rm_atom_224  x1 x2 x3 x4 (x4 + 1) σ
theorem e_Rm_atom_215 {l : Launch} {G : kG} {yf : Int} {σf : kS}  {x1 : Int} {x2 : Int} {x3 : Int} {x4 : Int} {o5 : Option kV} {σ : kS} (h : fb_Rm_atom_215  x1 x2 x3 x4 σ = some (some yf, σf)) : Rn l G dm_Rm_atom m_Rm_atom (kI fun y' σ' => y' = yf ∧ σ' = σf) 215 [some (.inr (9, 0)), some (.inl x1), some (.inl x2), some (.inl x3), some (.inl x4), o5] [] σ := by
  unfold fb_Rm_atom_215 at h
  refine s_Rm_atom_215  ?_
  exact e_Rm_atom_224  h
def fb_Rm_atom_202  (x1 : Int) (x2 : Int) (x3 : Int) (x4 : Int) (s0 : Int) (s1 : Int) (σ : kS) : kRes := kg ((0 ≤ s1 ∧ s1 < (8 : Nat)) ∧ (s0 = 0 ∨ s0 = 1) ∧ (0 ≤ (kup σ 31 0 (Int.toNat s1) s0) 9 0 28 ∧ (kup σ 31 0 (Int.toNat s1) s0) 9 0 28 < (8 : Nat)) ∧ (-2147483648 ≤ (kup σ 31 0 (Int.toNat s1) s0) 31 0 (Int.toNat ((kup σ 31 0 (Int.toNat s1) s0) 9 0 28)) ∧ (kup σ 31 0 (Int.toNat s1) s0) 31 0 (Int.toNat ((kup σ 31 0 (Int.toNat s1) s0) 9 0 28)) < 2147483648)) (if ((kup σ 31 0 (Int.toNat s1) s0) 31 0 (Int.toNat ((kup σ 31 0 (Int.toNat s1) s0) 9 0 28))) = 0 then fb_Rm_atom_222  x1 x2 x3 x4 (kup σ 31 0 (Int.toNat s1) s0) else fb_Rm_atom_215  x1 x2 x3 x4 (kup σ 31 0 (Int.toNat s1) s0))
theorem e_Rm_atom_202 {l : Launch} {G : kG} {yf : Int} {σf : kS}  {x1 : Int} {x2 : Int} {x3 : Int} {x4 : Int} {s0 : Int} {s1 : Int} {o5 : Option kV} {σ : kS} (h : fb_Rm_atom_202  x1 x2 x3 x4 s0 s1 σ = some (some yf, σf)) : Rn l G dm_Rm_atom m_Rm_atom (kI fun y' σ' => y' = yf ∧ σ' = σf) 202 [some (.inr (9, 0)), some (.inl x1), some (.inl x2), some (.inl x3), some (.inl x4), o5] [.inl s0, .inl s1, .inr (31, 0)] σ := by
  unfold fb_Rm_atom_202 at h
  obtain ⟨⟨h1, h2, h3, h4⟩, h⟩ := kg_some h
  refine s_Rm_atom_202 h1 h2 h3 h4 (fun c => ?_) (fun c => ?_)
  · rw [if_pos c] at h
    exact e_Rm_atom_222  h
  · rw [if_neg c] at h
    exact e_Rm_atom_215  h
def fb_Rm_atom_201  (x1 : Int) (x2 : Int) (x3 : Int) (x4 : Int) (s0 : Int) (σ : kS) : kRes := fb_Rm_atom_202  x1 x2 x3 x4 0 s0 σ
theorem e_Rm_atom_201 {l : Launch} {G : kG} {yf : Int} {σf : kS}  {x1 : Int} {x2 : Int} {x3 : Int} {x4 : Int} {s0 : Int} {o5 : Option kV} {σ : kS} (h : fb_Rm_atom_201  x1 x2 x3 x4 s0 σ = some (some yf, σf)) : Rn l G dm_Rm_atom m_Rm_atom (kI fun y' σ' => y' = yf ∧ σ' = σf) 201 [some (.inr (9, 0)), some (.inl x1), some (.inl x2), some (.inl x3), some (.inl x4), o5] [.inl s0, .inr (31, 0)] σ := by
  unfold fb_Rm_atom_201 at h
  refine s_Rm_atom_201  ?_
  exact e_Rm_atom_202  h
def fb_Rm_atom_197  (x1 : Int) (x2 : Int) (x3 : Int) (x4 : Int) (s0 : Int) (σ : kS) : kRes := fb_Rm_atom_202  x1 x2 x3 x4 1 s0 σ
theorem e_Rm_atom_197 {l : Launch} {G : kG} {yf : Int} {σf : kS}  {x1 : Int} {x2 : Int} {x3 : Int} {x4 : Int} {s0 : Int} {o5 : Option kV} {σ : kS} (h : fb_Rm_atom_197  x1 x2 x3 x4 s0 σ = some (some yf, σf)) : Rn l G dm_Rm_atom m_Rm_atom (kI fun y' σ' => y' = yf ∧ σ' = σf) 197 [some (.inr (9, 0)), some (.inl x1), some (.inl x2), some (.inl x3), some (.inl x4), o5] [.inl s0, .inr (31, 0)] σ := by
  unfold fb_Rm_atom_197 at h
  refine s_Rm_atom_197  ?_
  exact e_Rm_atom_202  h
def fb_Rm_atom_192  (x1 : Int) (x2 : Int) (x3 : Int) (x4 : Int) (s0 : Int) (s1 : Int) (σ : kS) : kRes := kg ((-2147483648 ≤ s0 ∧ s0 < 2147483648)) (if s0 = 42 then fb_Rm_atom_197  x1 x2 x3 x4 s1 σ else fb_Rm_atom_201  x1 x2 x3 x4 s1 σ)
theorem e_Rm_atom_192 {l : Launch} {G : kG} {yf : Int} {σf : kS}  {x1 : Int} {x2 : Int} {x3 : Int} {x4 : Int} {s0 : Int} {s1 : Int} {o5 : Option kV} {σ : kS} (h : fb_Rm_atom_192  x1 x2 x3 x4 s0 s1 σ = some (some yf, σf)) : Rn l G dm_Rm_atom m_Rm_atom (kI fun y' σ' => y' = yf ∧ σ' = σf) 192 [some (.inr (9, 0)), some (.inl x1), some (.inl x2), some (.inl x3), some (.inl x4), o5] [.inl s0, .inl s1, .inr (31, 0)] σ := by
  unfold fb_Rm_atom_192 at h
  obtain ⟨h1, h⟩ := kg_some h
  refine s_Rm_atom_192 h1 (fun c => ?_) (fun c => ?_)
  · rw [if_neg c] at h
    exact e_Rm_atom_201  h
  · rw [if_pos c] at h
    exact e_Rm_atom_197  h
def fb_Rm_atom_186  (x1 : Int) (x2 : Int) (x3 : Int) (x4 : Int) (s0 : Int) (σ : kS) : kRes := kbi (f_Rm_seen x4 σ) fun y σ1 => fb_Rm_atom_192  x1 x2 x3 x4 y s0 σ1
theorem e_Rm_atom_186 {l : Launch} {G : kG} {yf : Int} {σf : kS}  {x1 : Int} {x2 : Int} {x3 : Int} {x4 : Int} {s0 : Int} {o5 : Option kV} {σ : kS} (h : fb_Rm_atom_186  x1 x2 x3 x4 s0 σ = some (some yf, σf)) : Rn l G dm_Rm_atom m_Rm_atom (kI fun y' σ' => y' = yf ∧ σ' = σf) 186 [some (.inr (9, 0)), some (.inl x1), some (.inl x2), some (.inl x3), some (.inl x4), o5] [.inl s0, .inr (31, 0)] σ := by
  unfold fb_Rm_atom_186 at h
  obtain ⟨y, σ1, hc, h⟩ := kbi_some h
  refine s_Rm_atom_186  (by decide) (E_Rm_seen hc) (fun y2 σ2 e2 => ?_)
  obtain ⟨rfl, rfl⟩ := e2
  exact e_Rm_atom_192  h
def fb_Rm_atom_172  (x1 : Int) (x2 : Int) (x3 : Int) (x4 : Int) (σ : kS) : kRes := kg ((-2147483648 ≤ x4 ∧ x4 < 2147483648) ∧ (-2147483648 ≤ x2 ∧ x2 < 2147483648)) (if x2 ≤ x4 then fb_Rm_atom_201  x1 x2 x3 x4 (σ 9 0 28) σ else fb_Rm_atom_186  x1 x2 x3 x4 (σ 9 0 28) σ)
theorem e_Rm_atom_172 {l : Launch} {G : kG} {yf : Int} {σf : kS}  {x1 : Int} {x2 : Int} {x3 : Int} {x4 : Int} {o5 : Option kV} {σ : kS} (h : fb_Rm_atom_172  x1 x2 x3 x4 σ = some (some yf, σf)) : Rn l G dm_Rm_atom m_Rm_atom (kI fun y' σ' => y' = yf ∧ σ' = σf) 172 [some (.inr (9, 0)), some (.inl x1), some (.inl x2), some (.inl x3), some (.inl x4), o5] [] σ := by
  unfold fb_Rm_atom_172 at h
  obtain ⟨⟨h1, h2⟩, h⟩ := kg_some h
  refine s_Rm_atom_172 h1 h2 (fun c => ?_) (fun c => ?_)
  · rw [if_pos c] at h
    exact e_Rm_atom_201  h
  · rw [if_neg c] at h
    exact e_Rm_atom_186  h
def fb_Rm_atom_133  (x1 : Int) (x2 : Int) (x3 : Int) (x4 : Int) (x5 : Int) (σ : kS) : kRes := kg ((0 ≤ σ 9 0 28 ∧ σ 9 0 28 < (8 : Nat)) ∧ (0 ≤ (kup σ 28 0 (Int.toNat (σ 9 0 28)) 2) 9 0 28 ∧ (kup σ 28 0 (Int.toNat (σ 9 0 28)) 2) 9 0 28 < (8 : Nat)) ∧ (0 ≤ (kup (kup σ 28 0 (Int.toNat (σ 9 0 28)) 2) 29 0 (Int.toNat ((kup σ 28 0 (Int.toNat (σ 9 0 28)) 2) 9 0 28)) (x1 + 1)) 9 0 28 ∧ (kup (kup σ 28 0 (Int.toNat (σ 9 0 28)) 2) 29 0 (Int.toNat ((kup σ 28 0 (Int.toNat (σ 9 0 28)) 2) 9 0 28)) (x1 + 1)) 9 0 28 < (8 : Nat))) (fb_Rm_atom_172  x1 x2 x3 (x5 + 1) (kup (kup (kup σ 28 0 (Int.toNat (σ 9 0 28)) 2) 29 0 (Int.toNat ((kup σ 28 0 (Int.toNat (σ 9 0 28)) 2) 9 0 28)) (x1 + 1)) 30 0 (Int.toNat ((kup (kup σ 28 0 (Int.toNat (σ 9 0 28)) 2) 29 0 (Int.toNat ((kup σ 28 0 (Int.toNat (σ 9 0 28)) 2) 9 0 28)) (x1 + 1)) 9 0 28)) x5))
theorem e_Rm_atom_133 {l : Launch} {G : kG} {yf : Int} {σf : kS}  {x1 : Int} {x2 : Int} {x3 : Int} {x4 : Int} {x5 : Int}  {σ : kS} (h : fb_Rm_atom_133  x1 x2 x3 x4 x5 σ = some (some yf, σf)) : Rn l G dm_Rm_atom m_Rm_atom (kI fun y' σ' => y' = yf ∧ σ' = σf) 133 [some (.inr (9, 0)), some (.inl x1), some (.inl x2), some (.inl x3), some (.inl x4), some (.inl x5)] [] σ := by
  unfold fb_Rm_atom_133 at h
  obtain ⟨⟨h1, h2, h3⟩, h⟩ := kg_some h
  refine s_Rm_atom_133 h1 h2 h3 ?_
  exact e_Rm_atom_172  h
def fb_Rm_atom_131  (x1 : Int) (x2 : Int) (x3 : Int) (x4 : Int) (x5 : Int) (σ : kS) : kRes := some (some (-1), σ)
theorem e_Rm_atom_131 {l : Launch} {G : kG} {yf : Int} {σf : kS}  {x1 : Int} {x2 : Int} {x3 : Int} {x4 : Int} {x5 : Int}  {σ : kS} (h : fb_Rm_atom_131  x1 x2 x3 x4 x5 σ = some (some yf, σf)) : Rn l G dm_Rm_atom m_Rm_atom (kI fun y' σ' => y' = yf ∧ σ' = σf) 131 [some (.inr (9, 0)), some (.inl x1), some (.inl x2), some (.inl x3), some (.inl x4), some (.inl x5)] [] σ := by
  unfold fb_Rm_atom_131 at h
  simp only [Option.some.injEq, Prod.mk.injEq, true_and] at h
  exact s_Rm_atom_131  ⟨_, rfl, h⟩
def fb_Rm_atom_125  (x1 : Int) (x2 : Int) (x3 : Int) (x4 : Int) (x5 : Int) (σ : kS) : kRes := kg ((-2147483648 ≤ x5 ∧ x5 < 2147483648) ∧ (-2147483648 ≤ x2 ∧ x2 < 2147483648)) (if x5 < x2 then fb_Rm_atom_133  x1 x2 x3 x4 x5 σ else fb_Rm_atom_131  x1 x2 x3 x4 x5 σ)
theorem e_Rm_atom_125 {l : Launch} {G : kG} {yf : Int} {σf : kS}  {x1 : Int} {x2 : Int} {x3 : Int} {x4 : Int} {x5 : Int}  {σ : kS} (h : fb_Rm_atom_125  x1 x2 x3 x4 x5 σ = some (some yf, σf)) : Rn l G dm_Rm_atom m_Rm_atom (kI fun y' σ' => y' = yf ∧ σ' = σf) 125 [some (.inr (9, 0)), some (.inl x1), some (.inl x2), some (.inl x3), some (.inl x4), some (.inl x5)] [] σ := by
  unfold fb_Rm_atom_125 at h
  obtain ⟨⟨h1, h2⟩, h⟩ := kg_some h
  refine s_Rm_atom_125 h1 h2 (fun c => ?_) (fun c => ?_)
  · rw [if_pos c] at h
    exact e_Rm_atom_133  h
  · rw [if_neg c] at h
    exact e_Rm_atom_131  h
def fb_Rm_atom_119 (k102 : Int → Int → Int → Int → Int → kS → kRes) (x1 : Int) (x2 : Int) (x3 : Int) (x4 : Int) (x5 : Int) (σ : kS) : kRes := k102 x1 x2 x3 x4 (x5 + 1) σ
theorem e_Rm_atom_119 {l : Launch} {G : kG} {yf : Int} {σf : kS} {k102 : Int → Int → Int → Int → Int → kS → kRes} (hk102 : ∀ (x1 : Int) (x2 : Int) (x3 : Int) (x4 : Int) (x5 : Int)  (σ : kS), k102 x1 x2 x3 x4 x5 σ = some (some yf, σf) → Rn l G dm_Rm_atom m_Rm_atom (kI fun y' σ' => y' = yf ∧ σ' = σf) 102 [some (.inr (9, 0)), some (.inl x1), some (.inl x2), some (.inl x3), some (.inl x4), some (.inl x5)] [] σ) {x1 : Int} {x2 : Int} {x3 : Int} {x4 : Int} {x5 : Int}  {σ : kS} (h : fb_Rm_atom_119 k102 x1 x2 x3 x4 x5 σ = some (some yf, σf)) : Rn l G dm_Rm_atom m_Rm_atom (kI fun y' σ' => y' = yf ∧ σ' = σf) 119 [some (.inr (9, 0)), some (.inl x1), some (.inl x2), some (.inl x3), some (.inl x4), some (.inl x5)] [] σ := by
  unfold fb_Rm_atom_119 at h
  refine s_Rm_atom_119  ?_
  exact hk102 _ _ _ _ _ _ h
def fb_Rm_atom_114 (k102 : Int → Int → Int → Int → Int → kS → kRes) (x1 : Int) (x2 : Int) (x3 : Int) (x4 : Int) (x5 : Int) (s0 : Int) (σ : kS) : kRes := kg ((-2147483648 ≤ s0 ∧ s0 < 2147483648)) (if s0 = 93 then fb_Rm_atom_125  x1 x2 x3 x4 x5 σ else fb_Rm_atom_119 k102 x1 x2 x3 x4 x5 σ)
theorem e_Rm_atom_114 {l : Launch} {G : kG} {yf : Int} {σf : kS} {k102 : Int → Int → Int → Int → Int → kS → kRes} (hk102 : ∀ (x1 : Int) (x2 : Int) (x3 : Int) (x4 : Int) (x5 : Int)  (σ : kS), k102 x1 x2 x3 x4 x5 σ = some (some yf, σf) → Rn l G dm_Rm_atom m_Rm_atom (kI fun y' σ' => y' = yf ∧ σ' = σf) 102 [some (.inr (9, 0)), some (.inl x1), some (.inl x2), some (.inl x3), some (.inl x4), some (.inl x5)] [] σ) {x1 : Int} {x2 : Int} {x3 : Int} {x4 : Int} {x5 : Int} {s0 : Int}  {σ : kS} (h : fb_Rm_atom_114 k102 x1 x2 x3 x4 x5 s0 σ = some (some yf, σf)) : Rn l G dm_Rm_atom m_Rm_atom (kI fun y' σ' => y' = yf ∧ σ' = σf) 114 [some (.inr (9, 0)), some (.inl x1), some (.inl x2), some (.inl x3), some (.inl x4), some (.inl x5)] [.inl s0] σ := by
  unfold fb_Rm_atom_114 at h
  obtain ⟨h1, h⟩ := kg_some h
  refine s_Rm_atom_114 h1 (fun c => ?_) (fun c => ?_)
  · rw [if_pos c] at h
    exact e_Rm_atom_125  h
  · rw [if_neg c] at h
    exact e_Rm_atom_119 hk102 h
def fb_Rm_atom_108 (k102 : Int → Int → Int → Int → Int → kS → kRes) (x1 : Int) (x2 : Int) (x3 : Int) (x4 : Int) (x5 : Int) (σ : kS) : kRes := kbi (f_Rm_seen x5 σ) fun y σ1 => fb_Rm_atom_114 k102 x1 x2 x3 x4 x5 y σ1
theorem e_Rm_atom_108 {l : Launch} {G : kG} {yf : Int} {σf : kS} {k102 : Int → Int → Int → Int → Int → kS → kRes} (hk102 : ∀ (x1 : Int) (x2 : Int) (x3 : Int) (x4 : Int) (x5 : Int)  (σ : kS), k102 x1 x2 x3 x4 x5 σ = some (some yf, σf) → Rn l G dm_Rm_atom m_Rm_atom (kI fun y' σ' => y' = yf ∧ σ' = σf) 102 [some (.inr (9, 0)), some (.inl x1), some (.inl x2), some (.inl x3), some (.inl x4), some (.inl x5)] [] σ) {x1 : Int} {x2 : Int} {x3 : Int} {x4 : Int} {x5 : Int}  {σ : kS} (h : fb_Rm_atom_108 k102 x1 x2 x3 x4 x5 σ = some (some yf, σf)) : Rn l G dm_Rm_atom m_Rm_atom (kI fun y' σ' => y' = yf ∧ σ' = σf) 108 [some (.inr (9, 0)), some (.inl x1), some (.inl x2), some (.inl x3), some (.inl x4), some (.inl x5)] [] σ := by
  unfold fb_Rm_atom_108 at h
  obtain ⟨y, σ1, hc, h⟩ := kbi_some h
  refine s_Rm_atom_108  (by decide) (E_Rm_seen hc) (fun y2 σ2 e2 => ?_)
  obtain ⟨rfl, rfl⟩ := e2
  exact e_Rm_atom_114 hk102 h
def fb_Rm_atom_102 (k102 : Int → Int → Int → Int → Int → kS → kRes) (x1 : Int) (x2 : Int) (x3 : Int) (x4 : Int) (x5 : Int) (σ : kS) : kRes := kg ((-2147483648 ≤ x5 ∧ x5 < 2147483648) ∧ (-2147483648 ≤ x2 ∧ x2 < 2147483648)) (if x2 ≤ x5 then fb_Rm_atom_125  x1 x2 x3 x4 x5 σ else fb_Rm_atom_108 k102 x1 x2 x3 x4 x5 σ)
theorem e_Rm_atom_102 {l : Launch} {G : kG} {yf : Int} {σf : kS} {k102 : Int → Int → Int → Int → Int → kS → kRes} (hk102 : ∀ (x1 : Int) (x2 : Int) (x3 : Int) (x4 : Int) (x5 : Int)  (σ : kS), k102 x1 x2 x3 x4 x5 σ = some (some yf, σf) → Rn l G dm_Rm_atom m_Rm_atom (kI fun y' σ' => y' = yf ∧ σ' = σf) 102 [some (.inr (9, 0)), some (.inl x1), some (.inl x2), some (.inl x3), some (.inl x4), some (.inl x5)] [] σ) {x1 : Int} {x2 : Int} {x3 : Int} {x4 : Int} {x5 : Int}  {σ : kS} (h : fb_Rm_atom_102 k102 x1 x2 x3 x4 x5 σ = some (some yf, σf)) : Rn l G dm_Rm_atom m_Rm_atom (kI fun y' σ' => y' = yf ∧ σ' = σf) 102 [some (.inr (9, 0)), some (.inl x1), some (.inl x2), some (.inl x3), some (.inl x4), some (.inl x5)] [] σ := by
  unfold fb_Rm_atom_102 at h
  obtain ⟨⟨h1, h2⟩, h⟩ := kg_some h
  refine s_Rm_atom_102 h1 h2 (fun c => ?_) (fun c => ?_)
  · rw [if_pos c] at h
    exact e_Rm_atom_125  h
  · rw [if_neg c] at h
    exact e_Rm_atom_108 hk102 h
def fl_Rm_atom_102  : Nat → Int → Int → Int → Int → Int → kS → kRes
  | 0, _, _, _, _, _, _ => none
  | n + 1, x1, x2, x3, x4, x5, σ => fb_Rm_atom_102 (fl_Rm_atom_102  n) x1 x2 x3 x4 x5 σ
theorem el_Rm_atom_102 {l : Launch} {G : kG} {yf : Int} {σf : kS}  : ∀ (n : Nat) (x1 : Int) (x2 : Int) (x3 : Int) (x4 : Int) (x5 : Int)  (σ : kS), fl_Rm_atom_102  n x1 x2 x3 x4 x5 σ = some (some yf, σf) → Rn l G dm_Rm_atom m_Rm_atom (kI fun y' σ' => y' = yf ∧ σ' = σf) 102 [some (.inr (9, 0)), some (.inl x1), some (.inl x2), some (.inl x3), some (.inl x4), some (.inl x5)] [] σ := by
  intro n
  induction n with
  | zero => intro x1 x2 x3 x4 x5 σ h; simp only [fl_Rm_atom_102] at h; cases h
  | succ n ih => intro x1 x2 x3 x4 x5 σ h; simp only [fl_Rm_atom_102] at h; exact e_Rm_atom_102 ih h
def fb_Rm_atom_97  (x1 : Int) (x2 : Int) (x3 : Int) (x4 : Int) (σ : kS) : kRes := fl_Rm_atom_102  3000 x1 x2 x3 x4 (x1 + 2) σ
theorem e_Rm_atom_97 {l : Launch} {G : kG} {yf : Int} {σf : kS}  {x1 : Int} {x2 : Int} {x3 : Int} {x4 : Int} {o5 : Option kV} {σ : kS} (h : fb_Rm_atom_97  x1 x2 x3 x4 σ = some (some yf, σf)) : Rn l G dm_Rm_atom m_Rm_atom (kI fun y' σ' => y' = yf ∧ σ' = σf) 97 [some (.inr (9, 0)), some (.inl x1), some (.inl x2), some (.inl x3), some (.inl x4), o5] [] σ := by
  unfold fb_Rm_atom_97 at h
  refine s_Rm_atom_97  ?_
  exact el_Rm_atom_102  _ _ _ _ _ _ _ h
def fb_Rm_atom_91  (x1 : Int) (x2 : Int) (x3 : Int) (x4 : Int) (σ : kS) : kRes := kg ((-2147483648 ≤ x3 ∧ x3 < 2147483648)) (if x3 = 91 then fb_Rm_atom_97  x1 x2 x3 x4 σ else fb_Rm_atom_172  x1 x2 x3 x4 σ)
theorem e_Rm_atom_91 {l : Launch} {G : kG} {yf : Int} {σf : kS}  {x1 : Int} {x2 : Int} {x3 : Int} {x4 : Int} {o5 : Option kV} {σ : kS} (h : fb_Rm_atom_91  x1 x2 x3 x4 σ = some (some yf, σf)) : Rn l G dm_Rm_atom m_Rm_atom (kI fun y' σ' => y' = yf ∧ σ' = σf) 91 [some (.inr (9, 0)), some (.inl x1), some (.inl x2), some (.inl x3), some (.inl x4), o5] [] σ := by
  unfold fb_Rm_atom_91 at h
  obtain ⟨h1, h⟩ := kg_some h
  refine s_Rm_atom_91 h1 (fun c => ?_) (fun c => ?_)
  · rw [if_neg c] at h
    exact e_Rm_atom_172  h
  · rw [if_pos c] at h
    exact e_Rm_atom_97  h
def fb_Rm_atom_85  (x1 : Int) (x2 : Int) (x3 : Int) (x4 : Int) (s0 : Int) (s1 : Int) (σ : kS) : kRes := kg ((0 ≤ s1 ∧ s1 < (8 : Nat))) (fb_Rm_atom_91  x1 x2 x3 (x1 + 2) (kup σ 29 0 (Int.toNat s1) s0))
theorem e_Rm_atom_85 {l : Launch} {G : kG} {yf : Int} {σf : kS}  {x1 : Int} {x2 : Int} {x3 : Int} {x4 : Int} {s0 : Int} {s1 : Int} {o5 : Option kV} {σ : kS} (h : fb_Rm_atom_85  x1 x2 x3 x4 s0 s1 σ = some (some yf, σf)) : Rn l G dm_Rm_atom m_Rm_atom (kI fun y' σ' => y' = yf ∧ σ' = σf) 85 [some (.inr (9, 0)), some (.inl x1), some (.inl x2), some (.inl x3), some (.inl x4), o5] [.inl s0, .inl s1, .inr (29, 0)] σ := by
  unfold fb_Rm_atom_85 at h
  obtain ⟨h1, h⟩ := kg_some h
  refine s_Rm_atom_85 h1 ?_
  exact e_Rm_atom_91  h
def fb_Rm_atom_70  (x1 : Int) (x2 : Int) (x3 : Int) (x4 : Int) (σ : kS) : kRes := kbi (f_Rm_seen (x1 + 1) σ) fun y σ1 => fb_Rm_atom_85  x1 x2 x3 x4 y (σ 9 0 28) σ1
theorem e_Rm_atom_70 {l : Launch} {G : kG} {yf : Int} {σf : kS}  {x1 : Int} {x2 : Int} {x3 : Int} {x4 : Int} {o5 : Option kV} {σ : kS} (h : fb_Rm_atom_70  x1 x2 x3 x4 σ = some (some yf, σf)) : Rn l G dm_Rm_atom m_Rm_atom (kI fun y' σ' => y' = yf ∧ σ' = σf) 70 [some (.inr (9, 0)), some (.inl x1), some (.inl x2), some (.inl x3), some (.inl x4), o5] [] σ := by
  unfold fb_Rm_atom_70 at h
  obtain ⟨y, σ1, hc, h⟩ := kbi_some h
  refine s_Rm_atom_70  (by decide) (E_Rm_seen hc) (fun y2 σ2 e2 => ?_)
  obtain ⟨rfl, rfl⟩ := e2
  exact e_Rm_atom_85  h
def fb_Rm_atom_68  (x1 : Int) (x2 : Int) (x3 : Int) (x4 : Int) (σ : kS) : kRes := some (some (-1), σ)
theorem e_Rm_atom_68 {l : Launch} {G : kG} {yf : Int} {σf : kS}  {x1 : Int} {x2 : Int} {x3 : Int} {x4 : Int} {o5 : Option kV} {σ : kS} (h : fb_Rm_atom_68  x1 x2 x3 x4 σ = some (some yf, σf)) : Rn l G dm_Rm_atom m_Rm_atom (kI fun y' σ' => y' = yf ∧ σ' = σf) 68 [some (.inr (9, 0)), some (.inl x1), some (.inl x2), some (.inl x3), some (.inl x4), o5] [] σ := by
  unfold fb_Rm_atom_68 at h
  simp only [Option.some.injEq, Prod.mk.injEq, true_and] at h
  exact s_Rm_atom_68  ⟨_, rfl, h⟩
def fb_Rm_atom_61  (x1 : Int) (x2 : Int) (x3 : Int) (x4 : Int) (σ : kS) : kRes := kg ((-2147483648 ≤ x1 + 1 ∧ x1 + 1 < 2147483648) ∧ (-2147483648 ≤ x2 ∧ x2 < 2147483648)) (if (x1 + 1) < x2 then fb_Rm_atom_70  x1 x2 x3 x4 σ else fb_Rm_atom_68  x1 x2 x3 x4 σ)
theorem e_Rm_atom_61 {l : Launch} {G : kG} {yf : Int} {σf : kS}  {x1 : Int} {x2 : Int} {x3 : Int} {x4 : Int} {o5 : Option kV} {σ : kS} (h : fb_Rm_atom_61  x1 x2 x3 x4 σ = some (some yf, σf)) : Rn l G dm_Rm_atom m_Rm_atom (kI fun y' σ' => y' = yf ∧ σ' = σf) 61 [some (.inr (9, 0)), some (.inl x1), some (.inl x2), some (.inl x3), some (.inl x4), o5] [] σ := by
  unfold fb_Rm_atom_61 at h
  obtain ⟨⟨h1, h2⟩, h⟩ := kg_some h
  refine s_Rm_atom_61 h1 h2 (fun c => ?_) (fun c => ?_)
  · rw [if_pos c] at h
    exact e_Rm_atom_70  h
  · rw [if_neg c] at h
    exact e_Rm_atom_68  h
def fb_Rm_atom_55  (x1 : Int) (x2 : Int) (x3 : Int) (x4 : Int) (σ : kS) : kRes := kg ((-2147483648 ≤ x3 ∧ x3 < 2147483648)) (if x3 = 92 then fb_Rm_atom_61  x1 x2 x3 x4 σ else fb_Rm_atom_91  x1 x2 x3 x4 σ)
theorem e_Rm_atom_55 {l : Launch} {G : kG} {yf : Int} {σf : kS}  {x1 : Int} {x2 : Int} {x3 : Int} {x4 : Int} {o5 : Option kV} {σ : kS} (h : fb_Rm_atom_55  x1 x2 x3 x4 σ = some (some yf, σf)) : Rn l G dm_Rm_atom m_Rm_atom (kI fun y' σ' => y' = yf ∧ σ' = σf) 55 [some (.inr (9, 0)), some (.inl x1), some (.inl x2), some (.inl x3), some (.inl x4), o5] [] σ := by
  unfold fb_Rm_atom_55 at h
  obtain ⟨h1, h⟩ := kg_some h
  refine s_Rm_atom_55 h1 (fun c => ?_) (fun c => ?_)
  · rw [if_neg c] at h
    exact e_Rm_atom_91  h
  · rw [if_pos c] at h
    exact e_Rm_atom_61  h
def fb_Rm_atom_45  (x1 : Int) (x2 : Int) (x3 : Int) (x4 : Int) (σ : kS) : kRes := kg ((0 ≤ σ 9 0 28 ∧ σ 9 0 28 < (8 : Nat))) (fb_Rm_atom_55  x1 x2 x3 x4 (kup σ 28 0 (Int.toNat (σ 9 0 28)) 0))
theorem e_Rm_atom_45 {l : Launch} {G : kG} {yf : Int} {σf : kS}  {x1 : Int} {x2 : Int} {x3 : Int} {x4 : Int} {o5 : Option kV} {σ : kS} (h : fb_Rm_atom_45  x1 x2 x3 x4 σ = some (some yf, σf)) : Rn l G dm_Rm_atom m_Rm_atom (kI fun y' σ' => y' = yf ∧ σ' = σf) 45 [some (.inr (9, 0)), some (.inl x1), some (.inl x2), some (.inl x3), some (.inl x4), o5] [] σ := by
  unfold fb_Rm_atom_45 at h
  obtain ⟨h1, h⟩ := kg_some h
  refine s_Rm_atom_45 h1 ?_
  exact e_Rm_atom_55  h
def fb_Rm_atom_39  (x1 : Int) (x2 : Int) (x3 : Int) (x4 : Int) (σ : kS) : kRes := kg ((-2147483648 ≤ x3 ∧ x3 < 2147483648)) (if x3 = 46 then fb_Rm_atom_45  x1 x2 x3 x4 σ else fb_Rm_atom_55  x1 x2 x3 x4 σ)
theorem e_Rm_atom_39 {l : Launch} {G : kG} {yf : Int} {σf : kS}  {x1 : Int} {x2 : Int} {x3 : Int} {x4 : Int} {o5 : Option kV} {σ : kS} (h : fb_Rm_atom_39  x1 x2 x3 x4 σ = some (some yf, σf)) : Rn l G dm_Rm_atom m_Rm_atom (kI fun y' σ' => y' = yf ∧ σ' = σf) 39 [some (.inr (9, 0)), some (.inl x1), some (.inl x2), some (.inl x3), some (.inl x4), o5] [] σ := by
  unfold fb_Rm_atom_39 at h
  obtain ⟨h1, h⟩ := kg_some h
  refine s_Rm_atom_39 h1 (fun c => ?_) (fun c => ?_)
  · rw [if_neg c] at h
    exact e_Rm_atom_55  h
  · rw [if_pos c] at h
    exact e_Rm_atom_45  h
def fb_Rm_atom_37  (x1 : Int) (x2 : Int) (x3 : Int) (x4 : Int) (σ : kS) : kRes := some (some (-1), σ)
theorem e_Rm_atom_37 {l : Launch} {G : kG} {yf : Int} {σf : kS}  {x1 : Int} {x2 : Int} {x3 : Int} {x4 : Int} {o5 : Option kV} {σ : kS} (h : fb_Rm_atom_37  x1 x2 x3 x4 σ = some (some yf, σf)) : Rn l G dm_Rm_atom m_Rm_atom (kI fun y' σ' => y' = yf ∧ σ' = σf) 37 [some (.inr (9, 0)), some (.inl x1), some (.inl x2), some (.inl x3), some (.inl x4), o5] [] σ := by
  unfold fb_Rm_atom_37 at h
  simp only [Option.some.injEq, Prod.mk.injEq, true_and] at h
  exact s_Rm_atom_37  ⟨_, rfl, h⟩
def fb_Rm_atom_5  (x1 : Int) (x2 : Int) (s0 : Int) (σ : kS) : kRes := kg ((0 ≤ σ 9 0 28 ∧ σ 9 0 28 < (8 : Nat)) ∧ (0 ≤ (kup σ 28 0 (Int.toNat (σ 9 0 28)) 1) 9 0 28 ∧ (kup σ 28 0 (Int.toNat (σ 9 0 28)) 1) 9 0 28 < (8 : Nat)) ∧ (-2147483648 ≤ s0 ∧ s0 < 2147483648)) (if s0 = 42 then fb_Rm_atom_37  x1 x2 s0 (x1 + 1) (kup (kup σ 28 0 (Int.toNat (σ 9 0 28)) 1) 29 0 (Int.toNat ((kup σ 28 0 (Int.toNat (σ 9 0 28)) 1) 9 0 28)) s0) else fb_Rm_atom_39  x1 x2 s0 (x1 + 1) (kup (kup σ 28 0 (Int.toNat (σ 9 0 28)) 1) 29 0 (Int.toNat ((kup σ 28 0 (Int.toNat (σ 9 0 28)) 1) 9 0 28)) s0))
theorem e_Rm_atom_5 {l : Launch} {G : kG} {yf : Int} {σf : kS}  {x1 : Int} {x2 : Int} {s0 : Int} {o3 : Option kV} {o4 : Option kV} {o5 : Option kV} {σ : kS} (h : fb_Rm_atom_5  x1 x2 s0 σ = some (some yf, σf)) : Rn l G dm_Rm_atom m_Rm_atom (kI fun y' σ' => y' = yf ∧ σ' = σf) 5 [some (.inr (9, 0)), some (.inl x1), some (.inl x2), o3, o4, o5] [.inl s0] σ := by
  unfold fb_Rm_atom_5 at h
  obtain ⟨⟨h1, h2, h3⟩, h⟩ := kg_some h
  refine s_Rm_atom_5 h1 h2 h3 (fun c => ?_) (fun c => ?_)
  · rw [if_neg c] at h
    exact e_Rm_atom_39  h
  · rw [if_pos c] at h
    exact e_Rm_atom_37  h
def fb_Rm_atom_0  (x1 : Int) (x2 : Int) (σ : kS) : kRes := kbi (f_Rm_seen x1 σ) fun y σ1 => fb_Rm_atom_5  x1 x2 y σ1
theorem e_Rm_atom_0 {l : Launch} {G : kG} {yf : Int} {σf : kS}  {x1 : Int} {x2 : Int} {o3 : Option kV} {o4 : Option kV} {o5 : Option kV} {σ : kS} (h : fb_Rm_atom_0  x1 x2 σ = some (some yf, σf)) : Rn l G dm_Rm_atom m_Rm_atom (kI fun y' σ' => y' = yf ∧ σ' = σf) 0 [some (.inr (9, 0)), some (.inl x1), some (.inl x2), o3, o4, o5] [] σ := by
  unfold fb_Rm_atom_0 at h
  obtain ⟨y, σ1, hc, h⟩ := kbi_some h
  refine s_Rm_atom_0  (by decide) (E_Rm_seen hc) (fun y2 σ2 e2 => ?_)
  obtain ⟨rfl, rfl⟩ := e2
  exact e_Rm_atom_5  h
def f_Rm_atom (x1 : Int) (x2 : Int) (σ : kS) : kRes := fb_Rm_atom_0 x1 x2 σ
theorem E_Rm_atom {l : Launch} {G : kG} {yf : Int} {σf : kS} {x1 : Int} {x2 : Int} {σ : kS} (h : f_Rm_atom x1 x2 σ = some (some yf, σf)) : Call l G dm_Rm_atom y_Rm_atom m_Rm_atom [.inr (9, 0), .inl x1, .inl x2] σ (kI fun y' σ' => y' = yf ∧ σ' = σf) := by
  unfold f_Rm_atom at h
  exact Call.of (by decide +kernel) rfl (Nat.le_of_ble_eq_true rfl) (e_Rm_atom_0 h)
/-! Rm_pattern -/
def fb_Rm_pattern_141  (x1 : Int) (x2 : Int) (x3 : Int) (s0 : Int) (σ : kS) : kRes := kg ((s0 = 0 ∨ s0 = 1)) (some (some s0, σ))
theorem e_Rm_pattern_141 {l : Launch} {G : kG} {yf : Int} {σf : kS}  {x1 : Int} {x2 : Int} {x3 : Int} {s0 : Int}  {σ : kS} (h : fb_Rm_pattern_141  x1 x2 x3 s0 σ = some (some yf, σf)) : Rn l G dm_Rm_pattern m_Rm_pattern (kI fun y' σ' => y' = yf ∧ σ' = σf) 141 [some (.inr (9, 0)), some (.inl x1), some (.inl x2), some (.inl x3)] [.inl s0] σ := by
  unfold fb_Rm_pattern_141 at h
  obtain ⟨h1, h⟩ := kg_some h
  simp only [Option.some.injEq, Prod.mk.injEq, true_and] at h
  exact s_Rm_pattern_141 h1 ⟨_, rfl, h⟩
def fb_Rm_pattern_140  (x1 : Int) (x2 : Int) (x3 : Int) (σ : kS) : kRes := fb_Rm_pattern_141  x1 x2 x3 0 σ
theorem e_Rm_pattern_140 {l : Launch} {G : kG} {yf : Int} {σf : kS}  {x1 : Int} {x2 : Int} {x3 : Int}  {σ : kS} (h : fb_Rm_pattern_140  x1 x2 x3 σ = some (some yf, σf)) : Rn l G dm_Rm_pattern m_Rm_pattern (kI fun y' σ' => y' = yf ∧ σ' = σf) 140 [some (.inr (9, 0)), some (.inl x1), some (.inl x2), some (.inl x3)] [] σ := by
  unfold fb_Rm_pattern_140 at h
  refine s_Rm_pattern_140  ?_
  exact e_Rm_pattern_141  h
def fb_Rm_pattern_136  (x1 : Int) (x2 : Int) (x3 : Int) (σ : kS) : kRes := fb_Rm_pattern_141  x1 x2 x3 1 σ
theorem e_Rm_pattern_136 {l : Launch} {G : kG} {yf : Int} {σf : kS}  {x1 : Int} {x2 : Int} {x3 : Int}  {σ : kS} (h : fb_Rm_pattern_136  x1 x2 x3 σ = some (some yf, σf)) : Rn l G dm_Rm_pattern m_Rm_pattern (kI fun y' σ' => y' = yf ∧ σ' = σf) 136 [some (.inr (9, 0)), some (.inl x1), some (.inl x2), some (.inl x3)] [] σ := by
  unfold fb_Rm_pattern_136 at h
  refine s_Rm_pattern_136  ?_
  exact e_Rm_pattern_141  h
def fb_Rm_pattern_129  (x1 : Int) (x2 : Int) (x3 : Int) (σ : kS) : kRes := kg ((-2147483648 ≤ σ 9 0 28 ∧ σ 9 0 28 < 2147483648)) (if (σ 9 0 28) ≤ 0 then fb_Rm_pattern_140  x1 x2 x3 σ else fb_Rm_pattern_136  x1 x2 x3 σ)
theorem e_Rm_pattern_129 {l : Launch} {G : kG} {yf : Int} {σf : kS}  {x1 : Int} {x2 : Int} {x3 : Int}  {σ : kS} (h : fb_Rm_pattern_129  x1 x2 x3 σ = some (some yf, σf)) : Rn l G dm_Rm_pattern m_Rm_pattern (kI fun y' σ' => y' = yf ∧ σ' = σf) 129 [some (.inr (9, 0)), some (.inl x1), some (.inl x2), some (.inl x3)] [] σ := by
  unfold fb_Rm_pattern_129 at h
  obtain ⟨h1, h⟩ := kg_some h
  refine s_Rm_pattern_129 h1 (fun c => ?_) (fun c => ?_)
  · rw [if_pos c] at h
    exact e_Rm_pattern_140  h
  · rw [if_neg c] at h
    exact e_Rm_pattern_136  h
def fb_Rm_pattern_122  (x1 : Int) (x2 : Int) (x3 : Int) (σ : kS) : kRes := kg ((-2147483648 ≤ σ 9 0 30 ∧ σ 9 0 30 < 2147483648)) (if (σ 9 0 30) = 0 then fb_Rm_pattern_129  x1 x2 x3 σ else fb_Rm_pattern_136  x1 x2 x3 σ)
theorem e_Rm_pattern_122 {l : Launch} {G : kG} {yf : Int} {σf : kS}  {x1 : Int} {x2 : Int} {x3 : Int}  {σ : kS} (h : fb_Rm_pattern_122  x1 x2 x3 σ = some (some yf, σf)) : Rn l G dm_Rm_pattern m_Rm_pattern (kI fun y' σ' => y' = yf ∧ σ' = σf) 122 [some (.inr (9, 0)), some (.inl x1), some (.inl x2), some (.inl x3)] [] σ := by
  unfold fb_Rm_pattern_122 at h
  obtain ⟨h1, h⟩ := kg_some h
  refine s_Rm_pattern_122 h1 (fun c => ?_) (fun c => ?_)
  · rw [if_neg c] at h
    exact e_Rm_pattern_136  h
  · rw [if_pos c] at h
    exact e_Rm_pattern_129  h
def fb_Rm_pattern_115  (x1 : Int) (x2 : Int) (x3 : Int) (σ : kS) : kRes := kg ((-2147483648 ≤ σ 9 0 29 ∧ σ 9 0 29 < 2147483648)) (if (σ 9 0 29) = 0 then fb_Rm_pattern_122  x1 x2 x3 σ else fb_Rm_pattern_136  x1 x2 x3 σ)
theorem e_Rm_pattern_115 {l : Launch} {G : kG} {yf : Int} {σf : kS}  {x1 : Int} {x2 : Int} {x3 : Int}  {σ : kS} (h : fb_Rm_pattern_115  x1 x2 x3 σ = some (some yf, σf)) : Rn l G dm_Rm_pattern m_Rm_pattern (kI fun y' σ' => y' = yf ∧ σ' = σf) 115 [some (.inr (9, 0)), some (.inl x1), some (.inl x2), some (.inl x3)] [] σ := by
  unfold fb_Rm_pattern_115 at h
  obtain ⟨h1, h⟩ := kg_some h
  refine s_Rm_pattern_115 h1 (fun c => ?_) (fun c => ?_)
  · rw [if_neg c] at h
    exact e_Rm_pattern_136  h
  · rw [if_pos c] at h
    exact e_Rm_pattern_122  h
def fb_Rm_pattern_113  (x1 : Int) (x2 : Int) (x3 : Int) (σ : kS) : kRes := some (some 0, σ)
theorem e_Rm_pattern_113 {l : Launch} {G : kG} {yf : Int} {σf : kS}  {x1 : Int} {x2 : Int} {x3 : Int}  {σ : kS} (h : fb_Rm_pattern_113  x1 x2 x3 σ = some (some yf, σf)) : Rn l G dm_Rm_pattern m_Rm_pattern (kI fun y' σ' => y' = yf ∧ σ' = σf) 113 [some (.inr (9, 0)), some (.inl x1), some (.inl x2), some (.inl x3)] [] σ := by
  unfold fb_Rm_pattern_113 at h
  simp only [Option.some.injEq, Prod.mk.injEq, true_and] at h
  exact s_Rm_pattern_113  ⟨_, rfl, h⟩
def fb_Rm_pattern_108 (k51 : Int → Int → Int → kS → kRes) (x1 : Int) (x2 : Int) (x3 : Int) (s0 : Int) (σ : kS) : kRes := kg ((-2147483648 ≤ s0 ∧ s0 < 2147483648)) (if 0 ≤ s0 then k51 x1 x2 s0 σ else fb_Rm_pattern_113  x1 x2 s0 σ)
theorem e_Rm_pattern_108 {l : Launch} {G : kG} {yf : Int} {σf : kS} {k51 : Int → Int → Int → kS → kRes} (hk51 : ∀ (x1 : Int) (x2 : Int) (x3 : Int)  (σ : kS), k51 x1 x2 x3 σ = some (some yf, σf) → Rn l G dm_Rm_pattern m_Rm_pattern (kI fun y' σ' => y' = yf ∧ σ' = σf) 51 [some (.inr (9, 0)), some (.inl x1), some (.inl x2), some (.inl x3)] [] σ) {x1 : Int} {x2 : Int} {x3 : Int} {s0 : Int}  {σ : kS} (h : fb_Rm_pattern_108 k51 x1 x2 x3 s0 σ = some (some yf, σf)) : Rn l G dm_Rm_pattern m_Rm_pattern (kI fun y' σ' => y' = yf ∧ σ' = σf) 108 [some (.inr (9, 0)), some (.inl x1), some (.inl x2), some (.inl x3)] [.inl s0] σ := by
  unfold fb_Rm_pattern_108 at h
  obtain ⟨h1, h⟩ := kg_some h
  refine s_Rm_pattern_108 h1 (fun c => ?_) (fun c => ?_)
  · rw [if_pos c] at h
    exact hk51 _ _ _ _ h
  · rw [if_neg c] at h
    exact e_Rm_pattern_113  h
def fb_Rm_pattern_102 (k51 : Int → Int → Int → kS → kRes) (x1 : Int) (x2 : Int) (x3 : Int) (σ : kS) : kRes := kbi (f_Rm_atom x3 x2 σ) fun y σ1 => fb_Rm_pattern_108 k51 x1 x2 x3 y σ1
theorem e_Rm_pattern_102 {l : Launch} {G : kG} {yf : Int} {σf : kS} {k51 : Int → Int → Int → kS → kRes} (hk51 : ∀ (x1 : Int) (x2 : Int) (x3 : Int)  (σ : kS), k51 x1 x2 x3 σ = some (some yf, σf) → Rn l G dm_Rm_pattern m_Rm_pattern (kI fun y' σ' => y' = yf ∧ σ' = σf) 51 [some (.inr (9, 0)), some (.inl x1), some (.inl x2), some (.inl x3)] [] σ) {x1 : Int} {x2 : Int} {x3 : Int}  {σ : kS} (h : fb_Rm_pattern_102 k51 x1 x2 x3 σ = some (some yf, σf)) : Rn l G dm_Rm_pattern m_Rm_pattern (kI fun y' σ' => y' = yf ∧ σ' = σf) 102 [some (.inr (9, 0)), some (.inl x1), some (.inl x2), some (.inl x3)] [] σ := by
  unfold fb_Rm_pattern_102 at h
  obtain ⟨y, σ1, hc, h⟩ := kbi_some h
  refine s_Rm_pattern_102  (by decide) (E_Rm_atom hc) (fun y2 σ2 e2 => ?_)
  obtain ⟨rfl, rfl⟩ := e2
  exact e_Rm_pattern_108 hk51 h
def fb_Rm_pattern_100  (x1 : Int) (x2 : Int) (x3 : Int) (σ : kS) : kRes := some (some 0, σ)
theorem e_Rm_pattern_100 {l : Launch} {G : kG} {yf : Int} {σf : kS}  {x1 : Int} {x2 : Int} {x3 : Int}  {σ : kS} (h : fb_Rm_pattern_100  x1 x2 x3 σ = some (some yf, σf)) : Rn l G dm_Rm_pattern m_Rm_pattern (kI fun y' σ' => y' = yf ∧ σ' = σf) 100 [some (.inr (9, 0)), some (.inl x1), some (.inl x2), some (.inl x3)] [] σ := by
  unfold fb_Rm_pattern_100 at h
  simp only [Option.some.injEq, Prod.mk.injEq, true_and] at h
  exact s_Rm_pattern_100  ⟨_, rfl, h⟩
def fb_Rm_pattern_91 (k51 : Int → Int → Int → kS → kRes) (x1 : Int) (x2 : Int) (x3 : Int) (σ : kS) : kRes := kg ((-2147483648 ≤ σ 9 0 28 ∧ σ 9 0 28 < 2147483648)) (if (σ 9 0 28) = 8 then fb_Rm_pattern_100  x1 x2 x3 σ else fb_Rm_pattern_102 k51 x1 x2 x3 σ)
theorem e_Rm_pattern_91 {l : Launch} {G : kG} {yf : Int} {σf : kS} {k51 : Int → Int → Int → kS → kRes} (hk51 : ∀ (x1 : Int) (x2 : Int) (x3 : Int)  (σ : kS), k51 x1 x2 x3 σ = some (some yf, σf) → Rn l G dm_Rm_pattern m_Rm_pattern (kI fun y' σ' => y' = yf ∧ σ' = σf) 51 [some (.inr (9, 0)), some (.inl x1), some (.inl x2), some (.inl x3)] [] σ) {x1 : Int} {x2 : Int} {x3 : Int}  {σ : kS} (h : fb_Rm_pattern_91 k51 x1 x2 x3 σ = some (some yf, σf)) : Rn l G dm_Rm_pattern m_Rm_pattern (kI fun y' σ' => y' = yf ∧ σ' = σf) 91 [some (.inr (9, 0)), some (.inl x1), some (.inl x2), some (.inl x3)] [] σ := by
  unfold fb_Rm_pattern_91 at h
  obtain ⟨h1, h⟩ := kg_some h
  refine s_Rm_pattern_91 h1 (fun c => ?_) (fun c => ?_)
  · rw [if_neg c] at h
    exact e_Rm_pattern_102 hk51 h
  · rw [if_pos c] at h
    exact e_Rm_pattern_100  h
def fb_Rm_pattern_80 (k51 : Int → Int → Int → kS → kRes) (x1 : Int) (x2 : Int) (x3 : Int) (σ : kS) : kRes := k51 x1 x2 (x3 + 1) (kup σ 9 0 30 1)
theorem e_Rm_pattern_80 {l : Launch} {G : kG} {yf : Int} {σf : kS} {k51 : Int → Int → Int → kS → kRes} (hk51 : ∀ (x1 : Int) (x2 : Int) (x3 : Int)  (σ : kS), k51 x1 x2 x3 σ = some (some yf, σf) → Rn l G dm_Rm_pattern m_Rm_pattern (kI fun y' σ' => y' = yf ∧ σ' = σf) 51 [some (.inr (9, 0)), some (.inl x1), some (.inl x2), some (.inl x3)] [] σ) {x1 : Int} {x2 : Int} {x3 : Int}  {σ : kS} (h : fb_Rm_pattern_80 k51 x1 x2 x3 σ = some (some yf, σf)) : Rn l G dm_Rm_pattern m_Rm_pattern (kI fun y' σ' => y' = yf ∧ σ' = σf) 80 [some (.inr (9, 0)), some (.inl x1), some (.inl x2), some (.inl x3)] [] σ := by
  unfold fb_Rm_pattern_80 at h
  refine s_Rm_pattern_80  ?_
  exact hk51 _ _ _ _ h
def fb_Rm_pattern_73 (k51 : Int → Int → Int → kS → kRes) (x1 : Int) (x2 : Int) (x3 : Int) (σ : kS) : kRes := kg ((-2147483648 ≤ x3 + 1 ∧ x3 + 1 < 2147483648) ∧ (-2147483648 ≤ x2 ∧ x2 < 2147483648)) (if (x3 + 1) = x2 then fb_Rm_pattern_80 k51 x1 x2 x3 σ else fb_Rm_pattern_91 k51 x1 x2 x3 σ)
theorem e_Rm_pattern_73 {l : Launch} {G : kG} {yf : Int} {σf : kS} {k51 : Int → Int → Int → kS → kRes} (hk51 : ∀ (x1 : Int) (x2 : Int) (x3 : Int)  (σ : kS), k51 x1 x2 x3 σ = some (some yf, σf) → Rn l G dm_Rm_pattern m_Rm_pattern (kI fun y' σ' => y' = yf ∧ σ' = σf) 51 [some (.inr (9, 0)), some (.inl x1), some (.inl x2), some (.inl x3)] [] σ) {x1 : Int} {x2 : Int} {x3 : Int}  {σ : kS} (h : fb_Rm_pattern_73 k51 x1 x2 x3 σ = some (some yf, σf)) : Rn l G dm_Rm_pattern m_Rm_pattern (kI fun y' σ' => y' = yf ∧ σ' = σf) 73 [some (.inr (9, 0)), some (.inl x1), some (.inl x2), some (.inl x3)] [] σ := by
  unfold fb_Rm_pattern_73 at h
  obtain ⟨⟨h1, h2⟩, h⟩ := kg_some h
  refine s_Rm_pattern_73 h1 h2 (fun c => ?_) (fun c => ?_)
  · rw [if_neg c] at h
    exact e_Rm_pattern_91 hk51 h
  · rw [if_pos c] at h
    exact e_Rm_pattern_80 hk51 h
def fb_Rm_pattern_68 (k51 : Int → Int → Int → kS → kRes) (x1 : Int) (x2 : Int) (x3 : Int) (s0 : Int) (σ : kS) : kRes := kg ((-2147483648 ≤ s0 ∧ s0 < 2147483648)) (if s0 = 36 then fb_Rm_pattern_73 k51 x1 x2 x3 σ else fb_Rm_pattern_91 k51 x1 x2 x3 σ)
theorem e_Rm_pattern_68 {l : Launch} {G : kG} {yf : Int} {σf : kS} {k51 : Int → Int → Int → kS → kRes} (hk51 : ∀ (x1 : Int) (x2 : Int) (x3 : Int)  (σ : kS), k51 x1 x2 x3 σ = some (some yf, σf) → Rn l G dm_Rm_pattern m_Rm_pattern (kI fun y' σ' => y' = yf ∧ σ' = σf) 51 [some (.inr (9, 0)), some (.inl x1), some (.inl x2), some (.inl x3)] [] σ) {x1 : Int} {x2 : Int} {x3 : Int} {s0 : Int}  {σ : kS} (h : fb_Rm_pattern_68 k51 x1 x2 x3 s0 σ = some (some yf, σf)) : Rn l G dm_Rm_pattern m_Rm_pattern (kI fun y' σ' => y' = yf ∧ σ' = σf) 68 [some (.inr (9, 0)), some (.inl x1), some (.inl x2), some (.inl x3)] [.inl s0] σ := by
  unfold fb_Rm_pattern_68 at h
  obtain ⟨h1, h⟩ := kg_some h
  refine s_Rm_pattern_68 h1 (fun c => ?_) (fun c => ?_)
  · rw [if_neg c] at h
    exact e_Rm_pattern_91 hk51 h
  · rw [if_pos c] at h
    exact e_Rm_pattern_73 hk51 h
def fb_Rm_pattern_63 (k51 : Int → Int → Int → kS → kRes) (x1 : Int) (x2 : Int) (x3 : Int) (σ : kS) : kRes := kbi (f_Rm_seen x3 σ) fun y σ1 => fb_Rm_pattern_68 k51 x1 x2 x3 y σ1
theorem e_Rm_pattern_63 {l : Launch} {G : kG} {yf : Int} {σf : kS} {k51 : Int → Int → Int → kS → kRes} (hk51 : ∀ (x1 : Int) (x2 : Int) (x3 : Int)  (σ : kS), k51 x1 x2 x3 σ = some (some yf, σf) → Rn l G dm_Rm_pattern m_Rm_pattern (kI fun y' σ' => y' = yf ∧ σ' = σf) 51 [some (.inr (9, 0)), some (.inl x1), some (.inl x2), some (.inl x3)] [] σ) {x1 : Int} {x2 : Int} {x3 : Int}  {σ : kS} (h : fb_Rm_pattern_63 k51 x1 x2 x3 σ = some (some yf, σf)) : Rn l G dm_Rm_pattern m_Rm_pattern (kI fun y' σ' => y' = yf ∧ σ' = σf) 63 [some (.inr (9, 0)), some (.inl x1), some (.inl x2), some (.inl x3)] [] σ := by
  unfold fb_Rm_pattern_63 at h
  obtain ⟨y, σ1, hc, h⟩ := kbi_some h
  refine s_Rm_pattern_63  (by decide) (E_Rm_seen hc) (fun y2 σ2 e2 => ?_)
  obtain ⟨rfl, rfl⟩ := e2
  exact e_Rm_pattern_68 hk51 h
def fb_Rm_pattern_56 (k51 : Int → Int → Int → kS → kRes) (x1 : Int) (x2 : Int) (x3 : Int) (σ : kS) : kRes := kg ((-2147483648 ≤ σ 9 0 30 ∧ σ 9 0 30 < 2147483648)) (if (σ 9 0 30) = 0 then fb_Rm_pattern_63 k51 x1 x2 x3 σ else fb_Rm_pattern_115  x1 x2 x3 σ)
theorem e_Rm_pattern_56 {l : Launch} {G : kG} {yf : Int} {σf : kS} {k51 : Int → Int → Int → kS → kRes} (hk51 : ∀ (x1 : Int) (x2 : Int) (x3 : Int)  (σ : kS), k51 x1 x2 x3 σ = some (some yf, σf) → Rn l G dm_Rm_pattern m_Rm_pattern (kI fun y' σ' => y' = yf ∧ σ' = σf) 51 [some (.inr (9, 0)), some (.inl x1), some (.inl x2), some (.inl x3)] [] σ) {x1 : Int} {x2 : Int} {x3 : Int}  {σ : kS} (h : fb_Rm_pattern_56 k51 x1 x2 x3 σ = some (some yf, σf)) : Rn l G dm_Rm_pattern m_Rm_pattern (kI fun y' σ' => y' = yf ∧ σ' = σf) 56 [some (.inr (9, 0)), some (.inl x1), some (.inl x2), some (.inl x3)] [] σ := by
  unfold fb_Rm_pattern_56 at h
  obtain ⟨h1, h⟩ := kg_some h
  refine s_Rm_pattern_56 h1 (fun c => ?_) (fun c => ?_)
  · rw [if_neg c] at h
    exact e_Rm_pattern_115  h
  · rw [if_pos c] at h
    exact e_Rm_pattern_63 hk51 h
def fb_Rm_pattern_51 (k51 : Int → Int → Int → kS → kRes) (x1 : Int) (x2 : Int) (x3 : Int) (σ : kS) : kRes := kg ((-2147483648 ≤ x3 ∧ x3 < 2147483648) ∧ (-2147483648 ≤ x2 ∧ x2 < 2147483648)) (if x2 ≤ x3 then fb_Rm_pattern_115  x1 x2 x3 σ else fb_Rm_pattern_56 k51 x1 x2 x3 σ)
theorem e_Rm_pattern_51 {l : Launch} {G : kG} {yf : Int} {σf : kS} {k51 : Int → Int → Int → kS → kRes} (hk51 : ∀ (x1 : Int) (x2 : Int) (x3 : Int)  (σ : kS), k51 x1 x2 x3 σ = some (some yf, σf) → Rn l G dm_Rm_pattern m_Rm_pattern (kI fun y' σ' => y' = yf ∧ σ' = σf) 51 [some (.inr (9, 0)), some (.inl x1), some (.inl x2), some (.inl x3)] [] σ) {x1 : Int} {x2 : Int} {x3 : Int}  {σ : kS} (h : fb_Rm_pattern_51 k51 x1 x2 x3 σ = some (some yf, σf)) : Rn l G dm_Rm_pattern m_Rm_pattern (kI fun y' σ' => y' = yf ∧ σ' = σf) 51 [some (.inr (9, 0)), some (.inl x1), some (.inl x2), some (.inl x3)] [] σ := by
  unfold fb_Rm_pattern_51 at h
  obtain ⟨⟨h1, h2⟩, h⟩ := kg_some h
  refine s_Rm_pattern_51 h1 h2 (fun c => ?_) (fun c => ?_)
  · rw [if_pos c] at h
    exact e_Rm_pattern_115  h
  · rw [if_neg c] at h
    exact e_Rm_pattern_56 hk51 h
def fl_Rm_pattern_51  : Nat → Int → Int → Int → kS → kRes
  | 0, _, _, _, _ => none
  | n + 1, x1, x2, x3, σ => fb_Rm_pattern_51 (fl_Rm_pattern_51  n) x1 x2 x3 σ
theorem el_Rm_pattern_51 {l : Launch} {G : kG} {yf : Int} {σf : kS}  : ∀ (n : Nat) (x1 : Int) (x2 : Int) (x3 : Int)  (σ : kS), fl_Rm_pattern_51  n x1 x2 x3 σ = some (some yf, σf) → Rn l G dm_Rm_pattern m_Rm_pattern (kI fun y' σ' => y' = yf ∧ σ' = σf) 51 [some (.inr (9, 0)), some (.inl x1), some (.inl x2), some (.inl x3)] [] σ := by
  intro n
  induction n with
  | zero => intro x1 x2 x3 σ h; simp only [fl_Rm_pattern_51] at h; cases h
  | succ n ih => intro x1 x2 x3 σ h; simp only [fl_Rm_pattern_51] at h; exact e_Rm_pattern_51 ih h
def fb_Rm_pattern_50  (x1 : Int) (x2 : Int) (x3 : Int) (s0 : Int) (σ : kS) : kRes := fl_Rm_pattern_51  3000 x1 x2 s0 σ
theorem e_Rm_pattern_50 {l : Launch} {G : kG} {yf : Int} {σf : kS}  {x1 : Int} {x2 : Int} {x3 : Int} {s0 : Int}  {σ : kS} (h : fb_Rm_pattern_50  x1 x2 x3 s0 σ = some (some yf, σf)) : Rn l G dm_Rm_pattern m_Rm_pattern (kI fun y' σ' => y' = yf ∧ σ' = σf) 50 [some (.inr (9, 0)), some (.inl x1), some (.inl x2), some (.inl x3)] [.inl s0] σ := by
  unfold fb_Rm_pattern_50 at h
  refine s_Rm_pattern_50  ?_
  exact el_Rm_pattern_51  _ _ _ _ _ h
def fb_Rm_pattern_49  (x1 : Int) (x2 : Int) (x3 : Int) (σ : kS) : kRes := fb_Rm_pattern_50  x1 x2 x3 x3 σ
theorem e_Rm_pattern_49 {l : Launch} {G : kG} {yf : Int} {σf : kS}  {x1 : Int} {x2 : Int} {x3 : Int}  {σ : kS} (h : fb_Rm_pattern_49  x1 x2 x3 σ = some (some yf, σf)) : Rn l G dm_Rm_pattern m_Rm_pattern (kI fun y' σ' => y' = yf ∧ σ' = σf) 49 [some (.inr (9, 0)), some (.inl x1), some (.inl x2), some (.inl x3)] [] σ := by
  unfold fb_Rm_pattern_49 at h
  refine s_Rm_pattern_49  ?_
  exact e_Rm_pattern_50  h
def fb_Rm_pattern_43  (x1 : Int) (x2 : Int) (x3 : Int) (σ : kS) : kRes := fb_Rm_pattern_50  x1 x2 x3 (x3 + 1) σ
theorem e_Rm_pattern_43 {l : Launch} {G : kG} {yf : Int} {σf : kS}  {x1 : Int} {x2 : Int} {x3 : Int}  {σ : kS} (h : fb_Rm_pattern_43  x1 x2 x3 σ = some (some yf, σf)) : Rn l G dm_Rm_pattern m_Rm_pattern (kI fun y' σ' => y' = yf ∧ σ' = σf) 43 [some (.inr (9, 0)), some (.inl x1), some (.inl x2), some (.inl x3)] [] σ := by
  unfold fb_Rm_pattern_43 at h
  refine s_Rm_pattern_43  ?_
  exact e_Rm_pattern_50  h
def fb_Rm_pattern_33  (x1 : Int) (x2 : Int) (x3 : Int) (s0 : Int) (σ : kS) : kRes := kg ((s0 = 0 ∨ s0 = 1) ∧ (-2147483648 ≤ (kup σ 9 0 29 s0) 9 0 29 ∧ (kup σ 9 0 29 s0) 9 0 29 < 2147483648)) (if ((kup σ 9 0 29 s0) 9 0 29) = 0 then fb_Rm_pattern_49  x1 x2 x3 (kup σ 9 0 29 s0) else fb_Rm_pattern_43  x1 x2 x3 (kup σ 9 0 29 s0))
theorem e_Rm_pattern_33 {l : Launch} {G : kG} {yf : Int} {σf : kS}  {x1 : Int} {x2 : Int} {x3 : Int} {s0 : Int}  {σ : kS} (h : fb_Rm_pattern_33  x1 x2 x3 s0 σ = some (some yf, σf)) : Rn l G dm_Rm_pattern m_Rm_pattern (kI fun y' σ' => y' = yf ∧ σ' = σf) 33 [some (.inr (9, 0)), some (.inl x1), some (.inl x2), some (.inl x3)] [.inl s0, .inr (9, 0)] σ := by
  unfold fb_Rm_pattern_33 at h
  obtain ⟨⟨h1, h2⟩, h⟩ := kg_some h
  refine s_Rm_pattern_33 h1 h2 (fun c => ?_) (fun c => ?_)
  · rw [if_pos c] at h
    exact e_Rm_pattern_49  h
  · rw [if_neg c] at h
    exact e_Rm_pattern_43  h
def fb_Rm_pattern_32  (x1 : Int) (x2 : Int) (x3 : Int) (σ : kS) : kRes := fb_Rm_pattern_33  x1 x2 x3 0 σ
theorem e_Rm_pattern_32 {l : Launch} {G : kG} {yf : Int} {σf : kS}  {x1 : Int} {x2 : Int} {x3 : Int}  {σ : kS} (h : fb_Rm_pattern_32  x1 x2 x3 σ = some (some yf, σf)) : Rn l G dm_Rm_pattern m_Rm_pattern (kI fun y' σ' => y' = yf ∧ σ' = σf) 32 [some (.inr (9, 0)), some (.inl x1), some (.inl x2), some (.inl x3)] [.inr (9, 0)] σ := by
  unfold fb_Rm_pattern_32 at h
  refine s_Rm_pattern_32  ?_
  exact e_Rm_pattern_33  h
def fb_Rm_pattern_28  (x1 : Int) (x2 : Int) (x3 : Int) (σ : kS) : kRes := fb_Rm_pattern_33  x1 x2 x3 1 σ
theorem e_Rm_pattern_28 {l : Launch} {G : kG} {yf : Int} {σf : kS}  {x1 : Int} {x2 : Int} {x3 : Int}  {σ : kS} (h : fb_Rm_pattern_28  x1 x2 x3 σ = some (some yf, σf)) : Rn l G dm_Rm_pattern m_Rm_pattern (kI fun y' σ' => y' = yf ∧ σ' = σf) 28 [some (.inr (9, 0)), some (.inl x1), some (.inl x2), some (.inl x3)] [.inr (9, 0)] σ := by
  unfold fb_Rm_pattern_28 at h
  refine s_Rm_pattern_28  ?_
  exact e_Rm_pattern_33  h
def fb_Rm_pattern_23  (x1 : Int) (x2 : Int) (x3 : Int) (s0 : Int) (σ : kS) : kRes := kg ((-2147483648 ≤ s0 ∧ s0 < 2147483648)) (if s0 = 94 then fb_Rm_pattern_28  x1 x2 x3 σ else fb_Rm_pattern_32  x1 x2 x3 σ)
theorem e_Rm_pattern_23 {l : Launch} {G : kG} {yf : Int} {σf : kS}  {x1 : Int} {x2 : Int} {x3 : Int} {s0 : Int}  {σ : kS} (h : fb_Rm_pattern_23  x1 x2 x3 s0 σ = some (some yf, σf)) : Rn l G dm_Rm_pattern m_Rm_pattern (kI fun y' σ' => y' = yf ∧ σ' = σf) 23 [some (.inr (9, 0)), some (.inl x1), some (.inl x2), some (.inl x3)] [.inl s0, .inr (9, 0)] σ := by
  unfold fb_Rm_pattern_23 at h
  obtain ⟨h1, h⟩ := kg_some h
  refine s_Rm_pattern_23 h1 (fun c => ?_) (fun c => ?_)
  · rw [if_neg c] at h
    exact e_Rm_pattern_32  h
  · rw [if_pos c] at h
    exact e_Rm_pattern_28  h
def fb_Rm_pattern_18  (x1 : Int) (x2 : Int) (x3 : Int) (σ : kS) : kRes := kbi (f_Rm_seen x3 σ) fun y σ1 => fb_Rm_pattern_23  x1 x2 x3 y σ1
theorem e_Rm_pattern_18 {l : Launch} {G : kG} {yf : Int} {σf : kS}  {x1 : Int} {x2 : Int} {x3 : Int}  {σ : kS} (h : fb_Rm_pattern_18  x1 x2 x3 σ = some (some yf, σf)) : Rn l G dm_Rm_pattern m_Rm_pattern (kI fun y' σ' => y' = yf ∧ σ' = σf) 18 [some (.inr (9, 0)), some (.inl x1), some (.inl x2), some (.inl x3)] [.inr (9, 0)] σ := by
  unfold fb_Rm_pattern_18 at h
  obtain ⟨y, σ1, hc, h⟩ := kbi_some h
  refine s_Rm_pattern_18  (by decide) (E_Rm_seen hc) (fun y2 σ2 e2 => ?_)
  obtain ⟨rfl, rfl⟩ := e2
  exact e_Rm_pattern_23  h
def fb_Rm_pattern_0  (x1 : Int) (x2 : Int) (σ : kS) : kRes := kg ((-2147483648 ≤ x1 ∧ x1 < 2147483648) ∧ (-2147483648 ≤ x2 ∧ x2 < 2147483648)) (if x2 ≤ x1 then fb_Rm_pattern_32  x1 x2 x1 (kup (kup σ 9 0 28 0) 9 0 30 0) else fb_Rm_pattern_18  x1 x2 x1 (kup (kup σ 9 0 28 0) 9 0 30 0))
theorem e_Rm_pattern_0 {l : Launch} {G : kG} {yf : Int} {σf : kS}  {x1 : Int} {x2 : Int} {o3 : Option kV} {σ : kS} (h : fb_Rm_pattern_0  x1 x2 σ = some (some yf, σf)) : Rn l G dm_Rm_pattern m_Rm_pattern (kI fun y' σ' => y' = yf ∧ σ' = σf) 0 [some (.inr (9, 0)), some (.inl x1), some (.inl x2), o3] [] σ := by
  unfold fb_Rm_pattern_0 at h
  obtain ⟨⟨h1, h2⟩, h⟩ := kg_some h
  refine s_Rm_pattern_0 h1 h2 (fun c => ?_) (fun c => ?_)
  · rw [if_pos c] at h
    exact e_Rm_pattern_32  h
  · rw [if_neg c] at h
    exact e_Rm_pattern_18  h
def f_Rm_pattern (x1 : Int) (x2 : Int) (σ : kS) : kRes := fb_Rm_pattern_0 x1 x2 σ
theorem E_Rm_pattern {l : Launch} {G : kG} {yf : Int} {σf : kS} {x1 : Int} {x2 : Int} {σ : kS} (h : f_Rm_pattern x1 x2 σ = some (some yf, σf)) : Call l G dm_Rm_pattern y_Rm_pattern m_Rm_pattern [.inr (9, 0), .inl x1, .inl x2] σ (kI fun y' σ' => y' = yf ∧ σ' = σf) := by
  unfold f_Rm_pattern at h
  exact Call.of (by decide +kernel) rfl (Nat.le_of_ble_eq_true rfl) (e_Rm_pattern_0 h)
/-! Rm_delimited -/
def fb_Rm_delimited_78  (x1 : Int) (s0 : Int) (σ : kS) : kRes := kg ((s0 = 0 ∨ s0 = 1)) (some (none, kup (kup σ 9 0 23 s0) 9 0 22 (((kup σ 9 0 23 s0) 9 0 22) + 1)))
theorem e_Rm_delimited_78 {l : Launch} {G : kG} {σf : kS}  {x1 : Int} {s0 : Int}  {σ : kS} (h : fb_Rm_delimited_78  x1 s0 σ = some (none, σf)) : Rn l G dm_Rm_delimited m_Rm_delimited (kU fun σ' => σ' = σf) 78 [some (.inr (9, 0)), some (.inl x1)] [.inl s0, .inr (9, 0)] σ := by
  unfold fb_Rm_delimited_78 at h
  obtain ⟨h1, h⟩ := kg_some h
  simp only [Option.some.injEq, Prod.mk.injEq, true_and] at h
  exact s_Rm_delimited_78 h1 ⟨rfl, h⟩
def fb_Rm_delimited_77  (x1 : Int) (σ : kS) : kRes := fb_Rm_delimited_78  x1 0 σ
theorem e_Rm_delimited_77 {l : Launch} {G : kG} {σf : kS}  {x1 : Int}  {σ : kS} (h : fb_Rm_delimited_77  x1 σ = some (none, σf)) : Rn l G dm_Rm_delimited m_Rm_delimited (kU fun σ' => σ' = σf) 77 [some (.inr (9, 0)), some (.inl x1)] [.inr (9, 0)] σ := by
  unfold fb_Rm_delimited_77 at h
  refine s_Rm_delimited_77  ?_
  exact e_Rm_delimited_78  h
def fb_Rm_delimited_73  (x1 : Int) (σ : kS) : kRes := fb_Rm_delimited_78  x1 1 σ
theorem e_Rm_delimited_73 {l : Launch} {G : kG} {σf : kS}  {x1 : Int}  {σ : kS} (h : fb_Rm_delimited_73  x1 σ = some (none, σf)) : Rn l G dm_Rm_delimited m_Rm_delimited (kU fun σ' => σ' = σf) 73 [some (.inr (9, 0)), some (.inl x1)] [.inr (9, 0)] σ := by
  unfold fb_Rm_delimited_73 at h
  refine s_Rm_delimited_73  ?_
  exact e_Rm_delimited_78  h
def fb_Rm_delimited_70  (x1 : Int) (s0 : Int) (σ : kS) : kRes := kg ((-2147483648 ≤ s0 ∧ s0 < 2147483648)) (if s0 = 0 then fb_Rm_delimited_73  x1 σ else fb_Rm_delimited_77  x1 σ)
theorem e_Rm_delimited_70 {l : Launch} {G : kG} {σf : kS}  {x1 : Int} {s0 : Int}  {σ : kS} (h : fb_Rm_delimited_70  x1 s0 σ = some (none, σf)) : Rn l G dm_Rm_delimited m_Rm_delimited (kU fun σ' => σ' = σf) 70 [some (.inr (9, 0)), some (.inl x1)] [.inl s0, .inr (9, 0)] σ := by
  unfold fb_Rm_delimited_70 at h
  obtain ⟨h1, h⟩ := kg_some h
  refine s_Rm_delimited_70 h1 (fun c => ?_) (fun c => ?_)
  · rw [if_neg c] at h
    exact e_Rm_delimited_77  h
  · rw [if_pos c] at h
    exact e_Rm_delimited_73  h
def fb_Rm_delimited_61  (x1 : Int) (σ : kS) : kRes := kbi (f_Rm_pattern x1 (σ 9 0 22) σ) fun y σ1 => fb_Rm_delimited_70  x1 y σ1
theorem e_Rm_delimited_61 {l : Launch} {G : kG} {σf : kS}  {x1 : Int}  {σ : kS} (h : fb_Rm_delimited_61  x1 σ = some (none, σf)) : Rn l G dm_Rm_delimited m_Rm_delimited (kU fun σ' => σ' = σf) 61 [some (.inr (9, 0)), some (.inl x1)] [.inr (9, 0)] σ := by
  unfold fb_Rm_delimited_61 at h
  obtain ⟨y, σ1, hc, h⟩ := kbi_some h
  refine s_Rm_delimited_61  (by decide) (E_Rm_pattern hc) (fun y2 σ2 e2 => ?_)
  obtain ⟨rfl, rfl⟩ := e2
  exact e_Rm_delimited_70  h
def fb_Rm_delimited_50  (x1 : Int) (σ : kS) : kRes := kg ((-2147483648 ≤ σ 9 0 22 ∧ σ 9 0 22 < 2147483648) ∧ (-2147483648 ≤ σ 9 0 20 ∧ σ 9 0 20 < 2147483648)) (if (σ 9 0 20) ≤ (σ 9 0 22) then fb_Rm_delimited_73  x1 σ else fb_Rm_delimited_61  x1 σ)
theorem e_Rm_delimited_50 {l : Launch} {G : kG} {σf : kS}  {x1 : Int}  {σ : kS} (h : fb_Rm_delimited_50  x1 σ = some (none, σf)) : Rn l G dm_Rm_delimited m_Rm_delimited (kU fun σ' => σ' = σf) 50 [some (.inr (9, 0)), some (.inl x1)] [.inr (9, 0)] σ := by
  unfold fb_Rm_delimited_50 at h
  obtain ⟨⟨h1, h2⟩, h⟩ := kg_some h
  refine s_Rm_delimited_50 h1 h2 (fun c => ?_) (fun c => ?_)
  · rw [if_pos c] at h
    exact e_Rm_delimited_73  h
  · rw [if_neg c] at h
    exact e_Rm_delimited_61  h
def fb_Rm_delimited_42  (x1 : Int) (σ : kS) : kRes := kg ((-2147483648 ≤ σ 9 0 23 ∧ σ 9 0 23 < 2147483648)) (if (σ 9 0 23) = 0 then fb_Rm_delimited_50  x1 σ else fb_Rm_delimited_73  x1 σ)
theorem e_Rm_delimited_42 {l : Launch} {G : kG} {σf : kS}  {x1 : Int}  {σ : kS} (h : fb_Rm_delimited_42  x1 σ = some (none, σf)) : Rn l G dm_Rm_delimited m_Rm_delimited (kU fun σ' => σ' = σf) 42 [some (.inr (9, 0)), some (.inl x1)] [] σ := by
  unfold fb_Rm_delimited_42 at h
  obtain ⟨h1, h⟩ := kg_some h
  refine s_Rm_delimited_42 h1 (fun c => ?_) (fun c => ?_)
  · rw [if_neg c] at h
    exact e_Rm_delimited_73  h
  · rw [if_pos c] at h
    exact e_Rm_delimited_50  h
def fb_Rm_delimited_29 (k5 : Int → kS → kRes) (x1 : Int) (σ : kS) : kRes := k5 x1 (kup σ 9 0 22 ((σ 9 0 22) + 1))
theorem e_Rm_delimited_29 {l : Launch} {G : kG} {σf : kS} {k5 : Int → kS → kRes} (hk5 : ∀ (x1 : Int)  (σ : kS), k5 x1 σ = some (none, σf) → Rn l G dm_Rm_delimited m_Rm_delimited (kU fun σ' => σ' = σf) 5 [some (.inr (9, 0)), some (.inl x1)] [] σ) {x1 : Int}  {σ : kS} (h : fb_Rm_delimited_29 k5 x1 σ = some (none, σf)) : Rn l G dm_Rm_delimited m_Rm_delimited (kU fun σ' => σ' = σf) 29 [some (.inr (9, 0)), some (.inl x1)] [] σ := by
  unfold fb_Rm_delimited_29 at h
  refine s_Rm_delimited_29  ?_
  exact hk5 _ _ h
def fb_Rm_delimited_24 (k5 : Int → kS → kRes) (x1 : Int) (s0 : Int) (σ : kS) : kRes := kg ((-2147483648 ≤ s0 ∧ s0 < 2147483648)) (if s0 = 47 then fb_Rm_delimited_42  x1 σ else fb_Rm_delimited_29 k5 x1 σ)
theorem e_Rm_delimited_24 {l : Launch} {G : kG} {σf : kS} {k5 : Int → kS → kRes} (hk5 : ∀ (x1 : Int)  (σ : kS), k5 x1 σ = some (none, σf) → Rn l G dm_Rm_delimited m_Rm_delimited (kU fun σ' => σ' = σf) 5 [some (.inr (9, 0)), some (.inl x1)] [] σ) {x1 : Int} {s0 : Int}  {σ : kS} (h : fb_Rm_delimited_24 k5 x1 s0 σ = some (none, σf)) : Rn l G dm_Rm_delimited m_Rm_delimited (kU fun σ' => σ' = σf) 24 [some (.inr (9, 0)), some (.inl x1)] [.inl s0] σ := by
  unfold fb_Rm_delimited_24 at h
  obtain ⟨h1, h⟩ := kg_some h
  refine s_Rm_delimited_24 h1 (fun c => ?_) (fun c => ?_)
  · rw [if_pos c] at h
    exact e_Rm_delimited_42  h
  · rw [if_neg c] at h
    exact e_Rm_delimited_29 hk5 h
def fb_Rm_delimited_16 (k5 : Int → kS → kRes) (x1 : Int) (σ : kS) : kRes := kbi (f_Rm_seen (σ 9 0 22) σ) fun y σ1 => fb_Rm_delimited_24 k5 x1 y σ1
theorem e_Rm_delimited_16 {l : Launch} {G : kG} {σf : kS} {k5 : Int → kS → kRes} (hk5 : ∀ (x1 : Int)  (σ : kS), k5 x1 σ = some (none, σf) → Rn l G dm_Rm_delimited m_Rm_delimited (kU fun σ' => σ' = σf) 5 [some (.inr (9, 0)), some (.inl x1)] [] σ) {x1 : Int}  {σ : kS} (h : fb_Rm_delimited_16 k5 x1 σ = some (none, σf)) : Rn l G dm_Rm_delimited m_Rm_delimited (kU fun σ' => σ' = σf) 16 [some (.inr (9, 0)), some (.inl x1)] [] σ := by
  unfold fb_Rm_delimited_16 at h
  obtain ⟨y, σ1, hc, h⟩ := kbi_some h
  refine s_Rm_delimited_16  (by decide) (E_Rm_seen hc) (fun y2 σ2 e2 => ?_)
  obtain ⟨rfl, rfl⟩ := e2
  exact e_Rm_delimited_24 hk5 h
def fb_Rm_delimited_5 (k5 : Int → kS → kRes) (x1 : Int) (σ : kS) : kRes := kg ((-2147483648 ≤ σ 9 0 22 ∧ σ 9 0 22 < 2147483648) ∧ (-2147483648 ≤ σ 9 0 20 ∧ σ 9 0 20 < 2147483648)) (if (σ 9 0 20) ≤ (σ 9 0 22) then fb_Rm_delimited_42  x1 σ else fb_Rm_delimited_16 k5 x1 σ)
theorem e_Rm_delimited_5 {l : Launch} {G : kG} {σf : kS} {k5 : Int → kS → kRes} (hk5 : ∀ (x1 : Int)  (σ : kS), k5 x1 σ = some (none, σf) → Rn l G dm_Rm_delimited m_Rm_delimited (kU fun σ' => σ' = σf) 5 [some (.inr (9, 0)), some (.inl x1)] [] σ) {x1 : Int}  {σ : kS} (h : fb_Rm_delimited_5 k5 x1 σ = some (none, σf)) : Rn l G dm_Rm_delimited m_Rm_delimited (kU fun σ' => σ' = σf) 5 [some (.inr (9, 0)), some (.inl x1)] [] σ := by
  unfold fb_Rm_delimited_5 at h
  obtain ⟨⟨h1, h2⟩, h⟩ := kg_some h
  refine s_Rm_delimited_5 h1 h2 (fun c => ?_) (fun c => ?_)
  · rw [if_pos c] at h
    exact e_Rm_delimited_42  h
  · rw [if_neg c] at h
    exact e_Rm_delimited_16 hk5 h
def fl_Rm_delimited_5  : Nat → Int → kS → kRes
  | 0, _, _ => none
  | n + 1, x1, σ => fb_Rm_delimited_5 (fl_Rm_delimited_5  n) x1 σ
theorem el_Rm_delimited_5 {l : Launch} {G : kG} {σf : kS}  : ∀ (n : Nat) (x1 : Int)  (σ : kS), fl_Rm_delimited_5  n x1 σ = some (none, σf) → Rn l G dm_Rm_delimited m_Rm_delimited (kU fun σ' => σ' = σf) 5 [some (.inr (9, 0)), some (.inl x1)] [] σ := by
  intro n
  induction n with
  | zero => intro x1 σ h; simp only [fl_Rm_delimited_5] at h; cases h
  | succ n ih => intro x1 σ h; simp only [fl_Rm_delimited_5] at h; exact e_Rm_delimited_5 ih h
def fb_Rm_delimited_0   (σ : kS) : kRes := fl_Rm_delimited_5  3000 (σ 9 0 22) σ
theorem e_Rm_delimited_0 {l : Launch} {G : kG} {σf : kS}   {o1 : Option kV} {σ : kS} (h : fb_Rm_delimited_0   σ = some (none, σf)) : Rn l G dm_Rm_delimited m_Rm_delimited (kU fun σ' => σ' = σf) 0 [some (.inr (9, 0)), o1] [] σ := by
  unfold fb_Rm_delimited_0 at h
  refine s_Rm_delimited_0  ?_
  exact el_Rm_delimited_5  _ _ _ h
def f_Rm_delimited  (σ : kS) : kRes := fb_Rm_delimited_0  σ
theorem E_Rm_delimited {l : Launch} {G : kG} {σf : kS}  {σ : kS} (h : f_Rm_delimited  σ = some (none, σf)) : Call l G dm_Rm_delimited y_Rm_delimited m_Rm_delimited [.inr (9, 0)] σ (kU fun σ' => σ' = σf) := by
  unfold f_Rm_delimited at h
  exact Call.of (by decide +kernel) rfl (Nat.le_of_ble_eq_true rfl) (e_Rm_delimited_0 h)
/-! Rm_digit -/
def fb_Rm_digit_31  (s0 : Int) (σ : kS) : kRes := kg ((s0 = 0 ∨ s0 = 1)) (some (some s0, σ))
theorem e_Rm_digit_31 {l : Launch} {G : kG} {yf : Int} {σf : kS}  {s0 : Int}  {σ : kS} (h : fb_Rm_digit_31  s0 σ = some (some yf, σf)) : Rn l G dm_Rm_digit m_Rm_digit (kI fun y' σ' => y' = yf ∧ σ' = σf) 31 [some (.inr (9, 0))] [.inl s0] σ := by
  unfold fb_Rm_digit_31 at h
  obtain ⟨h1, h⟩ := kg_some h
  simp only [Option.some.injEq, Prod.mk.injEq, true_and] at h
  exact s_Rm_digit_31 h1 ⟨_, rfl, h⟩
def fb_Rm_digit_30   (σ : kS) : kRes := fb_Rm_digit_31  0 σ
theorem e_Rm_digit_30 {l : Launch} {G : kG} {yf : Int} {σf : kS}    {σ : kS} (h : fb_Rm_digit_30   σ = some (some yf, σf)) : Rn l G dm_Rm_digit m_Rm_digit (kI fun y' σ' => y' = yf ∧ σ' = σf) 30 [some (.inr (9, 0))] [] σ := by
  unfold fb_Rm_digit_30 at h
  refine s_Rm_digit_30  ?_
  exact e_Rm_digit_31  h
def fb_Rm_digit_26   (σ : kS) : kRes := fb_Rm_digit_31  1 σ
theorem e_Rm_digit_26 {l : Launch} {G : kG} {yf : Int} {σf : kS}    {σ : kS} (h : fb_Rm_digit_26   σ = some (some yf, σf)) : Rn l G dm_Rm_digit m_Rm_digit (kI fun y' σ' => y' = yf ∧ σ' = σf) 26 [some (.inr (9, 0))] [] σ := by
  unfold fb_Rm_digit_26 at h
  refine s_Rm_digit_26  ?_
  exact e_Rm_digit_31  h
def fb_Rm_digit_21  (s0 : Int) (σ : kS) : kRes := kg ((-2147483648 ≤ s0 ∧ s0 < 2147483648)) (if 57 < s0 then fb_Rm_digit_30  σ else fb_Rm_digit_26  σ)
theorem e_Rm_digit_21 {l : Launch} {G : kG} {yf : Int} {σf : kS}  {s0 : Int}  {σ : kS} (h : fb_Rm_digit_21  s0 σ = some (some yf, σf)) : Rn l G dm_Rm_digit m_Rm_digit (kI fun y' σ' => y' = yf ∧ σ' = σf) 21 [some (.inr (9, 0))] [.inl s0] σ := by
  unfold fb_Rm_digit_21 at h
  obtain ⟨h1, h⟩ := kg_some h
  refine s_Rm_digit_21 h1 (fun c => ?_) (fun c => ?_)
  · rw [if_pos c] at h
    exact e_Rm_digit_30  h
  · rw [if_neg c] at h
    exact e_Rm_digit_26  h
def fb_Rm_digit_13   (σ : kS) : kRes := kbi (f_Rm_seen (σ 9 0 22) σ) fun y σ1 => fb_Rm_digit_21  y σ1
theorem e_Rm_digit_13 {l : Launch} {G : kG} {yf : Int} {σf : kS}    {σ : kS} (h : fb_Rm_digit_13   σ = some (some yf, σf)) : Rn l G dm_Rm_digit m_Rm_digit (kI fun y' σ' => y' = yf ∧ σ' = σf) 13 [some (.inr (9, 0))] [] σ := by
  unfold fb_Rm_digit_13 at h
  obtain ⟨y, σ1, hc, h⟩ := kbi_some h
  refine s_Rm_digit_13  (by decide) (E_Rm_seen hc) (fun y2 σ2 e2 => ?_)
  obtain ⟨rfl, rfl⟩ := e2
  exact e_Rm_digit_21  h
def fb_Rm_digit_8  (s0 : Int) (σ : kS) : kRes := kg ((-2147483648 ≤ s0 ∧ s0 < 2147483648)) (if s0 < 48 then fb_Rm_digit_30  σ else fb_Rm_digit_13  σ)
theorem e_Rm_digit_8 {l : Launch} {G : kG} {yf : Int} {σf : kS}  {s0 : Int}  {σ : kS} (h : fb_Rm_digit_8  s0 σ = some (some yf, σf)) : Rn l G dm_Rm_digit m_Rm_digit (kI fun y' σ' => y' = yf ∧ σ' = σf) 8 [some (.inr (9, 0))] [.inl s0] σ := by
  unfold fb_Rm_digit_8 at h
  obtain ⟨h1, h⟩ := kg_some h
  refine s_Rm_digit_8 h1 (fun c => ?_) (fun c => ?_)
  · rw [if_pos c] at h
    exact e_Rm_digit_30  h
  · rw [if_neg c] at h
    exact e_Rm_digit_13  h
def fb_Rm_digit_0   (σ : kS) : kRes := kbi (f_Rm_seen (σ 9 0 22) σ) fun y σ1 => fb_Rm_digit_8  y σ1
theorem e_Rm_digit_0 {l : Launch} {G : kG} {yf : Int} {σf : kS}    {σ : kS} (h : fb_Rm_digit_0   σ = some (some yf, σf)) : Rn l G dm_Rm_digit m_Rm_digit (kI fun y' σ' => y' = yf ∧ σ' = σf) 0 [some (.inr (9, 0))] [] σ := by
  unfold fb_Rm_digit_0 at h
  obtain ⟨y, σ1, hc, h⟩ := kbi_some h
  refine s_Rm_digit_0  (by decide) (E_Rm_seen hc) (fun y2 σ2 e2 => ?_)
  obtain ⟨rfl, rfl⟩ := e2
  exact e_Rm_digit_8  h
def f_Rm_digit  (σ : kS) : kRes := fb_Rm_digit_0  σ
theorem E_Rm_digit {l : Launch} {G : kG} {yf : Int} {σf : kS}  {σ : kS} (h : f_Rm_digit  σ = some (some yf, σf)) : Call l G dm_Rm_digit y_Rm_digit m_Rm_digit [.inr (9, 0)] σ (kI fun y' σ' => y' = yf ∧ σ' = σf) := by
  unfold f_Rm_digit at h
  exact Call.of (by decide +kernel) rfl (Nat.le_of_ble_eq_true rfl) (e_Rm_digit_0 h)
/-! Rm_number -/
def fb_Rm_number_72  (x1 : Int) (x2 : Int) (σ : kS) : kRes := some (some x1, σ)
theorem e_Rm_number_72 {l : Launch} {G : kG} {yf : Int} {σf : kS}  {x1 : Int} {x2 : Int}  {σ : kS} (h : fb_Rm_number_72  x1 x2 σ = some (some yf, σf)) : Rn l G dm_Rm_number m_Rm_number (kI fun y' σ' => y' = yf ∧ σ' = σf) 72 [some (.inr (9, 0)), some (.inl x1), some (.inl x2)] [] σ := by
  unfold fb_Rm_number_72 at h
  simp only [Option.some.injEq, Prod.mk.injEq, true_and] at h
  exact s_Rm_number_72  ⟨_, rfl, h⟩
def fb_Rm_number_51 (k27 : Int → Int → kS → kRes) (x1 : Int) (x2 : Int) (s0 : Int) (s1 : Int) (σ : kS) : kRes := k27 ((s1 + s0) - 48) (x2 + 1) (kup σ 9 0 22 ((σ 9 0 22) + 1))
theorem e_Rm_number_51 {l : Launch} {G : kG} {yf : Int} {σf : kS} {k27 : Int → Int → kS → kRes} (hk27 : ∀ (x1 : Int) (x2 : Int)  (σ : kS), k27 x1 x2 σ = some (some yf, σf) → Rn l G dm_Rm_number m_Rm_number (kI fun y' σ' => y' = yf ∧ σ' = σf) 27 [some (.inr (9, 0)), some (.inl x1), some (.inl x2)] [] σ) {x1 : Int} {x2 : Int} {s0 : Int} {s1 : Int}  {σ : kS} (h : fb_Rm_number_51 k27 x1 x2 s0 s1 σ = some (some yf, σf)) : Rn l G dm_Rm_number m_Rm_number (kI fun y' σ' => y' = yf ∧ σ' = σf) 51 [some (.inr (9, 0)), some (.inl x1), some (.inl x2)] [.inl s0, .inl s1] σ := by
  unfold fb_Rm_number_51 at h
  refine s_Rm_number_51  ?_
  exact hk27 _ _ _ h
def fb_Rm_number_39 (k27 : Int → Int → kS → kRes) (x1 : Int) (x2 : Int) (σ : kS) : kRes := kbi (f_Rm_seen (σ 9 0 22) σ) fun y σ1 => fb_Rm_number_51 k27 x1 x2 y (10 * x1) σ1
theorem e_Rm_number_39 {l : Launch} {G : kG} {yf : Int} {σf : kS} {k27 : Int → Int → kS → kRes} (hk27 : ∀ (x1 : Int) (x2 : Int)  (σ : kS), k27 x1 x2 σ = some (some yf, σf) → Rn l G dm_Rm_number m_Rm_number (kI fun y' σ' => y' = yf ∧ σ' = σf) 27 [some (.inr (9, 0)), some (.inl x1), some (.inl x2)] [] σ) {x1 : Int} {x2 : Int}  {σ : kS} (h : fb_Rm_number_39 k27 x1 x2 σ = some (some yf, σf)) : Rn l G dm_Rm_number m_Rm_number (kI fun y' σ' => y' = yf ∧ σ' = σf) 39 [some (.inr (9, 0)), some (.inl x1), some (.inl x2)] [] σ := by
  unfold fb_Rm_number_39 at h
  obtain ⟨y, σ1, hc, h⟩ := kbi_some h
  refine s_Rm_number_39  (by decide) (E_Rm_seen hc) (fun y2 σ2 e2 => ?_)
  obtain ⟨rfl, rfl⟩ := e2
  exact e_Rm_number_51 hk27 h
def fb_Rm_number_36 (k27 : Int → Int → kS → kRes) (x1 : Int) (x2 : Int) (s0 : Int) (σ : kS) : kRes := kg ((-2147483648 ≤ s0 ∧ s0 < 2147483648)) (if s0 = 0 then fb_Rm_number_72  x1 x2 σ else fb_Rm_number_39 k27 x1 x2 σ)
theorem e_Rm_number_36 {l : Launch} {G : kG} {yf : Int} {σf : kS} {k27 : Int → Int → kS → kRes} (hk27 : ∀ (x1 : Int) (x2 : Int)  (σ : kS), k27 x1 x2 σ = some (some yf, σf) → Rn l G dm_Rm_number m_Rm_number (kI fun y' σ' => y' = yf ∧ σ' = σf) 27 [some (.inr (9, 0)), some (.inl x1), some (.inl x2)] [] σ) {x1 : Int} {x2 : Int} {s0 : Int}  {σ : kS} (h : fb_Rm_number_36 k27 x1 x2 s0 σ = some (some yf, σf)) : Rn l G dm_Rm_number m_Rm_number (kI fun y' σ' => y' = yf ∧ σ' = σf) 36 [some (.inr (9, 0)), some (.inl x1), some (.inl x2)] [.inl s0] σ := by
  unfold fb_Rm_number_36 at h
  obtain ⟨h1, h⟩ := kg_some h
  refine s_Rm_number_36 h1 (fun c => ?_) (fun c => ?_)
  · rw [if_pos c] at h
    exact e_Rm_number_72  h
  · rw [if_neg c] at h
    exact e_Rm_number_39 hk27 h
def fb_Rm_number_32 (k27 : Int → Int → kS → kRes) (x1 : Int) (x2 : Int) (σ : kS) : kRes := kbi (f_Rm_digit  σ) fun y σ1 => fb_Rm_number_36 k27 x1 x2 y σ1
theorem e_Rm_number_32 {l : Launch} {G : kG} {yf : Int} {σf : kS} {k27 : Int → Int → kS → kRes} (hk27 : ∀ (x1 : Int) (x2 : Int)  (σ : kS), k27 x1 x2 σ = some (some yf, σf) → Rn l G dm_Rm_number m_Rm_number (kI fun y' σ' => y' = yf ∧ σ' = σf) 27 [some (.inr (9, 0)), some (.inl x1), some (.inl x2)] [] σ) {x1 : Int} {x2 : Int}  {σ : kS} (h : fb_Rm_number_32 k27 x1 x2 σ = some (some yf, σf)) : Rn l G dm_Rm_number m_Rm_number (kI fun y' σ' => y' = yf ∧ σ' = σf) 32 [some (.inr (9, 0)), some (.inl x1), some (.inl x2)] [] σ := by
  unfold fb_Rm_number_32 at h
  obtain ⟨y, σ1, hc, h⟩ := kbi_some h
  refine s_Rm_number_32  (by decide) (E_Rm_digit hc) (fun y2 σ2 e2 => ?_)
  obtain ⟨rfl, rfl⟩ := e2
  exact e_Rm_number_36 hk27 h
def fb_Rm_number_27 (k27 : Int → Int → kS → kRes) (x1 : Int) (x2 : Int) (σ : kS) : kRes := kg ((-2147483648 ≤ x2 ∧ x2 < 2147483648)) (if 2 ≤ x2 then fb_Rm_number_72  x1 x2 σ else fb_Rm_number_32 k27 x1 x2 σ)
theorem e_Rm_number_27 {l : Launch} {G : kG} {yf : Int} {σf : kS} {k27 : Int → Int → kS → kRes} (hk27 : ∀ (x1 : Int) (x2 : Int)  (σ : kS), k27 x1 x2 σ = some (some yf, σf) → Rn l G dm_Rm_number m_Rm_number (kI fun y' σ' => y' = yf ∧ σ' = σf) 27 [some (.inr (9, 0)), some (.inl x1), some (.inl x2)] [] σ) {x1 : Int} {x2 : Int}  {σ : kS} (h : fb_Rm_number_27 k27 x1 x2 σ = some (some yf, σf)) : Rn l G dm_Rm_number m_Rm_number (kI fun y' σ' => y' = yf ∧ σ' = σf) 27 [some (.inr (9, 0)), some (.inl x1), some (.inl x2)] [] σ := by
  unfold fb_Rm_number_27 at h
  obtain ⟨h1, h⟩ := kg_some h
  refine s_Rm_number_27 h1 (fun c => ?_) (fun c => ?_)
  · rw [if_pos c] at h
    exact e_Rm_number_72  h
  · rw [if_neg c] at h
    exact e_Rm_number_32 hk27 h
def fl_Rm_number_27  : Nat → Int → Int → kS → kRes
  | 0, _, _, _ => none
  | n + 1, x1, x2, σ => fb_Rm_number_27 (fl_Rm_number_27  n) x1 x2 σ
theorem el_Rm_number_27 {l : Launch} {G : kG} {yf : Int} {σf : kS}  : ∀ (n : Nat) (x1 : Int) (x2 : Int)  (σ : kS), fl_Rm_number_27  n x1 x2 σ = some (some yf, σf) → Rn l G dm_Rm_number m_Rm_number (kI fun y' σ' => y' = yf ∧ σ' = σf) 27 [some (.inr (9, 0)), some (.inl x1), some (.inl x2)] [] σ := by
  intro n
  induction n with
  | zero => intro x1 x2 σ h; simp only [fl_Rm_number_27] at h; cases h
  | succ n ih => intro x1 x2 σ h; simp only [fl_Rm_number_27] at h; exact e_Rm_number_27 ih h
def fb_Rm_number_22  (x1 : Int) (s0 : Int) (σ : kS) : kRes := kg ((s0 = 0 ∨ s0 = 1)) (fl_Rm_number_27  3000 x1 0 (kup σ 9 0 23 s0))
theorem e_Rm_number_22 {l : Launch} {G : kG} {yf : Int} {σf : kS}  {x1 : Int} {s0 : Int} {o2 : Option kV} {σ : kS} (h : fb_Rm_number_22  x1 s0 σ = some (some yf, σf)) : Rn l G dm_Rm_number m_Rm_number (kI fun y' σ' => y' = yf ∧ σ' = σf) 22 [some (.inr (9, 0)), some (.inl x1), o2] [.inl s0, .inr (9, 0)] σ := by
  unfold fb_Rm_number_22 at h
  obtain ⟨h1, h⟩ := kg_some h
  refine s_Rm_number_22 h1 ?_
  exact el_Rm_number_27  _ _ _ _ h
def fb_Rm_number_21  (x1 : Int) (σ : kS) : kRes := fb_Rm_number_22  x1 0 σ
theorem e_Rm_number_21 {l : Launch} {G : kG} {yf : Int} {σf : kS}  {x1 : Int} {o2 : Option kV} {σ : kS} (h : fb_Rm_number_21  x1 σ = some (some yf, σf)) : Rn l G dm_Rm_number m_Rm_number (kI fun y' σ' => y' = yf ∧ σ' = σf) 21 [some (.inr (9, 0)), some (.inl x1), o2] [.inr (9, 0)] σ := by
  unfold fb_Rm_number_21 at h
  refine s_Rm_number_21  ?_
  exact e_Rm_number_22  h
def fb_Rm_number_17  (x1 : Int) (σ : kS) : kRes := fb_Rm_number_22  x1 1 σ
theorem e_Rm_number_17 {l : Launch} {G : kG} {yf : Int} {σf : kS}  {x1 : Int} {o2 : Option kV} {σ : kS} (h : fb_Rm_number_17  x1 σ = some (some yf, σf)) : Rn l G dm_Rm_number m_Rm_number (kI fun y' σ' => y' = yf ∧ σ' = σf) 17 [some (.inr (9, 0)), some (.inl x1), o2] [.inr (9, 0)] σ := by
  unfold fb_Rm_number_17 at h
  refine s_Rm_number_17  ?_
  exact e_Rm_number_22  h
def fb_Rm_number_14  (x1 : Int) (s0 : Int) (σ : kS) : kRes := kg ((-2147483648 ≤ s0 ∧ s0 < 2147483648)) (if s0 = 0 then fb_Rm_number_17  x1 σ else fb_Rm_number_21  x1 σ)
theorem e_Rm_number_14 {l : Launch} {G : kG} {yf : Int} {σf : kS}  {x1 : Int} {s0 : Int} {o2 : Option kV} {σ : kS} (h : fb_Rm_number_14  x1 s0 σ = some (some yf, σf)) : Rn l G dm_Rm_number m_Rm_number (kI fun y' σ' => y' = yf ∧ σ' = σf) 14 [some (.inr (9, 0)), some (.inl x1), o2] [.inl s0, .inr (9, 0)] σ := by
  unfold fb_Rm_number_14 at h
  obtain ⟨h1, h⟩ := kg_some h
  refine s_Rm_number_14 h1 (fun c => ?_) (fun c => ?_)
  · rw [if_neg c] at h
    exact e_Rm_number_21  h
  · rw [if_pos c] at h
    exact e_Rm_number_17  h
def fb_Rm_number_10  (x1 : Int) (σ : kS) : kRes := kbi (f_Rm_digit  σ) fun y σ1 => fb_Rm_number_14  x1 y σ1
theorem e_Rm_number_10 {l : Launch} {G : kG} {yf : Int} {σf : kS}  {x1 : Int} {o2 : Option kV} {σ : kS} (h : fb_Rm_number_10  x1 σ = some (some yf, σf)) : Rn l G dm_Rm_number m_Rm_number (kI fun y' σ' => y' = yf ∧ σ' = σf) 10 [some (.inr (9, 0)), some (.inl x1), o2] [.inr (9, 0)] σ := by
  unfold fb_Rm_number_10 at h
  obtain ⟨y, σ1, hc, h⟩ := kbi_some h
  refine s_Rm_number_10  (by decide) (E_Rm_digit hc) (fun y2 σ2 e2 => ?_)
  obtain ⟨rfl, rfl⟩ := e2
  exact e_Rm_number_14  h
def fb_Rm_number_0   (σ : kS) : kRes := kg ((-2147483648 ≤ σ 9 0 23 ∧ σ 9 0 23 < 2147483648)) (if (σ 9 0 23) = 0 then fb_Rm_number_10  0 σ else fb_Rm_number_17  0 σ)
theorem e_Rm_number_0 {l : Launch} {G : kG} {yf : Int} {σf : kS}   {o1 : Option kV} {o2 : Option kV} {σ : kS} (h : fb_Rm_number_0   σ = some (some yf, σf)) : Rn l G dm_Rm_number m_Rm_number (kI fun y' σ' => y' = yf ∧ σ' = σf) 0 [some (.inr (9, 0)), o1, o2] [] σ := by
  unfold fb_Rm_number_0 at h
  obtain ⟨h1, h⟩ := kg_some h
  refine s_Rm_number_0 h1 (fun c => ?_) (fun c => ?_)
  · rw [if_neg c] at h
    exact e_Rm_number_17  h
  · rw [if_pos c] at h
    exact e_Rm_number_10  h
def f_Rm_number  (σ : kS) : kRes := fb_Rm_number_0  σ
theorem E_Rm_number {l : Launch} {G : kG} {yf : Int} {σf : kS}  {σ : kS} (h : f_Rm_number  σ = some (some yf, σf)) : Call l G dm_Rm_number y_Rm_number m_Rm_number [.inr (9, 0)] σ (kI fun y' σ' => y' = yf ∧ σ' = σf) := by
  unfold f_Rm_number at h
  exact Call.of (by decide +kernel) rfl (Nat.le_of_ble_eq_true rfl) (e_Rm_number_0 h)
/-! Rm_take -/
def fb_Rm_take_36  (x1 : Int) (x2 : Int) (s0 : Int) (σ : kS) : kRes := kg ((x2 = 0 ∨ x2 = 1)) (some (some x2, kup σ 9 0 22 s0))
theorem e_Rm_take_36 {l : Launch} {G : kG} {yf : Int} {σf : kS}  {x1 : Int} {x2 : Int} {s0 : Int}  {σ : kS} (h : fb_Rm_take_36  x1 x2 s0 σ = some (some yf, σf)) : Rn l G dm_Rm_take m_Rm_take (kI fun y' σ' => y' = yf ∧ σ' = σf) 36 [some (.inr (9, 0)), some (.inl x1), some (.inl x2)] [.inl s0, .inr (9, 0)] σ := by
  unfold fb_Rm_take_36 at h
  obtain ⟨h1, h⟩ := kg_some h
  simp only [Option.some.injEq, Prod.mk.injEq, true_and] at h
  exact s_Rm_take_36 h1 ⟨_, rfl, h⟩
def fb_Rm_take_32  (x1 : Int) (x2 : Int) (σ : kS) : kRes := fb_Rm_take_36  x1 x2 (σ 9 0 22) σ
theorem e_Rm_take_32 {l : Launch} {G : kG} {yf : Int} {σf : kS}  {x1 : Int} {x2 : Int}  {σ : kS} (h : fb_Rm_take_32  x1 x2 σ = some (some yf, σf)) : Rn l G dm_Rm_take m_Rm_take (kI fun y' σ' => y' = yf ∧ σ' = σf) 32 [some (.inr (9, 0)), some (.inl x1), some (.inl x2)] [.inr (9, 0)] σ := by
  unfold fb_Rm_take_32 at h
  refine s_Rm_take_32  ?_
  exact e_Rm_take_36  h
def fb_Rm_take_23  (x1 : Int) (x2 : Int) (σ : kS) : kRes := fb_Rm_take_36  x1 x2 ((σ 9 0 22) + 1) σ
theorem e_Rm_take_23 {l : Launch} {G : kG} {yf : Int} {σf : kS}  {x1 : Int} {x2 : Int}  {σ : kS} (h : fb_Rm_take_23  x1 x2 σ = some (some yf, σf)) : Rn l G dm_Rm_take m_Rm_take (kI fun y' σ' => y' = yf ∧ σ' = σf) 23 [some (.inr (9, 0)), some (.inl x1), some (.inl x2)] [.inr (9, 0)] σ := by
  unfold fb_Rm_take_23 at h
  refine s_Rm_take_23  ?_
  exact e_Rm_take_36  h
def fb_Rm_take_17  (x1 : Int) (s0 : Int) (σ : kS) : kRes := kg ((-2147483648 ≤ s0 ∧ s0 < 2147483648)) (if s0 = 0 then fb_Rm_take_32  x1 s0 σ else fb_Rm_take_23  x1 s0 σ)
theorem e_Rm_take_17 {l : Launch} {G : kG} {yf : Int} {σf : kS}  {x1 : Int} {s0 : Int} {o2 : Option kV} {σ : kS} (h : fb_Rm_take_17  x1 s0 σ = some (some yf, σf)) : Rn l G dm_Rm_take m_Rm_take (kI fun y' σ' => y' = yf ∧ σ' = σf) 17 [some (.inr (9, 0)), some (.inl x1), o2] [.inl s0] σ := by
  unfold fb_Rm_take_17 at h
  obtain ⟨h1, h⟩ := kg_some h
  refine s_Rm_take_17 h1 (fun c => ?_) (fun c => ?_)
  · rw [if_pos c] at h
    exact e_Rm_take_32  h
  · rw [if_neg c] at h
    exact e_Rm_take_23  h
def fb_Rm_take_16  (x1 : Int) (σ : kS) : kRes := fb_Rm_take_17  x1 0 σ
theorem e_Rm_take_16 {l : Launch} {G : kG} {yf : Int} {σf : kS}  {x1 : Int} {o2 : Option kV} {σ : kS} (h : fb_Rm_take_16  x1 σ = some (some yf, σf)) : Rn l G dm_Rm_take m_Rm_take (kI fun y' σ' => y' = yf ∧ σ' = σf) 16 [some (.inr (9, 0)), some (.inl x1), o2] [] σ := by
  unfold fb_Rm_take_16 at h
  refine s_Rm_take_16  ?_
  exact e_Rm_take_17  h
def fb_Rm_take_12  (x1 : Int) (σ : kS) : kRes := fb_Rm_take_17  x1 1 σ
theorem e_Rm_take_12 {l : Launch} {G : kG} {yf : Int} {σf : kS}  {x1 : Int} {o2 : Option kV} {σ : kS} (h : fb_Rm_take_12  x1 σ = some (some yf, σf)) : Rn l G dm_Rm_take m_Rm_take (kI fun y' σ' => y' = yf ∧ σ' = σf) 12 [some (.inr (9, 0)), some (.inl x1), o2] [] σ := by
  unfold fb_Rm_take_12 at h
  refine s_Rm_take_12  ?_
  exact e_Rm_take_17  h
def fb_Rm_take_8  (x1 : Int) (s0 : Int) (σ : kS) : kRes := kg ((-2147483648 ≤ s0 ∧ s0 < 2147483648) ∧ (-2147483648 ≤ x1 ∧ x1 < 2147483648)) (if s0 = x1 then fb_Rm_take_12  x1 σ else fb_Rm_take_16  x1 σ)
theorem e_Rm_take_8 {l : Launch} {G : kG} {yf : Int} {σf : kS}  {x1 : Int} {s0 : Int} {o2 : Option kV} {σ : kS} (h : fb_Rm_take_8  x1 s0 σ = some (some yf, σf)) : Rn l G dm_Rm_take m_Rm_take (kI fun y' σ' => y' = yf ∧ σ' = σf) 8 [some (.inr (9, 0)), some (.inl x1), o2] [.inl s0] σ := by
  unfold fb_Rm_take_8 at h
  obtain ⟨⟨h1, h2⟩, h⟩ := kg_some h
  refine s_Rm_take_8 h1 h2 (fun c => ?_) (fun c => ?_)
  · rw [if_neg c] at h
    exact e_Rm_take_16  h
  · rw [if_pos c] at h
    exact e_Rm_take_12  h
def fb_Rm_take_0  (x1 : Int) (σ : kS) : kRes := kbi (f_Rm_seen (σ 9 0 22) σ) fun y σ1 => fb_Rm_take_8  x1 y σ1
theorem e_Rm_take_0 {l : Launch} {G : kG} {yf : Int} {σf : kS}  {x1 : Int} {o2 : Option kV} {σ : kS} (h : fb_Rm_take_0  x1 σ = some (some yf, σf)) : Rn l G dm_Rm_take m_Rm_take (kI fun y' σ' => y' = yf ∧ σ' = σf) 0 [some (.inr (9, 0)), some (.inl x1), o2] [] σ := by
  unfold fb_Rm_take_0 at h
  obtain ⟨y, σ1, hc, h⟩ := kbi_some h
  refine s_Rm_take_0  (by decide) (E_Rm_seen hc) (fun y2 σ2 e2 => ?_)
  obtain ⟨rfl, rfl⟩ := e2
  exact e_Rm_take_8  h
def f_Rm_take (x1 : Int) (σ : kS) : kRes := fb_Rm_take_0 x1 σ
theorem E_Rm_take {l : Launch} {G : kG} {yf : Int} {σf : kS} {x1 : Int} {σ : kS} (h : f_Rm_take x1 σ = some (some yf, σf)) : Call l G dm_Rm_take y_Rm_take m_Rm_take [.inr (9, 0), .inl x1] σ (kI fun y' σ' => y' = yf ∧ σ' = σf) := by
  unfold f_Rm_take at h
  exact Call.of (by decide +kernel) rfl (Nat.le_of_ble_eq_true rfl) (e_Rm_take_0 h)
/-! Rm_address -/
def fb_Rm_address_90  (x1 : Int) (x2 : Int) (σ : kS) : kRes := some (some x2, σ)
theorem e_Rm_address_90 {l : Launch} {G : kG} {yf : Int} {σf : kS}  {x1 : Int} {x2 : Int}  {σ : kS} (h : fb_Rm_address_90  x1 x2 σ = some (some yf, σf)) : Rn l G dm_Rm_address m_Rm_address (kI fun y' σ' => y' = yf ∧ σ' = σf) 90 [some (.inr (9, 0)), some (.inl x1), some (.inl x2)] [] σ := by
  unfold fb_Rm_address_90 at h
  simp only [Option.some.injEq, Prod.mk.injEq, true_and] at h
  exact s_Rm_address_90  ⟨_, rfl, h⟩
def fb_Rm_address_85  (x1 : Int) (x2 : Int) (σ : kS) : kRes := fb_Rm_address_90  x1 x2 (kup σ 9 0 23 1)
theorem e_Rm_address_85 {l : Launch} {G : kG} {yf : Int} {σf : kS}  {x1 : Int} {x2 : Int}  {σ : kS} (h : fb_Rm_address_85  x1 x2 σ = some (some yf, σf)) : Rn l G dm_Rm_address m_Rm_address (kI fun y' σ' => y' = yf ∧ σ' = σf) 85 [some (.inr (9, 0)), some (.inl x1), some (.inl x2)] [] σ := by
  unfold fb_Rm_address_85 at h
  refine s_Rm_address_85  ?_
  exact e_Rm_address_90  h
def fb_Rm_address_81  (x1 : Int) (x2 : Int) (s0 : Int) (σ : kS) : kRes := fb_Rm_address_90  x1 s0 σ
theorem e_Rm_address_81 {l : Launch} {G : kG} {yf : Int} {σf : kS}  {x1 : Int} {x2 : Int} {s0 : Int}  {σ : kS} (h : fb_Rm_address_81  x1 x2 s0 σ = some (some yf, σf)) : Rn l G dm_Rm_address m_Rm_address (kI fun y' σ' => y' = yf ∧ σ' = σf) 81 [some (.inr (9, 0)), some (.inl x1), some (.inl x2)] [.inl s0] σ := by
  unfold fb_Rm_address_81 at h
  refine s_Rm_address_81  ?_
  exact e_Rm_address_90  h
def fb_Rm_address_76  (x1 : Int) (x2 : Int) (σ : kS) : kRes := kbi (f_Rm_below x1 σ) fun y σ1 => fb_Rm_address_81  x1 x2 y σ1
theorem e_Rm_address_76 {l : Launch} {G : kG} {yf : Int} {σf : kS}  {x1 : Int} {x2 : Int}  {σ : kS} (h : fb_Rm_address_76  x1 x2 σ = some (some yf, σf)) : Rn l G dm_Rm_address m_Rm_address (kI fun y' σ' => y' = yf ∧ σ' = σf) 76 [some (.inr (9, 0)), some (.inl x1), some (.inl x2)] [] σ := by
  unfold fb_Rm_address_76 at h
  obtain ⟨y, σ1, hc, h⟩ := kbi_some h
  refine s_Rm_address_76  (by decide) (E_Rm_below hc) (fun y2 σ2 e2 => ?_)
  obtain ⟨rfl, rfl⟩ := e2
  exact e_Rm_address_81  h
def fb_Rm_address_72  (x1 : Int) (x2 : Int) (σ : kS) : kRes := fb_Rm_address_81  x1 x2 0 σ
theorem e_Rm_address_72 {l : Launch} {G : kG} {yf : Int} {σf : kS}  {x1 : Int} {x2 : Int}  {σ : kS} (h : fb_Rm_address_72  x1 x2 σ = some (some yf, σf)) : Rn l G dm_Rm_address m_Rm_address (kI fun y' σ' => y' = yf ∧ σ' = σf) 72 [some (.inr (9, 0)), some (.inl x1), some (.inl x2)] [] σ := by
  unfold fb_Rm_address_72 at h
  refine s_Rm_address_72  ?_
  exact e_Rm_address_81  h
def fb_Rm_address_65  (x1 : Int) (x2 : Int) (σ : kS) : kRes := kg ((-2147483648 ≤ σ 9 0 23 ∧ σ 9 0 23 < 2147483648)) (if (σ 9 0 23) = 0 then fb_Rm_address_76  x1 x2 σ else fb_Rm_address_72  x1 x2 σ)
theorem e_Rm_address_65 {l : Launch} {G : kG} {yf : Int} {σf : kS}  {x1 : Int} {x2 : Int}  {σ : kS} (h : fb_Rm_address_65  x1 x2 σ = some (some yf, σf)) : Rn l G dm_Rm_address m_Rm_address (kI fun y' σ' => y' = yf ∧ σ' = σf) 65 [some (.inr (9, 0)), some (.inl x1), some (.inl x2)] [] σ := by
  unfold fb_Rm_address_65 at h
  obtain ⟨h1, h⟩ := kg_some h
  refine s_Rm_address_65 h1 (fun c => ?_) (fun c => ?_)
  · rw [if_pos c] at h
    exact e_Rm_address_76  h
  · rw [if_neg c] at h
    exact e_Rm_address_72  h
def fb_Rm_address_61  (x1 : Int) (x2 : Int) (σ : kS) : kRes := kbu (f_Rm_delimited  σ) fun σ1 => fb_Rm_address_65  x1 x2 σ1
theorem e_Rm_address_61 {l : Launch} {G : kG} {yf : Int} {σf : kS}  {x1 : Int} {x2 : Int}  {σ : kS} (h : fb_Rm_address_61  x1 x2 σ = some (some yf, σf)) : Rn l G dm_Rm_address m_Rm_address (kI fun y' σ' => y' = yf ∧ σ' = σf) 61 [some (.inr (9, 0)), some (.inl x1), some (.inl x2)] [] σ := by
  unfold fb_Rm_address_61 at h
  obtain ⟨σ1, hc, h⟩ := kbu_some h
  refine s_Rm_address_61  (by decide) (E_Rm_delimited hc) (fun σ2 e2 => ?_)
  subst e2
  exact e_Rm_address_65  h
def fb_Rm_address_58  (x1 : Int) (x2 : Int) (s0 : Int) (σ : kS) : kRes := kg ((-2147483648 ≤ s0 ∧ s0 < 2147483648)) (if s0 = 0 then fb_Rm_address_85  x1 x2 σ else fb_Rm_address_61  x1 x2 σ)
theorem e_Rm_address_58 {l : Launch} {G : kG} {yf : Int} {σf : kS}  {x1 : Int} {x2 : Int} {s0 : Int}  {σ : kS} (h : fb_Rm_address_58  x1 x2 s0 σ = some (some yf, σf)) : Rn l G dm_Rm_address m_Rm_address (kI fun y' σ' => y' = yf ∧ σ' = σf) 58 [some (.inr (9, 0)), some (.inl x1), some (.inl x2)] [.inl s0] σ := by
  unfold fb_Rm_address_58 at h
  obtain ⟨h1, h⟩ := kg_some h
  refine s_Rm_address_58 h1 (fun c => ?_) (fun c => ?_)
  · rw [if_pos c] at h
    exact e_Rm_address_85  h
  · rw [if_neg c] at h
    exact e_Rm_address_61  h
def fb_Rm_address_52  (x1 : Int) (x2 : Int) (σ : kS) : kRes := kbi (f_Rm_take 47 σ) fun y σ1 => fb_Rm_address_58  x1 x2 y σ1
theorem e_Rm_address_52 {l : Launch} {G : kG} {yf : Int} {σf : kS}  {x1 : Int} {x2 : Int}  {σ : kS} (h : fb_Rm_address_52  x1 x2 σ = some (some yf, σf)) : Rn l G dm_Rm_address m_Rm_address (kI fun y' σ' => y' = yf ∧ σ' = σf) 52 [some (.inr (9, 0)), some (.inl x1), some (.inl x2)] [] σ := by
  unfold fb_Rm_address_52 at h
  obtain ⟨y, σ1, hc, h⟩ := kbi_some h
  refine s_Rm_address_52  (by decide) (E_Rm_take hc) (fun y2 σ2 e2 => ?_)
  obtain ⟨rfl, rfl⟩ := e2
  exact e_Rm_address_58  h
def fb_Rm_address_42  (x1 : Int) (x2 : Int) (σ : kS) : kRes := fb_Rm_address_90  x1 (σ 22 0 0) σ
theorem e_Rm_address_42 {l : Launch} {G : kG} {yf : Int} {σf : kS}  {x1 : Int} {x2 : Int}  {σ : kS} (h : fb_Rm_address_42  x1 x2 σ = some (some yf, σf)) : Rn l G dm_Rm_address m_Rm_address (kI fun y' σ' => y' = yf ∧ σ' = σf) 42 [some (.inr (9, 0)), some (.inl x1), some (.inl x2)] [] σ := by
  unfold fb_Rm_address_42 at h
  refine s_Rm_address_42  ?_
  exact e_Rm_address_90  h
def fb_Rm_address_39  (x1 : Int) (x2 : Int) (s0 : Int) (σ : kS) : kRes := kg ((-2147483648 ≤ s0 ∧ s0 < 2147483648)) (if s0 = 0 then fb_Rm_address_52  x1 x2 σ else fb_Rm_address_42  x1 x2 σ)
theorem e_Rm_address_39 {l : Launch} {G : kG} {yf : Int} {σf : kS}  {x1 : Int} {x2 : Int} {s0 : Int}  {σ : kS} (h : fb_Rm_address_39  x1 x2 s0 σ = some (some yf, σf)) : Rn l G dm_Rm_address m_Rm_address (kI fun y' σ' => y' = yf ∧ σ' = σf) 39 [some (.inr (9, 0)), some (.inl x1), some (.inl x2)] [.inl s0] σ := by
  unfold fb_Rm_address_39 at h
  obtain ⟨h1, h⟩ := kg_some h
  refine s_Rm_address_39 h1 (fun c => ?_) (fun c => ?_)
  · rw [if_pos c] at h
    exact e_Rm_address_52  h
  · rw [if_neg c] at h
    exact e_Rm_address_42  h
def fb_Rm_address_33  (x1 : Int) (x2 : Int) (σ : kS) : kRes := kbi (f_Rm_take 36 σ) fun y σ1 => fb_Rm_address_39  x1 x2 y σ1
theorem e_Rm_address_33 {l : Launch} {G : kG} {yf : Int} {σf : kS}  {x1 : Int} {x2 : Int}  {σ : kS} (h : fb_Rm_address_33  x1 x2 σ = some (some yf, σf)) : Rn l G dm_Rm_address m_Rm_address (kI fun y' σ' => y' = yf ∧ σ' = σf) 33 [some (.inr (9, 0)), some (.inl x1), some (.inl x2)] [] σ := by
  unfold fb_Rm_address_33 at h
  obtain ⟨y, σ1, hc, h⟩ := kbi_some h
  refine s_Rm_address_33  (by decide) (E_Rm_take hc) (fun y2 σ2 e2 => ?_)
  obtain ⟨rfl, rfl⟩ := e2
  exact e_Rm_address_39  h
def fb_Rm_address_26  (x1 : Int) (x2 : Int) (σ : kS) : kRes := fb_Rm_address_90  x1 (x1 + 1) σ
theorem e_Rm_address_26 {l : Launch} {G : kG} {yf : Int} {σf : kS}  {x1 : Int} {x2 : Int}  {σ : kS} (h : fb_Rm_address_26  x1 x2 σ = some (some yf, σf)) : Rn l G dm_Rm_address m_Rm_address (kI fun y' σ' => y' = yf ∧ σ' = σf) 26 [some (.inr (9, 0)), some (.inl x1), some (.inl x2)] [] σ := by
  unfold fb_Rm_address_26 at h
  refine s_Rm_address_26  ?_
  exact e_Rm_address_90  h
def fb_Rm_address_23  (x1 : Int) (x2 : Int) (s0 : Int) (σ : kS) : kRes := kg ((-2147483648 ≤ s0 ∧ s0 < 2147483648)) (if s0 = 0 then fb_Rm_address_33  x1 x2 σ else fb_Rm_address_26  x1 x2 σ)
theorem e_Rm_address_23 {l : Launch} {G : kG} {yf : Int} {σf : kS}  {x1 : Int} {x2 : Int} {s0 : Int}  {σ : kS} (h : fb_Rm_address_23  x1 x2 s0 σ = some (some yf, σf)) : Rn l G dm_Rm_address m_Rm_address (kI fun y' σ' => y' = yf ∧ σ' = σf) 23 [some (.inr (9, 0)), some (.inl x1), some (.inl x2)] [.inl s0] σ := by
  unfold fb_Rm_address_23 at h
  obtain ⟨h1, h⟩ := kg_some h
  refine s_Rm_address_23 h1 (fun c => ?_) (fun c => ?_)
  · rw [if_pos c] at h
    exact e_Rm_address_33  h
  · rw [if_neg c] at h
    exact e_Rm_address_26  h
def fb_Rm_address_17  (x1 : Int) (x2 : Int) (σ : kS) : kRes := kbi (f_Rm_take 46 σ) fun y σ1 => fb_Rm_address_23  x1 x2 y σ1
theorem e_Rm_address_17 {l : Launch} {G : kG} {yf : Int} {σf : kS}  {x1 : Int} {x2 : Int}  {σ : kS} (h : fb_Rm_address_17  x1 x2 σ = some (some yf, σf)) : Rn l G dm_Rm_address m_Rm_address (kI fun y' σ' => y' = yf ∧ σ' = σf) 17 [some (.inr (9, 0)), some (.inl x1), some (.inl x2)] [] σ := by
  unfold fb_Rm_address_17 at h
  obtain ⟨y, σ1, hc, h⟩ := kbi_some h
  refine s_Rm_address_17  (by decide) (E_Rm_take hc) (fun y2 σ2 e2 => ?_)
  obtain ⟨rfl, rfl⟩ := e2
  exact e_Rm_address_23  h
def fb_Rm_address_13  (x1 : Int) (x2 : Int) (s0 : Int) (σ : kS) : kRes := fb_Rm_address_90  x1 s0 σ
theorem e_Rm_address_13 {l : Launch} {G : kG} {yf : Int} {σf : kS}  {x1 : Int} {x2 : Int} {s0 : Int}  {σ : kS} (h : fb_Rm_address_13  x1 x2 s0 σ = some (some yf, σf)) : Rn l G dm_Rm_address m_Rm_address (kI fun y' σ' => y' = yf ∧ σ' = σf) 13 [some (.inr (9, 0)), some (.inl x1), some (.inl x2)] [.inl s0] σ := by
  unfold fb_Rm_address_13 at h
  refine s_Rm_address_13  ?_
  exact e_Rm_address_90  h
def fb_Rm_address_9  (x1 : Int) (x2 : Int) (σ : kS) : kRes := kbi (f_Rm_number  σ) fun y σ1 => fb_Rm_address_13  x1 x2 y σ1
theorem e_Rm_address_9 {l : Launch} {G : kG} {yf : Int} {σf : kS}  {x1 : Int} {x2 : Int}  {σ : kS} (h : fb_Rm_address_9  x1 x2 σ = some (some yf, σf)) : Rn l G dm_Rm_address m_Rm_address (kI fun y' σ' => y' = yf ∧ σ' = σf) 9 [some (.inr (9, 0)), some (.inl x1), some (.inl x2)] [] σ := by
  unfold fb_Rm_address_9 at h
  obtain ⟨y, σ1, hc, h⟩ := kbi_some h
  refine s_Rm_address_9  (by decide) (E_Rm_number hc) (fun y2 σ2 e2 => ?_)
  obtain ⟨rfl, rfl⟩ := e2
  exact e_Rm_address_13  h
def fb_Rm_address_6  (x1 : Int) (x2 : Int) (s0 : Int) (σ : kS) : kRes := kg ((-2147483648 ≤ s0 ∧ s0 < 2147483648)) (if s0 = 0 then fb_Rm_address_17  x1 x2 σ else fb_Rm_address_9  x1 x2 σ)
theorem e_Rm_address_6 {l : Launch} {G : kG} {yf : Int} {σf : kS}  {x1 : Int} {x2 : Int} {s0 : Int}  {σ : kS} (h : fb_Rm_address_6  x1 x2 s0 σ = some (some yf, σf)) : Rn l G dm_Rm_address m_Rm_address (kI fun y' σ' => y' = yf ∧ σ' = σf) 6 [some (.inr (9, 0)), some (.inl x1), some (.inl x2)] [.inl s0] σ := by
  unfold fb_Rm_address_6 at h
  obtain ⟨h1, h⟩ := kg_some h
  refine s_Rm_address_6 h1 (fun c => ?_) (fun c => ?_)
  · rw [if_pos c] at h
    exact e_Rm_address_17  h
  · rw [if_neg c] at h
    exact e_Rm_address_9  h
def fb_Rm_address_0  (x1 : Int) (σ : kS) : kRes := kbi (f_Rm_digit  σ) fun y σ1 => fb_Rm_address_6  x1 0 y σ1
theorem e_Rm_address_0 {l : Launch} {G : kG} {yf : Int} {σf : kS}  {x1 : Int} {o2 : Option kV} {σ : kS} (h : fb_Rm_address_0  x1 σ = some (some yf, σf)) : Rn l G dm_Rm_address m_Rm_address (kI fun y' σ' => y' = yf ∧ σ' = σf) 0 [some (.inr (9, 0)), some (.inl x1), o2] [] σ := by
  unfold fb_Rm_address_0 at h
  obtain ⟨y, σ1, hc, h⟩ := kbi_some h
  refine s_Rm_address_0  (by decide) (E_Rm_digit hc) (fun y2 σ2 e2 => ?_)
  obtain ⟨rfl, rfl⟩ := e2
  exact e_Rm_address_6  h
def f_Rm_address (x1 : Int) (σ : kS) : kRes := fb_Rm_address_0 x1 σ
theorem E_Rm_address {l : Launch} {G : kG} {yf : Int} {σf : kS} {x1 : Int} {σ : kS} (h : f_Rm_address x1 σ = some (some yf, σf)) : Call l G dm_Rm_address y_Rm_address m_Rm_address [.inr (9, 0), .inl x1] σ (kI fun y' σ' => y' = yf ∧ σ' = σf) := by
  unfold f_Rm_address at h
  exact Call.of (by decide +kernel) rfl (Nat.le_of_ble_eq_true rfl) (e_Rm_address_0 h)
