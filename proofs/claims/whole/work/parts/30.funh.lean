/-! Rm_addressed -/
def fb_Rm_addressed_39  (x1 : Int) (s0 : Int) (σ : kS) : kRes := kg ((s0 = 0 ∨ s0 = 1)) (some (some s0, σ))
theorem e_Rm_addressed_39 {l : Launch} {G : kG} {yf : Int} {σf : kS}  {x1 : Int} {s0 : Int}  {σ : kS} (h : fb_Rm_addressed_39  x1 s0 σ = some (some yf, σf)) : Rn l G dm_Rm_addressed m_Rm_addressed (kI fun y' σ' => y' = yf ∧ σ' = σf) 39 [some (.inr (9, 0)), some (.inl x1)] [.inl s0] σ := by
  unfold fb_Rm_addressed_39 at h
  obtain ⟨h1, h⟩ := kg_some h
  simp only [Option.some.injEq, Prod.mk.injEq, true_and] at h
  exact s_Rm_addressed_39 h1 ⟨_, rfl, h⟩
def fb_Rm_addressed_38  (x1 : Int) (σ : kS) : kRes := fb_Rm_addressed_39  x1 0 σ
theorem e_Rm_addressed_38 {l : Launch} {G : kG} {yf : Int} {σf : kS}  {x1 : Int}  {σ : kS} (h : fb_Rm_addressed_38  x1 σ = some (some yf, σf)) : Rn l G dm_Rm_addressed m_Rm_addressed (kI fun y' σ' => y' = yf ∧ σ' = σf) 38 [some (.inr (9, 0)), some (.inl x1)] [] σ := by
  unfold fb_Rm_addressed_38 at h
  refine s_Rm_addressed_38  ?_
  exact e_Rm_addressed_39  h
def fb_Rm_addressed_34  (x1 : Int) (σ : kS) : kRes := fb_Rm_addressed_39  x1 1 σ
theorem e_Rm_addressed_34 {l : Launch} {G : kG} {yf : Int} {σf : kS}  {x1 : Int}  {σ : kS} (h : fb_Rm_addressed_34  x1 σ = some (some yf, σf)) : Rn l G dm_Rm_addressed m_Rm_addressed (kI fun y' σ' => y' = yf ∧ σ' = σf) 34 [some (.inr (9, 0)), some (.inl x1)] [] σ := by
  unfold fb_Rm_addressed_34 at h
  refine s_Rm_addressed_34  ?_
  exact e_Rm_addressed_39  h
def fb_Rm_addressed_28  (x1 : Int) (σ : kS) : kRes := kg ((-2147483648 ≤ x1 ∧ x1 < 2147483648)) (if x1 = 47 then fb_Rm_addressed_34  x1 σ else fb_Rm_addressed_38  x1 σ)
theorem e_Rm_addressed_28 {l : Launch} {G : kG} {yf : Int} {σf : kS}  {x1 : Int}  {σ : kS} (h : fb_Rm_addressed_28  x1 σ = some (some yf, σf)) : Rn l G dm_Rm_addressed m_Rm_addressed (kI fun y' σ' => y' = yf ∧ σ' = σf) 28 [some (.inr (9, 0)), some (.inl x1)] [] σ := by
  unfold fb_Rm_addressed_28 at h
  obtain ⟨h1, h⟩ := kg_some h
  refine s_Rm_addressed_28 h1 (fun c => ?_) (fun c => ?_)
  · rw [if_neg c] at h
    exact e_Rm_addressed_38  h
  · rw [if_pos c] at h
    exact e_Rm_addressed_34  h
def fb_Rm_addressed_22  (x1 : Int) (σ : kS) : kRes := kg ((-2147483648 ≤ x1 ∧ x1 < 2147483648)) (if x1 = 36 then fb_Rm_addressed_34  x1 σ else fb_Rm_addressed_28  x1 σ)
theorem e_Rm_addressed_22 {l : Launch} {G : kG} {yf : Int} {σf : kS}  {x1 : Int}  {σ : kS} (h : fb_Rm_addressed_22  x1 σ = some (some yf, σf)) : Rn l G dm_Rm_addressed m_Rm_addressed (kI fun y' σ' => y' = yf ∧ σ' = σf) 22 [some (.inr (9, 0)), some (.inl x1)] [] σ := by
  unfold fb_Rm_addressed_22 at h
  obtain ⟨h1, h⟩ := kg_some h
  refine s_Rm_addressed_22 h1 (fun c => ?_) (fun c => ?_)
  · rw [if_pos c] at h
    exact e_Rm_addressed_34  h
  · rw [if_neg c] at h
    exact e_Rm_addressed_28  h
def fb_Rm_addressed_16  (x1 : Int) (σ : kS) : kRes := kg ((-2147483648 ≤ x1 ∧ x1 < 2147483648)) (if x1 = 46 then fb_Rm_addressed_34  x1 σ else fb_Rm_addressed_22  x1 σ)
theorem e_Rm_addressed_16 {l : Launch} {G : kG} {yf : Int} {σf : kS}  {x1 : Int}  {σ : kS} (h : fb_Rm_addressed_16  x1 σ = some (some yf, σf)) : Rn l G dm_Rm_addressed m_Rm_addressed (kI fun y' σ' => y' = yf ∧ σ' = σf) 16 [some (.inr (9, 0)), some (.inl x1)] [] σ := by
  unfold fb_Rm_addressed_16 at h
  obtain ⟨h1, h⟩ := kg_some h
  refine s_Rm_addressed_16 h1 (fun c => ?_) (fun c => ?_)
  · rw [if_pos c] at h
    exact e_Rm_addressed_34  h
  · rw [if_neg c] at h
    exact e_Rm_addressed_22  h
def fb_Rm_addressed_13  (x1 : Int) (s0 : Int) (σ : kS) : kRes := kg ((-2147483648 ≤ s0 ∧ s0 < 2147483648)) (if s0 = 0 then fb_Rm_addressed_16  x1 σ else fb_Rm_addressed_34  x1 σ)
theorem e_Rm_addressed_13 {l : Launch} {G : kG} {yf : Int} {σf : kS}  {x1 : Int} {s0 : Int}  {σ : kS} (h : fb_Rm_addressed_13  x1 s0 σ = some (some yf, σf)) : Rn l G dm_Rm_addressed m_Rm_addressed (kI fun y' σ' => y' = yf ∧ σ' = σf) 13 [some (.inr (9, 0)), some (.inl x1)] [.inl s0] σ := by
  unfold fb_Rm_addressed_13 at h
  obtain ⟨h1, h⟩ := kg_some h
  refine s_Rm_addressed_13 h1 (fun c => ?_) (fun c => ?_)
  · rw [if_neg c] at h
    exact e_Rm_addressed_34  h
  · rw [if_pos c] at h
    exact e_Rm_addressed_16  h
def fb_Rm_addressed_8  (s0 : Int) (σ : kS) : kRes := kbi (f_Rm_digit  σ) fun y σ1 => fb_Rm_addressed_13  s0 y σ1
theorem e_Rm_addressed_8 {l : Launch} {G : kG} {yf : Int} {σf : kS}  {s0 : Int} {o1 : Option kV} {σ : kS} (h : fb_Rm_addressed_8  s0 σ = some (some yf, σf)) : Rn l G dm_Rm_addressed m_Rm_addressed (kI fun y' σ' => y' = yf ∧ σ' = σf) 8 [some (.inr (9, 0)), o1] [.inl s0] σ := by
  unfold fb_Rm_addressed_8 at h
  obtain ⟨y, σ1, hc, h⟩ := kbi_some h
  refine s_Rm_addressed_8  (by decide) (E_Rm_digit hc) (fun y2 σ2 e2 => ?_)
  obtain ⟨rfl, rfl⟩ := e2
  exact e_Rm_addressed_13  h
def fb_Rm_addressed_0   (σ : kS) : kRes := kbi (f_Rm_seen (σ 9 0 22) σ) fun y σ1 => fb_Rm_addressed_8  y σ1
theorem e_Rm_addressed_0 {l : Launch} {G : kG} {yf : Int} {σf : kS}   {o1 : Option kV} {σ : kS} (h : fb_Rm_addressed_0   σ = some (some yf, σf)) : Rn l G dm_Rm_addressed m_Rm_addressed (kI fun y' σ' => y' = yf ∧ σ' = σf) 0 [some (.inr (9, 0)), o1] [] σ := by
  unfold fb_Rm_addressed_0 at h
  obtain ⟨y, σ1, hc, h⟩ := kbi_some h
  refine s_Rm_addressed_0  (by decide) (E_Rm_seen hc) (fun y2 σ2 e2 => ?_)
  obtain ⟨rfl, rfl⟩ := e2
  exact e_Rm_addressed_8  h
def f_Rm_addressed  (σ : kS) : kRes := fb_Rm_addressed_0  σ
theorem E_Rm_addressed {l : Launch} {G : kG} {yf : Int} {σf : kS}  {σ : kS} (h : f_Rm_addressed  σ = some (some yf, σf)) : Call l G dm_Rm_addressed y_Rm_addressed m_Rm_addressed [.inr (9, 0)] σ (kI fun y' σ' => y' = yf ∧ σ' = σf) := by
  unfold f_Rm_addressed at h
  exact Call.of (by decide +kernel) rfl (Nat.le_of_ble_eq_true rfl) (e_Rm_addressed_0 h)
/-! Rm_ended -/
def fb_Rm_ended_23  (s0 : Int) (σ : kS) : kRes := kg ((s0 = 0 ∨ s0 = 1)) (some (some s0, σ))
theorem e_Rm_ended_23 {l : Launch} {G : kG} {yf : Int} {σf : kS}  {s0 : Int}  {σ : kS} (h : fb_Rm_ended_23  s0 σ = some (some yf, σf)) : Rn l G dm_Rm_ended m_Rm_ended (kI fun y' σ' => y' = yf ∧ σ' = σf) 23 [some (.inr (9, 0))] [.inl s0] σ := by
  unfold fb_Rm_ended_23 at h
  obtain ⟨h1, h⟩ := kg_some h
  simp only [Option.some.injEq, Prod.mk.injEq, true_and] at h
  exact s_Rm_ended_23 h1 ⟨_, rfl, h⟩
def fb_Rm_ended_22   (σ : kS) : kRes := fb_Rm_ended_23  0 σ
theorem e_Rm_ended_22 {l : Launch} {G : kG} {yf : Int} {σf : kS}    {σ : kS} (h : fb_Rm_ended_22   σ = some (some yf, σf)) : Rn l G dm_Rm_ended m_Rm_ended (kI fun y' σ' => y' = yf ∧ σ' = σf) 22 [some (.inr (9, 0))] [] σ := by
  unfold fb_Rm_ended_22 at h
  refine s_Rm_ended_22  ?_
  exact e_Rm_ended_23  h
def fb_Rm_ended_18   (σ : kS) : kRes := fb_Rm_ended_23  1 σ
theorem e_Rm_ended_18 {l : Launch} {G : kG} {yf : Int} {σf : kS}    {σ : kS} (h : fb_Rm_ended_18   σ = some (some yf, σf)) : Rn l G dm_Rm_ended m_Rm_ended (kI fun y' σ' => y' = yf ∧ σ' = σf) 18 [some (.inr (9, 0))] [] σ := by
  unfold fb_Rm_ended_18 at h
  refine s_Rm_ended_18  ?_
  exact e_Rm_ended_23  h
def fb_Rm_ended_7   (σ : kS) : kRes := kg ((-2147483648 ≤ σ 9 0 22 ∧ σ 9 0 22 < 2147483648) ∧ (-2147483648 ≤ σ 9 0 20 ∧ σ 9 0 20 < 2147483648)) (if (σ 9 0 22) = (σ 9 0 20) then fb_Rm_ended_18  σ else fb_Rm_ended_22  σ)
theorem e_Rm_ended_7 {l : Launch} {G : kG} {yf : Int} {σf : kS}    {σ : kS} (h : fb_Rm_ended_7   σ = some (some yf, σf)) : Rn l G dm_Rm_ended m_Rm_ended (kI fun y' σ' => y' = yf ∧ σ' = σf) 7 [some (.inr (9, 0))] [] σ := by
  unfold fb_Rm_ended_7 at h
  obtain ⟨⟨h1, h2⟩, h⟩ := kg_some h
  refine s_Rm_ended_7 h1 h2 (fun c => ?_) (fun c => ?_)
  · rw [if_neg c] at h
    exact e_Rm_ended_22  h
  · rw [if_pos c] at h
    exact e_Rm_ended_18  h
def fb_Rm_ended_0   (σ : kS) : kRes := kg ((-2147483648 ≤ σ 9 0 23 ∧ σ 9 0 23 < 2147483648)) (if (σ 9 0 23) = 0 then fb_Rm_ended_7  σ else fb_Rm_ended_22  σ)
theorem e_Rm_ended_0 {l : Launch} {G : kG} {yf : Int} {σf : kS}    {σ : kS} (h : fb_Rm_ended_0   σ = some (some yf, σf)) : Rn l G dm_Rm_ended m_Rm_ended (kI fun y' σ' => y' = yf ∧ σ' = σf) 0 [some (.inr (9, 0))] [] σ := by
  unfold fb_Rm_ended_0 at h
  obtain ⟨h1, h⟩ := kg_some h
  refine s_Rm_ended_0 h1 (fun c => ?_) (fun c => ?_)
  · rw [if_neg c] at h
    exact e_Rm_ended_22  h
  · rw [if_pos c] at h
    exact e_Rm_ended_7  h
def f_Rm_ended  (σ : kS) : kRes := fb_Rm_ended_0  σ
theorem E_Rm_ended {l : Launch} {G : kG} {yf : Int} {σf : kS}  {σ : kS} (h : f_Rm_ended  σ = some (some yf, σf)) : Call l G dm_Rm_ended y_Rm_ended m_Rm_ended [.inr (9, 0)] σ (kI fun y' σ' => y' = yf ∧ σ' = σf) := by
  unfold f_Rm_ended at h
  exact Call.of (by decide +kernel) rfl (Nat.le_of_ble_eq_true rfl) (e_Rm_ended_0 h)
/-! Rm_place -/
def fb_Rm_place_0  (x1 : Int) (x2 : Int) (σ : kS) : kRes := some (none, kup (kup σ 23 0 0 x1) 24 0 0 x2)
theorem e_Rm_place_0 {l : Launch} {G : kG} {σf : kS}  {x1 : Int} {x2 : Int}  {σ : kS} (h : fb_Rm_place_0  x1 x2 σ = some (none, σf)) : Rn l G dm_Rm_place m_Rm_place (kU fun σ' => σ' = σf) 0 [some (.inr (9, 0)), some (.inl x1), some (.inl x2)] [] σ := by
  unfold fb_Rm_place_0 at h
  simp only [Option.some.injEq, Prod.mk.injEq, true_and] at h
  exact s_Rm_place_0  ⟨rfl, h⟩
def f_Rm_place (x1 : Int) (x2 : Int) (σ : kS) : kRes := fb_Rm_place_0 x1 x2 σ
theorem E_Rm_place {l : Launch} {G : kG} {σf : kS} {x1 : Int} {x2 : Int} {σ : kS} (h : f_Rm_place x1 x2 σ = some (none, σf)) : Call l G dm_Rm_place y_Rm_place m_Rm_place [.inr (9, 0), .inl x1, .inl x2] σ (kU fun σ' => σ' = σf) := by
  unfold f_Rm_place at h
  exact Call.of (by decide +kernel) rfl (Nat.le_of_ble_eq_true rfl) (e_Rm_place_0 h)
/-! Rm_append -/
def fb_Rm_append_34  (x1 : Int) (x2 : Int) (x3 : Int) (x4 : Int) (x5 : Int) (x6 : Int) (σ : kS) : kRes := some (some x5, σ)
theorem e_Rm_append_34 {l : Launch} {G : kG} {yf : Int} {σf : kS}  {x1 : Int} {x2 : Int} {x3 : Int} {x4 : Int} {x5 : Int} {x6 : Int}  {σ : kS} (h : fb_Rm_append_34  x1 x2 x3 x4 x5 x6 σ = some (some yf, σf)) : Rn l G dm_Rm_append m_Rm_append (kI fun y' σ' => y' = yf ∧ σ' = σf) 34 [some (.inr (9, 0)), some (.inl x1), some (.inl x2), some (.inl x3), some (.inl x4), some (.inl x5), some (.inl x6)] [] σ := by
  unfold fb_Rm_append_34 at h
  simp only [Option.some.injEq, Prod.mk.injEq, true_and] at h
  exact s_Rm_append_34  ⟨_, rfl, h⟩
def fb_Rm_append_26 (k6 : Int → Int → Int → Int → Int → Int → kS → kRes) (x1 : Int) (x2 : Int) (x3 : Int) (x4 : Int) (x5 : Int) (x6 : Int) (s0 : Int) (σ : kS) : kRes := k6 x1 x2 x3 x4 s0 (x6 + 1) σ
theorem e_Rm_append_26 {l : Launch} {G : kG} {yf : Int} {σf : kS} {k6 : Int → Int → Int → Int → Int → Int → kS → kRes} (hk6 : ∀ (x1 : Int) (x2 : Int) (x3 : Int) (x4 : Int) (x5 : Int) (x6 : Int)  (σ : kS), k6 x1 x2 x3 x4 x5 x6 σ = some (some yf, σf) → Rn l G dm_Rm_append m_Rm_append (kI fun y' σ' => y' = yf ∧ σ' = σf) 6 [some (.inr (9, 0)), some (.inl x1), some (.inl x2), some (.inl x3), some (.inl x4), some (.inl x5), some (.inl x6)] [] σ) {x1 : Int} {x2 : Int} {x3 : Int} {x4 : Int} {x5 : Int} {x6 : Int} {s0 : Int}  {σ : kS} (h : fb_Rm_append_26 k6 x1 x2 x3 x4 x5 x6 s0 σ = some (some yf, σf)) : Rn l G dm_Rm_append m_Rm_append (kI fun y' σ' => y' = yf ∧ σ' = σf) 26 [some (.inr (9, 0)), some (.inl x1), some (.inl x2), some (.inl x3), some (.inl x4), some (.inl x5), some (.inl x6)] [.inl s0] σ := by
  unfold fb_Rm_append_26 at h
  refine s_Rm_append_26  ?_
  exact hk6 _ _ _ _ _ _ _ h
def fb_Rm_append_23 (k6 : Int → Int → Int → Int → Int → Int → kS → kRes) (x1 : Int) (x2 : Int) (x3 : Int) (x4 : Int) (x5 : Int) (x6 : Int) (s0 : Int) (s1 : Int) (σ : kS) : kRes := kbi (f_Rm_add s1 s0 σ) fun y σ1 => fb_Rm_append_26 k6 x1 x2 x3 x4 x5 x6 y σ1
theorem e_Rm_append_23 {l : Launch} {G : kG} {yf : Int} {σf : kS} {k6 : Int → Int → Int → Int → Int → Int → kS → kRes} (hk6 : ∀ (x1 : Int) (x2 : Int) (x3 : Int) (x4 : Int) (x5 : Int) (x6 : Int)  (σ : kS), k6 x1 x2 x3 x4 x5 x6 σ = some (some yf, σf) → Rn l G dm_Rm_append m_Rm_append (kI fun y' σ' => y' = yf ∧ σ' = σf) 6 [some (.inr (9, 0)), some (.inl x1), some (.inl x2), some (.inl x3), some (.inl x4), some (.inl x5), some (.inl x6)] [] σ) {x1 : Int} {x2 : Int} {x3 : Int} {x4 : Int} {x5 : Int} {x6 : Int} {s0 : Int} {s1 : Int}  {σ : kS} (h : fb_Rm_append_23 k6 x1 x2 x3 x4 x5 x6 s0 s1 σ = some (some yf, σf)) : Rn l G dm_Rm_append m_Rm_append (kI fun y' σ' => y' = yf ∧ σ' = σf) 23 [some (.inr (9, 0)), some (.inl x1), some (.inl x2), some (.inl x3), some (.inl x4), some (.inl x5), some (.inl x6)] [.inl s0, .inl s1, .inr (9, 0)] σ := by
  unfold fb_Rm_append_23 at h
  obtain ⟨y, σ1, hc, h⟩ := kbi_some h
  refine s_Rm_append_23  (by decide) (E_Rm_add hc) (fun y2 σ2 e2 => ?_)
  obtain ⟨rfl, rfl⟩ := e2
  exact e_Rm_append_26 hk6 h
def fb_Rm_append_13 (k6 : Int → Int → Int → Int → Int → Int → kS → kRes) (x1 : Int) (x2 : Int) (x3 : Int) (x4 : Int) (x5 : Int) (x6 : Int) (σ : kS) : kRes := kbi (f_Rm_at x2 x6 σ) fun y σ1 => fb_Rm_append_23 k6 x1 x2 x3 x4 x5 x6 y x5 σ1
theorem e_Rm_append_13 {l : Launch} {G : kG} {yf : Int} {σf : kS} {k6 : Int → Int → Int → Int → Int → Int → kS → kRes} (hk6 : ∀ (x1 : Int) (x2 : Int) (x3 : Int) (x4 : Int) (x5 : Int) (x6 : Int)  (σ : kS), k6 x1 x2 x3 x4 x5 x6 σ = some (some yf, σf) → Rn l G dm_Rm_append m_Rm_append (kI fun y' σ' => y' = yf ∧ σ' = σf) 6 [some (.inr (9, 0)), some (.inl x1), some (.inl x2), some (.inl x3), some (.inl x4), some (.inl x5), some (.inl x6)] [] σ) {x1 : Int} {x2 : Int} {x3 : Int} {x4 : Int} {x5 : Int} {x6 : Int}  {σ : kS} (h : fb_Rm_append_13 k6 x1 x2 x3 x4 x5 x6 σ = some (some yf, σf)) : Rn l G dm_Rm_append m_Rm_append (kI fun y' σ' => y' = yf ∧ σ' = σf) 13 [some (.inr (9, 0)), some (.inl x1), some (.inl x2), some (.inl x3), some (.inl x4), some (.inl x5), some (.inl x6)] [] σ := by
  unfold fb_Rm_append_13 at h
  obtain ⟨y, σ1, hc, h⟩ := kbi_some h
  refine s_Rm_append_13  (by decide) (E_Rm_at hc) (fun y2 σ2 e2 => ?_)
  obtain ⟨rfl, rfl⟩ := e2
  exact e_Rm_append_23 hk6 h
def fb_Rm_append_6 (k6 : Int → Int → Int → Int → Int → Int → kS → kRes) (x1 : Int) (x2 : Int) (x3 : Int) (x4 : Int) (x5 : Int) (x6 : Int) (σ : kS) : kRes := kg ((-2147483648 ≤ x6 ∧ x6 < 2147483648) ∧ (-2147483648 ≤ x4 ∧ x4 < 2147483648)) (if x4 ≤ x6 then fb_Rm_append_34  x1 x2 x3 x4 x5 x6 σ else fb_Rm_append_13 k6 x1 x2 x3 x4 x5 x6 σ)
theorem e_Rm_append_6 {l : Launch} {G : kG} {yf : Int} {σf : kS} {k6 : Int → Int → Int → Int → Int → Int → kS → kRes} (hk6 : ∀ (x1 : Int) (x2 : Int) (x3 : Int) (x4 : Int) (x5 : Int) (x6 : Int)  (σ : kS), k6 x1 x2 x3 x4 x5 x6 σ = some (some yf, σf) → Rn l G dm_Rm_append m_Rm_append (kI fun y' σ' => y' = yf ∧ σ' = σf) 6 [some (.inr (9, 0)), some (.inl x1), some (.inl x2), some (.inl x3), some (.inl x4), some (.inl x5), some (.inl x6)] [] σ) {x1 : Int} {x2 : Int} {x3 : Int} {x4 : Int} {x5 : Int} {x6 : Int}  {σ : kS} (h : fb_Rm_append_6 k6 x1 x2 x3 x4 x5 x6 σ = some (some yf, σf)) : Rn l G dm_Rm_append m_Rm_append (kI fun y' σ' => y' = yf ∧ σ' = σf) 6 [some (.inr (9, 0)), some (.inl x1), some (.inl x2), some (.inl x3), some (.inl x4), some (.inl x5), some (.inl x6)] [] σ := by
  unfold fb_Rm_append_6 at h
  obtain ⟨⟨h1, h2⟩, h⟩ := kg_some h
  refine s_Rm_append_6 h1 h2 (fun c => ?_) (fun c => ?_)
  · rw [if_pos c] at h
    exact e_Rm_append_34  h
  · rw [if_neg c] at h
    exact e_Rm_append_13 hk6 h
def fl_Rm_append_6  : Nat → Int → Int → Int → Int → Int → Int → kS → kRes
  | 0, _, _, _, _, _, _, _ => none
  | n + 1, x1, x2, x3, x4, x5, x6, σ => fb_Rm_append_6 (fl_Rm_append_6  n) x1 x2 x3 x4 x5 x6 σ
theorem el_Rm_append_6 {l : Launch} {G : kG} {yf : Int} {σf : kS}  : ∀ (n : Nat) (x1 : Int) (x2 : Int) (x3 : Int) (x4 : Int) (x5 : Int) (x6 : Int)  (σ : kS), fl_Rm_append_6  n x1 x2 x3 x4 x5 x6 σ = some (some yf, σf) → Rn l G dm_Rm_append m_Rm_append (kI fun y' σ' => y' = yf ∧ σ' = σf) 6 [some (.inr (9, 0)), some (.inl x1), some (.inl x2), some (.inl x3), some (.inl x4), some (.inl x5), some (.inl x6)] [] σ := by
  intro n
  induction n with
  | zero => intro x1 x2 x3 x4 x5 x6 σ h; simp only [fl_Rm_append_6] at h; cases h
  | succ n ih => intro x1 x2 x3 x4 x5 x6 σ h; simp only [fl_Rm_append_6] at h; exact e_Rm_append_6 ih h
def fb_Rm_append_0  (x1 : Int) (x2 : Int) (x3 : Int) (x4 : Int) (σ : kS) : kRes := fl_Rm_append_6  3000 x1 x2 x3 x4 x1 x3 σ
theorem e_Rm_append_0 {l : Launch} {G : kG} {yf : Int} {σf : kS}  {x1 : Int} {x2 : Int} {x3 : Int} {x4 : Int} {o5 : Option kV} {o6 : Option kV} {σ : kS} (h : fb_Rm_append_0  x1 x2 x3 x4 σ = some (some yf, σf)) : Rn l G dm_Rm_append m_Rm_append (kI fun y' σ' => y' = yf ∧ σ' = σf) 0 [some (.inr (9, 0)), some (.inl x1), some (.inl x2), some (.inl x3), some (.inl x4), o5, o6] [] σ := by
  unfold fb_Rm_append_0 at h
  refine s_Rm_append_0  ?_
  exact el_Rm_append_6  _ _ _ _ _ _ _ _ h
def f_Rm_append (x1 : Int) (x2 : Int) (x3 : Int) (x4 : Int) (σ : kS) : kRes := fb_Rm_append_0 x1 x2 x3 x4 σ
theorem E_Rm_append {l : Launch} {G : kG} {yf : Int} {σf : kS} {x1 : Int} {x2 : Int} {x3 : Int} {x4 : Int} {σ : kS} (h : f_Rm_append x1 x2 x3 x4 σ = some (some yf, σf)) : Call l G dm_Rm_append y_Rm_append m_Rm_append [.inr (9, 0), .inl x1, .inl x2, .inl x3, .inl x4] σ (kI fun y' σ' => y' = yf ∧ σ' = σf) := by
  unfold f_Rm_append at h
  exact Call.of (by decide +kernel) rfl (Nat.le_of_ble_eq_true rfl) (e_Rm_append_0 h)
/-! Rm_replace -/
def fb_Rm_replace_82  (x1 : Int) (x2 : Int) (x3 : Int) (x4 : Int) (x5 : Int) (x6 : Int) (x7 : Int) (x8 : Int) (σ : kS) : kRes := some (some x7, σ)
theorem e_Rm_replace_82 {l : Launch} {G : kG} {yf : Int} {σf : kS}  {x1 : Int} {x2 : Int} {x3 : Int} {x4 : Int} {x5 : Int} {x6 : Int} {x7 : Int} {x8 : Int} {o9 : Option kV} {σ : kS} (h : fb_Rm_replace_82  x1 x2 x3 x4 x5 x6 x7 x8 σ = some (some yf, σf)) : Rn l G dm_Rm_replace m_Rm_replace (kI fun y' σ' => y' = yf ∧ σ' = σf) 82 [some (.inr (9, 0)), some (.inl x1), some (.inl x2), some (.inl x3), some (.inl x4), some (.inl x5), some (.inl x6), some (.inl x7), some (.inl x8), o9] [] σ := by
  unfold fb_Rm_replace_82 at h
  simp only [Option.some.injEq, Prod.mk.injEq, true_and] at h
  exact s_Rm_replace_82  ⟨_, rfl, h⟩
def fb_Rm_replace_76 (k6 : Int → Int → Int → Int → Int → Int → Int → Int → kS → kRes) (x1 : Int) (x2 : Int) (x3 : Int) (x4 : Int) (x5 : Int) (x6 : Int) (x7 : Int) (x8 : Int) (x9 : Int) (σ : kS) : kRes := k6 x1 x2 x3 x4 x5 x6 x7 (x8 + 1) σ
theorem e_Rm_replace_76 {l : Launch} {G : kG} {yf : Int} {σf : kS} {k6 : Int → Int → Int → Int → Int → Int → Int → Int → kS → kRes} (hk6 : ∀ (x1 : Int) (x2 : Int) (x3 : Int) (x4 : Int) (x5 : Int) (x6 : Int) (x7 : Int) (x8 : Int) (o9 : Option kV) (σ : kS), k6 x1 x2 x3 x4 x5 x6 x7 x8 σ = some (some yf, σf) → Rn l G dm_Rm_replace m_Rm_replace (kI fun y' σ' => y' = yf ∧ σ' = σf) 6 [some (.inr (9, 0)), some (.inl x1), some (.inl x2), some (.inl x3), some (.inl x4), some (.inl x5), some (.inl x6), some (.inl x7), some (.inl x8), o9] [] σ) {x1 : Int} {x2 : Int} {x3 : Int} {x4 : Int} {x5 : Int} {x6 : Int} {x7 : Int} {x8 : Int} {x9 : Int}  {σ : kS} (h : fb_Rm_replace_76 k6 x1 x2 x3 x4 x5 x6 x7 x8 x9 σ = some (some yf, σf)) : Rn l G dm_Rm_replace m_Rm_replace (kI fun y' σ' => y' = yf ∧ σ' = σf) 76 [some (.inr (9, 0)), some (.inl x1), some (.inl x2), some (.inl x3), some (.inl x4), some (.inl x5), some (.inl x6), some (.inl x7), some (.inl x8), some (.inl x9)] [] σ := by
  unfold fb_Rm_replace_76 at h
  refine s_Rm_replace_76  ?_
  exact hk6 _ _ _ _ _ _ _ _ _ _ h
def fb_Rm_replace_74 (k6 : Int → Int → Int → Int → Int → Int → Int → Int → kS → kRes) (x1 : Int) (x2 : Int) (x3 : Int) (x4 : Int) (x5 : Int) (x6 : Int) (x7 : Int) (x8 : Int) (x9 : Int) (s0 : Int) (σ : kS) : kRes := fb_Rm_replace_76 k6 x1 x2 x3 x4 x5 x6 s0 x8 x9 σ
theorem e_Rm_replace_74 {l : Launch} {G : kG} {yf : Int} {σf : kS} {k6 : Int → Int → Int → Int → Int → Int → Int → Int → kS → kRes} (hk6 : ∀ (x1 : Int) (x2 : Int) (x3 : Int) (x4 : Int) (x5 : Int) (x6 : Int) (x7 : Int) (x8 : Int) (o9 : Option kV) (σ : kS), k6 x1 x2 x3 x4 x5 x6 x7 x8 σ = some (some yf, σf) → Rn l G dm_Rm_replace m_Rm_replace (kI fun y' σ' => y' = yf ∧ σ' = σf) 6 [some (.inr (9, 0)), some (.inl x1), some (.inl x2), some (.inl x3), some (.inl x4), some (.inl x5), some (.inl x6), some (.inl x7), some (.inl x8), o9] [] σ) {x1 : Int} {x2 : Int} {x3 : Int} {x4 : Int} {x5 : Int} {x6 : Int} {x7 : Int} {x8 : Int} {x9 : Int} {s0 : Int}  {σ : kS} (h : fb_Rm_replace_74 k6 x1 x2 x3 x4 x5 x6 x7 x8 x9 s0 σ = some (some yf, σf)) : Rn l G dm_Rm_replace m_Rm_replace (kI fun y' σ' => y' = yf ∧ σ' = σf) 74 [some (.inr (9, 0)), some (.inl x1), some (.inl x2), some (.inl x3), some (.inl x4), some (.inl x5), some (.inl x6), some (.inl x7), some (.inl x8), some (.inl x9)] [.inl s0] σ := by
  unfold fb_Rm_replace_74 at h
  refine s_Rm_replace_74  ?_
  exact e_Rm_replace_76 hk6 h
def fb_Rm_replace_71 (k6 : Int → Int → Int → Int → Int → Int → Int → Int → kS → kRes) (x1 : Int) (x2 : Int) (x3 : Int) (x4 : Int) (x5 : Int) (x6 : Int) (x7 : Int) (x8 : Int) (x9 : Int) (s0 : Int) (s1 : Int) (σ : kS) : kRes := kbi (f_Rm_add s1 s0 σ) fun y σ1 => fb_Rm_replace_74 k6 x1 x2 x3 x4 x5 x6 x7 x8 x9 y σ1
theorem e_Rm_replace_71 {l : Launch} {G : kG} {yf : Int} {σf : kS} {k6 : Int → Int → Int → Int → Int → Int → Int → Int → kS → kRes} (hk6 : ∀ (x1 : Int) (x2 : Int) (x3 : Int) (x4 : Int) (x5 : Int) (x6 : Int) (x7 : Int) (x8 : Int) (o9 : Option kV) (σ : kS), k6 x1 x2 x3 x4 x5 x6 x7 x8 σ = some (some yf, σf) → Rn l G dm_Rm_replace m_Rm_replace (kI fun y' σ' => y' = yf ∧ σ' = σf) 6 [some (.inr (9, 0)), some (.inl x1), some (.inl x2), some (.inl x3), some (.inl x4), some (.inl x5), some (.inl x6), some (.inl x7), some (.inl x8), o9] [] σ) {x1 : Int} {x2 : Int} {x3 : Int} {x4 : Int} {x5 : Int} {x6 : Int} {x7 : Int} {x8 : Int} {x9 : Int} {s0 : Int} {s1 : Int}  {σ : kS} (h : fb_Rm_replace_71 k6 x1 x2 x3 x4 x5 x6 x7 x8 x9 s0 s1 σ = some (some yf, σf)) : Rn l G dm_Rm_replace m_Rm_replace (kI fun y' σ' => y' = yf ∧ σ' = σf) 71 [some (.inr (9, 0)), some (.inl x1), some (.inl x2), some (.inl x3), some (.inl x4), some (.inl x5), some (.inl x6), some (.inl x7), some (.inl x8), some (.inl x9)] [.inl s0, .inl s1, .inr (9, 0)] σ := by
  unfold fb_Rm_replace_71 at h
  obtain ⟨y, σ1, hc, h⟩ := kbi_some h
  refine s_Rm_replace_71  (by decide) (E_Rm_add hc) (fun y2 σ2 e2 => ?_)
  obtain ⟨rfl, rfl⟩ := e2
  exact e_Rm_replace_74 hk6 h
def fb_Rm_replace_60 (k6 : Int → Int → Int → Int → Int → Int → Int → Int → kS → kRes) (x1 : Int) (x2 : Int) (x3 : Int) (x4 : Int) (x5 : Int) (x6 : Int) (x7 : Int) (x8 : Int) (x9 : Int) (s0 : Int) (σ : kS) : kRes := kbi (f_Rm_seen s0 σ) fun y σ1 => fb_Rm_replace_71 k6 x1 x2 x3 x4 x5 x6 x7 s0 x9 y x7 σ1
theorem e_Rm_replace_60 {l : Launch} {G : kG} {yf : Int} {σf : kS} {k6 : Int → Int → Int → Int → Int → Int → Int → Int → kS → kRes} (hk6 : ∀ (x1 : Int) (x2 : Int) (x3 : Int) (x4 : Int) (x5 : Int) (x6 : Int) (x7 : Int) (x8 : Int) (o9 : Option kV) (σ : kS), k6 x1 x2 x3 x4 x5 x6 x7 x8 σ = some (some yf, σf) → Rn l G dm_Rm_replace m_Rm_replace (kI fun y' σ' => y' = yf ∧ σ' = σf) 6 [some (.inr (9, 0)), some (.inl x1), some (.inl x2), some (.inl x3), some (.inl x4), some (.inl x5), some (.inl x6), some (.inl x7), some (.inl x8), o9] [] σ) {x1 : Int} {x2 : Int} {x3 : Int} {x4 : Int} {x5 : Int} {x6 : Int} {x7 : Int} {x8 : Int} {x9 : Int} {s0 : Int}  {σ : kS} (h : fb_Rm_replace_60 k6 x1 x2 x3 x4 x5 x6 x7 x8 x9 s0 σ = some (some yf, σf)) : Rn l G dm_Rm_replace m_Rm_replace (kI fun y' σ' => y' = yf ∧ σ' = σf) 60 [some (.inr (9, 0)), some (.inl x1), some (.inl x2), some (.inl x3), some (.inl x4), some (.inl x5), some (.inl x6), some (.inl x7), some (.inl x8), some (.inl x9)] [.inl s0] σ := by
  unfold fb_Rm_replace_60 at h
  obtain ⟨y, σ1, hc, h⟩ := kbi_some h
  refine s_Rm_replace_60  (by decide) (E_Rm_seen hc) (fun y2 σ2 e2 => ?_)
  obtain ⟨rfl, rfl⟩ := e2
  exact e_Rm_replace_71 hk6 h
def fb_Rm_replace_58 (k6 : Int → Int → Int → Int → Int → Int → Int → Int → kS → kRes) (x1 : Int) (x2 : Int) (x3 : Int) (x4 : Int) (x5 : Int) (x6 : Int) (x7 : Int) (x8 : Int) (x9 : Int) (σ : kS) : kRes := fb_Rm_replace_60 k6 x1 x2 x3 x4 x5 x6 x7 x8 x9 x8 σ
theorem e_Rm_replace_58 {l : Launch} {G : kG} {yf : Int} {σf : kS} {k6 : Int → Int → Int → Int → Int → Int → Int → Int → kS → kRes} (hk6 : ∀ (x1 : Int) (x2 : Int) (x3 : Int) (x4 : Int) (x5 : Int) (x6 : Int) (x7 : Int) (x8 : Int) (o9 : Option kV) (σ : kS), k6 x1 x2 x3 x4 x5 x6 x7 x8 σ = some (some yf, σf) → Rn l G dm_Rm_replace m_Rm_replace (kI fun y' σ' => y' = yf ∧ σ' = σf) 6 [some (.inr (9, 0)), some (.inl x1), some (.inl x2), some (.inl x3), some (.inl x4), some (.inl x5), some (.inl x6), some (.inl x7), some (.inl x8), o9] [] σ) {x1 : Int} {x2 : Int} {x3 : Int} {x4 : Int} {x5 : Int} {x6 : Int} {x7 : Int} {x8 : Int} {x9 : Int}  {σ : kS} (h : fb_Rm_replace_58 k6 x1 x2 x3 x4 x5 x6 x7 x8 x9 σ = some (some yf, σf)) : Rn l G dm_Rm_replace m_Rm_replace (kI fun y' σ' => y' = yf ∧ σ' = σf) 58 [some (.inr (9, 0)), some (.inl x1), some (.inl x2), some (.inl x3), some (.inl x4), some (.inl x5), some (.inl x6), some (.inl x7), some (.inl x8), some (.inl x9)] [] σ := by
  unfold fb_Rm_replace_58 at h
  refine s_Rm_replace_58  ?_
  exact e_Rm_replace_60 hk6 h
def fb_Rm_replace_51 (k6 : Int → Int → Int → Int → Int → Int → Int → Int → kS → kRes) (x1 : Int) (x2 : Int) (x3 : Int) (x4 : Int) (x5 : Int) (x6 : Int) (x7 : Int) (x8 : Int) (x9 : Int) (σ : kS) : kRes := fb_Rm_replace_60 k6 x1 x2 x3 x4 x5 x6 x7 x8 x9 (x8 + 1) σ
theorem e_Rm_replace_51 {l : Launch} {G : kG} {yf : Int} {σf : kS} {k6 : Int → Int → Int → Int → Int → Int → Int → Int → kS → kRes} (hk6 : ∀ (x1 : Int) (x2 : Int) (x3 : Int) (x4 : Int) (x5 : Int) (x6 : Int) (x7 : Int) (x8 : Int) (o9 : Option kV) (σ : kS), k6 x1 x2 x3 x4 x5 x6 x7 x8 σ = some (some yf, σf) → Rn l G dm_Rm_replace m_Rm_replace (kI fun y' σ' => y' = yf ∧ σ' = σf) 6 [some (.inr (9, 0)), some (.inl x1), some (.inl x2), some (.inl x3), some (.inl x4), some (.inl x5), some (.inl x6), some (.inl x7), some (.inl x8), o9] [] σ) {x1 : Int} {x2 : Int} {x3 : Int} {x4 : Int} {x5 : Int} {x6 : Int} {x7 : Int} {x8 : Int} {x9 : Int}  {σ : kS} (h : fb_Rm_replace_51 k6 x1 x2 x3 x4 x5 x6 x7 x8 x9 σ = some (some yf, σf)) : Rn l G dm_Rm_replace m_Rm_replace (kI fun y' σ' => y' = yf ∧ σ' = σf) 51 [some (.inr (9, 0)), some (.inl x1), some (.inl x2), some (.inl x3), some (.inl x4), some (.inl x5), some (.inl x6), some (.inl x7), some (.inl x8), some (.inl x9)] [] σ := by
  unfold fb_Rm_replace_51 at h
  refine s_Rm_replace_51  ?_
  exact e_Rm_replace_60 hk6 h
def fb_Rm_replace_44 (k6 : Int → Int → Int → Int → Int → Int → Int → Int → kS → kRes) (x1 : Int) (x2 : Int) (x3 : Int) (x4 : Int) (x5 : Int) (x6 : Int) (x7 : Int) (x8 : Int) (x9 : Int) (σ : kS) : kRes := kg ((-2147483648 ≤ x9 ∧ x9 < 2147483648)) (if x9 = 92 then fb_Rm_replace_51 k6 x1 x2 x3 x4 x5 x6 x7 x8 x9 σ else fb_Rm_replace_58 k6 x1 x2 x3 x4 x5 x6 x7 x8 x9 σ)
theorem e_Rm_replace_44 {l : Launch} {G : kG} {yf : Int} {σf : kS} {k6 : Int → Int → Int → Int → Int → Int → Int → Int → kS → kRes} (hk6 : ∀ (x1 : Int) (x2 : Int) (x3 : Int) (x4 : Int) (x5 : Int) (x6 : Int) (x7 : Int) (x8 : Int) (o9 : Option kV) (σ : kS), k6 x1 x2 x3 x4 x5 x6 x7 x8 σ = some (some yf, σf) → Rn l G dm_Rm_replace m_Rm_replace (kI fun y' σ' => y' = yf ∧ σ' = σf) 6 [some (.inr (9, 0)), some (.inl x1), some (.inl x2), some (.inl x3), some (.inl x4), some (.inl x5), some (.inl x6), some (.inl x7), some (.inl x8), o9] [] σ) {x1 : Int} {x2 : Int} {x3 : Int} {x4 : Int} {x5 : Int} {x6 : Int} {x7 : Int} {x8 : Int} {x9 : Int}  {σ : kS} (h : fb_Rm_replace_44 k6 x1 x2 x3 x4 x5 x6 x7 x8 x9 σ = some (some yf, σf)) : Rn l G dm_Rm_replace m_Rm_replace (kI fun y' σ' => y' = yf ∧ σ' = σf) 44 [some (.inr (9, 0)), some (.inl x1), some (.inl x2), some (.inl x3), some (.inl x4), some (.inl x5), some (.inl x6), some (.inl x7), some (.inl x8), some (.inl x9)] [] σ := by
  unfold fb_Rm_replace_44 at h
  obtain ⟨h1, h⟩ := kg_some h
  refine s_Rm_replace_44 h1 (fun c => ?_) (fun c => ?_)
  · rw [if_neg c] at h
    exact e_Rm_replace_58 hk6 h
  · rw [if_pos c] at h
    exact e_Rm_replace_51 hk6 h
def fb_Rm_replace_39 (k6 : Int → Int → Int → Int → Int → Int → Int → Int → kS → kRes) (x1 : Int) (x2 : Int) (x3 : Int) (x4 : Int) (x5 : Int) (x6 : Int) (x7 : Int) (x8 : Int) (x9 : Int) (s0 : Int) (σ : kS) : kRes := fb_Rm_replace_76 k6 x1 x2 x3 x4 x5 x6 s0 x8 x9 σ
theorem e_Rm_replace_39 {l : Launch} {G : kG} {yf : Int} {σf : kS} {k6 : Int → Int → Int → Int → Int → Int → Int → Int → kS → kRes} (hk6 : ∀ (x1 : Int) (x2 : Int) (x3 : Int) (x4 : Int) (x5 : Int) (x6 : Int) (x7 : Int) (x8 : Int) (o9 : Option kV) (σ : kS), k6 x1 x2 x3 x4 x5 x6 x7 x8 σ = some (some yf, σf) → Rn l G dm_Rm_replace m_Rm_replace (kI fun y' σ' => y' = yf ∧ σ' = σf) 6 [some (.inr (9, 0)), some (.inl x1), some (.inl x2), some (.inl x3), some (.inl x4), some (.inl x5), some (.inl x6), some (.inl x7), some (.inl x8), o9] [] σ) {x1 : Int} {x2 : Int} {x3 : Int} {x4 : Int} {x5 : Int} {x6 : Int} {x7 : Int} {x8 : Int} {x9 : Int} {s0 : Int}  {σ : kS} (h : fb_Rm_replace_39 k6 x1 x2 x3 x4 x5 x6 x7 x8 x9 s0 σ = some (some yf, σf)) : Rn l G dm_Rm_replace m_Rm_replace (kI fun y' σ' => y' = yf ∧ σ' = σf) 39 [some (.inr (9, 0)), some (.inl x1), some (.inl x2), some (.inl x3), some (.inl x4), some (.inl x5), some (.inl x6), some (.inl x7), some (.inl x8), some (.inl x9)] [.inl s0] σ := by
  unfold fb_Rm_replace_39 at h
  refine s_Rm_replace_39  ?_
  exact e_Rm_replace_76 hk6 h
def fb_Rm_replace_28 (k6 : Int → Int → Int → Int → Int → Int → Int → Int → kS → kRes) (x1 : Int) (x2 : Int) (x3 : Int) (x4 : Int) (x5 : Int) (x6 : Int) (x7 : Int) (x8 : Int) (x9 : Int) (σ : kS) : kRes := kbi (f_Rm_append x7 x2 x5 x6 σ) fun y σ1 => fb_Rm_replace_39 k6 x1 x2 x3 x4 x5 x6 x7 x8 x9 y σ1
theorem e_Rm_replace_28 {l : Launch} {G : kG} {yf : Int} {σf : kS} {k6 : Int → Int → Int → Int → Int → Int → Int → Int → kS → kRes} (hk6 : ∀ (x1 : Int) (x2 : Int) (x3 : Int) (x4 : Int) (x5 : Int) (x6 : Int) (x7 : Int) (x8 : Int) (o9 : Option kV) (σ : kS), k6 x1 x2 x3 x4 x5 x6 x7 x8 σ = some (some yf, σf) → Rn l G dm_Rm_replace m_Rm_replace (kI fun y' σ' => y' = yf ∧ σ' = σf) 6 [some (.inr (9, 0)), some (.inl x1), some (.inl x2), some (.inl x3), some (.inl x4), some (.inl x5), some (.inl x6), some (.inl x7), some (.inl x8), o9] [] σ) {x1 : Int} {x2 : Int} {x3 : Int} {x4 : Int} {x5 : Int} {x6 : Int} {x7 : Int} {x8 : Int} {x9 : Int}  {σ : kS} (h : fb_Rm_replace_28 k6 x1 x2 x3 x4 x5 x6 x7 x8 x9 σ = some (some yf, σf)) : Rn l G dm_Rm_replace m_Rm_replace (kI fun y' σ' => y' = yf ∧ σ' = σf) 28 [some (.inr (9, 0)), some (.inl x1), some (.inl x2), some (.inl x3), some (.inl x4), some (.inl x5), some (.inl x6), some (.inl x7), some (.inl x8), some (.inl x9)] [] σ := by
  unfold fb_Rm_replace_28 at h
  obtain ⟨y, σ1, hc, h⟩ := kbi_some h
  refine s_Rm_replace_28  (by decide) (E_Rm_append hc) (fun y2 σ2 e2 => ?_)
  obtain ⟨rfl, rfl⟩ := e2
  exact e_Rm_replace_39 hk6 h
def fb_Rm_replace_19 (k6 : Int → Int → Int → Int → Int → Int → Int → Int → kS → kRes) (x1 : Int) (x2 : Int) (x3 : Int) (x4 : Int) (x5 : Int) (x6 : Int) (x7 : Int) (x8 : Int) (s0 : Int) (σ : kS) : kRes := kg ((-2147483648 ≤ s0 ∧ s0 < 2147483648)) (if s0 = 38 then fb_Rm_replace_28 k6 x1 x2 x3 x4 x5 x6 x7 x8 s0 σ else fb_Rm_replace_44 k6 x1 x2 x3 x4 x5 x6 x7 x8 s0 σ)
theorem e_Rm_replace_19 {l : Launch} {G : kG} {yf : Int} {σf : kS} {k6 : Int → Int → Int → Int → Int → Int → Int → Int → kS → kRes} (hk6 : ∀ (x1 : Int) (x2 : Int) (x3 : Int) (x4 : Int) (x5 : Int) (x6 : Int) (x7 : Int) (x8 : Int) (o9 : Option kV) (σ : kS), k6 x1 x2 x3 x4 x5 x6 x7 x8 σ = some (some yf, σf) → Rn l G dm_Rm_replace m_Rm_replace (kI fun y' σ' => y' = yf ∧ σ' = σf) 6 [some (.inr (9, 0)), some (.inl x1), some (.inl x2), some (.inl x3), some (.inl x4), some (.inl x5), some (.inl x6), some (.inl x7), some (.inl x8), o9] [] σ) {x1 : Int} {x2 : Int} {x3 : Int} {x4 : Int} {x5 : Int} {x6 : Int} {x7 : Int} {x8 : Int} {s0 : Int} {o9 : Option kV} {σ : kS} (h : fb_Rm_replace_19 k6 x1 x2 x3 x4 x5 x6 x7 x8 s0 σ = some (some yf, σf)) : Rn l G dm_Rm_replace m_Rm_replace (kI fun y' σ' => y' = yf ∧ σ' = σf) 19 [some (.inr (9, 0)), some (.inl x1), some (.inl x2), some (.inl x3), some (.inl x4), some (.inl x5), some (.inl x6), some (.inl x7), some (.inl x8), o9] [.inl s0] σ := by
  unfold fb_Rm_replace_19 at h
  obtain ⟨h1, h⟩ := kg_some h
  refine s_Rm_replace_19 h1 (fun c => ?_) (fun c => ?_)
  · rw [if_neg c] at h
    exact e_Rm_replace_44 hk6 h
  · rw [if_pos c] at h
    exact e_Rm_replace_28 hk6 h
def fb_Rm_replace_13 (k6 : Int → Int → Int → Int → Int → Int → Int → Int → kS → kRes) (x1 : Int) (x2 : Int) (x3 : Int) (x4 : Int) (x5 : Int) (x6 : Int) (x7 : Int) (x8 : Int) (σ : kS) : kRes := kbi (f_Rm_seen x8 σ) fun y σ1 => fb_Rm_replace_19 k6 x1 x2 x3 x4 x5 x6 x7 x8 y σ1
theorem e_Rm_replace_13 {l : Launch} {G : kG} {yf : Int} {σf : kS} {k6 : Int → Int → Int → Int → Int → Int → Int → Int → kS → kRes} (hk6 : ∀ (x1 : Int) (x2 : Int) (x3 : Int) (x4 : Int) (x5 : Int) (x6 : Int) (x7 : Int) (x8 : Int) (o9 : Option kV) (σ : kS), k6 x1 x2 x3 x4 x5 x6 x7 x8 σ = some (some yf, σf) → Rn l G dm_Rm_replace m_Rm_replace (kI fun y' σ' => y' = yf ∧ σ' = σf) 6 [some (.inr (9, 0)), some (.inl x1), some (.inl x2), some (.inl x3), some (.inl x4), some (.inl x5), some (.inl x6), some (.inl x7), some (.inl x8), o9] [] σ) {x1 : Int} {x2 : Int} {x3 : Int} {x4 : Int} {x5 : Int} {x6 : Int} {x7 : Int} {x8 : Int} {o9 : Option kV} {σ : kS} (h : fb_Rm_replace_13 k6 x1 x2 x3 x4 x5 x6 x7 x8 σ = some (some yf, σf)) : Rn l G dm_Rm_replace m_Rm_replace (kI fun y' σ' => y' = yf ∧ σ' = σf) 13 [some (.inr (9, 0)), some (.inl x1), some (.inl x2), some (.inl x3), some (.inl x4), some (.inl x5), some (.inl x6), some (.inl x7), some (.inl x8), o9] [] σ := by
  unfold fb_Rm_replace_13 at h
  obtain ⟨y, σ1, hc, h⟩ := kbi_some h
  refine s_Rm_replace_13  (by decide) (E_Rm_seen hc) (fun y2 σ2 e2 => ?_)
  obtain ⟨rfl, rfl⟩ := e2
  exact e_Rm_replace_19 hk6 h
def fb_Rm_replace_6 (k6 : Int → Int → Int → Int → Int → Int → Int → Int → kS → kRes) (x1 : Int) (x2 : Int) (x3 : Int) (x4 : Int) (x5 : Int) (x6 : Int) (x7 : Int) (x8 : Int) (σ : kS) : kRes := kg ((-2147483648 ≤ x8 ∧ x8 < 2147483648) ∧ (-2147483648 ≤ x4 ∧ x4 < 2147483648)) (if x4 ≤ x8 then fb_Rm_replace_82  x1 x2 x3 x4 x5 x6 x7 x8 σ else fb_Rm_replace_13 k6 x1 x2 x3 x4 x5 x6 x7 x8 σ)
theorem e_Rm_replace_6 {l : Launch} {G : kG} {yf : Int} {σf : kS} {k6 : Int → Int → Int → Int → Int → Int → Int → Int → kS → kRes} (hk6 : ∀ (x1 : Int) (x2 : Int) (x3 : Int) (x4 : Int) (x5 : Int) (x6 : Int) (x7 : Int) (x8 : Int) (o9 : Option kV) (σ : kS), k6 x1 x2 x3 x4 x5 x6 x7 x8 σ = some (some yf, σf) → Rn l G dm_Rm_replace m_Rm_replace (kI fun y' σ' => y' = yf ∧ σ' = σf) 6 [some (.inr (9, 0)), some (.inl x1), some (.inl x2), some (.inl x3), some (.inl x4), some (.inl x5), some (.inl x6), some (.inl x7), some (.inl x8), o9] [] σ) {x1 : Int} {x2 : Int} {x3 : Int} {x4 : Int} {x5 : Int} {x6 : Int} {x7 : Int} {x8 : Int} {o9 : Option kV} {σ : kS} (h : fb_Rm_replace_6 k6 x1 x2 x3 x4 x5 x6 x7 x8 σ = some (some yf, σf)) : Rn l G dm_Rm_replace m_Rm_replace (kI fun y' σ' => y' = yf ∧ σ' = σf) 6 [some (.inr (9, 0)), some (.inl x1), some (.inl x2), some (.inl x3), some (.inl x4), some (.inl x5), some (.inl x6), some (.inl x7), some (.inl x8), o9] [] σ := by
  unfold fb_Rm_replace_6 at h
  obtain ⟨⟨h1, h2⟩, h⟩ := kg_some h
  refine s_Rm_replace_6 h1 h2 (fun c => ?_) (fun c => ?_)
  · rw [if_pos c] at h
    exact e_Rm_replace_82  h
  · rw [if_neg c] at h
    exact e_Rm_replace_13 hk6 h
def fl_Rm_replace_6  : Nat → Int → Int → Int → Int → Int → Int → Int → Int → kS → kRes
  | 0, _, _, _, _, _, _, _, _, _ => none
  | n + 1, x1, x2, x3, x4, x5, x6, x7, x8, σ => fb_Rm_replace_6 (fl_Rm_replace_6  n) x1 x2 x3 x4 x5 x6 x7 x8 σ
theorem el_Rm_replace_6 {l : Launch} {G : kG} {yf : Int} {σf : kS}  : ∀ (n : Nat) (x1 : Int) (x2 : Int) (x3 : Int) (x4 : Int) (x5 : Int) (x6 : Int) (x7 : Int) (x8 : Int) (o9 : Option kV) (σ : kS), fl_Rm_replace_6  n x1 x2 x3 x4 x5 x6 x7 x8 σ = some (some yf, σf) → Rn l G dm_Rm_replace m_Rm_replace (kI fun y' σ' => y' = yf ∧ σ' = σf) 6 [some (.inr (9, 0)), some (.inl x1), some (.inl x2), some (.inl x3), some (.inl x4), some (.inl x5), some (.inl x6), some (.inl x7), some (.inl x8), o9] [] σ := by
  intro n
  induction n with
  | zero => intro x1 x2 x3 x4 x5 x6 x7 x8 o9 σ h; simp only [fl_Rm_replace_6] at h; cases h
  | succ n ih => intro x1 x2 x3 x4 x5 x6 x7 x8 o9 σ h; simp only [fl_Rm_replace_6] at h; exact e_Rm_replace_6 ih h
def fb_Rm_replace_0  (x1 : Int) (x2 : Int) (x3 : Int) (x4 : Int) (x5 : Int) (x6 : Int) (σ : kS) : kRes := fl_Rm_replace_6  3000 x1 x2 x3 x4 x5 x6 x1 x3 σ
theorem e_Rm_replace_0 {l : Launch} {G : kG} {yf : Int} {σf : kS}  {x1 : Int} {x2 : Int} {x3 : Int} {x4 : Int} {x5 : Int} {x6 : Int} {o7 : Option kV} {o8 : Option kV} {o9 : Option kV} {σ : kS} (h : fb_Rm_replace_0  x1 x2 x3 x4 x5 x6 σ = some (some yf, σf)) : Rn l G dm_Rm_replace m_Rm_replace (kI fun y' σ' => y' = yf ∧ σ' = σf) 0 [some (.inr (9, 0)), some (.inl x1), some (.inl x2), some (.inl x3), some (.inl x4), some (.inl x5), some (.inl x6), o7, o8, o9] [] σ := by
  unfold fb_Rm_replace_0 at h
  refine s_Rm_replace_0  ?_
  exact el_Rm_replace_6  _ _ _ _ _ _ _ _ _ _ _ h
def f_Rm_replace (x1 : Int) (x2 : Int) (x3 : Int) (x4 : Int) (x5 : Int) (x6 : Int) (σ : kS) : kRes := fb_Rm_replace_0 x1 x2 x3 x4 x5 x6 σ
theorem E_Rm_replace {l : Launch} {G : kG} {yf : Int} {σf : kS} {x1 : Int} {x2 : Int} {x3 : Int} {x4 : Int} {x5 : Int} {x6 : Int} {σ : kS} (h : f_Rm_replace x1 x2 x3 x4 x5 x6 σ = some (some yf, σf)) : Call l G dm_Rm_replace y_Rm_replace m_Rm_replace [.inr (9, 0), .inl x1, .inl x2, .inl x3, .inl x4, .inl x5, .inl x6] σ (kI fun y' σ' => y' = yf ∧ σ' = σf) := by
  unfold f_Rm_replace at h
  exact Call.of (by decide +kernel) rfl (Nat.le_of_ble_eq_true rfl) (e_Rm_replace_0 h)
/-! Rm_rewrite -/
def fb_Rm_rewrite_159  (x1 : Int) (x2 : Int) (x3 : Int) (x4 : Int) (x5 : Int) (x6 : Int) (x7 : Int) (x8 : Int) (s0 : Int) (σ : kS) : kRes := some (some s0, σ)
theorem e_Rm_rewrite_159 {l : Launch} {G : kG} {yf : Int} {σf : kS}  {x1 : Int} {x2 : Int} {x3 : Int} {x4 : Int} {x5 : Int} {x6 : Int} {x7 : Int} {x8 : Int} {s0 : Int} {o9 : Option kV} {σ : kS} (h : fb_Rm_rewrite_159  x1 x2 x3 x4 x5 x6 x7 x8 s0 σ = some (some yf, σf)) : Rn l G dm_Rm_rewrite m_Rm_rewrite (kI fun y' σ' => y' = yf ∧ σ' = σf) 159 [some (.inr (9, 0)), some (.inl x1), some (.inl x2), some (.inl x3), some (.inl x4), some (.inl x5), some (.inl x6), some (.inl x7), some (.inl x8), o9] [.inl s0] σ := by
  unfold fb_Rm_rewrite_159 at h
  simp only [Option.some.injEq, Prod.mk.injEq, true_and] at h
  exact s_Rm_rewrite_159  ⟨_, rfl, h⟩
def fb_Rm_rewrite_157  (x1 : Int) (x2 : Int) (x3 : Int) (x4 : Int) (x5 : Int) (x6 : Int) (x7 : Int) (x8 : Int) (σ : kS) : kRes := fb_Rm_rewrite_159  x1 x2 x3 x4 x5 x6 x7 x8 x5 σ
theorem e_Rm_rewrite_157 {l : Launch} {G : kG} {yf : Int} {σf : kS}  {x1 : Int} {x2 : Int} {x3 : Int} {x4 : Int} {x5 : Int} {x6 : Int} {x7 : Int} {x8 : Int} {o9 : Option kV} {σ : kS} (h : fb_Rm_rewrite_157  x1 x2 x3 x4 x5 x6 x7 x8 σ = some (some yf, σf)) : Rn l G dm_Rm_rewrite m_Rm_rewrite (kI fun y' σ' => y' = yf ∧ σ' = σf) 157 [some (.inr (9, 0)), some (.inl x1), some (.inl x2), some (.inl x3), some (.inl x4), some (.inl x5), some (.inl x6), some (.inl x7), some (.inl x8), o9] [] σ := by
  unfold fb_Rm_rewrite_157 at h
  refine s_Rm_rewrite_157  ?_
  exact e_Rm_rewrite_159  h
def fb_Rm_rewrite_152  (x1 : Int) (x2 : Int) (x3 : Int) (x4 : Int) (x5 : Int) (x6 : Int) (x7 : Int) (x8 : Int) (σ : kS) : kRes := fb_Rm_rewrite_159  x1 x2 x3 x4 x5 x6 x7 x8 (-2) σ
theorem e_Rm_rewrite_152 {l : Launch} {G : kG} {yf : Int} {σf : kS}  {x1 : Int} {x2 : Int} {x3 : Int} {x4 : Int} {x5 : Int} {x6 : Int} {x7 : Int} {x8 : Int} {o9 : Option kV} {σ : kS} (h : fb_Rm_rewrite_152  x1 x2 x3 x4 x5 x6 x7 x8 σ = some (some yf, σf)) : Rn l G dm_Rm_rewrite m_Rm_rewrite (kI fun y' σ' => y' = yf ∧ σ' = σf) 152 [some (.inr (9, 0)), some (.inl x1), some (.inl x2), some (.inl x3), some (.inl x4), some (.inl x5), some (.inl x6), some (.inl x7), some (.inl x8), o9] [] σ := by
  unfold fb_Rm_rewrite_152 at h
  refine s_Rm_rewrite_152  ?_
  exact e_Rm_rewrite_159  h
def fb_Rm_rewrite_143  (x1 : Int) (x2 : Int) (x3 : Int) (x4 : Int) (x5 : Int) (x6 : Int) (x7 : Int) (x8 : Int) (s0 : Int) (σ : kS) : kRes := kg ((-2147483648 ≤ s0 ∧ s0 < 2147483648)) (if s0 ≤ 20 then fb_Rm_rewrite_157  x1 x2 x3 x4 s0 x6 x7 x8 σ else fb_Rm_rewrite_152  x1 x2 x3 x4 s0 x6 x7 x8 σ)
theorem e_Rm_rewrite_143 {l : Launch} {G : kG} {yf : Int} {σf : kS}  {x1 : Int} {x2 : Int} {x3 : Int} {x4 : Int} {x5 : Int} {x6 : Int} {x7 : Int} {x8 : Int} {s0 : Int} {o9 : Option kV} {σ : kS} (h : fb_Rm_rewrite_143  x1 x2 x3 x4 x5 x6 x7 x8 s0 σ = some (some yf, σf)) : Rn l G dm_Rm_rewrite m_Rm_rewrite (kI fun y' σ' => y' = yf ∧ σ' = σf) 143 [some (.inr (9, 0)), some (.inl x1), some (.inl x2), some (.inl x3), some (.inl x4), some (.inl x5), some (.inl x6), some (.inl x7), some (.inl x8), o9] [.inl s0] σ := by
  unfold fb_Rm_rewrite_143 at h
  obtain ⟨h1, h⟩ := kg_some h
  refine s_Rm_rewrite_143 h1 (fun c => ?_) (fun c => ?_)
  · rw [if_pos c] at h
    exact e_Rm_rewrite_157  h
  · rw [if_neg c] at h
    exact e_Rm_rewrite_152  h
def fb_Rm_rewrite_128  (x1 : Int) (x2 : Int) (x3 : Int) (x4 : Int) (x5 : Int) (x6 : Int) (x7 : Int) (x8 : Int) (σ : kS) : kRes := kg ((0 ≤ x1 ∧ x1 < (100 : Nat))) (kbi (f_Rm_append x5 x1 x6 (σ 21 0 (Int.toNat x1)) σ) fun y σ1 => fb_Rm_rewrite_143  x1 x2 x3 x4 x5 x6 x7 x8 y σ1)
theorem e_Rm_rewrite_128 {l : Launch} {G : kG} {yf : Int} {σf : kS}  {x1 : Int} {x2 : Int} {x3 : Int} {x4 : Int} {x5 : Int} {x6 : Int} {x7 : Int} {x8 : Int} {o9 : Option kV} {σ : kS} (h : fb_Rm_rewrite_128  x1 x2 x3 x4 x5 x6 x7 x8 σ = some (some yf, σf)) : Rn l G dm_Rm_rewrite m_Rm_rewrite (kI fun y' σ' => y' = yf ∧ σ' = σf) 128 [some (.inr (9, 0)), some (.inl x1), some (.inl x2), some (.inl x3), some (.inl x4), some (.inl x5), some (.inl x6), some (.inl x7), some (.inl x8), o9] [] σ := by
  unfold fb_Rm_rewrite_128 at h
  obtain ⟨h1, h⟩ := kg_some h
  obtain ⟨y, σ1, hc, h⟩ := kbi_some h
  refine s_Rm_rewrite_128 h1 (by decide) (E_Rm_append hc) (fun y2 σ2 e2 => ?_)
  obtain ⟨rfl, rfl⟩ := e2
  exact e_Rm_rewrite_143  h
def fb_Rm_rewrite_126  (x1 : Int) (x2 : Int) (x3 : Int) (x4 : Int) (x5 : Int) (x6 : Int) (x7 : Int) (x8 : Int) (σ : kS) : kRes := some (some (-1), σ)
theorem e_Rm_rewrite_126 {l : Launch} {G : kG} {yf : Int} {σf : kS}  {x1 : Int} {x2 : Int} {x3 : Int} {x4 : Int} {x5 : Int} {x6 : Int} {x7 : Int} {x8 : Int} {o9 : Option kV} {σ : kS} (h : fb_Rm_rewrite_126  x1 x2 x3 x4 x5 x6 x7 x8 σ = some (some yf, σf)) : Rn l G dm_Rm_rewrite m_Rm_rewrite (kI fun y' σ' => y' = yf ∧ σ' = σf) 126 [some (.inr (9, 0)), some (.inl x1), some (.inl x2), some (.inl x3), some (.inl x4), some (.inl x5), some (.inl x6), some (.inl x7), some (.inl x8), o9] [] σ := by
  unfold fb_Rm_rewrite_126 at h
  simp only [Option.some.injEq, Prod.mk.injEq, true_and] at h
  exact s_Rm_rewrite_126  ⟨_, rfl, h⟩
def fb_Rm_rewrite_121  (x1 : Int) (x2 : Int) (x3 : Int) (x4 : Int) (x5 : Int) (x6 : Int) (x7 : Int) (x8 : Int) (σ : kS) : kRes := kg ((-2147483648 ≤ x7 ∧ x7 < 2147483648)) (if 0 ≤ x7 then fb_Rm_rewrite_128  x1 x2 x3 x4 x5 x6 x7 x8 σ else fb_Rm_rewrite_126  x1 x2 x3 x4 x5 x6 x7 x8 σ)
theorem e_Rm_rewrite_121 {l : Launch} {G : kG} {yf : Int} {σf : kS}  {x1 : Int} {x2 : Int} {x3 : Int} {x4 : Int} {x5 : Int} {x6 : Int} {x7 : Int} {x8 : Int} {o9 : Option kV} {σ : kS} (h : fb_Rm_rewrite_121  x1 x2 x3 x4 x5 x6 x7 x8 σ = some (some yf, σf)) : Rn l G dm_Rm_rewrite m_Rm_rewrite (kI fun y' σ' => y' = yf ∧ σ' = σf) 121 [some (.inr (9, 0)), some (.inl x1), some (.inl x2), some (.inl x3), some (.inl x4), some (.inl x5), some (.inl x6), some (.inl x7), some (.inl x8), o9] [] σ := by
  unfold fb_Rm_rewrite_121 at h
  obtain ⟨h1, h⟩ := kg_some h
  refine s_Rm_rewrite_121 h1 (fun c => ?_) (fun c => ?_)
  · rw [if_pos c] at h
    exact e_Rm_rewrite_128  h
  · rw [if_neg c] at h
    exact e_Rm_rewrite_126  h
def fb_Rm_rewrite_118 (k12 : Int → Int → Int → Int → Int → Int → Int → Int → kS → kRes) (x1 : Int) (x2 : Int) (x3 : Int) (x4 : Int) (x5 : Int) (x6 : Int) (x7 : Int) (x8 : Int) (x9 : Int) (σ : kS) : kRes := k12 x1 x2 x3 x4 x5 x6 x7 x8 σ
theorem e_Rm_rewrite_118 {l : Launch} {G : kG} {yf : Int} {σf : kS} {k12 : Int → Int → Int → Int → Int → Int → Int → Int → kS → kRes} (hk12 : ∀ (x1 : Int) (x2 : Int) (x3 : Int) (x4 : Int) (x5 : Int) (x6 : Int) (x7 : Int) (x8 : Int) (o9 : Option kV) (σ : kS), k12 x1 x2 x3 x4 x5 x6 x7 x8 σ = some (some yf, σf) → Rn l G dm_Rm_rewrite m_Rm_rewrite (kI fun y' σ' => y' = yf ∧ σ' = σf) 12 [some (.inr (9, 0)), some (.inl x1), some (.inl x2), some (.inl x3), some (.inl x4), some (.inl x5), some (.inl x6), some (.inl x7), some (.inl x8), o9] [] σ) {x1 : Int} {x2 : Int} {x3 : Int} {x4 : Int} {x5 : Int} {x6 : Int} {x7 : Int} {x8 : Int} {x9 : Int}  {σ : kS} (h : fb_Rm_rewrite_118 k12 x1 x2 x3 x4 x5 x6 x7 x8 x9 σ = some (some yf, σf)) : Rn l G dm_Rm_rewrite m_Rm_rewrite (kI fun y' σ' => y' = yf ∧ σ' = σf) 118 [some (.inr (9, 0)), some (.inl x1), some (.inl x2), some (.inl x3), some (.inl x4), some (.inl x5), some (.inl x6), some (.inl x7), some (.inl x8), some (.inl x9)] [] σ := by
  unfold fb_Rm_rewrite_118 at h
  refine s_Rm_rewrite_118  ?_
  exact hk12 _ _ _ _ _ _ _ _ _ _ h
def fb_Rm_rewrite_104 (k12 : Int → Int → Int → Int → Int → Int → Int → Int → kS → kRes) (x1 : Int) (x2 : Int) (x3 : Int) (x4 : Int) (x5 : Int) (x6 : Int) (x7 : Int) (x8 : Int) (x9 : Int) (s0 : Int) (σ : kS) : kRes := fb_Rm_rewrite_118 k12 x1 x2 x3 x4 s0 x9 x9 x9 x9 σ
theorem e_Rm_rewrite_104 {l : Launch} {G : kG} {yf : Int} {σf : kS} {k12 : Int → Int → Int → Int → Int → Int → Int → Int → kS → kRes} (hk12 : ∀ (x1 : Int) (x2 : Int) (x3 : Int) (x4 : Int) (x5 : Int) (x6 : Int) (x7 : Int) (x8 : Int) (o9 : Option kV) (σ : kS), k12 x1 x2 x3 x4 x5 x6 x7 x8 σ = some (some yf, σf) → Rn l G dm_Rm_rewrite m_Rm_rewrite (kI fun y' σ' => y' = yf ∧ σ' = σf) 12 [some (.inr (9, 0)), some (.inl x1), some (.inl x2), some (.inl x3), some (.inl x4), some (.inl x5), some (.inl x6), some (.inl x7), some (.inl x8), o9] [] σ) {x1 : Int} {x2 : Int} {x3 : Int} {x4 : Int} {x5 : Int} {x6 : Int} {x7 : Int} {x8 : Int} {x9 : Int} {s0 : Int}  {σ : kS} (h : fb_Rm_rewrite_104 k12 x1 x2 x3 x4 x5 x6 x7 x8 x9 s0 σ = some (some yf, σf)) : Rn l G dm_Rm_rewrite m_Rm_rewrite (kI fun y' σ' => y' = yf ∧ σ' = σf) 104 [some (.inr (9, 0)), some (.inl x1), some (.inl x2), some (.inl x3), some (.inl x4), some (.inl x5), some (.inl x6), some (.inl x7), some (.inl x8), some (.inl x9)] [.inl s0] σ := by
  unfold fb_Rm_rewrite_104 at h
  refine s_Rm_rewrite_104  ?_
  exact e_Rm_rewrite_118 hk12 h
def fb_Rm_rewrite_89 (k12 : Int → Int → Int → Int → Int → Int → Int → Int → kS → kRes) (x1 : Int) (x2 : Int) (x3 : Int) (x4 : Int) (x5 : Int) (x6 : Int) (x7 : Int) (x8 : Int) (x9 : Int) (s0 : Int) (σ : kS) : kRes := kbi (f_Rm_replace s0 x1 x2 x3 x8 x9 σ) fun y σ1 => fb_Rm_rewrite_104 k12 x1 x2 x3 x4 s0 x6 x7 x8 x9 y σ1
theorem e_Rm_rewrite_89 {l : Launch} {G : kG} {yf : Int} {σf : kS} {k12 : Int → Int → Int → Int → Int → Int → Int → Int → kS → kRes} (hk12 : ∀ (x1 : Int) (x2 : Int) (x3 : Int) (x4 : Int) (x5 : Int) (x6 : Int) (x7 : Int) (x8 : Int) (o9 : Option kV) (σ : kS), k12 x1 x2 x3 x4 x5 x6 x7 x8 σ = some (some yf, σf) → Rn l G dm_Rm_rewrite m_Rm_rewrite (kI fun y' σ' => y' = yf ∧ σ' = σf) 12 [some (.inr (9, 0)), some (.inl x1), some (.inl x2), some (.inl x3), some (.inl x4), some (.inl x5), some (.inl x6), some (.inl x7), some (.inl x8), o9] [] σ) {x1 : Int} {x2 : Int} {x3 : Int} {x4 : Int} {x5 : Int} {x6 : Int} {x7 : Int} {x8 : Int} {x9 : Int} {s0 : Int}  {σ : kS} (h : fb_Rm_rewrite_89 k12 x1 x2 x3 x4 x5 x6 x7 x8 x9 s0 σ = some (some yf, σf)) : Rn l G dm_Rm_rewrite m_Rm_rewrite (kI fun y' σ' => y' = yf ∧ σ' = σf) 89 [some (.inr (9, 0)), some (.inl x1), some (.inl x2), some (.inl x3), some (.inl x4), some (.inl x5), some (.inl x6), some (.inl x7), some (.inl x8), some (.inl x9)] [.inl s0] σ := by
  unfold fb_Rm_rewrite_89 at h
  obtain ⟨y, σ1, hc, h⟩ := kbi_some h
  refine s_Rm_rewrite_89  (by decide) (E_Rm_replace hc) (fun y2 σ2 e2 => ?_)
  obtain ⟨rfl, rfl⟩ := e2
  exact e_Rm_rewrite_104 hk12 h
def fb_Rm_rewrite_78 (k12 : Int → Int → Int → Int → Int → Int → Int → Int → kS → kRes) (x1 : Int) (x2 : Int) (x3 : Int) (x4 : Int) (x5 : Int) (x6 : Int) (x7 : Int) (x8 : Int) (x9 : Int) (σ : kS) : kRes := kbi (f_Rm_append x5 x1 x6 x8 σ) fun y σ1 => fb_Rm_rewrite_89 k12 x1 x2 x3 x4 x5 x6 x7 x8 x9 y σ1
theorem e_Rm_rewrite_78 {l : Launch} {G : kG} {yf : Int} {σf : kS} {k12 : Int → Int → Int → Int → Int → Int → Int → Int → kS → kRes} (hk12 : ∀ (x1 : Int) (x2 : Int) (x3 : Int) (x4 : Int) (x5 : Int) (x6 : Int) (x7 : Int) (x8 : Int) (o9 : Option kV) (σ : kS), k12 x1 x2 x3 x4 x5 x6 x7 x8 σ = some (some yf, σf) → Rn l G dm_Rm_rewrite m_Rm_rewrite (kI fun y' σ' => y' = yf ∧ σ' = σf) 12 [some (.inr (9, 0)), some (.inl x1), some (.inl x2), some (.inl x3), some (.inl x4), some (.inl x5), some (.inl x6), some (.inl x7), some (.inl x8), o9] [] σ) {x1 : Int} {x2 : Int} {x3 : Int} {x4 : Int} {x5 : Int} {x6 : Int} {x7 : Int} {x8 : Int} {x9 : Int}  {σ : kS} (h : fb_Rm_rewrite_78 k12 x1 x2 x3 x4 x5 x6 x7 x8 x9 σ = some (some yf, σf)) : Rn l G dm_Rm_rewrite m_Rm_rewrite (kI fun y' σ' => y' = yf ∧ σ' = σf) 78 [some (.inr (9, 0)), some (.inl x1), some (.inl x2), some (.inl x3), some (.inl x4), some (.inl x5), some (.inl x6), some (.inl x7), some (.inl x8), some (.inl x9)] [] σ := by
  unfold fb_Rm_rewrite_78 at h
  obtain ⟨y, σ1, hc, h⟩ := kbi_some h
  refine s_Rm_rewrite_78  (by decide) (E_Rm_append hc) (fun y2 σ2 e2 => ?_)
  obtain ⟨rfl, rfl⟩ := e2
  exact e_Rm_rewrite_89 hk12 h
def fb_Rm_rewrite_72 (k12 : Int → Int → Int → Int → Int → Int → Int → Int → kS → kRes) (x1 : Int) (x2 : Int) (x3 : Int) (x4 : Int) (x5 : Int) (x6 : Int) (x7 : Int) (x8 : Int) (x9 : Int) (σ : kS) : kRes := fb_Rm_rewrite_118 k12 x1 x2 x3 x4 x5 x6 x7 (x8 + 1) x9 σ
theorem e_Rm_rewrite_72 {l : Launch} {G : kG} {yf : Int} {σf : kS} {k12 : Int → Int → Int → Int → Int → Int → Int → Int → kS → kRes} (hk12 : ∀ (x1 : Int) (x2 : Int) (x3 : Int) (x4 : Int) (x5 : Int) (x6 : Int) (x7 : Int) (x8 : Int) (o9 : Option kV) (σ : kS), k12 x1 x2 x3 x4 x5 x6 x7 x8 σ = some (some yf, σf) → Rn l G dm_Rm_rewrite m_Rm_rewrite (kI fun y' σ' => y' = yf ∧ σ' = σf) 12 [some (.inr (9, 0)), some (.inl x1), some (.inl x2), some (.inl x3), some (.inl x4), some (.inl x5), some (.inl x6), some (.inl x7), some (.inl x8), o9] [] σ) {x1 : Int} {x2 : Int} {x3 : Int} {x4 : Int} {x5 : Int} {x6 : Int} {x7 : Int} {x8 : Int} {x9 : Int}  {σ : kS} (h : fb_Rm_rewrite_72 k12 x1 x2 x3 x4 x5 x6 x7 x8 x9 σ = some (some yf, σf)) : Rn l G dm_Rm_rewrite m_Rm_rewrite (kI fun y' σ' => y' = yf ∧ σ' = σf) 72 [some (.inr (9, 0)), some (.inl x1), some (.inl x2), some (.inl x3), some (.inl x4), some (.inl x5), some (.inl x6), some (.inl x7), some (.inl x8), some (.inl x9)] [] σ := by
  unfold fb_Rm_rewrite_72 at h
  refine s_Rm_rewrite_72  ?_
  exact e_Rm_rewrite_118 hk12 h
def fb_Rm_rewrite_65 (k12 : Int → Int → Int → Int → Int → Int → Int → Int → kS → kRes) (x1 : Int) (x2 : Int) (x3 : Int) (x4 : Int) (x5 : Int) (x6 : Int) (x7 : Int) (x8 : Int) (x9 : Int) (σ : kS) : kRes := kg ((-2147483648 ≤ x8 ∧ x8 < 2147483648) ∧ (-2147483648 ≤ x7 ∧ x7 < 2147483648)) (if x8 = x7 then fb_Rm_rewrite_72 k12 x1 x2 x3 x4 x5 x6 x7 x8 x9 σ else fb_Rm_rewrite_78 k12 x1 x2 x3 x4 x5 x6 x7 x8 x9 σ)
theorem e_Rm_rewrite_65 {l : Launch} {G : kG} {yf : Int} {σf : kS} {k12 : Int → Int → Int → Int → Int → Int → Int → Int → kS → kRes} (hk12 : ∀ (x1 : Int) (x2 : Int) (x3 : Int) (x4 : Int) (x5 : Int) (x6 : Int) (x7 : Int) (x8 : Int) (o9 : Option kV) (σ : kS), k12 x1 x2 x3 x4 x5 x6 x7 x8 σ = some (some yf, σf) → Rn l G dm_Rm_rewrite m_Rm_rewrite (kI fun y' σ' => y' = yf ∧ σ' = σf) 12 [some (.inr (9, 0)), some (.inl x1), some (.inl x2), some (.inl x3), some (.inl x4), some (.inl x5), some (.inl x6), some (.inl x7), some (.inl x8), o9] [] σ) {x1 : Int} {x2 : Int} {x3 : Int} {x4 : Int} {x5 : Int} {x6 : Int} {x7 : Int} {x8 : Int} {x9 : Int}  {σ : kS} (h : fb_Rm_rewrite_65 k12 x1 x2 x3 x4 x5 x6 x7 x8 x9 σ = some (some yf, σf)) : Rn l G dm_Rm_rewrite m_Rm_rewrite (kI fun y' σ' => y' = yf ∧ σ' = σf) 65 [some (.inr (9, 0)), some (.inl x1), some (.inl x2), some (.inl x3), some (.inl x4), some (.inl x5), some (.inl x6), some (.inl x7), some (.inl x8), some (.inl x9)] [] σ := by
  unfold fb_Rm_rewrite_65 at h
  obtain ⟨⟨h1, h2⟩, h⟩ := kg_some h
  refine s_Rm_rewrite_65 h1 h2 (fun c => ?_) (fun c => ?_)
  · rw [if_neg c] at h
    exact e_Rm_rewrite_78 hk12 h
  · rw [if_pos c] at h
    exact e_Rm_rewrite_72 hk12 h
def fb_Rm_rewrite_58 (k12 : Int → Int → Int → Int → Int → Int → Int → Int → kS → kRes) (x1 : Int) (x2 : Int) (x3 : Int) (x4 : Int) (x5 : Int) (x6 : Int) (x7 : Int) (x8 : Int) (x9 : Int) (σ : kS) : kRes := kg ((-2147483648 ≤ x9 ∧ x9 < 2147483648) ∧ (-2147483648 ≤ x8 ∧ x8 < 2147483648)) (if x9 = x8 then fb_Rm_rewrite_65 k12 x1 x2 x3 x4 x5 x6 x7 x8 x9 σ else fb_Rm_rewrite_78 k12 x1 x2 x3 x4 x5 x6 x7 x8 x9 σ)
theorem e_Rm_rewrite_58 {l : Launch} {G : kG} {yf : Int} {σf : kS} {k12 : Int → Int → Int → Int → Int → Int → Int → Int → kS → kRes} (hk12 : ∀ (x1 : Int) (x2 : Int) (x3 : Int) (x4 : Int) (x5 : Int) (x6 : Int) (x7 : Int) (x8 : Int) (o9 : Option kV) (σ : kS), k12 x1 x2 x3 x4 x5 x6 x7 x8 σ = some (some yf, σf) → Rn l G dm_Rm_rewrite m_Rm_rewrite (kI fun y' σ' => y' = yf ∧ σ' = σf) 12 [some (.inr (9, 0)), some (.inl x1), some (.inl x2), some (.inl x3), some (.inl x4), some (.inl x5), some (.inl x6), some (.inl x7), some (.inl x8), o9] [] σ) {x1 : Int} {x2 : Int} {x3 : Int} {x4 : Int} {x5 : Int} {x6 : Int} {x7 : Int} {x8 : Int} {x9 : Int}  {σ : kS} (h : fb_Rm_rewrite_58 k12 x1 x2 x3 x4 x5 x6 x7 x8 x9 σ = some (some yf, σf)) : Rn l G dm_Rm_rewrite m_Rm_rewrite (kI fun y' σ' => y' = yf ∧ σ' = σf) 58 [some (.inr (9, 0)), some (.inl x1), some (.inl x2), some (.inl x3), some (.inl x4), some (.inl x5), some (.inl x6), some (.inl x7), some (.inl x8), some (.inl x9)] [] σ := by
  unfold fb_Rm_rewrite_58 at h
  obtain ⟨⟨h1, h2⟩, h⟩ := kg_some h
  refine s_Rm_rewrite_58 h1 h2 (fun c => ?_) (fun c => ?_)
  · rw [if_neg c] at h
    exact e_Rm_rewrite_78 hk12 h
  · rw [if_pos c] at h
    exact e_Rm_rewrite_65 hk12 h
def fb_Rm_rewrite_51 (k12 : Int → Int → Int → Int → Int → Int → Int → Int → kS → kRes) (x1 : Int) (x2 : Int) (x3 : Int) (x4 : Int) (x5 : Int) (x6 : Int) (x7 : Int) (x8 : Int) (s0 : Int) (σ : kS) : kRes := kg ((-2147483648 ≤ s0 ∧ s0 < 2147483648)) (if s0 < 0 then fb_Rm_rewrite_72 k12 x1 x2 x3 x4 x5 x6 x7 x8 s0 σ else fb_Rm_rewrite_58 k12 x1 x2 x3 x4 x5 x6 x7 x8 s0 σ)
theorem e_Rm_rewrite_51 {l : Launch} {G : kG} {yf : Int} {σf : kS} {k12 : Int → Int → Int → Int → Int → Int → Int → Int → kS → kRes} (hk12 : ∀ (x1 : Int) (x2 : Int) (x3 : Int) (x4 : Int) (x5 : Int) (x6 : Int) (x7 : Int) (x8 : Int) (o9 : Option kV) (σ : kS), k12 x1 x2 x3 x4 x5 x6 x7 x8 σ = some (some yf, σf) → Rn l G dm_Rm_rewrite m_Rm_rewrite (kI fun y' σ' => y' = yf ∧ σ' = σf) 12 [some (.inr (9, 0)), some (.inl x1), some (.inl x2), some (.inl x3), some (.inl x4), some (.inl x5), some (.inl x6), some (.inl x7), some (.inl x8), o9] [] σ) {x1 : Int} {x2 : Int} {x3 : Int} {x4 : Int} {x5 : Int} {x6 : Int} {x7 : Int} {x8 : Int} {s0 : Int} {o9 : Option kV} {σ : kS} (h : fb_Rm_rewrite_51 k12 x1 x2 x3 x4 x5 x6 x7 x8 s0 σ = some (some yf, σf)) : Rn l G dm_Rm_rewrite m_Rm_rewrite (kI fun y' σ' => y' = yf ∧ σ' = σf) 51 [some (.inr (9, 0)), some (.inl x1), some (.inl x2), some (.inl x3), some (.inl x4), some (.inl x5), some (.inl x6), some (.inl x7), some (.inl x8), o9] [.inl s0] σ := by
  unfold fb_Rm_rewrite_51 at h
  obtain ⟨h1, h⟩ := kg_some h
  refine s_Rm_rewrite_51 h1 (fun c => ?_) (fun c => ?_)
  · rw [if_pos c] at h
    exact e_Rm_rewrite_72 hk12 h
  · rw [if_neg c] at h
    exact e_Rm_rewrite_58 hk12 h
def fb_Rm_rewrite_50 (k12 : Int → Int → Int → Int → Int → Int → Int → Int → kS → kRes) (x1 : Int) (x2 : Int) (x3 : Int) (x4 : Int) (x5 : Int) (x6 : Int) (x7 : Int) (x8 : Int) (σ : kS) : kRes := fb_Rm_rewrite_51 k12 x1 x2 x3 x4 x5 x6 x7 x8 (-1) σ
theorem e_Rm_rewrite_50 {l : Launch} {G : kG} {yf : Int} {σf : kS} {k12 : Int → Int → Int → Int → Int → Int → Int → Int → kS → kRes} (hk12 : ∀ (x1 : Int) (x2 : Int) (x3 : Int) (x4 : Int) (x5 : Int) (x6 : Int) (x7 : Int) (x8 : Int) (o9 : Option kV) (σ : kS), k12 x1 x2 x3 x4 x5 x6 x7 x8 σ = some (some yf, σf) → Rn l G dm_Rm_rewrite m_Rm_rewrite (kI fun y' σ' => y' = yf ∧ σ' = σf) 12 [some (.inr (9, 0)), some (.inl x1), some (.inl x2), some (.inl x3), some (.inl x4), some (.inl x5), some (.inl x6), some (.inl x7), some (.inl x8), o9] [] σ) {x1 : Int} {x2 : Int} {x3 : Int} {x4 : Int} {x5 : Int} {x6 : Int} {x7 : Int} {x8 : Int} {o9 : Option kV} {σ : kS} (h : fb_Rm_rewrite_50 k12 x1 x2 x3 x4 x5 x6 x7 x8 σ = some (some yf, σf)) : Rn l G dm_Rm_rewrite m_Rm_rewrite (kI fun y' σ' => y' = yf ∧ σ' = σf) 50 [some (.inr (9, 0)), some (.inl x1), some (.inl x2), some (.inl x3), some (.inl x4), some (.inl x5), some (.inl x6), some (.inl x7), some (.inl x8), o9] [] σ := by
  unfold fb_Rm_rewrite_50 at h
  refine s_Rm_rewrite_50  ?_
  exact e_Rm_rewrite_51 hk12 h
def fb_Rm_rewrite_47 (k12 : Int → Int → Int → Int → Int → Int → Int → Int → kS → kRes) (x1 : Int) (x2 : Int) (x3 : Int) (x4 : Int) (x5 : Int) (x6 : Int) (x7 : Int) (x8 : Int) (s0 : Int) (σ : kS) : kRes := fb_Rm_rewrite_51 k12 x1 x2 x3 x4 x5 x6 x7 x8 s0 σ
theorem e_Rm_rewrite_47 {l : Launch} {G : kG} {yf : Int} {σf : kS} {k12 : Int → Int → Int → Int → Int → Int → Int → Int → kS → kRes} (hk12 : ∀ (x1 : Int) (x2 : Int) (x3 : Int) (x4 : Int) (x5 : Int) (x6 : Int) (x7 : Int) (x8 : Int) (o9 : Option kV) (σ : kS), k12 x1 x2 x3 x4 x5 x6 x7 x8 σ = some (some yf, σf) → Rn l G dm_Rm_rewrite m_Rm_rewrite (kI fun y' σ' => y' = yf ∧ σ' = σf) 12 [some (.inr (9, 0)), some (.inl x1), some (.inl x2), some (.inl x3), some (.inl x4), some (.inl x5), some (.inl x6), some (.inl x7), some (.inl x8), o9] [] σ) {x1 : Int} {x2 : Int} {x3 : Int} {x4 : Int} {x5 : Int} {x6 : Int} {x7 : Int} {x8 : Int} {s0 : Int} {o9 : Option kV} {σ : kS} (h : fb_Rm_rewrite_47 k12 x1 x2 x3 x4 x5 x6 x7 x8 s0 σ = some (some yf, σf)) : Rn l G dm_Rm_rewrite m_Rm_rewrite (kI fun y' σ' => y' = yf ∧ σ' = σf) 47 [some (.inr (9, 0)), some (.inl x1), some (.inl x2), some (.inl x3), some (.inl x4), some (.inl x5), some (.inl x6), some (.inl x7), some (.inl x8), o9] [.inl s0] σ := by
  unfold fb_Rm_rewrite_47 at h
  refine s_Rm_rewrite_47  ?_
  exact e_Rm_rewrite_51 hk12 h
def fb_Rm_rewrite_40 (k12 : Int → Int → Int → Int → Int → Int → Int → Int → kS → kRes) (x1 : Int) (x2 : Int) (x3 : Int) (x4 : Int) (x5 : Int) (x6 : Int) (x7 : Int) (x8 : Int) (σ : kS) : kRes := kbi (f_Rm_match x1 x8 σ) fun y σ1 => fb_Rm_rewrite_47 k12 x1 x2 x3 x4 x5 x6 x7 x8 y σ1
theorem e_Rm_rewrite_40 {l : Launch} {G : kG} {yf : Int} {σf : kS} {k12 : Int → Int → Int → Int → Int → Int → Int → Int → kS → kRes} (hk12 : ∀ (x1 : Int) (x2 : Int) (x3 : Int) (x4 : Int) (x5 : Int) (x6 : Int) (x7 : Int) (x8 : Int) (o9 : Option kV) (σ : kS), k12 x1 x2 x3 x4 x5 x6 x7 x8 σ = some (some yf, σf) → Rn l G dm_Rm_rewrite m_Rm_rewrite (kI fun y' σ' => y' = yf ∧ σ' = σf) 12 [some (.inr (9, 0)), some (.inl x1), some (.inl x2), some (.inl x3), some (.inl x4), some (.inl x5), some (.inl x6), some (.inl x7), some (.inl x8), o9] [] σ) {x1 : Int} {x2 : Int} {x3 : Int} {x4 : Int} {x5 : Int} {x6 : Int} {x7 : Int} {x8 : Int} {o9 : Option kV} {σ : kS} (h : fb_Rm_rewrite_40 k12 x1 x2 x3 x4 x5 x6 x7 x8 σ = some (some yf, σf)) : Rn l G dm_Rm_rewrite m_Rm_rewrite (kI fun y' σ' => y' = yf ∧ σ' = σf) 40 [some (.inr (9, 0)), some (.inl x1), some (.inl x2), some (.inl x3), some (.inl x4), some (.inl x5), some (.inl x6), some (.inl x7), some (.inl x8), o9] [] σ := by
  unfold fb_Rm_rewrite_40 at h
  obtain ⟨y, σ1, hc, h⟩ := kbi_some h
  refine s_Rm_rewrite_40  (by decide) (E_Rm_match hc) (fun y2 σ2 e2 => ?_)
  obtain ⟨rfl, rfl⟩ := e2
  exact e_Rm_rewrite_47 hk12 h
def fb_Rm_rewrite_35 (k12 : Int → Int → Int → Int → Int → Int → Int → Int → kS → kRes) (x1 : Int) (x2 : Int) (x3 : Int) (x4 : Int) (x5 : Int) (x6 : Int) (x7 : Int) (x8 : Int) (σ : kS) : kRes := kg ((-2147483648 ≤ x4 ∧ x4 < 2147483648)) (if x4 = 0 then fb_Rm_rewrite_50 k12 x1 x2 x3 x4 x5 x6 x7 x8 σ else fb_Rm_rewrite_40 k12 x1 x2 x3 x4 x5 x6 x7 x8 σ)
theorem e_Rm_rewrite_35 {l : Launch} {G : kG} {yf : Int} {σf : kS} {k12 : Int → Int → Int → Int → Int → Int → Int → Int → kS → kRes} (hk12 : ∀ (x1 : Int) (x2 : Int) (x3 : Int) (x4 : Int) (x5 : Int) (x6 : Int) (x7 : Int) (x8 : Int) (o9 : Option kV) (σ : kS), k12 x1 x2 x3 x4 x5 x6 x7 x8 σ = some (some yf, σf) → Rn l G dm_Rm_rewrite m_Rm_rewrite (kI fun y' σ' => y' = yf ∧ σ' = σf) 12 [some (.inr (9, 0)), some (.inl x1), some (.inl x2), some (.inl x3), some (.inl x4), some (.inl x5), some (.inl x6), some (.inl x7), some (.inl x8), o9] [] σ) {x1 : Int} {x2 : Int} {x3 : Int} {x4 : Int} {x5 : Int} {x6 : Int} {x7 : Int} {x8 : Int} {o9 : Option kV} {σ : kS} (h : fb_Rm_rewrite_35 k12 x1 x2 x3 x4 x5 x6 x7 x8 σ = some (some yf, σf)) : Rn l G dm_Rm_rewrite m_Rm_rewrite (kI fun y' σ' => y' = yf ∧ σ' = σf) 35 [some (.inr (9, 0)), some (.inl x1), some (.inl x2), some (.inl x3), some (.inl x4), some (.inl x5), some (.inl x6), some (.inl x7), some (.inl x8), o9] [] σ := by
  unfold fb_Rm_rewrite_35 at h
  obtain ⟨h1, h⟩ := kg_some h
  refine s_Rm_rewrite_35 h1 (fun c => ?_) (fun c => ?_)
  · rw [if_pos c] at h
    exact e_Rm_rewrite_50 hk12 h
  · rw [if_neg c] at h
    exact e_Rm_rewrite_40 hk12 h
def fb_Rm_rewrite_30 (k12 : Int → Int → Int → Int → Int → Int → Int → Int → kS → kRes) (x1 : Int) (x2 : Int) (x3 : Int) (x4 : Int) (x5 : Int) (x6 : Int) (x7 : Int) (x8 : Int) (σ : kS) : kRes := kg ((-2147483648 ≤ x7 ∧ x7 < 2147483648)) (if x7 < 0 then fb_Rm_rewrite_40 k12 x1 x2 x3 x4 x5 x6 x7 x8 σ else fb_Rm_rewrite_35 k12 x1 x2 x3 x4 x5 x6 x7 x8 σ)
theorem e_Rm_rewrite_30 {l : Launch} {G : kG} {yf : Int} {σf : kS} {k12 : Int → Int → Int → Int → Int → Int → Int → Int → kS → kRes} (hk12 : ∀ (x1 : Int) (x2 : Int) (x3 : Int) (x4 : Int) (x5 : Int) (x6 : Int) (x7 : Int) (x8 : Int) (o9 : Option kV) (σ : kS), k12 x1 x2 x3 x4 x5 x6 x7 x8 σ = some (some yf, σf) → Rn l G dm_Rm_rewrite m_Rm_rewrite (kI fun y' σ' => y' = yf ∧ σ' = σf) 12 [some (.inr (9, 0)), some (.inl x1), some (.inl x2), some (.inl x3), some (.inl x4), some (.inl x5), some (.inl x6), some (.inl x7), some (.inl x8), o9] [] σ) {x1 : Int} {x2 : Int} {x3 : Int} {x4 : Int} {x5 : Int} {x6 : Int} {x7 : Int} {x8 : Int} {o9 : Option kV} {σ : kS} (h : fb_Rm_rewrite_30 k12 x1 x2 x3 x4 x5 x6 x7 x8 σ = some (some yf, σf)) : Rn l G dm_Rm_rewrite m_Rm_rewrite (kI fun y' σ' => y' = yf ∧ σ' = σf) 30 [some (.inr (9, 0)), some (.inl x1), some (.inl x2), some (.inl x3), some (.inl x4), some (.inl x5), some (.inl x6), some (.inl x7), some (.inl x8), o9] [] σ := by
  unfold fb_Rm_rewrite_30 at h
  obtain ⟨h1, h⟩ := kg_some h
  refine s_Rm_rewrite_30 h1 (fun c => ?_) (fun c => ?_)
  · rw [if_pos c] at h
    exact e_Rm_rewrite_40 hk12 h
  · rw [if_neg c] at h
    exact e_Rm_rewrite_35 hk12 h
def fb_Rm_rewrite_23 (k12 : Int → Int → Int → Int → Int → Int → Int → Int → kS → kRes) (x1 : Int) (x2 : Int) (x3 : Int) (x4 : Int) (x5 : Int) (x6 : Int) (x7 : Int) (x8 : Int) (σ : kS) : kRes := kg ((-2147483648 ≤ x5 ∧ x5 < 2147483648)) (if 20 < x5 then fb_Rm_rewrite_121  x1 x2 x3 x4 x5 x6 x7 x8 σ else fb_Rm_rewrite_30 k12 x1 x2 x3 x4 x5 x6 x7 x8 σ)
theorem e_Rm_rewrite_23 {l : Launch} {G : kG} {yf : Int} {σf : kS} {k12 : Int → Int → Int → Int → Int → Int → Int → Int → kS → kRes} (hk12 : ∀ (x1 : Int) (x2 : Int) (x3 : Int) (x4 : Int) (x5 : Int) (x6 : Int) (x7 : Int) (x8 : Int) (o9 : Option kV) (σ : kS), k12 x1 x2 x3 x4 x5 x6 x7 x8 σ = some (some yf, σf) → Rn l G dm_Rm_rewrite m_Rm_rewrite (kI fun y' σ' => y' = yf ∧ σ' = σf) 12 [some (.inr (9, 0)), some (.inl x1), some (.inl x2), some (.inl x3), some (.inl x4), some (.inl x5), some (.inl x6), some (.inl x7), some (.inl x8), o9] [] σ) {x1 : Int} {x2 : Int} {x3 : Int} {x4 : Int} {x5 : Int} {x6 : Int} {x7 : Int} {x8 : Int} {o9 : Option kV} {σ : kS} (h : fb_Rm_rewrite_23 k12 x1 x2 x3 x4 x5 x6 x7 x8 σ = some (some yf, σf)) : Rn l G dm_Rm_rewrite m_Rm_rewrite (kI fun y' σ' => y' = yf ∧ σ' = σf) 23 [some (.inr (9, 0)), some (.inl x1), some (.inl x2), some (.inl x3), some (.inl x4), some (.inl x5), some (.inl x6), some (.inl x7), some (.inl x8), o9] [] σ := by
  unfold fb_Rm_rewrite_23 at h
  obtain ⟨h1, h⟩ := kg_some h
  refine s_Rm_rewrite_23 h1 (fun c => ?_) (fun c => ?_)
  · rw [if_pos c] at h
    exact e_Rm_rewrite_121  h
  · rw [if_neg c] at h
    exact e_Rm_rewrite_30 hk12 h
def fb_Rm_rewrite_12 (k12 : Int → Int → Int → Int → Int → Int → Int → Int → kS → kRes) (x1 : Int) (x2 : Int) (x3 : Int) (x4 : Int) (x5 : Int) (x6 : Int) (x7 : Int) (x8 : Int) (σ : kS) : kRes := kg ((0 ≤ x1 ∧ x1 < (100 : Nat)) ∧ (-2147483648 ≤ x8 ∧ x8 < 2147483648) ∧ (-2147483648 ≤ σ 21 0 (Int.toNat x1) ∧ σ 21 0 (Int.toNat x1) < 2147483648)) (if (σ 21 0 (Int.toNat x1)) < x8 then fb_Rm_rewrite_121  x1 x2 x3 x4 x5 x6 x7 x8 σ else fb_Rm_rewrite_23 k12 x1 x2 x3 x4 x5 x6 x7 x8 σ)
theorem e_Rm_rewrite_12 {l : Launch} {G : kG} {yf : Int} {σf : kS} {k12 : Int → Int → Int → Int → Int → Int → Int → Int → kS → kRes} (hk12 : ∀ (x1 : Int) (x2 : Int) (x3 : Int) (x4 : Int) (x5 : Int) (x6 : Int) (x7 : Int) (x8 : Int) (o9 : Option kV) (σ : kS), k12 x1 x2 x3 x4 x5 x6 x7 x8 σ = some (some yf, σf) → Rn l G dm_Rm_rewrite m_Rm_rewrite (kI fun y' σ' => y' = yf ∧ σ' = σf) 12 [some (.inr (9, 0)), some (.inl x1), some (.inl x2), some (.inl x3), some (.inl x4), some (.inl x5), some (.inl x6), some (.inl x7), some (.inl x8), o9] [] σ) {x1 : Int} {x2 : Int} {x3 : Int} {x4 : Int} {x5 : Int} {x6 : Int} {x7 : Int} {x8 : Int} {o9 : Option kV} {σ : kS} (h : fb_Rm_rewrite_12 k12 x1 x2 x3 x4 x5 x6 x7 x8 σ = some (some yf, σf)) : Rn l G dm_Rm_rewrite m_Rm_rewrite (kI fun y' σ' => y' = yf ∧ σ' = σf) 12 [some (.inr (9, 0)), some (.inl x1), some (.inl x2), some (.inl x3), some (.inl x4), some (.inl x5), some (.inl x6), some (.inl x7), some (.inl x8), o9] [] σ := by
  unfold fb_Rm_rewrite_12 at h
  obtain ⟨⟨h1, h2, h3⟩, h⟩ := kg_some h
  refine s_Rm_rewrite_12 h1 h2 h3 (fun c => ?_) (fun c => ?_)
  · rw [if_pos c] at h
    exact e_Rm_rewrite_121  h
  · rw [if_neg c] at h
    exact e_Rm_rewrite_23 hk12 h
def fl_Rm_rewrite_12  : Nat → Int → Int → Int → Int → Int → Int → Int → Int → kS → kRes
  | 0, _, _, _, _, _, _, _, _, _ => none
  | n + 1, x1, x2, x3, x4, x5, x6, x7, x8, σ => fb_Rm_rewrite_12 (fl_Rm_rewrite_12  n) x1 x2 x3 x4 x5 x6 x7 x8 σ
theorem el_Rm_rewrite_12 {l : Launch} {G : kG} {yf : Int} {σf : kS}  : ∀ (n : Nat) (x1 : Int) (x2 : Int) (x3 : Int) (x4 : Int) (x5 : Int) (x6 : Int) (x7 : Int) (x8 : Int) (o9 : Option kV) (σ : kS), fl_Rm_rewrite_12  n x1 x2 x3 x4 x5 x6 x7 x8 σ = some (some yf, σf) → Rn l G dm_Rm_rewrite m_Rm_rewrite (kI fun y' σ' => y' = yf ∧ σ' = σf) 12 [some (.inr (9, 0)), some (.inl x1), some (.inl x2), some (.inl x3), some (.inl x4), some (.inl x5), some (.inl x6), some (.inl x7), some (.inl x8), o9] [] σ := by
  intro n
  induction n with
  | zero => intro x1 x2 x3 x4 x5 x6 x7 x8 o9 σ h; simp only [fl_Rm_rewrite_12] at h; cases h
  | succ n ih => intro x1 x2 x3 x4 x5 x6 x7 x8 o9 σ h; simp only [fl_Rm_rewrite_12] at h; exact e_Rm_rewrite_12 ih h
def fb_Rm_rewrite_0  (x1 : Int) (x2 : Int) (x3 : Int) (x4 : Int) (σ : kS) : kRes := fl_Rm_rewrite_12  3000 x1 x2 x3 x4 0 0 (-1) 0 σ
theorem e_Rm_rewrite_0 {l : Launch} {G : kG} {yf : Int} {σf : kS}  {x1 : Int} {x2 : Int} {x3 : Int} {x4 : Int} {o5 : Option kV} {o6 : Option kV} {o7 : Option kV} {o8 : Option kV} {o9 : Option kV} {σ : kS} (h : fb_Rm_rewrite_0  x1 x2 x3 x4 σ = some (some yf, σf)) : Rn l G dm_Rm_rewrite m_Rm_rewrite (kI fun y' σ' => y' = yf ∧ σ' = σf) 0 [some (.inr (9, 0)), some (.inl x1), some (.inl x2), some (.inl x3), some (.inl x4), o5, o6, o7, o8, o9] [] σ := by
  unfold fb_Rm_rewrite_0 at h
  refine s_Rm_rewrite_0  ?_
  exact el_Rm_rewrite_12  _ _ _ _ _ _ _ _ _ _ _ h
def f_Rm_rewrite (x1 : Int) (x2 : Int) (x3 : Int) (x4 : Int) (σ : kS) : kRes := fb_Rm_rewrite_0 x1 x2 x3 x4 σ
theorem E_Rm_rewrite {l : Launch} {G : kG} {yf : Int} {σf : kS} {x1 : Int} {x2 : Int} {x3 : Int} {x4 : Int} {σ : kS} (h : f_Rm_rewrite x1 x2 x3 x4 σ = some (some yf, σf)) : Call l G dm_Rm_rewrite y_Rm_rewrite m_Rm_rewrite [.inr (9, 0), .inl x1, .inl x2, .inl x3, .inl x4] σ (kI fun y' σ' => y' = yf ∧ σ' = σf) := by
  unfold f_Rm_rewrite at h
  exact Call.of (by decide +kernel) rfl (Nat.le_of_ble_eq_true rfl) (e_Rm_rewrite_0 h)
/-! Rm_exchange -/
def fb_Rm_exchange_236  (x1 : Int) (x2 : Int) (x3 : Int) (x4 : Int) (x5 : Int) (x6 : Int) (σ : kS) : kRes := some (some 1, σ)
theorem e_Rm_exchange_236 {l : Launch} {G : kG} {yf : Int} {σf : kS}  {x1 : Int} {x2 : Int} {x3 : Int} {x4 : Int} {x5 : Int} {x6 : Int} {o7 : Option kV} {o8 : Option kV} {σ : kS} (h : fb_Rm_exchange_236  x1 x2 x3 x4 x5 x6 σ = some (some yf, σf)) : Rn l G dm_Rm_exchange m_Rm_exchange (kI fun y' σ' => y' = yf ∧ σ' = σf) 236 [some (.inr (9, 0)), some (.inl x1), some (.inl x2), some (.inl x3), some (.inl x4), some (.inl x5), some (.inl x6), o7, o8] [] σ := by
  unfold fb_Rm_exchange_236 at h
  simp only [Option.some.injEq, Prod.mk.injEq, true_and] at h
  exact s_Rm_exchange_236  ⟨_, rfl, h⟩
def fb_Rm_exchange_230 (k135 : Int → Int → Int → Int → Int → Int → kS → kRes) (x1 : Int) (x2 : Int) (x3 : Int) (x4 : Int) (x5 : Int) (x6 : Int) (x7 : Int) (σ : kS) : kRes := k135 x1 x2 x3 x4 x5 (x6 + 1) σ
theorem e_Rm_exchange_230 {l : Launch} {G : kG} {yf : Int} {σf : kS} {k135 : Int → Int → Int → Int → Int → Int → kS → kRes} (hk135 : ∀ (x1 : Int) (x2 : Int) (x3 : Int) (x4 : Int) (x5 : Int) (x6 : Int) (o7 : Option kV) (o8 : Option kV) (σ : kS), k135 x1 x2 x3 x4 x5 x6 σ = some (some yf, σf) → Rn l G dm_Rm_exchange m_Rm_exchange (kI fun y' σ' => y' = yf ∧ σ' = σf) 135 [some (.inr (9, 0)), some (.inl x1), some (.inl x2), some (.inl x3), some (.inl x4), some (.inl x5), some (.inl x6), o7, o8] [] σ) {x1 : Int} {x2 : Int} {x3 : Int} {x4 : Int} {x5 : Int} {x6 : Int} {x7 : Int} {o8 : Option kV} {σ : kS} (h : fb_Rm_exchange_230 k135 x1 x2 x3 x4 x5 x6 x7 σ = some (some yf, σf)) : Rn l G dm_Rm_exchange m_Rm_exchange (kI fun y' σ' => y' = yf ∧ σ' = σf) 230 [some (.inr (9, 0)), some (.inl x1), some (.inl x2), some (.inl x3), some (.inl x4), some (.inl x5), some (.inl x6), some (.inl x7), o8] [] σ := by
  unfold fb_Rm_exchange_230 at h
  refine s_Rm_exchange_230  ?_
  exact hk135 _ _ _ _ _ _ _ _ _ h
def fb_Rm_exchange_221 (k135 : Int → Int → Int → Int → Int → Int → kS → kRes) (x1 : Int) (x2 : Int) (x3 : Int) (x4 : Int) (x5 : Int) (x6 : Int) (x7 : Int) (x8 : Int) (σ : kS) : kRes := kg ((0 ≤ x6 ∧ x6 < (100 : Nat))) (fb_Rm_exchange_230 k135 x1 x2 x3 x4 x5 x6 x7 (kup σ 21 0 (Int.toNat x6) x7))
theorem e_Rm_exchange_221 {l : Launch} {G : kG} {yf : Int} {σf : kS} {k135 : Int → Int → Int → Int → Int → Int → kS → kRes} (hk135 : ∀ (x1 : Int) (x2 : Int) (x3 : Int) (x4 : Int) (x5 : Int) (x6 : Int) (o7 : Option kV) (o8 : Option kV) (σ : kS), k135 x1 x2 x3 x4 x5 x6 σ = some (some yf, σf) → Rn l G dm_Rm_exchange m_Rm_exchange (kI fun y' σ' => y' = yf ∧ σ' = σf) 135 [some (.inr (9, 0)), some (.inl x1), some (.inl x2), some (.inl x3), some (.inl x4), some (.inl x5), some (.inl x6), o7, o8] [] σ) {x1 : Int} {x2 : Int} {x3 : Int} {x4 : Int} {x5 : Int} {x6 : Int} {x7 : Int} {x8 : Int}  {σ : kS} (h : fb_Rm_exchange_221 k135 x1 x2 x3 x4 x5 x6 x7 x8 σ = some (some yf, σf)) : Rn l G dm_Rm_exchange m_Rm_exchange (kI fun y' σ' => y' = yf ∧ σ' = σf) 221 [some (.inr (9, 0)), some (.inl x1), some (.inl x2), some (.inl x3), some (.inl x4), some (.inl x5), some (.inl x6), some (.inl x7), some (.inl x8)] [] σ := by
  unfold fb_Rm_exchange_221 at h
  obtain ⟨h1, h⟩ := kg_some h
  refine s_Rm_exchange_221 h1 ?_
  exact e_Rm_exchange_230 hk135 h
def fb_Rm_exchange_195 (k188 : Int → Int → Int → Int → Int → Int → Int → Int → kS → kRes) (x1 : Int) (x2 : Int) (x3 : Int) (x4 : Int) (x5 : Int) (x6 : Int) (x7 : Int) (x8 : Int) (σ : kS) : kRes := kg ((0 ≤ x8 ∧ x8 < (20 : Nat)) ∧ (0 ≤ (20 * x6) + x8 ∧ (20 * x6) + x8 < (2000 : Nat))) (k188 x1 x2 x3 x4 x5 x6 x7 (x8 + 1) (kup σ 20 0 (Int.toNat ((20 * x6) + x8)) (σ 33 0 (Int.toNat x8))))
theorem e_Rm_exchange_195 {l : Launch} {G : kG} {yf : Int} {σf : kS} {k188 : Int → Int → Int → Int → Int → Int → Int → Int → kS → kRes} (hk188 : ∀ (x1 : Int) (x2 : Int) (x3 : Int) (x4 : Int) (x5 : Int) (x6 : Int) (x7 : Int) (x8 : Int)  (σ : kS), k188 x1 x2 x3 x4 x5 x6 x7 x8 σ = some (some yf, σf) → Rn l G dm_Rm_exchange m_Rm_exchange (kI fun y' σ' => y' = yf ∧ σ' = σf) 188 [some (.inr (9, 0)), some (.inl x1), some (.inl x2), some (.inl x3), some (.inl x4), some (.inl x5), some (.inl x6), some (.inl x7), some (.inl x8)] [] σ) {x1 : Int} {x2 : Int} {x3 : Int} {x4 : Int} {x5 : Int} {x6 : Int} {x7 : Int} {x8 : Int}  {σ : kS} (h : fb_Rm_exchange_195 k188 x1 x2 x3 x4 x5 x6 x7 x8 σ = some (some yf, σf)) : Rn l G dm_Rm_exchange m_Rm_exchange (kI fun y' σ' => y' = yf ∧ σ' = σf) 195 [some (.inr (9, 0)), some (.inl x1), some (.inl x2), some (.inl x3), some (.inl x4), some (.inl x5), some (.inl x6), some (.inl x7), some (.inl x8)] [] σ := by
  unfold fb_Rm_exchange_195 at h
  obtain ⟨⟨h1, h2⟩, h⟩ := kg_some h
  refine s_Rm_exchange_195 h1 h2 ?_
  exact hk188 _ _ _ _ _ _ _ _ _ h
def fb_Rm_exchange_188 (k135 : Int → Int → Int → Int → Int → Int → kS → kRes) (k188 : Int → Int → Int → Int → Int → Int → Int → Int → kS → kRes) (x1 : Int) (x2 : Int) (x3 : Int) (x4 : Int) (x5 : Int) (x6 : Int) (x7 : Int) (x8 : Int) (σ : kS) : kRes := kg ((-2147483648 ≤ x8 ∧ x8 < 2147483648) ∧ (-2147483648 ≤ x7 ∧ x7 < 2147483648)) (if x7 ≤ x8 then fb_Rm_exchange_221 k135 x1 x2 x3 x4 x5 x6 x7 x8 σ else fb_Rm_exchange_195 k188 x1 x2 x3 x4 x5 x6 x7 x8 σ)
theorem e_Rm_exchange_188 {l : Launch} {G : kG} {yf : Int} {σf : kS} {k135 : Int → Int → Int → Int → Int → Int → kS → kRes} (hk135 : ∀ (x1 : Int) (x2 : Int) (x3 : Int) (x4 : Int) (x5 : Int) (x6 : Int) (o7 : Option kV) (o8 : Option kV) (σ : kS), k135 x1 x2 x3 x4 x5 x6 σ = some (some yf, σf) → Rn l G dm_Rm_exchange m_Rm_exchange (kI fun y' σ' => y' = yf ∧ σ' = σf) 135 [some (.inr (9, 0)), some (.inl x1), some (.inl x2), some (.inl x3), some (.inl x4), some (.inl x5), some (.inl x6), o7, o8] [] σ) {k188 : Int → Int → Int → Int → Int → Int → Int → Int → kS → kRes} (hk188 : ∀ (x1 : Int) (x2 : Int) (x3 : Int) (x4 : Int) (x5 : Int) (x6 : Int) (x7 : Int) (x8 : Int)  (σ : kS), k188 x1 x2 x3 x4 x5 x6 x7 x8 σ = some (some yf, σf) → Rn l G dm_Rm_exchange m_Rm_exchange (kI fun y' σ' => y' = yf ∧ σ' = σf) 188 [some (.inr (9, 0)), some (.inl x1), some (.inl x2), some (.inl x3), some (.inl x4), some (.inl x5), some (.inl x6), some (.inl x7), some (.inl x8)] [] σ) {x1 : Int} {x2 : Int} {x3 : Int} {x4 : Int} {x5 : Int} {x6 : Int} {x7 : Int} {x8 : Int}  {σ : kS} (h : fb_Rm_exchange_188 k135 k188 x1 x2 x3 x4 x5 x6 x7 x8 σ = some (some yf, σf)) : Rn l G dm_Rm_exchange m_Rm_exchange (kI fun y' σ' => y' = yf ∧ σ' = σf) 188 [some (.inr (9, 0)), some (.inl x1), some (.inl x2), some (.inl x3), some (.inl x4), some (.inl x5), some (.inl x6), some (.inl x7), some (.inl x8)] [] σ := by
  unfold fb_Rm_exchange_188 at h
  obtain ⟨⟨h1, h2⟩, h⟩ := kg_some h
  refine s_Rm_exchange_188 h1 h2 (fun c => ?_) (fun c => ?_)
  · rw [if_pos c] at h
    exact e_Rm_exchange_221 hk135 h
  · rw [if_neg c] at h
    exact e_Rm_exchange_195 hk188 h
def fl_Rm_exchange_188 (k135 : Int → Int → Int → Int → Int → Int → kS → kRes) : Nat → Int → Int → Int → Int → Int → Int → Int → Int → kS → kRes
  | 0, _, _, _, _, _, _, _, _, _ => none
  | n + 1, x1, x2, x3, x4, x5, x6, x7, x8, σ => fb_Rm_exchange_188 k135 (fl_Rm_exchange_188 k135 n) x1 x2 x3 x4 x5 x6 x7 x8 σ
theorem el_Rm_exchange_188 {l : Launch} {G : kG} {yf : Int} {σf : kS} {k135 : Int → Int → Int → Int → Int → Int → kS → kRes} (hk135 : ∀ (x1 : Int) (x2 : Int) (x3 : Int) (x4 : Int) (x5 : Int) (x6 : Int) (o7 : Option kV) (o8 : Option kV) (σ : kS), k135 x1 x2 x3 x4 x5 x6 σ = some (some yf, σf) → Rn l G dm_Rm_exchange m_Rm_exchange (kI fun y' σ' => y' = yf ∧ σ' = σf) 135 [some (.inr (9, 0)), some (.inl x1), some (.inl x2), some (.inl x3), some (.inl x4), some (.inl x5), some (.inl x6), o7, o8] [] σ) : ∀ (n : Nat) (x1 : Int) (x2 : Int) (x3 : Int) (x4 : Int) (x5 : Int) (x6 : Int) (x7 : Int) (x8 : Int)  (σ : kS), fl_Rm_exchange_188 k135 n x1 x2 x3 x4 x5 x6 x7 x8 σ = some (some yf, σf) → Rn l G dm_Rm_exchange m_Rm_exchange (kI fun y' σ' => y' = yf ∧ σ' = σf) 188 [some (.inr (9, 0)), some (.inl x1), some (.inl x2), some (.inl x3), some (.inl x4), some (.inl x5), some (.inl x6), some (.inl x7), some (.inl x8)] [] σ := by
  intro n
  induction n with
  | zero => intro x1 x2 x3 x4 x5 x6 x7 x8 σ h; simp only [fl_Rm_exchange_188] at h; cases h
  | succ n ih => intro x1 x2 x3 x4 x5 x6 x7 x8 σ h; simp only [fl_Rm_exchange_188] at h; exact e_Rm_exchange_188 hk135 ih h
def fb_Rm_exchange_185 (k135 : Int → Int → Int → Int → Int → Int → kS → kRes) (x1 : Int) (x2 : Int) (x3 : Int) (x4 : Int) (x5 : Int) (x6 : Int) (x7 : Int) (σ : kS) : kRes := fl_Rm_exchange_188 k135 3000 x1 x2 x3 x4 x5 x6 x7 0 σ
theorem e_Rm_exchange_185 {l : Launch} {G : kG} {yf : Int} {σf : kS} {k135 : Int → Int → Int → Int → Int → Int → kS → kRes} (hk135 : ∀ (x1 : Int) (x2 : Int) (x3 : Int) (x4 : Int) (x5 : Int) (x6 : Int) (o7 : Option kV) (o8 : Option kV) (σ : kS), k135 x1 x2 x3 x4 x5 x6 σ = some (some yf, σf) → Rn l G dm_Rm_exchange m_Rm_exchange (kI fun y' σ' => y' = yf ∧ σ' = σf) 135 [some (.inr (9, 0)), some (.inl x1), some (.inl x2), some (.inl x3), some (.inl x4), some (.inl x5), some (.inl x6), o7, o8] [] σ) {x1 : Int} {x2 : Int} {x3 : Int} {x4 : Int} {x5 : Int} {x6 : Int} {x7 : Int} {o8 : Option kV} {σ : kS} (h : fb_Rm_exchange_185 k135 x1 x2 x3 x4 x5 x6 x7 σ = some (some yf, σf)) : Rn l G dm_Rm_exchange m_Rm_exchange (kI fun y' σ' => y' = yf ∧ σ' = σf) 185 [some (.inr (9, 0)), some (.inl x1), some (.inl x2), some (.inl x3), some (.inl x4), some (.inl x5), some (.inl x6), some (.inl x7), o8] [] σ := by
  unfold fb_Rm_exchange_185 at h
  refine s_Rm_exchange_185  ?_
  exact el_Rm_exchange_188 hk135 _ _ _ _ _ _ _ _ _ _ h
def fb_Rm_exchange_168 (k135 : Int → Int → Int → Int → Int → Int → kS → kRes) (x1 : Int) (x2 : Int) (x3 : Int) (x4 : Int) (x5 : Int) (x6 : Int) (x7 : Int) (σ : kS) : kRes := kbu (f_Rm_place x6 0 (kup σ 9 0 31 ((σ 9 0 31) + 1))) fun σ1 => fb_Rm_exchange_185 k135 x1 x2 x3 x4 x5 x6 x7 σ1
theorem e_Rm_exchange_168 {l : Launch} {G : kG} {yf : Int} {σf : kS} {k135 : Int → Int → Int → Int → Int → Int → kS → kRes} (hk135 : ∀ (x1 : Int) (x2 : Int) (x3 : Int) (x4 : Int) (x5 : Int) (x6 : Int) (o7 : Option kV) (o8 : Option kV) (σ : kS), k135 x1 x2 x3 x4 x5 x6 σ = some (some yf, σf) → Rn l G dm_Rm_exchange m_Rm_exchange (kI fun y' σ' => y' = yf ∧ σ' = σf) 135 [some (.inr (9, 0)), some (.inl x1), some (.inl x2), some (.inl x3), some (.inl x4), some (.inl x5), some (.inl x6), o7, o8] [] σ) {x1 : Int} {x2 : Int} {x3 : Int} {x4 : Int} {x5 : Int} {x6 : Int} {x7 : Int} {o8 : Option kV} {σ : kS} (h : fb_Rm_exchange_168 k135 x1 x2 x3 x4 x5 x6 x7 σ = some (some yf, σf)) : Rn l G dm_Rm_exchange m_Rm_exchange (kI fun y' σ' => y' = yf ∧ σ' = σf) 168 [some (.inr (9, 0)), some (.inl x1), some (.inl x2), some (.inl x3), some (.inl x4), some (.inl x5), some (.inl x6), some (.inl x7), o8] [] σ := by
  unfold fb_Rm_exchange_168 at h
  obtain ⟨σ1, hc, h⟩ := kbu_some h
  refine s_Rm_exchange_168  (by decide) (E_Rm_place hc) (fun σ2 e2 => ?_)
  subst e2
  exact e_Rm_exchange_185 hk135 h
def fb_Rm_exchange_163 (k135 : Int → Int → Int → Int → Int → Int → kS → kRes) (x1 : Int) (x2 : Int) (x3 : Int) (x4 : Int) (x5 : Int) (x6 : Int) (x7 : Int) (σ : kS) : kRes := kg ((-2147483648 ≤ x7 ∧ x7 < 2147483648)) (if x7 < 0 then fb_Rm_exchange_230 k135 x1 x2 x3 x4 x5 x6 x7 σ else fb_Rm_exchange_168 k135 x1 x2 x3 x4 x5 x6 x7 σ)
theorem e_Rm_exchange_163 {l : Launch} {G : kG} {yf : Int} {σf : kS} {k135 : Int → Int → Int → Int → Int → Int → kS → kRes} (hk135 : ∀ (x1 : Int) (x2 : Int) (x3 : Int) (x4 : Int) (x5 : Int) (x6 : Int) (o7 : Option kV) (o8 : Option kV) (σ : kS), k135 x1 x2 x3 x4 x5 x6 σ = some (some yf, σf) → Rn l G dm_Rm_exchange m_Rm_exchange (kI fun y' σ' => y' = yf ∧ σ' = σf) 135 [some (.inr (9, 0)), some (.inl x1), some (.inl x2), some (.inl x3), some (.inl x4), some (.inl x5), some (.inl x6), o7, o8] [] σ) {x1 : Int} {x2 : Int} {x3 : Int} {x4 : Int} {x5 : Int} {x6 : Int} {x7 : Int} {o8 : Option kV} {σ : kS} (h : fb_Rm_exchange_163 k135 x1 x2 x3 x4 x5 x6 x7 σ = some (some yf, σf)) : Rn l G dm_Rm_exchange m_Rm_exchange (kI fun y' σ' => y' = yf ∧ σ' = σf) 163 [some (.inr (9, 0)), some (.inl x1), some (.inl x2), some (.inl x3), some (.inl x4), some (.inl x5), some (.inl x6), some (.inl x7), o8] [] σ := by
  unfold fb_Rm_exchange_163 at h
  obtain ⟨h1, h⟩ := kg_some h
  refine s_Rm_exchange_163 h1 (fun c => ?_) (fun c => ?_)
  · rw [if_pos c] at h
    exact e_Rm_exchange_230 hk135 h
  · rw [if_neg c] at h
    exact e_Rm_exchange_168 hk135 h
def fb_Rm_exchange_161  (x1 : Int) (x2 : Int) (x3 : Int) (x4 : Int) (x5 : Int) (x6 : Int) (x7 : Int) (σ : kS) : kRes := some (some 0, σ)
theorem e_Rm_exchange_161 {l : Launch} {G : kG} {yf : Int} {σf : kS}  {x1 : Int} {x2 : Int} {x3 : Int} {x4 : Int} {x5 : Int} {x6 : Int} {x7 : Int} {o8 : Option kV} {σ : kS} (h : fb_Rm_exchange_161  x1 x2 x3 x4 x5 x6 x7 σ = some (some yf, σf)) : Rn l G dm_Rm_exchange m_Rm_exchange (kI fun y' σ' => y' = yf ∧ σ' = σf) 161 [some (.inr (9, 0)), some (.inl x1), some (.inl x2), some (.inl x3), some (.inl x4), some (.inl x5), some (.inl x6), some (.inl x7), o8] [] σ := by
  unfold fb_Rm_exchange_161 at h
  simp only [Option.some.injEq, Prod.mk.injEq, true_and] at h
  exact s_Rm_exchange_161  ⟨_, rfl, h⟩
def fb_Rm_exchange_152 (k135 : Int → Int → Int → Int → Int → Int → kS → kRes) (x1 : Int) (x2 : Int) (x3 : Int) (x4 : Int) (x5 : Int) (x6 : Int) (s0 : Int) (σ : kS) : kRes := kg ((-2147483648 ≤ s0 ∧ s0 < 2147483648)) (if s0 = (-2) then fb_Rm_exchange_161  x1 x2 x3 x4 x5 x6 s0 σ else fb_Rm_exchange_163 k135 x1 x2 x3 x4 x5 x6 s0 σ)
theorem e_Rm_exchange_152 {l : Launch} {G : kG} {yf : Int} {σf : kS} {k135 : Int → Int → Int → Int → Int → Int → kS → kRes} (hk135 : ∀ (x1 : Int) (x2 : Int) (x3 : Int) (x4 : Int) (x5 : Int) (x6 : Int) (o7 : Option kV) (o8 : Option kV) (σ : kS), k135 x1 x2 x3 x4 x5 x6 σ = some (some yf, σf) → Rn l G dm_Rm_exchange m_Rm_exchange (kI fun y' σ' => y' = yf ∧ σ' = σf) 135 [some (.inr (9, 0)), some (.inl x1), some (.inl x2), some (.inl x3), some (.inl x4), some (.inl x5), some (.inl x6), o7, o8] [] σ) {x1 : Int} {x2 : Int} {x3 : Int} {x4 : Int} {x5 : Int} {x6 : Int} {s0 : Int} {o7 : Option kV} {o8 : Option kV} {σ : kS} (h : fb_Rm_exchange_152 k135 x1 x2 x3 x4 x5 x6 s0 σ = some (some yf, σf)) : Rn l G dm_Rm_exchange m_Rm_exchange (kI fun y' σ' => y' = yf ∧ σ' = σf) 152 [some (.inr (9, 0)), some (.inl x1), some (.inl x2), some (.inl x3), some (.inl x4), some (.inl x5), some (.inl x6), o7, o8] [.inl s0] σ := by
  unfold fb_Rm_exchange_152 at h
  obtain ⟨h1, h⟩ := kg_some h
  refine s_Rm_exchange_152 h1 (fun c => ?_) (fun c => ?_)
  · rw [if_neg c] at h
    exact e_Rm_exchange_163 hk135 h
  · rw [if_pos c] at h
    exact e_Rm_exchange_161  h
def fb_Rm_exchange_141 (k135 : Int → Int → Int → Int → Int → Int → kS → kRes) (x1 : Int) (x2 : Int) (x3 : Int) (x4 : Int) (x5 : Int) (x6 : Int) (σ : kS) : kRes := kbi (f_Rm_rewrite x6 x3 x4 x5 σ) fun y σ1 => fb_Rm_exchange_152 k135 x1 x2 x3 x4 x5 x6 y σ1
theorem e_Rm_exchange_141 {l : Launch} {G : kG} {yf : Int} {σf : kS} {k135 : Int → Int → Int → Int → Int → Int → kS → kRes} (hk135 : ∀ (x1 : Int) (x2 : Int) (x3 : Int) (x4 : Int) (x5 : Int) (x6 : Int) (o7 : Option kV) (o8 : Option kV) (σ : kS), k135 x1 x2 x3 x4 x5 x6 σ = some (some yf, σf) → Rn l G dm_Rm_exchange m_Rm_exchange (kI fun y' σ' => y' = yf ∧ σ' = σf) 135 [some (.inr (9, 0)), some (.inl x1), some (.inl x2), some (.inl x3), some (.inl x4), some (.inl x5), some (.inl x6), o7, o8] [] σ) {x1 : Int} {x2 : Int} {x3 : Int} {x4 : Int} {x5 : Int} {x6 : Int} {o7 : Option kV} {o8 : Option kV} {σ : kS} (h : fb_Rm_exchange_141 k135 x1 x2 x3 x4 x5 x6 σ = some (some yf, σf)) : Rn l G dm_Rm_exchange m_Rm_exchange (kI fun y' σ' => y' = yf ∧ σ' = σf) 141 [some (.inr (9, 0)), some (.inl x1), some (.inl x2), some (.inl x3), some (.inl x4), some (.inl x5), some (.inl x6), o7, o8] [] σ := by
  unfold fb_Rm_exchange_141 at h
  obtain ⟨y, σ1, hc, h⟩ := kbi_some h
  refine s_Rm_exchange_141  (by decide) (E_Rm_rewrite hc) (fun y2 σ2 e2 => ?_)
  obtain ⟨rfl, rfl⟩ := e2
  exact e_Rm_exchange_152 hk135 h
def fb_Rm_exchange_135 (k135 : Int → Int → Int → Int → Int → Int → kS → kRes) (x1 : Int) (x2 : Int) (x3 : Int) (x4 : Int) (x5 : Int) (x6 : Int) (σ : kS) : kRes := kg ((-2147483648 ≤ x6 ∧ x6 < 2147483648) ∧ (-2147483648 ≤ x2 ∧ x2 < 2147483648)) (if x2 < x6 then fb_Rm_exchange_236  x1 x2 x3 x4 x5 x6 σ else fb_Rm_exchange_141 k135 x1 x2 x3 x4 x5 x6 σ)
theorem e_Rm_exchange_135 {l : Launch} {G : kG} {yf : Int} {σf : kS} {k135 : Int → Int → Int → Int → Int → Int → kS → kRes} (hk135 : ∀ (x1 : Int) (x2 : Int) (x3 : Int) (x4 : Int) (x5 : Int) (x6 : Int) (o7 : Option kV) (o8 : Option kV) (σ : kS), k135 x1 x2 x3 x4 x5 x6 σ = some (some yf, σf) → Rn l G dm_Rm_exchange m_Rm_exchange (kI fun y' σ' => y' = yf ∧ σ' = σf) 135 [some (.inr (9, 0)), some (.inl x1), some (.inl x2), some (.inl x3), some (.inl x4), some (.inl x5), some (.inl x6), o7, o8] [] σ) {x1 : Int} {x2 : Int} {x3 : Int} {x4 : Int} {x5 : Int} {x6 : Int} {o7 : Option kV} {o8 : Option kV} {σ : kS} (h : fb_Rm_exchange_135 k135 x1 x2 x3 x4 x5 x6 σ = some (some yf, σf)) : Rn l G dm_Rm_exchange m_Rm_exchange (kI fun y' σ' => y' = yf ∧ σ' = σf) 135 [some (.inr (9, 0)), some (.inl x1), some (.inl x2), some (.inl x3), some (.inl x4), some (.inl x5), some (.inl x6), o7, o8] [] σ := by
  unfold fb_Rm_exchange_135 at h
  obtain ⟨⟨h1, h2⟩, h⟩ := kg_some h
  refine s_Rm_exchange_135 h1 h2 (fun c => ?_) (fun c => ?_)
  · rw [if_pos c] at h
    exact e_Rm_exchange_236  h
  · rw [if_neg c] at h
    exact e_Rm_exchange_141 hk135 h
def fl_Rm_exchange_135  : Nat → Int → Int → Int → Int → Int → Int → kS → kRes
  | 0, _, _, _, _, _, _, _ => none
  | n + 1, x1, x2, x3, x4, x5, x6, σ => fb_Rm_exchange_135 (fl_Rm_exchange_135  n) x1 x2 x3 x4 x5 x6 σ
theorem el_Rm_exchange_135 {l : Launch} {G : kG} {yf : Int} {σf : kS}  : ∀ (n : Nat) (x1 : Int) (x2 : Int) (x3 : Int) (x4 : Int) (x5 : Int) (x6 : Int) (o7 : Option kV) (o8 : Option kV) (σ : kS), fl_Rm_exchange_135  n x1 x2 x3 x4 x5 x6 σ = some (some yf, σf) → Rn l G dm_Rm_exchange m_Rm_exchange (kI fun y' σ' => y' = yf ∧ σ' = σf) 135 [some (.inr (9, 0)), some (.inl x1), some (.inl x2), some (.inl x3), some (.inl x4), some (.inl x5), some (.inl x6), o7, o8] [] σ := by
  intro n
  induction n with
  | zero => intro x1 x2 x3 x4 x5 x6 o7 o8 σ h; simp only [fl_Rm_exchange_135] at h; cases h
  | succ n ih => intro x1 x2 x3 x4 x5 x6 o7 o8 σ h; simp only [fl_Rm_exchange_135] at h; exact e_Rm_exchange_135 ih h
def fb_Rm_exchange_132  (x1 : Int) (x2 : Int) (x3 : Int) (x4 : Int) (x5 : Int) (σ : kS) : kRes := fl_Rm_exchange_135  3000 x1 x2 x3 x4 x5 x1 σ
theorem e_Rm_exchange_132 {l : Launch} {G : kG} {yf : Int} {σf : kS}  {x1 : Int} {x2 : Int} {x3 : Int} {x4 : Int} {x5 : Int} {o6 : Option kV} {o7 : Option kV} {o8 : Option kV} {σ : kS} (h : fb_Rm_exchange_132  x1 x2 x3 x4 x5 σ = some (some yf, σf)) : Rn l G dm_Rm_exchange m_Rm_exchange (kI fun y' σ' => y' = yf ∧ σ' = σf) 132 [some (.inr (9, 0)), some (.inl x1), some (.inl x2), some (.inl x3), some (.inl x4), some (.inl x5), o6, o7, o8] [] σ := by
  unfold fb_Rm_exchange_132 at h
  refine s_Rm_exchange_132  ?_
  exact el_Rm_exchange_135  _ _ _ _ _ _ _ _ _ _ h
def fb_Rm_exchange_130  (x1 : Int) (x2 : Int) (x3 : Int) (x4 : Int) (x5 : Int) (σ : kS) : kRes := some (some 0, σ)
theorem e_Rm_exchange_130 {l : Launch} {G : kG} {yf : Int} {σf : kS}  {x1 : Int} {x2 : Int} {x3 : Int} {x4 : Int} {x5 : Int} {o6 : Option kV} {o7 : Option kV} {o8 : Option kV} {σ : kS} (h : fb_Rm_exchange_130  x1 x2 x3 x4 x5 σ = some (some yf, σf)) : Rn l G dm_Rm_exchange m_Rm_exchange (kI fun y' σ' => y' = yf ∧ σ' = σf) 130 [some (.inr (9, 0)), some (.inl x1), some (.inl x2), some (.inl x3), some (.inl x4), some (.inl x5), o6, o7, o8] [] σ := by
  unfold fb_Rm_exchange_130 at h
  simp only [Option.some.injEq, Prod.mk.injEq, true_and] at h
  exact s_Rm_exchange_130  ⟨_, rfl, h⟩
def fb_Rm_exchange_127  (x1 : Int) (x2 : Int) (x3 : Int) (x4 : Int) (x5 : Int) (s0 : Int) (σ : kS) : kRes := kg ((-2147483648 ≤ s0 ∧ s0 < 2147483648)) (if s0 = 0 then fb_Rm_exchange_130  x1 x2 x3 x4 x5 σ else fb_Rm_exchange_132  x1 x2 x3 x4 x5 σ)
theorem e_Rm_exchange_127 {l : Launch} {G : kG} {yf : Int} {σf : kS}  {x1 : Int} {x2 : Int} {x3 : Int} {x4 : Int} {x5 : Int} {s0 : Int} {o6 : Option kV} {o7 : Option kV} {o8 : Option kV} {σ : kS} (h : fb_Rm_exchange_127  x1 x2 x3 x4 x5 s0 σ = some (some yf, σf)) : Rn l G dm_Rm_exchange m_Rm_exchange (kI fun y' σ' => y' = yf ∧ σ' = σf) 127 [some (.inr (9, 0)), some (.inl x1), some (.inl x2), some (.inl x3), some (.inl x4), some (.inl x5), o6, o7, o8] [.inl s0] σ := by
  unfold fb_Rm_exchange_127 at h
  obtain ⟨h1, h⟩ := kg_some h
  refine s_Rm_exchange_127 h1 (fun c => ?_) (fun c => ?_)
  · rw [if_neg c] at h
    exact e_Rm_exchange_132  h
  · rw [if_pos c] at h
    exact e_Rm_exchange_130  h
def fb_Rm_exchange_121  (x1 : Int) (x2 : Int) (x3 : Int) (x4 : Int) (s0 : Int) (σ : kS) : kRes := kbi (f_Rm_ended  σ) fun y σ1 => fb_Rm_exchange_127  x1 x2 x3 x4 s0 y σ1
theorem e_Rm_exchange_121 {l : Launch} {G : kG} {yf : Int} {σf : kS}  {x1 : Int} {x2 : Int} {x3 : Int} {x4 : Int} {s0 : Int} {o5 : Option kV} {o6 : Option kV} {o7 : Option kV} {o8 : Option kV} {σ : kS} (h : fb_Rm_exchange_121  x1 x2 x3 x4 s0 σ = some (some yf, σf)) : Rn l G dm_Rm_exchange m_Rm_exchange (kI fun y' σ' => y' = yf ∧ σ' = σf) 121 [some (.inr (9, 0)), some (.inl x1), some (.inl x2), some (.inl x3), some (.inl x4), o5, o6, o7, o8] [.inl s0] σ := by
  unfold fb_Rm_exchange_121 at h
  obtain ⟨y, σ1, hc, h⟩ := kbi_some h
  refine s_Rm_exchange_121  (by decide) (E_Rm_ended hc) (fun y2 σ2 e2 => ?_)
  obtain ⟨rfl, rfl⟩ := e2
  exact e_Rm_exchange_127  h
def fb_Rm_exchange_105  (x1 : Int) (x2 : Int) (x3 : Int) (x4 : Int) (σ : kS) : kRes := kbi (f_Rm_take 103 (kup σ 9 0 22 ((σ 9 0 22) + 1))) fun y σ1 => fb_Rm_exchange_121  x1 x2 x3 x4 y σ1
theorem e_Rm_exchange_105 {l : Launch} {G : kG} {yf : Int} {σf : kS}  {x1 : Int} {x2 : Int} {x3 : Int} {x4 : Int} {o5 : Option kV} {o6 : Option kV} {o7 : Option kV} {o8 : Option kV} {σ : kS} (h : fb_Rm_exchange_105  x1 x2 x3 x4 σ = some (some yf, σf)) : Rn l G dm_Rm_exchange m_Rm_exchange (kI fun y' σ' => y' = yf ∧ σ' = σf) 105 [some (.inr (9, 0)), some (.inl x1), some (.inl x2), some (.inl x3), some (.inl x4), o5, o6, o7, o8] [] σ := by
  unfold fb_Rm_exchange_105 at h
  obtain ⟨y, σ1, hc, h⟩ := kbi_some h
  refine s_Rm_exchange_105  (by decide) (E_Rm_take hc) (fun y2 σ2 e2 => ?_)
  obtain ⟨rfl, rfl⟩ := e2
  exact e_Rm_exchange_121  h
def fb_Rm_exchange_103  (x1 : Int) (x2 : Int) (x3 : Int) (x4 : Int) (σ : kS) : kRes := some (some 0, σ)
theorem e_Rm_exchange_103 {l : Launch} {G : kG} {yf : Int} {σf : kS}  {x1 : Int} {x2 : Int} {x3 : Int} {x4 : Int} {o5 : Option kV} {o6 : Option kV} {o7 : Option kV} {o8 : Option kV} {σ : kS} (h : fb_Rm_exchange_103  x1 x2 x3 x4 σ = some (some yf, σf)) : Rn l G dm_Rm_exchange m_Rm_exchange (kI fun y' σ' => y' = yf ∧ σ' = σf) 103 [some (.inr (9, 0)), some (.inl x1), some (.inl x2), some (.inl x3), some (.inl x4), o5, o6, o7, o8] [] σ := by
  unfold fb_Rm_exchange_103 at h
  simp only [Option.some.injEq, Prod.mk.injEq, true_and] at h
  exact s_Rm_exchange_103  ⟨_, rfl, h⟩
def fb_Rm_exchange_92  (x1 : Int) (x2 : Int) (x3 : Int) (x4 : Int) (σ : kS) : kRes := kg ((-2147483648 ≤ σ 9 0 22 ∧ σ 9 0 22 < 2147483648) ∧ (-2147483648 ≤ σ 9 0 20 ∧ σ 9 0 20 < 2147483648)) (if (σ 9 0 22) < (σ 9 0 20) then fb_Rm_exchange_105  x1 x2 x3 x4 σ else fb_Rm_exchange_103  x1 x2 x3 x4 σ)
theorem e_Rm_exchange_92 {l : Launch} {G : kG} {yf : Int} {σf : kS}  {x1 : Int} {x2 : Int} {x3 : Int} {x4 : Int} {o5 : Option kV} {o6 : Option kV} {o7 : Option kV} {o8 : Option kV} {σ : kS} (h : fb_Rm_exchange_92  x1 x2 x3 x4 σ = some (some yf, σf)) : Rn l G dm_Rm_exchange m_Rm_exchange (kI fun y' σ' => y' = yf ∧ σ' = σf) 92 [some (.inr (9, 0)), some (.inl x1), some (.inl x2), some (.inl x3), some (.inl x4), o5, o6, o7, o8] [] σ := by
  unfold fb_Rm_exchange_92 at h
  obtain ⟨⟨h1, h2⟩, h⟩ := kg_some h
  refine s_Rm_exchange_92 h1 h2 (fun c => ?_) (fun c => ?_)
  · rw [if_pos c] at h
    exact e_Rm_exchange_105  h
  · rw [if_neg c] at h
    exact e_Rm_exchange_103  h
def fb_Rm_exchange_79  (x1 : Int) (x2 : Int) (x3 : Int) (σ : kS) : kRes := kg ((-2147483648 ≤ σ 9 0 23 ∧ σ 9 0 23 < 2147483648)) (if (σ 9 0 23) = 0 then fb_Rm_exchange_92  x1 x2 x3 (σ 9 0 22) σ else fb_Rm_exchange_103  x1 x2 x3 (σ 9 0 22) σ)
theorem e_Rm_exchange_79 {l : Launch} {G : kG} {yf : Int} {σf : kS}  {x1 : Int} {x2 : Int} {x3 : Int} {o4 : Option kV} {o5 : Option kV} {o6 : Option kV} {o7 : Option kV} {o8 : Option kV} {σ : kS} (h : fb_Rm_exchange_79  x1 x2 x3 σ = some (some yf, σf)) : Rn l G dm_Rm_exchange m_Rm_exchange (kI fun y' σ' => y' = yf ∧ σ' = σf) 79 [some (.inr (9, 0)), some (.inl x1), some (.inl x2), some (.inl x3), o4, o5, o6, o7, o8] [] σ := by
  unfold fb_Rm_exchange_79 at h
  obtain ⟨h1, h⟩ := kg_some h
  refine s_Rm_exchange_79 h1 (fun c => ?_) (fun c => ?_)
  · rw [if_neg c] at h
    exact e_Rm_exchange_103  h
  · rw [if_pos c] at h
    exact e_Rm_exchange_92  h
def fb_Rm_exchange_73 (k20 : Int → Int → Int → kS → kRes) (x1 : Int) (x2 : Int) (x3 : Int) (s0 : Int) (σ : kS) : kRes := k20 x1 x2 x3 (kup σ 9 0 22 s0)
theorem e_Rm_exchange_73 {l : Launch} {G : kG} {yf : Int} {σf : kS} {k20 : Int → Int → Int → kS → kRes} (hk20 : ∀ (x1 : Int) (x2 : Int) (x3 : Int) (o4 : Option kV) (o5 : Option kV) (o6 : Option kV) (o7 : Option kV) (o8 : Option kV) (σ : kS), k20 x1 x2 x3 σ = some (some yf, σf) → Rn l G dm_Rm_exchange m_Rm_exchange (kI fun y' σ' => y' = yf ∧ σ' = σf) 20 [some (.inr (9, 0)), some (.inl x1), some (.inl x2), some (.inl x3), o4, o5, o6, o7, o8] [] σ) {x1 : Int} {x2 : Int} {x3 : Int} {s0 : Int} {o4 : Option kV} {o5 : Option kV} {o6 : Option kV} {o7 : Option kV} {o8 : Option kV} {σ : kS} (h : fb_Rm_exchange_73 k20 x1 x2 x3 s0 σ = some (some yf, σf)) : Rn l G dm_Rm_exchange m_Rm_exchange (kI fun y' σ' => y' = yf ∧ σ' = σf) 73 [some (.inr (9, 0)), some (.inl x1), some (.inl x2), some (.inl x3), o4, o5, o6, o7, o8] [.inl s0, .inr (9, 0)] σ := by
  unfold fb_Rm_exchange_73 at h
  refine s_Rm_exchange_73  ?_
  exact hk20 _ _ _ _ _ _ _ _ _ h
def fb_Rm_exchange_67 (k20 : Int → Int → Int → kS → kRes) (x1 : Int) (x2 : Int) (x3 : Int) (σ : kS) : kRes := fb_Rm_exchange_73 k20 x1 x2 x3 ((σ 9 0 22) + 1) σ
theorem e_Rm_exchange_67 {l : Launch} {G : kG} {yf : Int} {σf : kS} {k20 : Int → Int → Int → kS → kRes} (hk20 : ∀ (x1 : Int) (x2 : Int) (x3 : Int) (o4 : Option kV) (o5 : Option kV) (o6 : Option kV) (o7 : Option kV) (o8 : Option kV) (σ : kS), k20 x1 x2 x3 σ = some (some yf, σf) → Rn l G dm_Rm_exchange m_Rm_exchange (kI fun y' σ' => y' = yf ∧ σ' = σf) 20 [some (.inr (9, 0)), some (.inl x1), some (.inl x2), some (.inl x3), o4, o5, o6, o7, o8] [] σ) {x1 : Int} {x2 : Int} {x3 : Int} {o4 : Option kV} {o5 : Option kV} {o6 : Option kV} {o7 : Option kV} {o8 : Option kV} {σ : kS} (h : fb_Rm_exchange_67 k20 x1 x2 x3 σ = some (some yf, σf)) : Rn l G dm_Rm_exchange m_Rm_exchange (kI fun y' σ' => y' = yf ∧ σ' = σf) 67 [some (.inr (9, 0)), some (.inl x1), some (.inl x2), some (.inl x3), o4, o5, o6, o7, o8] [.inr (9, 0)] σ := by
  unfold fb_Rm_exchange_67 at h
  refine s_Rm_exchange_67  ?_
  exact e_Rm_exchange_73 hk20 h
def fb_Rm_exchange_58 (k20 : Int → Int → Int → kS → kRes) (x1 : Int) (x2 : Int) (x3 : Int) (σ : kS) : kRes := fb_Rm_exchange_73 k20 x1 x2 x3 ((σ 9 0 22) + 2) σ
theorem e_Rm_exchange_58 {l : Launch} {G : kG} {yf : Int} {σf : kS} {k20 : Int → Int → Int → kS → kRes} (hk20 : ∀ (x1 : Int) (x2 : Int) (x3 : Int) (o4 : Option kV) (o5 : Option kV) (o6 : Option kV) (o7 : Option kV) (o8 : Option kV) (σ : kS), k20 x1 x2 x3 σ = some (some yf, σf) → Rn l G dm_Rm_exchange m_Rm_exchange (kI fun y' σ' => y' = yf ∧ σ' = σf) 20 [some (.inr (9, 0)), some (.inl x1), some (.inl x2), some (.inl x3), o4, o5, o6, o7, o8] [] σ) {x1 : Int} {x2 : Int} {x3 : Int} {o4 : Option kV} {o5 : Option kV} {o6 : Option kV} {o7 : Option kV} {o8 : Option kV} {σ : kS} (h : fb_Rm_exchange_58 k20 x1 x2 x3 σ = some (some yf, σf)) : Rn l G dm_Rm_exchange m_Rm_exchange (kI fun y' σ' => y' = yf ∧ σ' = σf) 58 [some (.inr (9, 0)), some (.inl x1), some (.inl x2), some (.inl x3), o4, o5, o6, o7, o8] [.inr (9, 0)] σ := by
  unfold fb_Rm_exchange_58 at h
  refine s_Rm_exchange_58  ?_
  exact e_Rm_exchange_73 hk20 h
def fb_Rm_exchange_53 (k20 : Int → Int → Int → kS → kRes) (x1 : Int) (x2 : Int) (x3 : Int) (s0 : Int) (σ : kS) : kRes := kg ((-2147483648 ≤ s0 ∧ s0 < 2147483648)) (if s0 = 92 then fb_Rm_exchange_58 k20 x1 x2 x3 σ else fb_Rm_exchange_67 k20 x1 x2 x3 σ)
theorem e_Rm_exchange_53 {l : Launch} {G : kG} {yf : Int} {σf : kS} {k20 : Int → Int → Int → kS → kRes} (hk20 : ∀ (x1 : Int) (x2 : Int) (x3 : Int) (o4 : Option kV) (o5 : Option kV) (o6 : Option kV) (o7 : Option kV) (o8 : Option kV) (σ : kS), k20 x1 x2 x3 σ = some (some yf, σf) → Rn l G dm_Rm_exchange m_Rm_exchange (kI fun y' σ' => y' = yf ∧ σ' = σf) 20 [some (.inr (9, 0)), some (.inl x1), some (.inl x2), some (.inl x3), o4, o5, o6, o7, o8] [] σ) {x1 : Int} {x2 : Int} {x3 : Int} {s0 : Int} {o4 : Option kV} {o5 : Option kV} {o6 : Option kV} {o7 : Option kV} {o8 : Option kV} {σ : kS} (h : fb_Rm_exchange_53 k20 x1 x2 x3 s0 σ = some (some yf, σf)) : Rn l G dm_Rm_exchange m_Rm_exchange (kI fun y' σ' => y' = yf ∧ σ' = σf) 53 [some (.inr (9, 0)), some (.inl x1), some (.inl x2), some (.inl x3), o4, o5, o6, o7, o8] [.inl s0, .inr (9, 0)] σ := by
  unfold fb_Rm_exchange_53 at h
  obtain ⟨h1, h⟩ := kg_some h
  refine s_Rm_exchange_53 h1 (fun c => ?_) (fun c => ?_)
  · rw [if_neg c] at h
    exact e_Rm_exchange_67 hk20 h
  · rw [if_pos c] at h
    exact e_Rm_exchange_58 hk20 h
def fb_Rm_exchange_44 (k20 : Int → Int → Int → kS → kRes) (x1 : Int) (x2 : Int) (x3 : Int) (σ : kS) : kRes := kbi (f_Rm_seen (σ 9 0 22) σ) fun y σ1 => fb_Rm_exchange_53 k20 x1 x2 x3 y σ1
theorem e_Rm_exchange_44 {l : Launch} {G : kG} {yf : Int} {σf : kS} {k20 : Int → Int → Int → kS → kRes} (hk20 : ∀ (x1 : Int) (x2 : Int) (x3 : Int) (o4 : Option kV) (o5 : Option kV) (o6 : Option kV) (o7 : Option kV) (o8 : Option kV) (σ : kS), k20 x1 x2 x3 σ = some (some yf, σf) → Rn l G dm_Rm_exchange m_Rm_exchange (kI fun y' σ' => y' = yf ∧ σ' = σf) 20 [some (.inr (9, 0)), some (.inl x1), some (.inl x2), some (.inl x3), o4, o5, o6, o7, o8] [] σ) {x1 : Int} {x2 : Int} {x3 : Int} {o4 : Option kV} {o5 : Option kV} {o6 : Option kV} {o7 : Option kV} {o8 : Option kV} {σ : kS} (h : fb_Rm_exchange_44 k20 x1 x2 x3 σ = some (some yf, σf)) : Rn l G dm_Rm_exchange m_Rm_exchange (kI fun y' σ' => y' = yf ∧ σ' = σf) 44 [some (.inr (9, 0)), some (.inl x1), some (.inl x2), some (.inl x3), o4, o5, o6, o7, o8] [] σ := by
  unfold fb_Rm_exchange_44 at h
  obtain ⟨y, σ1, hc, h⟩ := kbi_some h
  refine s_Rm_exchange_44  (by decide) (E_Rm_seen hc) (fun y2 σ2 e2 => ?_)
  obtain ⟨rfl, rfl⟩ := e2
  exact e_Rm_exchange_53 hk20 h
def fb_Rm_exchange_39 (k20 : Int → Int → Int → kS → kRes) (x1 : Int) (x2 : Int) (x3 : Int) (s0 : Int) (σ : kS) : kRes := kg ((-2147483648 ≤ s0 ∧ s0 < 2147483648)) (if s0 = 47 then fb_Rm_exchange_79  x1 x2 x3 σ else fb_Rm_exchange_44 k20 x1 x2 x3 σ)
theorem e_Rm_exchange_39 {l : Launch} {G : kG} {yf : Int} {σf : kS} {k20 : Int → Int → Int → kS → kRes} (hk20 : ∀ (x1 : Int) (x2 : Int) (x3 : Int) (o4 : Option kV) (o5 : Option kV) (o6 : Option kV) (o7 : Option kV) (o8 : Option kV) (σ : kS), k20 x1 x2 x3 σ = some (some yf, σf) → Rn l G dm_Rm_exchange m_Rm_exchange (kI fun y' σ' => y' = yf ∧ σ' = σf) 20 [some (.inr (9, 0)), some (.inl x1), some (.inl x2), some (.inl x3), o4, o5, o6, o7, o8] [] σ) {x1 : Int} {x2 : Int} {x3 : Int} {s0 : Int} {o4 : Option kV} {o5 : Option kV} {o6 : Option kV} {o7 : Option kV} {o8 : Option kV} {σ : kS} (h : fb_Rm_exchange_39 k20 x1 x2 x3 s0 σ = some (some yf, σf)) : Rn l G dm_Rm_exchange m_Rm_exchange (kI fun y' σ' => y' = yf ∧ σ' = σf) 39 [some (.inr (9, 0)), some (.inl x1), some (.inl x2), some (.inl x3), o4, o5, o6, o7, o8] [.inl s0] σ := by
  unfold fb_Rm_exchange_39 at h
  obtain ⟨h1, h⟩ := kg_some h
  refine s_Rm_exchange_39 h1 (fun c => ?_) (fun c => ?_)
  · rw [if_pos c] at h
    exact e_Rm_exchange_79  h
  · rw [if_neg c] at h
    exact e_Rm_exchange_44 hk20 h
def fb_Rm_exchange_31 (k20 : Int → Int → Int → kS → kRes) (x1 : Int) (x2 : Int) (x3 : Int) (σ : kS) : kRes := kbi (f_Rm_seen (σ 9 0 22) σ) fun y σ1 => fb_Rm_exchange_39 k20 x1 x2 x3 y σ1
theorem e_Rm_exchange_31 {l : Launch} {G : kG} {yf : Int} {σf : kS} {k20 : Int → Int → Int → kS → kRes} (hk20 : ∀ (x1 : Int) (x2 : Int) (x3 : Int) (o4 : Option kV) (o5 : Option kV) (o6 : Option kV) (o7 : Option kV) (o8 : Option kV) (σ : kS), k20 x1 x2 x3 σ = some (some yf, σf) → Rn l G dm_Rm_exchange m_Rm_exchange (kI fun y' σ' => y' = yf ∧ σ' = σf) 20 [some (.inr (9, 0)), some (.inl x1), some (.inl x2), some (.inl x3), o4, o5, o6, o7, o8] [] σ) {x1 : Int} {x2 : Int} {x3 : Int} {o4 : Option kV} {o5 : Option kV} {o6 : Option kV} {o7 : Option kV} {o8 : Option kV} {σ : kS} (h : fb_Rm_exchange_31 k20 x1 x2 x3 σ = some (some yf, σf)) : Rn l G dm_Rm_exchange m_Rm_exchange (kI fun y' σ' => y' = yf ∧ σ' = σf) 31 [some (.inr (9, 0)), some (.inl x1), some (.inl x2), some (.inl x3), o4, o5, o6, o7, o8] [] σ := by
  unfold fb_Rm_exchange_31 at h
  obtain ⟨y, σ1, hc, h⟩ := kbi_some h
  refine s_Rm_exchange_31  (by decide) (E_Rm_seen hc) (fun y2 σ2 e2 => ?_)
  obtain ⟨rfl, rfl⟩ := e2
  exact e_Rm_exchange_39 hk20 h
def fb_Rm_exchange_20 (k20 : Int → Int → Int → kS → kRes) (x1 : Int) (x2 : Int) (x3 : Int) (σ : kS) : kRes := kg ((-2147483648 ≤ σ 9 0 22 ∧ σ 9 0 22 < 2147483648) ∧ (-2147483648 ≤ σ 9 0 20 ∧ σ 9 0 20 < 2147483648)) (if (σ 9 0 20) ≤ (σ 9 0 22) then fb_Rm_exchange_79  x1 x2 x3 σ else fb_Rm_exchange_31 k20 x1 x2 x3 σ)
theorem e_Rm_exchange_20 {l : Launch} {G : kG} {yf : Int} {σf : kS} {k20 : Int → Int → Int → kS → kRes} (hk20 : ∀ (x1 : Int) (x2 : Int) (x3 : Int) (o4 : Option kV) (o5 : Option kV) (o6 : Option kV) (o7 : Option kV) (o8 : Option kV) (σ : kS), k20 x1 x2 x3 σ = some (some yf, σf) → Rn l G dm_Rm_exchange m_Rm_exchange (kI fun y' σ' => y' = yf ∧ σ' = σf) 20 [some (.inr (9, 0)), some (.inl x1), some (.inl x2), some (.inl x3), o4, o5, o6, o7, o8] [] σ) {x1 : Int} {x2 : Int} {x3 : Int} {o4 : Option kV} {o5 : Option kV} {o6 : Option kV} {o7 : Option kV} {o8 : Option kV} {σ : kS} (h : fb_Rm_exchange_20 k20 x1 x2 x3 σ = some (some yf, σf)) : Rn l G dm_Rm_exchange m_Rm_exchange (kI fun y' σ' => y' = yf ∧ σ' = σf) 20 [some (.inr (9, 0)), some (.inl x1), some (.inl x2), some (.inl x3), o4, o5, o6, o7, o8] [] σ := by
  unfold fb_Rm_exchange_20 at h
  obtain ⟨⟨h1, h2⟩, h⟩ := kg_some h
  refine s_Rm_exchange_20 h1 h2 (fun c => ?_) (fun c => ?_)
  · rw [if_pos c] at h
    exact e_Rm_exchange_79  h
  · rw [if_neg c] at h
    exact e_Rm_exchange_31 hk20 h
def fl_Rm_exchange_20  : Nat → Int → Int → Int → kS → kRes
  | 0, _, _, _, _ => none
  | n + 1, x1, x2, x3, σ => fb_Rm_exchange_20 (fl_Rm_exchange_20  n) x1 x2 x3 σ
theorem el_Rm_exchange_20 {l : Launch} {G : kG} {yf : Int} {σf : kS}  : ∀ (n : Nat) (x1 : Int) (x2 : Int) (x3 : Int) (o4 : Option kV) (o5 : Option kV) (o6 : Option kV) (o7 : Option kV) (o8 : Option kV) (σ : kS), fl_Rm_exchange_20  n x1 x2 x3 σ = some (some yf, σf) → Rn l G dm_Rm_exchange m_Rm_exchange (kI fun y' σ' => y' = yf ∧ σ' = σf) 20 [some (.inr (9, 0)), some (.inl x1), some (.inl x2), some (.inl x3), o4, o5, o6, o7, o8] [] σ := by
  intro n
  induction n with
  | zero => intro x1 x2 x3 o4 o5 o6 o7 o8 σ h; simp only [fl_Rm_exchange_20] at h; cases h
  | succ n ih => intro x1 x2 x3 o4 o5 o6 o7 o8 σ h; simp only [fl_Rm_exchange_20] at h; exact e_Rm_exchange_20 ih h
def fb_Rm_exchange_15  (x1 : Int) (x2 : Int) (σ : kS) : kRes := fl_Rm_exchange_20  3000 x1 x2 (σ 9 0 22) σ
theorem e_Rm_exchange_15 {l : Launch} {G : kG} {yf : Int} {σf : kS}  {x1 : Int} {x2 : Int} {o3 : Option kV} {o4 : Option kV} {o5 : Option kV} {o6 : Option kV} {o7 : Option kV} {o8 : Option kV} {σ : kS} (h : fb_Rm_exchange_15  x1 x2 σ = some (some yf, σf)) : Rn l G dm_Rm_exchange m_Rm_exchange (kI fun y' σ' => y' = yf ∧ σ' = σf) 15 [some (.inr (9, 0)), some (.inl x1), some (.inl x2), o3, o4, o5, o6, o7, o8] [] σ := by
  unfold fb_Rm_exchange_15 at h
  refine s_Rm_exchange_15  ?_
  exact el_Rm_exchange_20  _ _ _ _ _ _ _ _ _ _ h
def fb_Rm_exchange_11  (x1 : Int) (x2 : Int) (σ : kS) : kRes := kbu (f_Rm_delimited  σ) fun σ1 => fb_Rm_exchange_15  x1 x2 σ1
theorem e_Rm_exchange_11 {l : Launch} {G : kG} {yf : Int} {σf : kS}  {x1 : Int} {x2 : Int} {o3 : Option kV} {o4 : Option kV} {o5 : Option kV} {o6 : Option kV} {o7 : Option kV} {o8 : Option kV} {σ : kS} (h : fb_Rm_exchange_11  x1 x2 σ = some (some yf, σf)) : Rn l G dm_Rm_exchange m_Rm_exchange (kI fun y' σ' => y' = yf ∧ σ' = σf) 11 [some (.inr (9, 0)), some (.inl x1), some (.inl x2), o3, o4, o5, o6, o7, o8] [] σ := by
  unfold fb_Rm_exchange_11 at h
  obtain ⟨σ1, hc, h⟩ := kbu_some h
  refine s_Rm_exchange_11  (by decide) (E_Rm_delimited hc) (fun σ2 e2 => ?_)
  subst e2
  exact e_Rm_exchange_15  h
def fb_Rm_exchange_9  (x1 : Int) (x2 : Int) (σ : kS) : kRes := some (some 0, σ)
theorem e_Rm_exchange_9 {l : Launch} {G : kG} {yf : Int} {σf : kS}  {x1 : Int} {x2 : Int} {o3 : Option kV} {o4 : Option kV} {o5 : Option kV} {o6 : Option kV} {o7 : Option kV} {o8 : Option kV} {σ : kS} (h : fb_Rm_exchange_9  x1 x2 σ = some (some yf, σf)) : Rn l G dm_Rm_exchange m_Rm_exchange (kI fun y' σ' => y' = yf ∧ σ' = σf) 9 [some (.inr (9, 0)), some (.inl x1), some (.inl x2), o3, o4, o5, o6, o7, o8] [] σ := by
  unfold fb_Rm_exchange_9 at h
  simp only [Option.some.injEq, Prod.mk.injEq, true_and] at h
  exact s_Rm_exchange_9  ⟨_, rfl, h⟩
def fb_Rm_exchange_6  (x1 : Int) (x2 : Int) (s0 : Int) (σ : kS) : kRes := kg ((-2147483648 ≤ s0 ∧ s0 < 2147483648)) (if s0 = 0 then fb_Rm_exchange_9  x1 x2 σ else fb_Rm_exchange_11  x1 x2 σ)
theorem e_Rm_exchange_6 {l : Launch} {G : kG} {yf : Int} {σf : kS}  {x1 : Int} {x2 : Int} {s0 : Int} {o3 : Option kV} {o4 : Option kV} {o5 : Option kV} {o6 : Option kV} {o7 : Option kV} {o8 : Option kV} {σ : kS} (h : fb_Rm_exchange_6  x1 x2 s0 σ = some (some yf, σf)) : Rn l G dm_Rm_exchange m_Rm_exchange (kI fun y' σ' => y' = yf ∧ σ' = σf) 6 [some (.inr (9, 0)), some (.inl x1), some (.inl x2), o3, o4, o5, o6, o7, o8] [.inl s0] σ := by
  unfold fb_Rm_exchange_6 at h
  obtain ⟨h1, h⟩ := kg_some h
  refine s_Rm_exchange_6 h1 (fun c => ?_) (fun c => ?_)
  · rw [if_neg c] at h
    exact e_Rm_exchange_11  h
  · rw [if_pos c] at h
    exact e_Rm_exchange_9  h
def fb_Rm_exchange_0  (x1 : Int) (x2 : Int) (σ : kS) : kRes := kbi (f_Rm_take 47 σ) fun y σ1 => fb_Rm_exchange_6  x1 x2 y σ1
theorem e_Rm_exchange_0 {l : Launch} {G : kG} {yf : Int} {σf : kS}  {x1 : Int} {x2 : Int} {o3 : Option kV} {o4 : Option kV} {o5 : Option kV} {o6 : Option kV} {o7 : Option kV} {o8 : Option kV} {σ : kS} (h : fb_Rm_exchange_0  x1 x2 σ = some (some yf, σf)) : Rn l G dm_Rm_exchange m_Rm_exchange (kI fun y' σ' => y' = yf ∧ σ' = σf) 0 [some (.inr (9, 0)), some (.inl x1), some (.inl x2), o3, o4, o5, o6, o7, o8] [] σ := by
  unfold fb_Rm_exchange_0 at h
  obtain ⟨y, σ1, hc, h⟩ := kbi_some h
  refine s_Rm_exchange_0  (by decide) (E_Rm_take hc) (fun y2 σ2 e2 => ?_)
  obtain ⟨rfl, rfl⟩ := e2
  exact e_Rm_exchange_6  h
def f_Rm_exchange (x1 : Int) (x2 : Int) (σ : kS) : kRes := fb_Rm_exchange_0 x1 x2 σ
theorem E_Rm_exchange {l : Launch} {G : kG} {yf : Int} {σf : kS} {x1 : Int} {x2 : Int} {σ : kS} (h : f_Rm_exchange x1 x2 σ = some (some yf, σf)) : Call l G dm_Rm_exchange y_Rm_exchange m_Rm_exchange [.inr (9, 0), .inl x1, .inl x2] σ (kI fun y' σ' => y' = yf ∧ σ' = σf) := by
  unfold f_Rm_exchange at h
  exact Call.of (by decide +kernel) rfl (Nat.le_of_ble_eq_true rfl) (e_Rm_exchange_0 h)
/-! Rm_copyLine -/
def fb_Rm_copyLine_53  (x1 : Int) (x2 : Int) (x3 : Int) (x4 : Int) (x5 : Int) (σ : kS) : kRes := kg ((0 ≤ (10 * x1) + x2 ∧ (10 * x1) + x2 < (100 : Nat)) ∧ (0 ≤ (10 * x3) + x4 ∧ (10 * x3) + x4 < (100 : Nat))) (some (none, kup σ 21 0 (Int.toNat ((10 * x3) + x4)) (σ 21 0 (Int.toNat ((10 * x1) + x2)))))
theorem e_Rm_copyLine_53 {l : Launch} {G : kG} {σf : kS}  {x1 : Int} {x2 : Int} {x3 : Int} {x4 : Int} {x5 : Int}  {σ : kS} (h : fb_Rm_copyLine_53  x1 x2 x3 x4 x5 σ = some (none, σf)) : Rn l G dm_Rm_copyLine m_Rm_copyLine (kU fun σ' => σ' = σf) 53 [some (.inr (9, 0)), some (.inl x1), some (.inl x2), some (.inl x3), some (.inl x4), some (.inl x5)] [] σ := by
  unfold fb_Rm_copyLine_53 at h
  obtain ⟨⟨h1, h2⟩, h⟩ := kg_some h
  simp only [Option.some.injEq, Prod.mk.injEq, true_and] at h
  exact s_Rm_copyLine_53 h1 h2 ⟨rfl, h⟩
def fb_Rm_copyLine_10 (k3 : Int → Int → Int → Int → Int → kS → kRes) (x1 : Int) (x2 : Int) (x3 : Int) (x4 : Int) (x5 : Int) (σ : kS) : kRes := kg ((0 ≤ ((200 * x1) + (20 * x2)) + x5 ∧ ((200 * x1) + (20 * x2)) + x5 < (2000 : Nat)) ∧ (0 ≤ ((200 * x3) + (20 * x4)) + x5 ∧ ((200 * x3) + (20 * x4)) + x5 < (2000 : Nat))) (k3 x1 x2 x3 x4 (x5 + 1) (kup σ 20 0 (Int.toNat (((200 * x3) + (20 * x4)) + x5)) (σ 20 0 (Int.toNat (((200 * x1) + (20 * x2)) + x5)))))
theorem e_Rm_copyLine_10 {l : Launch} {G : kG} {σf : kS} {k3 : Int → Int → Int → Int → Int → kS → kRes} (hk3 : ∀ (x1 : Int) (x2 : Int) (x3 : Int) (x4 : Int) (x5 : Int)  (σ : kS), k3 x1 x2 x3 x4 x5 σ = some (none, σf) → Rn l G dm_Rm_copyLine m_Rm_copyLine (kU fun σ' => σ' = σf) 3 [some (.inr (9, 0)), some (.inl x1), some (.inl x2), some (.inl x3), some (.inl x4), some (.inl x5)] [] σ) {x1 : Int} {x2 : Int} {x3 : Int} {x4 : Int} {x5 : Int}  {σ : kS} (h : fb_Rm_copyLine_10 k3 x1 x2 x3 x4 x5 σ = some (none, σf)) : Rn l G dm_Rm_copyLine m_Rm_copyLine (kU fun σ' => σ' = σf) 10 [some (.inr (9, 0)), some (.inl x1), some (.inl x2), some (.inl x3), some (.inl x4), some (.inl x5)] [] σ := by
  unfold fb_Rm_copyLine_10 at h
  obtain ⟨⟨h1, h2⟩, h⟩ := kg_some h
  refine s_Rm_copyLine_10 h1 h2 ?_
  exact hk3 _ _ _ _ _ _ h
def fb_Rm_copyLine_3 (k3 : Int → Int → Int → Int → Int → kS → kRes) (x1 : Int) (x2 : Int) (x3 : Int) (x4 : Int) (x5 : Int) (σ : kS) : kRes := kg ((-2147483648 ≤ x5 ∧ x5 < 2147483648)) (if 20 ≤ x5 then fb_Rm_copyLine_53  x1 x2 x3 x4 x5 σ else fb_Rm_copyLine_10 k3 x1 x2 x3 x4 x5 σ)
theorem e_Rm_copyLine_3 {l : Launch} {G : kG} {σf : kS} {k3 : Int → Int → Int → Int → Int → kS → kRes} (hk3 : ∀ (x1 : Int) (x2 : Int) (x3 : Int) (x4 : Int) (x5 : Int)  (σ : kS), k3 x1 x2 x3 x4 x5 σ = some (none, σf) → Rn l G dm_Rm_copyLine m_Rm_copyLine (kU fun σ' => σ' = σf) 3 [some (.inr (9, 0)), some (.inl x1), some (.inl x2), some (.inl x3), some (.inl x4), some (.inl x5)] [] σ) {x1 : Int} {x2 : Int} {x3 : Int} {x4 : Int} {x5 : Int}  {σ : kS} (h : fb_Rm_copyLine_3 k3 x1 x2 x3 x4 x5 σ = some (none, σf)) : Rn l G dm_Rm_copyLine m_Rm_copyLine (kU fun σ' => σ' = σf) 3 [some (.inr (9, 0)), some (.inl x1), some (.inl x2), some (.inl x3), some (.inl x4), some (.inl x5)] [] σ := by
  unfold fb_Rm_copyLine_3 at h
  obtain ⟨h1, h⟩ := kg_some h
  refine s_Rm_copyLine_3 h1 (fun c => ?_) (fun c => ?_)
  · rw [if_pos c] at h
    exact e_Rm_copyLine_53  h
  · rw [if_neg c] at h
    exact e_Rm_copyLine_10 hk3 h
def fl_Rm_copyLine_3  : Nat → Int → Int → Int → Int → Int → kS → kRes
  | 0, _, _, _, _, _, _ => none
  | n + 1, x1, x2, x3, x4, x5, σ => fb_Rm_copyLine_3 (fl_Rm_copyLine_3  n) x1 x2 x3 x4 x5 σ
theorem el_Rm_copyLine_3 {l : Launch} {G : kG} {σf : kS}  : ∀ (n : Nat) (x1 : Int) (x2 : Int) (x3 : Int) (x4 : Int) (x5 : Int)  (σ : kS), fl_Rm_copyLine_3  n x1 x2 x3 x4 x5 σ = some (none, σf) → Rn l G dm_Rm_copyLine m_Rm_copyLine (kU fun σ' => σ' = σf) 3 [some (.inr (9, 0)), some (.inl x1), some (.inl x2), some (.inl x3), some (.inl x4), some (.inl x5)] [] σ := by
  intro n
  induction n with
  | zero => intro x1 x2 x3 x4 x5 σ h; simp only [fl_Rm_copyLine_3] at h; cases h
  | succ n ih => intro x1 x2 x3 x4 x5 σ h; simp only [fl_Rm_copyLine_3] at h; exact e_Rm_copyLine_3 ih h
def fb_Rm_copyLine_0  (x1 : Int) (x2 : Int) (x3 : Int) (x4 : Int) (σ : kS) : kRes := fl_Rm_copyLine_3  3000 x1 x2 x3 x4 0 σ
theorem e_Rm_copyLine_0 {l : Launch} {G : kG} {σf : kS}  {x1 : Int} {x2 : Int} {x3 : Int} {x4 : Int} {o5 : Option kV} {σ : kS} (h : fb_Rm_copyLine_0  x1 x2 x3 x4 σ = some (none, σf)) : Rn l G dm_Rm_copyLine m_Rm_copyLine (kU fun σ' => σ' = σf) 0 [some (.inr (9, 0)), some (.inl x1), some (.inl x2), some (.inl x3), some (.inl x4), o5] [] σ := by
  unfold fb_Rm_copyLine_0 at h
  refine s_Rm_copyLine_0  ?_
  exact el_Rm_copyLine_3  _ _ _ _ _ _ _ h
def f_Rm_copyLine (x1 : Int) (x2 : Int) (x3 : Int) (x4 : Int) (σ : kS) : kRes := fb_Rm_copyLine_0 x1 x2 x3 x4 σ
theorem E_Rm_copyLine {l : Launch} {G : kG} {σf : kS} {x1 : Int} {x2 : Int} {x3 : Int} {x4 : Int} {σ : kS} (h : f_Rm_copyLine x1 x2 x3 x4 σ = some (none, σf)) : Call l G dm_Rm_copyLine y_Rm_copyLine m_Rm_copyLine [.inr (9, 0), .inl x1, .inl x2, .inl x3, .inl x4] σ (kU fun σ' => σ' = σf) := by
  unfold f_Rm_copyLine at h
  exact Call.of (by decide +kernel) rfl (Nat.le_of_ble_eq_true rfl) (e_Rm_copyLine_0 h)
/-! Rm_hold -/
def fb_Rm_hold_32  (x1 : Int) (x2 : Int) (x3 : Int) (σ : kS) : kRes := some (none, σ)
theorem e_Rm_hold_32 {l : Launch} {G : kG} {σf : kS}  {x1 : Int} {x2 : Int} {x3 : Int}  {σ : kS} (h : fb_Rm_hold_32  x1 x2 x3 σ = some (none, σf)) : Rn l G dm_Rm_hold m_Rm_hold (kU fun σ' => σ' = σf) 32 [some (.inr (9, 0)), some (.inl x1), some (.inl x2), some (.inl x3)] [] σ := by
  unfold fb_Rm_hold_32 at h
  simp only [Option.some.injEq, Prod.mk.injEq, true_and] at h
  exact s_Rm_hold_32  ⟨rfl, h⟩
def fb_Rm_hold_26 (k11 : Int → Int → Int → kS → kRes) (x1 : Int) (x2 : Int) (x3 : Int) (σ : kS) : kRes := k11 x1 x2 (x3 + 1) σ
theorem e_Rm_hold_26 {l : Launch} {G : kG} {σf : kS} {k11 : Int → Int → Int → kS → kRes} (hk11 : ∀ (x1 : Int) (x2 : Int) (x3 : Int)  (σ : kS), k11 x1 x2 x3 σ = some (none, σf) → Rn l G dm_Rm_hold m_Rm_hold (kU fun σ' => σ' = σf) 11 [some (.inr (9, 0)), some (.inl x1), some (.inl x2), some (.inl x3)] [] σ) {x1 : Int} {x2 : Int} {x3 : Int}  {σ : kS} (h : fb_Rm_hold_26 k11 x1 x2 x3 σ = some (none, σf)) : Rn l G dm_Rm_hold m_Rm_hold (kU fun σ' => σ' = σf) 26 [some (.inr (9, 0)), some (.inl x1), some (.inl x2), some (.inl x3)] [] σ := by
  unfold fb_Rm_hold_26 at h
  refine s_Rm_hold_26  ?_
  exact hk11 _ _ _ _ h
def fb_Rm_hold_16 (k11 : Int → Int → Int → kS → kRes) (x1 : Int) (x2 : Int) (x3 : Int) (σ : kS) : kRes := kbu (f_Rm_copyLine 0 x3 4 (x3 - x1) σ) fun σ1 => fb_Rm_hold_26 k11 x1 x2 x3 σ1
theorem e_Rm_hold_16 {l : Launch} {G : kG} {σf : kS} {k11 : Int → Int → Int → kS → kRes} (hk11 : ∀ (x1 : Int) (x2 : Int) (x3 : Int)  (σ : kS), k11 x1 x2 x3 σ = some (none, σf) → Rn l G dm_Rm_hold m_Rm_hold (kU fun σ' => σ' = σf) 11 [some (.inr (9, 0)), some (.inl x1), some (.inl x2), some (.inl x3)] [] σ) {x1 : Int} {x2 : Int} {x3 : Int}  {σ : kS} (h : fb_Rm_hold_16 k11 x1 x2 x3 σ = some (none, σf)) : Rn l G dm_Rm_hold m_Rm_hold (kU fun σ' => σ' = σf) 16 [some (.inr (9, 0)), some (.inl x1), some (.inl x2), some (.inl x3)] [] σ := by
  unfold fb_Rm_hold_16 at h
  obtain ⟨σ1, hc, h⟩ := kbu_some h
  refine s_Rm_hold_16  (by decide) (E_Rm_copyLine hc) (fun σ2 e2 => ?_)
  subst e2
  exact e_Rm_hold_26 hk11 h
def fb_Rm_hold_11 (k11 : Int → Int → Int → kS → kRes) (x1 : Int) (x2 : Int) (x3 : Int) (σ : kS) : kRes := kg ((-2147483648 ≤ x3 ∧ x3 < 2147483648) ∧ (-2147483648 ≤ x2 ∧ x2 < 2147483648)) (if x2 < x3 then fb_Rm_hold_32  x1 x2 x3 σ else fb_Rm_hold_16 k11 x1 x2 x3 σ)
theorem e_Rm_hold_11 {l : Launch} {G : kG} {σf : kS} {k11 : Int → Int → Int → kS → kRes} (hk11 : ∀ (x1 : Int) (x2 : Int) (x3 : Int)  (σ : kS), k11 x1 x2 x3 σ = some (none, σf) → Rn l G dm_Rm_hold m_Rm_hold (kU fun σ' => σ' = σf) 11 [some (.inr (9, 0)), some (.inl x1), some (.inl x2), some (.inl x3)] [] σ) {x1 : Int} {x2 : Int} {x3 : Int}  {σ : kS} (h : fb_Rm_hold_11 k11 x1 x2 x3 σ = some (none, σf)) : Rn l G dm_Rm_hold m_Rm_hold (kU fun σ' => σ' = σf) 11 [some (.inr (9, 0)), some (.inl x1), some (.inl x2), some (.inl x3)] [] σ := by
  unfold fb_Rm_hold_11 at h
  obtain ⟨⟨h1, h2⟩, h⟩ := kg_some h
  refine s_Rm_hold_11 h1 h2 (fun c => ?_) (fun c => ?_)
  · rw [if_pos c] at h
    exact e_Rm_hold_32  h
  · rw [if_neg c] at h
    exact e_Rm_hold_16 hk11 h
def fl_Rm_hold_11  : Nat → Int → Int → Int → kS → kRes
  | 0, _, _, _, _ => none
  | n + 1, x1, x2, x3, σ => fb_Rm_hold_11 (fl_Rm_hold_11  n) x1 x2 x3 σ
theorem el_Rm_hold_11 {l : Launch} {G : kG} {σf : kS}  : ∀ (n : Nat) (x1 : Int) (x2 : Int) (x3 : Int)  (σ : kS), fl_Rm_hold_11  n x1 x2 x3 σ = some (none, σf) → Rn l G dm_Rm_hold m_Rm_hold (kU fun σ' => σ' = σf) 11 [some (.inr (9, 0)), some (.inl x1), some (.inl x2), some (.inl x3)] [] σ := by
  intro n
  induction n with
  | zero => intro x1 x2 x3 σ h; simp only [fl_Rm_hold_11] at h; cases h
  | succ n ih => intro x1 x2 x3 σ h; simp only [fl_Rm_hold_11] at h; exact e_Rm_hold_11 ih h
def fb_Rm_hold_0  (x1 : Int) (x2 : Int) (σ : kS) : kRes := fl_Rm_hold_11  3000 x1 x2 x1 (kup σ 9 0 7 ((x2 - x1) + 1))
theorem e_Rm_hold_0 {l : Launch} {G : kG} {σf : kS}  {x1 : Int} {x2 : Int} {o3 : Option kV} {σ : kS} (h : fb_Rm_hold_0  x1 x2 σ = some (none, σf)) : Rn l G dm_Rm_hold m_Rm_hold (kU fun σ' => σ' = σf) 0 [some (.inr (9, 0)), some (.inl x1), some (.inl x2), o3] [] σ := by
  unfold fb_Rm_hold_0 at h
  refine s_Rm_hold_0  ?_
  exact el_Rm_hold_11  _ _ _ _ _ h
def f_Rm_hold (x1 : Int) (x2 : Int) (σ : kS) : kRes := fb_Rm_hold_0 x1 x2 σ
theorem E_Rm_hold {l : Launch} {G : kG} {σf : kS} {x1 : Int} {x2 : Int} {σ : kS} (h : f_Rm_hold x1 x2 σ = some (none, σf)) : Call l G dm_Rm_hold y_Rm_hold m_Rm_hold [.inr (9, 0), .inl x1, .inl x2] σ (kU fun σ' => σ' = σf) := by
  unfold f_Rm_hold at h
  exact Call.of (by decide +kernel) rfl (Nat.le_of_ble_eq_true rfl) (e_Rm_hold_0 h)
/-! Rm_closeLine -/
def fb_Rm_closeLine_30  (x1 : Int) (x2 : Int) (σ : kS) : kRes := some (none, kup σ 22 0 0 ((σ 22 0 0) - 1))
theorem e_Rm_closeLine_30 {l : Launch} {G : kG} {σf : kS}  {x1 : Int} {x2 : Int}  {σ : kS} (h : fb_Rm_closeLine_30  x1 x2 σ = some (none, σf)) : Rn l G dm_Rm_closeLine m_Rm_closeLine (kU fun σ' => σ' = σf) 30 [some (.inr (9, 0)), some (.inl x1), some (.inl x2)] [] σ := by
  unfold fb_Rm_closeLine_30 at h
  simp only [Option.some.injEq, Prod.mk.injEq, true_and] at h
  exact s_Rm_closeLine_30  ⟨rfl, h⟩
def fb_Rm_closeLine_24 (k2 : Int → Int → kS → kRes) (x1 : Int) (x2 : Int) (σ : kS) : kRes := k2 x1 (x2 + 1) σ
theorem e_Rm_closeLine_24 {l : Launch} {G : kG} {σf : kS} {k2 : Int → Int → kS → kRes} (hk2 : ∀ (x1 : Int) (x2 : Int)  (σ : kS), k2 x1 x2 σ = some (none, σf) → Rn l G dm_Rm_closeLine m_Rm_closeLine (kU fun σ' => σ' = σf) 2 [some (.inr (9, 0)), some (.inl x1), some (.inl x2)] [] σ) {x1 : Int} {x2 : Int}  {σ : kS} (h : fb_Rm_closeLine_24 k2 x1 x2 σ = some (none, σf)) : Rn l G dm_Rm_closeLine m_Rm_closeLine (kU fun σ' => σ' = σf) 24 [some (.inr (9, 0)), some (.inl x1), some (.inl x2)] [] σ := by
  unfold fb_Rm_closeLine_24 at h
  refine s_Rm_closeLine_24  ?_
  exact hk2 _ _ _ h
def fb_Rm_closeLine_14 (k2 : Int → Int → kS → kRes) (x1 : Int) (x2 : Int) (σ : kS) : kRes := kbu (f_Rm_copyLine 0 (x2 + 1) 0 x2 σ) fun σ1 => fb_Rm_closeLine_24 k2 x1 x2 σ1
theorem e_Rm_closeLine_14 {l : Launch} {G : kG} {σf : kS} {k2 : Int → Int → kS → kRes} (hk2 : ∀ (x1 : Int) (x2 : Int)  (σ : kS), k2 x1 x2 σ = some (none, σf) → Rn l G dm_Rm_closeLine m_Rm_closeLine (kU fun σ' => σ' = σf) 2 [some (.inr (9, 0)), some (.inl x1), some (.inl x2)] [] σ) {x1 : Int} {x2 : Int}  {σ : kS} (h : fb_Rm_closeLine_14 k2 x1 x2 σ = some (none, σf)) : Rn l G dm_Rm_closeLine m_Rm_closeLine (kU fun σ' => σ' = σf) 14 [some (.inr (9, 0)), some (.inl x1), some (.inl x2)] [] σ := by
  unfold fb_Rm_closeLine_14 at h
  obtain ⟨σ1, hc, h⟩ := kbu_some h
  refine s_Rm_closeLine_14  (by decide) (E_Rm_copyLine hc) (fun σ2 e2 => ?_)
  subst e2
  exact e_Rm_closeLine_24 hk2 h
def fb_Rm_closeLine_2 (k2 : Int → Int → kS → kRes) (x1 : Int) (x2 : Int) (σ : kS) : kRes := kg ((-2147483648 ≤ x2 + 1 ∧ x2 + 1 < 2147483648) ∧ (-2147483648 ≤ σ 22 0 0 ∧ σ 22 0 0 < 2147483648)) (if (σ 22 0 0) ≤ (x2 + 1) then fb_Rm_closeLine_30  x1 x2 σ else fb_Rm_closeLine_14 k2 x1 x2 σ)
theorem e_Rm_closeLine_2 {l : Launch} {G : kG} {σf : kS} {k2 : Int → Int → kS → kRes} (hk2 : ∀ (x1 : Int) (x2 : Int)  (σ : kS), k2 x1 x2 σ = some (none, σf) → Rn l G dm_Rm_closeLine m_Rm_closeLine (kU fun σ' => σ' = σf) 2 [some (.inr (9, 0)), some (.inl x1), some (.inl x2)] [] σ) {x1 : Int} {x2 : Int}  {σ : kS} (h : fb_Rm_closeLine_2 k2 x1 x2 σ = some (none, σf)) : Rn l G dm_Rm_closeLine m_Rm_closeLine (kU fun σ' => σ' = σf) 2 [some (.inr (9, 0)), some (.inl x1), some (.inl x2)] [] σ := by
  unfold fb_Rm_closeLine_2 at h
  obtain ⟨⟨h1, h2⟩, h⟩ := kg_some h
  refine s_Rm_closeLine_2 h1 h2 (fun c => ?_) (fun c => ?_)
  · rw [if_pos c] at h
    exact e_Rm_closeLine_30  h
  · rw [if_neg c] at h
    exact e_Rm_closeLine_14 hk2 h
def fl_Rm_closeLine_2  : Nat → Int → Int → kS → kRes
  | 0, _, _, _ => none
  | n + 1, x1, x2, σ => fb_Rm_closeLine_2 (fl_Rm_closeLine_2  n) x1 x2 σ
theorem el_Rm_closeLine_2 {l : Launch} {G : kG} {σf : kS}  : ∀ (n : Nat) (x1 : Int) (x2 : Int)  (σ : kS), fl_Rm_closeLine_2  n x1 x2 σ = some (none, σf) → Rn l G dm_Rm_closeLine m_Rm_closeLine (kU fun σ' => σ' = σf) 2 [some (.inr (9, 0)), some (.inl x1), some (.inl x2)] [] σ := by
  intro n
  induction n with
  | zero => intro x1 x2 σ h; simp only [fl_Rm_closeLine_2] at h; cases h
  | succ n ih => intro x1 x2 σ h; simp only [fl_Rm_closeLine_2] at h; exact e_Rm_closeLine_2 ih h
def fb_Rm_closeLine_0  (x1 : Int) (σ : kS) : kRes := fl_Rm_closeLine_2  3000 x1 x1 σ
theorem e_Rm_closeLine_0 {l : Launch} {G : kG} {σf : kS}  {x1 : Int} {o2 : Option kV} {σ : kS} (h : fb_Rm_closeLine_0  x1 σ = some (none, σf)) : Rn l G dm_Rm_closeLine m_Rm_closeLine (kU fun σ' => σ' = σf) 0 [some (.inr (9, 0)), some (.inl x1), o2] [] σ := by
  unfold fb_Rm_closeLine_0 at h
  refine s_Rm_closeLine_0  ?_
  exact el_Rm_closeLine_2  _ _ _ _ h
def f_Rm_closeLine (x1 : Int) (σ : kS) : kRes := fb_Rm_closeLine_0 x1 σ
theorem E_Rm_closeLine {l : Launch} {G : kG} {σf : kS} {x1 : Int} {σ : kS} (h : f_Rm_closeLine x1 σ = some (none, σf)) : Call l G dm_Rm_closeLine y_Rm_closeLine m_Rm_closeLine [.inr (9, 0), .inl x1] σ (kU fun σ' => σ' = σf) := by
  unfold f_Rm_closeLine at h
  exact Call.of (by decide +kernel) rfl (Nat.le_of_ble_eq_true rfl) (e_Rm_closeLine_0 h)
/-! Rm_openLine -/
def fb_Rm_openLine_28  (x1 : Int) (x2 : Int) (σ : kS) : kRes := kg ((0 ≤ x1 ∧ x1 < (100 : Nat))) (some (none, kup (kup σ 21 0 (Int.toNat x1) 0) 22 0 0 (((kup σ 21 0 (Int.toNat x1) 0) 22 0 0) + 1)))
theorem e_Rm_openLine_28 {l : Launch} {G : kG} {σf : kS}  {x1 : Int} {x2 : Int}  {σ : kS} (h : fb_Rm_openLine_28  x1 x2 σ = some (none, σf)) : Rn l G dm_Rm_openLine m_Rm_openLine (kU fun σ' => σ' = σf) 28 [some (.inr (9, 0)), some (.inl x1), some (.inl x2)] [] σ := by
  unfold fb_Rm_openLine_28 at h
  obtain ⟨h1, h⟩ := kg_some h
  simp only [Option.some.injEq, Prod.mk.injEq, true_and] at h
  exact s_Rm_openLine_28 h1 ⟨rfl, h⟩
def fb_Rm_openLine_22 (k7 : Int → Int → kS → kRes) (x1 : Int) (x2 : Int) (σ : kS) : kRes := k7 x1 (x2 + (-1)) σ
theorem e_Rm_openLine_22 {l : Launch} {G : kG} {σf : kS} {k7 : Int → Int → kS → kRes} (hk7 : ∀ (x1 : Int) (x2 : Int)  (σ : kS), k7 x1 x2 σ = some (none, σf) → Rn l G dm_Rm_openLine m_Rm_openLine (kU fun σ' => σ' = σf) 7 [some (.inr (9, 0)), some (.inl x1), some (.inl x2)] [] σ) {x1 : Int} {x2 : Int}  {σ : kS} (h : fb_Rm_openLine_22 k7 x1 x2 σ = some (none, σf)) : Rn l G dm_Rm_openLine m_Rm_openLine (kU fun σ' => σ' = σf) 22 [some (.inr (9, 0)), some (.inl x1), some (.inl x2)] [] σ := by
  unfold fb_Rm_openLine_22 at h
  refine s_Rm_openLine_22  ?_
  exact hk7 _ _ _ h
def fb_Rm_openLine_12 (k7 : Int → Int → kS → kRes) (x1 : Int) (x2 : Int) (σ : kS) : kRes := kbu (f_Rm_copyLine 0 (x2 - 1) 0 x2 σ) fun σ1 => fb_Rm_openLine_22 k7 x1 x2 σ1
theorem e_Rm_openLine_12 {l : Launch} {G : kG} {σf : kS} {k7 : Int → Int → kS → kRes} (hk7 : ∀ (x1 : Int) (x2 : Int)  (σ : kS), k7 x1 x2 σ = some (none, σf) → Rn l G dm_Rm_openLine m_Rm_openLine (kU fun σ' => σ' = σf) 7 [some (.inr (9, 0)), some (.inl x1), some (.inl x2)] [] σ) {x1 : Int} {x2 : Int}  {σ : kS} (h : fb_Rm_openLine_12 k7 x1 x2 σ = some (none, σf)) : Rn l G dm_Rm_openLine m_Rm_openLine (kU fun σ' => σ' = σf) 12 [some (.inr (9, 0)), some (.inl x1), some (.inl x2)] [] σ := by
  unfold fb_Rm_openLine_12 at h
  obtain ⟨σ1, hc, h⟩ := kbu_some h
  refine s_Rm_openLine_12  (by decide) (E_Rm_copyLine hc) (fun σ2 e2 => ?_)
  subst e2
  exact e_Rm_openLine_22 hk7 h
def fb_Rm_openLine_7 (k7 : Int → Int → kS → kRes) (x1 : Int) (x2 : Int) (σ : kS) : kRes := kg ((-2147483648 ≤ x2 ∧ x2 < 2147483648) ∧ (-2147483648 ≤ x1 ∧ x1 < 2147483648)) (if x2 ≤ x1 then fb_Rm_openLine_28  x1 x2 σ else fb_Rm_openLine_12 k7 x1 x2 σ)
theorem e_Rm_openLine_7 {l : Launch} {G : kG} {σf : kS} {k7 : Int → Int → kS → kRes} (hk7 : ∀ (x1 : Int) (x2 : Int)  (σ : kS), k7 x1 x2 σ = some (none, σf) → Rn l G dm_Rm_openLine m_Rm_openLine (kU fun σ' => σ' = σf) 7 [some (.inr (9, 0)), some (.inl x1), some (.inl x2)] [] σ) {x1 : Int} {x2 : Int}  {σ : kS} (h : fb_Rm_openLine_7 k7 x1 x2 σ = some (none, σf)) : Rn l G dm_Rm_openLine m_Rm_openLine (kU fun σ' => σ' = σf) 7 [some (.inr (9, 0)), some (.inl x1), some (.inl x2)] [] σ := by
  unfold fb_Rm_openLine_7 at h
  obtain ⟨⟨h1, h2⟩, h⟩ := kg_some h
  refine s_Rm_openLine_7 h1 h2 (fun c => ?_) (fun c => ?_)
  · rw [if_pos c] at h
    exact e_Rm_openLine_28  h
  · rw [if_neg c] at h
    exact e_Rm_openLine_12 hk7 h
def fl_Rm_openLine_7  : Nat → Int → Int → kS → kRes
  | 0, _, _, _ => none
  | n + 1, x1, x2, σ => fb_Rm_openLine_7 (fl_Rm_openLine_7  n) x1 x2 σ
theorem el_Rm_openLine_7 {l : Launch} {G : kG} {σf : kS}  : ∀ (n : Nat) (x1 : Int) (x2 : Int)  (σ : kS), fl_Rm_openLine_7  n x1 x2 σ = some (none, σf) → Rn l G dm_Rm_openLine m_Rm_openLine (kU fun σ' => σ' = σf) 7 [some (.inr (9, 0)), some (.inl x1), some (.inl x2)] [] σ := by
  intro n
  induction n with
  | zero => intro x1 x2 σ h; simp only [fl_Rm_openLine_7] at h; cases h
  | succ n ih => intro x1 x2 σ h; simp only [fl_Rm_openLine_7] at h; exact e_Rm_openLine_7 ih h
def fb_Rm_openLine_0  (x1 : Int) (σ : kS) : kRes := fl_Rm_openLine_7  3000 x1 (σ 22 0 0) σ
theorem e_Rm_openLine_0 {l : Launch} {G : kG} {σf : kS}  {x1 : Int} {o2 : Option kV} {σ : kS} (h : fb_Rm_openLine_0  x1 σ = some (none, σf)) : Rn l G dm_Rm_openLine m_Rm_openLine (kU fun σ' => σ' = σf) 0 [some (.inr (9, 0)), some (.inl x1), o2] [] σ := by
  unfold fb_Rm_openLine_0 at h
  refine s_Rm_openLine_0  ?_
  exact el_Rm_openLine_7  _ _ _ _ h
def f_Rm_openLine (x1 : Int) (σ : kS) : kRes := fb_Rm_openLine_0 x1 σ
theorem E_Rm_openLine {l : Launch} {G : kG} {σf : kS} {x1 : Int} {σ : kS} (h : f_Rm_openLine x1 σ = some (none, σf)) : Call l G dm_Rm_openLine y_Rm_openLine m_Rm_openLine [.inr (9, 0), .inl x1] σ (kU fun σ' => σ' = σf) := by
  unfold f_Rm_openLine at h
  exact Call.of (by decide +kernel) rfl (Nat.le_of_ble_eq_true rfl) (e_Rm_openLine_0 h)
/-! Rm_takeLines -/
def fb_Rm_takeLines_59  (x1 : Int) (x2 : Int) (x3 : Int) (σ : kS) : kRes := some (none, σ)
theorem e_Rm_takeLines_59 {l : Launch} {G : kG} {σf : kS}  {x1 : Int} {x2 : Int} {x3 : Int}  {σ : kS} (h : fb_Rm_takeLines_59  x1 x2 x3 σ = some (none, σf)) : Rn l G dm_Rm_takeLines m_Rm_takeLines (kU fun σ' => σ' = σf) 59 [some (.inr (9, 0)), some (.inl x1), some (.inl x2), some (.inl x3)] [] σ := by
  unfold fb_Rm_takeLines_59 at h
  simp only [Option.some.injEq, Prod.mk.injEq, true_and] at h
  exact s_Rm_takeLines_59  ⟨rfl, h⟩
def fb_Rm_takeLines_55  (x1 : Int) (x2 : Int) (x3 : Int) (s0 : Int) (σ : kS) : kRes := kbu (f_Rm_place s0 0 σ) fun σ1 => fb_Rm_takeLines_59  x1 x2 x3 σ1
theorem e_Rm_takeLines_55 {l : Launch} {G : kG} {σf : kS}  {x1 : Int} {x2 : Int} {x3 : Int} {s0 : Int}  {σ : kS} (h : fb_Rm_takeLines_55  x1 x2 x3 s0 σ = some (none, σf)) : Rn l G dm_Rm_takeLines m_Rm_takeLines (kU fun σ' => σ' = σf) 55 [some (.inr (9, 0)), some (.inl x1), some (.inl x2), some (.inl x3)] [.inl s0, .inr (9, 0)] σ := by
  unfold fb_Rm_takeLines_55 at h
  obtain ⟨σ1, hc, h⟩ := kbu_some h
  refine s_Rm_takeLines_55  (by decide) (E_Rm_place hc) (fun σ2 e2 => ?_)
  subst e2
  exact e_Rm_takeLines_59  h
def fb_Rm_takeLines_47  (x1 : Int) (x2 : Int) (x3 : Int) (σ : kS) : kRes := fb_Rm_takeLines_55  x1 x2 x3 ((σ 22 0 0) - 1) σ
theorem e_Rm_takeLines_47 {l : Launch} {G : kG} {σf : kS}  {x1 : Int} {x2 : Int} {x3 : Int}  {σ : kS} (h : fb_Rm_takeLines_47  x1 x2 x3 σ = some (none, σf)) : Rn l G dm_Rm_takeLines m_Rm_takeLines (kU fun σ' => σ' = σf) 47 [some (.inr (9, 0)), some (.inl x1), some (.inl x2), some (.inl x3)] [.inr (9, 0)] σ := by
  unfold fb_Rm_takeLines_47 at h
  refine s_Rm_takeLines_47  ?_
  exact e_Rm_takeLines_55  h
def fb_Rm_takeLines_43  (x1 : Int) (x2 : Int) (x3 : Int) (σ : kS) : kRes := fb_Rm_takeLines_55  x1 x2 x3 x1 σ
theorem e_Rm_takeLines_43 {l : Launch} {G : kG} {σf : kS}  {x1 : Int} {x2 : Int} {x3 : Int}  {σ : kS} (h : fb_Rm_takeLines_43  x1 x2 x3 σ = some (none, σf)) : Rn l G dm_Rm_takeLines m_Rm_takeLines (kU fun σ' => σ' = σf) 43 [some (.inr (9, 0)), some (.inl x1), some (.inl x2), some (.inl x3)] [.inr (9, 0)] σ := by
  unfold fb_Rm_takeLines_43 at h
  refine s_Rm_takeLines_43  ?_
  exact e_Rm_takeLines_55  h
def fb_Rm_takeLines_32  (x1 : Int) (x2 : Int) (x3 : Int) (σ : kS) : kRes := kg ((-2147483648 ≤ x1 ∧ x1 < 2147483648) ∧ (-2147483648 ≤ σ 22 0 0 ∧ σ 22 0 0 < 2147483648)) (if (σ 22 0 0) ≤ x1 then fb_Rm_takeLines_47  x1 x2 x3 σ else fb_Rm_takeLines_43  x1 x2 x3 σ)
theorem e_Rm_takeLines_32 {l : Launch} {G : kG} {σf : kS}  {x1 : Int} {x2 : Int} {x3 : Int}  {σ : kS} (h : fb_Rm_takeLines_32  x1 x2 x3 σ = some (none, σf)) : Rn l G dm_Rm_takeLines m_Rm_takeLines (kU fun σ' => σ' = σf) 32 [some (.inr (9, 0)), some (.inl x1), some (.inl x2), some (.inl x3)] [] σ := by
  unfold fb_Rm_takeLines_32 at h
  obtain ⟨⟨h1, h2⟩, h⟩ := kg_some h
  refine s_Rm_takeLines_32 h1 h2 (fun c => ?_) (fun c => ?_)
  · rw [if_pos c] at h
    exact e_Rm_takeLines_47  h
  · rw [if_neg c] at h
    exact e_Rm_takeLines_43  h
def fb_Rm_takeLines_27  (x1 : Int) (x2 : Int) (x3 : Int) (σ : kS) : kRes := kbu (f_Rm_openLine 0 σ) fun σ1 => fb_Rm_takeLines_32  x1 x2 x3 σ1
theorem e_Rm_takeLines_27 {l : Launch} {G : kG} {σf : kS}  {x1 : Int} {x2 : Int} {x3 : Int}  {σ : kS} (h : fb_Rm_takeLines_27  x1 x2 x3 σ = some (none, σf)) : Rn l G dm_Rm_takeLines m_Rm_takeLines (kU fun σ' => σ' = σf) 27 [some (.inr (9, 0)), some (.inl x1), some (.inl x2), some (.inl x3)] [] σ := by
  unfold fb_Rm_takeLines_27 at h
  obtain ⟨σ1, hc, h⟩ := kbu_some h
  refine s_Rm_takeLines_27  (by decide) (E_Rm_openLine hc) (fun σ2 e2 => ?_)
  subst e2
  exact e_Rm_takeLines_32  h
def fb_Rm_takeLines_18  (x1 : Int) (x2 : Int) (x3 : Int) (σ : kS) : kRes := kg ((-2147483648 ≤ σ 22 0 0 ∧ σ 22 0 0 < 2147483648)) (if (σ 22 0 0) = 0 then fb_Rm_takeLines_27  x1 x2 x3 σ else fb_Rm_takeLines_32  x1 x2 x3 σ)
theorem e_Rm_takeLines_18 {l : Launch} {G : kG} {σf : kS}  {x1 : Int} {x2 : Int} {x3 : Int}  {σ : kS} (h : fb_Rm_takeLines_18  x1 x2 x3 σ = some (none, σf)) : Rn l G dm_Rm_takeLines m_Rm_takeLines (kU fun σ' => σ' = σf) 18 [some (.inr (9, 0)), some (.inl x1), some (.inl x2), some (.inl x3)] [] σ := by
  unfold fb_Rm_takeLines_18 at h
  obtain ⟨h1, h⟩ := kg_some h
  refine s_Rm_takeLines_18 h1 (fun c => ?_) (fun c => ?_)
  · rw [if_neg c] at h
    exact e_Rm_takeLines_32  h
  · rw [if_pos c] at h
    exact e_Rm_takeLines_27  h
def fb_Rm_takeLines_12 (k2 : Int → Int → Int → kS → kRes) (x1 : Int) (x2 : Int) (x3 : Int) (σ : kS) : kRes := k2 x1 x2 (x3 + 1) σ
theorem e_Rm_takeLines_12 {l : Launch} {G : kG} {σf : kS} {k2 : Int → Int → Int → kS → kRes} (hk2 : ∀ (x1 : Int) (x2 : Int) (x3 : Int)  (σ : kS), k2 x1 x2 x3 σ = some (none, σf) → Rn l G dm_Rm_takeLines m_Rm_takeLines (kU fun σ' => σ' = σf) 2 [some (.inr (9, 0)), some (.inl x1), some (.inl x2), some (.inl x3)] [] σ) {x1 : Int} {x2 : Int} {x3 : Int}  {σ : kS} (h : fb_Rm_takeLines_12 k2 x1 x2 x3 σ = some (none, σf)) : Rn l G dm_Rm_takeLines m_Rm_takeLines (kU fun σ' => σ' = σf) 12 [some (.inr (9, 0)), some (.inl x1), some (.inl x2), some (.inl x3)] [] σ := by
  unfold fb_Rm_takeLines_12 at h
  refine s_Rm_takeLines_12  ?_
  exact hk2 _ _ _ _ h
def fb_Rm_takeLines_7 (k2 : Int → Int → Int → kS → kRes) (x1 : Int) (x2 : Int) (x3 : Int) (σ : kS) : kRes := kbu (f_Rm_closeLine x1 σ) fun σ1 => fb_Rm_takeLines_12 k2 x1 x2 x3 σ1
theorem e_Rm_takeLines_7 {l : Launch} {G : kG} {σf : kS} {k2 : Int → Int → Int → kS → kRes} (hk2 : ∀ (x1 : Int) (x2 : Int) (x3 : Int)  (σ : kS), k2 x1 x2 x3 σ = some (none, σf) → Rn l G dm_Rm_takeLines m_Rm_takeLines (kU fun σ' => σ' = σf) 2 [some (.inr (9, 0)), some (.inl x1), some (.inl x2), some (.inl x3)] [] σ) {x1 : Int} {x2 : Int} {x3 : Int}  {σ : kS} (h : fb_Rm_takeLines_7 k2 x1 x2 x3 σ = some (none, σf)) : Rn l G dm_Rm_takeLines m_Rm_takeLines (kU fun σ' => σ' = σf) 7 [some (.inr (9, 0)), some (.inl x1), some (.inl x2), some (.inl x3)] [] σ := by
  unfold fb_Rm_takeLines_7 at h
  obtain ⟨σ1, hc, h⟩ := kbu_some h
  refine s_Rm_takeLines_7  (by decide) (E_Rm_closeLine hc) (fun σ2 e2 => ?_)
  subst e2
  exact e_Rm_takeLines_12 hk2 h
def fb_Rm_takeLines_2 (k2 : Int → Int → Int → kS → kRes) (x1 : Int) (x2 : Int) (x3 : Int) (σ : kS) : kRes := kg ((-2147483648 ≤ x3 ∧ x3 < 2147483648) ∧ (-2147483648 ≤ x2 ∧ x2 < 2147483648)) (if x2 < x3 then fb_Rm_takeLines_18  x1 x2 x3 σ else fb_Rm_takeLines_7 k2 x1 x2 x3 σ)
theorem e_Rm_takeLines_2 {l : Launch} {G : kG} {σf : kS} {k2 : Int → Int → Int → kS → kRes} (hk2 : ∀ (x1 : Int) (x2 : Int) (x3 : Int)  (σ : kS), k2 x1 x2 x3 σ = some (none, σf) → Rn l G dm_Rm_takeLines m_Rm_takeLines (kU fun σ' => σ' = σf) 2 [some (.inr (9, 0)), some (.inl x1), some (.inl x2), some (.inl x3)] [] σ) {x1 : Int} {x2 : Int} {x3 : Int}  {σ : kS} (h : fb_Rm_takeLines_2 k2 x1 x2 x3 σ = some (none, σf)) : Rn l G dm_Rm_takeLines m_Rm_takeLines (kU fun σ' => σ' = σf) 2 [some (.inr (9, 0)), some (.inl x1), some (.inl x2), some (.inl x3)] [] σ := by
  unfold fb_Rm_takeLines_2 at h
  obtain ⟨⟨h1, h2⟩, h⟩ := kg_some h
  refine s_Rm_takeLines_2 h1 h2 (fun c => ?_) (fun c => ?_)
  · rw [if_pos c] at h
    exact e_Rm_takeLines_18  h
  · rw [if_neg c] at h
    exact e_Rm_takeLines_7 hk2 h
def fl_Rm_takeLines_2  : Nat → Int → Int → Int → kS → kRes
  | 0, _, _, _, _ => none
  | n + 1, x1, x2, x3, σ => fb_Rm_takeLines_2 (fl_Rm_takeLines_2  n) x1 x2 x3 σ
theorem el_Rm_takeLines_2 {l : Launch} {G : kG} {σf : kS}  : ∀ (n : Nat) (x1 : Int) (x2 : Int) (x3 : Int)  (σ : kS), fl_Rm_takeLines_2  n x1 x2 x3 σ = some (none, σf) → Rn l G dm_Rm_takeLines m_Rm_takeLines (kU fun σ' => σ' = σf) 2 [some (.inr (9, 0)), some (.inl x1), some (.inl x2), some (.inl x3)] [] σ := by
  intro n
  induction n with
  | zero => intro x1 x2 x3 σ h; simp only [fl_Rm_takeLines_2] at h; cases h
  | succ n ih => intro x1 x2 x3 σ h; simp only [fl_Rm_takeLines_2] at h; exact e_Rm_takeLines_2 ih h
def fb_Rm_takeLines_0  (x1 : Int) (x2 : Int) (σ : kS) : kRes := fl_Rm_takeLines_2  3000 x1 x2 x1 σ
theorem e_Rm_takeLines_0 {l : Launch} {G : kG} {σf : kS}  {x1 : Int} {x2 : Int} {o3 : Option kV} {σ : kS} (h : fb_Rm_takeLines_0  x1 x2 σ = some (none, σf)) : Rn l G dm_Rm_takeLines m_Rm_takeLines (kU fun σ' => σ' = σf) 0 [some (.inr (9, 0)), some (.inl x1), some (.inl x2), o3] [] σ := by
  unfold fb_Rm_takeLines_0 at h
  refine s_Rm_takeLines_0  ?_
  exact el_Rm_takeLines_2  _ _ _ _ _ h
def f_Rm_takeLines (x1 : Int) (x2 : Int) (σ : kS) : kRes := fb_Rm_takeLines_0 x1 x2 σ
theorem E_Rm_takeLines {l : Launch} {G : kG} {σf : kS} {x1 : Int} {x2 : Int} {σ : kS} (h : f_Rm_takeLines x1 x2 σ = some (none, σf)) : Call l G dm_Rm_takeLines y_Rm_takeLines m_Rm_takeLines [.inr (9, 0), .inl x1, .inl x2] σ (kU fun σ' => σ' = σf) := by
  unfold f_Rm_takeLines at h
  exact Call.of (by decide +kernel) rfl (Nat.le_of_ble_eq_true rfl) (e_Rm_takeLines_0 h)
/-! Rm_one -/
def fb_Rm_one_55  (x1 : Int) (x2 : Int) (s0 : Int) (σ : kS) : kRes := kg ((s0 = 0 ∨ s0 = 1)) (some (some s0, σ))
theorem e_Rm_one_55 {l : Launch} {G : kG} {yf : Int} {σf : kS}  {x1 : Int} {x2 : Int} {s0 : Int}  {σ : kS} (h : fb_Rm_one_55  x1 x2 s0 σ = some (some yf, σf)) : Rn l G dm_Rm_one m_Rm_one (kI fun y' σ' => y' = yf ∧ σ' = σf) 55 [some (.inr (9, 0)), some (.inl x1), some (.inl x2)] [.inl s0] σ := by
  unfold fb_Rm_one_55 at h
  obtain ⟨h1, h⟩ := kg_some h
  simp only [Option.some.injEq, Prod.mk.injEq, true_and] at h
  exact s_Rm_one_55 h1 ⟨_, rfl, h⟩
def fb_Rm_one_54  (x1 : Int) (x2 : Int) (σ : kS) : kRes := fb_Rm_one_55  x1 x2 0 σ
theorem e_Rm_one_54 {l : Launch} {G : kG} {yf : Int} {σf : kS}  {x1 : Int} {x2 : Int}  {σ : kS} (h : fb_Rm_one_54  x1 x2 σ = some (some yf, σf)) : Rn l G dm_Rm_one m_Rm_one (kI fun y' σ' => y' = yf ∧ σ' = σf) 54 [some (.inr (9, 0)), some (.inl x1), some (.inl x2)] [] σ := by
  unfold fb_Rm_one_54 at h
  refine s_Rm_one_54  ?_
  exact e_Rm_one_55  h
def fb_Rm_one_50  (x1 : Int) (x2 : Int) (σ : kS) : kRes := fb_Rm_one_55  x1 x2 1 σ
theorem e_Rm_one_50 {l : Launch} {G : kG} {yf : Int} {σf : kS}  {x1 : Int} {x2 : Int}  {σ : kS} (h : fb_Rm_one_50  x1 x2 σ = some (some yf, σf)) : Rn l G dm_Rm_one m_Rm_one (kI fun y' σ' => y' = yf ∧ σ' = σf) 50 [some (.inr (9, 0)), some (.inl x1), some (.inl x2)] [] σ := by
  unfold fb_Rm_one_50 at h
  refine s_Rm_one_50  ?_
  exact e_Rm_one_55  h
def fb_Rm_one_47  (x1 : Int) (x2 : Int) (s0 : Int) (σ : kS) : kRes := kg ((-2147483648 ≤ s0 ∧ s0 < 2147483648)) (if s0 = 0 then fb_Rm_one_54  x1 x2 σ else fb_Rm_one_50  x1 x2 σ)
theorem e_Rm_one_47 {l : Launch} {G : kG} {yf : Int} {σf : kS}  {x1 : Int} {x2 : Int} {s0 : Int}  {σ : kS} (h : fb_Rm_one_47  x1 x2 s0 σ = some (some yf, σf)) : Rn l G dm_Rm_one m_Rm_one (kI fun y' σ' => y' = yf ∧ σ' = σf) 47 [some (.inr (9, 0)), some (.inl x1), some (.inl x2)] [.inl s0] σ := by
  unfold fb_Rm_one_47 at h
  obtain ⟨h1, h⟩ := kg_some h
  refine s_Rm_one_47 h1 (fun c => ?_) (fun c => ?_)
  · rw [if_pos c] at h
    exact e_Rm_one_54  h
  · rw [if_neg c] at h
    exact e_Rm_one_50  h
def fb_Rm_one_41  (x1 : Int) (x2 : Int) (σ : kS) : kRes := kbi (f_Rm_exchange x1 x2 σ) fun y σ1 => fb_Rm_one_47  x1 x2 y σ1
theorem e_Rm_one_41 {l : Launch} {G : kG} {yf : Int} {σf : kS}  {x1 : Int} {x2 : Int}  {σ : kS} (h : fb_Rm_one_41  x1 x2 σ = some (some yf, σf)) : Rn l G dm_Rm_one m_Rm_one (kI fun y' σ' => y' = yf ∧ σ' = σf) 41 [some (.inr (9, 0)), some (.inl x1), some (.inl x2)] [] σ := by
  unfold fb_Rm_one_41 at h
  obtain ⟨y, σ1, hc, h⟩ := kbi_some h
  refine s_Rm_one_41  (by decide) (E_Rm_exchange hc) (fun y2 σ2 e2 => ?_)
  obtain ⟨rfl, rfl⟩ := e2
  exact e_Rm_one_47  h
def fb_Rm_one_38  (x1 : Int) (x2 : Int) (s0 : Int) (σ : kS) : kRes := kg ((-2147483648 ≤ s0 ∧ s0 < 2147483648)) (if s0 = 0 then fb_Rm_one_54  x1 x2 σ else fb_Rm_one_41  x1 x2 σ)
theorem e_Rm_one_38 {l : Launch} {G : kG} {yf : Int} {σf : kS}  {x1 : Int} {x2 : Int} {s0 : Int}  {σ : kS} (h : fb_Rm_one_38  x1 x2 s0 σ = some (some yf, σf)) : Rn l G dm_Rm_one m_Rm_one (kI fun y' σ' => y' = yf ∧ σ' = σf) 38 [some (.inr (9, 0)), some (.inl x1), some (.inl x2)] [.inl s0] σ := by
  unfold fb_Rm_one_38 at h
  obtain ⟨h1, h⟩ := kg_some h
  refine s_Rm_one_38 h1 (fun c => ?_) (fun c => ?_)
  · rw [if_pos c] at h
    exact e_Rm_one_54  h
  · rw [if_neg c] at h
    exact e_Rm_one_41  h
def fb_Rm_one_32  (x1 : Int) (x2 : Int) (σ : kS) : kRes := kbi (f_Rm_take 115 σ) fun y σ1 => fb_Rm_one_38  x1 x2 y σ1
theorem e_Rm_one_32 {l : Launch} {G : kG} {yf : Int} {σf : kS}  {x1 : Int} {x2 : Int}  {σ : kS} (h : fb_Rm_one_32  x1 x2 σ = some (some yf, σf)) : Rn l G dm_Rm_one m_Rm_one (kI fun y' σ' => y' = yf ∧ σ' = σf) 32 [some (.inr (9, 0)), some (.inl x1), some (.inl x2)] [] σ := by
  unfold fb_Rm_one_32 at h
  obtain ⟨y, σ1, hc, h⟩ := kbi_some h
  refine s_Rm_one_32  (by decide) (E_Rm_take hc) (fun y2 σ2 e2 => ?_)
  obtain ⟨rfl, rfl⟩ := e2
  exact e_Rm_one_38  h
def fb_Rm_one_30  (x1 : Int) (x2 : Int) (σ : kS) : kRes := some (some 1, σ)
theorem e_Rm_one_30 {l : Launch} {G : kG} {yf : Int} {σf : kS}  {x1 : Int} {x2 : Int}  {σ : kS} (h : fb_Rm_one_30  x1 x2 σ = some (some yf, σf)) : Rn l G dm_Rm_one m_Rm_one (kI fun y' σ' => y' = yf ∧ σ' = σf) 30 [some (.inr (9, 0)), some (.inl x1), some (.inl x2)] [] σ := by
  unfold fb_Rm_one_30 at h
  simp only [Option.some.injEq, Prod.mk.injEq, true_and] at h
  exact s_Rm_one_30  ⟨_, rfl, h⟩
def fb_Rm_one_24  (x1 : Int) (x2 : Int) (σ : kS) : kRes := kbu (f_Rm_takeLines x1 x2 σ) fun σ1 => fb_Rm_one_30  x1 x2 σ1
theorem e_Rm_one_24 {l : Launch} {G : kG} {yf : Int} {σf : kS}  {x1 : Int} {x2 : Int}  {σ : kS} (h : fb_Rm_one_24  x1 x2 σ = some (some yf, σf)) : Rn l G dm_Rm_one m_Rm_one (kI fun y' σ' => y' = yf ∧ σ' = σf) 24 [some (.inr (9, 0)), some (.inl x1), some (.inl x2)] [] σ := by
  unfold fb_Rm_one_24 at h
  obtain ⟨σ1, hc, h⟩ := kbu_some h
  refine s_Rm_one_24  (by decide) (E_Rm_takeLines hc) (fun σ2 e2 => ?_)
  subst e2
  exact e_Rm_one_30  h
def fb_Rm_one_18  (x1 : Int) (x2 : Int) (σ : kS) : kRes := kbu (f_Rm_hold x1 x2 σ) fun σ1 => fb_Rm_one_24  x1 x2 σ1
theorem e_Rm_one_18 {l : Launch} {G : kG} {yf : Int} {σf : kS}  {x1 : Int} {x2 : Int}  {σ : kS} (h : fb_Rm_one_18  x1 x2 σ = some (some yf, σf)) : Rn l G dm_Rm_one m_Rm_one (kI fun y' σ' => y' = yf ∧ σ' = σf) 18 [some (.inr (9, 0)), some (.inl x1), some (.inl x2)] [] σ := by
  unfold fb_Rm_one_18 at h
  obtain ⟨σ1, hc, h⟩ := kbu_some h
  refine s_Rm_one_18  (by decide) (E_Rm_hold hc) (fun σ2 e2 => ?_)
  subst e2
  exact e_Rm_one_24  h
def fb_Rm_one_16  (x1 : Int) (x2 : Int) (σ : kS) : kRes := some (some 0, σ)
theorem e_Rm_one_16 {l : Launch} {G : kG} {yf : Int} {σf : kS}  {x1 : Int} {x2 : Int}  {σ : kS} (h : fb_Rm_one_16  x1 x2 σ = some (some yf, σf)) : Rn l G dm_Rm_one m_Rm_one (kI fun y' σ' => y' = yf ∧ σ' = σf) 16 [some (.inr (9, 0)), some (.inl x1), some (.inl x2)] [] σ := by
  unfold fb_Rm_one_16 at h
  simp only [Option.some.injEq, Prod.mk.injEq, true_and] at h
  exact s_Rm_one_16  ⟨_, rfl, h⟩
def fb_Rm_one_13  (x1 : Int) (x2 : Int) (s0 : Int) (σ : kS) : kRes := kg ((-2147483648 ≤ s0 ∧ s0 < 2147483648)) (if s0 = 0 then fb_Rm_one_16  x1 x2 σ else fb_Rm_one_18  x1 x2 σ)
theorem e_Rm_one_13 {l : Launch} {G : kG} {yf : Int} {σf : kS}  {x1 : Int} {x2 : Int} {s0 : Int}  {σ : kS} (h : fb_Rm_one_13  x1 x2 s0 σ = some (some yf, σf)) : Rn l G dm_Rm_one m_Rm_one (kI fun y' σ' => y' = yf ∧ σ' = σf) 13 [some (.inr (9, 0)), some (.inl x1), some (.inl x2)] [.inl s0] σ := by
  unfold fb_Rm_one_13 at h
  obtain ⟨h1, h⟩ := kg_some h
  refine s_Rm_one_13 h1 (fun c => ?_) (fun c => ?_)
  · rw [if_neg c] at h
    exact e_Rm_one_18  h
  · rw [if_pos c] at h
    exact e_Rm_one_16  h
def fb_Rm_one_9  (x1 : Int) (x2 : Int) (σ : kS) : kRes := kbi (f_Rm_ended  σ) fun y σ1 => fb_Rm_one_13  x1 x2 y σ1
theorem e_Rm_one_9 {l : Launch} {G : kG} {yf : Int} {σf : kS}  {x1 : Int} {x2 : Int}  {σ : kS} (h : fb_Rm_one_9  x1 x2 σ = some (some yf, σf)) : Rn l G dm_Rm_one m_Rm_one (kI fun y' σ' => y' = yf ∧ σ' = σf) 9 [some (.inr (9, 0)), some (.inl x1), some (.inl x2)] [] σ := by
  unfold fb_Rm_one_9 at h
  obtain ⟨y, σ1, hc, h⟩ := kbi_some h
  refine s_Rm_one_9  (by decide) (E_Rm_ended hc) (fun y2 σ2 e2 => ?_)
  obtain ⟨rfl, rfl⟩ := e2
  exact e_Rm_one_13  h
def fb_Rm_one_6  (x1 : Int) (x2 : Int) (s0 : Int) (σ : kS) : kRes := kg ((-2147483648 ≤ s0 ∧ s0 < 2147483648)) (if s0 = 0 then fb_Rm_one_32  x1 x2 σ else fb_Rm_one_9  x1 x2 σ)
theorem e_Rm_one_6 {l : Launch} {G : kG} {yf : Int} {σf : kS}  {x1 : Int} {x2 : Int} {s0 : Int}  {σ : kS} (h : fb_Rm_one_6  x1 x2 s0 σ = some (some yf, σf)) : Rn l G dm_Rm_one m_Rm_one (kI fun y' σ' => y' = yf ∧ σ' = σf) 6 [some (.inr (9, 0)), some (.inl x1), some (.inl x2)] [.inl s0] σ := by
  unfold fb_Rm_one_6 at h
  obtain ⟨h1, h⟩ := kg_some h
  refine s_Rm_one_6 h1 (fun c => ?_) (fun c => ?_)
  · rw [if_pos c] at h
    exact e_Rm_one_32  h
  · rw [if_neg c] at h
    exact e_Rm_one_9  h
def fb_Rm_one_0  (x1 : Int) (x2 : Int) (σ : kS) : kRes := kbi (f_Rm_take 100 σ) fun y σ1 => fb_Rm_one_6  x1 x2 y σ1
theorem e_Rm_one_0 {l : Launch} {G : kG} {yf : Int} {σf : kS}  {x1 : Int} {x2 : Int}  {σ : kS} (h : fb_Rm_one_0  x1 x2 σ = some (some yf, σf)) : Rn l G dm_Rm_one m_Rm_one (kI fun y' σ' => y' = yf ∧ σ' = σf) 0 [some (.inr (9, 0)), some (.inl x1), some (.inl x2)] [] σ := by
  unfold fb_Rm_one_0 at h
  obtain ⟨y, σ1, hc, h⟩ := kbi_some h
  refine s_Rm_one_0  (by decide) (E_Rm_take hc) (fun y2 σ2 e2 => ?_)
  obtain ⟨rfl, rfl⟩ := e2
  exact e_Rm_one_6  h
def f_Rm_one (x1 : Int) (x2 : Int) (σ : kS) : kRes := fb_Rm_one_0 x1 x2 σ
theorem E_Rm_one {l : Launch} {G : kG} {yf : Int} {σf : kS} {x1 : Int} {x2 : Int} {σ : kS} (h : f_Rm_one x1 x2 σ = some (some yf, σf)) : Call l G dm_Rm_one y_Rm_one m_Rm_one [.inr (9, 0), .inl x1, .inl x2] σ (kI fun y' σ' => y' = yf ∧ σ' = σf) := by
  unfold f_Rm_one at h
  exact Call.of (by decide +kernel) rfl (Nat.le_of_ble_eq_true rfl) (e_Rm_one_0 h)
