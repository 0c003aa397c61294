/-! Kb_insertFrom -/
def fb_Kb_insertFrom_16  (x1 : Int) (σ : kS) : kRes := some (some 1, σ)
theorem e_Kb_insertFrom_16 {l : Launch} {G : kG} {yf : Int} {σf : kS}  {x1 : Int}  {σ : kS} (h : fb_Kb_insertFrom_16  x1 σ = some (some yf, σf)) : Rn l G dm_Kb_insertFrom m_Kb_insertFrom (kI fun y' σ' => y' = yf ∧ σ' = σf) 16 [some (.inr (5, 0)), some (.inl x1)] [] σ := by
  unfold fb_Kb_insertFrom_16 at h
  simp only [Option.some.injEq, Prod.mk.injEq, true_and] at h
  exact s_Kb_insertFrom_16  ⟨_, rfl, h⟩
def fb_Kb_insertFrom_4  (x1 : Int) (σ : kS) : kRes := kbu (f_Kb_beginInsert (σ 2 0 3) x1 σ) fun σ1 => fb_Kb_insertFrom_16  x1 σ1
theorem e_Kb_insertFrom_4 {l : Launch} {G : kG} {yf : Int} {σf : kS}  {x1 : Int}  {σ : kS} (h : fb_Kb_insertFrom_4  x1 σ = some (some yf, σf)) : Rn l G dm_Kb_insertFrom m_Kb_insertFrom (kI fun y' σ' => y' = yf ∧ σ' = σf) 4 [some (.inr (5, 0)), some (.inl x1)] [] σ := by
  unfold fb_Kb_insertFrom_4 at h
  obtain ⟨σ1, hc, h⟩ := kbu_some h
  refine s_Kb_insertFrom_4  (by decide) (E_Kb_beginInsert hc) (fun σ2 e2 => ?_)
  subst e2
  exact e_Kb_insertFrom_16  h
def fb_Kb_insertFrom_0  (x1 : Int) (σ : kS) : kRes := kbu (f_Kb_beginChange  σ) fun σ1 => fb_Kb_insertFrom_4  x1 σ1
theorem e_Kb_insertFrom_0 {l : Launch} {G : kG} {yf : Int} {σf : kS}  {x1 : Int}  {σ : kS} (h : fb_Kb_insertFrom_0  x1 σ = some (some yf, σf)) : Rn l G dm_Kb_insertFrom m_Kb_insertFrom (kI fun y' σ' => y' = yf ∧ σ' = σf) 0 [some (.inr (5, 0)), some (.inl x1)] [] σ := by
  unfold fb_Kb_insertFrom_0 at h
  obtain ⟨σ1, hc, h⟩ := kbu_some h
  refine s_Kb_insertFrom_0  (by decide) (E_Kb_beginChange hc) (fun σ2 e2 => ?_)
  subst e2
  exact e_Kb_insertFrom_4  h
def f_Kb_insertFrom (x1 : Int) (σ : kS) : kRes := fb_Kb_insertFrom_0 x1 σ
theorem E_Kb_insertFrom {l : Launch} {G : kG} {yf : Int} {σf : kS} {x1 : Int} {σ : kS} (h : f_Kb_insertFrom x1 σ = some (some yf, σf)) : Call l G dm_Kb_insertFrom y_Kb_insertFrom m_Kb_insertFrom [.inr (5, 0), .inl x1] σ (kI fun y' σ' => y' = yf ∧ σ' = σf) := by
  unfold f_Kb_insertFrom at h
  exact Call.of (by decide +kernel) rfl (Nat.le_of_ble_eq_true rfl) (e_Kb_insertFrom_0 h)
/-! Te_indentOf -/
def fb_Te_indentOf_35  (x1 : Int) (x2 : Int) (x3 : Int) (t : Nat) (σ : kS) : kRes := some (some x3, σ)
theorem e_Te_indentOf_35 {l : Launch} {G : kG} {yf : Int} {σf : kS}  {x1 : Int} {x2 : Int} {x3 : Int} {t : Nat}  {σ : kS} (h : fb_Te_indentOf_35  x1 x2 x3 t σ = some (some yf, σf)) : Rn l G dm_Te_indentOf m_Te_indentOf (kI fun y' σ' => y' = yf ∧ σ' = σf) 35 [some (.inr (2, t)), some (.inl x1), some (.inl x2), some (.inl x3)] [] σ := by
  unfold fb_Te_indentOf_35 at h
  simp only [Option.some.injEq, Prod.mk.injEq, true_and] at h
  exact s_Te_indentOf_35  ⟨_, rfl, h⟩
def fb_Te_indentOf_29 (k8 : Int → Int → Int → Nat → kS → kRes) (x1 : Int) (x2 : Int) (x3 : Int) (t : Nat) (σ : kS) : kRes := k8 x1 x2 (x3 + 1) t σ
theorem e_Te_indentOf_29 {l : Launch} {G : kG} {yf : Int} {σf : kS} {k8 : Int → Int → Int → Nat → kS → kRes} (hk8 : ∀ (x1 : Int) (x2 : Int) (x3 : Int) (t : Nat)  (σ : kS), k8 x1 x2 x3 t σ = some (some yf, σf) → Rn l G dm_Te_indentOf m_Te_indentOf (kI fun y' σ' => y' = yf ∧ σ' = σf) 8 [some (.inr (2, t)), some (.inl x1), some (.inl x2), some (.inl x3)] [] σ) {x1 : Int} {x2 : Int} {x3 : Int} {t : Nat}  {σ : kS} (h : fb_Te_indentOf_29 k8 x1 x2 x3 t σ = some (some yf, σf)) : Rn l G dm_Te_indentOf m_Te_indentOf (kI fun y' σ' => y' = yf ∧ σ' = σf) 29 [some (.inr (2, t)), some (.inl x1), some (.inl x2), some (.inl x3)] [] σ := by
  unfold fb_Te_indentOf_29 at h
  refine s_Te_indentOf_29  ?_
  exact hk8 _ _ _ _ _ h
def fb_Te_indentOf_13 (k8 : Int → Int → Int → Nat → kS → kRes) (x1 : Int) (x2 : Int) (x3 : Int) (t : Nat) (σ : kS) : kRes := kg ((0 ≤ (x1 * 20) + x3 ∧ (x1 * 20) + x3 < (200 : Nat)) ∧ (-2147483648 ≤ σ 10 t (Int.toNat ((x1 * 20) + x3)) ∧ σ 10 t (Int.toNat ((x1 * 20) + x3)) < 2147483648)) (if (σ 10 t (Int.toNat ((x1 * 20) + x3))) = 32 then fb_Te_indentOf_29 k8 x1 x2 x3 t σ else fb_Te_indentOf_35  x1 x2 x3 t σ)
theorem e_Te_indentOf_13 {l : Launch} {G : kG} {yf : Int} {σf : kS} {k8 : Int → Int → Int → Nat → kS → kRes} (hk8 : ∀ (x1 : Int) (x2 : Int) (x3 : Int) (t : Nat)  (σ : kS), k8 x1 x2 x3 t σ = some (some yf, σf) → Rn l G dm_Te_indentOf m_Te_indentOf (kI fun y' σ' => y' = yf ∧ σ' = σf) 8 [some (.inr (2, t)), some (.inl x1), some (.inl x2), some (.inl x3)] [] σ) {x1 : Int} {x2 : Int} {x3 : Int} {t : Nat}  {σ : kS} (h : fb_Te_indentOf_13 k8 x1 x2 x3 t σ = some (some yf, σf)) : Rn l G dm_Te_indentOf m_Te_indentOf (kI fun y' σ' => y' = yf ∧ σ' = σf) 13 [some (.inr (2, t)), some (.inl x1), some (.inl x2), some (.inl x3)] [] σ := by
  unfold fb_Te_indentOf_13 at h
  obtain ⟨⟨h1, h2⟩, h⟩ := kg_some h
  refine s_Te_indentOf_13 h1 h2 (fun c => ?_) (fun c => ?_)
  · rw [if_neg c] at h
    exact e_Te_indentOf_35  h
  · rw [if_pos c] at h
    exact e_Te_indentOf_29 hk8 h
def fb_Te_indentOf_8 (k8 : Int → Int → Int → Nat → kS → kRes) (x1 : Int) (x2 : Int) (x3 : Int) (t : Nat) (σ : kS) : kRes := kg ((-2147483648 ≤ x3 ∧ x3 < 2147483648) ∧ (-2147483648 ≤ x2 ∧ x2 < 2147483648)) (if x2 ≤ x3 then fb_Te_indentOf_35  x1 x2 x3 t σ else fb_Te_indentOf_13 k8 x1 x2 x3 t σ)
theorem e_Te_indentOf_8 {l : Launch} {G : kG} {yf : Int} {σf : kS} {k8 : Int → Int → Int → Nat → kS → kRes} (hk8 : ∀ (x1 : Int) (x2 : Int) (x3 : Int) (t : Nat)  (σ : kS), k8 x1 x2 x3 t σ = some (some yf, σf) → Rn l G dm_Te_indentOf m_Te_indentOf (kI fun y' σ' => y' = yf ∧ σ' = σf) 8 [some (.inr (2, t)), some (.inl x1), some (.inl x2), some (.inl x3)] [] σ) {x1 : Int} {x2 : Int} {x3 : Int} {t : Nat}  {σ : kS} (h : fb_Te_indentOf_8 k8 x1 x2 x3 t σ = some (some yf, σf)) : Rn l G dm_Te_indentOf m_Te_indentOf (kI fun y' σ' => y' = yf ∧ σ' = σf) 8 [some (.inr (2, t)), some (.inl x1), some (.inl x2), some (.inl x3)] [] σ := by
  unfold fb_Te_indentOf_8 at h
  obtain ⟨⟨h1, h2⟩, h⟩ := kg_some h
  refine s_Te_indentOf_8 h1 h2 (fun c => ?_) (fun c => ?_)
  · rw [if_pos c] at h
    exact e_Te_indentOf_35  h
  · rw [if_neg c] at h
    exact e_Te_indentOf_13 hk8 h
def fl_Te_indentOf_8  : Nat → Int → Int → Int → Nat → kS → kRes
  | 0, _, _, _, _, _ => none
  | n + 1, x1, x2, x3, t, σ => fb_Te_indentOf_8 (fl_Te_indentOf_8  n) x1 x2 x3 t σ
theorem el_Te_indentOf_8 {l : Launch} {G : kG} {yf : Int} {σf : kS}  : ∀ (n : Nat) (x1 : Int) (x2 : Int) (x3 : Int) (t : Nat)  (σ : kS), fl_Te_indentOf_8  n x1 x2 x3 t σ = some (some yf, σf) → Rn l G dm_Te_indentOf m_Te_indentOf (kI fun y' σ' => y' = yf ∧ σ' = σf) 8 [some (.inr (2, t)), some (.inl x1), some (.inl x2), some (.inl x3)] [] σ := by
  intro n
  induction n with
  | zero => intro x1 x2 x3 t σ h; simp only [fl_Te_indentOf_8] at h; cases h
  | succ n ih => intro x1 x2 x3 t σ h; simp only [fl_Te_indentOf_8] at h; exact e_Te_indentOf_8 ih h
def fb_Te_indentOf_5  (x1 : Int) (s0 : Int) (t : Nat) (σ : kS) : kRes := fl_Te_indentOf_8  3000 x1 s0 0 t σ
theorem e_Te_indentOf_5 {l : Launch} {G : kG} {yf : Int} {σf : kS}  {x1 : Int} {s0 : Int} {t : Nat} {o2 : Option kV} {o3 : Option kV} {σ : kS} (h : fb_Te_indentOf_5  x1 s0 t σ = some (some yf, σf)) : Rn l G dm_Te_indentOf m_Te_indentOf (kI fun y' σ' => y' = yf ∧ σ' = σf) 5 [some (.inr (2, t)), some (.inl x1), o2, o3] [.inl s0] σ := by
  unfold fb_Te_indentOf_5 at h
  refine s_Te_indentOf_5  ?_
  exact el_Te_indentOf_8  _ _ _ _ _ _ h
def fb_Te_indentOf_0  (x1 : Int) (t : Nat) (σ : kS) : kRes := kbi (f_Te_sizeOf x1 t σ) fun y σ1 => fb_Te_indentOf_5  x1 y t σ1
theorem e_Te_indentOf_0 {l : Launch} {G : kG} {yf : Int} {σf : kS}  {x1 : Int} {t : Nat} {o2 : Option kV} {o3 : Option kV} {σ : kS} (h : fb_Te_indentOf_0  x1 t σ = some (some yf, σf)) : Rn l G dm_Te_indentOf m_Te_indentOf (kI fun y' σ' => y' = yf ∧ σ' = σf) 0 [some (.inr (2, t)), some (.inl x1), o2, o3] [] σ := by
  unfold fb_Te_indentOf_0 at h
  obtain ⟨y, σ1, hc, h⟩ := kbi_some h
  refine s_Te_indentOf_0  (by decide) (E_Te_sizeOf hc) (fun y2 σ2 e2 => ?_)
  obtain ⟨rfl, rfl⟩ := e2
  exact e_Te_indentOf_5  h
def f_Te_indentOf (x1 : Int) (t : Nat) (σ : kS) : kRes := fb_Te_indentOf_0 x1 t σ
theorem E_Te_indentOf {l : Launch} {G : kG} {yf : Int} {σf : kS} {x1 : Int} {t : Nat} {σ : kS} (h : f_Te_indentOf x1 t σ = some (some yf, σf)) : Call l G dm_Te_indentOf y_Te_indentOf m_Te_indentOf [.inr (2, t), .inl x1] σ (kI fun y' σ' => y' = yf ∧ σ' = σf) := by
  unfold f_Te_indentOf at h
  exact Call.of (by decide +kernel) rfl (Nat.le_of_ble_eq_true rfl) (e_Te_indentOf_0 h)
/-! Kb_openLine -/
def fb_Kb_openLine_60  (x1 : Int) (x2 : Int) (σ : kS) : kRes := some (some 1, σ)
theorem e_Kb_openLine_60 {l : Launch} {G : kG} {yf : Int} {σf : kS}  {x1 : Int} {x2 : Int}  {σ : kS} (h : fb_Kb_openLine_60  x1 x2 σ = some (some yf, σf)) : Rn l G dm_Kb_openLine m_Kb_openLine (kI fun y' σ' => y' = yf ∧ σ' = σf) 60 [some (.inr (5, 0)), some (.inl x1), some (.inl x2)] [] σ := by
  unfold fb_Kb_openLine_60 at h
  simp only [Option.some.injEq, Prod.mk.injEq, true_and] at h
  exact s_Kb_openLine_60  ⟨_, rfl, h⟩
def fb_Kb_openLine_53  (x1 : Int) (x2 : Int) (s0 : Int) (σ : kS) : kRes := kbu (f_Kb_beginInsert x1 x2 σ) fun σ1 => fb_Kb_openLine_60  x1 x2 σ1
theorem e_Kb_openLine_53 {l : Launch} {G : kG} {yf : Int} {σf : kS}  {x1 : Int} {x2 : Int} {s0 : Int}  {σ : kS} (h : fb_Kb_openLine_53  x1 x2 s0 σ = some (some yf, σf)) : Rn l G dm_Kb_openLine m_Kb_openLine (kI fun y' σ' => y' = yf ∧ σ' = σf) 53 [some (.inr (5, 0)), some (.inl x1), some (.inl x2)] [.inl s0] σ := by
  unfold fb_Kb_openLine_53 at h
  obtain ⟨σ1, hc, h⟩ := kbu_some h
  refine s_Kb_openLine_53  (by decide) (E_Kb_beginInsert hc) (fun σ2 e2 => ?_)
  subst e2
  exact e_Kb_openLine_60  h
def fb_Kb_openLine_42  (x1 : Int) (x2 : Int) (s0 : Int) (σ : kS) : kRes := kbi (f_Te_openLetters x1 0 x2 0 σ) fun y σ1 => fb_Kb_openLine_53  x1 x2 y σ1
theorem e_Kb_openLine_42 {l : Launch} {G : kG} {yf : Int} {σf : kS}  {x1 : Int} {x2 : Int} {s0 : Int}  {σ : kS} (h : fb_Kb_openLine_42  x1 x2 s0 σ = some (some yf, σf)) : Rn l G dm_Kb_openLine m_Kb_openLine (kI fun y' σ' => y' = yf ∧ σ' = σf) 42 [some (.inr (5, 0)), some (.inl x1), some (.inl x2)] [.inl s0] σ := by
  unfold fb_Kb_openLine_42 at h
  obtain ⟨y, σ1, hc, h⟩ := kbi_some h
  refine s_Kb_openLine_42  (by decide) (E_Te_openLetters hc) (fun y2 σ2 e2 => ?_)
  obtain ⟨rfl, rfl⟩ := e2
  exact e_Kb_openLine_53  h
def fb_Kb_openLine_32  (x1 : Int) (s0 : Int) (σ : kS) : kRes := kbi (f_Te_openLines x1 1 0 σ) fun y σ1 => fb_Kb_openLine_42  x1 s0 y σ1
theorem e_Kb_openLine_32 {l : Launch} {G : kG} {yf : Int} {σf : kS}  {x1 : Int} {s0 : Int} {o2 : Option kV} {σ : kS} (h : fb_Kb_openLine_32  x1 s0 σ = some (some yf, σf)) : Rn l G dm_Kb_openLine m_Kb_openLine (kI fun y' σ' => y' = yf ∧ σ' = σf) 32 [some (.inr (5, 0)), some (.inl x1), o2] [.inl s0] σ := by
  unfold fb_Kb_openLine_32 at h
  obtain ⟨y, σ1, hc, h⟩ := kbi_some h
  refine s_Kb_openLine_32  (by decide) (E_Te_openLines hc) (fun y2 σ2 e2 => ?_)
  obtain ⟨rfl, rfl⟩ := e2
  exact e_Kb_openLine_42  h
def fb_Kb_openLine_18  (x1 : Int) (σ : kS) : kRes := kbi (f_Te_indentOf (σ 2 0 3) 0 σ) fun y σ1 => fb_Kb_openLine_32  x1 y σ1
theorem e_Kb_openLine_18 {l : Launch} {G : kG} {yf : Int} {σf : kS}  {x1 : Int} {o2 : Option kV} {σ : kS} (h : fb_Kb_openLine_18  x1 σ = some (some yf, σf)) : Rn l G dm_Kb_openLine m_Kb_openLine (kI fun y' σ' => y' = yf ∧ σ' = σf) 18 [some (.inr (5, 0)), some (.inl x1), o2] [] σ := by
  unfold fb_Kb_openLine_18 at h
  obtain ⟨y, σ1, hc, h⟩ := kbi_some h
  refine s_Kb_openLine_18  (by decide) (E_Te_indentOf hc) (fun y2 σ2 e2 => ?_)
  obtain ⟨rfl, rfl⟩ := e2
  exact e_Kb_openLine_32  h
def fb_Kb_openLine_14  (x1 : Int) (σ : kS) : kRes := kbu (f_Kb_beginChange  σ) fun σ1 => fb_Kb_openLine_18  x1 σ1
theorem e_Kb_openLine_14 {l : Launch} {G : kG} {yf : Int} {σf : kS}  {x1 : Int} {o2 : Option kV} {σ : kS} (h : fb_Kb_openLine_14  x1 σ = some (some yf, σf)) : Rn l G dm_Kb_openLine m_Kb_openLine (kI fun y' σ' => y' = yf ∧ σ' = σf) 14 [some (.inr (5, 0)), some (.inl x1), o2] [] σ := by
  unfold fb_Kb_openLine_14 at h
  obtain ⟨σ1, hc, h⟩ := kbu_some h
  refine s_Kb_openLine_14  (by decide) (E_Kb_beginChange hc) (fun σ2 e2 => ?_)
  subst e2
  exact e_Kb_openLine_18  h
def fb_Kb_openLine_12  (x1 : Int) (σ : kS) : kRes := some (some 0, σ)
theorem e_Kb_openLine_12 {l : Launch} {G : kG} {yf : Int} {σf : kS}  {x1 : Int} {o2 : Option kV} {σ : kS} (h : fb_Kb_openLine_12  x1 σ = some (some yf, σf)) : Rn l G dm_Kb_openLine m_Kb_openLine (kI fun y' σ' => y' = yf ∧ σ' = σf) 12 [some (.inr (5, 0)), some (.inl x1), o2] [] σ := by
  unfold fb_Kb_openLine_12 at h
  simp only [Option.some.injEq, Prod.mk.injEq, true_and] at h
  exact s_Kb_openLine_12  ⟨_, rfl, h⟩
def fb_Kb_openLine_0  (x1 : Int) (σ : kS) : kRes := kg ((-2147483648 ≤ σ 2 0 2 ∧ σ 2 0 2 < 2147483648)) (if (σ 2 0 2) < 10 then fb_Kb_openLine_14  x1 σ else fb_Kb_openLine_12  x1 σ)
theorem e_Kb_openLine_0 {l : Launch} {G : kG} {yf : Int} {σf : kS}  {x1 : Int} {o2 : Option kV} {σ : kS} (h : fb_Kb_openLine_0  x1 σ = some (some yf, σf)) : Rn l G dm_Kb_openLine m_Kb_openLine (kI fun y' σ' => y' = yf ∧ σ' = σf) 0 [some (.inr (5, 0)), some (.inl x1), o2] [] σ := by
  unfold fb_Kb_openLine_0 at h
  obtain ⟨h1, h⟩ := kg_some h
  refine s_Kb_openLine_0 h1 (fun c => ?_) (fun c => ?_)
  · rw [if_pos c] at h
    exact e_Kb_openLine_14  h
  · rw [if_neg c] at h
    exact e_Kb_openLine_12  h
def f_Kb_openLine (x1 : Int) (σ : kS) : kRes := fb_Kb_openLine_0 x1 σ
theorem E_Kb_openLine {l : Launch} {G : kG} {yf : Int} {σf : kS} {x1 : Int} {σ : kS} (h : f_Kb_openLine x1 σ = some (some yf, σf)) : Call l G dm_Kb_openLine y_Kb_openLine m_Kb_openLine [.inr (5, 0), .inl x1] σ (kI fun y' σ' => y' = yf ∧ σ' = σf) := by
  unfold f_Kb_openLine at h
  exact Call.of (by decide +kernel) rfl (Nat.le_of_ble_eq_true rfl) (e_Kb_openLine_0 h)
/-! Kb_put -/
def fb_Kb_put_45  (x1 : Int) (x2 : Int) (σ : kS) : kRes := some (some 1, σ)
theorem e_Kb_put_45 {l : Launch} {G : kG} {yf : Int} {σf : kS}  {x1 : Int} {x2 : Int}  {σ : kS} (h : fb_Kb_put_45  x1 x2 σ = some (some yf, σf)) : Rn l G dm_Kb_put m_Kb_put (kI fun y' σ' => y' = yf ∧ σ' = σf) 45 [some (.inr (5, 0)), some (.inl x1), some (.inl x2)] [] σ := by
  unfold fb_Kb_put_45 at h
  simp only [Option.some.injEq, Prod.mk.injEq, true_and] at h
  exact s_Kb_put_45  ⟨_, rfl, h⟩
def fb_Kb_put_37  (x1 : Int) (x2 : Int) (σ : kS) : kRes := kbu (f_De_putLetters x2 σ) fun σ1 => fb_Kb_put_45  x1 x2 σ1
theorem e_Kb_put_37 {l : Launch} {G : kG} {yf : Int} {σf : kS}  {x1 : Int} {x2 : Int}  {σ : kS} (h : fb_Kb_put_37  x1 x2 σ = some (some yf, σf)) : Rn l G dm_Kb_put m_Kb_put (kI fun y' σ' => y' = yf ∧ σ' = σf) 37 [some (.inr (5, 0)), some (.inl x1), some (.inl x2)] [] σ := by
  unfold fb_Kb_put_37 at h
  obtain ⟨σ1, hc, h⟩ := kbu_some h
  refine s_Kb_put_37  (by decide) (E_De_putLetters hc) (fun σ2 e2 => ?_)
  subst e2
  exact e_Kb_put_45  h
def fb_Kb_put_34  (x1 : Int) (x2 : Int) (σ : kS) : kRes := fb_Kb_put_45  x1 x2 σ
theorem e_Kb_put_34 {l : Launch} {G : kG} {yf : Int} {σf : kS}  {x1 : Int} {x2 : Int}  {σ : kS} (h : fb_Kb_put_34  x1 x2 σ = some (some yf, σf)) : Rn l G dm_Kb_put m_Kb_put (kI fun y' σ' => y' = yf ∧ σ' = σf) 34 [some (.inr (5, 0)), some (.inl x1), some (.inl x2)] [] σ := by
  unfold fb_Kb_put_34 at h
  refine s_Kb_put_34  ?_
  exact e_Kb_put_45  h
def fb_Kb_put_26  (x1 : Int) (x2 : Int) (σ : kS) : kRes := kbu (f_De_putLines x1 σ) fun σ1 => fb_Kb_put_34  x1 x2 σ1
theorem e_Kb_put_26 {l : Launch} {G : kG} {yf : Int} {σf : kS}  {x1 : Int} {x2 : Int}  {σ : kS} (h : fb_Kb_put_26  x1 x2 σ = some (some yf, σf)) : Rn l G dm_Kb_put m_Kb_put (kI fun y' σ' => y' = yf ∧ σ' = σf) 26 [some (.inr (5, 0)), some (.inl x1), some (.inl x2)] [] σ := by
  unfold fb_Kb_put_26 at h
  obtain ⟨σ1, hc, h⟩ := kbu_some h
  refine s_Kb_put_26  (by decide) (E_De_putLines hc) (fun σ2 e2 => ?_)
  subst e2
  exact e_Kb_put_34  h
def fb_Kb_put_16  (x1 : Int) (x2 : Int) (σ : kS) : kRes := kg ((-2147483648 ≤ σ 1 0 4 ∧ σ 1 0 4 < 2147483648)) (if (σ 1 0 4) ≤ 0 then fb_Kb_put_37  x1 x2 σ else fb_Kb_put_26  x1 x2 σ)
theorem e_Kb_put_16 {l : Launch} {G : kG} {yf : Int} {σf : kS}  {x1 : Int} {x2 : Int}  {σ : kS} (h : fb_Kb_put_16  x1 x2 σ = some (some yf, σf)) : Rn l G dm_Kb_put m_Kb_put (kI fun y' σ' => y' = yf ∧ σ' = σf) 16 [some (.inr (5, 0)), some (.inl x1), some (.inl x2)] [] σ := by
  unfold fb_Kb_put_16 at h
  obtain ⟨h1, h⟩ := kg_some h
  refine s_Kb_put_16 h1 (fun c => ?_) (fun c => ?_)
  · rw [if_pos c] at h
    exact e_Kb_put_37  h
  · rw [if_neg c] at h
    exact e_Kb_put_26  h
def fb_Kb_put_12  (x1 : Int) (x2 : Int) (σ : kS) : kRes := kbu (f_Kb_beginChange  σ) fun σ1 => fb_Kb_put_16  x1 x2 σ1
theorem e_Kb_put_12 {l : Launch} {G : kG} {yf : Int} {σf : kS}  {x1 : Int} {x2 : Int}  {σ : kS} (h : fb_Kb_put_12  x1 x2 σ = some (some yf, σf)) : Rn l G dm_Kb_put m_Kb_put (kI fun y' σ' => y' = yf ∧ σ' = σf) 12 [some (.inr (5, 0)), some (.inl x1), some (.inl x2)] [] σ := by
  unfold fb_Kb_put_12 at h
  obtain ⟨σ1, hc, h⟩ := kbu_some h
  refine s_Kb_put_12  (by decide) (E_Kb_beginChange hc) (fun σ2 e2 => ?_)
  subst e2
  exact e_Kb_put_16  h
def fb_Kb_put_10  (x1 : Int) (x2 : Int) (σ : kS) : kRes := some (some 0, σ)
theorem e_Kb_put_10 {l : Launch} {G : kG} {yf : Int} {σf : kS}  {x1 : Int} {x2 : Int}  {σ : kS} (h : fb_Kb_put_10  x1 x2 σ = some (some yf, σf)) : Rn l G dm_Kb_put m_Kb_put (kI fun y' σ' => y' = yf ∧ σ' = σf) 10 [some (.inr (5, 0)), some (.inl x1), some (.inl x2)] [] σ := by
  unfold fb_Kb_put_10 at h
  simp only [Option.some.injEq, Prod.mk.injEq, true_and] at h
  exact s_Kb_put_10  ⟨_, rfl, h⟩
def fb_Kb_put_7  (x1 : Int) (x2 : Int) (s0 : Int) (σ : kS) : kRes := kg ((-2147483648 ≤ s0 ∧ s0 < 2147483648)) (if s0 = 0 then fb_Kb_put_10  x1 x2 σ else fb_Kb_put_12  x1 x2 σ)
theorem e_Kb_put_7 {l : Launch} {G : kG} {yf : Int} {σf : kS}  {x1 : Int} {x2 : Int} {s0 : Int}  {σ : kS} (h : fb_Kb_put_7  x1 x2 s0 σ = some (some yf, σf)) : Rn l G dm_Kb_put m_Kb_put (kI fun y' σ' => y' = yf ∧ σ' = σf) 7 [some (.inr (5, 0)), some (.inl x1), some (.inl x2)] [.inl s0] σ := by
  unfold fb_Kb_put_7 at h
  obtain ⟨h1, h⟩ := kg_some h
  refine s_Kb_put_7 h1 (fun c => ?_) (fun c => ?_)
  · rw [if_neg c] at h
    exact e_Kb_put_12  h
  · rw [if_pos c] at h
    exact e_Kb_put_10  h
def fb_Kb_put_0  (x1 : Int) (x2 : Int) (σ : kS) : kRes := kbi (f_De_canPut  σ) fun y σ1 => fb_Kb_put_7  x1 x2 y σ1
theorem e_Kb_put_0 {l : Launch} {G : kG} {yf : Int} {σf : kS}  {x1 : Int} {x2 : Int}  {σ : kS} (h : fb_Kb_put_0  x1 x2 σ = some (some yf, σf)) : Rn l G dm_Kb_put m_Kb_put (kI fun y' σ' => y' = yf ∧ σ' = σf) 0 [some (.inr (5, 0)), some (.inl x1), some (.inl x2)] [] σ := by
  unfold fb_Kb_put_0 at h
  obtain ⟨y, σ1, hc, h⟩ := kbi_some h
  refine s_Kb_put_0  (by decide) (E_De_canPut hc) (fun y2 σ2 e2 => ?_)
  obtain ⟨rfl, rfl⟩ := e2
  exact e_Kb_put_7  h
def f_Kb_put (x1 : Int) (x2 : Int) (σ : kS) : kRes := fb_Kb_put_0 x1 x2 σ
theorem E_Kb_put {l : Launch} {G : kG} {yf : Int} {σf : kS} {x1 : Int} {x2 : Int} {σ : kS} (h : f_Kb_put x1 x2 σ = some (some yf, σf)) : Call l G dm_Kb_put y_Kb_put m_Kb_put [.inr (5, 0), .inl x1, .inl x2] σ (kI fun y' σ' => y' = yf ∧ σ' = σf) := by
  unfold f_Kb_put at h
  exact Call.of (by decide +kernel) rfl (Nat.le_of_ble_eq_true rfl) (e_Kb_put_0 h)
/-! Kb_plain -/
def fb_Kb_plain_273  (x1 : Int) (x2 : Int) (σ : kS) : kRes := some (some 0, σ)
theorem e_Kb_plain_273 {l : Launch} {G : kG} {yf : Int} {σf : kS}  {x1 : Int} {x2 : Int}  {σ : kS} (h : fb_Kb_plain_273  x1 x2 σ = some (some yf, σf)) : Rn l G dm_Kb_plain m_Kb_plain (kI fun y' σ' => y' = yf ∧ σ' = σf) 273 [some (.inr (5, 0)), some (.inl x1), some (.inl x2)] [] σ := by
  unfold fb_Kb_plain_273 at h
  simp only [Option.some.injEq, Prod.mk.injEq, true_and] at h
  exact s_Kb_plain_273  ⟨_, rfl, h⟩
def fb_Kb_plain_263  (x1 : Int) (x2 : Int) (s0 : Int) (σ : kS) : kRes := kg ((s0 = 0 ∨ s0 = 1)) (some (some 1, kup (kup σ 5 0 11 s0) 5 0 6 2))
theorem e_Kb_plain_263 {l : Launch} {G : kG} {yf : Int} {σf : kS}  {x1 : Int} {x2 : Int} {s0 : Int}  {σ : kS} (h : fb_Kb_plain_263  x1 x2 s0 σ = some (some yf, σf)) : Rn l G dm_Kb_plain m_Kb_plain (kI fun y' σ' => y' = yf ∧ σ' = σf) 263 [some (.inr (5, 0)), some (.inl x1), some (.inl x2)] [.inl s0, .inr (5, 0)] σ := by
  unfold fb_Kb_plain_263 at h
  obtain ⟨h1, h⟩ := kg_some h
  simp only [Option.some.injEq, Prod.mk.injEq, true_and] at h
  exact s_Kb_plain_263 h1 ⟨_, rfl, h⟩
def fb_Kb_plain_262  (x1 : Int) (x2 : Int) (σ : kS) : kRes := fb_Kb_plain_263  x1 x2 0 σ
theorem e_Kb_plain_262 {l : Launch} {G : kG} {yf : Int} {σf : kS}  {x1 : Int} {x2 : Int}  {σ : kS} (h : fb_Kb_plain_262  x1 x2 σ = some (some yf, σf)) : Rn l G dm_Kb_plain m_Kb_plain (kI fun y' σ' => y' = yf ∧ σ' = σf) 262 [some (.inr (5, 0)), some (.inl x1), some (.inl x2)] [.inr (5, 0)] σ := by
  unfold fb_Kb_plain_262 at h
  refine s_Kb_plain_262  ?_
  exact e_Kb_plain_263  h
def fb_Kb_plain_258  (x1 : Int) (x2 : Int) (σ : kS) : kRes := fb_Kb_plain_263  x1 x2 1 σ
theorem e_Kb_plain_258 {l : Launch} {G : kG} {yf : Int} {σf : kS}  {x1 : Int} {x2 : Int}  {σ : kS} (h : fb_Kb_plain_258  x1 x2 σ = some (some yf, σf)) : Rn l G dm_Kb_plain m_Kb_plain (kI fun y' σ' => y' = yf ∧ σ' = σf) 258 [some (.inr (5, 0)), some (.inl x1), some (.inl x2)] [.inr (5, 0)] σ := by
  unfold fb_Kb_plain_258 at h
  refine s_Kb_plain_258  ?_
  exact e_Kb_plain_263  h
def fb_Kb_plain_251  (x1 : Int) (x2 : Int) (σ : kS) : kRes := kg ((-2147483648 ≤ x1 ∧ x1 < 2147483648)) (if x1 = 47 then fb_Kb_plain_258  x1 x2 σ else fb_Kb_plain_262  x1 x2 σ)
theorem e_Kb_plain_251 {l : Launch} {G : kG} {yf : Int} {σf : kS}  {x1 : Int} {x2 : Int}  {σ : kS} (h : fb_Kb_plain_251  x1 x2 σ = some (some yf, σf)) : Rn l G dm_Kb_plain m_Kb_plain (kI fun y' σ' => y' = yf ∧ σ' = σf) 251 [some (.inr (5, 0)), some (.inl x1), some (.inl x2)] [] σ := by
  unfold fb_Kb_plain_251 at h
  obtain ⟨h1, h⟩ := kg_some h
  refine s_Kb_plain_251 h1 (fun c => ?_) (fun c => ?_)
  · rw [if_neg c] at h
    exact e_Kb_plain_262  h
  · rw [if_pos c] at h
    exact e_Kb_plain_258  h
def fb_Kb_plain_250  (x1 : Int) (x2 : Int) (s0 : Int) (σ : kS) : kRes := kg ((s0 = 0 ∨ s0 = 1)) (some (some s0, σ))
theorem e_Kb_plain_250 {l : Launch} {G : kG} {yf : Int} {σf : kS}  {x1 : Int} {x2 : Int} {s0 : Int}  {σ : kS} (h : fb_Kb_plain_250  x1 x2 s0 σ = some (some yf, σf)) : Rn l G dm_Kb_plain m_Kb_plain (kI fun y' σ' => y' = yf ∧ σ' = σf) 250 [some (.inr (5, 0)), some (.inl x1), some (.inl x2)] [.inl s0] σ := by
  unfold fb_Kb_plain_250 at h
  obtain ⟨h1, h⟩ := kg_some h
  simp only [Option.some.injEq, Prod.mk.injEq, true_and] at h
  exact s_Kb_plain_250 h1 ⟨_, rfl, h⟩
def fb_Kb_plain_243  (x1 : Int) (x2 : Int) (σ : kS) : kRes := kbi (f_De_exchange  σ) fun y σ1 => fb_Kb_plain_250  x1 x2 y σ1
theorem e_Kb_plain_243 {l : Launch} {G : kG} {yf : Int} {σf : kS}  {x1 : Int} {x2 : Int}  {σ : kS} (h : fb_Kb_plain_243  x1 x2 σ = some (some yf, σf)) : Rn l G dm_Kb_plain m_Kb_plain (kI fun y' σ' => y' = yf ∧ σ' = σf) 243 [some (.inr (5, 0)), some (.inl x1), some (.inl x2)] [] σ := by
  unfold fb_Kb_plain_243 at h
  obtain ⟨y, σ1, hc, h⟩ := kbi_some h
  refine s_Kb_plain_243  (by decide) (E_De_exchange hc) (fun y2 σ2 e2 => ?_)
  obtain ⟨rfl, rfl⟩ := e2
  exact e_Kb_plain_250  h
def fb_Kb_plain_242  (x1 : Int) (x2 : Int) (s0 : Int) (σ : kS) : kRes := kg ((s0 = 0 ∨ s0 = 1)) (some (some s0, σ))
theorem e_Kb_plain_242 {l : Launch} {G : kG} {yf : Int} {σf : kS}  {x1 : Int} {x2 : Int} {s0 : Int}  {σ : kS} (h : fb_Kb_plain_242  x1 x2 s0 σ = some (some yf, σf)) : Rn l G dm_Kb_plain m_Kb_plain (kI fun y' σ' => y' = yf ∧ σ' = σf) 242 [some (.inr (5, 0)), some (.inl x1), some (.inl x2)] [.inl s0] σ := by
  unfold fb_Kb_plain_242 at h
  obtain ⟨h1, h⟩ := kg_some h
  simp only [Option.some.injEq, Prod.mk.injEq, true_and] at h
  exact s_Kb_plain_242 h1 ⟨_, rfl, h⟩
def fb_Kb_plain_231  (x1 : Int) (x2 : Int) (σ : kS) : kRes := kbi (f_Kb_openLine (σ 2 0 3) σ) fun y σ1 => fb_Kb_plain_242  x1 x2 y σ1
theorem e_Kb_plain_231 {l : Launch} {G : kG} {yf : Int} {σf : kS}  {x1 : Int} {x2 : Int}  {σ : kS} (h : fb_Kb_plain_231  x1 x2 σ = some (some yf, σf)) : Rn l G dm_Kb_plain m_Kb_plain (kI fun y' σ' => y' = yf ∧ σ' = σf) 231 [some (.inr (5, 0)), some (.inl x1), some (.inl x2)] [] σ := by
  unfold fb_Kb_plain_231 at h
  obtain ⟨y, σ1, hc, h⟩ := kbi_some h
  refine s_Kb_plain_231  (by decide) (E_Kb_openLine hc) (fun y2 σ2 e2 => ?_)
  obtain ⟨rfl, rfl⟩ := e2
  exact e_Kb_plain_242  h
def fb_Kb_plain_230  (x1 : Int) (x2 : Int) (s0 : Int) (σ : kS) : kRes := kg ((s0 = 0 ∨ s0 = 1)) (some (some s0, σ))
theorem e_Kb_plain_230 {l : Launch} {G : kG} {yf : Int} {σf : kS}  {x1 : Int} {x2 : Int} {s0 : Int}  {σ : kS} (h : fb_Kb_plain_230  x1 x2 s0 σ = some (some yf, σf)) : Rn l G dm_Kb_plain m_Kb_plain (kI fun y' σ' => y' = yf ∧ σ' = σf) 230 [some (.inr (5, 0)), some (.inl x1), some (.inl x2)] [.inl s0] σ := by
  unfold fb_Kb_plain_230 at h
  obtain ⟨h1, h⟩ := kg_some h
  simp only [Option.some.injEq, Prod.mk.injEq, true_and] at h
  exact s_Kb_plain_230 h1 ⟨_, rfl, h⟩
def fb_Kb_plain_217  (x1 : Int) (x2 : Int) (σ : kS) : kRes := kbi (f_Kb_openLine ((σ 2 0 3) + 1) σ) fun y σ1 => fb_Kb_plain_230  x1 x2 y σ1
theorem e_Kb_plain_217 {l : Launch} {G : kG} {yf : Int} {σf : kS}  {x1 : Int} {x2 : Int}  {σ : kS} (h : fb_Kb_plain_217  x1 x2 σ = some (some yf, σf)) : Rn l G dm_Kb_plain m_Kb_plain (kI fun y' σ' => y' = yf ∧ σ' = σf) 217 [some (.inr (5, 0)), some (.inl x1), some (.inl x2)] [] σ := by
  unfold fb_Kb_plain_217 at h
  obtain ⟨y, σ1, hc, h⟩ := kbi_some h
  refine s_Kb_plain_217  (by decide) (E_Kb_openLine hc) (fun y2 σ2 e2 => ?_)
  obtain ⟨rfl, rfl⟩ := e2
  exact e_Kb_plain_230  h
def fb_Kb_plain_216  (x1 : Int) (x2 : Int) (s0 : Int) (σ : kS) : kRes := kg ((s0 = 0 ∨ s0 = 1)) (some (some s0, σ))
theorem e_Kb_plain_216 {l : Launch} {G : kG} {yf : Int} {σf : kS}  {x1 : Int} {x2 : Int} {s0 : Int}  {σ : kS} (h : fb_Kb_plain_216  x1 x2 s0 σ = some (some yf, σf)) : Rn l G dm_Kb_plain m_Kb_plain (kI fun y' σ' => y' = yf ∧ σ' = σf) 216 [some (.inr (5, 0)), some (.inl x1), some (.inl x2)] [.inl s0] σ := by
  unfold fb_Kb_plain_216 at h
  obtain ⟨h1, h⟩ := kg_some h
  simp only [Option.some.injEq, Prod.mk.injEq, true_and] at h
  exact s_Kb_plain_216 h1 ⟨_, rfl, h⟩
def fb_Kb_plain_211  (x1 : Int) (x2 : Int) (σ : kS) : kRes := kbi (f_Kb_insertFrom x2 σ) fun y σ1 => fb_Kb_plain_216  x1 x2 y σ1
theorem e_Kb_plain_211 {l : Launch} {G : kG} {yf : Int} {σf : kS}  {x1 : Int} {x2 : Int}  {σ : kS} (h : fb_Kb_plain_211  x1 x2 σ = some (some yf, σf)) : Rn l G dm_Kb_plain m_Kb_plain (kI fun y' σ' => y' = yf ∧ σ' = σf) 211 [some (.inr (5, 0)), some (.inl x1), some (.inl x2)] [] σ := by
  unfold fb_Kb_plain_211 at h
  obtain ⟨y, σ1, hc, h⟩ := kbi_some h
  refine s_Kb_plain_211  (by decide) (E_Kb_insertFrom hc) (fun y2 σ2 e2 => ?_)
  obtain ⟨rfl, rfl⟩ := e2
  exact e_Kb_plain_216  h
def fb_Kb_plain_210  (x1 : Int) (x2 : Int) (s0 : Int) (σ : kS) : kRes := kg ((s0 = 0 ∨ s0 = 1)) (some (some s0, σ))
theorem e_Kb_plain_210 {l : Launch} {G : kG} {yf : Int} {σf : kS}  {x1 : Int} {x2 : Int} {s0 : Int}  {σ : kS} (h : fb_Kb_plain_210  x1 x2 s0 σ = some (some yf, σf)) : Rn l G dm_Kb_plain m_Kb_plain (kI fun y' σ' => y' = yf ∧ σ' = σf) 210 [some (.inr (5, 0)), some (.inl x1), some (.inl x2)] [.inl s0] σ := by
  unfold fb_Kb_plain_210 at h
  obtain ⟨h1, h⟩ := kg_some h
  simp only [Option.some.injEq, Prod.mk.injEq, true_and] at h
  exact s_Kb_plain_210 h1 ⟨_, rfl, h⟩
def fb_Kb_plain_207  (x1 : Int) (x2 : Int) (s0 : Int) (σ : kS) : kRes := kbi (f_Kb_insertFrom s0 σ) fun y σ1 => fb_Kb_plain_210  x1 x2 y σ1
theorem e_Kb_plain_207 {l : Launch} {G : kG} {yf : Int} {σf : kS}  {x1 : Int} {x2 : Int} {s0 : Int}  {σ : kS} (h : fb_Kb_plain_207  x1 x2 s0 σ = some (some yf, σf)) : Rn l G dm_Kb_plain m_Kb_plain (kI fun y' σ' => y' = yf ∧ σ' = σf) 207 [some (.inr (5, 0)), some (.inl x1), some (.inl x2)] [.inl s0, .inr (5, 0)] σ := by
  unfold fb_Kb_plain_207 at h
  obtain ⟨y, σ1, hc, h⟩ := kbi_some h
  refine s_Kb_plain_207  (by decide) (E_Kb_insertFrom hc) (fun y2 σ2 e2 => ?_)
  obtain ⟨rfl, rfl⟩ := e2
  exact e_Kb_plain_210  h
def fb_Kb_plain_192  (x1 : Int) (x2 : Int) (σ : kS) : kRes := kbi (f_Te_indentOf (σ 2 0 3) 0 σ) fun y σ1 => fb_Kb_plain_207  x1 x2 y σ1
theorem e_Kb_plain_192 {l : Launch} {G : kG} {yf : Int} {σf : kS}  {x1 : Int} {x2 : Int}  {σ : kS} (h : fb_Kb_plain_192  x1 x2 σ = some (some yf, σf)) : Rn l G dm_Kb_plain m_Kb_plain (kI fun y' σ' => y' = yf ∧ σ' = σf) 192 [some (.inr (5, 0)), some (.inl x1), some (.inl x2)] [] σ := by
  unfold fb_Kb_plain_192 at h
  obtain ⟨y, σ1, hc, h⟩ := kbi_some h
  refine s_Kb_plain_192  (by decide) (E_Te_indentOf hc) (fun y2 σ2 e2 => ?_)
  obtain ⟨rfl, rfl⟩ := e2
  exact e_Kb_plain_207  h
def fb_Kb_plain_191  (x1 : Int) (x2 : Int) (s0 : Int) (σ : kS) : kRes := kg ((s0 = 0 ∨ s0 = 1)) (some (some s0, σ))
theorem e_Kb_plain_191 {l : Launch} {G : kG} {yf : Int} {σf : kS}  {x1 : Int} {x2 : Int} {s0 : Int}  {σ : kS} (h : fb_Kb_plain_191  x1 x2 s0 σ = some (some yf, σf)) : Rn l G dm_Kb_plain m_Kb_plain (kI fun y' σ' => y' = yf ∧ σ' = σf) 191 [some (.inr (5, 0)), some (.inl x1), some (.inl x2)] [.inl s0] σ := by
  unfold fb_Kb_plain_191 at h
  obtain ⟨h1, h⟩ := kg_some h
  simp only [Option.some.injEq, Prod.mk.injEq, true_and] at h
  exact s_Kb_plain_191 h1 ⟨_, rfl, h⟩
def fb_Kb_plain_174  (x1 : Int) (x2 : Int) (σ : kS) : kRes := kg ((-2147483648 ≤ x2 ∧ x2 < 2147483648) ∧ (-2147483648 ≤ (σ 2 0 4) + 1 ∧ (σ 2 0 4) + 1 < 2147483648)) (kbi (f_Kb_insertFrom (min x2 ((σ 2 0 4) + 1)) σ) fun y σ1 => fb_Kb_plain_191  x1 x2 y σ1)
theorem e_Kb_plain_174 {l : Launch} {G : kG} {yf : Int} {σf : kS}  {x1 : Int} {x2 : Int}  {σ : kS} (h : fb_Kb_plain_174  x1 x2 σ = some (some yf, σf)) : Rn l G dm_Kb_plain m_Kb_plain (kI fun y' σ' => y' = yf ∧ σ' = σf) 174 [some (.inr (5, 0)), some (.inl x1), some (.inl x2)] [] σ := by
  unfold fb_Kb_plain_174 at h
  obtain ⟨⟨h1, h2⟩, h⟩ := kg_some h
  obtain ⟨y, σ1, hc, h⟩ := kbi_some h
  refine s_Kb_plain_174 h1 h2 (by decide) (by decide) (E_Kb_insertFrom hc) (fun y2 σ2 e2 => ?_)
  obtain ⟨rfl, rfl⟩ := e2
  exact e_Kb_plain_191  h
def fb_Kb_plain_173  (x1 : Int) (x2 : Int) (s0 : Int) (σ : kS) : kRes := kg ((s0 = 0 ∨ s0 = 1)) (some (some s0, σ))
theorem e_Kb_plain_173 {l : Launch} {G : kG} {yf : Int} {σf : kS}  {x1 : Int} {x2 : Int} {s0 : Int}  {σ : kS} (h : fb_Kb_plain_173  x1 x2 s0 σ = some (some yf, σf)) : Rn l G dm_Kb_plain m_Kb_plain (kI fun y' σ' => y' = yf ∧ σ' = σf) 173 [some (.inr (5, 0)), some (.inl x1), some (.inl x2)] [.inl s0] σ := by
  unfold fb_Kb_plain_173 at h
  obtain ⟨h1, h⟩ := kg_some h
  simp only [Option.some.injEq, Prod.mk.injEq, true_and] at h
  exact s_Kb_plain_173 h1 ⟨_, rfl, h⟩
def fb_Kb_plain_162  (x1 : Int) (x2 : Int) (σ : kS) : kRes := kbi (f_Kb_insertFrom (σ 2 0 4) σ) fun y σ1 => fb_Kb_plain_173  x1 x2 y σ1
theorem e_Kb_plain_162 {l : Launch} {G : kG} {yf : Int} {σf : kS}  {x1 : Int} {x2 : Int}  {σ : kS} (h : fb_Kb_plain_162  x1 x2 σ = some (some yf, σf)) : Rn l G dm_Kb_plain m_Kb_plain (kI fun y' σ' => y' = yf ∧ σ' = σf) 162 [some (.inr (5, 0)), some (.inl x1), some (.inl x2)] [] σ := by
  unfold fb_Kb_plain_162 at h
  obtain ⟨y, σ1, hc, h⟩ := kbi_some h
  refine s_Kb_plain_162  (by decide) (E_Kb_insertFrom hc) (fun y2 σ2 e2 => ?_)
  obtain ⟨rfl, rfl⟩ := e2
  exact e_Kb_plain_173  h
def fb_Kb_plain_161  (x1 : Int) (x2 : Int) (s0 : Int) (σ : kS) : kRes := kg ((s0 = 0 ∨ s0 = 1)) (some (some s0, σ))
theorem e_Kb_plain_161 {l : Launch} {G : kG} {yf : Int} {σf : kS}  {x1 : Int} {x2 : Int} {s0 : Int}  {σ : kS} (h : fb_Kb_plain_161  x1 x2 s0 σ = some (some yf, σf)) : Rn l G dm_Kb_plain m_Kb_plain (kI fun y' σ' => y' = yf ∧ σ' = σf) 161 [some (.inr (5, 0)), some (.inl x1), some (.inl x2)] [.inl s0] σ := by
  unfold fb_Kb_plain_161 at h
  obtain ⟨h1, h⟩ := kg_some h
  simp only [Option.some.injEq, Prod.mk.injEq, true_and] at h
  exact s_Kb_plain_161 h1 ⟨_, rfl, h⟩
def fb_Kb_plain_143  (x1 : Int) (x2 : Int) (σ : kS) : kRes := kbi (f_Kb_put (σ 2 0 3) (σ 2 0 4) σ) fun y σ1 => fb_Kb_plain_161  x1 x2 y σ1
theorem e_Kb_plain_143 {l : Launch} {G : kG} {yf : Int} {σf : kS}  {x1 : Int} {x2 : Int}  {σ : kS} (h : fb_Kb_plain_143  x1 x2 σ = some (some yf, σf)) : Rn l G dm_Kb_plain m_Kb_plain (kI fun y' σ' => y' = yf ∧ σ' = σf) 143 [some (.inr (5, 0)), some (.inl x1), some (.inl x2)] [] σ := by
  unfold fb_Kb_plain_143 at h
  obtain ⟨y, σ1, hc, h⟩ := kbi_some h
  refine s_Kb_plain_143  (by decide) (E_Kb_put hc) (fun y2 σ2 e2 => ?_)
  obtain ⟨rfl, rfl⟩ := e2
  exact e_Kb_plain_161  h
def fb_Kb_plain_142  (x1 : Int) (x2 : Int) (s0 : Int) (σ : kS) : kRes := kg ((s0 = 0 ∨ s0 = 1)) (some (some s0, σ))
theorem e_Kb_plain_142 {l : Launch} {G : kG} {yf : Int} {σf : kS}  {x1 : Int} {x2 : Int} {s0 : Int}  {σ : kS} (h : fb_Kb_plain_142  x1 x2 s0 σ = some (some yf, σf)) : Rn l G dm_Kb_plain m_Kb_plain (kI fun y' σ' => y' = yf ∧ σ' = σf) 142 [some (.inr (5, 0)), some (.inl x1), some (.inl x2)] [.inl s0] σ := by
  unfold fb_Kb_plain_142 at h
  obtain ⟨h1, h⟩ := kg_some h
  simp only [Option.some.injEq, Prod.mk.injEq, true_and] at h
  exact s_Kb_plain_142 h1 ⟨_, rfl, h⟩
def fb_Kb_plain_116  (x1 : Int) (x2 : Int) (σ : kS) : kRes := kg ((-2147483648 ≤ x2 ∧ x2 < 2147483648) ∧ (-2147483648 ≤ (σ 2 0 4) + 1 ∧ (σ 2 0 4) + 1 < 2147483648)) (kbi (f_Kb_put ((σ 2 0 3) + 1) (min x2 ((σ 2 0 4) + 1)) σ) fun y σ1 => fb_Kb_plain_142  x1 x2 y σ1)
theorem e_Kb_plain_116 {l : Launch} {G : kG} {yf : Int} {σf : kS}  {x1 : Int} {x2 : Int}  {σ : kS} (h : fb_Kb_plain_116  x1 x2 σ = some (some yf, σf)) : Rn l G dm_Kb_plain m_Kb_plain (kI fun y' σ' => y' = yf ∧ σ' = σf) 116 [some (.inr (5, 0)), some (.inl x1), some (.inl x2)] [] σ := by
  unfold fb_Kb_plain_116 at h
  obtain ⟨⟨h1, h2⟩, h⟩ := kg_some h
  obtain ⟨y, σ1, hc, h⟩ := kbi_some h
  refine s_Kb_plain_116 h1 h2 (by decide) (by decide) (E_Kb_put hc) (fun y2 σ2 e2 => ?_)
  obtain ⟨rfl, rfl⟩ := e2
  exact e_Kb_plain_142  h
def fb_Kb_plain_14  (x1 : Int) (s0 : Int) (σ : kS) : kRes := kg ((-2147483648 ≤ x1 ∧ x1 < 2147483648)) (if x1 = 47 then fb_Kb_plain_251  x1 s0 σ else if x1 = 58 then fb_Kb_plain_251  x1 s0 σ else if x1 = 65 then fb_Kb_plain_211  x1 s0 σ else if x1 = 73 then fb_Kb_plain_192  x1 s0 σ else if x1 = 79 then fb_Kb_plain_231  x1 s0 σ else if x1 = 80 then fb_Kb_plain_143  x1 s0 σ else if x1 = 97 then fb_Kb_plain_174  x1 s0 σ else if x1 = 105 then fb_Kb_plain_162  x1 s0 σ else if x1 = 111 then fb_Kb_plain_217  x1 s0 σ else if x1 = 112 then fb_Kb_plain_116  x1 s0 σ else if x1 = 117 then fb_Kb_plain_243  x1 s0 σ else fb_Kb_plain_273  x1 s0 σ)
theorem e_Kb_plain_14 {l : Launch} {G : kG} {yf : Int} {σf : kS}  {x1 : Int} {s0 : Int} {o2 : Option kV} {σ : kS} (h : fb_Kb_plain_14  x1 s0 σ = some (some yf, σf)) : Rn l G dm_Kb_plain m_Kb_plain (kI fun y' σ' => y' = yf ∧ σ' = σf) 14 [some (.inr (5, 0)), some (.inl x1), o2] [.inl s0] σ := by
  unfold fb_Kb_plain_14 at h
  obtain ⟨h1, h⟩ := kg_some h
  refine s_Kb_plain_14 h1 (fun c => ?_) (fun c => ?_) (fun c => ?_) (fun c => ?_) (fun c => ?_) (fun c => ?_) (fun c => ?_) (fun c => ?_) (fun c => ?_) (fun c => ?_) (fun c => ?_) (fun c0 c1 c2 c3 c4 c5 c6 c7 c8 c9 c10 => ?_)
  · rw [if_pos c] at h
    exact e_Kb_plain_251  h
  · rw [if_neg (show ¬ x1 = 47 by omega), if_pos c] at h
    exact e_Kb_plain_251  h
  · rw [if_neg (show ¬ x1 = 47 by omega), if_neg (show ¬ x1 = 58 by omega), if_pos c] at h
    exact e_Kb_plain_211  h
  · rw [if_neg (show ¬ x1 = 47 by omega), if_neg (show ¬ x1 = 58 by omega), if_neg (show ¬ x1 = 65 by omega), if_pos c] at h
    exact e_Kb_plain_192  h
  · rw [if_neg (show ¬ x1 = 47 by omega), if_neg (show ¬ x1 = 58 by omega), if_neg (show ¬ x1 = 65 by omega), if_neg (show ¬ x1 = 73 by omega), if_pos c] at h
    exact e_Kb_plain_231  h
  · rw [if_neg (show ¬ x1 = 47 by omega), if_neg (show ¬ x1 = 58 by omega), if_neg (show ¬ x1 = 65 by omega), if_neg (show ¬ x1 = 73 by omega), if_neg (show ¬ x1 = 79 by omega), if_pos c] at h
    exact e_Kb_plain_143  h
  · rw [if_neg (show ¬ x1 = 47 by omega), if_neg (show ¬ x1 = 58 by omega), if_neg (show ¬ x1 = 65 by omega), if_neg (show ¬ x1 = 73 by omega), if_neg (show ¬ x1 = 79 by omega), if_neg (show ¬ x1 = 80 by omega), if_pos c] at h
    exact e_Kb_plain_174  h
  · rw [if_neg (show ¬ x1 = 47 by omega), if_neg (show ¬ x1 = 58 by omega), if_neg (show ¬ x1 = 65 by omega), if_neg (show ¬ x1 = 73 by omega), if_neg (show ¬ x1 = 79 by omega), if_neg (show ¬ x1 = 80 by omega), if_neg (show ¬ x1 = 97 by omega), if_pos c] at h
    exact e_Kb_plain_162  h
  · rw [if_neg (show ¬ x1 = 47 by omega), if_neg (show ¬ x1 = 58 by omega), if_neg (show ¬ x1 = 65 by omega), if_neg (show ¬ x1 = 73 by omega), if_neg (show ¬ x1 = 79 by omega), if_neg (show ¬ x1 = 80 by omega), if_neg (show ¬ x1 = 97 by omega), if_neg (show ¬ x1 = 105 by omega), if_pos c] at h
    exact e_Kb_plain_217  h
  · rw [if_neg (show ¬ x1 = 47 by omega), if_neg (show ¬ x1 = 58 by omega), if_neg (show ¬ x1 = 65 by omega), if_neg (show ¬ x1 = 73 by omega), if_neg (show ¬ x1 = 79 by omega), if_neg (show ¬ x1 = 80 by omega), if_neg (show ¬ x1 = 97 by omega), if_neg (show ¬ x1 = 105 by omega), if_neg (show ¬ x1 = 111 by omega), if_pos c] at h
    exact e_Kb_plain_116  h
  · rw [if_neg (show ¬ x1 = 47 by omega), if_neg (show ¬ x1 = 58 by omega), if_neg (show ¬ x1 = 65 by omega), if_neg (show ¬ x1 = 73 by omega), if_neg (show ¬ x1 = 79 by omega), if_neg (show ¬ x1 = 80 by omega), if_neg (show ¬ x1 = 97 by omega), if_neg (show ¬ x1 = 105 by omega), if_neg (show ¬ x1 = 111 by omega), if_neg (show ¬ x1 = 112 by omega), if_pos c] at h
    exact e_Kb_plain_243  h
  · rw [if_neg c0, if_neg c1, if_neg c2, if_neg c3, if_neg c4, if_neg c5, if_neg c6, if_neg c7, if_neg c8, if_neg c9, if_neg c10] at h
    exact e_Kb_plain_273  h
def fb_Kb_plain_0  (x1 : Int) (σ : kS) : kRes := kbi (f_Te_sizeOf (σ 2 0 3) 0 σ) fun y σ1 => fb_Kb_plain_14  x1 y σ1
theorem e_Kb_plain_0 {l : Launch} {G : kG} {yf : Int} {σf : kS}  {x1 : Int} {o2 : Option kV} {σ : kS} (h : fb_Kb_plain_0  x1 σ = some (some yf, σf)) : Rn l G dm_Kb_plain m_Kb_plain (kI fun y' σ' => y' = yf ∧ σ' = σf) 0 [some (.inr (5, 0)), some (.inl x1), o2] [] σ := by
  unfold fb_Kb_plain_0 at h
  obtain ⟨y, σ1, hc, h⟩ := kbi_some h
  refine s_Kb_plain_0  (by decide) (E_Te_sizeOf hc) (fun y2 σ2 e2 => ?_)
  obtain ⟨rfl, rfl⟩ := e2
  exact e_Kb_plain_14  h
def f_Kb_plain (x1 : Int) (σ : kS) : kRes := fb_Kb_plain_0 x1 σ
theorem E_Kb_plain {l : Launch} {G : kG} {yf : Int} {σf : kS} {x1 : Int} {σ : kS} (h : f_Kb_plain x1 σ = some (some yf, σf)) : Call l G dm_Kb_plain y_Kb_plain m_Kb_plain [.inr (5, 0), .inl x1] σ (kI fun y' σ' => y' = yf ∧ σ' = σf) := by
  unfold f_Kb_plain at h
  exact Call.of (by decide +kernel) rfl (Nat.le_of_ble_eq_true rfl) (e_Kb_plain_0 h)
/-! Mo_place -/
def fb_Mo_place_0  (x0 : Int) (x1 : Int) (σ : kS) : kRes := some (some ((x0 * 32) + x1), σ)
theorem e_Mo_place_0 {l : Launch} {G : kG} {yf : Int} {σf : kS}  {x0 : Int} {x1 : Int}  {σ : kS} (h : fb_Mo_place_0  x0 x1 σ = some (some yf, σf)) : Rn l G dm_Mo_place m_Mo_place (kI fun y' σ' => y' = yf ∧ σ' = σf) 0 [some (.inl x0), some (.inl x1)] [] σ := by
  unfold fb_Mo_place_0 at h
  simp only [Option.some.injEq, Prod.mk.injEq, true_and] at h
  exact s_Mo_place_0  ⟨_, rfl, h⟩
def f_Mo_place (x0 : Int) (x1 : Int) (σ : kS) : kRes := fb_Mo_place_0 x0 x1 σ
theorem E_Mo_place {l : Launch} {G : kG} {yf : Int} {σf : kS} {x0 : Int} {x1 : Int} {σ : kS} (h : f_Mo_place x0 x1 σ = some (some yf, σf)) : Call l G dm_Mo_place y_Mo_place m_Mo_place [.inl x0, .inl x1] σ (kI fun y' σ' => y' = yf ∧ σ' = σf) := by
  unfold f_Mo_place at h
  exact Call.of (by decide +kernel) rfl (Nat.le_of_ble_eq_true rfl) (e_Mo_place_0 h)
/-! Mo_kindOf -/
def fb_Mo_kindOf_65  (x0 : Int) (x1 : Int) (s0 : Int) (σ : kS) : kRes := some (some s0, σ)
theorem e_Mo_kindOf_65 {l : Launch} {G : kG} {yf : Int} {σf : kS}  {x0 : Int} {x1 : Int} {s0 : Int}  {σ : kS} (h : fb_Mo_kindOf_65  x0 x1 s0 σ = some (some yf, σf)) : Rn l G dm_Mo_kindOf m_Mo_kindOf (kI fun y' σ' => y' = yf ∧ σ' = σf) 65 [some (.inl x0), some (.inl x1)] [.inl s0] σ := by
  unfold fb_Mo_kindOf_65 at h
  simp only [Option.some.injEq, Prod.mk.injEq, true_and] at h
  exact s_Mo_kindOf_65  ⟨_, rfl, h⟩
def fb_Mo_kindOf_64  (x0 : Int) (x1 : Int) (σ : kS) : kRes := fb_Mo_kindOf_65  x0 x1 2 σ
theorem e_Mo_kindOf_64 {l : Launch} {G : kG} {yf : Int} {σf : kS}  {x0 : Int} {x1 : Int}  {σ : kS} (h : fb_Mo_kindOf_64  x0 x1 σ = some (some yf, σf)) : Rn l G dm_Mo_kindOf m_Mo_kindOf (kI fun y' σ' => y' = yf ∧ σ' = σf) 64 [some (.inl x0), some (.inl x1)] [] σ := by
  unfold fb_Mo_kindOf_64 at h
  refine s_Mo_kindOf_64  ?_
  exact e_Mo_kindOf_65  h
def fb_Mo_kindOf_60  (x0 : Int) (x1 : Int) (σ : kS) : kRes := fb_Mo_kindOf_65  x0 x1 1 σ
theorem e_Mo_kindOf_60 {l : Launch} {G : kG} {yf : Int} {σf : kS}  {x0 : Int} {x1 : Int}  {σ : kS} (h : fb_Mo_kindOf_60  x0 x1 σ = some (some yf, σf)) : Rn l G dm_Mo_kindOf m_Mo_kindOf (kI fun y' σ' => y' = yf ∧ σ' = σf) 60 [some (.inl x0), some (.inl x1)] [] σ := by
  unfold fb_Mo_kindOf_60 at h
  refine s_Mo_kindOf_60  ?_
  exact e_Mo_kindOf_65  h
def fb_Mo_kindOf_55  (x0 : Int) (s0 : Int) (σ : kS) : kRes := kg ((-2147483648 ≤ s0 ∧ s0 < 2147483648)) (if s0 = 0 then fb_Mo_kindOf_64  x0 s0 σ else fb_Mo_kindOf_60  x0 s0 σ)
theorem e_Mo_kindOf_55 {l : Launch} {G : kG} {yf : Int} {σf : kS}  {x0 : Int} {s0 : Int} {o1 : Option kV} {σ : kS} (h : fb_Mo_kindOf_55  x0 s0 σ = some (some yf, σf)) : Rn l G dm_Mo_kindOf m_Mo_kindOf (kI fun y' σ' => y' = yf ∧ σ' = σf) 55 [some (.inl x0), o1] [.inl s0] σ := by
  unfold fb_Mo_kindOf_55 at h
  obtain ⟨h1, h⟩ := kg_some h
  refine s_Mo_kindOf_55 h1 (fun c => ?_) (fun c => ?_)
  · rw [if_pos c] at h
    exact e_Mo_kindOf_64  h
  · rw [if_neg c] at h
    exact e_Mo_kindOf_60  h
def fb_Mo_kindOf_54  (x0 : Int) (σ : kS) : kRes := fb_Mo_kindOf_55  x0 0 σ
theorem e_Mo_kindOf_54 {l : Launch} {G : kG} {yf : Int} {σf : kS}  {x0 : Int} {o1 : Option kV} {σ : kS} (h : fb_Mo_kindOf_54  x0 σ = some (some yf, σf)) : Rn l G dm_Mo_kindOf m_Mo_kindOf (kI fun y' σ' => y' = yf ∧ σ' = σf) 54 [some (.inl x0), o1] [] σ := by
  unfold fb_Mo_kindOf_54 at h
  refine s_Mo_kindOf_54  ?_
  exact e_Mo_kindOf_55  h
def fb_Mo_kindOf_50  (x0 : Int) (σ : kS) : kRes := fb_Mo_kindOf_55  x0 1 σ
theorem e_Mo_kindOf_50 {l : Launch} {G : kG} {yf : Int} {σf : kS}  {x0 : Int} {o1 : Option kV} {σ : kS} (h : fb_Mo_kindOf_50  x0 σ = some (some yf, σf)) : Rn l G dm_Mo_kindOf m_Mo_kindOf (kI fun y' σ' => y' = yf ∧ σ' = σf) 50 [some (.inl x0), o1] [] σ := by
  unfold fb_Mo_kindOf_50 at h
  refine s_Mo_kindOf_50  ?_
  exact e_Mo_kindOf_55  h
def fb_Mo_kindOf_44  (x0 : Int) (σ : kS) : kRes := kg ((-2147483648 ≤ x0 ∧ x0 < 2147483648)) (if x0 = 95 then fb_Mo_kindOf_50  x0 σ else fb_Mo_kindOf_54  x0 σ)
theorem e_Mo_kindOf_44 {l : Launch} {G : kG} {yf : Int} {σf : kS}  {x0 : Int} {o1 : Option kV} {σ : kS} (h : fb_Mo_kindOf_44  x0 σ = some (some yf, σf)) : Rn l G dm_Mo_kindOf m_Mo_kindOf (kI fun y' σ' => y' = yf ∧ σ' = σf) 44 [some (.inl x0), o1] [] σ := by
  unfold fb_Mo_kindOf_44 at h
  obtain ⟨h1, h⟩ := kg_some h
  refine s_Mo_kindOf_44 h1 (fun c => ?_) (fun c => ?_)
  · rw [if_neg c] at h
    exact e_Mo_kindOf_54  h
  · rw [if_pos c] at h
    exact e_Mo_kindOf_50  h
def fb_Mo_kindOf_38  (x0 : Int) (σ : kS) : kRes := kg ((-2147483648 ≤ x0 ∧ x0 < 2147483648)) (if x0 ≤ 57 then fb_Mo_kindOf_50  x0 σ else fb_Mo_kindOf_44  x0 σ)
theorem e_Mo_kindOf_38 {l : Launch} {G : kG} {yf : Int} {σf : kS}  {x0 : Int} {o1 : Option kV} {σ : kS} (h : fb_Mo_kindOf_38  x0 σ = some (some yf, σf)) : Rn l G dm_Mo_kindOf m_Mo_kindOf (kI fun y' σ' => y' = yf ∧ σ' = σf) 38 [some (.inl x0), o1] [] σ := by
  unfold fb_Mo_kindOf_38 at h
  obtain ⟨h1, h⟩ := kg_some h
  refine s_Mo_kindOf_38 h1 (fun c => ?_) (fun c => ?_)
  · rw [if_pos c] at h
    exact e_Mo_kindOf_50  h
  · rw [if_neg c] at h
    exact e_Mo_kindOf_44  h
def fb_Mo_kindOf_32  (x0 : Int) (σ : kS) : kRes := kg ((-2147483648 ≤ x0 ∧ x0 < 2147483648)) (if x0 < 48 then fb_Mo_kindOf_44  x0 σ else fb_Mo_kindOf_38  x0 σ)
theorem e_Mo_kindOf_32 {l : Launch} {G : kG} {yf : Int} {σf : kS}  {x0 : Int} {o1 : Option kV} {σ : kS} (h : fb_Mo_kindOf_32  x0 σ = some (some yf, σf)) : Rn l G dm_Mo_kindOf m_Mo_kindOf (kI fun y' σ' => y' = yf ∧ σ' = σf) 32 [some (.inl x0), o1] [] σ := by
  unfold fb_Mo_kindOf_32 at h
  obtain ⟨h1, h⟩ := kg_some h
  refine s_Mo_kindOf_32 h1 (fun c => ?_) (fun c => ?_)
  · rw [if_pos c] at h
    exact e_Mo_kindOf_44  h
  · rw [if_neg c] at h
    exact e_Mo_kindOf_38  h
def fb_Mo_kindOf_26  (x0 : Int) (σ : kS) : kRes := kg ((-2147483648 ≤ x0 ∧ x0 < 2147483648)) (if x0 ≤ 90 then fb_Mo_kindOf_50  x0 σ else fb_Mo_kindOf_32  x0 σ)
theorem e_Mo_kindOf_26 {l : Launch} {G : kG} {yf : Int} {σf : kS}  {x0 : Int} {o1 : Option kV} {σ : kS} (h : fb_Mo_kindOf_26  x0 σ = some (some yf, σf)) : Rn l G dm_Mo_kindOf m_Mo_kindOf (kI fun y' σ' => y' = yf ∧ σ' = σf) 26 [some (.inl x0), o1] [] σ := by
  unfold fb_Mo_kindOf_26 at h
  obtain ⟨h1, h⟩ := kg_some h
  refine s_Mo_kindOf_26 h1 (fun c => ?_) (fun c => ?_)
  · rw [if_pos c] at h
    exact e_Mo_kindOf_50  h
  · rw [if_neg c] at h
    exact e_Mo_kindOf_32  h
def fb_Mo_kindOf_20  (x0 : Int) (σ : kS) : kRes := kg ((-2147483648 ≤ x0 ∧ x0 < 2147483648)) (if x0 < 65 then fb_Mo_kindOf_32  x0 σ else fb_Mo_kindOf_26  x0 σ)
theorem e_Mo_kindOf_20 {l : Launch} {G : kG} {yf : Int} {σf : kS}  {x0 : Int} {o1 : Option kV} {σ : kS} (h : fb_Mo_kindOf_20  x0 σ = some (some yf, σf)) : Rn l G dm_Mo_kindOf m_Mo_kindOf (kI fun y' σ' => y' = yf ∧ σ' = σf) 20 [some (.inl x0), o1] [] σ := by
  unfold fb_Mo_kindOf_20 at h
  obtain ⟨h1, h⟩ := kg_some h
  refine s_Mo_kindOf_20 h1 (fun c => ?_) (fun c => ?_)
  · rw [if_pos c] at h
    exact e_Mo_kindOf_32  h
  · rw [if_neg c] at h
    exact e_Mo_kindOf_26  h
def fb_Mo_kindOf_14  (x0 : Int) (σ : kS) : kRes := kg ((-2147483648 ≤ x0 ∧ x0 < 2147483648)) (if x0 ≤ 122 then fb_Mo_kindOf_50  x0 σ else fb_Mo_kindOf_20  x0 σ)
theorem e_Mo_kindOf_14 {l : Launch} {G : kG} {yf : Int} {σf : kS}  {x0 : Int} {o1 : Option kV} {σ : kS} (h : fb_Mo_kindOf_14  x0 σ = some (some yf, σf)) : Rn l G dm_Mo_kindOf m_Mo_kindOf (kI fun y' σ' => y' = yf ∧ σ' = σf) 14 [some (.inl x0), o1] [] σ := by
  unfold fb_Mo_kindOf_14 at h
  obtain ⟨h1, h⟩ := kg_some h
  refine s_Mo_kindOf_14 h1 (fun c => ?_) (fun c => ?_)
  · rw [if_pos c] at h
    exact e_Mo_kindOf_50  h
  · rw [if_neg c] at h
    exact e_Mo_kindOf_20  h
def fb_Mo_kindOf_8  (x0 : Int) (σ : kS) : kRes := kg ((-2147483648 ≤ x0 ∧ x0 < 2147483648)) (if x0 < 97 then fb_Mo_kindOf_20  x0 σ else fb_Mo_kindOf_14  x0 σ)
theorem e_Mo_kindOf_8 {l : Launch} {G : kG} {yf : Int} {σf : kS}  {x0 : Int} {o1 : Option kV} {σ : kS} (h : fb_Mo_kindOf_8  x0 σ = some (some yf, σf)) : Rn l G dm_Mo_kindOf m_Mo_kindOf (kI fun y' σ' => y' = yf ∧ σ' = σf) 8 [some (.inl x0), o1] [] σ := by
  unfold fb_Mo_kindOf_8 at h
  obtain ⟨h1, h⟩ := kg_some h
  refine s_Mo_kindOf_8 h1 (fun c => ?_) (fun c => ?_)
  · rw [if_pos c] at h
    exact e_Mo_kindOf_20  h
  · rw [if_neg c] at h
    exact e_Mo_kindOf_14  h
def fb_Mo_kindOf_6  (x0 : Int) (σ : kS) : kRes := some (some 0, σ)
theorem e_Mo_kindOf_6 {l : Launch} {G : kG} {yf : Int} {σf : kS}  {x0 : Int} {o1 : Option kV} {σ : kS} (h : fb_Mo_kindOf_6  x0 σ = some (some yf, σf)) : Rn l G dm_Mo_kindOf m_Mo_kindOf (kI fun y' σ' => y' = yf ∧ σ' = σf) 6 [some (.inl x0), o1] [] σ := by
  unfold fb_Mo_kindOf_6 at h
  simp only [Option.some.injEq, Prod.mk.injEq, true_and] at h
  exact s_Mo_kindOf_6  ⟨_, rfl, h⟩
def fb_Mo_kindOf_0  (x0 : Int) (σ : kS) : kRes := kg ((-2147483648 ≤ x0 ∧ x0 < 2147483648)) (if x0 = 32 then fb_Mo_kindOf_6  x0 σ else fb_Mo_kindOf_8  x0 σ)
theorem e_Mo_kindOf_0 {l : Launch} {G : kG} {yf : Int} {σf : kS}  {x0 : Int} {o1 : Option kV} {σ : kS} (h : fb_Mo_kindOf_0  x0 σ = some (some yf, σf)) : Rn l G dm_Mo_kindOf m_Mo_kindOf (kI fun y' σ' => y' = yf ∧ σ' = σf) 0 [some (.inl x0), o1] [] σ := by
  unfold fb_Mo_kindOf_0 at h
  obtain ⟨h1, h⟩ := kg_some h
  refine s_Mo_kindOf_0 h1 (fun c => ?_) (fun c => ?_)
  · rw [if_neg c] at h
    exact e_Mo_kindOf_8  h
  · rw [if_pos c] at h
    exact e_Mo_kindOf_6  h
def f_Mo_kindOf (x0 : Int) (σ : kS) : kRes := fb_Mo_kindOf_0 x0 σ
theorem E_Mo_kindOf {l : Launch} {G : kG} {yf : Int} {σf : kS} {x0 : Int} {σ : kS} (h : f_Mo_kindOf x0 σ = some (some yf, σf)) : Call l G dm_Mo_kindOf y_Mo_kindOf m_Mo_kindOf [.inl x0] σ (kI fun y' σ' => y' = yf ∧ σ' = σf) := by
  unfold f_Mo_kindOf at h
  exact Call.of (by decide +kernel) rfl (Nat.le_of_ble_eq_true rfl) (e_Mo_kindOf_0 h)
/-! Mo_isStop -/
def fb_Mo_isStop_66  (x1 : Int) (x2 : Int) (x3 : Int) (x4 : Int) (s0 : Int) (σ : kS) : kRes := kg ((s0 = 0 ∨ s0 = 1)) (some (some s0, σ))
theorem e_Mo_isStop_66 {l : Launch} {G : kG} {yf : Int} {σf : kS}  {x1 : Int} {x2 : Int} {x3 : Int} {x4 : Int} {s0 : Int}  {σ : kS} (h : fb_Mo_isStop_66  x1 x2 x3 x4 s0 σ = some (some yf, σf)) : Rn l G dm_Mo_isStop m_Mo_isStop (kI fun y' σ' => y' = yf ∧ σ' = σf) 66 [some (.inr (2, 0)), some (.inl x1), some (.inl x2), some (.inl x3), some (.inl x4)] [.inl s0] σ := by
  unfold fb_Mo_isStop_66 at h
  obtain ⟨h1, h⟩ := kg_some h
  simp only [Option.some.injEq, Prod.mk.injEq, true_and] at h
  exact s_Mo_isStop_66 h1 ⟨_, rfl, h⟩
def fb_Mo_isStop_65  (x1 : Int) (x2 : Int) (x3 : Int) (x4 : Int) (σ : kS) : kRes := fb_Mo_isStop_66  x1 x2 x3 x4 0 σ
theorem e_Mo_isStop_65 {l : Launch} {G : kG} {yf : Int} {σf : kS}  {x1 : Int} {x2 : Int} {x3 : Int} {x4 : Int}  {σ : kS} (h : fb_Mo_isStop_65  x1 x2 x3 x4 σ = some (some yf, σf)) : Rn l G dm_Mo_isStop m_Mo_isStop (kI fun y' σ' => y' = yf ∧ σ' = σf) 65 [some (.inr (2, 0)), some (.inl x1), some (.inl x2), some (.inl x3), some (.inl x4)] [] σ := by
  unfold fb_Mo_isStop_65 at h
  refine s_Mo_isStop_65  ?_
  exact e_Mo_isStop_66  h
def fb_Mo_isStop_61  (x1 : Int) (x2 : Int) (x3 : Int) (x4 : Int) (σ : kS) : kRes := fb_Mo_isStop_66  x1 x2 x3 x4 1 σ
theorem e_Mo_isStop_61 {l : Launch} {G : kG} {yf : Int} {σf : kS}  {x1 : Int} {x2 : Int} {x3 : Int} {x4 : Int}  {σ : kS} (h : fb_Mo_isStop_61  x1 x2 x3 x4 σ = some (some yf, σf)) : Rn l G dm_Mo_isStop m_Mo_isStop (kI fun y' σ' => y' = yf ∧ σ' = σf) 61 [some (.inr (2, 0)), some (.inl x1), some (.inl x2), some (.inl x3), some (.inl x4)] [] σ := by
  unfold fb_Mo_isStop_61 at h
  refine s_Mo_isStop_61  ?_
  exact e_Mo_isStop_66  h
def fb_Mo_isStop_58  (x1 : Int) (x2 : Int) (x3 : Int) (x4 : Int) (s0 : Int) (s1 : Int) (σ : kS) : kRes := kg ((-2147483648 ≤ s1 ∧ s1 < 2147483648) ∧ (-2147483648 ≤ s0 ∧ s0 < 2147483648)) (if s1 = s0 then fb_Mo_isStop_65  x1 x2 x3 x4 σ else fb_Mo_isStop_61  x1 x2 x3 x4 σ)
theorem e_Mo_isStop_58 {l : Launch} {G : kG} {yf : Int} {σf : kS}  {x1 : Int} {x2 : Int} {x3 : Int} {x4 : Int} {s0 : Int} {s1 : Int}  {σ : kS} (h : fb_Mo_isStop_58  x1 x2 x3 x4 s0 s1 σ = some (some yf, σf)) : Rn l G dm_Mo_isStop m_Mo_isStop (kI fun y' σ' => y' = yf ∧ σ' = σf) 58 [some (.inr (2, 0)), some (.inl x1), some (.inl x2), some (.inl x3), some (.inl x4)] [.inl s0, .inl s1] σ := by
  unfold fb_Mo_isStop_58 at h
  obtain ⟨⟨h1, h2⟩, h⟩ := kg_some h
  refine s_Mo_isStop_58 h1 h2 (fun c => ?_) (fun c => ?_)
  · rw [if_pos c] at h
    exact e_Mo_isStop_65  h
  · rw [if_neg c] at h
    exact e_Mo_isStop_61  h
def fb_Mo_isStop_55  (x1 : Int) (x2 : Int) (x3 : Int) (x4 : Int) (s0 : Int) (s1 : Int) (σ : kS) : kRes := kbi (f_Mo_kindOf s0 σ) fun y σ1 => fb_Mo_isStop_58  x1 x2 x3 x4 y s1 σ1
theorem e_Mo_isStop_55 {l : Launch} {G : kG} {yf : Int} {σf : kS}  {x1 : Int} {x2 : Int} {x3 : Int} {x4 : Int} {s0 : Int} {s1 : Int}  {σ : kS} (h : fb_Mo_isStop_55  x1 x2 x3 x4 s0 s1 σ = some (some yf, σf)) : Rn l G dm_Mo_isStop m_Mo_isStop (kI fun y' σ' => y' = yf ∧ σ' = σf) 55 [some (.inr (2, 0)), some (.inl x1), some (.inl x2), some (.inl x3), some (.inl x4)] [.inl s0, .inl s1] σ := by
  unfold fb_Mo_isStop_55 at h
  obtain ⟨y, σ1, hc, h⟩ := kbi_some h
  refine s_Mo_isStop_55  (by decide) (E_Mo_kindOf hc) (fun y2 σ2 e2 => ?_)
  obtain ⟨rfl, rfl⟩ := e2
  exact e_Mo_isStop_58  h
def fb_Mo_isStop_45  (x1 : Int) (x2 : Int) (x3 : Int) (x4 : Int) (σ : kS) : kRes := kbi (f_Te_codeAt x1 (x2 - 1) 0 σ) fun y σ1 => fb_Mo_isStop_55  x1 x2 x3 x4 y x4 σ1
theorem e_Mo_isStop_45 {l : Launch} {G : kG} {yf : Int} {σf : kS}  {x1 : Int} {x2 : Int} {x3 : Int} {x4 : Int}  {σ : kS} (h : fb_Mo_isStop_45  x1 x2 x3 x4 σ = some (some yf, σf)) : Rn l G dm_Mo_isStop m_Mo_isStop (kI fun y' σ' => y' = yf ∧ σ' = σf) 45 [some (.inr (2, 0)), some (.inl x1), some (.inl x2), some (.inl x3), some (.inl x4)] [] σ := by
  unfold fb_Mo_isStop_45 at h
  obtain ⟨y, σ1, hc, h⟩ := kbi_some h
  refine s_Mo_isStop_45  (by decide) (E_Te_codeAt hc) (fun y2 σ2 e2 => ?_)
  obtain ⟨rfl, rfl⟩ := e2
  exact e_Mo_isStop_55  h
def fb_Mo_isStop_41  (x1 : Int) (x2 : Int) (x3 : Int) (x4 : Int) (σ : kS) : kRes := kg ((-2147483648 ≤ x2 ∧ x2 < 2147483648)) (if x2 = 0 then fb_Mo_isStop_61  x1 x2 x3 x4 σ else fb_Mo_isStop_45  x1 x2 x3 x4 σ)
theorem e_Mo_isStop_41 {l : Launch} {G : kG} {yf : Int} {σf : kS}  {x1 : Int} {x2 : Int} {x3 : Int} {x4 : Int}  {σ : kS} (h : fb_Mo_isStop_41  x1 x2 x3 x4 σ = some (some yf, σf)) : Rn l G dm_Mo_isStop m_Mo_isStop (kI fun y' σ' => y' = yf ∧ σ' = σf) 41 [some (.inr (2, 0)), some (.inl x1), some (.inl x2), some (.inl x3), some (.inl x4)] [] σ := by
  unfold fb_Mo_isStop_41 at h
  obtain ⟨h1, h⟩ := kg_some h
  refine s_Mo_isStop_41 h1 (fun c => ?_) (fun c => ?_)
  · rw [if_pos c] at h
    exact e_Mo_isStop_61  h
  · rw [if_neg c] at h
    exact e_Mo_isStop_45  h
def fb_Mo_isStop_34  (x1 : Int) (x2 : Int) (x3 : Int) (s0 : Int) (σ : kS) : kRes := kg ((-2147483648 ≤ s0 ∧ s0 < 2147483648)) (if s0 = 0 then fb_Mo_isStop_65  x1 x2 x3 s0 σ else fb_Mo_isStop_41  x1 x2 x3 s0 σ)
theorem e_Mo_isStop_34 {l : Launch} {G : kG} {yf : Int} {σf : kS}  {x1 : Int} {x2 : Int} {x3 : Int} {s0 : Int} {o4 : Option kV} {σ : kS} (h : fb_Mo_isStop_34  x1 x2 x3 s0 σ = some (some yf, σf)) : Rn l G dm_Mo_isStop m_Mo_isStop (kI fun y' σ' => y' = yf ∧ σ' = σf) 34 [some (.inr (2, 0)), some (.inl x1), some (.inl x2), some (.inl x3), o4] [.inl s0] σ := by
  unfold fb_Mo_isStop_34 at h
  obtain ⟨h1, h⟩ := kg_some h
  refine s_Mo_isStop_34 h1 (fun c => ?_) (fun c => ?_)
  · rw [if_pos c] at h
    exact e_Mo_isStop_65  h
  · rw [if_neg c] at h
    exact e_Mo_isStop_41  h
def fb_Mo_isStop_31  (x1 : Int) (x2 : Int) (x3 : Int) (s0 : Int) (σ : kS) : kRes := kbi (f_Mo_kindOf s0 σ) fun y σ1 => fb_Mo_isStop_34  x1 x2 x3 y σ1
theorem e_Mo_isStop_31 {l : Launch} {G : kG} {yf : Int} {σf : kS}  {x1 : Int} {x2 : Int} {x3 : Int} {s0 : Int} {o4 : Option kV} {σ : kS} (h : fb_Mo_isStop_31  x1 x2 x3 s0 σ = some (some yf, σf)) : Rn l G dm_Mo_isStop m_Mo_isStop (kI fun y' σ' => y' = yf ∧ σ' = σf) 31 [some (.inr (2, 0)), some (.inl x1), some (.inl x2), some (.inl x3), o4] [.inl s0] σ := by
  unfold fb_Mo_isStop_31 at h
  obtain ⟨y, σ1, hc, h⟩ := kbi_some h
  refine s_Mo_isStop_31  (by decide) (E_Mo_kindOf hc) (fun y2 σ2 e2 => ?_)
  obtain ⟨rfl, rfl⟩ := e2
  exact e_Mo_isStop_34  h
def fb_Mo_isStop_25  (x1 : Int) (x2 : Int) (x3 : Int) (σ : kS) : kRes := kbi (f_Te_codeAt x1 x2 0 σ) fun y σ1 => fb_Mo_isStop_31  x1 x2 x3 y σ1
theorem e_Mo_isStop_25 {l : Launch} {G : kG} {yf : Int} {σf : kS}  {x1 : Int} {x2 : Int} {x3 : Int} {o4 : Option kV} {σ : kS} (h : fb_Mo_isStop_25  x1 x2 x3 σ = some (some yf, σf)) : Rn l G dm_Mo_isStop m_Mo_isStop (kI fun y' σ' => y' = yf ∧ σ' = σf) 25 [some (.inr (2, 0)), some (.inl x1), some (.inl x2), some (.inl x3), o4] [] σ := by
  unfold fb_Mo_isStop_25 at h
  obtain ⟨y, σ1, hc, h⟩ := kbi_some h
  refine s_Mo_isStop_25  (by decide) (E_Te_codeAt hc) (fun y2 σ2 e2 => ?_)
  obtain ⟨rfl, rfl⟩ := e2
  exact e_Mo_isStop_31  h
def fb_Mo_isStop_24  (x1 : Int) (x2 : Int) (x3 : Int) (s0 : Int) (σ : kS) : kRes := kg ((s0 = 0 ∨ s0 = 1)) (some (some s0, σ))
theorem e_Mo_isStop_24 {l : Launch} {G : kG} {yf : Int} {σf : kS}  {x1 : Int} {x2 : Int} {x3 : Int} {s0 : Int} {o4 : Option kV} {σ : kS} (h : fb_Mo_isStop_24  x1 x2 x3 s0 σ = some (some yf, σf)) : Rn l G dm_Mo_isStop m_Mo_isStop (kI fun y' σ' => y' = yf ∧ σ' = σf) 24 [some (.inr (2, 0)), some (.inl x1), some (.inl x2), some (.inl x3), o4] [.inl s0] σ := by
  unfold fb_Mo_isStop_24 at h
  obtain ⟨h1, h⟩ := kg_some h
  simp only [Option.some.injEq, Prod.mk.injEq, true_and] at h
  exact s_Mo_isStop_24 h1 ⟨_, rfl, h⟩
def fb_Mo_isStop_23  (x1 : Int) (x2 : Int) (x3 : Int) (σ : kS) : kRes := fb_Mo_isStop_24  x1 x2 x3 0 σ
theorem e_Mo_isStop_23 {l : Launch} {G : kG} {yf : Int} {σf : kS}  {x1 : Int} {x2 : Int} {x3 : Int} {o4 : Option kV} {σ : kS} (h : fb_Mo_isStop_23  x1 x2 x3 σ = some (some yf, σf)) : Rn l G dm_Mo_isStop m_Mo_isStop (kI fun y' σ' => y' = yf ∧ σ' = σf) 23 [some (.inr (2, 0)), some (.inl x1), some (.inl x2), some (.inl x3), o4] [] σ := by
  unfold fb_Mo_isStop_23 at h
  refine s_Mo_isStop_23  ?_
  exact e_Mo_isStop_24  h
def fb_Mo_isStop_19  (x1 : Int) (x2 : Int) (x3 : Int) (σ : kS) : kRes := fb_Mo_isStop_24  x1 x2 x3 1 σ
theorem e_Mo_isStop_19 {l : Launch} {G : kG} {yf : Int} {σf : kS}  {x1 : Int} {x2 : Int} {x3 : Int} {o4 : Option kV} {σ : kS} (h : fb_Mo_isStop_19  x1 x2 x3 σ = some (some yf, σf)) : Rn l G dm_Mo_isStop m_Mo_isStop (kI fun y' σ' => y' = yf ∧ σ' = σf) 19 [some (.inr (2, 0)), some (.inl x1), some (.inl x2), some (.inl x3), o4] [] σ := by
  unfold fb_Mo_isStop_19 at h
  refine s_Mo_isStop_19  ?_
  exact e_Mo_isStop_24  h
def fb_Mo_isStop_15  (x1 : Int) (x2 : Int) (x3 : Int) (σ : kS) : kRes := kg ((-2147483648 ≤ x3 ∧ x3 < 2147483648)) (if x3 = 0 then fb_Mo_isStop_19  x1 x2 x3 σ else fb_Mo_isStop_23  x1 x2 x3 σ)
theorem e_Mo_isStop_15 {l : Launch} {G : kG} {yf : Int} {σf : kS}  {x1 : Int} {x2 : Int} {x3 : Int} {o4 : Option kV} {σ : kS} (h : fb_Mo_isStop_15  x1 x2 x3 σ = some (some yf, σf)) : Rn l G dm_Mo_isStop m_Mo_isStop (kI fun y' σ' => y' = yf ∧ σ' = σf) 15 [some (.inr (2, 0)), some (.inl x1), some (.inl x2), some (.inl x3), o4] [] σ := by
  unfold fb_Mo_isStop_15 at h
  obtain ⟨h1, h⟩ := kg_some h
  refine s_Mo_isStop_15 h1 (fun c => ?_) (fun c => ?_)
  · rw [if_neg c] at h
    exact e_Mo_isStop_23  h
  · rw [if_pos c] at h
    exact e_Mo_isStop_19  h
def fb_Mo_isStop_11  (x1 : Int) (x2 : Int) (x3 : Int) (σ : kS) : kRes := kg ((-2147483648 ≤ x2 ∧ x2 < 2147483648)) (if x2 = 0 then fb_Mo_isStop_15  x1 x2 x3 σ else fb_Mo_isStop_23  x1 x2 x3 σ)
theorem e_Mo_isStop_11 {l : Launch} {G : kG} {yf : Int} {σf : kS}  {x1 : Int} {x2 : Int} {x3 : Int} {o4 : Option kV} {σ : kS} (h : fb_Mo_isStop_11  x1 x2 x3 σ = some (some yf, σf)) : Rn l G dm_Mo_isStop m_Mo_isStop (kI fun y' σ' => y' = yf ∧ σ' = σf) 11 [some (.inr (2, 0)), some (.inl x1), some (.inl x2), some (.inl x3), o4] [] σ := by
  unfold fb_Mo_isStop_11 at h
  obtain ⟨h1, h⟩ := kg_some h
  refine s_Mo_isStop_11 h1 (fun c => ?_) (fun c => ?_)
  · rw [if_neg c] at h
    exact e_Mo_isStop_23  h
  · rw [if_pos c] at h
    exact e_Mo_isStop_15  h
def fb_Mo_isStop_5  (x1 : Int) (x2 : Int) (s0 : Int) (σ : kS) : kRes := kg ((-2147483648 ≤ x2 ∧ x2 < 2147483648) ∧ (-2147483648 ≤ s0 ∧ s0 < 2147483648)) (if x2 < s0 then fb_Mo_isStop_25  x1 x2 s0 σ else fb_Mo_isStop_11  x1 x2 s0 σ)
theorem e_Mo_isStop_5 {l : Launch} {G : kG} {yf : Int} {σf : kS}  {x1 : Int} {x2 : Int} {s0 : Int} {o3 : Option kV} {o4 : Option kV} {σ : kS} (h : fb_Mo_isStop_5  x1 x2 s0 σ = some (some yf, σf)) : Rn l G dm_Mo_isStop m_Mo_isStop (kI fun y' σ' => y' = yf ∧ σ' = σf) 5 [some (.inr (2, 0)), some (.inl x1), some (.inl x2), o3, o4] [.inl s0] σ := by
  unfold fb_Mo_isStop_5 at h
  obtain ⟨⟨h1, h2⟩, h⟩ := kg_some h
  refine s_Mo_isStop_5 h1 h2 (fun c => ?_) (fun c => ?_)
  · rw [if_pos c] at h
    exact e_Mo_isStop_25  h
  · rw [if_neg c] at h
    exact e_Mo_isStop_11  h
def fb_Mo_isStop_0  (x1 : Int) (x2 : Int) (σ : kS) : kRes := kbi (f_Te_sizeOf x1 0 σ) fun y σ1 => fb_Mo_isStop_5  x1 x2 y σ1
theorem e_Mo_isStop_0 {l : Launch} {G : kG} {yf : Int} {σf : kS}  {x1 : Int} {x2 : Int} {o3 : Option kV} {o4 : Option kV} {σ : kS} (h : fb_Mo_isStop_0  x1 x2 σ = some (some yf, σf)) : Rn l G dm_Mo_isStop m_Mo_isStop (kI fun y' σ' => y' = yf ∧ σ' = σf) 0 [some (.inr (2, 0)), some (.inl x1), some (.inl x2), o3, o4] [] σ := by
  unfold fb_Mo_isStop_0 at h
  obtain ⟨y, σ1, hc, h⟩ := kbi_some h
  refine s_Mo_isStop_0  (by decide) (E_Te_sizeOf hc) (fun y2 σ2 e2 => ?_)
  obtain ⟨rfl, rfl⟩ := e2
  exact e_Mo_isStop_5  h
def f_Mo_isStop (x1 : Int) (x2 : Int) (σ : kS) : kRes := fb_Mo_isStop_0 x1 x2 σ
theorem E_Mo_isStop {l : Launch} {G : kG} {yf : Int} {σf : kS} {x1 : Int} {x2 : Int} {σ : kS} (h : f_Mo_isStop x1 x2 σ = some (some yf, σf)) : Call l G dm_Mo_isStop y_Mo_isStop m_Mo_isStop [.inr (2, 0), .inl x1, .inl x2] σ (kI fun y' σ' => y' = yf ∧ σ' = σf) := by
  unfold f_Mo_isStop at h
  exact Call.of (by decide +kernel) rfl (Nat.le_of_ble_eq_true rfl) (e_Mo_isStop_0 h)
/-! Mo_stopBefore -/
def fb_Mo_stopBefore_45  (x1 : Int) (x2 : Int) (x3 : Int) (x4 : Int) (σ : kS) : kRes := some (some (-1), σ)
theorem e_Mo_stopBefore_45 {l : Launch} {G : kG} {yf : Int} {σf : kS}  {x1 : Int} {x2 : Int} {x3 : Int} {x4 : Int}  {σ : kS} (h : fb_Mo_stopBefore_45  x1 x2 x3 x4 σ = some (some yf, σf)) : Rn l G dm_Mo_stopBefore m_Mo_stopBefore (kI fun y' σ' => y' = yf ∧ σ' = σf) 45 [some (.inr (2, 0)), some (.inl x1), some (.inl x2), some (.inl x3), some (.inl x4)] [] σ := by
  unfold fb_Mo_stopBefore_45 at h
  simp only [Option.some.injEq, Prod.mk.injEq, true_and] at h
  exact s_Mo_stopBefore_45  ⟨_, rfl, h⟩
def fb_Mo_stopBefore_39 (k7 : Int → Int → Int → Int → kS → kRes) (x1 : Int) (x2 : Int) (x3 : Int) (x4 : Int) (σ : kS) : kRes := k7 x1 x2 x3 (x4 + (-1)) σ
theorem e_Mo_stopBefore_39 {l : Launch} {G : kG} {yf : Int} {σf : kS} {k7 : Int → Int → Int → Int → kS → kRes} (hk7 : ∀ (x1 : Int) (x2 : Int) (x3 : Int) (x4 : Int)  (σ : kS), k7 x1 x2 x3 x4 σ = some (some yf, σf) → Rn l G dm_Mo_stopBefore m_Mo_stopBefore (kI fun y' σ' => y' = yf ∧ σ' = σf) 7 [some (.inr (2, 0)), some (.inl x1), some (.inl x2), some (.inl x3), some (.inl x4)] [] σ) {x1 : Int} {x2 : Int} {x3 : Int} {x4 : Int}  {σ : kS} (h : fb_Mo_stopBefore_39 k7 x1 x2 x3 x4 σ = some (some yf, σf)) : Rn l G dm_Mo_stopBefore m_Mo_stopBefore (kI fun y' σ' => y' = yf ∧ σ' = σf) 39 [some (.inr (2, 0)), some (.inl x1), some (.inl x2), some (.inl x3), some (.inl x4)] [] σ := by
  unfold fb_Mo_stopBefore_39 at h
  refine s_Mo_stopBefore_39  ?_
  exact hk7 _ _ _ _ _ h
def fb_Mo_stopBefore_36  (x1 : Int) (x2 : Int) (x3 : Int) (x4 : Int) (σ : kS) : kRes := some (some x4, σ)
theorem e_Mo_stopBefore_36 {l : Launch} {G : kG} {yf : Int} {σf : kS}  {x1 : Int} {x2 : Int} {x3 : Int} {x4 : Int}  {σ : kS} (h : fb_Mo_stopBefore_36  x1 x2 x3 x4 σ = some (some yf, σf)) : Rn l G dm_Mo_stopBefore m_Mo_stopBefore (kI fun y' σ' => y' = yf ∧ σ' = σf) 36 [some (.inr (2, 0)), some (.inl x1), some (.inl x2), some (.inl x3), some (.inl x4)] [] σ := by
  unfold fb_Mo_stopBefore_36 at h
  simp only [Option.some.injEq, Prod.mk.injEq, true_and] at h
  exact s_Mo_stopBefore_36  ⟨_, rfl, h⟩
def fb_Mo_stopBefore_29 (k7 : Int → Int → Int → Int → kS → kRes) (x1 : Int) (x2 : Int) (x3 : Int) (x4 : Int) (σ : kS) : kRes := kg ((-2147483648 ≤ x3 + (-1) ∧ x3 + (-1) < 2147483648)) (if (x3 + (-1)) = 0 then fb_Mo_stopBefore_36  x1 x2 (x3 + (-1)) x4 σ else fb_Mo_stopBefore_39 k7 x1 x2 (x3 + (-1)) x4 σ)
theorem e_Mo_stopBefore_29 {l : Launch} {G : kG} {yf : Int} {σf : kS} {k7 : Int → Int → Int → Int → kS → kRes} (hk7 : ∀ (x1 : Int) (x2 : Int) (x3 : Int) (x4 : Int)  (σ : kS), k7 x1 x2 x3 x4 σ = some (some yf, σf) → Rn l G dm_Mo_stopBefore m_Mo_stopBefore (kI fun y' σ' => y' = yf ∧ σ' = σf) 7 [some (.inr (2, 0)), some (.inl x1), some (.inl x2), some (.inl x3), some (.inl x4)] [] σ) {x1 : Int} {x2 : Int} {x3 : Int} {x4 : Int}  {σ : kS} (h : fb_Mo_stopBefore_29 k7 x1 x2 x3 x4 σ = some (some yf, σf)) : Rn l G dm_Mo_stopBefore m_Mo_stopBefore (kI fun y' σ' => y' = yf ∧ σ' = σf) 29 [some (.inr (2, 0)), some (.inl x1), some (.inl x2), some (.inl x3), some (.inl x4)] [] σ := by
  unfold fb_Mo_stopBefore_29 at h
  obtain ⟨h1, h⟩ := kg_some h
  refine s_Mo_stopBefore_29 h1 (fun c => ?_) (fun c => ?_)
  · rw [if_neg c] at h
    exact e_Mo_stopBefore_39 hk7 h
  · rw [if_pos c] at h
    exact e_Mo_stopBefore_36  h
def fb_Mo_stopBefore_26 (k7 : Int → Int → Int → Int → kS → kRes) (x1 : Int) (x2 : Int) (x3 : Int) (x4 : Int) (s0 : Int) (σ : kS) : kRes := kg ((-2147483648 ≤ s0 ∧ s0 < 2147483648)) (if s0 = 0 then fb_Mo_stopBefore_39 k7 x1 x2 x3 x4 σ else fb_Mo_stopBefore_29 k7 x1 x2 x3 x4 σ)
theorem e_Mo_stopBefore_26 {l : Launch} {G : kG} {yf : Int} {σf : kS} {k7 : Int → Int → Int → Int → kS → kRes} (hk7 : ∀ (x1 : Int) (x2 : Int) (x3 : Int) (x4 : Int)  (σ : kS), k7 x1 x2 x3 x4 σ = some (some yf, σf) → Rn l G dm_Mo_stopBefore m_Mo_stopBefore (kI fun y' σ' => y' = yf ∧ σ' = σf) 7 [some (.inr (2, 0)), some (.inl x1), some (.inl x2), some (.inl x3), some (.inl x4)] [] σ) {x1 : Int} {x2 : Int} {x3 : Int} {x4 : Int} {s0 : Int}  {σ : kS} (h : fb_Mo_stopBefore_26 k7 x1 x2 x3 x4 s0 σ = some (some yf, σf)) : Rn l G dm_Mo_stopBefore m_Mo_stopBefore (kI fun y' σ' => y' = yf ∧ σ' = σf) 26 [some (.inr (2, 0)), some (.inl x1), some (.inl x2), some (.inl x3), some (.inl x4)] [.inl s0] σ := by
  unfold fb_Mo_stopBefore_26 at h
  obtain ⟨h1, h⟩ := kg_some h
  refine s_Mo_stopBefore_26 h1 (fun c => ?_) (fun c => ?_)
  · rw [if_pos c] at h
    exact e_Mo_stopBefore_39 hk7 h
  · rw [if_neg c] at h
    exact e_Mo_stopBefore_29 hk7 h
def fb_Mo_stopBefore_12 (k7 : Int → Int → Int → Int → kS → kRes) (x1 : Int) (x2 : Int) (x3 : Int) (x4 : Int) (σ : kS) : kRes := kbi (f_Mo_isStop (kdiv x4 32) (kmod x4 32) σ) fun y σ1 => fb_Mo_stopBefore_26 k7 x1 x2 x3 x4 y σ1
theorem e_Mo_stopBefore_12 {l : Launch} {G : kG} {yf : Int} {σf : kS} {k7 : Int → Int → Int → Int → kS → kRes} (hk7 : ∀ (x1 : Int) (x2 : Int) (x3 : Int) (x4 : Int)  (σ : kS), k7 x1 x2 x3 x4 σ = some (some yf, σf) → Rn l G dm_Mo_stopBefore m_Mo_stopBefore (kI fun y' σ' => y' = yf ∧ σ' = σf) 7 [some (.inr (2, 0)), some (.inl x1), some (.inl x2), some (.inl x3), some (.inl x4)] [] σ) {x1 : Int} {x2 : Int} {x3 : Int} {x4 : Int}  {σ : kS} (h : fb_Mo_stopBefore_12 k7 x1 x2 x3 x4 σ = some (some yf, σf)) : Rn l G dm_Mo_stopBefore m_Mo_stopBefore (kI fun y' σ' => y' = yf ∧ σ' = σf) 12 [some (.inr (2, 0)), some (.inl x1), some (.inl x2), some (.inl x3), some (.inl x4)] [] σ := by
  unfold fb_Mo_stopBefore_12 at h
  obtain ⟨y, σ1, hc, h⟩ := kbi_some h
  refine s_Mo_stopBefore_12  (by decide) (E_Mo_isStop hc) (fun y2 σ2 e2 => ?_)
  obtain ⟨rfl, rfl⟩ := e2
  exact e_Mo_stopBefore_26 hk7 h
def fb_Mo_stopBefore_7 (k7 : Int → Int → Int → Int → kS → kRes) (x1 : Int) (x2 : Int) (x3 : Int) (x4 : Int) (σ : kS) : kRes := kg ((-2147483648 ≤ x4 ∧ x4 < 2147483648)) (if x4 < 0 then fb_Mo_stopBefore_45  x1 x2 x3 x4 σ else fb_Mo_stopBefore_12 k7 x1 x2 x3 x4 σ)
theorem e_Mo_stopBefore_7 {l : Launch} {G : kG} {yf : Int} {σf : kS} {k7 : Int → Int → Int → Int → kS → kRes} (hk7 : ∀ (x1 : Int) (x2 : Int) (x3 : Int) (x4 : Int)  (σ : kS), k7 x1 x2 x3 x4 σ = some (some yf, σf) → Rn l G dm_Mo_stopBefore m_Mo_stopBefore (kI fun y' σ' => y' = yf ∧ σ' = σf) 7 [some (.inr (2, 0)), some (.inl x1), some (.inl x2), some (.inl x3), some (.inl x4)] [] σ) {x1 : Int} {x2 : Int} {x3 : Int} {x4 : Int}  {σ : kS} (h : fb_Mo_stopBefore_7 k7 x1 x2 x3 x4 σ = some (some yf, σf)) : Rn l G dm_Mo_stopBefore m_Mo_stopBefore (kI fun y' σ' => y' = yf ∧ σ' = σf) 7 [some (.inr (2, 0)), some (.inl x1), some (.inl x2), some (.inl x3), some (.inl x4)] [] σ := by
  unfold fb_Mo_stopBefore_7 at h
  obtain ⟨h1, h⟩ := kg_some h
  refine s_Mo_stopBefore_7 h1 (fun c => ?_) (fun c => ?_)
  · rw [if_pos c] at h
    exact e_Mo_stopBefore_45  h
  · rw [if_neg c] at h
    exact e_Mo_stopBefore_12 hk7 h
def fl_Mo_stopBefore_7  : Nat → Int → Int → Int → Int → kS → kRes
  | 0, _, _, _, _, _ => none
  | n + 1, x1, x2, x3, x4, σ => fb_Mo_stopBefore_7 (fl_Mo_stopBefore_7  n) x1 x2 x3 x4 σ
theorem el_Mo_stopBefore_7 {l : Launch} {G : kG} {yf : Int} {σf : kS}  : ∀ (n : Nat) (x1 : Int) (x2 : Int) (x3 : Int) (x4 : Int)  (σ : kS), fl_Mo_stopBefore_7  n x1 x2 x3 x4 σ = some (some yf, σf) → Rn l G dm_Mo_stopBefore m_Mo_stopBefore (kI fun y' σ' => y' = yf ∧ σ' = σf) 7 [some (.inr (2, 0)), some (.inl x1), some (.inl x2), some (.inl x3), some (.inl x4)] [] σ := by
  intro n
  induction n with
  | zero => intro x1 x2 x3 x4 σ h; simp only [fl_Mo_stopBefore_7] at h; cases h
  | succ n ih => intro x1 x2 x3 x4 σ h; simp only [fl_Mo_stopBefore_7] at h; exact e_Mo_stopBefore_7 ih h
def fb_Mo_stopBefore_0  (x1 : Int) (x2 : Int) (σ : kS) : kRes := fl_Mo_stopBefore_7  3000 x1 x2 x2 (x1 - 1) σ
theorem e_Mo_stopBefore_0 {l : Launch} {G : kG} {yf : Int} {σf : kS}  {x1 : Int} {x2 : Int} {o3 : Option kV} {o4 : Option kV} {σ : kS} (h : fb_Mo_stopBefore_0  x1 x2 σ = some (some yf, σf)) : Rn l G dm_Mo_stopBefore m_Mo_stopBefore (kI fun y' σ' => y' = yf ∧ σ' = σf) 0 [some (.inr (2, 0)), some (.inl x1), some (.inl x2), o3, o4] [] σ := by
  unfold fb_Mo_stopBefore_0 at h
  refine s_Mo_stopBefore_0  ?_
  exact el_Mo_stopBefore_7  _ _ _ _ _ _ h
def f_Mo_stopBefore (x1 : Int) (x2 : Int) (σ : kS) : kRes := fb_Mo_stopBefore_0 x1 x2 σ
theorem E_Mo_stopBefore {l : Launch} {G : kG} {yf : Int} {σf : kS} {x1 : Int} {x2 : Int} {σ : kS} (h : f_Mo_stopBefore x1 x2 σ = some (some yf, σf)) : Call l G dm_Mo_stopBefore y_Mo_stopBefore m_Mo_stopBefore [.inr (2, 0), .inl x1, .inl x2] σ (kI fun y' σ' => y' = yf ∧ σ' = σf) := by
  unfold f_Mo_stopBefore at h
  exact Call.of (by decide +kernel) rfl (Nat.le_of_ble_eq_true rfl) (e_Mo_stopBefore_0 h)
/-! Mo_stopBehind -/
def fb_Mo_stopBehind_52  (x1 : Int) (x2 : Int) (x3 : Int) (x4 : Int) (σ : kS) : kRes := some (some (-1), σ)
theorem e_Mo_stopBehind_52 {l : Launch} {G : kG} {yf : Int} {σf : kS}  {x1 : Int} {x2 : Int} {x3 : Int} {x4 : Int}  {σ : kS} (h : fb_Mo_stopBehind_52  x1 x2 x3 x4 σ = some (some yf, σf)) : Rn l G dm_Mo_stopBehind m_Mo_stopBehind (kI fun y' σ' => y' = yf ∧ σ' = σf) 52 [some (.inr (2, 0)), some (.inl x1), some (.inl x2), some (.inl x3), some (.inl x4)] [] σ := by
  unfold fb_Mo_stopBehind_52 at h
  simp only [Option.some.injEq, Prod.mk.injEq, true_and] at h
  exact s_Mo_stopBehind_52  ⟨_, rfl, h⟩
def fb_Mo_stopBehind_46 (k7 : Int → Int → Int → Int → kS → kRes) (x1 : Int) (x2 : Int) (x3 : Int) (x4 : Int) (σ : kS) : kRes := k7 x1 x2 x3 (x4 + 1) σ
theorem e_Mo_stopBehind_46 {l : Launch} {G : kG} {yf : Int} {σf : kS} {k7 : Int → Int → Int → Int → kS → kRes} (hk7 : ∀ (x1 : Int) (x2 : Int) (x3 : Int) (x4 : Int)  (σ : kS), k7 x1 x2 x3 x4 σ = some (some yf, σf) → Rn l G dm_Mo_stopBehind m_Mo_stopBehind (kI fun y' σ' => y' = yf ∧ σ' = σf) 7 [some (.inr (2, 0)), some (.inl x1), some (.inl x2), some (.inl x3), some (.inl x4)] [] σ) {x1 : Int} {x2 : Int} {x3 : Int} {x4 : Int}  {σ : kS} (h : fb_Mo_stopBehind_46 k7 x1 x2 x3 x4 σ = some (some yf, σf)) : Rn l G dm_Mo_stopBehind m_Mo_stopBehind (kI fun y' σ' => y' = yf ∧ σ' = σf) 46 [some (.inr (2, 0)), some (.inl x1), some (.inl x2), some (.inl x3), some (.inl x4)] [] σ := by
  unfold fb_Mo_stopBehind_46 at h
  refine s_Mo_stopBehind_46  ?_
  exact hk7 _ _ _ _ _ h
def fb_Mo_stopBehind_43  (x1 : Int) (x2 : Int) (x3 : Int) (x4 : Int) (σ : kS) : kRes := some (some x4, σ)
theorem e_Mo_stopBehind_43 {l : Launch} {G : kG} {yf : Int} {σf : kS}  {x1 : Int} {x2 : Int} {x3 : Int} {x4 : Int}  {σ : kS} (h : fb_Mo_stopBehind_43  x1 x2 x3 x4 σ = some (some yf, σf)) : Rn l G dm_Mo_stopBehind m_Mo_stopBehind (kI fun y' σ' => y' = yf ∧ σ' = σf) 43 [some (.inr (2, 0)), some (.inl x1), some (.inl x2), some (.inl x3), some (.inl x4)] [] σ := by
  unfold fb_Mo_stopBehind_43 at h
  simp only [Option.some.injEq, Prod.mk.injEq, true_and] at h
  exact s_Mo_stopBehind_43  ⟨_, rfl, h⟩
def fb_Mo_stopBehind_36 (k7 : Int → Int → Int → Int → kS → kRes) (x1 : Int) (x2 : Int) (x3 : Int) (x4 : Int) (σ : kS) : kRes := kg ((-2147483648 ≤ x3 + (-1) ∧ x3 + (-1) < 2147483648)) (if (x3 + (-1)) = 0 then fb_Mo_stopBehind_43  x1 x2 (x3 + (-1)) x4 σ else fb_Mo_stopBehind_46 k7 x1 x2 (x3 + (-1)) x4 σ)
theorem e_Mo_stopBehind_36 {l : Launch} {G : kG} {yf : Int} {σf : kS} {k7 : Int → Int → Int → Int → kS → kRes} (hk7 : ∀ (x1 : Int) (x2 : Int) (x3 : Int) (x4 : Int)  (σ : kS), k7 x1 x2 x3 x4 σ = some (some yf, σf) → Rn l G dm_Mo_stopBehind m_Mo_stopBehind (kI fun y' σ' => y' = yf ∧ σ' = σf) 7 [some (.inr (2, 0)), some (.inl x1), some (.inl x2), some (.inl x3), some (.inl x4)] [] σ) {x1 : Int} {x2 : Int} {x3 : Int} {x4 : Int}  {σ : kS} (h : fb_Mo_stopBehind_36 k7 x1 x2 x3 x4 σ = some (some yf, σf)) : Rn l G dm_Mo_stopBehind m_Mo_stopBehind (kI fun y' σ' => y' = yf ∧ σ' = σf) 36 [some (.inr (2, 0)), some (.inl x1), some (.inl x2), some (.inl x3), some (.inl x4)] [] σ := by
  unfold fb_Mo_stopBehind_36 at h
  obtain ⟨h1, h⟩ := kg_some h
  refine s_Mo_stopBehind_36 h1 (fun c => ?_) (fun c => ?_)
  · rw [if_neg c] at h
    exact e_Mo_stopBehind_46 hk7 h
  · rw [if_pos c] at h
    exact e_Mo_stopBehind_43  h
def fb_Mo_stopBehind_33 (k7 : Int → Int → Int → Int → kS → kRes) (x1 : Int) (x2 : Int) (x3 : Int) (x4 : Int) (s0 : Int) (σ : kS) : kRes := kg ((-2147483648 ≤ s0 ∧ s0 < 2147483648)) (if s0 = 0 then fb_Mo_stopBehind_46 k7 x1 x2 x3 x4 σ else fb_Mo_stopBehind_36 k7 x1 x2 x3 x4 σ)
theorem e_Mo_stopBehind_33 {l : Launch} {G : kG} {yf : Int} {σf : kS} {k7 : Int → Int → Int → Int → kS → kRes} (hk7 : ∀ (x1 : Int) (x2 : Int) (x3 : Int) (x4 : Int)  (σ : kS), k7 x1 x2 x3 x4 σ = some (some yf, σf) → Rn l G dm_Mo_stopBehind m_Mo_stopBehind (kI fun y' σ' => y' = yf ∧ σ' = σf) 7 [some (.inr (2, 0)), some (.inl x1), some (.inl x2), some (.inl x3), some (.inl x4)] [] σ) {x1 : Int} {x2 : Int} {x3 : Int} {x4 : Int} {s0 : Int}  {σ : kS} (h : fb_Mo_stopBehind_33 k7 x1 x2 x3 x4 s0 σ = some (some yf, σf)) : Rn l G dm_Mo_stopBehind m_Mo_stopBehind (kI fun y' σ' => y' = yf ∧ σ' = σf) 33 [some (.inr (2, 0)), some (.inl x1), some (.inl x2), some (.inl x3), some (.inl x4)] [.inl s0] σ := by
  unfold fb_Mo_stopBehind_33 at h
  obtain ⟨h1, h⟩ := kg_some h
  refine s_Mo_stopBehind_33 h1 (fun c => ?_) (fun c => ?_)
  · rw [if_pos c] at h
    exact e_Mo_stopBehind_46 hk7 h
  · rw [if_neg c] at h
    exact e_Mo_stopBehind_36 hk7 h
def fb_Mo_stopBehind_19 (k7 : Int → Int → Int → Int → kS → kRes) (x1 : Int) (x2 : Int) (x3 : Int) (x4 : Int) (σ : kS) : kRes := kbi (f_Mo_isStop (kdiv x4 32) (kmod x4 32) σ) fun y σ1 => fb_Mo_stopBehind_33 k7 x1 x2 x3 x4 y σ1
theorem e_Mo_stopBehind_19 {l : Launch} {G : kG} {yf : Int} {σf : kS} {k7 : Int → Int → Int → Int → kS → kRes} (hk7 : ∀ (x1 : Int) (x2 : Int) (x3 : Int) (x4 : Int)  (σ : kS), k7 x1 x2 x3 x4 σ = some (some yf, σf) → Rn l G dm_Mo_stopBehind m_Mo_stopBehind (kI fun y' σ' => y' = yf ∧ σ' = σf) 7 [some (.inr (2, 0)), some (.inl x1), some (.inl x2), some (.inl x3), some (.inl x4)] [] σ) {x1 : Int} {x2 : Int} {x3 : Int} {x4 : Int}  {σ : kS} (h : fb_Mo_stopBehind_19 k7 x1 x2 x3 x4 σ = some (some yf, σf)) : Rn l G dm_Mo_stopBehind m_Mo_stopBehind (kI fun y' σ' => y' = yf ∧ σ' = σf) 19 [some (.inr (2, 0)), some (.inl x1), some (.inl x2), some (.inl x3), some (.inl x4)] [] σ := by
  unfold fb_Mo_stopBehind_19 at h
  obtain ⟨y, σ1, hc, h⟩ := kbi_some h
  refine s_Mo_stopBehind_19  (by decide) (E_Mo_isStop hc) (fun y2 σ2 e2 => ?_)
  obtain ⟨rfl, rfl⟩ := e2
  exact e_Mo_stopBehind_33 hk7 h
def fb_Mo_stopBehind_7 (k7 : Int → Int → Int → Int → kS → kRes) (x1 : Int) (x2 : Int) (x3 : Int) (x4 : Int) (σ : kS) : kRes := kg ((-2147483648 ≤ x4 ∧ x4 < 2147483648) ∧ (-2147483648 ≤ (σ 2 0 2) * 32 ∧ (σ 2 0 2) * 32 < 2147483648)) (if ((σ 2 0 2) * 32) ≤ x4 then fb_Mo_stopBehind_52  x1 x2 x3 x4 σ else fb_Mo_stopBehind_19 k7 x1 x2 x3 x4 σ)
theorem e_Mo_stopBehind_7 {l : Launch} {G : kG} {yf : Int} {σf : kS} {k7 : Int → Int → Int → Int → kS → kRes} (hk7 : ∀ (x1 : Int) (x2 : Int) (x3 : Int) (x4 : Int)  (σ : kS), k7 x1 x2 x3 x4 σ = some (some yf, σf) → Rn l G dm_Mo_stopBehind m_Mo_stopBehind (kI fun y' σ' => y' = yf ∧ σ' = σf) 7 [some (.inr (2, 0)), some (.inl x1), some (.inl x2), some (.inl x3), some (.inl x4)] [] σ) {x1 : Int} {x2 : Int} {x3 : Int} {x4 : Int}  {σ : kS} (h : fb_Mo_stopBehind_7 k7 x1 x2 x3 x4 σ = some (some yf, σf)) : Rn l G dm_Mo_stopBehind m_Mo_stopBehind (kI fun y' σ' => y' = yf ∧ σ' = σf) 7 [some (.inr (2, 0)), some (.inl x1), some (.inl x2), some (.inl x3), some (.inl x4)] [] σ := by
  unfold fb_Mo_stopBehind_7 at h
  obtain ⟨⟨h1, h2⟩, h⟩ := kg_some h
  refine s_Mo_stopBehind_7 h1 h2 (fun c => ?_) (fun c => ?_)
  · rw [if_pos c] at h
    exact e_Mo_stopBehind_52  h
  · rw [if_neg c] at h
    exact e_Mo_stopBehind_19 hk7 h
def fl_Mo_stopBehind_7  : Nat → Int → Int → Int → Int → kS → kRes
  | 0, _, _, _, _, _ => none
  | n + 1, x1, x2, x3, x4, σ => fb_Mo_stopBehind_7 (fl_Mo_stopBehind_7  n) x1 x2 x3 x4 σ
theorem el_Mo_stopBehind_7 {l : Launch} {G : kG} {yf : Int} {σf : kS}  : ∀ (n : Nat) (x1 : Int) (x2 : Int) (x3 : Int) (x4 : Int)  (σ : kS), fl_Mo_stopBehind_7  n x1 x2 x3 x4 σ = some (some yf, σf) → Rn l G dm_Mo_stopBehind m_Mo_stopBehind (kI fun y' σ' => y' = yf ∧ σ' = σf) 7 [some (.inr (2, 0)), some (.inl x1), some (.inl x2), some (.inl x3), some (.inl x4)] [] σ := by
  intro n
  induction n with
  | zero => intro x1 x2 x3 x4 σ h; simp only [fl_Mo_stopBehind_7] at h; cases h
  | succ n ih => intro x1 x2 x3 x4 σ h; simp only [fl_Mo_stopBehind_7] at h; exact e_Mo_stopBehind_7 ih h
def fb_Mo_stopBehind_0  (x1 : Int) (x2 : Int) (σ : kS) : kRes := fl_Mo_stopBehind_7  3000 x1 x2 x2 (x1 + 1) σ
theorem e_Mo_stopBehind_0 {l : Launch} {G : kG} {yf : Int} {σf : kS}  {x1 : Int} {x2 : Int} {o3 : Option kV} {o4 : Option kV} {σ : kS} (h : fb_Mo_stopBehind_0  x1 x2 σ = some (some yf, σf)) : Rn l G dm_Mo_stopBehind m_Mo_stopBehind (kI fun y' σ' => y' = yf ∧ σ' = σf) 0 [some (.inr (2, 0)), some (.inl x1), some (.inl x2), o3, o4] [] σ := by
  unfold fb_Mo_stopBehind_0 at h
  refine s_Mo_stopBehind_0  ?_
  exact el_Mo_stopBehind_7  _ _ _ _ _ _ h
def f_Mo_stopBehind (x1 : Int) (x2 : Int) (σ : kS) : kRes := fb_Mo_stopBehind_0 x1 x2 σ
theorem E_Mo_stopBehind {l : Launch} {G : kG} {yf : Int} {σf : kS} {x1 : Int} {x2 : Int} {σ : kS} (h : f_Mo_stopBehind x1 x2 σ = some (some yf, σf)) : Call l G dm_Mo_stopBehind y_Mo_stopBehind m_Mo_stopBehind [.inr (2, 0), .inl x1, .inl x2] σ (kI fun y' σ' => y' = yf ∧ σ' = σf) := by
  unfold f_Mo_stopBehind at h
  exact Call.of (by decide +kernel) rfl (Nat.le_of_ble_eq_true rfl) (e_Mo_stopBehind_0 h)
/-! Mo_lead -/
def fb_Mo_lead_298  (x1 : Int) (x2 : Int) (x3 : Int) (x4 : Int) (x5 : Int) (x6 : Int) (σ : kS) : kRes := some (some (-1), σ)
theorem e_Mo_lead_298 {l : Launch} {G : kG} {yf : Int} {σf : kS}  {x1 : Int} {x2 : Int} {x3 : Int} {x4 : Int} {x5 : Int} {x6 : Int}  {σ : kS} (h : fb_Mo_lead_298  x1 x2 x3 x4 x5 x6 σ = some (some yf, σf)) : Rn l G dm_Mo_lead m_Mo_lead (kI fun y' σ' => y' = yf ∧ σ' = σf) 298 [some (.inr (2, 0)), some (.inl x1), some (.inl x2), some (.inl x3), some (.inl x4), some (.inl x5), some (.inl x6)] [] σ := by
  unfold fb_Mo_lead_298 at h
  simp only [Option.some.injEq, Prod.mk.injEq, true_and] at h
  exact s_Mo_lead_298  ⟨_, rfl, h⟩
def fb_Mo_lead_297  (x1 : Int) (x2 : Int) (x3 : Int) (x4 : Int) (x5 : Int) (x6 : Int) (s0 : Int) (σ : kS) : kRes := some (some s0, σ)
theorem e_Mo_lead_297 {l : Launch} {G : kG} {yf : Int} {σf : kS}  {x1 : Int} {x2 : Int} {x3 : Int} {x4 : Int} {x5 : Int} {x6 : Int} {s0 : Int}  {σ : kS} (h : fb_Mo_lead_297  x1 x2 x3 x4 x5 x6 s0 σ = some (some yf, σf)) : Rn l G dm_Mo_lead m_Mo_lead (kI fun y' σ' => y' = yf ∧ σ' = σf) 297 [some (.inr (2, 0)), some (.inl x1), some (.inl x2), some (.inl x3), some (.inl x4), some (.inl x5), some (.inl x6)] [.inl s0] σ := by
  unfold fb_Mo_lead_297 at h
  simp only [Option.some.injEq, Prod.mk.injEq, true_and] at h
  exact s_Mo_lead_297  ⟨_, rfl, h⟩
def fb_Mo_lead_293  (x1 : Int) (x2 : Int) (x3 : Int) (x4 : Int) (x5 : Int) (x6 : Int) (s0 : Int) (σ : kS) : kRes := kbi (f_Mo_stopBefore s0 x3 σ) fun y σ1 => fb_Mo_lead_297  x1 x2 x3 x4 x5 x6 y σ1
theorem e_Mo_lead_293 {l : Launch} {G : kG} {yf : Int} {σf : kS}  {x1 : Int} {x2 : Int} {x3 : Int} {x4 : Int} {x5 : Int} {x6 : Int} {s0 : Int}  {σ : kS} (h : fb_Mo_lead_293  x1 x2 x3 x4 x5 x6 s0 σ = some (some yf, σf)) : Rn l G dm_Mo_lead m_Mo_lead (kI fun y' σ' => y' = yf ∧ σ' = σf) 293 [some (.inr (2, 0)), some (.inl x1), some (.inl x2), some (.inl x3), some (.inl x4), some (.inl x5), some (.inl x6)] [.inl s0, .inr (2, 0)] σ := by
  unfold fb_Mo_lead_293 at h
  obtain ⟨y, σ1, hc, h⟩ := kbi_some h
  refine s_Mo_lead_293  (by decide) (E_Mo_stopBefore hc) (fun y2 σ2 e2 => ?_)
  obtain ⟨rfl, rfl⟩ := e2
  exact e_Mo_lead_297  h
def fb_Mo_lead_285  (x1 : Int) (x2 : Int) (x3 : Int) (x4 : Int) (x5 : Int) (x6 : Int) (σ : kS) : kRes := kbi (f_Mo_place x4 x5 σ) fun y σ1 => fb_Mo_lead_293  x1 x2 x3 x4 x5 x6 y σ1
theorem e_Mo_lead_285 {l : Launch} {G : kG} {yf : Int} {σf : kS}  {x1 : Int} {x2 : Int} {x3 : Int} {x4 : Int} {x5 : Int} {x6 : Int}  {σ : kS} (h : fb_Mo_lead_285  x1 x2 x3 x4 x5 x6 σ = some (some yf, σf)) : Rn l G dm_Mo_lead m_Mo_lead (kI fun y' σ' => y' = yf ∧ σ' = σf) 285 [some (.inr (2, 0)), some (.inl x1), some (.inl x2), some (.inl x3), some (.inl x4), some (.inl x5), some (.inl x6)] [] σ := by
  unfold fb_Mo_lead_285 at h
  obtain ⟨y, σ1, hc, h⟩ := kbi_some h
  refine s_Mo_lead_285  (by decide) (E_Mo_place hc) (fun y2 σ2 e2 => ?_)
  obtain ⟨rfl, rfl⟩ := e2
  exact e_Mo_lead_293  h
def fb_Mo_lead_284  (x1 : Int) (x2 : Int) (x3 : Int) (x4 : Int) (x5 : Int) (x6 : Int) (s0 : Int) (σ : kS) : kRes := some (some s0, σ)
theorem e_Mo_lead_284 {l : Launch} {G : kG} {yf : Int} {σf : kS}  {x1 : Int} {x2 : Int} {x3 : Int} {x4 : Int} {x5 : Int} {x6 : Int} {s0 : Int}  {σ : kS} (h : fb_Mo_lead_284  x1 x2 x3 x4 x5 x6 s0 σ = some (some yf, σf)) : Rn l G dm_Mo_lead m_Mo_lead (kI fun y' σ' => y' = yf ∧ σ' = σf) 284 [some (.inr (2, 0)), some (.inl x1), some (.inl x2), some (.inl x3), some (.inl x4), some (.inl x5), some (.inl x6)] [.inl s0] σ := by
  unfold fb_Mo_lead_284 at h
  simp only [Option.some.injEq, Prod.mk.injEq, true_and] at h
  exact s_Mo_lead_284  ⟨_, rfl, h⟩
def fb_Mo_lead_280  (x1 : Int) (x2 : Int) (x3 : Int) (x4 : Int) (x5 : Int) (x6 : Int) (s0 : Int) (σ : kS) : kRes := kbi (f_Mo_stopBehind s0 x3 σ) fun y σ1 => fb_Mo_lead_284  x1 x2 x3 x4 x5 x6 y σ1
theorem e_Mo_lead_280 {l : Launch} {G : kG} {yf : Int} {σf : kS}  {x1 : Int} {x2 : Int} {x3 : Int} {x4 : Int} {x5 : Int} {x6 : Int} {s0 : Int}  {σ : kS} (h : fb_Mo_lead_280  x1 x2 x3 x4 x5 x6 s0 σ = some (some yf, σf)) : Rn l G dm_Mo_lead m_Mo_lead (kI fun y' σ' => y' = yf ∧ σ' = σf) 280 [some (.inr (2, 0)), some (.inl x1), some (.inl x2), some (.inl x3), some (.inl x4), some (.inl x5), some (.inl x6)] [.inl s0, .inr (2, 0)] σ := by
  unfold fb_Mo_lead_280 at h
  obtain ⟨y, σ1, hc, h⟩ := kbi_some h
  refine s_Mo_lead_280  (by decide) (E_Mo_stopBehind hc) (fun y2 σ2 e2 => ?_)
  obtain ⟨rfl, rfl⟩ := e2
  exact e_Mo_lead_284  h
def fb_Mo_lead_272  (x1 : Int) (x2 : Int) (x3 : Int) (x4 : Int) (x5 : Int) (x6 : Int) (σ : kS) : kRes := kbi (f_Mo_place x4 x5 σ) fun y σ1 => fb_Mo_lead_280  x1 x2 x3 x4 x5 x6 y σ1
theorem e_Mo_lead_272 {l : Launch} {G : kG} {yf : Int} {σf : kS}  {x1 : Int} {x2 : Int} {x3 : Int} {x4 : Int} {x5 : Int} {x6 : Int}  {σ : kS} (h : fb_Mo_lead_272  x1 x2 x3 x4 x5 x6 σ = some (some yf, σf)) : Rn l G dm_Mo_lead m_Mo_lead (kI fun y' σ' => y' = yf ∧ σ' = σf) 272 [some (.inr (2, 0)), some (.inl x1), some (.inl x2), some (.inl x3), some (.inl x4), some (.inl x5), some (.inl x6)] [] σ := by
  unfold fb_Mo_lead_272 at h
  obtain ⟨y, σ1, hc, h⟩ := kbi_some h
  refine s_Mo_lead_272  (by decide) (E_Mo_place hc) (fun y2 σ2 e2 => ?_)
  obtain ⟨rfl, rfl⟩ := e2
  exact e_Mo_lead_280  h
def fb_Mo_lead_271  (x1 : Int) (x2 : Int) (x3 : Int) (x4 : Int) (x5 : Int) (x6 : Int) (s0 : Int) (σ : kS) : kRes := some (some s0, σ)
theorem e_Mo_lead_271 {l : Launch} {G : kG} {yf : Int} {σf : kS}  {x1 : Int} {x2 : Int} {x3 : Int} {x4 : Int} {x5 : Int} {x6 : Int} {s0 : Int}  {σ : kS} (h : fb_Mo_lead_271  x1 x2 x3 x4 x5 x6 s0 σ = some (some yf, σf)) : Rn l G dm_Mo_lead m_Mo_lead (kI fun y' σ' => y' = yf ∧ σ' = σf) 271 [some (.inr (2, 0)), some (.inl x1), some (.inl x2), some (.inl x3), some (.inl x4), some (.inl x5), some (.inl x6)] [.inl s0] σ := by
  unfold fb_Mo_lead_271 at h
  simp only [Option.some.injEq, Prod.mk.injEq, true_and] at h
  exact s_Mo_lead_271  ⟨_, rfl, h⟩
def fb_Mo_lead_265  (x1 : Int) (x2 : Int) (x3 : Int) (x4 : Int) (x5 : Int) (x6 : Int) (s0 : Int) (σ : kS) : kRes := kbi (f_Mo_place (s0 - 1) 0 σ) fun y σ1 => fb_Mo_lead_271  x1 x2 x3 x4 x5 x6 y σ1
theorem e_Mo_lead_265 {l : Launch} {G : kG} {yf : Int} {σf : kS}  {x1 : Int} {x2 : Int} {x3 : Int} {x4 : Int} {x5 : Int} {x6 : Int} {s0 : Int}  {σ : kS} (h : fb_Mo_lead_265  x1 x2 x3 x4 x5 x6 s0 σ = some (some yf, σf)) : Rn l G dm_Mo_lead m_Mo_lead (kI fun y' σ' => y' = yf ∧ σ' = σf) 265 [some (.inr (2, 0)), some (.inl x1), some (.inl x2), some (.inl x3), some (.inl x4), some (.inl x5), some (.inl x6)] [.inl s0] σ := by
  unfold fb_Mo_lead_265 at h
  obtain ⟨y, σ1, hc, h⟩ := kbi_some h
  refine s_Mo_lead_265  (by decide) (E_Mo_place hc) (fun y2 σ2 e2 => ?_)
  obtain ⟨rfl, rfl⟩ := e2
  exact e_Mo_lead_271  h
def fb_Mo_lead_264  (x1 : Int) (x2 : Int) (x3 : Int) (x4 : Int) (x5 : Int) (x6 : Int) (σ : kS) : kRes := fb_Mo_lead_265  x1 x2 x3 x4 x5 x6 x2 σ
theorem e_Mo_lead_264 {l : Launch} {G : kG} {yf : Int} {σf : kS}  {x1 : Int} {x2 : Int} {x3 : Int} {x4 : Int} {x5 : Int} {x6 : Int}  {σ : kS} (h : fb_Mo_lead_264  x1 x2 x3 x4 x5 x6 σ = some (some yf, σf)) : Rn l G dm_Mo_lead m_Mo_lead (kI fun y' σ' => y' = yf ∧ σ' = σf) 264 [some (.inr (2, 0)), some (.inl x1), some (.inl x2), some (.inl x3), some (.inl x4), some (.inl x5), some (.inl x6)] [] σ := by
  unfold fb_Mo_lead_264 at h
  refine s_Mo_lead_264  ?_
  exact e_Mo_lead_265  h
def fb_Mo_lead_257  (x1 : Int) (x2 : Int) (x3 : Int) (x4 : Int) (x5 : Int) (x6 : Int) (σ : kS) : kRes := fb_Mo_lead_265  x1 x2 x3 x4 x5 x6 (σ 2 0 2) σ
theorem e_Mo_lead_257 {l : Launch} {G : kG} {yf : Int} {σf : kS}  {x1 : Int} {x2 : Int} {x3 : Int} {x4 : Int} {x5 : Int} {x6 : Int}  {σ : kS} (h : fb_Mo_lead_257  x1 x2 x3 x4 x5 x6 σ = some (some yf, σf)) : Rn l G dm_Mo_lead m_Mo_lead (kI fun y' σ' => y' = yf ∧ σ' = σf) 257 [some (.inr (2, 0)), some (.inl x1), some (.inl x2), some (.inl x3), some (.inl x4), some (.inl x5), some (.inl x6)] [] σ := by
  unfold fb_Mo_lead_257 at h
  refine s_Mo_lead_257  ?_
  exact e_Mo_lead_265  h
def fb_Mo_lead_253  (x1 : Int) (x2 : Int) (x3 : Int) (x4 : Int) (x5 : Int) (x6 : Int) (σ : kS) : kRes := kg ((-2147483648 ≤ x2 ∧ x2 < 2147483648)) (if x2 = 0 then fb_Mo_lead_257  x1 x2 x3 x4 x5 x6 σ else fb_Mo_lead_264  x1 x2 x3 x4 x5 x6 σ)
theorem e_Mo_lead_253 {l : Launch} {G : kG} {yf : Int} {σf : kS}  {x1 : Int} {x2 : Int} {x3 : Int} {x4 : Int} {x5 : Int} {x6 : Int}  {σ : kS} (h : fb_Mo_lead_253  x1 x2 x3 x4 x5 x6 σ = some (some yf, σf)) : Rn l G dm_Mo_lead m_Mo_lead (kI fun y' σ' => y' = yf ∧ σ' = σf) 253 [some (.inr (2, 0)), some (.inl x1), some (.inl x2), some (.inl x3), some (.inl x4), some (.inl x5), some (.inl x6)] [] σ := by
  unfold fb_Mo_lead_253 at h
  obtain ⟨h1, h⟩ := kg_some h
  refine s_Mo_lead_253 h1 (fun c => ?_) (fun c => ?_)
  · rw [if_neg c] at h
    exact e_Mo_lead_264  h
  · rw [if_pos c] at h
    exact e_Mo_lead_257  h
def fb_Mo_lead_249  (x1 : Int) (x2 : Int) (x3 : Int) (x4 : Int) (x5 : Int) (x6 : Int) (σ : kS) : kRes := fb_Mo_lead_271  x1 x2 x3 x4 x5 x6 (-1) σ
theorem e_Mo_lead_249 {l : Launch} {G : kG} {yf : Int} {σf : kS}  {x1 : Int} {x2 : Int} {x3 : Int} {x4 : Int} {x5 : Int} {x6 : Int}  {σ : kS} (h : fb_Mo_lead_249  x1 x2 x3 x4 x5 x6 σ = some (some yf, σf)) : Rn l G dm_Mo_lead m_Mo_lead (kI fun y' σ' => y' = yf ∧ σ' = σf) 249 [some (.inr (2, 0)), some (.inl x1), some (.inl x2), some (.inl x3), some (.inl x4), some (.inl x5), some (.inl x6)] [] σ := by
  unfold fb_Mo_lead_249 at h
  refine s_Mo_lead_249  ?_
  exact e_Mo_lead_271  h
def fb_Mo_lead_241  (x1 : Int) (x2 : Int) (x3 : Int) (x4 : Int) (x5 : Int) (x6 : Int) (σ : kS) : kRes := kg ((-2147483648 ≤ x2 ∧ x2 < 2147483648) ∧ (-2147483648 ≤ σ 2 0 2 ∧ σ 2 0 2 < 2147483648)) (if x2 ≤ (σ 2 0 2) then fb_Mo_lead_253  x1 x2 x3 x4 x5 x6 σ else fb_Mo_lead_249  x1 x2 x3 x4 x5 x6 σ)
theorem e_Mo_lead_241 {l : Launch} {G : kG} {yf : Int} {σf : kS}  {x1 : Int} {x2 : Int} {x3 : Int} {x4 : Int} {x5 : Int} {x6 : Int}  {σ : kS} (h : fb_Mo_lead_241  x1 x2 x3 x4 x5 x6 σ = some (some yf, σf)) : Rn l G dm_Mo_lead m_Mo_lead (kI fun y' σ' => y' = yf ∧ σ' = σf) 241 [some (.inr (2, 0)), some (.inl x1), some (.inl x2), some (.inl x3), some (.inl x4), some (.inl x5), some (.inl x6)] [] σ := by
  unfold fb_Mo_lead_241 at h
  obtain ⟨⟨h1, h2⟩, h⟩ := kg_some h
  refine s_Mo_lead_241 h1 h2 (fun c => ?_) (fun c => ?_)
  · rw [if_pos c] at h
    exact e_Mo_lead_253  h
  · rw [if_neg c] at h
    exact e_Mo_lead_249  h
def fb_Mo_lead_240  (x1 : Int) (x2 : Int) (x3 : Int) (x4 : Int) (x5 : Int) (x6 : Int) (s0 : Int) (σ : kS) : kRes := some (some s0, σ)
theorem e_Mo_lead_240 {l : Launch} {G : kG} {yf : Int} {σf : kS}  {x1 : Int} {x2 : Int} {x3 : Int} {x4 : Int} {x5 : Int} {x6 : Int} {s0 : Int}  {σ : kS} (h : fb_Mo_lead_240  x1 x2 x3 x4 x5 x6 s0 σ = some (some yf, σf)) : Rn l G dm_Mo_lead m_Mo_lead (kI fun y' σ' => y' = yf ∧ σ' = σf) 240 [some (.inr (2, 0)), some (.inl x1), some (.inl x2), some (.inl x3), some (.inl x4), some (.inl x5), some (.inl x6)] [.inl s0] σ := by
  unfold fb_Mo_lead_240 at h
  simp only [Option.some.injEq, Prod.mk.injEq, true_and] at h
  exact s_Mo_lead_240  ⟨_, rfl, h⟩
def fb_Mo_lead_233  (x1 : Int) (x2 : Int) (x3 : Int) (x4 : Int) (x5 : Int) (x6 : Int) (σ : kS) : kRes := kbi (f_Mo_place x4 x6 σ) fun y σ1 => fb_Mo_lead_240  x1 x2 x3 x4 x5 x6 y σ1
theorem e_Mo_lead_233 {l : Launch} {G : kG} {yf : Int} {σf : kS}  {x1 : Int} {x2 : Int} {x3 : Int} {x4 : Int} {x5 : Int} {x6 : Int}  {σ : kS} (h : fb_Mo_lead_233  x1 x2 x3 x4 x5 x6 σ = some (some yf, σf)) : Rn l G dm_Mo_lead m_Mo_lead (kI fun y' σ' => y' = yf ∧ σ' = σf) 233 [some (.inr (2, 0)), some (.inl x1), some (.inl x2), some (.inl x3), some (.inl x4), some (.inl x5), some (.inl x6)] [] σ := by
  unfold fb_Mo_lead_233 at h
  obtain ⟨y, σ1, hc, h⟩ := kbi_some h
  refine s_Mo_lead_233  (by decide) (E_Mo_place hc) (fun y2 σ2 e2 => ?_)
  obtain ⟨rfl, rfl⟩ := e2
  exact e_Mo_lead_240  h
def fb_Mo_lead_229  (x1 : Int) (x2 : Int) (x3 : Int) (x4 : Int) (x5 : Int) (x6 : Int) (σ : kS) : kRes := fb_Mo_lead_240  x1 x2 x3 x4 x5 x6 (-1) σ
theorem e_Mo_lead_229 {l : Launch} {G : kG} {yf : Int} {σf : kS}  {x1 : Int} {x2 : Int} {x3 : Int} {x4 : Int} {x5 : Int} {x6 : Int}  {σ : kS} (h : fb_Mo_lead_229  x1 x2 x3 x4 x5 x6 σ = some (some yf, σf)) : Rn l G dm_Mo_lead m_Mo_lead (kI fun y' σ' => y' = yf ∧ σ' = σf) 229 [some (.inr (2, 0)), some (.inl x1), some (.inl x2), some (.inl x3), some (.inl x4), some (.inl x5), some (.inl x6)] [] σ := by
  unfold fb_Mo_lead_229 at h
  refine s_Mo_lead_229  ?_
  exact e_Mo_lead_240  h
def fb_Mo_lead_225  (x1 : Int) (x2 : Int) (x3 : Int) (x4 : Int) (x5 : Int) (x6 : Int) (σ : kS) : kRes := kg ((-2147483648 ≤ x2 ∧ x2 < 2147483648)) (if x2 ≤ 0 then fb_Mo_lead_233  x1 x2 x3 x4 x5 x6 σ else fb_Mo_lead_229  x1 x2 x3 x4 x5 x6 σ)
theorem e_Mo_lead_225 {l : Launch} {G : kG} {yf : Int} {σf : kS}  {x1 : Int} {x2 : Int} {x3 : Int} {x4 : Int} {x5 : Int} {x6 : Int}  {σ : kS} (h : fb_Mo_lead_225  x1 x2 x3 x4 x5 x6 σ = some (some yf, σf)) : Rn l G dm_Mo_lead m_Mo_lead (kI fun y' σ' => y' = yf ∧ σ' = σf) 225 [some (.inr (2, 0)), some (.inl x1), some (.inl x2), some (.inl x3), some (.inl x4), some (.inl x5), some (.inl x6)] [] σ := by
  unfold fb_Mo_lead_225 at h
  obtain ⟨h1, h⟩ := kg_some h
  refine s_Mo_lead_225 h1 (fun c => ?_) (fun c => ?_)
  · rw [if_pos c] at h
    exact e_Mo_lead_233  h
  · rw [if_neg c] at h
    exact e_Mo_lead_229  h
def fb_Mo_lead_224  (x1 : Int) (x2 : Int) (x3 : Int) (x4 : Int) (x5 : Int) (x6 : Int) (s0 : Int) (σ : kS) : kRes := some (some s0, σ)
theorem e_Mo_lead_224 {l : Launch} {G : kG} {yf : Int} {σf : kS}  {x1 : Int} {x2 : Int} {x3 : Int} {x4 : Int} {x5 : Int} {x6 : Int} {s0 : Int}  {σ : kS} (h : fb_Mo_lead_224  x1 x2 x3 x4 x5 x6 s0 σ = some (some yf, σf)) : Rn l G dm_Mo_lead m_Mo_lead (kI fun y' σ' => y' = yf ∧ σ' = σf) 224 [some (.inr (2, 0)), some (.inl x1), some (.inl x2), some (.inl x3), some (.inl x4), some (.inl x5), some (.inl x6)] [.inl s0] σ := by
  unfold fb_Mo_lead_224 at h
  simp only [Option.some.injEq, Prod.mk.injEq, true_and] at h
  exact s_Mo_lead_224  ⟨_, rfl, h⟩
def fb_Mo_lead_218  (x1 : Int) (x2 : Int) (x3 : Int) (x4 : Int) (x5 : Int) (x6 : Int) (σ : kS) : kRes := kbi (f_Mo_place x4 0 σ) fun y σ1 => fb_Mo_lead_224  x1 x2 x3 x4 x5 x6 y σ1
theorem e_Mo_lead_218 {l : Launch} {G : kG} {yf : Int} {σf : kS}  {x1 : Int} {x2 : Int} {x3 : Int} {x4 : Int} {x5 : Int} {x6 : Int}  {σ : kS} (h : fb_Mo_lead_218  x1 x2 x3 x4 x5 x6 σ = some (some yf, σf)) : Rn l G dm_Mo_lead m_Mo_lead (kI fun y' σ' => y' = yf ∧ σ' = σf) 218 [some (.inr (2, 0)), some (.inl x1), some (.inl x2), some (.inl x3), some (.inl x4), some (.inl x5), some (.inl x6)] [] σ := by
  unfold fb_Mo_lead_218 at h
  obtain ⟨y, σ1, hc, h⟩ := kbi_some h
  refine s_Mo_lead_218  (by decide) (E_Mo_place hc) (fun y2 σ2 e2 => ?_)
  obtain ⟨rfl, rfl⟩ := e2
  exact e_Mo_lead_224  h
def fb_Mo_lead_214  (x1 : Int) (x2 : Int) (x3 : Int) (x4 : Int) (x5 : Int) (x6 : Int) (σ : kS) : kRes := fb_Mo_lead_224  x1 x2 x3 x4 x5 x6 (-1) σ
theorem e_Mo_lead_214 {l : Launch} {G : kG} {yf : Int} {σf : kS}  {x1 : Int} {x2 : Int} {x3 : Int} {x4 : Int} {x5 : Int} {x6 : Int}  {σ : kS} (h : fb_Mo_lead_214  x1 x2 x3 x4 x5 x6 σ = some (some yf, σf)) : Rn l G dm_Mo_lead m_Mo_lead (kI fun y' σ' => y' = yf ∧ σ' = σf) 214 [some (.inr (2, 0)), some (.inl x1), some (.inl x2), some (.inl x3), some (.inl x4), some (.inl x5), some (.inl x6)] [] σ := by
  unfold fb_Mo_lead_214 at h
  refine s_Mo_lead_214  ?_
  exact e_Mo_lead_224  h
def fb_Mo_lead_210  (x1 : Int) (x2 : Int) (x3 : Int) (x4 : Int) (x5 : Int) (x6 : Int) (σ : kS) : kRes := kg ((-2147483648 ≤ x2 ∧ x2 < 2147483648)) (if x2 ≤ 0 then fb_Mo_lead_218  x1 x2 x3 x4 x5 x6 σ else fb_Mo_lead_214  x1 x2 x3 x4 x5 x6 σ)
theorem e_Mo_lead_210 {l : Launch} {G : kG} {yf : Int} {σf : kS}  {x1 : Int} {x2 : Int} {x3 : Int} {x4 : Int} {x5 : Int} {x6 : Int}  {σ : kS} (h : fb_Mo_lead_210  x1 x2 x3 x4 x5 x6 σ = some (some yf, σf)) : Rn l G dm_Mo_lead m_Mo_lead (kI fun y' σ' => y' = yf ∧ σ' = σf) 210 [some (.inr (2, 0)), some (.inl x1), some (.inl x2), some (.inl x3), some (.inl x4), some (.inl x5), some (.inl x6)] [] σ := by
  unfold fb_Mo_lead_210 at h
  obtain ⟨h1, h⟩ := kg_some h
  refine s_Mo_lead_210 h1 (fun c => ?_) (fun c => ?_)
  · rw [if_pos c] at h
    exact e_Mo_lead_218  h
  · rw [if_neg c] at h
    exact e_Mo_lead_214  h
def fb_Mo_lead_209  (x1 : Int) (x2 : Int) (x3 : Int) (x4 : Int) (x5 : Int) (x6 : Int) (s0 : Int) (σ : kS) : kRes := some (some s0, σ)
theorem e_Mo_lead_209 {l : Launch} {G : kG} {yf : Int} {σf : kS}  {x1 : Int} {x2 : Int} {x3 : Int} {x4 : Int} {x5 : Int} {x6 : Int} {s0 : Int}  {σ : kS} (h : fb_Mo_lead_209  x1 x2 x3 x4 x5 x6 s0 σ = some (some yf, σf)) : Rn l G dm_Mo_lead m_Mo_lead (kI fun y' σ' => y' = yf ∧ σ' = σf) 209 [some (.inr (2, 0)), some (.inl x1), some (.inl x2), some (.inl x3), some (.inl x4), some (.inl x5), some (.inl x6)] [.inl s0] σ := by
  unfold fb_Mo_lead_209 at h
  simp only [Option.some.injEq, Prod.mk.injEq, true_and] at h
  exact s_Mo_lead_209  ⟨_, rfl, h⟩
def fb_Mo_lead_200  (x1 : Int) (x2 : Int) (x3 : Int) (x4 : Int) (x5 : Int) (x6 : Int) (σ : kS) : kRes := kbi (f_Mo_place (x4 - x3) x5 σ) fun y σ1 => fb_Mo_lead_209  x1 x2 x3 x4 x5 x6 y σ1
theorem e_Mo_lead_200 {l : Launch} {G : kG} {yf : Int} {σf : kS}  {x1 : Int} {x2 : Int} {x3 : Int} {x4 : Int} {x5 : Int} {x6 : Int}  {σ : kS} (h : fb_Mo_lead_200  x1 x2 x3 x4 x5 x6 σ = some (some yf, σf)) : Rn l G dm_Mo_lead m_Mo_lead (kI fun y' σ' => y' = yf ∧ σ' = σf) 200 [some (.inr (2, 0)), some (.inl x1), some (.inl x2), some (.inl x3), some (.inl x4), some (.inl x5), some (.inl x6)] [] σ := by
  unfold fb_Mo_lead_200 at h
  obtain ⟨y, σ1, hc, h⟩ := kbi_some h
  refine s_Mo_lead_200  (by decide) (E_Mo_place hc) (fun y2 σ2 e2 => ?_)
  obtain ⟨rfl, rfl⟩ := e2
  exact e_Mo_lead_209  h
def fb_Mo_lead_196  (x1 : Int) (x2 : Int) (x3 : Int) (x4 : Int) (x5 : Int) (x6 : Int) (σ : kS) : kRes := fb_Mo_lead_209  x1 x2 x3 x4 x5 x6 (-1) σ
theorem e_Mo_lead_196 {l : Launch} {G : kG} {yf : Int} {σf : kS}  {x1 : Int} {x2 : Int} {x3 : Int} {x4 : Int} {x5 : Int} {x6 : Int}  {σ : kS} (h : fb_Mo_lead_196  x1 x2 x3 x4 x5 x6 σ = some (some yf, σf)) : Rn l G dm_Mo_lead m_Mo_lead (kI fun y' σ' => y' = yf ∧ σ' = σf) 196 [some (.inr (2, 0)), some (.inl x1), some (.inl x2), some (.inl x3), some (.inl x4), some (.inl x5), some (.inl x6)] [] σ := by
  unfold fb_Mo_lead_196 at h
  refine s_Mo_lead_196  ?_
  exact e_Mo_lead_209  h
def fb_Mo_lead_190  (x1 : Int) (x2 : Int) (x3 : Int) (x4 : Int) (x5 : Int) (x6 : Int) (σ : kS) : kRes := kg ((-2147483648 ≤ x4 ∧ x4 < 2147483648) ∧ (-2147483648 ≤ x3 ∧ x3 < 2147483648)) (if x3 ≤ x4 then fb_Mo_lead_200  x1 x2 x3 x4 x5 x6 σ else fb_Mo_lead_196  x1 x2 x3 x4 x5 x6 σ)
theorem e_Mo_lead_190 {l : Launch} {G : kG} {yf : Int} {σf : kS}  {x1 : Int} {x2 : Int} {x3 : Int} {x4 : Int} {x5 : Int} {x6 : Int}  {σ : kS} (h : fb_Mo_lead_190  x1 x2 x3 x4 x5 x6 σ = some (some yf, σf)) : Rn l G dm_Mo_lead m_Mo_lead (kI fun y' σ' => y' = yf ∧ σ' = σf) 190 [some (.inr (2, 0)), some (.inl x1), some (.inl x2), some (.inl x3), some (.inl x4), some (.inl x5), some (.inl x6)] [] σ := by
  unfold fb_Mo_lead_190 at h
  obtain ⟨⟨h1, h2⟩, h⟩ := kg_some h
  refine s_Mo_lead_190 h1 h2 (fun c => ?_) (fun c => ?_)
  · rw [if_pos c] at h
    exact e_Mo_lead_200  h
  · rw [if_neg c] at h
    exact e_Mo_lead_196  h
def fb_Mo_lead_189  (x1 : Int) (x2 : Int) (x3 : Int) (x4 : Int) (x5 : Int) (x6 : Int) (s0 : Int) (σ : kS) : kRes := some (some s0, σ)
theorem e_Mo_lead_189 {l : Launch} {G : kG} {yf : Int} {σf : kS}  {x1 : Int} {x2 : Int} {x3 : Int} {x4 : Int} {x5 : Int} {x6 : Int} {s0 : Int}  {σ : kS} (h : fb_Mo_lead_189  x1 x2 x3 x4 x5 x6 s0 σ = some (some yf, σf)) : Rn l G dm_Mo_lead m_Mo_lead (kI fun y' σ' => y' = yf ∧ σ' = σf) 189 [some (.inr (2, 0)), some (.inl x1), some (.inl x2), some (.inl x3), some (.inl x4), some (.inl x5), some (.inl x6)] [.inl s0] σ := by
  unfold fb_Mo_lead_189 at h
  simp only [Option.some.injEq, Prod.mk.injEq, true_and] at h
  exact s_Mo_lead_189  ⟨_, rfl, h⟩
def fb_Mo_lead_180  (x1 : Int) (x2 : Int) (x3 : Int) (x4 : Int) (x5 : Int) (x6 : Int) (σ : kS) : kRes := kbi (f_Mo_place (x4 + x3) x5 σ) fun y σ1 => fb_Mo_lead_189  x1 x2 x3 x4 x5 x6 y σ1
theorem e_Mo_lead_180 {l : Launch} {G : kG} {yf : Int} {σf : kS}  {x1 : Int} {x2 : Int} {x3 : Int} {x4 : Int} {x5 : Int} {x6 : Int}  {σ : kS} (h : fb_Mo_lead_180  x1 x2 x3 x4 x5 x6 σ = some (some yf, σf)) : Rn l G dm_Mo_lead m_Mo_lead (kI fun y' σ' => y' = yf ∧ σ' = σf) 180 [some (.inr (2, 0)), some (.inl x1), some (.inl x2), some (.inl x3), some (.inl x4), some (.inl x5), some (.inl x6)] [] σ := by
  unfold fb_Mo_lead_180 at h
  obtain ⟨y, σ1, hc, h⟩ := kbi_some h
  refine s_Mo_lead_180  (by decide) (E_Mo_place hc) (fun y2 σ2 e2 => ?_)
  obtain ⟨rfl, rfl⟩ := e2
  exact e_Mo_lead_189  h
def fb_Mo_lead_176  (x1 : Int) (x2 : Int) (x3 : Int) (x4 : Int) (x5 : Int) (x6 : Int) (σ : kS) : kRes := fb_Mo_lead_189  x1 x2 x3 x4 x5 x6 (-1) σ
theorem e_Mo_lead_176 {l : Launch} {G : kG} {yf : Int} {σf : kS}  {x1 : Int} {x2 : Int} {x3 : Int} {x4 : Int} {x5 : Int} {x6 : Int}  {σ : kS} (h : fb_Mo_lead_176  x1 x2 x3 x4 x5 x6 σ = some (some yf, σf)) : Rn l G dm_Mo_lead m_Mo_lead (kI fun y' σ' => y' = yf ∧ σ' = σf) 176 [some (.inr (2, 0)), some (.inl x1), some (.inl x2), some (.inl x3), some (.inl x4), some (.inl x5), some (.inl x6)] [] σ := by
  unfold fb_Mo_lead_176 at h
  refine s_Mo_lead_176  ?_
  exact e_Mo_lead_189  h
def fb_Mo_lead_165  (x1 : Int) (x2 : Int) (x3 : Int) (x4 : Int) (x5 : Int) (x6 : Int) (σ : kS) : kRes := kg ((-2147483648 ≤ x4 + x3 ∧ x4 + x3 < 2147483648) ∧ (-2147483648 ≤ σ 2 0 2 ∧ σ 2 0 2 < 2147483648)) (if (x4 + x3) < (σ 2 0 2) then fb_Mo_lead_180  x1 x2 x3 x4 x5 x6 σ else fb_Mo_lead_176  x1 x2 x3 x4 x5 x6 σ)
theorem e_Mo_lead_165 {l : Launch} {G : kG} {yf : Int} {σf : kS}  {x1 : Int} {x2 : Int} {x3 : Int} {x4 : Int} {x5 : Int} {x6 : Int}  {σ : kS} (h : fb_Mo_lead_165  x1 x2 x3 x4 x5 x6 σ = some (some yf, σf)) : Rn l G dm_Mo_lead m_Mo_lead (kI fun y' σ' => y' = yf ∧ σ' = σf) 165 [some (.inr (2, 0)), some (.inl x1), some (.inl x2), some (.inl x3), some (.inl x4), some (.inl x5), some (.inl x6)] [] σ := by
  unfold fb_Mo_lead_165 at h
  obtain ⟨⟨h1, h2⟩, h⟩ := kg_some h
  refine s_Mo_lead_165 h1 h2 (fun c => ?_) (fun c => ?_)
  · rw [if_pos c] at h
    exact e_Mo_lead_180  h
  · rw [if_neg c] at h
    exact e_Mo_lead_176  h
def fb_Mo_lead_164  (x1 : Int) (x2 : Int) (x3 : Int) (x4 : Int) (x5 : Int) (x6 : Int) (s0 : Int) (σ : kS) : kRes := some (some s0, σ)
theorem e_Mo_lead_164 {l : Launch} {G : kG} {yf : Int} {σf : kS}  {x1 : Int} {x2 : Int} {x3 : Int} {x4 : Int} {x5 : Int} {x6 : Int} {s0 : Int}  {σ : kS} (h : fb_Mo_lead_164  x1 x2 x3 x4 x5 x6 s0 σ = some (some yf, σf)) : Rn l G dm_Mo_lead m_Mo_lead (kI fun y' σ' => y' = yf ∧ σ' = σf) 164 [some (.inr (2, 0)), some (.inl x1), some (.inl x2), some (.inl x3), some (.inl x4), some (.inl x5), some (.inl x6)] [.inl s0] σ := by
  unfold fb_Mo_lead_164 at h
  simp only [Option.some.injEq, Prod.mk.injEq, true_and] at h
  exact s_Mo_lead_164  ⟨_, rfl, h⟩
def fb_Mo_lead_150  (x1 : Int) (x2 : Int) (x3 : Int) (x4 : Int) (x5 : Int) (x6 : Int) (σ : kS) : kRes := kg ((-2147483648 ≤ x6 ∧ x6 < 2147483648) ∧ (-2147483648 ≤ x5 + x3 ∧ x5 + x3 < 2147483648)) (kbi (f_Mo_place x4 (min x6 (x5 + x3)) σ) fun y σ1 => fb_Mo_lead_164  x1 x2 x3 x4 x5 x6 y σ1)
theorem e_Mo_lead_150 {l : Launch} {G : kG} {yf : Int} {σf : kS}  {x1 : Int} {x2 : Int} {x3 : Int} {x4 : Int} {x5 : Int} {x6 : Int}  {σ : kS} (h : fb_Mo_lead_150  x1 x2 x3 x4 x5 x6 σ = some (some yf, σf)) : Rn l G dm_Mo_lead m_Mo_lead (kI fun y' σ' => y' = yf ∧ σ' = σf) 150 [some (.inr (2, 0)), some (.inl x1), some (.inl x2), some (.inl x3), some (.inl x4), some (.inl x5), some (.inl x6)] [] σ := by
  unfold fb_Mo_lead_150 at h
  obtain ⟨⟨h1, h2⟩, h⟩ := kg_some h
  obtain ⟨y, σ1, hc, h⟩ := kbi_some h
  refine s_Mo_lead_150 h1 h2 (by decide) (by decide) (E_Mo_place hc) (fun y2 σ2 e2 => ?_)
  obtain ⟨rfl, rfl⟩ := e2
  exact e_Mo_lead_164  h
def fb_Mo_lead_146  (x1 : Int) (x2 : Int) (x3 : Int) (x4 : Int) (x5 : Int) (x6 : Int) (σ : kS) : kRes := fb_Mo_lead_164  x1 x2 x3 x4 x5 x6 (-1) σ
theorem e_Mo_lead_146 {l : Launch} {G : kG} {yf : Int} {σf : kS}  {x1 : Int} {x2 : Int} {x3 : Int} {x4 : Int} {x5 : Int} {x6 : Int}  {σ : kS} (h : fb_Mo_lead_146  x1 x2 x3 x4 x5 x6 σ = some (some yf, σf)) : Rn l G dm_Mo_lead m_Mo_lead (kI fun y' σ' => y' = yf ∧ σ' = σf) 146 [some (.inr (2, 0)), some (.inl x1), some (.inl x2), some (.inl x3), some (.inl x4), some (.inl x5), some (.inl x6)] [] σ := by
  unfold fb_Mo_lead_146 at h
  refine s_Mo_lead_146  ?_
  exact e_Mo_lead_164  h
def fb_Mo_lead_139  (x1 : Int) (x2 : Int) (x3 : Int) (x4 : Int) (x5 : Int) (x6 : Int) (σ : kS) : kRes := kg ((-2147483648 ≤ x5 ∧ x5 < 2147483648) ∧ (-2147483648 ≤ x6 ∧ x6 < 2147483648)) (if x5 < x6 then fb_Mo_lead_150  x1 x2 x3 x4 x5 x6 σ else fb_Mo_lead_146  x1 x2 x3 x4 x5 x6 σ)
theorem e_Mo_lead_139 {l : Launch} {G : kG} {yf : Int} {σf : kS}  {x1 : Int} {x2 : Int} {x3 : Int} {x4 : Int} {x5 : Int} {x6 : Int}  {σ : kS} (h : fb_Mo_lead_139  x1 x2 x3 x4 x5 x6 σ = some (some yf, σf)) : Rn l G dm_Mo_lead m_Mo_lead (kI fun y' σ' => y' = yf ∧ σ' = σf) 139 [some (.inr (2, 0)), some (.inl x1), some (.inl x2), some (.inl x3), some (.inl x4), some (.inl x5), some (.inl x6)] [] σ := by
  unfold fb_Mo_lead_139 at h
  obtain ⟨⟨h1, h2⟩, h⟩ := kg_some h
  refine s_Mo_lead_139 h1 h2 (fun c => ?_) (fun c => ?_)
  · rw [if_pos c] at h
    exact e_Mo_lead_150  h
  · rw [if_neg c] at h
    exact e_Mo_lead_146  h
def fb_Mo_lead_138  (x1 : Int) (x2 : Int) (x3 : Int) (x4 : Int) (x5 : Int) (x6 : Int) (s0 : Int) (σ : kS) : kRes := some (some s0, σ)
theorem e_Mo_lead_138 {l : Launch} {G : kG} {yf : Int} {σf : kS}  {x1 : Int} {x2 : Int} {x3 : Int} {x4 : Int} {x5 : Int} {x6 : Int} {s0 : Int}  {σ : kS} (h : fb_Mo_lead_138  x1 x2 x3 x4 x5 x6 s0 σ = some (some yf, σf)) : Rn l G dm_Mo_lead m_Mo_lead (kI fun y' σ' => y' = yf ∧ σ' = σf) 138 [some (.inr (2, 0)), some (.inl x1), some (.inl x2), some (.inl x3), some (.inl x4), some (.inl x5), some (.inl x6)] [.inl s0] σ := by
  unfold fb_Mo_lead_138 at h
  simp only [Option.some.injEq, Prod.mk.injEq, true_and] at h
  exact s_Mo_lead_138  ⟨_, rfl, h⟩
def fb_Mo_lead_125  (x1 : Int) (x2 : Int) (x3 : Int) (x4 : Int) (x5 : Int) (x6 : Int) (σ : kS) : kRes := kg ((-2147483648 ≤ x5 - x3 ∧ x5 - x3 < 2147483648)) (kbi (f_Mo_place x4 (max 0 (x5 - x3)) σ) fun y σ1 => fb_Mo_lead_138  x1 x2 x3 x4 x5 x6 y σ1)
theorem e_Mo_lead_125 {l : Launch} {G : kG} {yf : Int} {σf : kS}  {x1 : Int} {x2 : Int} {x3 : Int} {x4 : Int} {x5 : Int} {x6 : Int}  {σ : kS} (h : fb_Mo_lead_125  x1 x2 x3 x4 x5 x6 σ = some (some yf, σf)) : Rn l G dm_Mo_lead m_Mo_lead (kI fun y' σ' => y' = yf ∧ σ' = σf) 125 [some (.inr (2, 0)), some (.inl x1), some (.inl x2), some (.inl x3), some (.inl x4), some (.inl x5), some (.inl x6)] [] σ := by
  unfold fb_Mo_lead_125 at h
  obtain ⟨h1, h⟩ := kg_some h
  obtain ⟨y, σ1, hc, h⟩ := kbi_some h
  refine s_Mo_lead_125 h1 (by decide) (by decide) (E_Mo_place hc) (fun y2 σ2 e2 => ?_)
  obtain ⟨rfl, rfl⟩ := e2
  exact e_Mo_lead_138  h
def fb_Mo_lead_121  (x1 : Int) (x2 : Int) (x3 : Int) (x4 : Int) (x5 : Int) (x6 : Int) (σ : kS) : kRes := fb_Mo_lead_138  x1 x2 x3 x4 x5 x6 (-1) σ
theorem e_Mo_lead_121 {l : Launch} {G : kG} {yf : Int} {σf : kS}  {x1 : Int} {x2 : Int} {x3 : Int} {x4 : Int} {x5 : Int} {x6 : Int}  {σ : kS} (h : fb_Mo_lead_121  x1 x2 x3 x4 x5 x6 σ = some (some yf, σf)) : Rn l G dm_Mo_lead m_Mo_lead (kI fun y' σ' => y' = yf ∧ σ' = σf) 121 [some (.inr (2, 0)), some (.inl x1), some (.inl x2), some (.inl x3), some (.inl x4), some (.inl x5), some (.inl x6)] [] σ := by
  unfold fb_Mo_lead_121 at h
  refine s_Mo_lead_121  ?_
  exact e_Mo_lead_138  h
def fb_Mo_lead_116  (x1 : Int) (x2 : Int) (x3 : Int) (x4 : Int) (x5 : Int) (x6 : Int) (σ : kS) : kRes := kg ((-2147483648 ≤ x5 ∧ x5 < 2147483648)) (if x5 = 0 then fb_Mo_lead_121  x1 x2 x3 x4 x5 x6 σ else fb_Mo_lead_125  x1 x2 x3 x4 x5 x6 σ)
theorem e_Mo_lead_116 {l : Launch} {G : kG} {yf : Int} {σf : kS}  {x1 : Int} {x2 : Int} {x3 : Int} {x4 : Int} {x5 : Int} {x6 : Int}  {σ : kS} (h : fb_Mo_lead_116  x1 x2 x3 x4 x5 x6 σ = some (some yf, σf)) : Rn l G dm_Mo_lead m_Mo_lead (kI fun y' σ' => y' = yf ∧ σ' = σf) 116 [some (.inr (2, 0)), some (.inl x1), some (.inl x2), some (.inl x3), some (.inl x4), some (.inl x5), some (.inl x6)] [] σ := by
  unfold fb_Mo_lead_116 at h
  obtain ⟨h1, h⟩ := kg_some h
  refine s_Mo_lead_116 h1 (fun c => ?_) (fun c => ?_)
  · rw [if_neg c] at h
    exact e_Mo_lead_125  h
  · rw [if_pos c] at h
    exact e_Mo_lead_121  h
def fb_Mo_lead_25  (x1 : Int) (x2 : Int) (x3 : Int) (x4 : Int) (x5 : Int) (s0 : Int) (s1 : Int) (σ : kS) : kRes := kg ((-2147483648 ≤ s1 ∧ s1 < 2147483648) ∧ (-2147483648 ≤ s0 - 1 ∧ s0 - 1 < 2147483648) ∧ (-2147483648 ≤ x1 ∧ x1 < 2147483648)) (if x1 = 36 then fb_Mo_lead_225  x1 x2 x3 x4 x5 (max s1 (s0 - 1)) σ else if x1 = 48 then fb_Mo_lead_210  x1 x2 x3 x4 x5 (max s1 (s0 - 1)) σ else if x1 = 71 then fb_Mo_lead_241  x1 x2 x3 x4 x5 (max s1 (s0 - 1)) σ else if x1 = 98 then fb_Mo_lead_285  x1 x2 x3 x4 x5 (max s1 (s0 - 1)) σ else if x1 = 104 then fb_Mo_lead_116  x1 x2 x3 x4 x5 (max s1 (s0 - 1)) σ else if x1 = 106 then fb_Mo_lead_165  x1 x2 x3 x4 x5 (max s1 (s0 - 1)) σ else if x1 = 107 then fb_Mo_lead_190  x1 x2 x3 x4 x5 (max s1 (s0 - 1)) σ else if x1 = 108 then fb_Mo_lead_139  x1 x2 x3 x4 x5 (max s1 (s0 - 1)) σ else if x1 = 119 then fb_Mo_lead_272  x1 x2 x3 x4 x5 (max s1 (s0 - 1)) σ else fb_Mo_lead_298  x1 x2 x3 x4 x5 (max s1 (s0 - 1)) σ)
theorem e_Mo_lead_25 {l : Launch} {G : kG} {yf : Int} {σf : kS}  {x1 : Int} {x2 : Int} {x3 : Int} {x4 : Int} {x5 : Int} {s0 : Int} {s1 : Int} {o6 : Option kV} {σ : kS} (h : fb_Mo_lead_25  x1 x2 x3 x4 x5 s0 s1 σ = some (some yf, σf)) : Rn l G dm_Mo_lead m_Mo_lead (kI fun y' σ' => y' = yf ∧ σ' = σf) 25 [some (.inr (2, 0)), some (.inl x1), some (.inl x2), some (.inl x3), some (.inl x4), some (.inl x5), o6] [.inl s0, .inl s1] σ := by
  unfold fb_Mo_lead_25 at h
  obtain ⟨⟨h1, h2, h4⟩, h⟩ := kg_some h
  refine s_Mo_lead_25 h1 h2 (by decide) h4 (fun c => ?_) (fun c => ?_) (fun c => ?_) (fun c => ?_) (fun c => ?_) (fun c => ?_) (fun c => ?_) (fun c => ?_) (fun c => ?_) (fun c0 c1 c2 c3 c4 c5 c6 c7 c8 => ?_)
  · rw [if_pos c] at h
    exact e_Mo_lead_225  h
  · rw [if_neg (show ¬ x1 = 36 by omega), if_pos c] at h
    exact e_Mo_lead_210  h
  · rw [if_neg (show ¬ x1 = 36 by omega), if_neg (show ¬ x1 = 48 by omega), if_pos c] at h
    exact e_Mo_lead_241  h
  · rw [if_neg (show ¬ x1 = 36 by omega), if_neg (show ¬ x1 = 48 by omega), if_neg (show ¬ x1 = 71 by omega), if_pos c] at h
    exact e_Mo_lead_285  h
  · rw [if_neg (show ¬ x1 = 36 by omega), if_neg (show ¬ x1 = 48 by omega), if_neg (show ¬ x1 = 71 by omega), if_neg (show ¬ x1 = 98 by omega), if_pos c] at h
    exact e_Mo_lead_116  h
  · rw [if_neg (show ¬ x1 = 36 by omega), if_neg (show ¬ x1 = 48 by omega), if_neg (show ¬ x1 = 71 by omega), if_neg (show ¬ x1 = 98 by omega), if_neg (show ¬ x1 = 104 by omega), if_pos c] at h
    exact e_Mo_lead_165  h
  · rw [if_neg (show ¬ x1 = 36 by omega), if_neg (show ¬ x1 = 48 by omega), if_neg (show ¬ x1 = 71 by omega), if_neg (show ¬ x1 = 98 by omega), if_neg (show ¬ x1 = 104 by omega), if_neg (show ¬ x1 = 106 by omega), if_pos c] at h
    exact e_Mo_lead_190  h
  · rw [if_neg (show ¬ x1 = 36 by omega), if_neg (show ¬ x1 = 48 by omega), if_neg (show ¬ x1 = 71 by omega), if_neg (show ¬ x1 = 98 by omega), if_neg (show ¬ x1 = 104 by omega), if_neg (show ¬ x1 = 106 by omega), if_neg (show ¬ x1 = 107 by omega), if_pos c] at h
    exact e_Mo_lead_139  h
  · rw [if_neg (show ¬ x1 = 36 by omega), if_neg (show ¬ x1 = 48 by omega), if_neg (show ¬ x1 = 71 by omega), if_neg (show ¬ x1 = 98 by omega), if_neg (show ¬ x1 = 104 by omega), if_neg (show ¬ x1 = 106 by omega), if_neg (show ¬ x1 = 107 by omega), if_neg (show ¬ x1 = 108 by omega), if_pos c] at h
    exact e_Mo_lead_272  h
  · rw [if_neg c0, if_neg c1, if_neg c2, if_neg c3, if_neg c4, if_neg c5, if_neg c6, if_neg c7, if_neg c8] at h
    exact e_Mo_lead_298  h
def fb_Mo_lead_0  (x1 : Int) (x2 : Int) (σ : kS) : kRes := kg ((-2147483648 ≤ x2 ∧ x2 < 2147483648)) (kbi (f_Te_sizeOf (σ 2 0 3) 0 σ) fun y σ1 => fb_Mo_lead_25  x1 x2 (max 1 x2) (σ 2 0 3) (σ 2 0 4) y 0 σ1)
theorem e_Mo_lead_0 {l : Launch} {G : kG} {yf : Int} {σf : kS}  {x1 : Int} {x2 : Int} {o3 : Option kV} {o4 : Option kV} {o5 : Option kV} {o6 : Option kV} {σ : kS} (h : fb_Mo_lead_0  x1 x2 σ = some (some yf, σf)) : Rn l G dm_Mo_lead m_Mo_lead (kI fun y' σ' => y' = yf ∧ σ' = σf) 0 [some (.inr (2, 0)), some (.inl x1), some (.inl x2), o3, o4, o5, o6] [] σ := by
  unfold fb_Mo_lead_0 at h
  obtain ⟨h1, h⟩ := kg_some h
  obtain ⟨y, σ1, hc, h⟩ := kbi_some h
  refine s_Mo_lead_0 h1 (by decide) (by decide) (E_Te_sizeOf hc) (fun y2 σ2 e2 => ?_)
  obtain ⟨rfl, rfl⟩ := e2
  exact e_Mo_lead_25  h
def f_Mo_lead (x1 : Int) (x2 : Int) (σ : kS) : kRes := fb_Mo_lead_0 x1 x2 σ
theorem E_Mo_lead {l : Launch} {G : kG} {yf : Int} {σf : kS} {x1 : Int} {x2 : Int} {σ : kS} (h : f_Mo_lead x1 x2 σ = some (some yf, σf)) : Call l G dm_Mo_lead y_Mo_lead m_Mo_lead [.inr (2, 0), .inl x1, .inl x2] σ (kI fun y' σ' => y' = yf ∧ σ' = σf) := by
  unfold f_Mo_lead at h
  exact Call.of (by decide +kernel) rfl (Nat.le_of_ble_eq_true rfl) (e_Mo_lead_0 h)
/-! Kb_command -/
def fb_Kb_command_186  (x1 : Int) (x2 : Int) (x3 : Int) (σ : kS) : kRes := kg ((x2 = 0 ∨ x2 = 1)) (some (some x2, σ))
theorem e_Kb_command_186 {l : Launch} {G : kG} {yf : Int} {σf : kS}  {x1 : Int} {x2 : Int} {x3 : Int}  {σ : kS} (h : fb_Kb_command_186  x1 x2 x3 σ = some (some yf, σf)) : Rn l G dm_Kb_command m_Kb_command (kI fun y' σ' => y' = yf ∧ σ' = σf) 186 [some (.inr (5, 0)), some (.inl x1), some (.inl x2), some (.inl x3)] [] σ := by
  unfold fb_Kb_command_186 at h
  obtain ⟨h1, h⟩ := kg_some h
  simp only [Option.some.injEq, Prod.mk.injEq, true_and] at h
  exact s_Kb_command_186 h1 ⟨_, rfl, h⟩
def fb_Kb_command_182  (x1 : Int) (x2 : Int) (x3 : Int) (σ : kS) : kRes := kbu (f_Kb_dropCommand  σ) fun σ1 => fb_Kb_command_186  x1 x2 x3 σ1
theorem e_Kb_command_182 {l : Launch} {G : kG} {yf : Int} {σf : kS}  {x1 : Int} {x2 : Int} {x3 : Int}  {σ : kS} (h : fb_Kb_command_182  x1 x2 x3 σ = some (some yf, σf)) : Rn l G dm_Kb_command m_Kb_command (kI fun y' σ' => y' = yf ∧ σ' = σf) 182 [some (.inr (5, 0)), some (.inl x1), some (.inl x2), some (.inl x3)] [] σ := by
  unfold fb_Kb_command_182 at h
  obtain ⟨σ1, hc, h⟩ := kbu_some h
  refine s_Kb_command_182  (by decide) (E_Kb_dropCommand hc) (fun σ2 e2 => ?_)
  subst e2
  exact e_Kb_command_186  h
def fb_Kb_command_181  (x1 : Int) (x2 : Int) (x3 : Int) (s0 : Int) (σ : kS) : kRes := fb_Kb_command_182  x1 s0 x3 σ
theorem e_Kb_command_181 {l : Launch} {G : kG} {yf : Int} {σf : kS}  {x1 : Int} {x2 : Int} {x3 : Int} {s0 : Int}  {σ : kS} (h : fb_Kb_command_181  x1 x2 x3 s0 σ = some (some yf, σf)) : Rn l G dm_Kb_command m_Kb_command (kI fun y' σ' => y' = yf ∧ σ' = σf) 181 [some (.inr (5, 0)), some (.inl x1), some (.inl x2), some (.inl x3)] [.inl s0] σ := by
  unfold fb_Kb_command_181 at h
  refine s_Kb_command_181  ?_
  exact e_Kb_command_182  h
def fb_Kb_command_180  (x1 : Int) (x2 : Int) (x3 : Int) (σ : kS) : kRes := fb_Kb_command_181  x1 x2 x3 0 σ
theorem e_Kb_command_180 {l : Launch} {G : kG} {yf : Int} {σf : kS}  {x1 : Int} {x2 : Int} {x3 : Int}  {σ : kS} (h : fb_Kb_command_180  x1 x2 x3 σ = some (some yf, σf)) : Rn l G dm_Kb_command m_Kb_command (kI fun y' σ' => y' = yf ∧ σ' = σf) 180 [some (.inr (5, 0)), some (.inl x1), some (.inl x2), some (.inl x3)] [] σ := by
  unfold fb_Kb_command_180 at h
  refine s_Kb_command_180  ?_
  exact e_Kb_command_181  h
def fb_Kb_command_176  (x1 : Int) (x2 : Int) (x3 : Int) (σ : kS) : kRes := fb_Kb_command_181  x1 x2 x3 1 σ
theorem e_Kb_command_176 {l : Launch} {G : kG} {yf : Int} {σf : kS}  {x1 : Int} {x2 : Int} {x3 : Int}  {σ : kS} (h : fb_Kb_command_176  x1 x2 x3 σ = some (some yf, σf)) : Rn l G dm_Kb_command m_Kb_command (kI fun y' σ' => y' = yf ∧ σ' = σf) 176 [some (.inr (5, 0)), some (.inl x1), some (.inl x2), some (.inl x3)] [] σ := by
  unfold fb_Kb_command_176 at h
  refine s_Kb_command_176  ?_
  exact e_Kb_command_181  h
def fb_Kb_command_173  (x1 : Int) (x2 : Int) (x3 : Int) (s0 : Int) (σ : kS) : kRes := kg ((-2147483648 ≤ s0 ∧ s0 < 2147483648)) (if s0 = 0 then fb_Kb_command_180  x1 x2 x3 σ else fb_Kb_command_176  x1 x2 x3 σ)
theorem e_Kb_command_173 {l : Launch} {G : kG} {yf : Int} {σf : kS}  {x1 : Int} {x2 : Int} {x3 : Int} {s0 : Int}  {σ : kS} (h : fb_Kb_command_173  x1 x2 x3 s0 σ = some (some yf, σf)) : Rn l G dm_Kb_command m_Kb_command (kI fun y' σ' => y' = yf ∧ σ' = σf) 173 [some (.inr (5, 0)), some (.inl x1), some (.inl x2), some (.inl x3)] [.inl s0] σ := by
  unfold fb_Kb_command_173 at h
  obtain ⟨h1, h⟩ := kg_some h
  refine s_Kb_command_173 h1 (fun c => ?_) (fun c => ?_)
  · rw [if_pos c] at h
    exact e_Kb_command_180  h
  · rw [if_neg c] at h
    exact e_Kb_command_176  h
def fb_Kb_command_168  (x1 : Int) (x2 : Int) (x3 : Int) (σ : kS) : kRes := kbi (f_Kb_plain x1 σ) fun y σ1 => fb_Kb_command_173  x1 x2 x3 y σ1
theorem e_Kb_command_168 {l : Launch} {G : kG} {yf : Int} {σf : kS}  {x1 : Int} {x2 : Int} {x3 : Int}  {σ : kS} (h : fb_Kb_command_168  x1 x2 x3 σ = some (some yf, σf)) : Rn l G dm_Kb_command m_Kb_command (kI fun y' σ' => y' = yf ∧ σ' = σf) 168 [some (.inr (5, 0)), some (.inl x1), some (.inl x2), some (.inl x3)] [] σ := by
  unfold fb_Kb_command_168 at h
  obtain ⟨y, σ1, hc, h⟩ := kbi_some h
  refine s_Kb_command_168  (by decide) (E_Kb_plain hc) (fun y2 σ2 e2 => ?_)
  obtain ⟨rfl, rfl⟩ := e2
  exact e_Kb_command_173  h
def fb_Kb_command_161  (x1 : Int) (x2 : Int) (x3 : Int) (σ : kS) : kRes := kg ((-2147483648 ≤ σ 5 0 8 ∧ σ 5 0 8 < 2147483648)) (if (σ 5 0 8) = 0 then fb_Kb_command_168  x1 x2 x3 σ else fb_Kb_command_180  x1 x2 x3 σ)
theorem e_Kb_command_161 {l : Launch} {G : kG} {yf : Int} {σf : kS}  {x1 : Int} {x2 : Int} {x3 : Int}  {σ : kS} (h : fb_Kb_command_161  x1 x2 x3 σ = some (some yf, σf)) : Rn l G dm_Kb_command m_Kb_command (kI fun y' σ' => y' = yf ∧ σ' = σf) 161 [some (.inr (5, 0)), some (.inl x1), some (.inl x2), some (.inl x3)] [] σ := by
  unfold fb_Kb_command_161 at h
  obtain ⟨h1, h⟩ := kg_some h
  refine s_Kb_command_161 h1 (fun c => ?_) (fun c => ?_)
  · rw [if_neg c] at h
    exact e_Kb_command_180  h
  · rw [if_pos c] at h
    exact e_Kb_command_168  h
def fb_Kb_command_155  (x1 : Int) (x2 : Int) (x3 : Int) (σ : kS) : kRes := kg ((-2147483648 ≤ x1 ∧ x1 < 2147483648)) (if x1 = 27 then fb_Kb_command_182  x1 x2 x3 σ else fb_Kb_command_161  x1 x2 x3 σ)
theorem e_Kb_command_155 {l : Launch} {G : kG} {yf : Int} {σf : kS}  {x1 : Int} {x2 : Int} {x3 : Int}  {σ : kS} (h : fb_Kb_command_155  x1 x2 x3 σ = some (some yf, σf)) : Rn l G dm_Kb_command m_Kb_command (kI fun y' σ' => y' = yf ∧ σ' = σf) 155 [some (.inr (5, 0)), some (.inl x1), some (.inl x2), some (.inl x3)] [] σ := by
  unfold fb_Kb_command_155 at h
  obtain ⟨h1, h⟩ := kg_some h
  refine s_Kb_command_155 h1 (fun c => ?_) (fun c => ?_)
  · rw [if_pos c] at h
    exact e_Kb_command_182  h
  · rw [if_neg c] at h
    exact e_Kb_command_161  h
def fb_Kb_command_152  (x1 : Int) (x2 : Int) (x3 : Int) (σ : kS) : kRes := fb_Kb_command_182  x1 x2 x3 σ
theorem e_Kb_command_152 {l : Launch} {G : kG} {yf : Int} {σf : kS}  {x1 : Int} {x2 : Int} {x3 : Int}  {σ : kS} (h : fb_Kb_command_152  x1 x2 x3 σ = some (some yf, σf)) : Rn l G dm_Kb_command m_Kb_command (kI fun y' σ' => y' = yf ∧ σ' = σf) 152 [some (.inr (5, 0)), some (.inl x1), some (.inl x2), some (.inl x3)] [] σ := by
  unfold fb_Kb_command_152 at h
  refine s_Kb_command_152  ?_
  exact e_Kb_command_182  h
def fb_Kb_command_137  (x1 : Int) (x2 : Int) (x3 : Int) (σ : kS) : kRes := kbu (f_Te_stand (kdiv x3 32) (kmod x3 32) 0 σ) fun σ1 => fb_Kb_command_152  x1 x2 x3 σ1
theorem e_Kb_command_137 {l : Launch} {G : kG} {yf : Int} {σf : kS}  {x1 : Int} {x2 : Int} {x3 : Int}  {σ : kS} (h : fb_Kb_command_137  x1 x2 x3 σ = some (some yf, σf)) : Rn l G dm_Kb_command m_Kb_command (kI fun y' σ' => y' = yf ∧ σ' = σf) 137 [some (.inr (5, 0)), some (.inl x1), some (.inl x2), some (.inl x3)] [] σ := by
  unfold fb_Kb_command_137 at h
  obtain ⟨σ1, hc, h⟩ := kbu_some h
  refine s_Kb_command_137  (by decide) (E_Te_stand hc) (fun σ2 e2 => ?_)
  subst e2
  exact e_Kb_command_152  h
def fb_Kb_command_133  (x1 : Int) (x2 : Int) (x3 : Int) (σ : kS) : kRes := kg ((-2147483648 ≤ x3 ∧ x3 < 2147483648)) (if x3 < 0 then fb_Kb_command_155  x1 x2 x3 σ else fb_Kb_command_137  x1 x2 x3 σ)
theorem e_Kb_command_133 {l : Launch} {G : kG} {yf : Int} {σf : kS}  {x1 : Int} {x2 : Int} {x3 : Int}  {σ : kS} (h : fb_Kb_command_133  x1 x2 x3 σ = some (some yf, σf)) : Rn l G dm_Kb_command m_Kb_command (kI fun y' σ' => y' = yf ∧ σ' = σf) 133 [some (.inr (5, 0)), some (.inl x1), some (.inl x2), some (.inl x3)] [] σ := by
  unfold fb_Kb_command_133 at h
  obtain ⟨h1, h⟩ := kg_some h
  refine s_Kb_command_133 h1 (fun c => ?_) (fun c => ?_)
  · rw [if_pos c] at h
    exact e_Kb_command_155  h
  · rw [if_neg c] at h
    exact e_Kb_command_137  h
def fb_Kb_command_129  (x1 : Int) (x2 : Int) (x3 : Int) (s0 : Int) (σ : kS) : kRes := fb_Kb_command_182  x1 s0 x3 σ
theorem e_Kb_command_129 {l : Launch} {G : kG} {yf : Int} {σf : kS}  {x1 : Int} {x2 : Int} {x3 : Int} {s0 : Int}  {σ : kS} (h : fb_Kb_command_129  x1 x2 x3 s0 σ = some (some yf, σf)) : Rn l G dm_Kb_command m_Kb_command (kI fun y' σ' => y' = yf ∧ σ' = σf) 129 [some (.inr (5, 0)), some (.inl x1), some (.inl x2), some (.inl x3)] [.inl s0] σ := by
  unfold fb_Kb_command_129 at h
  refine s_Kb_command_129  ?_
  exact e_Kb_command_182  h
def fb_Kb_command_116  (x1 : Int) (x2 : Int) (x3 : Int) (σ : kS) : kRes := kbi (f_Kb_operate 108 x3 (kup σ 5 0 9 100)) fun y σ1 => fb_Kb_command_129  x1 x2 x3 y σ1
theorem e_Kb_command_116 {l : Launch} {G : kG} {yf : Int} {σf : kS}  {x1 : Int} {x2 : Int} {x3 : Int}  {σ : kS} (h : fb_Kb_command_116  x1 x2 x3 σ = some (some yf, σf)) : Rn l G dm_Kb_command m_Kb_command (kI fun y' σ' => y' = yf ∧ σ' = σf) 116 [some (.inr (5, 0)), some (.inl x1), some (.inl x2), some (.inl x3)] [] σ := by
  unfold fb_Kb_command_116 at h
  obtain ⟨y, σ1, hc, h⟩ := kbi_some h
  refine s_Kb_command_116  (by decide) (E_Kb_operate hc) (fun y2 σ2 e2 => ?_)
  obtain ⟨rfl, rfl⟩ := e2
  exact e_Kb_command_129  h
def fb_Kb_command_110  (x1 : Int) (x2 : Int) (x3 : Int) (σ : kS) : kRes := kg ((-2147483648 ≤ x1 ∧ x1 < 2147483648)) (if x1 = 120 then fb_Kb_command_116  x1 x2 x3 σ else fb_Kb_command_133  x1 x2 x3 σ)
theorem e_Kb_command_110 {l : Launch} {G : kG} {yf : Int} {σf : kS}  {x1 : Int} {x2 : Int} {x3 : Int}  {σ : kS} (h : fb_Kb_command_110  x1 x2 x3 σ = some (some yf, σf)) : Rn l G dm_Kb_command m_Kb_command (kI fun y' σ' => y' = yf ∧ σ' = σf) 110 [some (.inr (5, 0)), some (.inl x1), some (.inl x2), some (.inl x3)] [] σ := by
  unfold fb_Kb_command_110 at h
  obtain ⟨h1, h⟩ := kg_some h
  refine s_Kb_command_110 h1 (fun c => ?_) (fun c => ?_)
  · rw [if_neg c] at h
    exact e_Kb_command_133  h
  · rw [if_pos c] at h
    exact e_Kb_command_116  h
def fb_Kb_command_106  (x1 : Int) (x2 : Int) (x3 : Int) (s0 : Int) (σ : kS) : kRes := fb_Kb_command_182  x1 s0 x3 σ
theorem e_Kb_command_106 {l : Launch} {G : kG} {yf : Int} {σf : kS}  {x1 : Int} {x2 : Int} {x3 : Int} {s0 : Int}  {σ : kS} (h : fb_Kb_command_106  x1 x2 x3 s0 σ = some (some yf, σf)) : Rn l G dm_Kb_command m_Kb_command (kI fun y' σ' => y' = yf ∧ σ' = σf) 106 [some (.inr (5, 0)), some (.inl x1), some (.inl x2), some (.inl x3)] [.inl s0] σ := by
  unfold fb_Kb_command_106 at h
  refine s_Kb_command_106  ?_
  exact e_Kb_command_182  h
def fb_Kb_command_100  (x1 : Int) (x2 : Int) (x3 : Int) (σ : kS) : kRes := kbi (f_Kb_operate x1 x3 σ) fun y σ1 => fb_Kb_command_106  x1 x2 x3 y σ1
theorem e_Kb_command_100 {l : Launch} {G : kG} {yf : Int} {σf : kS}  {x1 : Int} {x2 : Int} {x3 : Int}  {σ : kS} (h : fb_Kb_command_100  x1 x2 x3 σ = some (some yf, σf)) : Rn l G dm_Kb_command m_Kb_command (kI fun y' σ' => y' = yf ∧ σ' = σf) 100 [some (.inr (5, 0)), some (.inl x1), some (.inl x2), some (.inl x3)] [] σ := by
  unfold fb_Kb_command_100 at h
  obtain ⟨y, σ1, hc, h⟩ := kbi_some h
  refine s_Kb_command_100  (by decide) (E_Kb_operate hc) (fun y2 σ2 e2 => ?_)
  obtain ⟨rfl, rfl⟩ := e2
  exact e_Kb_command_106  h
def fb_Kb_command_94  (x1 : Int) (x2 : Int) (x3 : Int) (σ : kS) : kRes := kg ((-2147483648 ≤ x1 ∧ x1 < 2147483648)) (if x1 = 27 then fb_Kb_command_110  x1 x2 x3 σ else fb_Kb_command_100  x1 x2 x3 σ)
theorem e_Kb_command_94 {l : Launch} {G : kG} {yf : Int} {σf : kS}  {x1 : Int} {x2 : Int} {x3 : Int}  {σ : kS} (h : fb_Kb_command_94  x1 x2 x3 σ = some (some yf, σf)) : Rn l G dm_Kb_command m_Kb_command (kI fun y' σ' => y' = yf ∧ σ' = σf) 94 [some (.inr (5, 0)), some (.inl x1), some (.inl x2), some (.inl x3)] [] σ := by
  unfold fb_Kb_command_94 at h
  obtain ⟨h1, h⟩ := kg_some h
  refine s_Kb_command_94 h1 (fun c => ?_) (fun c => ?_)
  · rw [if_pos c] at h
    exact e_Kb_command_110  h
  · rw [if_neg c] at h
    exact e_Kb_command_100  h
def fb_Kb_command_86  (x1 : Int) (x2 : Int) (s0 : Int) (σ : kS) : kRes := kg ((-2147483648 ≤ σ 5 0 9 ∧ σ 5 0 9 < 2147483648)) (if (σ 5 0 9) = 0 then fb_Kb_command_110  x1 x2 s0 σ else fb_Kb_command_94  x1 x2 s0 σ)
theorem e_Kb_command_86 {l : Launch} {G : kG} {yf : Int} {σf : kS}  {x1 : Int} {x2 : Int} {s0 : Int} {o3 : Option kV} {σ : kS} (h : fb_Kb_command_86  x1 x2 s0 σ = some (some yf, σf)) : Rn l G dm_Kb_command m_Kb_command (kI fun y' σ' => y' = yf ∧ σ' = σf) 86 [some (.inr (5, 0)), some (.inl x1), some (.inl x2), o3] [.inl s0] σ := by
  unfold fb_Kb_command_86 at h
  obtain ⟨h1, h⟩ := kg_some h
  refine s_Kb_command_86 h1 (fun c => ?_) (fun c => ?_)
  · rw [if_pos c] at h
    exact e_Kb_command_110  h
  · rw [if_neg c] at h
    exact e_Kb_command_94  h
def fb_Kb_command_72  (x1 : Int) (σ : kS) : kRes := kbi (f_Mo_lead x1 (σ 5 0 7) σ) fun y σ1 => fb_Kb_command_86  x1 1 y σ1
theorem e_Kb_command_72 {l : Launch} {G : kG} {yf : Int} {σf : kS}  {x1 : Int} {o2 : Option kV} {o3 : Option kV} {σ : kS} (h : fb_Kb_command_72  x1 σ = some (some yf, σf)) : Rn l G dm_Kb_command m_Kb_command (kI fun y' σ' => y' = yf ∧ σ' = σf) 72 [some (.inr (5, 0)), some (.inl x1), o2, o3] [] σ := by
  unfold fb_Kb_command_72 at h
  obtain ⟨y, σ1, hc, h⟩ := kbi_some h
  refine s_Kb_command_72  (by decide) (E_Mo_lead hc) (fun y2 σ2 e2 => ?_)
  obtain ⟨rfl, rfl⟩ := e2
  exact e_Kb_command_86  h
def fb_Kb_command_65  (x1 : Int) (σ : kS) : kRes := some (some 1, kup σ 5 0 9 x1)
theorem e_Kb_command_65 {l : Launch} {G : kG} {yf : Int} {σf : kS}  {x1 : Int} {o2 : Option kV} {o3 : Option kV} {σ : kS} (h : fb_Kb_command_65  x1 σ = some (some yf, σf)) : Rn l G dm_Kb_command m_Kb_command (kI fun y' σ' => y' = yf ∧ σ' = σf) 65 [some (.inr (5, 0)), some (.inl x1), o2, o3] [] σ := by
  unfold fb_Kb_command_65 at h
  simp only [Option.some.injEq, Prod.mk.injEq, true_and] at h
  exact s_Kb_command_65  ⟨_, rfl, h⟩
def fb_Kb_command_62  (x1 : Int) (s0 : Int) (σ : kS) : kRes := kg ((-2147483648 ≤ s0 ∧ s0 < 2147483648)) (if s0 = 0 then fb_Kb_command_72  x1 σ else fb_Kb_command_65  x1 σ)
theorem e_Kb_command_62 {l : Launch} {G : kG} {yf : Int} {σf : kS}  {x1 : Int} {s0 : Int} {o2 : Option kV} {o3 : Option kV} {σ : kS} (h : fb_Kb_command_62  x1 s0 σ = some (some yf, σf)) : Rn l G dm_Kb_command m_Kb_command (kI fun y' σ' => y' = yf ∧ σ' = σf) 62 [some (.inr (5, 0)), some (.inl x1), o2, o3] [.inl s0] σ := by
  unfold fb_Kb_command_62 at h
  obtain ⟨h1, h⟩ := kg_some h
  refine s_Kb_command_62 h1 (fun c => ?_) (fun c => ?_)
  · rw [if_pos c] at h
    exact e_Kb_command_72  h
  · rw [if_neg c] at h
    exact e_Kb_command_65  h
def fb_Kb_command_58  (x1 : Int) (σ : kS) : kRes := kbi (f_Kb_isOperator x1 σ) fun y σ1 => fb_Kb_command_62  x1 y σ1
theorem e_Kb_command_58 {l : Launch} {G : kG} {yf : Int} {σf : kS}  {x1 : Int} {o2 : Option kV} {o3 : Option kV} {σ : kS} (h : fb_Kb_command_58  x1 σ = some (some yf, σf)) : Rn l G dm_Kb_command m_Kb_command (kI fun y' σ' => y' = yf ∧ σ' = σf) 58 [some (.inr (5, 0)), some (.inl x1), o2, o3] [] σ := by
  unfold fb_Kb_command_58 at h
  obtain ⟨y, σ1, hc, h⟩ := kbi_some h
  refine s_Kb_command_58  (by decide) (E_Kb_isOperator hc) (fun y2 σ2 e2 => ?_)
  obtain ⟨rfl, rfl⟩ := e2
  exact e_Kb_command_62  h
def fb_Kb_command_51  (x1 : Int) (σ : kS) : kRes := kg ((-2147483648 ≤ σ 5 0 9 ∧ σ 5 0 9 < 2147483648)) (if (σ 5 0 9) = 0 then fb_Kb_command_58  x1 σ else fb_Kb_command_72  x1 σ)
theorem e_Kb_command_51 {l : Launch} {G : kG} {yf : Int} {σf : kS}  {x1 : Int} {o2 : Option kV} {o3 : Option kV} {σ : kS} (h : fb_Kb_command_51  x1 σ = some (some yf, σf)) : Rn l G dm_Kb_command m_Kb_command (kI fun y' σ' => y' = yf ∧ σ' = σf) 51 [some (.inr (5, 0)), some (.inl x1), o2, o3] [] σ := by
  unfold fb_Kb_command_51 at h
  obtain ⟨h1, h⟩ := kg_some h
  refine s_Kb_command_51 h1 (fun c => ?_) (fun c => ?_)
  · rw [if_neg c] at h
    exact e_Kb_command_72  h
  · rw [if_pos c] at h
    exact e_Kb_command_58  h
def fb_Kb_command_23  (x1 : Int) (σ : kS) : kRes := some (some 1, kup (kup σ 5 0 7 ((((σ 5 0 7) * 10) + x1) - 48)) 5 0 8 (((kup σ 5 0 7 ((((σ 5 0 7) * 10) + x1) - 48)) 5 0 8) + 1))
theorem e_Kb_command_23 {l : Launch} {G : kG} {yf : Int} {σf : kS}  {x1 : Int} {o2 : Option kV} {o3 : Option kV} {σ : kS} (h : fb_Kb_command_23  x1 σ = some (some yf, σf)) : Rn l G dm_Kb_command m_Kb_command (kI fun y' σ' => y' = yf ∧ σ' = σf) 23 [some (.inr (5, 0)), some (.inl x1), o2, o3] [] σ := by
  unfold fb_Kb_command_23 at h
  simp only [Option.some.injEq, Prod.mk.injEq, true_and] at h
  exact s_Kb_command_23  ⟨_, rfl, h⟩
def fb_Kb_command_20  (x1 : Int) (s0 : Int) (σ : kS) : kRes := kg ((-2147483648 ≤ s0 ∧ s0 < 2147483648)) (if s0 = 0 then fb_Kb_command_51  x1 σ else fb_Kb_command_23  x1 σ)
theorem e_Kb_command_20 {l : Launch} {G : kG} {yf : Int} {σf : kS}  {x1 : Int} {s0 : Int} {o2 : Option kV} {o3 : Option kV} {σ : kS} (h : fb_Kb_command_20  x1 s0 σ = some (some yf, σf)) : Rn l G dm_Kb_command m_Kb_command (kI fun y' σ' => y' = yf ∧ σ' = σf) 20 [some (.inr (5, 0)), some (.inl x1), o2, o3] [.inl s0] σ := by
  unfold fb_Kb_command_20 at h
  obtain ⟨h1, h⟩ := kg_some h
  refine s_Kb_command_20 h1 (fun c => ?_) (fun c => ?_)
  · rw [if_pos c] at h
    exact e_Kb_command_51  h
  · rw [if_neg c] at h
    exact e_Kb_command_23  h
def fb_Kb_command_15  (x1 : Int) (σ : kS) : kRes := kbi (f_Kb_isCountKey x1 σ) fun y σ1 => fb_Kb_command_20  x1 y σ1
theorem e_Kb_command_15 {l : Launch} {G : kG} {yf : Int} {σf : kS}  {x1 : Int} {o2 : Option kV} {o3 : Option kV} {σ : kS} (h : fb_Kb_command_15  x1 σ = some (some yf, σf)) : Rn l G dm_Kb_command m_Kb_command (kI fun y' σ' => y' = yf ∧ σ' = σf) 15 [some (.inr (5, 0)), some (.inl x1), o2, o3] [] σ := by
  unfold fb_Kb_command_15 at h
  obtain ⟨y, σ1, hc, h⟩ := kbi_some h
  refine s_Kb_command_15  (by decide) (E_Kb_isCountKey hc) (fun y2 σ2 e2 => ?_)
  obtain ⟨rfl, rfl⟩ := e2
  exact e_Kb_command_20  h
def fb_Kb_command_8  (x1 : Int) (σ : kS) : kRes := kg ((-2147483648 ≤ σ 5 0 9 ∧ σ 5 0 9 < 2147483648)) (if (σ 5 0 9) = 0 then fb_Kb_command_15  x1 σ else fb_Kb_command_51  x1 σ)
theorem e_Kb_command_8 {l : Launch} {G : kG} {yf : Int} {σf : kS}  {x1 : Int} {o2 : Option kV} {o3 : Option kV} {σ : kS} (h : fb_Kb_command_8  x1 σ = some (some yf, σf)) : Rn l G dm_Kb_command m_Kb_command (kI fun y' σ' => y' = yf ∧ σ' = σf) 8 [some (.inr (5, 0)), some (.inl x1), o2, o3] [] σ := by
  unfold fb_Kb_command_8 at h
  obtain ⟨h1, h⟩ := kg_some h
  refine s_Kb_command_8 h1 (fun c => ?_) (fun c => ?_)
  · rw [if_neg c] at h
    exact e_Kb_command_51  h
  · rw [if_pos c] at h
    exact e_Kb_command_15  h
def fb_Kb_command_0  (x1 : Int) (σ : kS) : kRes := kbu (f_Ke_add x1 0 σ) fun σ1 => fb_Kb_command_8  x1 σ1
theorem e_Kb_command_0 {l : Launch} {G : kG} {yf : Int} {σf : kS}  {x1 : Int} {o2 : Option kV} {o3 : Option kV} {σ : kS} (h : fb_Kb_command_0  x1 σ = some (some yf, σf)) : Rn l G dm_Kb_command m_Kb_command (kI fun y' σ' => y' = yf ∧ σ' = σf) 0 [some (.inr (5, 0)), some (.inl x1), o2, o3] [] σ := by
  unfold fb_Kb_command_0 at h
  obtain ⟨σ1, hc, h⟩ := kbu_some h
  refine s_Kb_command_0  (by decide) (E_Ke_add hc) (fun σ2 e2 => ?_)
  subst e2
  exact e_Kb_command_8  h
def f_Kb_command (x1 : Int) (σ : kS) : kRes := fb_Kb_command_0 x1 σ
theorem E_Kb_command {l : Launch} {G : kG} {yf : Int} {σf : kS} {x1 : Int} {σ : kS} (h : f_Kb_command x1 σ = some (some yf, σf)) : Call l G dm_Kb_command y_Kb_command m_Kb_command [.inr (5, 0), .inl x1] σ (kI fun y' σ' => y' = yf ∧ σ' = σf) := by
  unfold f_Kb_command at h
  exact Call.of (by decide +kernel) rfl (Nat.le_of_ble_eq_true rfl) (e_Kb_command_0 h)
/-! Te_write -/
def fb_Te_write_38  (x1 : Int) (x2 : Int) (x3 : Int) (t : Nat) (σ : kS) : kRes := some (none, σ)
theorem e_Te_write_38 {l : Launch} {G : kG} {σf : kS}  {x1 : Int} {x2 : Int} {x3 : Int} {t : Nat}  {σ : kS} (h : fb_Te_write_38  x1 x2 x3 t σ = some (none, σf)) : Rn l G dm_Te_write m_Te_write (kU fun σ' => σ' = σf) 38 [some (.inr (2, t)), some (.inl x1), some (.inl x2), some (.inl x3)] [] σ := by
  unfold fb_Te_write_38 at h
  simp only [Option.some.injEq, Prod.mk.injEq, true_and] at h
  exact s_Te_write_38  ⟨rfl, h⟩
def fb_Te_write_26  (x1 : Int) (x2 : Int) (x3 : Int) (t : Nat) (σ : kS) : kRes := kg ((0 ≤ (x1 * 20) + x2 ∧ (x1 * 20) + x2 < (200 : Nat))) (fb_Te_write_38  x1 x2 x3 t (kup σ 10 t (Int.toNat ((x1 * 20) + x2)) x3))
theorem e_Te_write_26 {l : Launch} {G : kG} {σf : kS}  {x1 : Int} {x2 : Int} {x3 : Int} {t : Nat}  {σ : kS} (h : fb_Te_write_26  x1 x2 x3 t σ = some (none, σf)) : Rn l G dm_Te_write m_Te_write (kU fun σ' => σ' = σf) 26 [some (.inr (2, t)), some (.inl x1), some (.inl x2), some (.inl x3)] [] σ := by
  unfold fb_Te_write_26 at h
  obtain ⟨h1, h⟩ := kg_some h
  refine s_Te_write_26 h1 ?_
  exact e_Te_write_38  h
def fb_Te_write_16  (x1 : Int) (x2 : Int) (x3 : Int) (t : Nat) (σ : kS) : kRes := kg ((0 ≤ x1 ∧ x1 < (10 : Nat)) ∧ (-2147483648 ≤ x2 ∧ x2 < 2147483648) ∧ (-2147483648 ≤ σ 11 t (Int.toNat x1) ∧ σ 11 t (Int.toNat x1) < 2147483648)) (if (σ 11 t (Int.toNat x1)) ≤ x2 then fb_Te_write_38  x1 x2 x3 t σ else fb_Te_write_26  x1 x2 x3 t σ)
theorem e_Te_write_16 {l : Launch} {G : kG} {σf : kS}  {x1 : Int} {x2 : Int} {x3 : Int} {t : Nat}  {σ : kS} (h : fb_Te_write_16  x1 x2 x3 t σ = some (none, σf)) : Rn l G dm_Te_write m_Te_write (kU fun σ' => σ' = σf) 16 [some (.inr (2, t)), some (.inl x1), some (.inl x2), some (.inl x3)] [] σ := by
  unfold fb_Te_write_16 at h
  obtain ⟨⟨h1, h2, h3⟩, h⟩ := kg_some h
  refine s_Te_write_16 h1 h2 h3 (fun c => ?_) (fun c => ?_)
  · rw [if_pos c] at h
    exact e_Te_write_38  h
  · rw [if_neg c] at h
    exact e_Te_write_26  h
def fb_Te_write_12  (x1 : Int) (x2 : Int) (x3 : Int) (t : Nat) (σ : kS) : kRes := kg ((-2147483648 ≤ x2 ∧ x2 < 2147483648)) (if x2 < 0 then fb_Te_write_38  x1 x2 x3 t σ else fb_Te_write_16  x1 x2 x3 t σ)
theorem e_Te_write_12 {l : Launch} {G : kG} {σf : kS}  {x1 : Int} {x2 : Int} {x3 : Int} {t : Nat}  {σ : kS} (h : fb_Te_write_12  x1 x2 x3 t σ = some (none, σf)) : Rn l G dm_Te_write m_Te_write (kU fun σ' => σ' = σf) 12 [some (.inr (2, t)), some (.inl x1), some (.inl x2), some (.inl x3)] [] σ := by
  unfold fb_Te_write_12 at h
  obtain ⟨h1, h⟩ := kg_some h
  refine s_Te_write_12 h1 (fun c => ?_) (fun c => ?_)
  · rw [if_pos c] at h
    exact e_Te_write_38  h
  · rw [if_neg c] at h
    exact e_Te_write_16  h
def fb_Te_write_4  (x1 : Int) (x2 : Int) (x3 : Int) (t : Nat) (σ : kS) : kRes := kg ((-2147483648 ≤ x1 ∧ x1 < 2147483648) ∧ (-2147483648 ≤ σ 2 t 2 ∧ σ 2 t 2 < 2147483648)) (if (σ 2 t 2) ≤ x1 then fb_Te_write_38  x1 x2 x3 t σ else fb_Te_write_12  x1 x2 x3 t σ)
theorem e_Te_write_4 {l : Launch} {G : kG} {σf : kS}  {x1 : Int} {x2 : Int} {x3 : Int} {t : Nat}  {σ : kS} (h : fb_Te_write_4  x1 x2 x3 t σ = some (none, σf)) : Rn l G dm_Te_write m_Te_write (kU fun σ' => σ' = σf) 4 [some (.inr (2, t)), some (.inl x1), some (.inl x2), some (.inl x3)] [] σ := by
  unfold fb_Te_write_4 at h
  obtain ⟨⟨h1, h2⟩, h⟩ := kg_some h
  refine s_Te_write_4 h1 h2 (fun c => ?_) (fun c => ?_)
  · rw [if_pos c] at h
    exact e_Te_write_38  h
  · rw [if_neg c] at h
    exact e_Te_write_12  h
def fb_Te_write_0  (x1 : Int) (x2 : Int) (x3 : Int) (t : Nat) (σ : kS) : kRes := kg ((-2147483648 ≤ x1 ∧ x1 < 2147483648)) (if x1 < 0 then fb_Te_write_38  x1 x2 x3 t σ else fb_Te_write_4  x1 x2 x3 t σ)
theorem e_Te_write_0 {l : Launch} {G : kG} {σf : kS}  {x1 : Int} {x2 : Int} {x3 : Int} {t : Nat}  {σ : kS} (h : fb_Te_write_0  x1 x2 x3 t σ = some (none, σf)) : Rn l G dm_Te_write m_Te_write (kU fun σ' => σ' = σf) 0 [some (.inr (2, t)), some (.inl x1), some (.inl x2), some (.inl x3)] [] σ := by
  unfold fb_Te_write_0 at h
  obtain ⟨h1, h⟩ := kg_some h
  refine s_Te_write_0 h1 (fun c => ?_) (fun c => ?_)
  · rw [if_pos c] at h
    exact e_Te_write_38  h
  · rw [if_neg c] at h
    exact e_Te_write_4  h
def f_Te_write (x1 : Int) (x2 : Int) (x3 : Int) (t : Nat) (σ : kS) : kRes := fb_Te_write_0 x1 x2 x3 t σ
theorem E_Te_write {l : Launch} {G : kG} {σf : kS} {x1 : Int} {x2 : Int} {x3 : Int} {t : Nat} {σ : kS} (h : f_Te_write x1 x2 x3 t σ = some (none, σf)) : Call l G dm_Te_write y_Te_write m_Te_write [.inr (2, t), .inl x1, .inl x2, .inl x3] σ (kU fun σ' => σ' = σf) := by
  unfold f_Te_write at h
  exact Call.of (by decide +kernel) rfl (Nat.le_of_ble_eq_true rfl) (e_Te_write_0 h)
/-! Kb_partLine -/
def fb_Kb_partLine_126  (x1 : Int) (x2 : Int) (x3 : Int) (x4 : Int) (x5 : Int) (σ : kS) : kRes := some (some 1, kup (kup (kup σ 2 0 3 (x1 + 1)) 2 0 4 x3) 5 0 10 x3)
theorem e_Kb_partLine_126 {l : Launch} {G : kG} {yf : Int} {σf : kS}  {x1 : Int} {x2 : Int} {x3 : Int} {x4 : Int} {x5 : Int}  {σ : kS} (h : fb_Kb_partLine_126  x1 x2 x3 x4 x5 σ = some (some yf, σf)) : Rn l G dm_Kb_partLine m_Kb_partLine (kI fun y' σ' => y' = yf ∧ σ' = σf) 126 [some (.inr (5, 0)), some (.inl x1), some (.inl x2), some (.inl x3), some (.inl x4), some (.inl x5)] [] σ := by
  unfold fb_Kb_partLine_126 at h
  simp only [Option.some.injEq, Prod.mk.injEq, true_and] at h
  exact s_Kb_partLine_126  ⟨_, rfl, h⟩
def fb_Kb_partLine_115  (x1 : Int) (x2 : Int) (x3 : Int) (x4 : Int) (x5 : Int) (σ : kS) : kRes := kbu (f_Te_closeLetters x1 x2 x4 0 σ) fun σ1 => fb_Kb_partLine_126  x1 x2 x3 x4 x5 σ1
theorem e_Kb_partLine_115 {l : Launch} {G : kG} {yf : Int} {σf : kS}  {x1 : Int} {x2 : Int} {x3 : Int} {x4 : Int} {x5 : Int}  {σ : kS} (h : fb_Kb_partLine_115  x1 x2 x3 x4 x5 σ = some (some yf, σf)) : Rn l G dm_Kb_partLine m_Kb_partLine (kI fun y' σ' => y' = yf ∧ σ' = σf) 115 [some (.inr (5, 0)), some (.inl x1), some (.inl x2), some (.inl x3), some (.inl x4), some (.inl x5)] [] σ := by
  unfold fb_Kb_partLine_115 at h
  obtain ⟨σ1, hc, h⟩ := kbu_some h
  refine s_Kb_partLine_115  (by decide) (E_Te_closeLetters hc) (fun σ2 e2 => ?_)
  subst e2
  exact e_Kb_partLine_126  h
def fb_Kb_partLine_109 (k76 : Int → Int → Int → Int → Int → kS → kRes) (x1 : Int) (x2 : Int) (x3 : Int) (x4 : Int) (x5 : Int) (σ : kS) : kRes := k76 x1 x2 x3 x4 (x5 + 1) σ
theorem e_Kb_partLine_109 {l : Launch} {G : kG} {yf : Int} {σf : kS} {k76 : Int → Int → Int → Int → Int → kS → kRes} (hk76 : ∀ (x1 : Int) (x2 : Int) (x3 : Int) (x4 : Int) (x5 : Int)  (σ : kS), k76 x1 x2 x3 x4 x5 σ = some (some yf, σf) → Rn l G dm_Kb_partLine m_Kb_partLine (kI fun y' σ' => y' = yf ∧ σ' = σf) 76 [some (.inr (5, 0)), some (.inl x1), some (.inl x2), some (.inl x3), some (.inl x4), some (.inl x5)] [] σ) {x1 : Int} {x2 : Int} {x3 : Int} {x4 : Int} {x5 : Int}  {σ : kS} (h : fb_Kb_partLine_109 k76 x1 x2 x3 x4 x5 σ = some (some yf, σf)) : Rn l G dm_Kb_partLine m_Kb_partLine (kI fun y' σ' => y' = yf ∧ σ' = σf) 109 [some (.inr (5, 0)), some (.inl x1), some (.inl x2), some (.inl x3), some (.inl x4), some (.inl x5)] [] σ := by
  unfold fb_Kb_partLine_109 at h
  refine s_Kb_partLine_109  ?_
  exact hk76 _ _ _ _ _ _ h
def fb_Kb_partLine_106 (k76 : Int → Int → Int → Int → Int → kS → kRes) (x1 : Int) (x2 : Int) (x3 : Int) (x4 : Int) (x5 : Int) (s0 : Int) (s1 : Int) (s2 : Int) (σ : kS) : kRes := kbu (f_Te_write s2 s1 s0 0 σ) fun σ1 => fb_Kb_partLine_109 k76 x1 x2 x3 x4 x5 σ1
theorem e_Kb_partLine_106 {l : Launch} {G : kG} {yf : Int} {σf : kS} {k76 : Int → Int → Int → Int → Int → kS → kRes} (hk76 : ∀ (x1 : Int) (x2 : Int) (x3 : Int) (x4 : Int) (x5 : Int)  (σ : kS), k76 x1 x2 x3 x4 x5 σ = some (some yf, σf) → Rn l G dm_Kb_partLine m_Kb_partLine (kI fun y' σ' => y' = yf ∧ σ' = σf) 76 [some (.inr (5, 0)), some (.inl x1), some (.inl x2), some (.inl x3), some (.inl x4), some (.inl x5)] [] σ) {x1 : Int} {x2 : Int} {x3 : Int} {x4 : Int} {x5 : Int} {s0 : Int} {s1 : Int} {s2 : Int}  {σ : kS} (h : fb_Kb_partLine_106 k76 x1 x2 x3 x4 x5 s0 s1 s2 σ = some (some yf, σf)) : Rn l G dm_Kb_partLine m_Kb_partLine (kI fun y' σ' => y' = yf ∧ σ' = σf) 106 [some (.inr (5, 0)), some (.inl x1), some (.inl x2), some (.inl x3), some (.inl x4), some (.inl x5)] [.inl s0, .inl s1, .inl s2, .inr (2, 0)] σ := by
  unfold fb_Kb_partLine_106 at h
  obtain ⟨σ1, hc, h⟩ := kbu_some h
  refine s_Kb_partLine_106  (by decide) (E_Te_write hc) (fun σ2 e2 => ?_)
  subst e2
  exact e_Kb_partLine_109 hk76 h
def fb_Kb_partLine_83 (k76 : Int → Int → Int → Int → Int → kS → kRes) (x1 : Int) (x2 : Int) (x3 : Int) (x4 : Int) (x5 : Int) (σ : kS) : kRes := kbi (f_Te_codeAt x1 x5 0 σ) fun y σ1 => fb_Kb_partLine_106 k76 x1 x2 x3 x4 x5 y ((x3 + x5) - x2) (x1 + 1) σ1
theorem e_Kb_partLine_83 {l : Launch} {G : kG} {yf : Int} {σf : kS} {k76 : Int → Int → Int → Int → Int → kS → kRes} (hk76 : ∀ (x1 : Int) (x2 : Int) (x3 : Int) (x4 : Int) (x5 : Int)  (σ : kS), k76 x1 x2 x3 x4 x5 σ = some (some yf, σf) → Rn l G dm_Kb_partLine m_Kb_partLine (kI fun y' σ' => y' = yf ∧ σ' = σf) 76 [some (.inr (5, 0)), some (.inl x1), some (.inl x2), some (.inl x3), some (.inl x4), some (.inl x5)] [] σ) {x1 : Int} {x2 : Int} {x3 : Int} {x4 : Int} {x5 : Int}  {σ : kS} (h : fb_Kb_partLine_83 k76 x1 x2 x3 x4 x5 σ = some (some yf, σf)) : Rn l G dm_Kb_partLine m_Kb_partLine (kI fun y' σ' => y' = yf ∧ σ' = σf) 83 [some (.inr (5, 0)), some (.inl x1), some (.inl x2), some (.inl x3), some (.inl x4), some (.inl x5)] [] σ := by
  unfold fb_Kb_partLine_83 at h
  obtain ⟨y, σ1, hc, h⟩ := kbi_some h
  refine s_Kb_partLine_83  (by decide) (E_Te_codeAt hc) (fun y2 σ2 e2 => ?_)
  obtain ⟨rfl, rfl⟩ := e2
  exact e_Kb_partLine_106 hk76 h
def fb_Kb_partLine_76 (k76 : Int → Int → Int → Int → Int → kS → kRes) (x1 : Int) (x2 : Int) (x3 : Int) (x4 : Int) (x5 : Int) (σ : kS) : kRes := kg ((-2147483648 ≤ x5 ∧ x5 < 2147483648) ∧ (-2147483648 ≤ x4 ∧ x4 < 2147483648)) (if x4 ≤ x5 then fb_Kb_partLine_115  x1 x2 x3 x4 x5 σ else fb_Kb_partLine_83 k76 x1 x2 x3 x4 x5 σ)
theorem e_Kb_partLine_76 {l : Launch} {G : kG} {yf : Int} {σf : kS} {k76 : Int → Int → Int → Int → Int → kS → kRes} (hk76 : ∀ (x1 : Int) (x2 : Int) (x3 : Int) (x4 : Int) (x5 : Int)  (σ : kS), k76 x1 x2 x3 x4 x5 σ = some (some yf, σf) → Rn l G dm_Kb_partLine m_Kb_partLine (kI fun y' σ' => y' = yf ∧ σ' = σf) 76 [some (.inr (5, 0)), some (.inl x1), some (.inl x2), some (.inl x3), some (.inl x4), some (.inl x5)] [] σ) {x1 : Int} {x2 : Int} {x3 : Int} {x4 : Int} {x5 : Int}  {σ : kS} (h : fb_Kb_partLine_76 k76 x1 x2 x3 x4 x5 σ = some (some yf, σf)) : Rn l G dm_Kb_partLine m_Kb_partLine (kI fun y' σ' => y' = yf ∧ σ' = σf) 76 [some (.inr (5, 0)), some (.inl x1), some (.inl x2), some (.inl x3), some (.inl x4), some (.inl x5)] [] σ := by
  unfold fb_Kb_partLine_76 at h
  obtain ⟨⟨h1, h2⟩, h⟩ := kg_some h
  refine s_Kb_partLine_76 h1 h2 (fun c => ?_) (fun c => ?_)
  · rw [if_pos c] at h
    exact e_Kb_partLine_115  h
  · rw [if_neg c] at h
    exact e_Kb_partLine_83 hk76 h
def fl_Kb_partLine_76  : Nat → Int → Int → Int → Int → Int → kS → kRes
  | 0, _, _, _, _, _, _ => none
  | n + 1, x1, x2, x3, x4, x5, σ => fb_Kb_partLine_76 (fl_Kb_partLine_76  n) x1 x2 x3 x4 x5 σ
theorem el_Kb_partLine_76 {l : Launch} {G : kG} {yf : Int} {σf : kS}  : ∀ (n : Nat) (x1 : Int) (x2 : Int) (x3 : Int) (x4 : Int) (x5 : Int)  (σ : kS), fl_Kb_partLine_76  n x1 x2 x3 x4 x5 σ = some (some yf, σf) → Rn l G dm_Kb_partLine m_Kb_partLine (kI fun y' σ' => y' = yf ∧ σ' = σf) 76 [some (.inr (5, 0)), some (.inl x1), some (.inl x2), some (.inl x3), some (.inl x4), some (.inl x5)] [] σ := by
  intro n
  induction n with
  | zero => intro x1 x2 x3 x4 x5 σ h; simp only [fl_Kb_partLine_76] at h; cases h
  | succ n ih => intro x1 x2 x3 x4 x5 σ h; simp only [fl_Kb_partLine_76] at h; exact e_Kb_partLine_76 ih h
def fb_Kb_partLine_72  (x1 : Int) (x2 : Int) (x3 : Int) (x4 : Int) (s0 : Int) (σ : kS) : kRes := fl_Kb_partLine_76  3000 x1 x2 x3 x4 x2 σ
theorem e_Kb_partLine_72 {l : Launch} {G : kG} {yf : Int} {σf : kS}  {x1 : Int} {x2 : Int} {x3 : Int} {x4 : Int} {s0 : Int} {o5 : Option kV} {σ : kS} (h : fb_Kb_partLine_72  x1 x2 x3 x4 s0 σ = some (some yf, σf)) : Rn l G dm_Kb_partLine m_Kb_partLine (kI fun y' σ' => y' = yf ∧ σ' = σf) 72 [some (.inr (5, 0)), some (.inl x1), some (.inl x2), some (.inl x3), some (.inl x4), o5] [.inl s0] σ := by
  unfold fb_Kb_partLine_72 at h
  refine s_Kb_partLine_72  ?_
  exact el_Kb_partLine_76  _ _ _ _ _ _ _ h
def fb_Kb_partLine_55  (x1 : Int) (x2 : Int) (x3 : Int) (x4 : Int) (σ : kS) : kRes := kbi (f_Te_openLetters (x1 + 1) 0 ((x3 + x4) - x2) 0 σ) fun y σ1 => fb_Kb_partLine_72  x1 x2 x3 x4 y σ1
theorem e_Kb_partLine_55 {l : Launch} {G : kG} {yf : Int} {σf : kS}  {x1 : Int} {x2 : Int} {x3 : Int} {x4 : Int} {o5 : Option kV} {σ : kS} (h : fb_Kb_partLine_55  x1 x2 x3 x4 σ = some (some yf, σf)) : Rn l G dm_Kb_partLine m_Kb_partLine (kI fun y' σ' => y' = yf ∧ σ' = σf) 55 [some (.inr (5, 0)), some (.inl x1), some (.inl x2), some (.inl x3), some (.inl x4), o5] [] σ := by
  unfold fb_Kb_partLine_55 at h
  obtain ⟨y, σ1, hc, h⟩ := kbi_some h
  refine s_Kb_partLine_55  (by decide) (E_Te_openLetters hc) (fun y2 σ2 e2 => ?_)
  obtain ⟨rfl, rfl⟩ := e2
  exact e_Kb_partLine_72  h
def fb_Kb_partLine_53  (x1 : Int) (x2 : Int) (x3 : Int) (x4 : Int) (σ : kS) : kRes := some (some 0, σ)
theorem e_Kb_partLine_53 {l : Launch} {G : kG} {yf : Int} {σf : kS}  {x1 : Int} {x2 : Int} {x3 : Int} {x4 : Int} {o5 : Option kV} {σ : kS} (h : fb_Kb_partLine_53  x1 x2 x3 x4 σ = some (some yf, σf)) : Rn l G dm_Kb_partLine m_Kb_partLine (kI fun y' σ' => y' = yf ∧ σ' = σf) 53 [some (.inr (5, 0)), some (.inl x1), some (.inl x2), some (.inl x3), some (.inl x4), o5] [] σ := by
  unfold fb_Kb_partLine_53 at h
  simp only [Option.some.injEq, Prod.mk.injEq, true_and] at h
  exact s_Kb_partLine_53  ⟨_, rfl, h⟩
def fb_Kb_partLine_50  (x1 : Int) (x2 : Int) (x3 : Int) (x4 : Int) (s0 : Int) (σ : kS) : kRes := kg ((-2147483648 ≤ s0 ∧ s0 < 2147483648)) (if s0 = 0 then fb_Kb_partLine_53  x1 x2 x3 x4 σ else fb_Kb_partLine_55  x1 x2 x3 x4 σ)
theorem e_Kb_partLine_50 {l : Launch} {G : kG} {yf : Int} {σf : kS}  {x1 : Int} {x2 : Int} {x3 : Int} {x4 : Int} {s0 : Int} {o5 : Option kV} {σ : kS} (h : fb_Kb_partLine_50  x1 x2 x3 x4 s0 σ = some (some yf, σf)) : Rn l G dm_Kb_partLine m_Kb_partLine (kI fun y' σ' => y' = yf ∧ σ' = σf) 50 [some (.inr (5, 0)), some (.inl x1), some (.inl x2), some (.inl x3), some (.inl x4), o5] [.inl s0] σ := by
  unfold fb_Kb_partLine_50 at h
  obtain ⟨h1, h⟩ := kg_some h
  refine s_Kb_partLine_50 h1 (fun c => ?_) (fun c => ?_)
  · rw [if_neg c] at h
    exact e_Kb_partLine_55  h
  · rw [if_pos c] at h
    exact e_Kb_partLine_53  h
def fb_Kb_partLine_37  (x1 : Int) (x2 : Int) (x3 : Int) (s0 : Int) (σ : kS) : kRes := kbi (f_Te_openLines (x1 + 1) 1 0 σ) fun y σ1 => fb_Kb_partLine_50  x1 x2 x3 s0 y σ1
theorem e_Kb_partLine_37 {l : Launch} {G : kG} {yf : Int} {σf : kS}  {x1 : Int} {x2 : Int} {x3 : Int} {s0 : Int} {o4 : Option kV} {o5 : Option kV} {σ : kS} (h : fb_Kb_partLine_37  x1 x2 x3 s0 σ = some (some yf, σf)) : Rn l G dm_Kb_partLine m_Kb_partLine (kI fun y' σ' => y' = yf ∧ σ' = σf) 37 [some (.inr (5, 0)), some (.inl x1), some (.inl x2), some (.inl x3), o4, o5] [.inl s0] σ := by
  unfold fb_Kb_partLine_37 at h
  obtain ⟨y, σ1, hc, h⟩ := kbi_some h
  refine s_Kb_partLine_37  (by decide) (E_Te_openLines hc) (fun y2 σ2 e2 => ?_)
  obtain ⟨rfl, rfl⟩ := e2
  exact e_Kb_partLine_50  h
def fb_Kb_partLine_24  (x1 : Int) (x2 : Int) (s0 : Int) (σ : kS) : kRes := kg ((-2147483648 ≤ s0 ∧ s0 < 2147483648) ∧ (-2147483648 ≤ x2 ∧ x2 < 2147483648)) (kbi (f_Te_sizeOf x1 0 σ) fun y σ1 => fb_Kb_partLine_37  x1 x2 (min s0 x2) y σ1)
theorem e_Kb_partLine_24 {l : Launch} {G : kG} {yf : Int} {σf : kS}  {x1 : Int} {x2 : Int} {s0 : Int} {o3 : Option kV} {o4 : Option kV} {o5 : Option kV} {σ : kS} (h : fb_Kb_partLine_24  x1 x2 s0 σ = some (some yf, σf)) : Rn l G dm_Kb_partLine m_Kb_partLine (kI fun y' σ' => y' = yf ∧ σ' = σf) 24 [some (.inr (5, 0)), some (.inl x1), some (.inl x2), o3, o4, o5] [.inl s0] σ := by
  unfold fb_Kb_partLine_24 at h
  obtain ⟨⟨h1, h2⟩, h⟩ := kg_some h
  obtain ⟨y, σ1, hc, h⟩ := kbi_some h
  refine s_Kb_partLine_24 h1 h2 (by decide) (by decide) (E_Te_sizeOf hc) (fun y2 σ2 e2 => ?_)
  obtain ⟨rfl, rfl⟩ := e2
  exact e_Kb_partLine_37  h
def fb_Kb_partLine_0   (σ : kS) : kRes := kbi (f_Te_indentOf (σ 2 0 3) 0 σ) fun y σ1 => fb_Kb_partLine_24  (σ 2 0 3) (σ 2 0 4) y σ1
theorem e_Kb_partLine_0 {l : Launch} {G : kG} {yf : Int} {σf : kS}   {o1 : Option kV} {o2 : Option kV} {o3 : Option kV} {o4 : Option kV} {o5 : Option kV} {σ : kS} (h : fb_Kb_partLine_0   σ = some (some yf, σf)) : Rn l G dm_Kb_partLine m_Kb_partLine (kI fun y' σ' => y' = yf ∧ σ' = σf) 0 [some (.inr (5, 0)), o1, o2, o3, o4, o5] [] σ := by
  unfold fb_Kb_partLine_0 at h
  obtain ⟨y, σ1, hc, h⟩ := kbi_some h
  refine s_Kb_partLine_0  (by decide) (E_Te_indentOf hc) (fun y2 σ2 e2 => ?_)
  obtain ⟨rfl, rfl⟩ := e2
  exact e_Kb_partLine_24  h
def f_Kb_partLine  (σ : kS) : kRes := fb_Kb_partLine_0  σ
theorem E_Kb_partLine {l : Launch} {G : kG} {yf : Int} {σf : kS}  {σ : kS} (h : f_Kb_partLine  σ = some (some yf, σf)) : Call l G dm_Kb_partLine y_Kb_partLine m_Kb_partLine [.inr (5, 0)] σ (kI fun y' σ' => y' = yf ∧ σ' = σf) := by
  unfold f_Kb_partLine at h
  exact Call.of (by decide +kernel) rfl (Nat.le_of_ble_eq_true rfl) (e_Kb_partLine_0 h)
