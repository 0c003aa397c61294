/-! De_canPut -/
def fb_De_canPut_70  (s0 : Int) (σ : kS) : kRes := kg ((s0 = 0 ∨ s0 = 1)) (some (some s0, σ))
theorem e_De_canPut_70 {l : Launch} {G : kG} {yf : Int} {σf : kS}  {s0 : Int}  {σ : kS} (h : fb_De_canPut_70  s0 σ = some (some yf, σf)) : Rn l G dm_De_canPut m_De_canPut (kI fun y' σ' => y' = yf ∧ σ' = σf) 70 [some (.inr (1, 0))] [.inl s0] σ := by
  unfold fb_De_canPut_70 at h
  obtain ⟨h1, h⟩ := kg_some h
  simp only [Option.some.injEq, Prod.mk.injEq, true_and] at h
  exact s_De_canPut_70 h1 ⟨_, rfl, h⟩
def fb_De_canPut_69   (σ : kS) : kRes := fb_De_canPut_70  0 σ
theorem e_De_canPut_69 {l : Launch} {G : kG} {yf : Int} {σf : kS}    {σ : kS} (h : fb_De_canPut_69   σ = some (some yf, σf)) : Rn l G dm_De_canPut m_De_canPut (kI fun y' σ' => y' = yf ∧ σ' = σf) 69 [some (.inr (1, 0))] [] σ := by
  unfold fb_De_canPut_69 at h
  refine s_De_canPut_69  ?_
  exact e_De_canPut_70  h
def fb_De_canPut_65   (σ : kS) : kRes := fb_De_canPut_70  1 σ
theorem e_De_canPut_65 {l : Launch} {G : kG} {yf : Int} {σf : kS}    {σ : kS} (h : fb_De_canPut_65   σ = some (some yf, σf)) : Rn l G dm_De_canPut m_De_canPut (kI fun y' σ' => y' = yf ∧ σ' = σf) 65 [some (.inr (1, 0))] [] σ := by
  unfold fb_De_canPut_65 at h
  refine s_De_canPut_65  ?_
  exact e_De_canPut_70  h
def fb_De_canPut_48   (σ : kS) : kRes := kg ((-2147483648 ≤ (σ 2 0 2) + (σ 1 0 4) ∧ (σ 2 0 2) + (σ 1 0 4) < 2147483648)) (if 10 < ((σ 2 0 2) + (σ 1 0 4)) then fb_De_canPut_69  σ else fb_De_canPut_65  σ)
theorem e_De_canPut_48 {l : Launch} {G : kG} {yf : Int} {σf : kS}    {σ : kS} (h : fb_De_canPut_48   σ = some (some yf, σf)) : Rn l G dm_De_canPut m_De_canPut (kI fun y' σ' => y' = yf ∧ σ' = σf) 48 [some (.inr (1, 0))] [] σ := by
  unfold fb_De_canPut_48 at h
  obtain ⟨h1, h⟩ := kg_some h
  refine s_De_canPut_48 h1 (fun c => ?_) (fun c => ?_)
  · rw [if_pos c] at h
    exact e_De_canPut_69  h
  · rw [if_neg c] at h
    exact e_De_canPut_65  h
def fb_De_canPut_41   (σ : kS) : kRes := kg ((-2147483648 ≤ σ 1 0 4 ∧ σ 1 0 4 < 2147483648)) (if (σ 1 0 4) ≤ 0 then fb_De_canPut_69  σ else fb_De_canPut_48  σ)
theorem e_De_canPut_41 {l : Launch} {G : kG} {yf : Int} {σf : kS}    {σ : kS} (h : fb_De_canPut_41   σ = some (some yf, σf)) : Rn l G dm_De_canPut m_De_canPut (kI fun y' σ' => y' = yf ∧ σ' = σf) 41 [some (.inr (1, 0))] [] σ := by
  unfold fb_De_canPut_41 at h
  obtain ⟨h1, h⟩ := kg_some h
  refine s_De_canPut_41 h1 (fun c => ?_) (fun c => ?_)
  · rw [if_pos c] at h
    exact e_De_canPut_69  h
  · rw [if_neg c] at h
    exact e_De_canPut_48  h
def fb_De_canPut_40  (s0 : Int) (σ : kS) : kRes := kg ((s0 = 0 ∨ s0 = 1)) (some (some s0, σ))
theorem e_De_canPut_40 {l : Launch} {G : kG} {yf : Int} {σf : kS}  {s0 : Int}  {σ : kS} (h : fb_De_canPut_40  s0 σ = some (some yf, σf)) : Rn l G dm_De_canPut m_De_canPut (kI fun y' σ' => y' = yf ∧ σ' = σf) 40 [some (.inr (1, 0))] [.inl s0] σ := by
  unfold fb_De_canPut_40 at h
  obtain ⟨h1, h⟩ := kg_some h
  simp only [Option.some.injEq, Prod.mk.injEq, true_and] at h
  exact s_De_canPut_40 h1 ⟨_, rfl, h⟩
def fb_De_canPut_39   (σ : kS) : kRes := fb_De_canPut_40  0 σ
theorem e_De_canPut_39 {l : Launch} {G : kG} {yf : Int} {σf : kS}    {σ : kS} (h : fb_De_canPut_39   σ = some (some yf, σf)) : Rn l G dm_De_canPut m_De_canPut (kI fun y' σ' => y' = yf ∧ σ' = σf) 39 [some (.inr (1, 0))] [] σ := by
  unfold fb_De_canPut_39 at h
  refine s_De_canPut_39  ?_
  exact e_De_canPut_40  h
def fb_De_canPut_35   (σ : kS) : kRes := fb_De_canPut_40  1 σ
theorem e_De_canPut_35 {l : Launch} {G : kG} {yf : Int} {σf : kS}    {σ : kS} (h : fb_De_canPut_35   σ = some (some yf, σf)) : Rn l G dm_De_canPut m_De_canPut (kI fun y' σ' => y' = yf ∧ σ' = σf) 35 [some (.inr (1, 0))] [] σ := by
  unfold fb_De_canPut_35 at h
  refine s_De_canPut_35  ?_
  exact e_De_canPut_40  h
def fb_De_canPut_29  (s0 : Int) (s1 : Int) (σ : kS) : kRes := kg ((-2147483648 ≤ s1 + s0 ∧ s1 + s0 < 2147483648)) (if 20 < (s1 + s0) then fb_De_canPut_39  σ else fb_De_canPut_35  σ)
theorem e_De_canPut_29 {l : Launch} {G : kG} {yf : Int} {σf : kS}  {s0 : Int} {s1 : Int}  {σ : kS} (h : fb_De_canPut_29  s0 s1 σ = some (some yf, σf)) : Rn l G dm_De_canPut m_De_canPut (kI fun y' σ' => y' = yf ∧ σ' = σf) 29 [some (.inr (1, 0))] [.inl s0, .inl s1] σ := by
  unfold fb_De_canPut_29 at h
  obtain ⟨h1, h⟩ := kg_some h
  refine s_De_canPut_29 h1 (fun c => ?_) (fun c => ?_)
  · rw [if_pos c] at h
    exact e_De_canPut_39  h
  · rw [if_neg c] at h
    exact e_De_canPut_35  h
def fb_De_canPut_21  (s0 : Int) (σ : kS) : kRes := kbi (f_Te_sizeOf 0 3 σ) fun y σ1 => fb_De_canPut_29  y s0 σ1
theorem e_De_canPut_21 {l : Launch} {G : kG} {yf : Int} {σf : kS}  {s0 : Int}  {σ : kS} (h : fb_De_canPut_21  s0 σ = some (some yf, σf)) : Rn l G dm_De_canPut m_De_canPut (kI fun y' σ' => y' = yf ∧ σ' = σf) 21 [some (.inr (1, 0))] [.inl s0] σ := by
  unfold fb_De_canPut_21 at h
  obtain ⟨y, σ1, hc, h⟩ := kbi_some h
  refine s_De_canPut_21  (by decide) (E_Te_sizeOf hc) (fun y2 σ2 e2 => ?_)
  obtain ⟨rfl, rfl⟩ := e2
  exact e_De_canPut_29  h
def fb_De_canPut_7   (σ : kS) : kRes := kbi (f_Te_sizeOf (σ 2 0 3) 0 σ) fun y σ1 => fb_De_canPut_21  y σ1
theorem e_De_canPut_7 {l : Launch} {G : kG} {yf : Int} {σf : kS}    {σ : kS} (h : fb_De_canPut_7   σ = some (some yf, σf)) : Rn l G dm_De_canPut m_De_canPut (kI fun y' σ' => y' = yf ∧ σ' = σf) 7 [some (.inr (1, 0))] [] σ := by
  unfold fb_De_canPut_7 at h
  obtain ⟨y, σ1, hc, h⟩ := kbi_some h
  refine s_De_canPut_7  (by decide) (E_Te_sizeOf hc) (fun y2 σ2 e2 => ?_)
  obtain ⟨rfl, rfl⟩ := e2
  exact e_De_canPut_21  h
def fb_De_canPut_0   (σ : kS) : kRes := kg ((-2147483648 ≤ σ 1 0 4 ∧ σ 1 0 4 < 2147483648)) (if (σ 1 0 4) = 0 then fb_De_canPut_7  σ else fb_De_canPut_41  σ)
theorem e_De_canPut_0 {l : Launch} {G : kG} {yf : Int} {σf : kS}    {σ : kS} (h : fb_De_canPut_0   σ = some (some yf, σf)) : Rn l G dm_De_canPut m_De_canPut (kI fun y' σ' => y' = yf ∧ σ' = σf) 0 [some (.inr (1, 0))] [] σ := by
  unfold fb_De_canPut_0 at h
  obtain ⟨h1, h⟩ := kg_some h
  refine s_De_canPut_0 h1 (fun c => ?_) (fun c => ?_)
  · rw [if_neg c] at h
    exact e_De_canPut_41  h
  · rw [if_pos c] at h
    exact e_De_canPut_7  h
def f_De_canPut  (σ : kS) : kRes := fb_De_canPut_0  σ
theorem E_De_canPut {l : Launch} {G : kG} {yf : Int} {σf : kS}  {σ : kS} (h : f_De_canPut  σ = some (some yf, σf)) : Call l G dm_De_canPut y_De_canPut m_De_canPut [.inr (1, 0)] σ (kI fun y' σ' => y' = yf ∧ σ' = σf) := by
  unfold f_De_canPut at h
  exact Call.of (by decide +kernel) rfl (Nat.le_of_ble_eq_true rfl) (e_De_canPut_0 h)
/-! De_emptyLines -/
def fb_De_emptyLines_28  (x1 : Int) (x2 : Int) (σ : kS) : kRes := some (none, σ)
theorem e_De_emptyLines_28 {l : Launch} {G : kG} {σf : kS}  {x1 : Int} {x2 : Int}  {σ : kS} (h : fb_De_emptyLines_28  x1 x2 σ = some (none, σf)) : Rn l G dm_De_emptyLines m_De_emptyLines (kU fun σ' => σ' = σf) 28 [some (.inr (1, 0)), some (.inl x1), some (.inl x2)] [] σ := by
  unfold fb_De_emptyLines_28 at h
  simp only [Option.some.injEq, Prod.mk.injEq, true_and] at h
  exact s_De_emptyLines_28  ⟨rfl, h⟩
def fb_De_emptyLines_17  (x1 : Int) (x2 : Int) (σ : kS) : kRes := kbu (f_Te_closeLines (x1 + 1) x2 0 σ) fun σ1 => fb_De_emptyLines_28  x1 x2 σ1
theorem e_De_emptyLines_17 {l : Launch} {G : kG} {σf : kS}  {x1 : Int} {x2 : Int}  {σ : kS} (h : fb_De_emptyLines_17  x1 x2 σ = some (none, σf)) : Rn l G dm_De_emptyLines m_De_emptyLines (kU fun σ' => σ' = σf) 17 [some (.inr (1, 0)), some (.inl x1), some (.inl x2)] [] σ := by
  unfold fb_De_emptyLines_17 at h
  obtain ⟨σ1, hc, h⟩ := kbu_some h
  refine s_De_emptyLines_17  (by decide) (E_Te_closeLines hc) (fun σ2 e2 => ?_)
  subst e2
  exact e_De_emptyLines_28  h
def fb_De_emptyLines_14  (x1 : Int) (x2 : Int) (s0 : Int) (s1 : Int) (s2 : Int) (σ : kS) : kRes := kbu (f_Te_closeLetters s2 s1 s0 0 σ) fun σ1 => fb_De_emptyLines_17  x1 x2 σ1
theorem e_De_emptyLines_14 {l : Launch} {G : kG} {σf : kS}  {x1 : Int} {x2 : Int} {s0 : Int} {s1 : Int} {s2 : Int}  {σ : kS} (h : fb_De_emptyLines_14  x1 x2 s0 s1 s2 σ = some (none, σf)) : Rn l G dm_De_emptyLines m_De_emptyLines (kU fun σ' => σ' = σf) 14 [some (.inr (1, 0)), some (.inl x1), some (.inl x2)] [.inl s0, .inl s1, .inl s2, .inr (2, 0)] σ := by
  unfold fb_De_emptyLines_14 at h
  obtain ⟨σ1, hc, h⟩ := kbu_some h
  refine s_De_emptyLines_14  (by decide) (E_Te_closeLetters hc) (fun σ2 e2 => ?_)
  subst e2
  exact e_De_emptyLines_17  h
def fb_De_emptyLines_0  (x1 : Int) (x2 : Int) (σ : kS) : kRes := kbi (f_Te_sizeOf x1 0 σ) fun y σ1 => fb_De_emptyLines_14  x1 x2 y 0 x1 σ1
theorem e_De_emptyLines_0 {l : Launch} {G : kG} {σf : kS}  {x1 : Int} {x2 : Int}  {σ : kS} (h : fb_De_emptyLines_0  x1 x2 σ = some (none, σf)) : Rn l G dm_De_emptyLines m_De_emptyLines (kU fun σ' => σ' = σf) 0 [some (.inr (1, 0)), some (.inl x1), some (.inl x2)] [] σ := by
  unfold fb_De_emptyLines_0 at h
  obtain ⟨y, σ1, hc, h⟩ := kbi_some h
  refine s_De_emptyLines_0  (by decide) (E_Te_sizeOf hc) (fun y2 σ2 e2 => ?_)
  obtain ⟨rfl, rfl⟩ := e2
  exact e_De_emptyLines_14  h
def f_De_emptyLines (x1 : Int) (x2 : Int) (σ : kS) : kRes := fb_De_emptyLines_0 x1 x2 σ
theorem E_De_emptyLines {l : Launch} {G : kG} {σf : kS} {x1 : Int} {x2 : Int} {σ : kS} (h : f_De_emptyLines x1 x2 σ = some (none, σf)) : Call l G dm_De_emptyLines y_De_emptyLines m_De_emptyLines [.inr (1, 0), .inl x1, .inl x2] σ (kU fun σ' => σ' = σf) := by
  unfold f_De_emptyLines at h
  exact Call.of (by decide +kernel) rfl (Nat.le_of_ble_eq_true rfl) (e_De_emptyLines_0 h)
/-! De_exchange -/
def fb_De_exchange_42   (σ : kS) : kRes := some (some 1, σ)
theorem e_De_exchange_42 {l : Launch} {G : kG} {yf : Int} {σf : kS}    {σ : kS} (h : fb_De_exchange_42   σ = some (some yf, σf)) : Rn l G dm_De_exchange m_De_exchange (kI fun y' σ' => y' = yf ∧ σ' = σf) 42 [some (.inr (1, 0))] [] σ := by
  unfold fb_De_exchange_42 at h
  simp only [Option.some.injEq, Prod.mk.injEq, true_and] at h
  exact s_De_exchange_42  ⟨_, rfl, h⟩
def fb_De_exchange_31   (σ : kS) : kRes := kbu (f_Te_copy 1 2 σ) fun σ1 => fb_De_exchange_42  σ1
theorem e_De_exchange_31 {l : Launch} {G : kG} {yf : Int} {σf : kS}    {σ : kS} (h : fb_De_exchange_31   σ = some (some yf, σf)) : Rn l G dm_De_exchange m_De_exchange (kI fun y' σ' => y' = yf ∧ σ' = σf) 31 [some (.inr (1, 0))] [] σ := by
  unfold fb_De_exchange_31 at h
  obtain ⟨σ1, hc, h⟩ := kbu_some h
  refine s_De_exchange_31  (by decide) (E_Te_copy hc) (fun σ2 e2 => ?_)
  subst e2
  exact e_De_exchange_42  h
def fb_De_exchange_20   (σ : kS) : kRes := kbu (f_Te_copy 0 1 σ) fun σ1 => fb_De_exchange_31  σ1
theorem e_De_exchange_20 {l : Launch} {G : kG} {yf : Int} {σf : kS}    {σ : kS} (h : fb_De_exchange_20   σ = some (some yf, σf)) : Rn l G dm_De_exchange m_De_exchange (kI fun y' σ' => y' = yf ∧ σ' = σf) 20 [some (.inr (1, 0))] [] σ := by
  unfold fb_De_exchange_20 at h
  obtain ⟨σ1, hc, h⟩ := kbu_some h
  refine s_De_exchange_20  (by decide) (E_Te_copy hc) (fun σ2 e2 => ?_)
  subst e2
  exact e_De_exchange_31  h
def fb_De_exchange_9   (σ : kS) : kRes := kbu (f_Te_copy 2 0 σ) fun σ1 => fb_De_exchange_20  σ1
theorem e_De_exchange_9 {l : Launch} {G : kG} {yf : Int} {σf : kS}    {σ : kS} (h : fb_De_exchange_9   σ = some (some yf, σf)) : Rn l G dm_De_exchange m_De_exchange (kI fun y' σ' => y' = yf ∧ σ' = σf) 9 [some (.inr (1, 0))] [] σ := by
  unfold fb_De_exchange_9 at h
  obtain ⟨σ1, hc, h⟩ := kbu_some h
  refine s_De_exchange_9  (by decide) (E_Te_copy hc) (fun σ2 e2 => ?_)
  subst e2
  exact e_De_exchange_20  h
def fb_De_exchange_7   (σ : kS) : kRes := some (some 0, σ)
theorem e_De_exchange_7 {l : Launch} {G : kG} {yf : Int} {σf : kS}    {σ : kS} (h : fb_De_exchange_7   σ = some (some yf, σf)) : Rn l G dm_De_exchange m_De_exchange (kI fun y' σ' => y' = yf ∧ σ' = σf) 7 [some (.inr (1, 0))] [] σ := by
  unfold fb_De_exchange_7 at h
  simp only [Option.some.injEq, Prod.mk.injEq, true_and] at h
  exact s_De_exchange_7  ⟨_, rfl, h⟩
def fb_De_exchange_0   (σ : kS) : kRes := kg ((-2147483648 ≤ σ 1 0 5 ∧ σ 1 0 5 < 2147483648)) (if (σ 1 0 5) = 0 then fb_De_exchange_7  σ else fb_De_exchange_9  σ)
theorem e_De_exchange_0 {l : Launch} {G : kG} {yf : Int} {σf : kS}    {σ : kS} (h : fb_De_exchange_0   σ = some (some yf, σf)) : Rn l G dm_De_exchange m_De_exchange (kI fun y' σ' => y' = yf ∧ σ' = σf) 0 [some (.inr (1, 0))] [] σ := by
  unfold fb_De_exchange_0 at h
  obtain ⟨h1, h⟩ := kg_some h
  refine s_De_exchange_0 h1 (fun c => ?_) (fun c => ?_)
  · rw [if_neg c] at h
    exact e_De_exchange_9  h
  · rw [if_pos c] at h
    exact e_De_exchange_7  h
def f_De_exchange  (σ : kS) : kRes := fb_De_exchange_0  σ
theorem E_De_exchange {l : Launch} {G : kG} {yf : Int} {σf : kS}  {σ : kS} (h : f_De_exchange  σ = some (some yf, σf)) : Call l G dm_De_exchange y_De_exchange m_De_exchange [.inr (1, 0)] σ (kI fun y' σ' => y' = yf ∧ σ' = σf) := by
  unfold f_De_exchange at h
  exact Call.of (by decide +kernel) rfl (Nat.le_of_ble_eq_true rfl) (e_De_exchange_0 h)
/-! Te_copyLetters -/
def fb_Te_copyLetters_71  (x2 : Int) (x3 : Int) (x4 : Int) (t : Nat) (u : Nat) (σ : kS) : kRes := some (none, σ)
theorem e_Te_copyLetters_71 {l : Launch} {G : kG} {σf : kS}  {x2 : Int} {x3 : Int} {x4 : Int} {t : Nat} {u : Nat}  {σ : kS} (h : fb_Te_copyLetters_71  x2 x3 x4 t u σ = some (none, σf)) : Rn l G dm_Te_copyLetters m_Te_copyLetters (kU fun σ' => σ' = σf) 71 [some (.inr (2, t)), some (.inr (2, u)), some (.inl x2), some (.inl x3), some (.inl x4)] [] σ := by
  unfold fb_Te_copyLetters_71 at h
  simp only [Option.some.injEq, Prod.mk.injEq, true_and] at h
  exact s_Te_copyLetters_71  ⟨rfl, h⟩
def fb_Te_copyLetters_34  (x2 : Int) (x3 : Int) (x4 : Int) (t : Nat) (u : Nat) (σ : kS) : kRes := kg (((0 : Int) ≤ ((x2 * 20) + x3) ∧ (0 : Int) ≤ 0 ∧ (0 : Int) ≤ (x4 - x3) ∧ ((x2 * 20) + x3) + (x4 - x3) ≤ ((200 : Nat) : Int) ∧ 0 + (x4 - x3) ≤ ((200 : Nat) : Int))) (fb_Te_copyLetters_71  x2 x3 x4 t u (kupA (kup (kup σ 2 t 2 1) 11 t 0 (x4 - x3)) 10 t (va_cpy ((kup (kup σ 2 t 2 1) 11 t 0 (x4 - x3)) 10 u) ((kup (kup σ 2 t 2 1) 11 t 0 (x4 - x3)) 10 t) (Int.toNat ((x2 * 20) + x3)) (0) (Int.toNat (x4 - x3)))))
theorem e_Te_copyLetters_34 {l : Launch} {G : kG} {σf : kS}  {x2 : Int} {x3 : Int} {x4 : Int} {t : Nat} {u : Nat}  {σ : kS} (h : fb_Te_copyLetters_34  x2 x3 x4 t u σ = some (none, σf)) : Rn l G dm_Te_copyLetters m_Te_copyLetters (kU fun σ' => σ' = σf) 34 [some (.inr (2, t)), some (.inr (2, u)), some (.inl x2), some (.inl x3), some (.inl x4)] [] σ := by
  unfold fb_Te_copyLetters_34 at h
  obtain ⟨h1, h⟩ := kg_some h
  refine s_Te_copyLetters_34 h1 (by decide) ?_
  exact e_Te_copyLetters_71  h
def fb_Te_copyLetters_33  (x2 : Int) (x3 : Int) (x4 : Int) (t : Nat) (u : Nat) (σ : kS) : kRes := some (none, σ)
theorem e_Te_copyLetters_33 {l : Launch} {G : kG} {σf : kS}  {x2 : Int} {x3 : Int} {x4 : Int} {t : Nat} {u : Nat}  {σ : kS} (h : fb_Te_copyLetters_33  x2 x3 x4 t u σ = some (none, σf)) : Rn l G dm_Te_copyLetters m_Te_copyLetters (kU fun σ' => σ' = σf) 33 [some (.inr (2, t)), some (.inr (2, u)), some (.inl x2), some (.inl x3), some (.inl x4)] [] σ := by
  unfold fb_Te_copyLetters_33 at h
  simp only [Option.some.injEq, Prod.mk.injEq, true_and] at h
  exact s_Te_copyLetters_33  ⟨rfl, h⟩
def fb_Te_copyLetters_22  (x2 : Int) (x3 : Int) (x4 : Int) (t : Nat) (u : Nat) (σ : kS) : kRes := kg ((0 ≤ x2 ∧ x2 < (10 : Nat)) ∧ (-2147483648 ≤ x4 ∧ x4 < 2147483648) ∧ (-2147483648 ≤ σ 11 u (Int.toNat x2) ∧ σ 11 u (Int.toNat x2) < 2147483648)) (if x4 ≤ (σ 11 u (Int.toNat x2)) then fb_Te_copyLetters_34  x2 x3 x4 t u σ else fb_Te_copyLetters_33  x2 x3 x4 t u σ)
theorem e_Te_copyLetters_22 {l : Launch} {G : kG} {σf : kS}  {x2 : Int} {x3 : Int} {x4 : Int} {t : Nat} {u : Nat}  {σ : kS} (h : fb_Te_copyLetters_22  x2 x3 x4 t u σ = some (none, σf)) : Rn l G dm_Te_copyLetters m_Te_copyLetters (kU fun σ' => σ' = σf) 22 [some (.inr (2, t)), some (.inr (2, u)), some (.inl x2), some (.inl x3), some (.inl x4)] [] σ := by
  unfold fb_Te_copyLetters_22 at h
  obtain ⟨⟨h1, h2, h3⟩, h⟩ := kg_some h
  refine s_Te_copyLetters_22 h1 h2 h3 (fun c => ?_) (fun c => ?_)
  · rw [if_pos c] at h
    exact e_Te_copyLetters_34  h
  · rw [if_neg c] at h
    exact e_Te_copyLetters_33  h
def fb_Te_copyLetters_16  (x2 : Int) (x3 : Int) (x4 : Int) (t : Nat) (u : Nat) (σ : kS) : kRes := kg ((-2147483648 ≤ x4 ∧ x4 < 2147483648) ∧ (-2147483648 ≤ x3 ∧ x3 < 2147483648)) (if x4 < x3 then fb_Te_copyLetters_33  x2 x3 x4 t u σ else fb_Te_copyLetters_22  x2 x3 x4 t u σ)
theorem e_Te_copyLetters_16 {l : Launch} {G : kG} {σf : kS}  {x2 : Int} {x3 : Int} {x4 : Int} {t : Nat} {u : Nat}  {σ : kS} (h : fb_Te_copyLetters_16  x2 x3 x4 t u σ = some (none, σf)) : Rn l G dm_Te_copyLetters m_Te_copyLetters (kU fun σ' => σ' = σf) 16 [some (.inr (2, t)), some (.inr (2, u)), some (.inl x2), some (.inl x3), some (.inl x4)] [] σ := by
  unfold fb_Te_copyLetters_16 at h
  obtain ⟨⟨h1, h2⟩, h⟩ := kg_some h
  refine s_Te_copyLetters_16 h1 h2 (fun c => ?_) (fun c => ?_)
  · rw [if_pos c] at h
    exact e_Te_copyLetters_33  h
  · rw [if_neg c] at h
    exact e_Te_copyLetters_22  h
def fb_Te_copyLetters_12  (x2 : Int) (x3 : Int) (x4 : Int) (t : Nat) (u : Nat) (σ : kS) : kRes := kg ((-2147483648 ≤ x3 ∧ x3 < 2147483648)) (if x3 < 0 then fb_Te_copyLetters_33  x2 x3 x4 t u σ else fb_Te_copyLetters_16  x2 x3 x4 t u σ)
theorem e_Te_copyLetters_12 {l : Launch} {G : kG} {σf : kS}  {x2 : Int} {x3 : Int} {x4 : Int} {t : Nat} {u : Nat}  {σ : kS} (h : fb_Te_copyLetters_12  x2 x3 x4 t u σ = some (none, σf)) : Rn l G dm_Te_copyLetters m_Te_copyLetters (kU fun σ' => σ' = σf) 12 [some (.inr (2, t)), some (.inr (2, u)), some (.inl x2), some (.inl x3), some (.inl x4)] [] σ := by
  unfold fb_Te_copyLetters_12 at h
  obtain ⟨h1, h⟩ := kg_some h
  refine s_Te_copyLetters_12 h1 (fun c => ?_) (fun c => ?_)
  · rw [if_pos c] at h
    exact e_Te_copyLetters_33  h
  · rw [if_neg c] at h
    exact e_Te_copyLetters_16  h
def fb_Te_copyLetters_4  (x2 : Int) (x3 : Int) (x4 : Int) (t : Nat) (u : Nat) (σ : kS) : kRes := kg ((-2147483648 ≤ x2 ∧ x2 < 2147483648) ∧ (-2147483648 ≤ σ 2 u 2 ∧ σ 2 u 2 < 2147483648)) (if (σ 2 u 2) ≤ x2 then fb_Te_copyLetters_33  x2 x3 x4 t u σ else fb_Te_copyLetters_12  x2 x3 x4 t u σ)
theorem e_Te_copyLetters_4 {l : Launch} {G : kG} {σf : kS}  {x2 : Int} {x3 : Int} {x4 : Int} {t : Nat} {u : Nat}  {σ : kS} (h : fb_Te_copyLetters_4  x2 x3 x4 t u σ = some (none, σf)) : Rn l G dm_Te_copyLetters m_Te_copyLetters (kU fun σ' => σ' = σf) 4 [some (.inr (2, t)), some (.inr (2, u)), some (.inl x2), some (.inl x3), some (.inl x4)] [] σ := by
  unfold fb_Te_copyLetters_4 at h
  obtain ⟨⟨h1, h2⟩, h⟩ := kg_some h
  refine s_Te_copyLetters_4 h1 h2 (fun c => ?_) (fun c => ?_)
  · rw [if_pos c] at h
    exact e_Te_copyLetters_33  h
  · rw [if_neg c] at h
    exact e_Te_copyLetters_12  h
def fb_Te_copyLetters_0  (x2 : Int) (x3 : Int) (x4 : Int) (t : Nat) (u : Nat) (σ : kS) : kRes := kg ((-2147483648 ≤ x2 ∧ x2 < 2147483648)) (if x2 < 0 then fb_Te_copyLetters_33  x2 x3 x4 t u σ else fb_Te_copyLetters_4  x2 x3 x4 t u σ)
theorem e_Te_copyLetters_0 {l : Launch} {G : kG} {σf : kS}  {x2 : Int} {x3 : Int} {x4 : Int} {t : Nat} {u : Nat}  {σ : kS} (h : fb_Te_copyLetters_0  x2 x3 x4 t u σ = some (none, σf)) : Rn l G dm_Te_copyLetters m_Te_copyLetters (kU fun σ' => σ' = σf) 0 [some (.inr (2, t)), some (.inr (2, u)), some (.inl x2), some (.inl x3), some (.inl x4)] [] σ := by
  unfold fb_Te_copyLetters_0 at h
  obtain ⟨h1, h⟩ := kg_some h
  refine s_Te_copyLetters_0 h1 (fun c => ?_) (fun c => ?_)
  · rw [if_pos c] at h
    exact e_Te_copyLetters_33  h
  · rw [if_neg c] at h
    exact e_Te_copyLetters_4  h
def f_Te_copyLetters (x2 : Int) (x3 : Int) (x4 : Int) (t : Nat) (u : Nat) (σ : kS) : kRes := fb_Te_copyLetters_0 x2 x3 x4 t u σ
theorem E_Te_copyLetters {l : Launch} {G : kG} {σf : kS} {x2 : Int} {x3 : Int} {x4 : Int} {t : Nat} {u : Nat} {σ : kS} (h : f_Te_copyLetters x2 x3 x4 t u σ = some (none, σf)) : Call l G dm_Te_copyLetters y_Te_copyLetters m_Te_copyLetters [.inr (2, t), .inr (2, u), .inl x2, .inl x3, .inl x4] σ (kU fun σ' => σ' = σf) := by
  unfold f_Te_copyLetters at h
  exact Call.of (by decide +kernel) rfl (Nat.le_of_ble_eq_true rfl) (e_Te_copyLetters_0 h)
/-! De_holdLetters -/
def fb_De_holdLetters_20  (x1 : Int) (x2 : Int) (σ : kS) : kRes := some (none, kup σ 1 0 4 0)
theorem e_De_holdLetters_20 {l : Launch} {G : kG} {σf : kS}  {x1 : Int} {x2 : Int}  {σ : kS} (h : fb_De_holdLetters_20  x1 x2 σ = some (none, σf)) : Rn l G dm_De_holdLetters m_De_holdLetters (kU fun σ' => σ' = σf) 20 [some (.inr (1, 0)), some (.inl x1), some (.inl x2)] [] σ := by
  unfold fb_De_holdLetters_20 at h
  simp only [Option.some.injEq, Prod.mk.injEq, true_and] at h
  exact s_De_holdLetters_20  ⟨rfl, h⟩
def fb_De_holdLetters_0  (x1 : Int) (x2 : Int) (σ : kS) : kRes := kbu (f_Te_copyLetters (σ 2 0 3) x1 x2 3 0 σ) fun σ1 => fb_De_holdLetters_20  x1 x2 σ1
theorem e_De_holdLetters_0 {l : Launch} {G : kG} {σf : kS}  {x1 : Int} {x2 : Int}  {σ : kS} (h : fb_De_holdLetters_0  x1 x2 σ = some (none, σf)) : Rn l G dm_De_holdLetters m_De_holdLetters (kU fun σ' => σ' = σf) 0 [some (.inr (1, 0)), some (.inl x1), some (.inl x2)] [] σ := by
  unfold fb_De_holdLetters_0 at h
  obtain ⟨σ1, hc, h⟩ := kbu_some h
  refine s_De_holdLetters_0  (by decide) (E_Te_copyLetters hc) (fun σ2 e2 => ?_)
  subst e2
  exact e_De_holdLetters_20  h
def f_De_holdLetters (x1 : Int) (x2 : Int) (σ : kS) : kRes := fb_De_holdLetters_0 x1 x2 σ
theorem E_De_holdLetters {l : Launch} {G : kG} {σf : kS} {x1 : Int} {x2 : Int} {σ : kS} (h : f_De_holdLetters x1 x2 σ = some (none, σf)) : Call l G dm_De_holdLetters y_De_holdLetters m_De_holdLetters [.inr (1, 0), .inl x1, .inl x2] σ (kU fun σ' => σ' = σf) := by
  unfold f_De_holdLetters at h
  exact Call.of (by decide +kernel) rfl (Nat.le_of_ble_eq_true rfl) (e_De_holdLetters_0 h)
/-! De_putLetters -/
def fb_De_putLetters_79  (x1 : Int) (x2 : Int) (σ : kS) : kRes := some (none, σ)
theorem e_De_putLetters_79 {l : Launch} {G : kG} {σf : kS}  {x1 : Int} {x2 : Int}  {σ : kS} (h : fb_De_putLetters_79  x1 x2 σ = some (none, σf)) : Rn l G dm_De_putLetters m_De_putLetters (kU fun σ' => σ' = σf) 79 [some (.inr (1, 0)), some (.inl x1), some (.inl x2)] [] σ := by
  unfold fb_De_putLetters_79 at h
  simp only [Option.some.injEq, Prod.mk.injEq, true_and] at h
  exact s_De_putLetters_79  ⟨rfl, h⟩
def fb_De_putLetters_60  (x1 : Int) (x2 : Int) (σ : kS) : kRes := kbu (f_Te_stand (σ 2 0 3) ((x1 + x2) - 1) 0 σ) fun σ1 => fb_De_putLetters_79  x1 x2 σ1
theorem e_De_putLetters_60 {l : Launch} {G : kG} {σf : kS}  {x1 : Int} {x2 : Int}  {σ : kS} (h : fb_De_putLetters_60  x1 x2 σ = some (none, σf)) : Rn l G dm_De_putLetters m_De_putLetters (kU fun σ' => σ' = σf) 60 [some (.inr (1, 0)), some (.inl x1), some (.inl x2)] [] σ := by
  unfold fb_De_putLetters_60 at h
  obtain ⟨σ1, hc, h⟩ := kbu_some h
  refine s_De_putLetters_60  (by decide) (E_Te_stand hc) (fun σ2 e2 => ?_)
  subst e2
  exact e_De_putLetters_79  h
def fb_De_putLetters_29  (x1 : Int) (x2 : Int) (σ : kS) : kRes := kg (((0 : Int) ≤ 0 ∧ (0 : Int) ≤ (((σ 2 0 3) * 20) + x1) ∧ (0 : Int) ≤ x2 ∧ 0 + x2 ≤ ((200 : Nat) : Int) ∧ (((σ 2 0 3) * 20) + x1) + x2 ≤ ((200 : Nat) : Int))) (fb_De_putLetters_60  x1 x2 (kupA σ 10 0 (va_cpy (σ 10 3) (σ 10 0) (0) (Int.toNat (((σ 2 0 3) * 20) + x1)) (Int.toNat x2))))
theorem e_De_putLetters_29 {l : Launch} {G : kG} {σf : kS}  {x1 : Int} {x2 : Int}  {σ : kS} (h : fb_De_putLetters_29  x1 x2 σ = some (none, σf)) : Rn l G dm_De_putLetters m_De_putLetters (kU fun σ' => σ' = σf) 29 [some (.inr (1, 0)), some (.inl x1), some (.inl x2)] [] σ := by
  unfold fb_De_putLetters_29 at h
  obtain ⟨h1, h⟩ := kg_some h
  refine s_De_putLetters_29 h1 (by decide) ?_
  exact e_De_putLetters_60  h
def fb_De_putLetters_28  (x1 : Int) (x2 : Int) (σ : kS) : kRes := some (none, σ)
theorem e_De_putLetters_28 {l : Launch} {G : kG} {σf : kS}  {x1 : Int} {x2 : Int}  {σ : kS} (h : fb_De_putLetters_28  x1 x2 σ = some (none, σf)) : Rn l G dm_De_putLetters m_De_putLetters (kU fun σ' => σ' = σf) 28 [some (.inr (1, 0)), some (.inl x1), some (.inl x2)] [] σ := by
  unfold fb_De_putLetters_28 at h
  simp only [Option.some.injEq, Prod.mk.injEq, true_and] at h
  exact s_De_putLetters_28  ⟨rfl, h⟩
def fb_De_putLetters_25  (x1 : Int) (x2 : Int) (s0 : Int) (σ : kS) : kRes := kg ((-2147483648 ≤ s0 ∧ s0 < 2147483648)) (if s0 = 0 then fb_De_putLetters_28  x1 x2 σ else fb_De_putLetters_29  x1 x2 σ)
theorem e_De_putLetters_25 {l : Launch} {G : kG} {σf : kS}  {x1 : Int} {x2 : Int} {s0 : Int}  {σ : kS} (h : fb_De_putLetters_25  x1 x2 s0 σ = some (none, σf)) : Rn l G dm_De_putLetters m_De_putLetters (kU fun σ' => σ' = σf) 25 [some (.inr (1, 0)), some (.inl x1), some (.inl x2)] [.inl s0] σ := by
  unfold fb_De_putLetters_25 at h
  obtain ⟨h1, h⟩ := kg_some h
  refine s_De_putLetters_25 h1 (fun c => ?_) (fun c => ?_)
  · rw [if_neg c] at h
    exact e_De_putLetters_29  h
  · rw [if_pos c] at h
    exact e_De_putLetters_28  h
def fb_De_putLetters_8  (x1 : Int) (s0 : Int) (σ : kS) : kRes := kbi (f_Te_openLetters (σ 2 0 3) x1 s0 0 σ) fun y σ1 => fb_De_putLetters_25  x1 s0 y σ1
theorem e_De_putLetters_8 {l : Launch} {G : kG} {σf : kS}  {x1 : Int} {s0 : Int} {o2 : Option kV} {σ : kS} (h : fb_De_putLetters_8  x1 s0 σ = some (none, σf)) : Rn l G dm_De_putLetters m_De_putLetters (kU fun σ' => σ' = σf) 8 [some (.inr (1, 0)), some (.inl x1), o2] [.inl s0] σ := by
  unfold fb_De_putLetters_8 at h
  obtain ⟨y, σ1, hc, h⟩ := kbi_some h
  refine s_De_putLetters_8  (by decide) (E_Te_openLetters hc) (fun y2 σ2 e2 => ?_)
  obtain ⟨rfl, rfl⟩ := e2
  exact e_De_putLetters_25  h
def fb_De_putLetters_0  (x1 : Int) (σ : kS) : kRes := kbi (f_Te_sizeOf 0 3 σ) fun y σ1 => fb_De_putLetters_8  x1 y σ1
theorem e_De_putLetters_0 {l : Launch} {G : kG} {σf : kS}  {x1 : Int} {o2 : Option kV} {σ : kS} (h : fb_De_putLetters_0  x1 σ = some (none, σf)) : Rn l G dm_De_putLetters m_De_putLetters (kU fun σ' => σ' = σf) 0 [some (.inr (1, 0)), some (.inl x1), o2] [] σ := by
  unfold fb_De_putLetters_0 at h
  obtain ⟨y, σ1, hc, h⟩ := kbi_some h
  refine s_De_putLetters_0  (by decide) (E_Te_sizeOf hc) (fun y2 σ2 e2 => ?_)
  obtain ⟨rfl, rfl⟩ := e2
  exact e_De_putLetters_8  h
def f_De_putLetters (x1 : Int) (σ : kS) : kRes := fb_De_putLetters_0 x1 σ
theorem E_De_putLetters {l : Launch} {G : kG} {σf : kS} {x1 : Int} {σ : kS} (h : f_De_putLetters x1 σ = some (none, σf)) : Call l G dm_De_putLetters y_De_putLetters m_De_putLetters [.inr (1, 0), .inl x1] σ (kU fun σ' => σ' = σf) := by
  unfold f_De_putLetters at h
  exact Call.of (by decide +kernel) rfl (Nat.le_of_ble_eq_true rfl) (e_De_putLetters_0 h)
/-! Te_openLines -/
def fb_Te_openLines_89  (x1 : Int) (x2 : Int) (x3 : Int) (t : Nat) (σ : kS) : kRes := some (some 1, kup σ 2 t 2 ((σ 2 t 2) + x2))
theorem e_Te_openLines_89 {l : Launch} {G : kG} {yf : Int} {σf : kS}  {x1 : Int} {x2 : Int} {x3 : Int} {t : Nat}  {σ : kS} (h : fb_Te_openLines_89  x1 x2 x3 t σ = some (some yf, σf)) : Rn l G dm_Te_openLines m_Te_openLines (kI fun y' σ' => y' = yf ∧ σ' = σf) 89 [some (.inr (2, t)), some (.inl x1), some (.inl x2), some (.inl x3)] [] σ := by
  unfold fb_Te_openLines_89 at h
  simp only [Option.some.injEq, Prod.mk.injEq, true_and] at h
  exact s_Te_openLines_89  ⟨_, rfl, h⟩
def fb_Te_openLines_77  (x1 : Int) (x2 : Int) (x3 : Int) (t : Nat) (σ : kS) : kRes := kbu (f2_Ar_fill4 x1 (x1 + x2) 0 t σ) fun σ1 => fb_Te_openLines_89  x1 x2 x3 t σ1
theorem e_Te_openLines_77 {l : Launch} {G : kG} {yf : Int} {σf : kS}  {x1 : Int} {x2 : Int} {x3 : Int} {t : Nat}  {σ : kS} (h : fb_Te_openLines_77  x1 x2 x3 t σ = some (some yf, σf)) : Rn l G dm_Te_openLines m_Te_openLines (kI fun y' σ' => y' = yf ∧ σ' = σf) 77 [some (.inr (2, t)), some (.inl x1), some (.inl x2), some (.inl x3)] [] σ := by
  unfold fb_Te_openLines_77 at h
  obtain ⟨σ1, hc, h⟩ := kbu_some h
  refine s_Te_openLines_77  (by decide) (E2_Ar_fill4 hc) (fun σ2 e2 => ?_)
  subst e2
  exact e_Te_openLines_89  h
def fb_Te_openLines_61  (x1 : Int) (x2 : Int) (x3 : Int) (t : Nat) (σ : kS) : kRes := kg (((0 : Int) ≤ x1 ∧ (0 : Int) ≤ (x1 + x2) ∧ (0 : Int) ≤ x3 ∧ x1 + x3 ≤ ((10 : Nat) : Int) ∧ (x1 + x2) + x3 ≤ ((10 : Nat) : Int))) (fb_Te_openLines_77  x1 x2 x3 t (kupA σ 11 t (va_cpy (σ 11 t) (σ 11 t) (Int.toNat x1) (Int.toNat (x1 + x2)) (Int.toNat x3))))
theorem e_Te_openLines_61 {l : Launch} {G : kG} {yf : Int} {σf : kS}  {x1 : Int} {x2 : Int} {x3 : Int} {t : Nat}  {σ : kS} (h : fb_Te_openLines_61  x1 x2 x3 t σ = some (some yf, σf)) : Rn l G dm_Te_openLines m_Te_openLines (kI fun y' σ' => y' = yf ∧ σ' = σf) 61 [some (.inr (2, t)), some (.inl x1), some (.inl x2), some (.inl x3)] [] σ := by
  unfold fb_Te_openLines_61 at h
  obtain ⟨h1, h⟩ := kg_some h
  refine s_Te_openLines_61 h1 (by decide) ?_
  exact e_Te_openLines_77  h
def fb_Te_openLines_29  (x1 : Int) (x2 : Int) (t : Nat) (σ : kS) : kRes := kg (((0 : Int) ≤ (x1 * 20) ∧ (0 : Int) ≤ ((x1 + x2) * 20) ∧ (0 : Int) ≤ (((σ 2 t 2) - x1) * 20) ∧ (x1 * 20) + (((σ 2 t 2) - x1) * 20) ≤ ((200 : Nat) : Int) ∧ ((x1 + x2) * 20) + (((σ 2 t 2) - x1) * 20) ≤ ((200 : Nat) : Int))) (fb_Te_openLines_61  x1 x2 ((σ 2 t 2) - x1) t (kupA σ 10 t (va_cpy (σ 10 t) (σ 10 t) (Int.toNat (x1 * 20)) (Int.toNat ((x1 + x2) * 20)) (Int.toNat (((σ 2 t 2) - x1) * 20)))))
theorem e_Te_openLines_29 {l : Launch} {G : kG} {yf : Int} {σf : kS}  {x1 : Int} {x2 : Int} {t : Nat} {o3 : Option kV} {σ : kS} (h : fb_Te_openLines_29  x1 x2 t σ = some (some yf, σf)) : Rn l G dm_Te_openLines m_Te_openLines (kI fun y' σ' => y' = yf ∧ σ' = σf) 29 [some (.inr (2, t)), some (.inl x1), some (.inl x2), o3] [] σ := by
  unfold fb_Te_openLines_29 at h
  obtain ⟨h1, h⟩ := kg_some h
  refine s_Te_openLines_29 h1 (by decide) ?_
  exact e_Te_openLines_61  h
def fb_Te_openLines_27  (x1 : Int) (x2 : Int) (t : Nat) (σ : kS) : kRes := some (some 0, σ)
theorem e_Te_openLines_27 {l : Launch} {G : kG} {yf : Int} {σf : kS}  {x1 : Int} {x2 : Int} {t : Nat} {o3 : Option kV} {σ : kS} (h : fb_Te_openLines_27  x1 x2 t σ = some (some yf, σf)) : Rn l G dm_Te_openLines m_Te_openLines (kI fun y' σ' => y' = yf ∧ σ' = σf) 27 [some (.inr (2, t)), some (.inl x1), some (.inl x2), o3] [] σ := by
  unfold fb_Te_openLines_27 at h
  simp only [Option.some.injEq, Prod.mk.injEq, true_and] at h
  exact s_Te_openLines_27  ⟨_, rfl, h⟩
def fb_Te_openLines_16  (x1 : Int) (x2 : Int) (t : Nat) (σ : kS) : kRes := kg ((-2147483648 ≤ (σ 2 t 2) + x2 ∧ (σ 2 t 2) + x2 < 2147483648)) (if ((σ 2 t 2) + x2) ≤ 10 then fb_Te_openLines_29  x1 x2 t σ else fb_Te_openLines_27  x1 x2 t σ)
theorem e_Te_openLines_16 {l : Launch} {G : kG} {yf : Int} {σf : kS}  {x1 : Int} {x2 : Int} {t : Nat} {o3 : Option kV} {σ : kS} (h : fb_Te_openLines_16  x1 x2 t σ = some (some yf, σf)) : Rn l G dm_Te_openLines m_Te_openLines (kI fun y' σ' => y' = yf ∧ σ' = σf) 16 [some (.inr (2, t)), some (.inl x1), some (.inl x2), o3] [] σ := by
  unfold fb_Te_openLines_16 at h
  obtain ⟨h1, h⟩ := kg_some h
  refine s_Te_openLines_16 h1 (fun c => ?_) (fun c => ?_)
  · rw [if_pos c] at h
    exact e_Te_openLines_29  h
  · rw [if_neg c] at h
    exact e_Te_openLines_27  h
def fb_Te_openLines_12  (x1 : Int) (x2 : Int) (t : Nat) (σ : kS) : kRes := kg ((-2147483648 ≤ x2 ∧ x2 < 2147483648)) (if x2 < 0 then fb_Te_openLines_27  x1 x2 t σ else fb_Te_openLines_16  x1 x2 t σ)
theorem e_Te_openLines_12 {l : Launch} {G : kG} {yf : Int} {σf : kS}  {x1 : Int} {x2 : Int} {t : Nat} {o3 : Option kV} {σ : kS} (h : fb_Te_openLines_12  x1 x2 t σ = some (some yf, σf)) : Rn l G dm_Te_openLines m_Te_openLines (kI fun y' σ' => y' = yf ∧ σ' = σf) 12 [some (.inr (2, t)), some (.inl x1), some (.inl x2), o3] [] σ := by
  unfold fb_Te_openLines_12 at h
  obtain ⟨h1, h⟩ := kg_some h
  refine s_Te_openLines_12 h1 (fun c => ?_) (fun c => ?_)
  · rw [if_pos c] at h
    exact e_Te_openLines_27  h
  · rw [if_neg c] at h
    exact e_Te_openLines_16  h
def fb_Te_openLines_4  (x1 : Int) (x2 : Int) (t : Nat) (σ : kS) : kRes := kg ((-2147483648 ≤ x1 ∧ x1 < 2147483648) ∧ (-2147483648 ≤ σ 2 t 2 ∧ σ 2 t 2 < 2147483648)) (if (σ 2 t 2) < x1 then fb_Te_openLines_27  x1 x2 t σ else fb_Te_openLines_12  x1 x2 t σ)
theorem e_Te_openLines_4 {l : Launch} {G : kG} {yf : Int} {σf : kS}  {x1 : Int} {x2 : Int} {t : Nat} {o3 : Option kV} {σ : kS} (h : fb_Te_openLines_4  x1 x2 t σ = some (some yf, σf)) : Rn l G dm_Te_openLines m_Te_openLines (kI fun y' σ' => y' = yf ∧ σ' = σf) 4 [some (.inr (2, t)), some (.inl x1), some (.inl x2), o3] [] σ := by
  unfold fb_Te_openLines_4 at h
  obtain ⟨⟨h1, h2⟩, h⟩ := kg_some h
  refine s_Te_openLines_4 h1 h2 (fun c => ?_) (fun c => ?_)
  · rw [if_pos c] at h
    exact e_Te_openLines_27  h
  · rw [if_neg c] at h
    exact e_Te_openLines_12  h
def fb_Te_openLines_0  (x1 : Int) (x2 : Int) (t : Nat) (σ : kS) : kRes := kg ((-2147483648 ≤ x1 ∧ x1 < 2147483648)) (if x1 < 0 then fb_Te_openLines_27  x1 x2 t σ else fb_Te_openLines_4  x1 x2 t σ)
theorem e_Te_openLines_0 {l : Launch} {G : kG} {yf : Int} {σf : kS}  {x1 : Int} {x2 : Int} {t : Nat} {o3 : Option kV} {σ : kS} (h : fb_Te_openLines_0  x1 x2 t σ = some (some yf, σf)) : Rn l G dm_Te_openLines m_Te_openLines (kI fun y' σ' => y' = yf ∧ σ' = σf) 0 [some (.inr (2, t)), some (.inl x1), some (.inl x2), o3] [] σ := by
  unfold fb_Te_openLines_0 at h
  obtain ⟨h1, h⟩ := kg_some h
  refine s_Te_openLines_0 h1 (fun c => ?_) (fun c => ?_)
  · rw [if_pos c] at h
    exact e_Te_openLines_27  h
  · rw [if_neg c] at h
    exact e_Te_openLines_4  h
def f_Te_openLines (x1 : Int) (x2 : Int) (t : Nat) (σ : kS) : kRes := fb_Te_openLines_0 x1 x2 t σ
theorem E_Te_openLines {l : Launch} {G : kG} {yf : Int} {σf : kS} {x1 : Int} {x2 : Int} {t : Nat} {σ : kS} (h : f_Te_openLines x1 x2 t σ = some (some yf, σf)) : Call l G dm_Te_openLines y_Te_openLines m_Te_openLines [.inr (2, t), .inl x1, .inl x2] σ (kI fun y' σ' => y' = yf ∧ σ' = σf) := by
  unfold f_Te_openLines at h
  exact Call.of (by decide +kernel) rfl (Nat.le_of_ble_eq_true rfl) (e_Te_openLines_0 h)
/-! De_putLines -/
def fb_De_putLines_77  (x1 : Int) (σ : kS) : kRes := some (none, σ)
theorem e_De_putLines_77 {l : Launch} {G : kG} {σf : kS}  {x1 : Int}  {σ : kS} (h : fb_De_putLines_77  x1 σ = some (none, σf)) : Rn l G dm_De_putLines m_De_putLines (kU fun σ' => σ' = σf) 77 [some (.inr (1, 0)), some (.inl x1)] [] σ := by
  unfold fb_De_putLines_77 at h
  simp only [Option.some.injEq, Prod.mk.injEq, true_and] at h
  exact s_De_putLines_77  ⟨rfl, h⟩
def fb_De_putLines_68  (x1 : Int) (σ : kS) : kRes := kbu (f_Te_stand x1 0 0 σ) fun σ1 => fb_De_putLines_77  x1 σ1
theorem e_De_putLines_68 {l : Launch} {G : kG} {σf : kS}  {x1 : Int}  {σ : kS} (h : fb_De_putLines_68  x1 σ = some (none, σf)) : Rn l G dm_De_putLines m_De_putLines (kU fun σ' => σ' = σf) 68 [some (.inr (1, 0)), some (.inl x1)] [] σ := by
  unfold fb_De_putLines_68 at h
  obtain ⟨σ1, hc, h⟩ := kbu_some h
  refine s_De_putLines_68  (by decide) (E_Te_stand hc) (fun σ2 e2 => ?_)
  subst e2
  exact e_De_putLines_77  h
def fb_De_putLines_45  (x1 : Int) (σ : kS) : kRes := kg (((0 : Int) ≤ 0 ∧ (0 : Int) ≤ x1 ∧ (0 : Int) ≤ (σ 1 0 4) ∧ 0 + (σ 1 0 4) ≤ ((10 : Nat) : Int) ∧ x1 + (σ 1 0 4) ≤ ((10 : Nat) : Int))) (fb_De_putLines_68  x1 (kupA σ 11 0 (va_cpy (σ 11 3) (σ 11 0) (0) (Int.toNat x1) (Int.toNat (σ 1 0 4)))))
theorem e_De_putLines_45 {l : Launch} {G : kG} {σf : kS}  {x1 : Int}  {σ : kS} (h : fb_De_putLines_45  x1 σ = some (none, σf)) : Rn l G dm_De_putLines m_De_putLines (kU fun σ' => σ' = σf) 45 [some (.inr (1, 0)), some (.inl x1)] [] σ := by
  unfold fb_De_putLines_45 at h
  obtain ⟨h1, h⟩ := kg_some h
  refine s_De_putLines_45 h1 (by decide) ?_
  exact e_De_putLines_68  h
def fb_De_putLines_16  (x1 : Int) (σ : kS) : kRes := kg (((0 : Int) ≤ 0 ∧ (0 : Int) ≤ (x1 * 20) ∧ (0 : Int) ≤ ((σ 1 0 4) * 20) ∧ 0 + ((σ 1 0 4) * 20) ≤ ((200 : Nat) : Int) ∧ (x1 * 20) + ((σ 1 0 4) * 20) ≤ ((200 : Nat) : Int))) (fb_De_putLines_45  x1 (kupA σ 10 0 (va_cpy (σ 10 3) (σ 10 0) (0) (Int.toNat (x1 * 20)) (Int.toNat ((σ 1 0 4) * 20)))))
theorem e_De_putLines_16 {l : Launch} {G : kG} {σf : kS}  {x1 : Int}  {σ : kS} (h : fb_De_putLines_16  x1 σ = some (none, σf)) : Rn l G dm_De_putLines m_De_putLines (kU fun σ' => σ' = σf) 16 [some (.inr (1, 0)), some (.inl x1)] [] σ := by
  unfold fb_De_putLines_16 at h
  obtain ⟨h1, h⟩ := kg_some h
  refine s_De_putLines_16 h1 (by decide) ?_
  exact e_De_putLines_45  h
def fb_De_putLines_15  (x1 : Int) (σ : kS) : kRes := some (none, σ)
theorem e_De_putLines_15 {l : Launch} {G : kG} {σf : kS}  {x1 : Int}  {σ : kS} (h : fb_De_putLines_15  x1 σ = some (none, σf)) : Rn l G dm_De_putLines m_De_putLines (kU fun σ' => σ' = σf) 15 [some (.inr (1, 0)), some (.inl x1)] [] σ := by
  unfold fb_De_putLines_15 at h
  simp only [Option.some.injEq, Prod.mk.injEq, true_and] at h
  exact s_De_putLines_15  ⟨rfl, h⟩
def fb_De_putLines_12  (x1 : Int) (s0 : Int) (σ : kS) : kRes := kg ((-2147483648 ≤ s0 ∧ s0 < 2147483648)) (if s0 = 0 then fb_De_putLines_15  x1 σ else fb_De_putLines_16  x1 σ)
theorem e_De_putLines_12 {l : Launch} {G : kG} {σf : kS}  {x1 : Int} {s0 : Int}  {σ : kS} (h : fb_De_putLines_12  x1 s0 σ = some (none, σf)) : Rn l G dm_De_putLines m_De_putLines (kU fun σ' => σ' = σf) 12 [some (.inr (1, 0)), some (.inl x1)] [.inl s0] σ := by
  unfold fb_De_putLines_12 at h
  obtain ⟨h1, h⟩ := kg_some h
  refine s_De_putLines_12 h1 (fun c => ?_) (fun c => ?_)
  · rw [if_neg c] at h
    exact e_De_putLines_16  h
  · rw [if_pos c] at h
    exact e_De_putLines_15  h
def fb_De_putLines_0  (x1 : Int) (σ : kS) : kRes := kbi (f_Te_openLines x1 (σ 1 0 4) 0 σ) fun y σ1 => fb_De_putLines_12  x1 y σ1
theorem e_De_putLines_0 {l : Launch} {G : kG} {σf : kS}  {x1 : Int}  {σ : kS} (h : fb_De_putLines_0  x1 σ = some (none, σf)) : Rn l G dm_De_putLines m_De_putLines (kU fun σ' => σ' = σf) 0 [some (.inr (1, 0)), some (.inl x1)] [] σ := by
  unfold fb_De_putLines_0 at h
  obtain ⟨y, σ1, hc, h⟩ := kbi_some h
  refine s_De_putLines_0  (by decide) (E_Te_openLines hc) (fun y2 σ2 e2 => ?_)
  obtain ⟨rfl, rfl⟩ := e2
  exact e_De_putLines_12  h
def f_De_putLines (x1 : Int) (σ : kS) : kRes := fb_De_putLines_0 x1 σ
theorem E_De_putLines {l : Launch} {G : kG} {σf : kS} {x1 : Int} {σ : kS} (h : f_De_putLines x1 σ = some (none, σf)) : Call l G dm_De_putLines y_De_putLines m_De_putLines [.inr (1, 0), .inl x1] σ (kU fun σ' => σ' = σf) := by
  unfold f_De_putLines at h
  exact Call.of (by decide +kernel) rfl (Nat.le_of_ble_eq_true rfl) (e_De_putLines_0 h)
/-! De_reset -/
def fb_De_reset_7   (σ : kS) : kRes := some (none, kup (kup (kup σ 2 3 2 0) 1 0 4 (-1)) 1 0 5 0)
theorem e_De_reset_7 {l : Launch} {G : kG} {σf : kS}    {σ : kS} (h : fb_De_reset_7   σ = some (none, σf)) : Rn l G dm_De_reset m_De_reset (kU fun σ' => σ' = σf) 7 [some (.inr (1, 0))] [] σ := by
  unfold fb_De_reset_7 at h
  simp only [Option.some.injEq, Prod.mk.injEq, true_and] at h
  exact s_De_reset_7  ⟨rfl, h⟩
def fb_De_reset_0   (σ : kS) : kRes := kbu (f_Te_reset 0 σ) fun σ1 => fb_De_reset_7  σ1
theorem e_De_reset_0 {l : Launch} {G : kG} {σf : kS}    {σ : kS} (h : fb_De_reset_0   σ = some (none, σf)) : Rn l G dm_De_reset m_De_reset (kU fun σ' => σ' = σf) 0 [some (.inr (1, 0))] [] σ := by
  unfold fb_De_reset_0 at h
  obtain ⟨σ1, hc, h⟩ := kbu_some h
  refine s_De_reset_0  (by decide) (E_Te_reset hc) (fun σ2 e2 => ?_)
  subst e2
  exact e_De_reset_7  h
def f_De_reset  (σ : kS) : kRes := fb_De_reset_0  σ
theorem E_De_reset {l : Launch} {G : kG} {σf : kS}  {σ : kS} (h : f_De_reset  σ = some (none, σf)) : Call l G dm_De_reset y_De_reset m_De_reset [.inr (1, 0)] σ (kU fun σ' => σ' = σf) := by
  unfold f_De_reset at h
  exact Call.of (by decide +kernel) rfl (Nat.le_of_ble_eq_true rfl) (e_De_reset_0 h)
/-! Di_recover -/
def fb_Di_recover_33  (u : Nat) (σ : kS) : kRes := some (none, σ)
theorem e_Di_recover_33 {l : Launch} {G : kG} {σf : kS}  {u : Nat}  {σ : kS} (h : fb_Di_recover_33  u σ = some (none, σf)) : Rn l G dm_Di_recover m_Di_recover (kU fun σ' => σ' = σf) 33 [some (.inr (3, 0)), some (.inr (2, u))] [] σ := by
  unfold fb_Di_recover_33 at h
  simp only [Option.some.injEq, Prod.mk.injEq, true_and] at h
  exact s_Di_recover_33  ⟨rfl, h⟩
def fb_Di_recover_15  (u : Nat) (σ : kS) : kRes := kbu (f_Te_copyLines 0 ((σ 2 5 2) - 1) u 5 σ) fun σ1 => fb_Di_recover_33  u σ1
theorem e_Di_recover_15 {l : Launch} {G : kG} {σf : kS}  {u : Nat}  {σ : kS} (h : fb_Di_recover_15  u σ = some (none, σf)) : Rn l G dm_Di_recover m_Di_recover (kU fun σ' => σ' = σf) 15 [some (.inr (3, 0)), some (.inr (2, u))] [] σ := by
  unfold fb_Di_recover_15 at h
  obtain ⟨σ1, hc, h⟩ := kbu_some h
  refine s_Di_recover_15  (by decide) (E_Te_copyLines hc) (fun σ2 e2 => ?_)
  subst e2
  exact e_Di_recover_33  h
def fb_Di_recover_0  (u : Nat) (σ : kS) : kRes := kg ((-2147483648 ≤ (kup σ 3 0 6 0) 2 5 2 ∧ (kup σ 3 0 6 0) 2 5 2 < 2147483648)) (if ((kup σ 3 0 6 0) 2 5 2) ≤ 0 then fb_Di_recover_33  u (kup σ 3 0 6 0) else fb_Di_recover_15  u (kup σ 3 0 6 0))
theorem e_Di_recover_0 {l : Launch} {G : kG} {σf : kS}  {u : Nat}  {σ : kS} (h : fb_Di_recover_0  u σ = some (none, σf)) : Rn l G dm_Di_recover m_Di_recover (kU fun σ' => σ' = σf) 0 [some (.inr (3, 0)), some (.inr (2, u))] [] σ := by
  unfold fb_Di_recover_0 at h
  obtain ⟨h1, h⟩ := kg_some h
  refine s_Di_recover_0 h1 (fun c => ?_) (fun c => ?_)
  · rw [if_pos c] at h
    exact e_Di_recover_33  h
  · rw [if_neg c] at h
    exact e_Di_recover_15  h
def f_Di_recover (u : Nat) (σ : kS) : kRes := fb_Di_recover_0 u σ
theorem E_Di_recover {l : Launch} {G : kG} {σf : kS} {u : Nat} {σ : kS} (h : f_Di_recover u σ = some (none, σf)) : Call l G dm_Di_recover y_Di_recover m_Di_recover [.inr (3, 0), .inr (2, u)] σ (kU fun σ' => σ' = σf) := by
  unfold f_Di_recover at h
  exact Call.of (by decide +kernel) rfl (Nat.le_of_ble_eq_true rfl) (e_Di_recover_0 h)
/-! Di_writeBlock -/
def fb_Di_writeBlock_127  (x1 : Int) (x2 : Int) (σ : kS) : kRes := some (some x1, σ)
theorem e_Di_writeBlock_127 {l : Launch} {G : kG} {yf : Int} {σf : kS}  {x1 : Int} {x2 : Int}  {σ : kS} (h : fb_Di_writeBlock_127  x1 x2 σ = some (some yf, σf)) : Rn l G dm_Di_writeBlock m_Di_writeBlock (kI fun y' σ' => y' = yf ∧ σ' = σf) 127 [some (.inr (3, 0)), some (.inl x1), some (.inl x2)] [] σ := by
  unfold fb_Di_writeBlock_127 at h
  simp only [Option.some.injEq, Prod.mk.injEq, true_and] at h
  exact s_Di_writeBlock_127  ⟨_, rfl, h⟩
def fb_Di_writeBlock_105 (k97 : Int → Int → kS → kRes) (x1 : Int) (x2 : Int) (σ : kS) : kRes := kg ((0 ≤ kmod ((σ 3 0 5) + x2) 3 ∧ kmod ((σ 3 0 5) + x2) 3 < (3 : Nat))) (k97 (x1 + (σ 14 0 (Int.toNat (kmod ((σ 3 0 5) + x2) 3)))) (x2 + 1) σ)
theorem e_Di_writeBlock_105 {l : Launch} {G : kG} {yf : Int} {σf : kS} {k97 : Int → Int → kS → kRes} (hk97 : ∀ (x1 : Int) (x2 : Int)  (σ : kS), k97 x1 x2 σ = some (some yf, σf) → Rn l G dm_Di_writeBlock m_Di_writeBlock (kI fun y' σ' => y' = yf ∧ σ' = σf) 97 [some (.inr (3, 0)), some (.inl x1), some (.inl x2)] [] σ) {x1 : Int} {x2 : Int}  {σ : kS} (h : fb_Di_writeBlock_105 k97 x1 x2 σ = some (some yf, σf)) : Rn l G dm_Di_writeBlock m_Di_writeBlock (kI fun y' σ' => y' = yf ∧ σ' = σf) 105 [some (.inr (3, 0)), some (.inl x1), some (.inl x2)] [] σ := by
  unfold fb_Di_writeBlock_105 at h
  obtain ⟨h1, h⟩ := kg_some h
  refine s_Di_writeBlock_105 h1 ?_
  exact hk97 _ _ _ h
def fb_Di_writeBlock_97 (k97 : Int → Int → kS → kRes) (x1 : Int) (x2 : Int) (σ : kS) : kRes := kg ((-2147483648 ≤ x2 ∧ x2 < 2147483648) ∧ (-2147483648 ≤ σ 3 0 6 ∧ σ 3 0 6 < 2147483648)) (if (σ 3 0 6) ≤ x2 then fb_Di_writeBlock_127  x1 x2 σ else fb_Di_writeBlock_105 k97 x1 x2 σ)
theorem e_Di_writeBlock_97 {l : Launch} {G : kG} {yf : Int} {σf : kS} {k97 : Int → Int → kS → kRes} (hk97 : ∀ (x1 : Int) (x2 : Int)  (σ : kS), k97 x1 x2 σ = some (some yf, σf) → Rn l G dm_Di_writeBlock m_Di_writeBlock (kI fun y' σ' => y' = yf ∧ σ' = σf) 97 [some (.inr (3, 0)), some (.inl x1), some (.inl x2)] [] σ) {x1 : Int} {x2 : Int}  {σ : kS} (h : fb_Di_writeBlock_97 k97 x1 x2 σ = some (some yf, σf)) : Rn l G dm_Di_writeBlock m_Di_writeBlock (kI fun y' σ' => y' = yf ∧ σ' = σf) 97 [some (.inr (3, 0)), some (.inl x1), some (.inl x2)] [] σ := by
  unfold fb_Di_writeBlock_97 at h
  obtain ⟨⟨h1, h2⟩, h⟩ := kg_some h
  refine s_Di_writeBlock_97 h1 h2 (fun c => ?_) (fun c => ?_)
  · rw [if_pos c] at h
    exact e_Di_writeBlock_127  h
  · rw [if_neg c] at h
    exact e_Di_writeBlock_105 hk97 h
def fl_Di_writeBlock_97  : Nat → Int → Int → kS → kRes
  | 0, _, _, _ => none
  | n + 1, x1, x2, σ => fb_Di_writeBlock_97 (fl_Di_writeBlock_97  n) x1 x2 σ
theorem el_Di_writeBlock_97 {l : Launch} {G : kG} {yf : Int} {σf : kS}  : ∀ (n : Nat) (x1 : Int) (x2 : Int)  (σ : kS), fl_Di_writeBlock_97  n x1 x2 σ = some (some yf, σf) → Rn l G dm_Di_writeBlock m_Di_writeBlock (kI fun y' σ' => y' = yf ∧ σ' = σf) 97 [some (.inr (3, 0)), some (.inl x1), some (.inl x2)] [] σ := by
  intro n
  induction n with
  | zero => intro x1 x2 σ h; simp only [fl_Di_writeBlock_97] at h; cases h
  | succ n ih => intro x1 x2 σ h; simp only [fl_Di_writeBlock_97] at h; exact e_Di_writeBlock_97 ih h
def fb_Di_writeBlock_93   (σ : kS) : kRes := fl_Di_writeBlock_97  3000 0 0 σ
theorem e_Di_writeBlock_93 {l : Launch} {G : kG} {yf : Int} {σf : kS}   {o1 : Option kV} {o2 : Option kV} {σ : kS} (h : fb_Di_writeBlock_93   σ = some (some yf, σf)) : Rn l G dm_Di_writeBlock m_Di_writeBlock (kI fun y' σ' => y' = yf ∧ σ' = σf) 93 [some (.inr (3, 0)), o1, o2] [] σ := by
  unfold fb_Di_writeBlock_93 at h
  refine s_Di_writeBlock_93  ?_
  exact el_Di_writeBlock_97  _ _ _ _ h
def fb_Di_writeBlock_71  (r1 : Nat) (σ : kS) : kRes := fb_Di_writeBlock_93  (kup (kup σ 3 0 5 (kmod ((σ 3 0 5) + 1) 3)) 3 0 6 (((kup σ 3 0 5 (kmod ((σ 3 0 5) + 1) 3)) 3 0 6) - 1))
theorem e_Di_writeBlock_71 {l : Launch} {G : kG} {yf : Int} {σf : kS}  {r1 : Nat} {o2 : Option kV} {σ : kS} (h : fb_Di_writeBlock_71  r1 σ = some (some yf, σf)) : Rn l G dm_Di_writeBlock m_Di_writeBlock (kI fun y' σ' => y' = yf ∧ σ' = σf) 71 [some (.inr (3, 0)), some (.inr (2, r1)), o2] [] σ := by
  unfold fb_Di_writeBlock_71 at h
  refine s_Di_writeBlock_71  ?_
  exact e_Di_writeBlock_93  h
def fb_Di_writeBlock_57  (q0 : Nat) (σ : kS) : kRes := kg ((0 ≤ σ 3 0 5 ∧ σ 3 0 5 < (3 : Nat))) (kbu (f_Te_copy q0 (6 + Int.toNat (σ 3 0 5)) σ) fun σ1 => fb_Di_writeBlock_71  q0 σ1)
theorem e_Di_writeBlock_57 {l : Launch} {G : kG} {yf : Int} {σf : kS}  {q0 : Nat} {o1 : Option kV} {o2 : Option kV} {σ : kS} (h : fb_Di_writeBlock_57  q0 σ = some (some yf, σf)) : Rn l G dm_Di_writeBlock m_Di_writeBlock (kI fun y' σ' => y' = yf ∧ σ' = σf) 57 [some (.inr (3, 0)), o1, o2] [.inr (2, q0)] σ := by
  unfold fb_Di_writeBlock_57 at h
  obtain ⟨h1, h⟩ := kg_some h
  obtain ⟨σ1, hc, h⟩ := kbu_some h
  refine s_Di_writeBlock_57 h1 (by decide) (E_Te_copy hc) (fun σ2 e2 => ?_)
  subst e2
  exact e_Di_writeBlock_71  h
def fb_Di_writeBlock_53   (σ : kS) : kRes := fb_Di_writeBlock_57  4 σ
theorem e_Di_writeBlock_53 {l : Launch} {G : kG} {yf : Int} {σf : kS}   {o1 : Option kV} {o2 : Option kV} {σ : kS} (h : fb_Di_writeBlock_53   σ = some (some yf, σf)) : Rn l G dm_Di_writeBlock m_Di_writeBlock (kI fun y' σ' => y' = yf ∧ σ' = σf) 53 [some (.inr (3, 0)), o1, o2] [] σ := by
  unfold fb_Di_writeBlock_53 at h
  refine s_Di_writeBlock_53  ?_
  exact e_Di_writeBlock_57  h
def fb_Di_writeBlock_46   (σ : kS) : kRes := fb_Di_writeBlock_57  5 σ
theorem e_Di_writeBlock_46 {l : Launch} {G : kG} {yf : Int} {σf : kS}   {o1 : Option kV} {o2 : Option kV} {σ : kS} (h : fb_Di_writeBlock_46   σ = some (some yf, σf)) : Rn l G dm_Di_writeBlock m_Di_writeBlock (kI fun y' σ' => y' = yf ∧ σ' = σf) 46 [some (.inr (3, 0)), o1, o2] [] σ := by
  unfold fb_Di_writeBlock_46 at h
  refine s_Di_writeBlock_46  ?_
  exact e_Di_writeBlock_57  h
def fb_Di_writeBlock_34   (σ : kS) : kRes := kg ((0 ≤ σ 3 0 5 ∧ σ 3 0 5 < (3 : Nat)) ∧ (-2147483648 ≤ σ 13 0 (Int.toNat (σ 3 0 5)) ∧ σ 13 0 (Int.toNat (σ 3 0 5)) < 2147483648)) (if (σ 13 0 (Int.toNat (σ 3 0 5))) = 0 then fb_Di_writeBlock_53  σ else fb_Di_writeBlock_46  σ)
theorem e_Di_writeBlock_34 {l : Launch} {G : kG} {yf : Int} {σf : kS}   {o1 : Option kV} {o2 : Option kV} {σ : kS} (h : fb_Di_writeBlock_34   σ = some (some yf, σf)) : Rn l G dm_Di_writeBlock m_Di_writeBlock (kI fun y' σ' => y' = yf ∧ σ' = σf) 34 [some (.inr (3, 0)), o1, o2] [] σ := by
  unfold fb_Di_writeBlock_34 at h
  obtain ⟨⟨h1, h2⟩, h⟩ := kg_some h
  refine s_Di_writeBlock_34 h1 h2 (fun c => ?_) (fun c => ?_)
  · rw [if_pos c] at h
    exact e_Di_writeBlock_53  h
  · rw [if_neg c] at h
    exact e_Di_writeBlock_46  h
def fb_Di_writeBlock_9   (σ : kS) : kRes := kg ((0 ≤ σ 3 0 5 ∧ σ 3 0 5 < (3 : Nat)) ∧ (0 ≤ (kup σ 14 0 (Int.toNat (σ 3 0 5)) ((σ 14 0 (Int.toNat (σ 3 0 5))) - 1)) 3 0 5 ∧ (kup σ 14 0 (Int.toNat (σ 3 0 5)) ((σ 14 0 (Int.toNat (σ 3 0 5))) - 1)) 3 0 5 < (3 : Nat)) ∧ (-2147483648 ≤ (kup σ 14 0 (Int.toNat (σ 3 0 5)) ((σ 14 0 (Int.toNat (σ 3 0 5))) - 1)) 14 0 (Int.toNat ((kup σ 14 0 (Int.toNat (σ 3 0 5)) ((σ 14 0 (Int.toNat (σ 3 0 5))) - 1)) 3 0 5)) ∧ (kup σ 14 0 (Int.toNat (σ 3 0 5)) ((σ 14 0 (Int.toNat (σ 3 0 5))) - 1)) 14 0 (Int.toNat ((kup σ 14 0 (Int.toNat (σ 3 0 5)) ((σ 14 0 (Int.toNat (σ 3 0 5))) - 1)) 3 0 5)) < 2147483648)) (if ((kup σ 14 0 (Int.toNat (σ 3 0 5)) ((σ 14 0 (Int.toNat (σ 3 0 5))) - 1)) 14 0 (Int.toNat ((kup σ 14 0 (Int.toNat (σ 3 0 5)) ((σ 14 0 (Int.toNat (σ 3 0 5))) - 1)) 3 0 5))) = 0 then fb_Di_writeBlock_34  (kup σ 14 0 (Int.toNat (σ 3 0 5)) ((σ 14 0 (Int.toNat (σ 3 0 5))) - 1)) else fb_Di_writeBlock_93  (kup σ 14 0 (Int.toNat (σ 3 0 5)) ((σ 14 0 (Int.toNat (σ 3 0 5))) - 1)))
theorem e_Di_writeBlock_9 {l : Launch} {G : kG} {yf : Int} {σf : kS}   {o1 : Option kV} {o2 : Option kV} {σ : kS} (h : fb_Di_writeBlock_9   σ = some (some yf, σf)) : Rn l G dm_Di_writeBlock m_Di_writeBlock (kI fun y' σ' => y' = yf ∧ σ' = σf) 9 [some (.inr (3, 0)), o1, o2] [] σ := by
  unfold fb_Di_writeBlock_9 at h
  obtain ⟨⟨h1, h2, h3⟩, h⟩ := kg_some h
  refine s_Di_writeBlock_9 h1 h2 h3 (fun c => ?_) (fun c => ?_)
  · rw [if_neg c] at h
    exact e_Di_writeBlock_93  h
  · rw [if_pos c] at h
    exact e_Di_writeBlock_34  h
def fb_Di_writeBlock_7   (σ : kS) : kRes := some (some (-1), σ)
theorem e_Di_writeBlock_7 {l : Launch} {G : kG} {yf : Int} {σf : kS}   {o1 : Option kV} {o2 : Option kV} {σ : kS} (h : fb_Di_writeBlock_7   σ = some (some yf, σf)) : Rn l G dm_Di_writeBlock m_Di_writeBlock (kI fun y' σ' => y' = yf ∧ σ' = σf) 7 [some (.inr (3, 0)), o1, o2] [] σ := by
  unfold fb_Di_writeBlock_7 at h
  simp only [Option.some.injEq, Prod.mk.injEq, true_and] at h
  exact s_Di_writeBlock_7  ⟨_, rfl, h⟩
def fb_Di_writeBlock_0   (σ : kS) : kRes := kg ((-2147483648 ≤ σ 3 0 6 ∧ σ 3 0 6 < 2147483648)) (if (σ 3 0 6) = 0 then fb_Di_writeBlock_7  σ else fb_Di_writeBlock_9  σ)
theorem e_Di_writeBlock_0 {l : Launch} {G : kG} {yf : Int} {σf : kS}   {o1 : Option kV} {o2 : Option kV} {σ : kS} (h : fb_Di_writeBlock_0   σ = some (some yf, σf)) : Rn l G dm_Di_writeBlock m_Di_writeBlock (kI fun y' σ' => y' = yf ∧ σ' = σf) 0 [some (.inr (3, 0)), o1, o2] [] σ := by
  unfold fb_Di_writeBlock_0 at h
  obtain ⟨h1, h⟩ := kg_some h
  refine s_Di_writeBlock_0 h1 (fun c => ?_) (fun c => ?_)
  · rw [if_neg c] at h
    exact e_Di_writeBlock_9  h
  · rw [if_pos c] at h
    exact e_Di_writeBlock_7  h
def f_Di_writeBlock  (σ : kS) : kRes := fb_Di_writeBlock_0  σ
theorem E_Di_writeBlock {l : Launch} {G : kG} {yf : Int} {σf : kS}  {σ : kS} (h : f_Di_writeBlock  σ = some (some yf, σf)) : Call l G dm_Di_writeBlock y_Di_writeBlock m_Di_writeBlock [.inr (3, 0)] σ (kI fun y' σ' => y' = yf ∧ σ' = σf) := by
  unfold f_Di_writeBlock at h
  exact Call.of (by decide +kernel) rfl (Nat.le_of_ble_eq_true rfl) (e_Di_writeBlock_0 h)
/-! Ke_add -/
def fb_Ke_add_22  (x1 : Int) (t : Nat) (σ : kS) : kRes := kg ((-2147483648 ≤ (σ 6 t 1) + 1 ∧ (σ 6 t 1) + 1 < 2147483648) ∧ (-2147483648 ≤ (((if t = 0 then 4 else if t = 1 then 8 else 30) : Nat) : Int) + 1 ∧ (((if t = 0 then 4 else if t = 1 then 8 else 30) : Nat) : Int) + 1 < 2147483648)) (some (none, kup σ 6 t 1 (min ((σ 6 t 1) + 1) ((((if t = 0 then 4 else if t = 1 then 8 else 30) : Nat) : Int) + 1))))
theorem e_Ke_add_22 {l : Launch} {G : kG} {σf : kS}  {x1 : Int} {t : Nat}  {σ : kS} (h : fb_Ke_add_22  x1 t σ = some (none, σf)) : Rn l G dm_Ke_add m_Ke_add (kU fun σ' => σ' = σf) 22 [some (.inr (6, t)), some (.inl x1)] [] σ := by
  unfold fb_Ke_add_22 at h
  obtain ⟨⟨h1, h2⟩, h⟩ := kg_some h
  simp only [Option.some.injEq, Prod.mk.injEq, true_and] at h
  exact s_Ke_add_22 h1 h2 (by decide) ⟨rfl, h⟩
def fb_Ke_add_12  (x1 : Int) (t : Nat) (σ : kS) : kRes := kg ((0 ≤ σ 6 t 1 ∧ σ 6 t 1 < ((if t = 0 then 4 else if t = 1 then 8 else 30) : Nat))) (fb_Ke_add_22  x1 t (kup σ 16 t (Int.toNat (σ 6 t 1)) x1))
theorem e_Ke_add_12 {l : Launch} {G : kG} {σf : kS}  {x1 : Int} {t : Nat}  {σ : kS} (h : fb_Ke_add_12  x1 t σ = some (none, σf)) : Rn l G dm_Ke_add m_Ke_add (kU fun σ' => σ' = σf) 12 [some (.inr (6, t)), some (.inl x1)] [] σ := by
  unfold fb_Ke_add_12 at h
  obtain ⟨h1, h⟩ := kg_some h
  refine s_Ke_add_12 h1 ?_
  exact e_Ke_add_22  h
def fb_Ke_add_0  (x1 : Int) (t : Nat) (σ : kS) : kRes := kg ((-2147483648 ≤ σ 6 t 1 ∧ σ 6 t 1 < 2147483648) ∧ (-2147483648 ≤ (((if t = 0 then 4 else if t = 1 then 8 else 30) : Nat) : Int) ∧ (((if t = 0 then 4 else if t = 1 then 8 else 30) : Nat) : Int) < 2147483648)) (if (((if t = 0 then 4 else if t = 1 then 8 else 30) : Nat) : Int) ≤ (σ 6 t 1) then fb_Ke_add_22  x1 t σ else fb_Ke_add_12  x1 t σ)
theorem e_Ke_add_0 {l : Launch} {G : kG} {σf : kS}  {x1 : Int} {t : Nat}  {σ : kS} (h : fb_Ke_add_0  x1 t σ = some (none, σf)) : Rn l G dm_Ke_add m_Ke_add (kU fun σ' => σ' = σf) 0 [some (.inr (6, t)), some (.inl x1)] [] σ := by
  unfold fb_Ke_add_0 at h
  obtain ⟨⟨h1, h2⟩, h⟩ := kg_some h
  refine s_Ke_add_0 h1 h2 (fun c => ?_) (fun c => ?_)
  · rw [if_pos c] at h
    exact e_Ke_add_22  h
  · rw [if_neg c] at h
    exact e_Ke_add_12  h
def f_Ke_add (x1 : Int) (t : Nat) (σ : kS) : kRes := fb_Ke_add_0 x1 t σ
theorem E_Ke_add {l : Launch} {G : kG} {σf : kS} {x1 : Int} {t : Nat} {σ : kS} (h : f_Ke_add x1 t σ = some (none, σf)) : Call l G dm_Ke_add y_Ke_add m_Ke_add [.inr (6, t), .inl x1] σ (kU fun σ' => σ' = σf) := by
  unfold f_Ke_add at h
  exact Call.of (by decide +kernel) rfl (Nat.le_of_ble_eq_true rfl) (e_Ke_add_0 h)
/-! Ke_isFull -/
def fb_Ke_isFull_17  (s0 : Int) (t : Nat) (σ : kS) : kRes := kg ((s0 = 0 ∨ s0 = 1)) (some (some s0, σ))
theorem e_Ke_isFull_17 {l : Launch} {G : kG} {yf : Int} {σf : kS}  {s0 : Int} {t : Nat}  {σ : kS} (h : fb_Ke_isFull_17  s0 t σ = some (some yf, σf)) : Rn l G dm_Ke_isFull m_Ke_isFull (kI fun y' σ' => y' = yf ∧ σ' = σf) 17 [some (.inr (6, t))] [.inl s0] σ := by
  unfold fb_Ke_isFull_17 at h
  obtain ⟨h1, h⟩ := kg_some h
  simp only [Option.some.injEq, Prod.mk.injEq, true_and] at h
  exact s_Ke_isFull_17 h1 ⟨_, rfl, h⟩
def fb_Ke_isFull_16  (t : Nat) (σ : kS) : kRes := fb_Ke_isFull_17  0 t σ
theorem e_Ke_isFull_16 {l : Launch} {G : kG} {yf : Int} {σf : kS}  {t : Nat}  {σ : kS} (h : fb_Ke_isFull_16  t σ = some (some yf, σf)) : Rn l G dm_Ke_isFull m_Ke_isFull (kI fun y' σ' => y' = yf ∧ σ' = σf) 16 [some (.inr (6, t))] [] σ := by
  unfold fb_Ke_isFull_16 at h
  refine s_Ke_isFull_16  ?_
  exact e_Ke_isFull_17  h
def fb_Ke_isFull_12  (t : Nat) (σ : kS) : kRes := fb_Ke_isFull_17  1 t σ
theorem e_Ke_isFull_12 {l : Launch} {G : kG} {yf : Int} {σf : kS}  {t : Nat}  {σ : kS} (h : fb_Ke_isFull_12  t σ = some (some yf, σf)) : Rn l G dm_Ke_isFull m_Ke_isFull (kI fun y' σ' => y' = yf ∧ σ' = σf) 12 [some (.inr (6, t))] [] σ := by
  unfold fb_Ke_isFull_12 at h
  refine s_Ke_isFull_12  ?_
  exact e_Ke_isFull_17  h
def fb_Ke_isFull_0  (t : Nat) (σ : kS) : kRes := kg ((-2147483648 ≤ σ 6 t 1 ∧ σ 6 t 1 < 2147483648) ∧ (-2147483648 ≤ (((if t = 0 then 4 else if t = 1 then 8 else 30) : Nat) : Int) ∧ (((if t = 0 then 4 else if t = 1 then 8 else 30) : Nat) : Int) < 2147483648)) (if (σ 6 t 1) < (((if t = 0 then 4 else if t = 1 then 8 else 30) : Nat) : Int) then fb_Ke_isFull_16  t σ else fb_Ke_isFull_12  t σ)
theorem e_Ke_isFull_0 {l : Launch} {G : kG} {yf : Int} {σf : kS}  {t : Nat}  {σ : kS} (h : fb_Ke_isFull_0  t σ = some (some yf, σf)) : Rn l G dm_Ke_isFull m_Ke_isFull (kI fun y' σ' => y' = yf ∧ σ' = σf) 0 [some (.inr (6, t))] [] σ := by
  unfold fb_Ke_isFull_0 at h
  obtain ⟨⟨h1, h2⟩, h⟩ := kg_some h
  refine s_Ke_isFull_0 h1 h2 (fun c => ?_) (fun c => ?_)
  · rw [if_pos c] at h
    exact e_Ke_isFull_16  h
  · rw [if_neg c] at h
    exact e_Ke_isFull_12  h
def f_Ke_isFull (t : Nat) (σ : kS) : kRes := fb_Ke_isFull_0 t σ
theorem E_Ke_isFull {l : Launch} {G : kG} {yf : Int} {σf : kS} {t : Nat} {σ : kS} (h : f_Ke_isFull t σ = some (some yf, σf)) : Call l G dm_Ke_isFull y_Ke_isFull m_Ke_isFull [.inr (6, t)] σ (kI fun y' σ' => y' = yf ∧ σ' = σf) := by
  unfold f_Ke_isFull at h
  exact Call.of (by decide +kernel) rfl (Nat.le_of_ble_eq_true rfl) (e_Ke_isFull_0 h)
/-! Kb_ask -/
def fb_Kb_ask_113  (x1 : Int) (s0 : Int) (σ : kS) : kRes := kg ((s0 = 0 ∨ s0 = 1)) (some (some s0, kup σ 6 2 1 0))
theorem e_Kb_ask_113 {l : Launch} {G : kG} {yf : Int} {σf : kS}  {x1 : Int} {s0 : Int} {o2 : Option kV} {σ : kS} (h : fb_Kb_ask_113  x1 s0 σ = some (some yf, σf)) : Rn l G dm_Kb_ask m_Kb_ask (kI fun y' σ' => y' = yf ∧ σ' = σf) 113 [some (.inr (5, 0)), some (.inl x1), o2] [.inl s0] σ := by
  unfold fb_Kb_ask_113 at h
  obtain ⟨h1, h⟩ := kg_some h
  simp only [Option.some.injEq, Prod.mk.injEq, true_and] at h
  exact s_Kb_ask_113 h1 ⟨_, rfl, h⟩
def fb_Kb_ask_112  (x1 : Int) (σ : kS) : kRes := fb_Kb_ask_113  x1 0 σ
theorem e_Kb_ask_112 {l : Launch} {G : kG} {yf : Int} {σf : kS}  {x1 : Int} {o2 : Option kV} {σ : kS} (h : fb_Kb_ask_112  x1 σ = some (some yf, σf)) : Rn l G dm_Kb_ask m_Kb_ask (kI fun y' σ' => y' = yf ∧ σ' = σf) 112 [some (.inr (5, 0)), some (.inl x1), o2] [] σ := by
  unfold fb_Kb_ask_112 at h
  refine s_Kb_ask_112  ?_
  exact e_Kb_ask_113  h
def fb_Kb_ask_108  (x1 : Int) (σ : kS) : kRes := fb_Kb_ask_113  x1 1 σ
theorem e_Kb_ask_108 {l : Launch} {G : kG} {yf : Int} {σf : kS}  {x1 : Int} {o2 : Option kV} {σ : kS} (h : fb_Kb_ask_108  x1 σ = some (some yf, σf)) : Rn l G dm_Kb_ask m_Kb_ask (kI fun y' σ' => y' = yf ∧ σ' = σf) 108 [some (.inr (5, 0)), some (.inl x1), o2] [] σ := by
  unfold fb_Kb_ask_108 at h
  refine s_Kb_ask_108  ?_
  exact e_Kb_ask_113  h
def fb_Kb_ask_105  (x1 : Int) (s0 : Int) (σ : kS) : kRes := kg ((-2147483648 ≤ s0 ∧ s0 < 2147483648)) (if s0 = 0 then fb_Kb_ask_112  x1 σ else fb_Kb_ask_108  x1 σ)
theorem e_Kb_ask_105 {l : Launch} {G : kG} {yf : Int} {σf : kS}  {x1 : Int} {s0 : Int} {o2 : Option kV} {σ : kS} (h : fb_Kb_ask_105  x1 s0 σ = some (some yf, σf)) : Rn l G dm_Kb_ask m_Kb_ask (kI fun y' σ' => y' = yf ∧ σ' = σf) 105 [some (.inr (5, 0)), some (.inl x1), o2] [.inl s0] σ := by
  unfold fb_Kb_ask_105 at h
  obtain ⟨h1, h⟩ := kg_some h
  refine s_Kb_ask_105 h1 (fun c => ?_) (fun c => ?_)
  · rw [if_pos c] at h
    exact e_Kb_ask_112  h
  · rw [if_neg c] at h
    exact e_Kb_ask_108  h
def fb_Kb_ask_94  (x1 : Int) (σ : kS) : kRes := kbi (f_Cl_carryOut  σ) fun y σ1 => fb_Kb_ask_105  x1 y σ1
theorem e_Kb_ask_94 {l : Launch} {G : kG} {yf : Int} {σf : kS}  {x1 : Int} {o2 : Option kV} {σ : kS} (h : fb_Kb_ask_94  x1 σ = some (some yf, σf)) : Rn l G dm_Kb_ask m_Kb_ask (kI fun y' σ' => y' = yf ∧ σ' = σf) 94 [some (.inr (5, 0)), some (.inl x1), o2] [] σ := by
  unfold fb_Kb_ask_94 at h
  obtain ⟨y, σ1, hc, h⟩ := kbi_some h
  refine s_Kb_ask_94  (by decide) (E_Cl_carryOut hc) (fun y2 σ2 e2 => ?_)
  obtain ⟨rfl, rfl⟩ := e2
  exact e_Kb_ask_105  h
def fb_Kb_ask_91  (x1 : Int) (σ : kS) : kRes := fb_Kb_ask_108  x1 σ
theorem e_Kb_ask_91 {l : Launch} {G : kG} {yf : Int} {σf : kS}  {x1 : Int} {o2 : Option kV} {σ : kS} (h : fb_Kb_ask_91  x1 σ = some (some yf, σf)) : Rn l G dm_Kb_ask m_Kb_ask (kI fun y' σ' => y' = yf ∧ σ' = σf) 91 [some (.inr (5, 0)), some (.inl x1), o2] [] σ := by
  unfold fb_Kb_ask_91 at h
  refine s_Kb_ask_91  ?_
  exact e_Kb_ask_108  h
def fb_Kb_ask_88  (x1 : Int) (s0 : Int) (σ : kS) : kRes := kg ((-2147483648 ≤ s0 ∧ s0 < 2147483648)) (if s0 = 0 then fb_Kb_ask_112  x1 σ else fb_Kb_ask_91  x1 σ)
theorem e_Kb_ask_88 {l : Launch} {G : kG} {yf : Int} {σf : kS}  {x1 : Int} {s0 : Int} {o2 : Option kV} {σ : kS} (h : fb_Kb_ask_88  x1 s0 σ = some (some yf, σf)) : Rn l G dm_Kb_ask m_Kb_ask (kI fun y' σ' => y' = yf ∧ σ' = σf) 88 [some (.inr (5, 0)), some (.inl x1), o2] [.inl s0] σ := by
  unfold fb_Kb_ask_88 at h
  obtain ⟨h1, h⟩ := kg_some h
  refine s_Kb_ask_88 h1 (fun c => ?_) (fun c => ?_)
  · rw [if_pos c] at h
    exact e_Kb_ask_112  h
  · rw [if_neg c] at h
    exact e_Kb_ask_91  h
def fb_Kb_ask_77  (x1 : Int) (σ : kS) : kRes := kbi (f_Cl_search  σ) fun y σ1 => fb_Kb_ask_88  x1 y σ1
theorem e_Kb_ask_77 {l : Launch} {G : kG} {yf : Int} {σf : kS}  {x1 : Int} {o2 : Option kV} {σ : kS} (h : fb_Kb_ask_77  x1 σ = some (some yf, σf)) : Rn l G dm_Kb_ask m_Kb_ask (kI fun y' σ' => y' = yf ∧ σ' = σf) 77 [some (.inr (5, 0)), some (.inl x1), o2] [] σ := by
  unfold fb_Kb_ask_77 at h
  obtain ⟨y, σ1, hc, h⟩ := kbi_some h
  refine s_Kb_ask_77  (by decide) (E_Cl_search hc) (fun y2 σ2 e2 => ?_)
  obtain ⟨rfl, rfl⟩ := e2
  exact e_Kb_ask_88  h
def fb_Kb_ask_70  (x1 : Int) (σ : kS) : kRes := kg ((-2147483648 ≤ σ 5 0 11 ∧ σ 5 0 11 < 2147483648)) (if (σ 5 0 11) = 0 then fb_Kb_ask_94  x1 σ else fb_Kb_ask_77  x1 σ)
theorem e_Kb_ask_70 {l : Launch} {G : kG} {yf : Int} {σf : kS}  {x1 : Int} {o2 : Option kV} {σ : kS} (h : fb_Kb_ask_70  x1 σ = some (some yf, σf)) : Rn l G dm_Kb_ask m_Kb_ask (kI fun y' σ' => y' = yf ∧ σ' = σf) 70 [some (.inr (5, 0)), some (.inl x1), o2] [] σ := by
  unfold fb_Kb_ask_70 at h
  obtain ⟨h1, h⟩ := kg_some h
  refine s_Kb_ask_70 h1 (fun c => ?_) (fun c => ?_)
  · rw [if_pos c] at h
    exact e_Kb_ask_94  h
  · rw [if_neg c] at h
    exact e_Kb_ask_77  h
def fb_Kb_ask_59  (x1 : Int) (σ : kS) : kRes := kg ((-2147483648 ≤ x1 ∧ x1 < 2147483648)) (if x1 = 10 then fb_Kb_ask_70  x1 (kup σ 5 0 6 0) else fb_Kb_ask_108  x1 (kup σ 5 0 6 0))
theorem e_Kb_ask_59 {l : Launch} {G : kG} {yf : Int} {σf : kS}  {x1 : Int} {o2 : Option kV} {σ : kS} (h : fb_Kb_ask_59  x1 σ = some (some yf, σf)) : Rn l G dm_Kb_ask m_Kb_ask (kI fun y' σ' => y' = yf ∧ σ' = σf) 59 [some (.inr (5, 0)), some (.inl x1), o2] [] σ := by
  unfold fb_Kb_ask_59 at h
  obtain ⟨h1, h⟩ := kg_some h
  refine s_Kb_ask_59 h1 (fun c => ?_) (fun c => ?_)
  · rw [if_neg c] at h
    exact e_Kb_ask_108  h
  · rw [if_pos c] at h
    exact e_Kb_ask_70  h
def fb_Kb_ask_44  (x1 : Int) (σ : kS) : kRes := some (some 1, kup σ 6 2 1 ((σ 6 2 1) - 1))
theorem e_Kb_ask_44 {l : Launch} {G : kG} {yf : Int} {σf : kS}  {x1 : Int} {o2 : Option kV} {σ : kS} (h : fb_Kb_ask_44  x1 σ = some (some yf, σf)) : Rn l G dm_Kb_ask m_Kb_ask (kI fun y' σ' => y' = yf ∧ σ' = σf) 44 [some (.inr (5, 0)), some (.inl x1), o2] [] σ := by
  unfold fb_Kb_ask_44 at h
  simp only [Option.some.injEq, Prod.mk.injEq, true_and] at h
  exact s_Kb_ask_44  ⟨_, rfl, h⟩
def fb_Kb_ask_34  (x1 : Int) (σ : kS) : kRes := kg ((-2147483648 ≤ σ 6 2 1 ∧ σ 6 2 1 < 2147483648)) (if (σ 6 2 1) ≤ 0 then fb_Kb_ask_59  x1 σ else fb_Kb_ask_44  x1 σ)
theorem e_Kb_ask_34 {l : Launch} {G : kG} {yf : Int} {σf : kS}  {x1 : Int} {o2 : Option kV} {σ : kS} (h : fb_Kb_ask_34  x1 σ = some (some yf, σf)) : Rn l G dm_Kb_ask m_Kb_ask (kI fun y' σ' => y' = yf ∧ σ' = σf) 34 [some (.inr (5, 0)), some (.inl x1), o2] [] σ := by
  unfold fb_Kb_ask_34 at h
  obtain ⟨h1, h⟩ := kg_some h
  refine s_Kb_ask_34 h1 (fun c => ?_) (fun c => ?_)
  · rw [if_pos c] at h
    exact e_Kb_ask_59  h
  · rw [if_neg c] at h
    exact e_Kb_ask_44  h
def fb_Kb_ask_28  (x1 : Int) (σ : kS) : kRes := kg ((-2147483648 ≤ x1 ∧ x1 < 2147483648)) (if x1 = 8 then fb_Kb_ask_34  x1 σ else fb_Kb_ask_59  x1 σ)
theorem e_Kb_ask_28 {l : Launch} {G : kG} {yf : Int} {σf : kS}  {x1 : Int} {o2 : Option kV} {σ : kS} (h : fb_Kb_ask_28  x1 σ = some (some yf, σf)) : Rn l G dm_Kb_ask m_Kb_ask (kI fun y' σ' => y' = yf ∧ σ' = σf) 28 [some (.inr (5, 0)), some (.inl x1), o2] [] σ := by
  unfold fb_Kb_ask_28 at h
  obtain ⟨h1, h⟩ := kg_some h
  refine s_Kb_ask_28 h1 (fun c => ?_) (fun c => ?_)
  · rw [if_neg c] at h
    exact e_Kb_ask_59  h
  · rw [if_pos c] at h
    exact e_Kb_ask_34  h
def fb_Kb_ask_26  (x1 : Int) (σ : kS) : kRes := some (some 1, σ)
theorem e_Kb_ask_26 {l : Launch} {G : kG} {yf : Int} {σf : kS}  {x1 : Int} {o2 : Option kV} {σ : kS} (h : fb_Kb_ask_26  x1 σ = some (some yf, σf)) : Rn l G dm_Kb_ask m_Kb_ask (kI fun y' σ' => y' = yf ∧ σ' = σf) 26 [some (.inr (5, 0)), some (.inl x1), o2] [] σ := by
  unfold fb_Kb_ask_26 at h
  simp only [Option.some.injEq, Prod.mk.injEq, true_and] at h
  exact s_Kb_ask_26  ⟨_, rfl, h⟩
def fb_Kb_ask_18  (x1 : Int) (σ : kS) : kRes := kbu (f_Ke_add x1 2 σ) fun σ1 => fb_Kb_ask_26  x1 σ1
theorem e_Kb_ask_18 {l : Launch} {G : kG} {yf : Int} {σf : kS}  {x1 : Int} {o2 : Option kV} {σ : kS} (h : fb_Kb_ask_18  x1 σ = some (some yf, σf)) : Rn l G dm_Kb_ask m_Kb_ask (kI fun y' σ' => y' = yf ∧ σ' = σf) 18 [some (.inr (5, 0)), some (.inl x1), o2] [] σ := by
  unfold fb_Kb_ask_18 at h
  obtain ⟨σ1, hc, h⟩ := kbu_some h
  refine s_Kb_ask_18  (by decide) (E_Ke_add hc) (fun σ2 e2 => ?_)
  subst e2
  exact e_Kb_ask_26  h
def fb_Kb_ask_16  (x1 : Int) (σ : kS) : kRes := some (some 0, σ)
theorem e_Kb_ask_16 {l : Launch} {G : kG} {yf : Int} {σf : kS}  {x1 : Int} {o2 : Option kV} {σ : kS} (h : fb_Kb_ask_16  x1 σ = some (some yf, σf)) : Rn l G dm_Kb_ask m_Kb_ask (kI fun y' σ' => y' = yf ∧ σ' = σf) 16 [some (.inr (5, 0)), some (.inl x1), o2] [] σ := by
  unfold fb_Kb_ask_16 at h
  simp only [Option.some.injEq, Prod.mk.injEq, true_and] at h
  exact s_Kb_ask_16  ⟨_, rfl, h⟩
def fb_Kb_ask_13  (x1 : Int) (s0 : Int) (σ : kS) : kRes := kg ((-2147483648 ≤ s0 ∧ s0 < 2147483648)) (if s0 = 0 then fb_Kb_ask_18  x1 σ else fb_Kb_ask_16  x1 σ)
theorem e_Kb_ask_13 {l : Launch} {G : kG} {yf : Int} {σf : kS}  {x1 : Int} {s0 : Int} {o2 : Option kV} {σ : kS} (h : fb_Kb_ask_13  x1 s0 σ = some (some yf, σf)) : Rn l G dm_Kb_ask m_Kb_ask (kI fun y' σ' => y' = yf ∧ σ' = σf) 13 [some (.inr (5, 0)), some (.inl x1), o2] [.inl s0] σ := by
  unfold fb_Kb_ask_13 at h
  obtain ⟨h1, h⟩ := kg_some h
  refine s_Kb_ask_13 h1 (fun c => ?_) (fun c => ?_)
  · rw [if_pos c] at h
    exact e_Kb_ask_18  h
  · rw [if_neg c] at h
    exact e_Kb_ask_16  h
def fb_Kb_ask_6  (x1 : Int) (σ : kS) : kRes := kbi (f_Ke_isFull 2 σ) fun y σ1 => fb_Kb_ask_13  x1 y σ1
theorem e_Kb_ask_6 {l : Launch} {G : kG} {yf : Int} {σf : kS}  {x1 : Int} {o2 : Option kV} {σ : kS} (h : fb_Kb_ask_6  x1 σ = some (some yf, σf)) : Rn l G dm_Kb_ask m_Kb_ask (kI fun y' σ' => y' = yf ∧ σ' = σf) 6 [some (.inr (5, 0)), some (.inl x1), o2] [] σ := by
  unfold fb_Kb_ask_6 at h
  obtain ⟨y, σ1, hc, h⟩ := kbi_some h
  refine s_Kb_ask_6  (by decide) (E_Ke_isFull hc) (fun y2 σ2 e2 => ?_)
  obtain ⟨rfl, rfl⟩ := e2
  exact e_Kb_ask_13  h
def fb_Kb_ask_0  (x1 : Int) (σ : kS) : kRes := kg ((-2147483648 ≤ x1 ∧ x1 < 2147483648)) (if x1 < 32 then fb_Kb_ask_28  x1 σ else fb_Kb_ask_6  x1 σ)
theorem e_Kb_ask_0 {l : Launch} {G : kG} {yf : Int} {σf : kS}  {x1 : Int} {o2 : Option kV} {σ : kS} (h : fb_Kb_ask_0  x1 σ = some (some yf, σf)) : Rn l G dm_Kb_ask m_Kb_ask (kI fun y' σ' => y' = yf ∧ σ' = σf) 0 [some (.inr (5, 0)), some (.inl x1), o2] [] σ := by
  unfold fb_Kb_ask_0 at h
  obtain ⟨h1, h⟩ := kg_some h
  refine s_Kb_ask_0 h1 (fun c => ?_) (fun c => ?_)
  · rw [if_pos c] at h
    exact e_Kb_ask_28  h
  · rw [if_neg c] at h
    exact e_Kb_ask_6  h
def f_Kb_ask (x1 : Int) (σ : kS) : kRes := fb_Kb_ask_0 x1 σ
theorem E_Kb_ask {l : Launch} {G : kG} {yf : Int} {σf : kS} {x1 : Int} {σ : kS} (h : f_Kb_ask x1 σ = some (some yf, σf)) : Call l G dm_Kb_ask y_Kb_ask m_Kb_ask [.inr (5, 0), .inl x1] σ (kI fun y' σ' => y' = yf ∧ σ' = σf) := by
  unfold f_Kb_ask at h
  exact Call.of (by decide +kernel) rfl (Nat.le_of_ble_eq_true rfl) (e_Kb_ask_0 h)
/-! Ke_copy -/
def fb_Ke_copy_41  (t : Nat) (u : Nat) (σ : kS) : kRes := some (none, σ)
theorem e_Ke_copy_41 {l : Launch} {G : kG} {σf : kS}  {t : Nat} {u : Nat}  {σ : kS} (h : fb_Ke_copy_41  t u σ = some (none, σf)) : Rn l G dm_Ke_copy m_Ke_copy (kU fun σ' => σ' = σf) 41 [some (.inr (6, t)), some (.inr (6, u))] [] σ := by
  unfold fb_Ke_copy_41 at h
  simp only [Option.some.injEq, Prod.mk.injEq, true_and] at h
  exact s_Ke_copy_41  ⟨rfl, h⟩
def fb_Ke_copy_0  (t : Nat) (u : Nat) (σ : kS) : kRes := kg ((-2147483648 ≤ (((if u = 0 then 4 else if u = 1 then 8 else 30) : Nat) : Int) ∧ (((if u = 0 then 4 else if u = 1 then 8 else 30) : Nat) : Int) < 2147483648) ∧ (-2147483648 ≤ (((if t = 0 then 4 else if t = 1 then 8 else 30) : Nat) : Int) ∧ (((if t = 0 then 4 else if t = 1 then 8 else 30) : Nat) : Int) < 2147483648) ∧ (-2147483648 ≤ σ 6 u 1 ∧ σ 6 u 1 < 2147483648) ∧ (-2147483648 ≤ min (((if u = 0 then 4 else if u = 1 then 8 else 30) : Nat) : Int) (((if t = 0 then 4 else if t = 1 then 8 else 30) : Nat) : Int) ∧ min (((if u = 0 then 4 else if u = 1 then 8 else 30) : Nat) : Int) (((if t = 0 then 4 else if t = 1 then 8 else 30) : Nat) : Int) < 2147483648) ∧ ((0 : Int) ≤ 0 ∧ (0 : Int) ≤ 0 ∧ (0 : Int) ≤ ((kup σ 6 t 1 (min (σ 6 u 1) (min (((if u = 0 then 4 else if u = 1 then 8 else 30) : Nat) : Int) (((if t = 0 then 4 else if t = 1 then 8 else 30) : Nat) : Int)))) 6 t 1) ∧ 0 + ((kup σ 6 t 1 (min (σ 6 u 1) (min (((if u = 0 then 4 else if u = 1 then 8 else 30) : Nat) : Int) (((if t = 0 then 4 else if t = 1 then 8 else 30) : Nat) : Int)))) 6 t 1) ≤ (((if u = 0 then 4 else if u = 1 then 8 else 30) : Nat) : Int) ∧ 0 + ((kup σ 6 t 1 (min (σ 6 u 1) (min (((if u = 0 then 4 else if u = 1 then 8 else 30) : Nat) : Int) (((if t = 0 then 4 else if t = 1 then 8 else 30) : Nat) : Int)))) 6 t 1) ≤ (((if t = 0 then 4 else if t = 1 then 8 else 30) : Nat) : Int))) (fb_Ke_copy_41  t u (kupA (kup σ 6 t 1 (min (σ 6 u 1) (min (((if u = 0 then 4 else if u = 1 then 8 else 30) : Nat) : Int) (((if t = 0 then 4 else if t = 1 then 8 else 30) : Nat) : Int)))) 16 t (va_cpy ((kup σ 6 t 1 (min (σ 6 u 1) (min (((if u = 0 then 4 else if u = 1 then 8 else 30) : Nat) : Int) (((if t = 0 then 4 else if t = 1 then 8 else 30) : Nat) : Int)))) 16 u) ((kup σ 6 t 1 (min (σ 6 u 1) (min (((if u = 0 then 4 else if u = 1 then 8 else 30) : Nat) : Int) (((if t = 0 then 4 else if t = 1 then 8 else 30) : Nat) : Int)))) 16 t) (0) (0) (Int.toNat ((kup σ 6 t 1 (min (σ 6 u 1) (min (((if u = 0 then 4 else if u = 1 then 8 else 30) : Nat) : Int) (((if t = 0 then 4 else if t = 1 then 8 else 30) : Nat) : Int)))) 6 t 1)))))
theorem e_Ke_copy_0 {l : Launch} {G : kG} {σf : kS}  {t : Nat} {u : Nat}  {σ : kS} (h : fb_Ke_copy_0  t u σ = some (none, σf)) : Rn l G dm_Ke_copy m_Ke_copy (kU fun σ' => σ' = σf) 0 [some (.inr (6, t)), some (.inr (6, u))] [] σ := by
  unfold fb_Ke_copy_0 at h
  obtain ⟨⟨h1, h2, h4, h5, h6⟩, h⟩ := kg_some h
  refine s_Ke_copy_0 h1 h2 (by decide) h4 h5 h6 ?_
  exact e_Ke_copy_41  h
def f_Ke_copy (t : Nat) (u : Nat) (σ : kS) : kRes := fb_Ke_copy_0 t u σ
theorem E_Ke_copy {l : Launch} {G : kG} {σf : kS} {t : Nat} {u : Nat} {σ : kS} (h : f_Ke_copy t u σ = some (none, σf)) : Call l G dm_Ke_copy y_Ke_copy m_Ke_copy [.inr (6, t), .inr (6, u)] σ (kU fun σ' => σ' = σf) := by
  unfold f_Ke_copy at h
  exact Call.of (by decide +kernel) rfl (Nat.le_of_ble_eq_true rfl) (e_Ke_copy_0 h)
/-! Kb_beginChange -/
def fb_Kb_beginChange_40   (σ : kS) : kRes := some (none, σ)
theorem e_Kb_beginChange_40 {l : Launch} {G : kG} {σf : kS}    {σ : kS} (h : fb_Kb_beginChange_40   σ = some (none, σf)) : Rn l G dm_Kb_beginChange m_Kb_beginChange (kU fun σ' => σ' = σf) 40 [some (.inr (5, 0))] [] σ := by
  unfold fb_Kb_beginChange_40 at h
  simp only [Option.some.injEq, Prod.mk.injEq, true_and] at h
  exact s_Kb_beginChange_40  ⟨rfl, h⟩
def fb_Kb_beginChange_29   (σ : kS) : kRes := kbu (f_Ke_copy 1 0 σ) fun σ1 => fb_Kb_beginChange_40  σ1
theorem e_Kb_beginChange_29 {l : Launch} {G : kG} {σf : kS}    {σ : kS} (h : fb_Kb_beginChange_29   σ = some (none, σf)) : Rn l G dm_Kb_beginChange m_Kb_beginChange (kU fun σ' => σ' = σf) 29 [some (.inr (5, 0))] [] σ := by
  unfold fb_Kb_beginChange_29 at h
  obtain ⟨σ1, hc, h⟩ := kbu_some h
  refine s_Kb_beginChange_29  (by decide) (E_Ke_copy hc) (fun σ2 e2 => ?_)
  subst e2
  exact e_Kb_beginChange_40  h
def fb_Kb_beginChange_14   (σ : kS) : kRes := kg ((-2147483648 ≤ (kup σ 1 0 5 1) 5 0 12 ∧ (kup σ 1 0 5 1) 5 0 12 < 2147483648)) (if ((kup σ 1 0 5 1) 5 0 12) = 0 then fb_Kb_beginChange_29  (kup σ 1 0 5 1) else fb_Kb_beginChange_40  (kup σ 1 0 5 1))
theorem e_Kb_beginChange_14 {l : Launch} {G : kG} {σf : kS}    {σ : kS} (h : fb_Kb_beginChange_14   σ = some (none, σf)) : Rn l G dm_Kb_beginChange m_Kb_beginChange (kU fun σ' => σ' = σf) 14 [some (.inr (5, 0))] [] σ := by
  unfold fb_Kb_beginChange_14 at h
  obtain ⟨h1, h⟩ := kg_some h
  refine s_Kb_beginChange_14 h1 (fun c => ?_) (fun c => ?_)
  · rw [if_neg c] at h
    exact e_Kb_beginChange_40  h
  · rw [if_pos c] at h
    exact e_Kb_beginChange_29  h
def fb_Kb_beginChange_0   (σ : kS) : kRes := kbu (f_Te_copy 1 0 σ) fun σ1 => fb_Kb_beginChange_14  σ1
theorem e_Kb_beginChange_0 {l : Launch} {G : kG} {σf : kS}    {σ : kS} (h : fb_Kb_beginChange_0   σ = some (none, σf)) : Rn l G dm_Kb_beginChange m_Kb_beginChange (kU fun σ' => σ' = σf) 0 [some (.inr (5, 0))] [] σ := by
  unfold fb_Kb_beginChange_0 at h
  obtain ⟨σ1, hc, h⟩ := kbu_some h
  refine s_Kb_beginChange_0  (by decide) (E_Te_copy hc) (fun σ2 e2 => ?_)
  subst e2
  exact e_Kb_beginChange_14  h
def f_Kb_beginChange  (σ : kS) : kRes := fb_Kb_beginChange_0  σ
theorem E_Kb_beginChange {l : Launch} {G : kG} {σf : kS}  {σ : kS} (h : f_Kb_beginChange  σ = some (none, σf)) : Call l G dm_Kb_beginChange y_Kb_beginChange m_Kb_beginChange [.inr (5, 0)] σ (kU fun σ' => σ' = σf) := by
  unfold f_Kb_beginChange at h
  exact Call.of (by decide +kernel) rfl (Nat.le_of_ble_eq_true rfl) (e_Kb_beginChange_0 h)
/-! Kb_beginInsert -/
def fb_Kb_beginInsert_0  (x1 : Int) (x2 : Int) (σ : kS) : kRes := some (none, kup (kup (kup (kup σ 5 0 6 1) 5 0 10 x2) 2 0 3 x1) 2 0 4 x2)
theorem e_Kb_beginInsert_0 {l : Launch} {G : kG} {σf : kS}  {x1 : Int} {x2 : Int}  {σ : kS} (h : fb_Kb_beginInsert_0  x1 x2 σ = some (none, σf)) : Rn l G dm_Kb_beginInsert m_Kb_beginInsert (kU fun σ' => σ' = σf) 0 [some (.inr (5, 0)), some (.inl x1), some (.inl x2)] [] σ := by
  unfold fb_Kb_beginInsert_0 at h
  simp only [Option.some.injEq, Prod.mk.injEq, true_and] at h
  exact s_Kb_beginInsert_0  ⟨rfl, h⟩
def f_Kb_beginInsert (x1 : Int) (x2 : Int) (σ : kS) : kRes := fb_Kb_beginInsert_0 x1 x2 σ
theorem E_Kb_beginInsert {l : Launch} {G : kG} {σf : kS} {x1 : Int} {x2 : Int} {σ : kS} (h : f_Kb_beginInsert x1 x2 σ = some (none, σf)) : Call l G dm_Kb_beginInsert y_Kb_beginInsert m_Kb_beginInsert [.inr (5, 0), .inl x1, .inl x2] σ (kU fun σ' => σ' = σf) := by
  unfold f_Kb_beginInsert at h
  exact Call.of (by decide +kernel) rfl (Nat.le_of_ble_eq_true rfl) (e_Kb_beginInsert_0 h)
/-! Kb_dropCommand -/
def fb_Kb_dropCommand_0   (σ : kS) : kRes := some (none, kup (kup (kup (kup σ 6 0 1 0) 5 0 7 0) 5 0 8 0) 5 0 9 0)
theorem e_Kb_dropCommand_0 {l : Launch} {G : kG} {σf : kS}    {σ : kS} (h : fb_Kb_dropCommand_0   σ = some (none, σf)) : Rn l G dm_Kb_dropCommand m_Kb_dropCommand (kU fun σ' => σ' = σf) 0 [some (.inr (5, 0))] [] σ := by
  unfold fb_Kb_dropCommand_0 at h
  simp only [Option.some.injEq, Prod.mk.injEq, true_and] at h
  exact s_Kb_dropCommand_0  ⟨rfl, h⟩
def f_Kb_dropCommand  (σ : kS) : kRes := fb_Kb_dropCommand_0  σ
theorem E_Kb_dropCommand {l : Launch} {G : kG} {σf : kS}  {σ : kS} (h : f_Kb_dropCommand  σ = some (none, σf)) : Call l G dm_Kb_dropCommand y_Kb_dropCommand m_Kb_dropCommand [.inr (5, 0)] σ (kU fun σ' => σ' = σf) := by
  unfold f_Kb_dropCommand at h
  exact Call.of (by decide +kernel) rfl (Nat.le_of_ble_eq_true rfl) (e_Kb_dropCommand_0 h)
/-! Kb_isCountKey -/
def fb_Kb_isCountKey_37  (x1 : Int) (s0 : Int) (σ : kS) : kRes := kg ((s0 = 0 ∨ s0 = 1)) (some (some s0, σ))
theorem e_Kb_isCountKey_37 {l : Launch} {G : kG} {yf : Int} {σf : kS}  {x1 : Int} {s0 : Int}  {σ : kS} (h : fb_Kb_isCountKey_37  x1 s0 σ = some (some yf, σf)) : Rn l G dm_Kb_isCountKey m_Kb_isCountKey (kI fun y' σ' => y' = yf ∧ σ' = σf) 37 [some (.inr (5, 0)), some (.inl x1)] [.inl s0] σ := by
  unfold fb_Kb_isCountKey_37 at h
  obtain ⟨h1, h⟩ := kg_some h
  simp only [Option.some.injEq, Prod.mk.injEq, true_and] at h
  exact s_Kb_isCountKey_37 h1 ⟨_, rfl, h⟩
def fb_Kb_isCountKey_36  (x1 : Int) (σ : kS) : kRes := fb_Kb_isCountKey_37  x1 0 σ
theorem e_Kb_isCountKey_36 {l : Launch} {G : kG} {yf : Int} {σf : kS}  {x1 : Int}  {σ : kS} (h : fb_Kb_isCountKey_36  x1 σ = some (some yf, σf)) : Rn l G dm_Kb_isCountKey m_Kb_isCountKey (kI fun y' σ' => y' = yf ∧ σ' = σf) 36 [some (.inr (5, 0)), some (.inl x1)] [] σ := by
  unfold fb_Kb_isCountKey_36 at h
  refine s_Kb_isCountKey_36  ?_
  exact e_Kb_isCountKey_37  h
def fb_Kb_isCountKey_32  (x1 : Int) (σ : kS) : kRes := fb_Kb_isCountKey_37  x1 1 σ
theorem e_Kb_isCountKey_32 {l : Launch} {G : kG} {yf : Int} {σf : kS}  {x1 : Int}  {σ : kS} (h : fb_Kb_isCountKey_32  x1 σ = some (some yf, σf)) : Rn l G dm_Kb_isCountKey m_Kb_isCountKey (kI fun y' σ' => y' = yf ∧ σ' = σf) 32 [some (.inr (5, 0)), some (.inl x1)] [] σ := by
  unfold fb_Kb_isCountKey_32 at h
  refine s_Kb_isCountKey_32  ?_
  exact e_Kb_isCountKey_37  h
def fb_Kb_isCountKey_29  (x1 : Int) (s0 : Int) (s1 : Int) (σ : kS) : kRes := kg ((-2147483648 ≤ s1 ∧ s1 < 2147483648) ∧ (-2147483648 ≤ s0 ∧ s0 < 2147483648)) (if s1 < s0 then fb_Kb_isCountKey_36  x1 σ else fb_Kb_isCountKey_32  x1 σ)
theorem e_Kb_isCountKey_29 {l : Launch} {G : kG} {yf : Int} {σf : kS}  {x1 : Int} {s0 : Int} {s1 : Int}  {σ : kS} (h : fb_Kb_isCountKey_29  x1 s0 s1 σ = some (some yf, σf)) : Rn l G dm_Kb_isCountKey m_Kb_isCountKey (kI fun y' σ' => y' = yf ∧ σ' = σf) 29 [some (.inr (5, 0)), some (.inl x1)] [.inl s0, .inl s1] σ := by
  unfold fb_Kb_isCountKey_29 at h
  obtain ⟨⟨h1, h2⟩, h⟩ := kg_some h
  refine s_Kb_isCountKey_29 h1 h2 (fun c => ?_) (fun c => ?_)
  · rw [if_pos c] at h
    exact e_Kb_isCountKey_36  h
  · rw [if_neg c] at h
    exact e_Kb_isCountKey_32  h
def fb_Kb_isCountKey_27  (x1 : Int) (s0 : Int) (σ : kS) : kRes := fb_Kb_isCountKey_29  x1 48 s0 σ
theorem e_Kb_isCountKey_27 {l : Launch} {G : kG} {yf : Int} {σf : kS}  {x1 : Int} {s0 : Int}  {σ : kS} (h : fb_Kb_isCountKey_27  x1 s0 σ = some (some yf, σf)) : Rn l G dm_Kb_isCountKey m_Kb_isCountKey (kI fun y' σ' => y' = yf ∧ σ' = σf) 27 [some (.inr (5, 0)), some (.inl x1)] [.inl s0] σ := by
  unfold fb_Kb_isCountKey_27 at h
  refine s_Kb_isCountKey_27  ?_
  exact e_Kb_isCountKey_29  h
def fb_Kb_isCountKey_22  (x1 : Int) (s0 : Int) (σ : kS) : kRes := fb_Kb_isCountKey_29  x1 49 s0 σ
theorem e_Kb_isCountKey_22 {l : Launch} {G : kG} {yf : Int} {σf : kS}  {x1 : Int} {s0 : Int}  {σ : kS} (h : fb_Kb_isCountKey_22  x1 s0 σ = some (some yf, σf)) : Rn l G dm_Kb_isCountKey m_Kb_isCountKey (kI fun y' σ' => y' = yf ∧ σ' = σf) 22 [some (.inr (5, 0)), some (.inl x1)] [.inl s0] σ := by
  unfold fb_Kb_isCountKey_22 at h
  refine s_Kb_isCountKey_22  ?_
  exact e_Kb_isCountKey_29  h
def fb_Kb_isCountKey_14  (x1 : Int) (σ : kS) : kRes := kg ((-2147483648 ≤ σ 5 0 8 ∧ σ 5 0 8 < 2147483648)) (if (σ 5 0 8) = 0 then fb_Kb_isCountKey_22  x1 x1 σ else fb_Kb_isCountKey_27  x1 x1 σ)
theorem e_Kb_isCountKey_14 {l : Launch} {G : kG} {yf : Int} {σf : kS}  {x1 : Int}  {σ : kS} (h : fb_Kb_isCountKey_14  x1 σ = some (some yf, σf)) : Rn l G dm_Kb_isCountKey m_Kb_isCountKey (kI fun y' σ' => y' = yf ∧ σ' = σf) 14 [some (.inr (5, 0)), some (.inl x1)] [] σ := by
  unfold fb_Kb_isCountKey_14 at h
  obtain ⟨h1, h⟩ := kg_some h
  refine s_Kb_isCountKey_14 h1 (fun c => ?_) (fun c => ?_)
  · rw [if_neg c] at h
    exact e_Kb_isCountKey_27  h
  · rw [if_pos c] at h
    exact e_Kb_isCountKey_22  h
def fb_Kb_isCountKey_8  (x1 : Int) (σ : kS) : kRes := kg ((-2147483648 ≤ x1 ∧ x1 < 2147483648)) (if 57 < x1 then fb_Kb_isCountKey_36  x1 σ else fb_Kb_isCountKey_14  x1 σ)
theorem e_Kb_isCountKey_8 {l : Launch} {G : kG} {yf : Int} {σf : kS}  {x1 : Int}  {σ : kS} (h : fb_Kb_isCountKey_8  x1 σ = some (some yf, σf)) : Rn l G dm_Kb_isCountKey m_Kb_isCountKey (kI fun y' σ' => y' = yf ∧ σ' = σf) 8 [some (.inr (5, 0)), some (.inl x1)] [] σ := by
  unfold fb_Kb_isCountKey_8 at h
  obtain ⟨h1, h⟩ := kg_some h
  refine s_Kb_isCountKey_8 h1 (fun c => ?_) (fun c => ?_)
  · rw [if_pos c] at h
    exact e_Kb_isCountKey_36  h
  · rw [if_neg c] at h
    exact e_Kb_isCountKey_14  h
def fb_Kb_isCountKey_0  (x1 : Int) (σ : kS) : kRes := kg ((-2147483648 ≤ σ 5 0 8 ∧ σ 5 0 8 < 2147483648)) (if 2 ≤ (σ 5 0 8) then fb_Kb_isCountKey_36  x1 σ else fb_Kb_isCountKey_8  x1 σ)
theorem e_Kb_isCountKey_0 {l : Launch} {G : kG} {yf : Int} {σf : kS}  {x1 : Int}  {σ : kS} (h : fb_Kb_isCountKey_0  x1 σ = some (some yf, σf)) : Rn l G dm_Kb_isCountKey m_Kb_isCountKey (kI fun y' σ' => y' = yf ∧ σ' = σf) 0 [some (.inr (5, 0)), some (.inl x1)] [] σ := by
  unfold fb_Kb_isCountKey_0 at h
  obtain ⟨h1, h⟩ := kg_some h
  refine s_Kb_isCountKey_0 h1 (fun c => ?_) (fun c => ?_)
  · rw [if_pos c] at h
    exact e_Kb_isCountKey_36  h
  · rw [if_neg c] at h
    exact e_Kb_isCountKey_8  h
def f_Kb_isCountKey (x1 : Int) (σ : kS) : kRes := fb_Kb_isCountKey_0 x1 σ
theorem E_Kb_isCountKey {l : Launch} {G : kG} {yf : Int} {σf : kS} {x1 : Int} {σ : kS} (h : f_Kb_isCountKey x1 σ = some (some yf, σf)) : Call l G dm_Kb_isCountKey y_Kb_isCountKey m_Kb_isCountKey [.inr (5, 0), .inl x1] σ (kI fun y' σ' => y' = yf ∧ σ' = σf) := by
  unfold f_Kb_isCountKey at h
  exact Call.of (by decide +kernel) rfl (Nat.le_of_ble_eq_true rfl) (e_Kb_isCountKey_0 h)
/-! Kb_isOperator -/
def fb_Kb_isOperator_23  (x0 : Int) (s0 : Int) (σ : kS) : kRes := kg ((s0 = 0 ∨ s0 = 1)) (some (some s0, σ))
theorem e_Kb_isOperator_23 {l : Launch} {G : kG} {yf : Int} {σf : kS}  {x0 : Int} {s0 : Int}  {σ : kS} (h : fb_Kb_isOperator_23  x0 s0 σ = some (some yf, σf)) : Rn l G dm_Kb_isOperator m_Kb_isOperator (kI fun y' σ' => y' = yf ∧ σ' = σf) 23 [some (.inl x0)] [.inl s0] σ := by
  unfold fb_Kb_isOperator_23 at h
  obtain ⟨h1, h⟩ := kg_some h
  simp only [Option.some.injEq, Prod.mk.injEq, true_and] at h
  exact s_Kb_isOperator_23 h1 ⟨_, rfl, h⟩
def fb_Kb_isOperator_22  (x0 : Int) (σ : kS) : kRes := fb_Kb_isOperator_23  x0 0 σ
theorem e_Kb_isOperator_22 {l : Launch} {G : kG} {yf : Int} {σf : kS}  {x0 : Int}  {σ : kS} (h : fb_Kb_isOperator_22  x0 σ = some (some yf, σf)) : Rn l G dm_Kb_isOperator m_Kb_isOperator (kI fun y' σ' => y' = yf ∧ σ' = σf) 22 [some (.inl x0)] [] σ := by
  unfold fb_Kb_isOperator_22 at h
  refine s_Kb_isOperator_22  ?_
  exact e_Kb_isOperator_23  h
def fb_Kb_isOperator_18  (x0 : Int) (σ : kS) : kRes := fb_Kb_isOperator_23  x0 1 σ
theorem e_Kb_isOperator_18 {l : Launch} {G : kG} {yf : Int} {σf : kS}  {x0 : Int}  {σ : kS} (h : fb_Kb_isOperator_18  x0 σ = some (some yf, σf)) : Rn l G dm_Kb_isOperator m_Kb_isOperator (kI fun y' σ' => y' = yf ∧ σ' = σf) 18 [some (.inl x0)] [] σ := by
  unfold fb_Kb_isOperator_18 at h
  refine s_Kb_isOperator_18  ?_
  exact e_Kb_isOperator_23  h
def fb_Kb_isOperator_12  (x0 : Int) (σ : kS) : kRes := kg ((-2147483648 ≤ x0 ∧ x0 < 2147483648)) (if x0 = 121 then fb_Kb_isOperator_18  x0 σ else fb_Kb_isOperator_22  x0 σ)
theorem e_Kb_isOperator_12 {l : Launch} {G : kG} {yf : Int} {σf : kS}  {x0 : Int}  {σ : kS} (h : fb_Kb_isOperator_12  x0 σ = some (some yf, σf)) : Rn l G dm_Kb_isOperator m_Kb_isOperator (kI fun y' σ' => y' = yf ∧ σ' = σf) 12 [some (.inl x0)] [] σ := by
  unfold fb_Kb_isOperator_12 at h
  obtain ⟨h1, h⟩ := kg_some h
  refine s_Kb_isOperator_12 h1 (fun c => ?_) (fun c => ?_)
  · rw [if_neg c] at h
    exact e_Kb_isOperator_22  h
  · rw [if_pos c] at h
    exact e_Kb_isOperator_18  h
def fb_Kb_isOperator_6  (x0 : Int) (σ : kS) : kRes := kg ((-2147483648 ≤ x0 ∧ x0 < 2147483648)) (if x0 = 99 then fb_Kb_isOperator_18  x0 σ else fb_Kb_isOperator_12  x0 σ)
theorem e_Kb_isOperator_6 {l : Launch} {G : kG} {yf : Int} {σf : kS}  {x0 : Int}  {σ : kS} (h : fb_Kb_isOperator_6  x0 σ = some (some yf, σf)) : Rn l G dm_Kb_isOperator m_Kb_isOperator (kI fun y' σ' => y' = yf ∧ σ' = σf) 6 [some (.inl x0)] [] σ := by
  unfold fb_Kb_isOperator_6 at h
  obtain ⟨h1, h⟩ := kg_some h
  refine s_Kb_isOperator_6 h1 (fun c => ?_) (fun c => ?_)
  · rw [if_pos c] at h
    exact e_Kb_isOperator_18  h
  · rw [if_neg c] at h
    exact e_Kb_isOperator_12  h
def fb_Kb_isOperator_0  (x0 : Int) (σ : kS) : kRes := kg ((-2147483648 ≤ x0 ∧ x0 < 2147483648)) (if x0 = 100 then fb_Kb_isOperator_18  x0 σ else fb_Kb_isOperator_6  x0 σ)
theorem e_Kb_isOperator_0 {l : Launch} {G : kG} {yf : Int} {σf : kS}  {x0 : Int}  {σ : kS} (h : fb_Kb_isOperator_0  x0 σ = some (some yf, σf)) : Rn l G dm_Kb_isOperator m_Kb_isOperator (kI fun y' σ' => y' = yf ∧ σ' = σf) 0 [some (.inl x0)] [] σ := by
  unfold fb_Kb_isOperator_0 at h
  obtain ⟨h1, h⟩ := kg_some h
  refine s_Kb_isOperator_0 h1 (fun c => ?_) (fun c => ?_)
  · rw [if_pos c] at h
    exact e_Kb_isOperator_18  h
  · rw [if_neg c] at h
    exact e_Kb_isOperator_6  h
def f_Kb_isOperator (x0 : Int) (σ : kS) : kRes := fb_Kb_isOperator_0 x0 σ
theorem E_Kb_isOperator {l : Launch} {G : kG} {yf : Int} {σf : kS} {x0 : Int} {σ : kS} (h : f_Kb_isOperator x0 σ = some (some yf, σf)) : Call l G dm_Kb_isOperator y_Kb_isOperator m_Kb_isOperator [.inl x0] σ (kI fun y' σ' => y' = yf ∧ σ' = σf) := by
  unfold f_Kb_isOperator at h
  exact Call.of (by decide +kernel) rfl (Nat.le_of_ble_eq_true rfl) (e_Kb_isOperator_0 h)
/-! Kb_operateOnLetters -/
def fb_Kb_operateOnLetters_86  (x1 : Int) (x2 : Int) (σ : kS) : kRes := some (some 1, σ)
theorem e_Kb_operateOnLetters_86 {l : Launch} {G : kG} {yf : Int} {σf : kS}  {x1 : Int} {x2 : Int}  {σ : kS} (h : fb_Kb_operateOnLetters_86  x1 x2 σ = some (some yf, σf)) : Rn l G dm_Kb_operateOnLetters m_Kb_operateOnLetters (kI fun y' σ' => y' = yf ∧ σ' = σf) 86 [some (.inr (5, 0)), some (.inl x1), some (.inl x2)] [] σ := by
  unfold fb_Kb_operateOnLetters_86 at h
  simp only [Option.some.injEq, Prod.mk.injEq, true_and] at h
  exact s_Kb_operateOnLetters_86  ⟨_, rfl, h⟩
def fb_Kb_operateOnLetters_74  (x1 : Int) (x2 : Int) (σ : kS) : kRes := kbu (f_Kb_beginInsert (σ 2 0 3) x1 σ) fun σ1 => fb_Kb_operateOnLetters_86  x1 x2 σ1
theorem e_Kb_operateOnLetters_74 {l : Launch} {G : kG} {yf : Int} {σf : kS}  {x1 : Int} {x2 : Int}  {σ : kS} (h : fb_Kb_operateOnLetters_74  x1 x2 σ = some (some yf, σf)) : Rn l G dm_Kb_operateOnLetters m_Kb_operateOnLetters (kI fun y' σ' => y' = yf ∧ σ' = σf) 74 [some (.inr (5, 0)), some (.inl x1), some (.inl x2)] [] σ := by
  unfold fb_Kb_operateOnLetters_74 at h
  obtain ⟨σ1, hc, h⟩ := kbu_some h
  refine s_Kb_operateOnLetters_74  (by decide) (E_Kb_beginInsert hc) (fun σ2 e2 => ?_)
  subst e2
  exact e_Kb_operateOnLetters_86  h
def fb_Kb_operateOnLetters_71  (x1 : Int) (x2 : Int) (σ : kS) : kRes := fb_Kb_operateOnLetters_86  x1 x2 σ
theorem e_Kb_operateOnLetters_71 {l : Launch} {G : kG} {yf : Int} {σf : kS}  {x1 : Int} {x2 : Int}  {σ : kS} (h : fb_Kb_operateOnLetters_71  x1 x2 σ = some (some yf, σf)) : Rn l G dm_Kb_operateOnLetters m_Kb_operateOnLetters (kI fun y' σ' => y' = yf ∧ σ' = σf) 71 [some (.inr (5, 0)), some (.inl x1), some (.inl x2)] [] σ := by
  unfold fb_Kb_operateOnLetters_71 at h
  refine s_Kb_operateOnLetters_71  ?_
  exact e_Kb_operateOnLetters_86  h
def fb_Kb_operateOnLetters_56  (x1 : Int) (x2 : Int) (σ : kS) : kRes := kbu (f_Te_stand (σ 2 0 3) x1 0 σ) fun σ1 => fb_Kb_operateOnLetters_71  x1 x2 σ1
theorem e_Kb_operateOnLetters_56 {l : Launch} {G : kG} {yf : Int} {σf : kS}  {x1 : Int} {x2 : Int}  {σ : kS} (h : fb_Kb_operateOnLetters_56  x1 x2 σ = some (some yf, σf)) : Rn l G dm_Kb_operateOnLetters m_Kb_operateOnLetters (kI fun y' σ' => y' = yf ∧ σ' = σf) 56 [some (.inr (5, 0)), some (.inl x1), some (.inl x2)] [] σ := by
  unfold fb_Kb_operateOnLetters_56 at h
  obtain ⟨σ1, hc, h⟩ := kbu_some h
  refine s_Kb_operateOnLetters_56  (by decide) (E_Te_stand hc) (fun σ2 e2 => ?_)
  subst e2
  exact e_Kb_operateOnLetters_71  h
def fb_Kb_operateOnLetters_47  (x1 : Int) (x2 : Int) (σ : kS) : kRes := kg ((-2147483648 ≤ σ 5 0 9 ∧ σ 5 0 9 < 2147483648)) (if (σ 5 0 9) = 100 then fb_Kb_operateOnLetters_56  x1 x2 σ else fb_Kb_operateOnLetters_74  x1 x2 σ)
theorem e_Kb_operateOnLetters_47 {l : Launch} {G : kG} {yf : Int} {σf : kS}  {x1 : Int} {x2 : Int}  {σ : kS} (h : fb_Kb_operateOnLetters_47  x1 x2 σ = some (some yf, σf)) : Rn l G dm_Kb_operateOnLetters m_Kb_operateOnLetters (kI fun y' σ' => y' = yf ∧ σ' = σf) 47 [some (.inr (5, 0)), some (.inl x1), some (.inl x2)] [] σ := by
  unfold fb_Kb_operateOnLetters_47 at h
  obtain ⟨h1, h⟩ := kg_some h
  refine s_Kb_operateOnLetters_47 h1 (fun c => ?_) (fun c => ?_)
  · rw [if_neg c] at h
    exact e_Kb_operateOnLetters_74  h
  · rw [if_pos c] at h
    exact e_Kb_operateOnLetters_56  h
def fb_Kb_operateOnLetters_31  (x1 : Int) (x2 : Int) (σ : kS) : kRes := kbu (f_Te_closeLetters (σ 2 0 3) x1 x2 0 σ) fun σ1 => fb_Kb_operateOnLetters_47  x1 x2 σ1
theorem e_Kb_operateOnLetters_31 {l : Launch} {G : kG} {yf : Int} {σf : kS}  {x1 : Int} {x2 : Int}  {σ : kS} (h : fb_Kb_operateOnLetters_31  x1 x2 σ = some (some yf, σf)) : Rn l G dm_Kb_operateOnLetters m_Kb_operateOnLetters (kI fun y' σ' => y' = yf ∧ σ' = σf) 31 [some (.inr (5, 0)), some (.inl x1), some (.inl x2)] [] σ := by
  unfold fb_Kb_operateOnLetters_31 at h
  obtain ⟨σ1, hc, h⟩ := kbu_some h
  refine s_Kb_operateOnLetters_31  (by decide) (E_Te_closeLetters hc) (fun σ2 e2 => ?_)
  subst e2
  exact e_Kb_operateOnLetters_47  h
def fb_Kb_operateOnLetters_27  (x1 : Int) (x2 : Int) (σ : kS) : kRes := kbu (f_Kb_beginChange  σ) fun σ1 => fb_Kb_operateOnLetters_31  x1 x2 σ1
theorem e_Kb_operateOnLetters_27 {l : Launch} {G : kG} {yf : Int} {σf : kS}  {x1 : Int} {x2 : Int}  {σ : kS} (h : fb_Kb_operateOnLetters_27  x1 x2 σ = some (some yf, σf)) : Rn l G dm_Kb_operateOnLetters m_Kb_operateOnLetters (kI fun y' σ' => y' = yf ∧ σ' = σf) 27 [some (.inr (5, 0)), some (.inl x1), some (.inl x2)] [] σ := by
  unfold fb_Kb_operateOnLetters_27 at h
  obtain ⟨σ1, hc, h⟩ := kbu_some h
  refine s_Kb_operateOnLetters_27  (by decide) (E_Kb_beginChange hc) (fun σ2 e2 => ?_)
  subst e2
  exact e_Kb_operateOnLetters_31  h
def fb_Kb_operateOnLetters_25  (x1 : Int) (x2 : Int) (σ : kS) : kRes := some (some 1, σ)
theorem e_Kb_operateOnLetters_25 {l : Launch} {G : kG} {yf : Int} {σf : kS}  {x1 : Int} {x2 : Int}  {σ : kS} (h : fb_Kb_operateOnLetters_25  x1 x2 σ = some (some yf, σf)) : Rn l G dm_Kb_operateOnLetters m_Kb_operateOnLetters (kI fun y' σ' => y' = yf ∧ σ' = σf) 25 [some (.inr (5, 0)), some (.inl x1), some (.inl x2)] [] σ := by
  unfold fb_Kb_operateOnLetters_25 at h
  simp only [Option.some.injEq, Prod.mk.injEq, true_and] at h
  exact s_Kb_operateOnLetters_25  ⟨_, rfl, h⟩
def fb_Kb_operateOnLetters_16  (x1 : Int) (x2 : Int) (σ : kS) : kRes := kg ((-2147483648 ≤ σ 5 0 9 ∧ σ 5 0 9 < 2147483648)) (if (σ 5 0 9) = 121 then fb_Kb_operateOnLetters_25  x1 x2 σ else fb_Kb_operateOnLetters_27  x1 x2 σ)
theorem e_Kb_operateOnLetters_16 {l : Launch} {G : kG} {yf : Int} {σf : kS}  {x1 : Int} {x2 : Int}  {σ : kS} (h : fb_Kb_operateOnLetters_16  x1 x2 σ = some (some yf, σf)) : Rn l G dm_Kb_operateOnLetters m_Kb_operateOnLetters (kI fun y' σ' => y' = yf ∧ σ' = σf) 16 [some (.inr (5, 0)), some (.inl x1), some (.inl x2)] [] σ := by
  unfold fb_Kb_operateOnLetters_16 at h
  obtain ⟨h1, h⟩ := kg_some h
  refine s_Kb_operateOnLetters_16 h1 (fun c => ?_) (fun c => ?_)
  · rw [if_neg c] at h
    exact e_Kb_operateOnLetters_27  h
  · rw [if_pos c] at h
    exact e_Kb_operateOnLetters_25  h
def fb_Kb_operateOnLetters_7  (x1 : Int) (x2 : Int) (σ : kS) : kRes := kbu (f_De_holdLetters x1 x2 σ) fun σ1 => fb_Kb_operateOnLetters_16  x1 x2 σ1
theorem e_Kb_operateOnLetters_7 {l : Launch} {G : kG} {yf : Int} {σf : kS}  {x1 : Int} {x2 : Int}  {σ : kS} (h : fb_Kb_operateOnLetters_7  x1 x2 σ = some (some yf, σf)) : Rn l G dm_Kb_operateOnLetters m_Kb_operateOnLetters (kI fun y' σ' => y' = yf ∧ σ' = σf) 7 [some (.inr (5, 0)), some (.inl x1), some (.inl x2)] [] σ := by
  unfold fb_Kb_operateOnLetters_7 at h
  obtain ⟨σ1, hc, h⟩ := kbu_some h
  refine s_Kb_operateOnLetters_7  (by decide) (E_De_holdLetters hc) (fun σ2 e2 => ?_)
  subst e2
  exact e_Kb_operateOnLetters_16  h
def fb_Kb_operateOnLetters_5  (x1 : Int) (x2 : Int) (σ : kS) : kRes := some (some 0, σ)
theorem e_Kb_operateOnLetters_5 {l : Launch} {G : kG} {yf : Int} {σf : kS}  {x1 : Int} {x2 : Int}  {σ : kS} (h : fb_Kb_operateOnLetters_5  x1 x2 σ = some (some yf, σf)) : Rn l G dm_Kb_operateOnLetters m_Kb_operateOnLetters (kI fun y' σ' => y' = yf ∧ σ' = σf) 5 [some (.inr (5, 0)), some (.inl x1), some (.inl x2)] [] σ := by
  unfold fb_Kb_operateOnLetters_5 at h
  simp only [Option.some.injEq, Prod.mk.injEq, true_and] at h
  exact s_Kb_operateOnLetters_5  ⟨_, rfl, h⟩
def fb_Kb_operateOnLetters_0  (x1 : Int) (x2 : Int) (σ : kS) : kRes := kg ((-2147483648 ≤ x1 ∧ x1 < 2147483648) ∧ (-2147483648 ≤ x2 ∧ x2 < 2147483648)) (if x1 < x2 then fb_Kb_operateOnLetters_7  x1 x2 σ else fb_Kb_operateOnLetters_5  x1 x2 σ)
theorem e_Kb_operateOnLetters_0 {l : Launch} {G : kG} {yf : Int} {σf : kS}  {x1 : Int} {x2 : Int}  {σ : kS} (h : fb_Kb_operateOnLetters_0  x1 x2 σ = some (some yf, σf)) : Rn l G dm_Kb_operateOnLetters m_Kb_operateOnLetters (kI fun y' σ' => y' = yf ∧ σ' = σf) 0 [some (.inr (5, 0)), some (.inl x1), some (.inl x2)] [] σ := by
  unfold fb_Kb_operateOnLetters_0 at h
  obtain ⟨⟨h1, h2⟩, h⟩ := kg_some h
  refine s_Kb_operateOnLetters_0 h1 h2 (fun c => ?_) (fun c => ?_)
  · rw [if_pos c] at h
    exact e_Kb_operateOnLetters_7  h
  · rw [if_neg c] at h
    exact e_Kb_operateOnLetters_5  h
def f_Kb_operateOnLetters (x1 : Int) (x2 : Int) (σ : kS) : kRes := fb_Kb_operateOnLetters_0 x1 x2 σ
theorem E_Kb_operateOnLetters {l : Launch} {G : kG} {yf : Int} {σf : kS} {x1 : Int} {x2 : Int} {σ : kS} (h : f_Kb_operateOnLetters x1 x2 σ = some (some yf, σf)) : Call l G dm_Kb_operateOnLetters y_Kb_operateOnLetters m_Kb_operateOnLetters [.inr (5, 0), .inl x1, .inl x2] σ (kI fun y' σ' => y' = yf ∧ σ' = σf) := by
  unfold f_Kb_operateOnLetters at h
  exact Call.of (by decide +kernel) rfl (Nat.le_of_ble_eq_true rfl) (e_Kb_operateOnLetters_0 h)
/-! Kb_operateOnLines -/
def fb_Kb_operateOnLines_60  (x1 : Int) (x2 : Int) (σ : kS) : kRes := some (some 1, σ)
theorem e_Kb_operateOnLines_60 {l : Launch} {G : kG} {yf : Int} {σf : kS}  {x1 : Int} {x2 : Int}  {σ : kS} (h : fb_Kb_operateOnLines_60  x1 x2 σ = some (some yf, σf)) : Rn l G dm_Kb_operateOnLines m_Kb_operateOnLines (kI fun y' σ' => y' = yf ∧ σ' = σf) 60 [some (.inr (5, 0)), some (.inl x1), some (.inl x2)] [] σ := by
  unfold fb_Kb_operateOnLines_60 at h
  simp only [Option.some.injEq, Prod.mk.injEq, true_and] at h
  exact s_Kb_operateOnLines_60  ⟨_, rfl, h⟩
def fb_Kb_operateOnLines_54  (x1 : Int) (x2 : Int) (σ : kS) : kRes := kbu (f_Kb_beginInsert x1 0 σ) fun σ1 => fb_Kb_operateOnLines_60  x1 x2 σ1
theorem e_Kb_operateOnLines_54 {l : Launch} {G : kG} {yf : Int} {σf : kS}  {x1 : Int} {x2 : Int}  {σ : kS} (h : fb_Kb_operateOnLines_54  x1 x2 σ = some (some yf, σf)) : Rn l G dm_Kb_operateOnLines m_Kb_operateOnLines (kI fun y' σ' => y' = yf ∧ σ' = σf) 54 [some (.inr (5, 0)), some (.inl x1), some (.inl x2)] [] σ := by
  unfold fb_Kb_operateOnLines_54 at h
  obtain ⟨σ1, hc, h⟩ := kbu_some h
  refine s_Kb_operateOnLines_54  (by decide) (E_Kb_beginInsert hc) (fun σ2 e2 => ?_)
  subst e2
  exact e_Kb_operateOnLines_60  h
def fb_Kb_operateOnLines_45  (x1 : Int) (x2 : Int) (σ : kS) : kRes := kbu (f_De_emptyLines x1 x2 σ) fun σ1 => fb_Kb_operateOnLines_54  x1 x2 σ1
theorem e_Kb_operateOnLines_45 {l : Launch} {G : kG} {yf : Int} {σf : kS}  {x1 : Int} {x2 : Int}  {σ : kS} (h : fb_Kb_operateOnLines_45  x1 x2 σ = some (some yf, σf)) : Rn l G dm_Kb_operateOnLines m_Kb_operateOnLines (kI fun y' σ' => y' = yf ∧ σ' = σf) 45 [some (.inr (5, 0)), some (.inl x1), some (.inl x2)] [] σ := by
  unfold fb_Kb_operateOnLines_45 at h
  obtain ⟨σ1, hc, h⟩ := kbu_some h
  refine s_Kb_operateOnLines_45  (by decide) (E_De_emptyLines hc) (fun σ2 e2 => ?_)
  subst e2
  exact e_Kb_operateOnLines_54  h
def fb_Kb_operateOnLines_42  (x1 : Int) (x2 : Int) (σ : kS) : kRes := fb_Kb_operateOnLines_60  x1 x2 σ
theorem e_Kb_operateOnLines_42 {l : Launch} {G : kG} {yf : Int} {σf : kS}  {x1 : Int} {x2 : Int}  {σ : kS} (h : fb_Kb_operateOnLines_42  x1 x2 σ = some (some yf, σf)) : Rn l G dm_Kb_operateOnLines m_Kb_operateOnLines (kI fun y' σ' => y' = yf ∧ σ' = σf) 42 [some (.inr (5, 0)), some (.inl x1), some (.inl x2)] [] σ := by
  unfold fb_Kb_operateOnLines_42 at h
  refine s_Kb_operateOnLines_42  ?_
  exact e_Kb_operateOnLines_60  h
def fb_Kb_operateOnLines_33  (x1 : Int) (x2 : Int) (σ : kS) : kRes := kbu (f_De_dropLines x1 x2 σ) fun σ1 => fb_Kb_operateOnLines_42  x1 x2 σ1
theorem e_Kb_operateOnLines_33 {l : Launch} {G : kG} {yf : Int} {σf : kS}  {x1 : Int} {x2 : Int}  {σ : kS} (h : fb_Kb_operateOnLines_33  x1 x2 σ = some (some yf, σf)) : Rn l G dm_Kb_operateOnLines m_Kb_operateOnLines (kI fun y' σ' => y' = yf ∧ σ' = σf) 33 [some (.inr (5, 0)), some (.inl x1), some (.inl x2)] [] σ := by
  unfold fb_Kb_operateOnLines_33 at h
  obtain ⟨σ1, hc, h⟩ := kbu_some h
  refine s_Kb_operateOnLines_33  (by decide) (E_De_dropLines hc) (fun σ2 e2 => ?_)
  subst e2
  exact e_Kb_operateOnLines_42  h
def fb_Kb_operateOnLines_24  (x1 : Int) (x2 : Int) (σ : kS) : kRes := kg ((-2147483648 ≤ σ 5 0 9 ∧ σ 5 0 9 < 2147483648)) (if (σ 5 0 9) = 100 then fb_Kb_operateOnLines_33  x1 x2 σ else fb_Kb_operateOnLines_45  x1 x2 σ)
theorem e_Kb_operateOnLines_24 {l : Launch} {G : kG} {yf : Int} {σf : kS}  {x1 : Int} {x2 : Int}  {σ : kS} (h : fb_Kb_operateOnLines_24  x1 x2 σ = some (some yf, σf)) : Rn l G dm_Kb_operateOnLines m_Kb_operateOnLines (kI fun y' σ' => y' = yf ∧ σ' = σf) 24 [some (.inr (5, 0)), some (.inl x1), some (.inl x2)] [] σ := by
  unfold fb_Kb_operateOnLines_24 at h
  obtain ⟨h1, h⟩ := kg_some h
  refine s_Kb_operateOnLines_24 h1 (fun c => ?_) (fun c => ?_)
  · rw [if_neg c] at h
    exact e_Kb_operateOnLines_45  h
  · rw [if_pos c] at h
    exact e_Kb_operateOnLines_33  h
def fb_Kb_operateOnLines_20  (x1 : Int) (x2 : Int) (σ : kS) : kRes := kbu (f_Kb_beginChange  σ) fun σ1 => fb_Kb_operateOnLines_24  x1 x2 σ1
theorem e_Kb_operateOnLines_20 {l : Launch} {G : kG} {yf : Int} {σf : kS}  {x1 : Int} {x2 : Int}  {σ : kS} (h : fb_Kb_operateOnLines_20  x1 x2 σ = some (some yf, σf)) : Rn l G dm_Kb_operateOnLines m_Kb_operateOnLines (kI fun y' σ' => y' = yf ∧ σ' = σf) 20 [some (.inr (5, 0)), some (.inl x1), some (.inl x2)] [] σ := by
  unfold fb_Kb_operateOnLines_20 at h
  obtain ⟨σ1, hc, h⟩ := kbu_some h
  refine s_Kb_operateOnLines_20  (by decide) (E_Kb_beginChange hc) (fun σ2 e2 => ?_)
  subst e2
  exact e_Kb_operateOnLines_24  h
def fb_Kb_operateOnLines_18  (x1 : Int) (x2 : Int) (σ : kS) : kRes := some (some 1, σ)
theorem e_Kb_operateOnLines_18 {l : Launch} {G : kG} {yf : Int} {σf : kS}  {x1 : Int} {x2 : Int}  {σ : kS} (h : fb_Kb_operateOnLines_18  x1 x2 σ = some (some yf, σf)) : Rn l G dm_Kb_operateOnLines m_Kb_operateOnLines (kI fun y' σ' => y' = yf ∧ σ' = σf) 18 [some (.inr (5, 0)), some (.inl x1), some (.inl x2)] [] σ := by
  unfold fb_Kb_operateOnLines_18 at h
  simp only [Option.some.injEq, Prod.mk.injEq, true_and] at h
  exact s_Kb_operateOnLines_18  ⟨_, rfl, h⟩
def fb_Kb_operateOnLines_9  (x1 : Int) (x2 : Int) (σ : kS) : kRes := kg ((-2147483648 ≤ σ 5 0 9 ∧ σ 5 0 9 < 2147483648)) (if (σ 5 0 9) = 121 then fb_Kb_operateOnLines_18  x1 x2 σ else fb_Kb_operateOnLines_20  x1 x2 σ)
theorem e_Kb_operateOnLines_9 {l : Launch} {G : kG} {yf : Int} {σf : kS}  {x1 : Int} {x2 : Int}  {σ : kS} (h : fb_Kb_operateOnLines_9  x1 x2 σ = some (some yf, σf)) : Rn l G dm_Kb_operateOnLines m_Kb_operateOnLines (kI fun y' σ' => y' = yf ∧ σ' = σf) 9 [some (.inr (5, 0)), some (.inl x1), some (.inl x2)] [] σ := by
  unfold fb_Kb_operateOnLines_9 at h
  obtain ⟨h1, h⟩ := kg_some h
  refine s_Kb_operateOnLines_9 h1 (fun c => ?_) (fun c => ?_)
  · rw [if_neg c] at h
    exact e_Kb_operateOnLines_20  h
  · rw [if_pos c] at h
    exact e_Kb_operateOnLines_18  h
def fb_Kb_operateOnLines_0  (x1 : Int) (x2 : Int) (σ : kS) : kRes := kbu (f_De_holdLines x1 x2 σ) fun σ1 => fb_Kb_operateOnLines_9  x1 x2 σ1
theorem e_Kb_operateOnLines_0 {l : Launch} {G : kG} {yf : Int} {σf : kS}  {x1 : Int} {x2 : Int}  {σ : kS} (h : fb_Kb_operateOnLines_0  x1 x2 σ = some (some yf, σf)) : Rn l G dm_Kb_operateOnLines m_Kb_operateOnLines (kI fun y' σ' => y' = yf ∧ σ' = σf) 0 [some (.inr (5, 0)), some (.inl x1), some (.inl x2)] [] σ := by
  unfold fb_Kb_operateOnLines_0 at h
  obtain ⟨σ1, hc, h⟩ := kbu_some h
  refine s_Kb_operateOnLines_0  (by decide) (E_De_holdLines hc) (fun σ2 e2 => ?_)
  subst e2
  exact e_Kb_operateOnLines_9  h
def f_Kb_operateOnLines (x1 : Int) (x2 : Int) (σ : kS) : kRes := fb_Kb_operateOnLines_0 x1 x2 σ
theorem E_Kb_operateOnLines {l : Launch} {G : kG} {yf : Int} {σf : kS} {x1 : Int} {x2 : Int} {σ : kS} (h : f_Kb_operateOnLines x1 x2 σ = some (some yf, σf)) : Call l G dm_Kb_operateOnLines y_Kb_operateOnLines m_Kb_operateOnLines [.inr (5, 0), .inl x1, .inl x2] σ (kI fun y' σ' => y' = yf ∧ σ' = σf) := by
  unfold f_Kb_operateOnLines at h
  exact Call.of (by decide +kernel) rfl (Nat.le_of_ble_eq_true rfl) (e_Kb_operateOnLines_0 h)
/-! Kb_operate -/
def fb_Kb_operate_334  (x1 : Int) (x2 : Int) (x3 : Int) (x4 : Int) (x5 : Int) (x6 : Int) (x7 : Int) (x8 : Int) (s0 : Int) (σ : kS) : kRes := kg ((s0 = 0 ∨ s0 = 1)) (some (some s0, σ))
theorem e_Kb_operate_334 {l : Launch} {G : kG} {yf : Int} {σf : kS}  {x1 : Int} {x2 : Int} {x3 : Int} {x4 : Int} {x5 : Int} {x6 : Int} {x7 : Int} {x8 : Int} {s0 : Int}  {σ : kS} (h : fb_Kb_operate_334  x1 x2 x3 x4 x5 x6 x7 x8 s0 σ = some (some yf, σf)) : Rn l G dm_Kb_operate m_Kb_operate (kI fun y' σ' => y' = yf ∧ σ' = σf) 334 [some (.inr (5, 0)), some (.inl x1), some (.inl x2), some (.inl x3), some (.inl x4), some (.inl x5), some (.inl x6), some (.inl x7), some (.inl x8)] [.inl s0] σ := by
  unfold fb_Kb_operate_334 at h
  obtain ⟨h1, h⟩ := kg_some h
  simp only [Option.some.injEq, Prod.mk.injEq, true_and] at h
  exact s_Kb_operate_334 h1 ⟨_, rfl, h⟩
def fb_Kb_operate_333  (x1 : Int) (x2 : Int) (x3 : Int) (x4 : Int) (x5 : Int) (x6 : Int) (x7 : Int) (x8 : Int) (σ : kS) : kRes := fb_Kb_operate_334  x1 x2 x3 x4 x5 x6 x7 x8 0 σ
theorem e_Kb_operate_333 {l : Launch} {G : kG} {yf : Int} {σf : kS}  {x1 : Int} {x2 : Int} {x3 : Int} {x4 : Int} {x5 : Int} {x6 : Int} {x7 : Int} {x8 : Int}  {σ : kS} (h : fb_Kb_operate_333  x1 x2 x3 x4 x5 x6 x7 x8 σ = some (some yf, σf)) : Rn l G dm_Kb_operate m_Kb_operate (kI fun y' σ' => y' = yf ∧ σ' = σf) 333 [some (.inr (5, 0)), some (.inl x1), some (.inl x2), some (.inl x3), some (.inl x4), some (.inl x5), some (.inl x6), some (.inl x7), some (.inl x8)] [] σ := by
  unfold fb_Kb_operate_333 at h
  refine s_Kb_operate_333  ?_
  exact e_Kb_operate_334  h
def fb_Kb_operate_329  (x1 : Int) (x2 : Int) (x3 : Int) (x4 : Int) (x5 : Int) (x6 : Int) (x7 : Int) (x8 : Int) (σ : kS) : kRes := fb_Kb_operate_334  x1 x2 x3 x4 x5 x6 x7 x8 1 σ
theorem e_Kb_operate_329 {l : Launch} {G : kG} {yf : Int} {σf : kS}  {x1 : Int} {x2 : Int} {x3 : Int} {x4 : Int} {x5 : Int} {x6 : Int} {x7 : Int} {x8 : Int}  {σ : kS} (h : fb_Kb_operate_329  x1 x2 x3 x4 x5 x6 x7 x8 σ = some (some yf, σf)) : Rn l G dm_Kb_operate m_Kb_operate (kI fun y' σ' => y' = yf ∧ σ' = σf) 329 [some (.inr (5, 0)), some (.inl x1), some (.inl x2), some (.inl x3), some (.inl x4), some (.inl x5), some (.inl x6), some (.inl x7), some (.inl x8)] [] σ := by
  unfold fb_Kb_operate_329 at h
  refine s_Kb_operate_329  ?_
  exact e_Kb_operate_334  h
def fb_Kb_operate_326  (x1 : Int) (x2 : Int) (x3 : Int) (x4 : Int) (x5 : Int) (x6 : Int) (x7 : Int) (x8 : Int) (s0 : Int) (σ : kS) : kRes := kg ((-2147483648 ≤ s0 ∧ s0 < 2147483648)) (if s0 = 0 then fb_Kb_operate_333  x1 x2 x3 x4 x5 x6 x7 x8 σ else fb_Kb_operate_329  x1 x2 x3 x4 x5 x6 x7 x8 σ)
theorem e_Kb_operate_326 {l : Launch} {G : kG} {yf : Int} {σf : kS}  {x1 : Int} {x2 : Int} {x3 : Int} {x4 : Int} {x5 : Int} {x6 : Int} {x7 : Int} {x8 : Int} {s0 : Int}  {σ : kS} (h : fb_Kb_operate_326  x1 x2 x3 x4 x5 x6 x7 x8 s0 σ = some (some yf, σf)) : Rn l G dm_Kb_operate m_Kb_operate (kI fun y' σ' => y' = yf ∧ σ' = σf) 326 [some (.inr (5, 0)), some (.inl x1), some (.inl x2), some (.inl x3), some (.inl x4), some (.inl x5), some (.inl x6), some (.inl x7), some (.inl x8)] [.inl s0] σ := by
  unfold fb_Kb_operate_326 at h
  obtain ⟨h1, h⟩ := kg_some h
  refine s_Kb_operate_326 h1 (fun c => ?_) (fun c => ?_)
  · rw [if_pos c] at h
    exact e_Kb_operate_333  h
  · rw [if_neg c] at h
    exact e_Kb_operate_329  h
def fb_Kb_operate_314  (x1 : Int) (x2 : Int) (x3 : Int) (x4 : Int) (x5 : Int) (x6 : Int) (x7 : Int) (x8 : Int) (σ : kS) : kRes := kbi (f_Kb_operateOnLines x4 ((x4 + x3) - 1) σ) fun y σ1 => fb_Kb_operate_326  x1 x2 x3 x4 x5 x6 x7 x8 y σ1
theorem e_Kb_operate_314 {l : Launch} {G : kG} {yf : Int} {σf : kS}  {x1 : Int} {x2 : Int} {x3 : Int} {x4 : Int} {x5 : Int} {x6 : Int} {x7 : Int} {x8 : Int}  {σ : kS} (h : fb_Kb_operate_314  x1 x2 x3 x4 x5 x6 x7 x8 σ = some (some yf, σf)) : Rn l G dm_Kb_operate m_Kb_operate (kI fun y' σ' => y' = yf ∧ σ' = σf) 314 [some (.inr (5, 0)), some (.inl x1), some (.inl x2), some (.inl x3), some (.inl x4), some (.inl x5), some (.inl x6), some (.inl x7), some (.inl x8)] [] σ := by
  unfold fb_Kb_operate_314 at h
  obtain ⟨y, σ1, hc, h⟩ := kbi_some h
  refine s_Kb_operate_314  (by decide) (E_Kb_operateOnLines hc) (fun y2 σ2 e2 => ?_)
  obtain ⟨rfl, rfl⟩ := e2
  exact e_Kb_operate_326  h
def fb_Kb_operate_300  (x1 : Int) (x2 : Int) (x3 : Int) (x4 : Int) (x5 : Int) (x6 : Int) (x7 : Int) (x8 : Int) (σ : kS) : kRes := kg ((-2147483648 ≤ x4 + x3 ∧ x4 + x3 < 2147483648) ∧ (-2147483648 ≤ σ 2 0 2 ∧ σ 2 0 2 < 2147483648)) (if (σ 2 0 2) < (x4 + x3) then fb_Kb_operate_333  x1 x2 x3 x4 x5 x6 x7 x8 σ else fb_Kb_operate_314  x1 x2 x3 x4 x5 x6 x7 x8 σ)
theorem e_Kb_operate_300 {l : Launch} {G : kG} {yf : Int} {σf : kS}  {x1 : Int} {x2 : Int} {x3 : Int} {x4 : Int} {x5 : Int} {x6 : Int} {x7 : Int} {x8 : Int}  {σ : kS} (h : fb_Kb_operate_300  x1 x2 x3 x4 x5 x6 x7 x8 σ = some (some yf, σf)) : Rn l G dm_Kb_operate m_Kb_operate (kI fun y' σ' => y' = yf ∧ σ' = σf) 300 [some (.inr (5, 0)), some (.inl x1), some (.inl x2), some (.inl x3), some (.inl x4), some (.inl x5), some (.inl x6), some (.inl x7), some (.inl x8)] [] σ := by
  unfold fb_Kb_operate_300 at h
  obtain ⟨⟨h1, h2⟩, h⟩ := kg_some h
  refine s_Kb_operate_300 h1 h2 (fun c => ?_) (fun c => ?_)
  · rw [if_pos c] at h
    exact e_Kb_operate_333  h
  · rw [if_neg c] at h
    exact e_Kb_operate_314  h
def fb_Kb_operate_292  (x1 : Int) (x2 : Int) (x3 : Int) (x4 : Int) (x5 : Int) (x6 : Int) (x7 : Int) (x8 : Int) (σ : kS) : kRes := kg ((-2147483648 ≤ x1 ∧ x1 < 2147483648) ∧ (-2147483648 ≤ σ 5 0 9 ∧ σ 5 0 9 < 2147483648)) (if x1 = (σ 5 0 9) then fb_Kb_operate_300  x1 x2 x3 x4 x5 x6 x7 x8 σ else fb_Kb_operate_333  x1 x2 x3 x4 x5 x6 x7 x8 σ)
theorem e_Kb_operate_292 {l : Launch} {G : kG} {yf : Int} {σf : kS}  {x1 : Int} {x2 : Int} {x3 : Int} {x4 : Int} {x5 : Int} {x6 : Int} {x7 : Int} {x8 : Int}  {σ : kS} (h : fb_Kb_operate_292  x1 x2 x3 x4 x5 x6 x7 x8 σ = some (some yf, σf)) : Rn l G dm_Kb_operate m_Kb_operate (kI fun y' σ' => y' = yf ∧ σ' = σf) 292 [some (.inr (5, 0)), some (.inl x1), some (.inl x2), some (.inl x3), some (.inl x4), some (.inl x5), some (.inl x6), some (.inl x7), some (.inl x8)] [] σ := by
  unfold fb_Kb_operate_292 at h
  obtain ⟨⟨h1, h2⟩, h⟩ := kg_some h
  refine s_Kb_operate_292 h1 h2 (fun c => ?_) (fun c => ?_)
  · rw [if_neg c] at h
    exact e_Kb_operate_333  h
  · rw [if_pos c] at h
    exact e_Kb_operate_300  h
def fb_Kb_operate_291  (x1 : Int) (x2 : Int) (x3 : Int) (x4 : Int) (x5 : Int) (x6 : Int) (x7 : Int) (x8 : Int) (s0 : Int) (σ : kS) : kRes := kg ((s0 = 0 ∨ s0 = 1)) (some (some s0, σ))
theorem e_Kb_operate_291 {l : Launch} {G : kG} {yf : Int} {σf : kS}  {x1 : Int} {x2 : Int} {x3 : Int} {x4 : Int} {x5 : Int} {x6 : Int} {x7 : Int} {x8 : Int} {s0 : Int}  {σ : kS} (h : fb_Kb_operate_291  x1 x2 x3 x4 x5 x6 x7 x8 s0 σ = some (some yf, σf)) : Rn l G dm_Kb_operate m_Kb_operate (kI fun y' σ' => y' = yf ∧ σ' = σf) 291 [some (.inr (5, 0)), some (.inl x1), some (.inl x2), some (.inl x3), some (.inl x4), some (.inl x5), some (.inl x6), some (.inl x7), some (.inl x8)] [.inl s0] σ := by
  unfold fb_Kb_operate_291 at h
  obtain ⟨h1, h⟩ := kg_some h
  simp only [Option.some.injEq, Prod.mk.injEq, true_and] at h
  exact s_Kb_operate_291 h1 ⟨_, rfl, h⟩
def fb_Kb_operate_290  (x1 : Int) (x2 : Int) (x3 : Int) (x4 : Int) (x5 : Int) (x6 : Int) (x7 : Int) (x8 : Int) (σ : kS) : kRes := fb_Kb_operate_291  x1 x2 x3 x4 x5 x6 x7 x8 0 σ
theorem e_Kb_operate_290 {l : Launch} {G : kG} {yf : Int} {σf : kS}  {x1 : Int} {x2 : Int} {x3 : Int} {x4 : Int} {x5 : Int} {x6 : Int} {x7 : Int} {x8 : Int}  {σ : kS} (h : fb_Kb_operate_290  x1 x2 x3 x4 x5 x6 x7 x8 σ = some (some yf, σf)) : Rn l G dm_Kb_operate m_Kb_operate (kI fun y' σ' => y' = yf ∧ σ' = σf) 290 [some (.inr (5, 0)), some (.inl x1), some (.inl x2), some (.inl x3), some (.inl x4), some (.inl x5), some (.inl x6), some (.inl x7), some (.inl x8)] [] σ := by
  unfold fb_Kb_operate_290 at h
  refine s_Kb_operate_290  ?_
  exact e_Kb_operate_291  h
def fb_Kb_operate_286  (x1 : Int) (x2 : Int) (x3 : Int) (x4 : Int) (x5 : Int) (x6 : Int) (x7 : Int) (x8 : Int) (σ : kS) : kRes := fb_Kb_operate_291  x1 x2 x3 x4 x5 x6 x7 x8 1 σ
theorem e_Kb_operate_286 {l : Launch} {G : kG} {yf : Int} {σf : kS}  {x1 : Int} {x2 : Int} {x3 : Int} {x4 : Int} {x5 : Int} {x6 : Int} {x7 : Int} {x8 : Int}  {σ : kS} (h : fb_Kb_operate_286  x1 x2 x3 x4 x5 x6 x7 x8 σ = some (some yf, σf)) : Rn l G dm_Kb_operate m_Kb_operate (kI fun y' σ' => y' = yf ∧ σ' = σf) 286 [some (.inr (5, 0)), some (.inl x1), some (.inl x2), some (.inl x3), some (.inl x4), some (.inl x5), some (.inl x6), some (.inl x7), some (.inl x8)] [] σ := by
  unfold fb_Kb_operate_286 at h
  refine s_Kb_operate_286  ?_
  exact e_Kb_operate_291  h
def fb_Kb_operate_283  (x1 : Int) (x2 : Int) (x3 : Int) (x4 : Int) (x5 : Int) (x6 : Int) (x7 : Int) (x8 : Int) (s0 : Int) (σ : kS) : kRes := kg ((-2147483648 ≤ s0 ∧ s0 < 2147483648)) (if s0 = 0 then fb_Kb_operate_290  x1 x2 x3 x4 x5 x6 x7 x8 σ else fb_Kb_operate_286  x1 x2 x3 x4 x5 x6 x7 x8 σ)
theorem e_Kb_operate_283 {l : Launch} {G : kG} {yf : Int} {σf : kS}  {x1 : Int} {x2 : Int} {x3 : Int} {x4 : Int} {x5 : Int} {x6 : Int} {x7 : Int} {x8 : Int} {s0 : Int}  {σ : kS} (h : fb_Kb_operate_283  x1 x2 x3 x4 x5 x6 x7 x8 s0 σ = some (some yf, σf)) : Rn l G dm_Kb_operate m_Kb_operate (kI fun y' σ' => y' = yf ∧ σ' = σf) 283 [some (.inr (5, 0)), some (.inl x1), some (.inl x2), some (.inl x3), some (.inl x4), some (.inl x5), some (.inl x6), some (.inl x7), some (.inl x8)] [.inl s0] σ := by
  unfold fb_Kb_operate_283 at h
  obtain ⟨h1, h⟩ := kg_some h
  refine s_Kb_operate_283 h1 (fun c => ?_) (fun c => ?_)
  · rw [if_pos c] at h
    exact e_Kb_operate_290  h
  · rw [if_neg c] at h
    exact e_Kb_operate_286  h
def fb_Kb_operate_273  (x1 : Int) (x2 : Int) (x3 : Int) (x4 : Int) (x5 : Int) (x6 : Int) (x7 : Int) (x8 : Int) (σ : kS) : kRes := kbi (f_Kb_operateOnLetters (kmod x2 32) x5 σ) fun y σ1 => fb_Kb_operate_283  x1 x2 x3 x4 x5 x6 x7 x8 y σ1
theorem e_Kb_operate_273 {l : Launch} {G : kG} {yf : Int} {σf : kS}  {x1 : Int} {x2 : Int} {x3 : Int} {x4 : Int} {x5 : Int} {x6 : Int} {x7 : Int} {x8 : Int}  {σ : kS} (h : fb_Kb_operate_273  x1 x2 x3 x4 x5 x6 x7 x8 σ = some (some yf, σf)) : Rn l G dm_Kb_operate m_Kb_operate (kI fun y' σ' => y' = yf ∧ σ' = σf) 273 [some (.inr (5, 0)), some (.inl x1), some (.inl x2), some (.inl x3), some (.inl x4), some (.inl x5), some (.inl x6), some (.inl x7), some (.inl x8)] [] σ := by
  unfold fb_Kb_operate_273 at h
  obtain ⟨y, σ1, hc, h⟩ := kbi_some h
  refine s_Kb_operate_273  (by decide) (E_Kb_operateOnLetters hc) (fun y2 σ2 e2 => ?_)
  obtain ⟨rfl, rfl⟩ := e2
  exact e_Kb_operate_283  h
def fb_Kb_operate_268  (x1 : Int) (x2 : Int) (x3 : Int) (x4 : Int) (x5 : Int) (x6 : Int) (x7 : Int) (x8 : Int) (σ : kS) : kRes := kg ((-2147483648 ≤ x8 ∧ x8 < 2147483648)) (if x8 = 0 then fb_Kb_operate_290  x1 x2 x3 x4 x5 x6 x7 x8 σ else fb_Kb_operate_273  x1 x2 x3 x4 x5 x6 x7 x8 σ)
theorem e_Kb_operate_268 {l : Launch} {G : kG} {yf : Int} {σf : kS}  {x1 : Int} {x2 : Int} {x3 : Int} {x4 : Int} {x5 : Int} {x6 : Int} {x7 : Int} {x8 : Int}  {σ : kS} (h : fb_Kb_operate_268  x1 x2 x3 x4 x5 x6 x7 x8 σ = some (some yf, σf)) : Rn l G dm_Kb_operate m_Kb_operate (kI fun y' σ' => y' = yf ∧ σ' = σf) 268 [some (.inr (5, 0)), some (.inl x1), some (.inl x2), some (.inl x3), some (.inl x4), some (.inl x5), some (.inl x6), some (.inl x7), some (.inl x8)] [] σ := by
  unfold fb_Kb_operate_268 at h
  obtain ⟨h1, h⟩ := kg_some h
  refine s_Kb_operate_268 h1 (fun c => ?_) (fun c => ?_)
  · rw [if_pos c] at h
    exact e_Kb_operate_290  h
  · rw [if_neg c] at h
    exact e_Kb_operate_273  h
def fb_Kb_operate_267  (x1 : Int) (x2 : Int) (x3 : Int) (x4 : Int) (x5 : Int) (x6 : Int) (x7 : Int) (x8 : Int) (s0 : Int) (σ : kS) : kRes := kg ((s0 = 0 ∨ s0 = 1)) (some (some s0, σ))
theorem e_Kb_operate_267 {l : Launch} {G : kG} {yf : Int} {σf : kS}  {x1 : Int} {x2 : Int} {x3 : Int} {x4 : Int} {x5 : Int} {x6 : Int} {x7 : Int} {x8 : Int} {s0 : Int}  {σ : kS} (h : fb_Kb_operate_267  x1 x2 x3 x4 x5 x6 x7 x8 s0 σ = some (some yf, σf)) : Rn l G dm_Kb_operate m_Kb_operate (kI fun y' σ' => y' = yf ∧ σ' = σf) 267 [some (.inr (5, 0)), some (.inl x1), some (.inl x2), some (.inl x3), some (.inl x4), some (.inl x5), some (.inl x6), some (.inl x7), some (.inl x8)] [.inl s0] σ := by
  unfold fb_Kb_operate_267 at h
  obtain ⟨h1, h⟩ := kg_some h
  simp only [Option.some.injEq, Prod.mk.injEq, true_and] at h
  exact s_Kb_operate_267 h1 ⟨_, rfl, h⟩
def fb_Kb_operate_264  (x1 : Int) (x2 : Int) (x3 : Int) (x4 : Int) (x5 : Int) (x6 : Int) (x7 : Int) (x8 : Int) (s0 : Int) (s1 : Int) (σ : kS) : kRes := kbi (f_Kb_operateOnLetters s1 s0 σ) fun y σ1 => fb_Kb_operate_267  x1 x2 x3 x4 x5 x6 x7 x8 y σ1
theorem e_Kb_operate_264 {l : Launch} {G : kG} {yf : Int} {σf : kS}  {x1 : Int} {x2 : Int} {x3 : Int} {x4 : Int} {x5 : Int} {x6 : Int} {x7 : Int} {x8 : Int} {s0 : Int} {s1 : Int}  {σ : kS} (h : fb_Kb_operate_264  x1 x2 x3 x4 x5 x6 x7 x8 s0 s1 σ = some (some yf, σf)) : Rn l G dm_Kb_operate m_Kb_operate (kI fun y' σ' => y' = yf ∧ σ' = σf) 264 [some (.inr (5, 0)), some (.inl x1), some (.inl x2), some (.inl x3), some (.inl x4), some (.inl x5), some (.inl x6), some (.inl x7), some (.inl x8)] [.inl s0, .inl s1, .inr (5, 0)] σ := by
  unfold fb_Kb_operate_264 at h
  obtain ⟨y, σ1, hc, h⟩ := kbi_some h
  refine s_Kb_operate_264  (by decide) (E_Kb_operateOnLetters hc) (fun y2 σ2 e2 => ?_)
  obtain ⟨rfl, rfl⟩ := e2
  exact e_Kb_operate_267  h
def fb_Kb_operate_262  (x1 : Int) (x2 : Int) (x3 : Int) (x4 : Int) (x5 : Int) (x6 : Int) (x7 : Int) (x8 : Int) (s0 : Int) (σ : kS) : kRes := fb_Kb_operate_264  x1 x2 x3 x4 x5 x6 x7 x8 x6 s0 σ
theorem e_Kb_operate_262 {l : Launch} {G : kG} {yf : Int} {σf : kS}  {x1 : Int} {x2 : Int} {x3 : Int} {x4 : Int} {x5 : Int} {x6 : Int} {x7 : Int} {x8 : Int} {s0 : Int}  {σ : kS} (h : fb_Kb_operate_262  x1 x2 x3 x4 x5 x6 x7 x8 s0 σ = some (some yf, σf)) : Rn l G dm_Kb_operate m_Kb_operate (kI fun y' σ' => y' = yf ∧ σ' = σf) 262 [some (.inr (5, 0)), some (.inl x1), some (.inl x2), some (.inl x3), some (.inl x4), some (.inl x5), some (.inl x6), some (.inl x7), some (.inl x8)] [.inl s0, .inr (5, 0)] σ := by
  unfold fb_Kb_operate_262 at h
  refine s_Kb_operate_262  ?_
  exact e_Kb_operate_264  h
def fb_Kb_operate_255  (x1 : Int) (x2 : Int) (x3 : Int) (x4 : Int) (x5 : Int) (x6 : Int) (x7 : Int) (x8 : Int) (s0 : Int) (σ : kS) : kRes := fb_Kb_operate_264  x1 x2 x3 x4 x5 x6 x7 x8 (kmod x2 32) s0 σ
theorem e_Kb_operate_255 {l : Launch} {G : kG} {yf : Int} {σf : kS}  {x1 : Int} {x2 : Int} {x3 : Int} {x4 : Int} {x5 : Int} {x6 : Int} {x7 : Int} {x8 : Int} {s0 : Int}  {σ : kS} (h : fb_Kb_operate_255  x1 x2 x3 x4 x5 x6 x7 x8 s0 σ = some (some yf, σf)) : Rn l G dm_Kb_operate m_Kb_operate (kI fun y' σ' => y' = yf ∧ σ' = σf) 255 [some (.inr (5, 0)), some (.inl x1), some (.inl x2), some (.inl x3), some (.inl x4), some (.inl x5), some (.inl x6), some (.inl x7), some (.inl x8)] [.inl s0, .inr (5, 0)] σ := by
  unfold fb_Kb_operate_255 at h
  refine s_Kb_operate_255  ?_
  exact e_Kb_operate_264  h
def fb_Kb_operate_247  (x1 : Int) (x2 : Int) (x3 : Int) (x4 : Int) (x5 : Int) (x6 : Int) (x7 : Int) (x8 : Int) (σ : kS) : kRes := kg ((-2147483648 ≤ x8 ∧ x8 < 2147483648)) (if x8 = 0 then fb_Kb_operate_262  x1 x2 x3 x4 x5 x6 x7 x8 x5 σ else fb_Kb_operate_255  x1 x2 x3 x4 x5 x6 x7 x8 x5 σ)
theorem e_Kb_operate_247 {l : Launch} {G : kG} {yf : Int} {σf : kS}  {x1 : Int} {x2 : Int} {x3 : Int} {x4 : Int} {x5 : Int} {x6 : Int} {x7 : Int} {x8 : Int}  {σ : kS} (h : fb_Kb_operate_247  x1 x2 x3 x4 x5 x6 x7 x8 σ = some (some yf, σf)) : Rn l G dm_Kb_operate m_Kb_operate (kI fun y' σ' => y' = yf ∧ σ' = σf) 247 [some (.inr (5, 0)), some (.inl x1), some (.inl x2), some (.inl x3), some (.inl x4), some (.inl x5), some (.inl x6), some (.inl x7), some (.inl x8)] [] σ := by
  unfold fb_Kb_operate_247 at h
  obtain ⟨h1, h⟩ := kg_some h
  refine s_Kb_operate_247 h1 (fun c => ?_) (fun c => ?_)
  · rw [if_pos c] at h
    exact e_Kb_operate_262  h
  · rw [if_neg c] at h
    exact e_Kb_operate_255  h
def fb_Kb_operate_246  (x1 : Int) (x2 : Int) (x3 : Int) (x4 : Int) (x5 : Int) (x6 : Int) (x7 : Int) (x8 : Int) (s0 : Int) (σ : kS) : kRes := kg ((s0 = 0 ∨ s0 = 1)) (some (some s0, σ))
theorem e_Kb_operate_246 {l : Launch} {G : kG} {yf : Int} {σf : kS}  {x1 : Int} {x2 : Int} {x3 : Int} {x4 : Int} {x5 : Int} {x6 : Int} {x7 : Int} {x8 : Int} {s0 : Int}  {σ : kS} (h : fb_Kb_operate_246  x1 x2 x3 x4 x5 x6 x7 x8 s0 σ = some (some yf, σf)) : Rn l G dm_Kb_operate m_Kb_operate (kI fun y' σ' => y' = yf ∧ σ' = σf) 246 [some (.inr (5, 0)), some (.inl x1), some (.inl x2), some (.inl x3), some (.inl x4), some (.inl x5), some (.inl x6), some (.inl x7), some (.inl x8)] [.inl s0] σ := by
  unfold fb_Kb_operate_246 at h
  obtain ⟨h1, h⟩ := kg_some h
  simp only [Option.some.injEq, Prod.mk.injEq, true_and] at h
  exact s_Kb_operate_246 h1 ⟨_, rfl, h⟩
def fb_Kb_operate_245  (x1 : Int) (x2 : Int) (x3 : Int) (x4 : Int) (x5 : Int) (x6 : Int) (x7 : Int) (x8 : Int) (σ : kS) : kRes := fb_Kb_operate_246  x1 x2 x3 x4 x5 x6 x7 x8 0 σ
theorem e_Kb_operate_245 {l : Launch} {G : kG} {yf : Int} {σf : kS}  {x1 : Int} {x2 : Int} {x3 : Int} {x4 : Int} {x5 : Int} {x6 : Int} {x7 : Int} {x8 : Int}  {σ : kS} (h : fb_Kb_operate_245  x1 x2 x3 x4 x5 x6 x7 x8 σ = some (some yf, σf)) : Rn l G dm_Kb_operate m_Kb_operate (kI fun y' σ' => y' = yf ∧ σ' = σf) 245 [some (.inr (5, 0)), some (.inl x1), some (.inl x2), some (.inl x3), some (.inl x4), some (.inl x5), some (.inl x6), some (.inl x7), some (.inl x8)] [] σ := by
  unfold fb_Kb_operate_245 at h
  refine s_Kb_operate_245  ?_
  exact e_Kb_operate_246  h
def fb_Kb_operate_241  (x1 : Int) (x2 : Int) (x3 : Int) (x4 : Int) (x5 : Int) (x6 : Int) (x7 : Int) (x8 : Int) (σ : kS) : kRes := fb_Kb_operate_246  x1 x2 x3 x4 x5 x6 x7 x8 1 σ
theorem e_Kb_operate_241 {l : Launch} {G : kG} {yf : Int} {σf : kS}  {x1 : Int} {x2 : Int} {x3 : Int} {x4 : Int} {x5 : Int} {x6 : Int} {x7 : Int} {x8 : Int}  {σ : kS} (h : fb_Kb_operate_241  x1 x2 x3 x4 x5 x6 x7 x8 σ = some (some yf, σf)) : Rn l G dm_Kb_operate m_Kb_operate (kI fun y' σ' => y' = yf ∧ σ' = σf) 241 [some (.inr (5, 0)), some (.inl x1), some (.inl x2), some (.inl x3), some (.inl x4), some (.inl x5), some (.inl x6), some (.inl x7), some (.inl x8)] [] σ := by
  unfold fb_Kb_operate_241 at h
  refine s_Kb_operate_241  ?_
  exact e_Kb_operate_246  h
def fb_Kb_operate_238  (x1 : Int) (x2 : Int) (x3 : Int) (x4 : Int) (x5 : Int) (x6 : Int) (x7 : Int) (x8 : Int) (s0 : Int) (σ : kS) : kRes := kg ((-2147483648 ≤ s0 ∧ s0 < 2147483648)) (if s0 = 0 then fb_Kb_operate_245  x1 x2 x3 x4 x5 x6 x7 x8 σ else fb_Kb_operate_241  x1 x2 x3 x4 x5 x6 x7 x8 σ)
theorem e_Kb_operate_238 {l : Launch} {G : kG} {yf : Int} {σf : kS}  {x1 : Int} {x2 : Int} {x3 : Int} {x4 : Int} {x5 : Int} {x6 : Int} {x7 : Int} {x8 : Int} {s0 : Int}  {σ : kS} (h : fb_Kb_operate_238  x1 x2 x3 x4 x5 x6 x7 x8 s0 σ = some (some yf, σf)) : Rn l G dm_Kb_operate m_Kb_operate (kI fun y' σ' => y' = yf ∧ σ' = σf) 238 [some (.inr (5, 0)), some (.inl x1), some (.inl x2), some (.inl x3), some (.inl x4), some (.inl x5), some (.inl x6), some (.inl x7), some (.inl x8)] [.inl s0] σ := by
  unfold fb_Kb_operate_238 at h
  obtain ⟨h1, h⟩ := kg_some h
  refine s_Kb_operate_238 h1 (fun c => ?_) (fun c => ?_)
  · rw [if_pos c] at h
    exact e_Kb_operate_245  h
  · rw [if_neg c] at h
    exact e_Kb_operate_241  h
def fb_Kb_operate_230  (x1 : Int) (x2 : Int) (x3 : Int) (x4 : Int) (x5 : Int) (x6 : Int) (x7 : Int) (x8 : Int) (σ : kS) : kRes := kbi (f_Kb_operateOnLetters x5 x6 σ) fun y σ1 => fb_Kb_operate_238  x1 x2 x3 x4 x5 x6 x7 x8 y σ1
theorem e_Kb_operate_230 {l : Launch} {G : kG} {yf : Int} {σf : kS}  {x1 : Int} {x2 : Int} {x3 : Int} {x4 : Int} {x5 : Int} {x6 : Int} {x7 : Int} {x8 : Int}  {σ : kS} (h : fb_Kb_operate_230  x1 x2 x3 x4 x5 x6 x7 x8 σ = some (some yf, σf)) : Rn l G dm_Kb_operate m_Kb_operate (kI fun y' σ' => y' = yf ∧ σ' = σf) 230 [some (.inr (5, 0)), some (.inl x1), some (.inl x2), some (.inl x3), some (.inl x4), some (.inl x5), some (.inl x6), some (.inl x7), some (.inl x8)] [] σ := by
  unfold fb_Kb_operate_230 at h
  obtain ⟨y, σ1, hc, h⟩ := kbi_some h
  refine s_Kb_operate_230  (by decide) (E_Kb_operateOnLetters hc) (fun y2 σ2 e2 => ?_)
  obtain ⟨rfl, rfl⟩ := e2
  exact e_Kb_operate_238  h
def fb_Kb_operate_226  (x1 : Int) (x2 : Int) (x3 : Int) (x4 : Int) (x5 : Int) (x6 : Int) (x7 : Int) (x8 : Int) (σ : kS) : kRes := kg ((-2147483648 ≤ x2 ∧ x2 < 2147483648)) (if x2 < 0 then fb_Kb_operate_245  x1 x2 x3 x4 x5 x6 x7 x8 σ else fb_Kb_operate_230  x1 x2 x3 x4 x5 x6 x7 x8 σ)
theorem e_Kb_operate_226 {l : Launch} {G : kG} {yf : Int} {σf : kS}  {x1 : Int} {x2 : Int} {x3 : Int} {x4 : Int} {x5 : Int} {x6 : Int} {x7 : Int} {x8 : Int}  {σ : kS} (h : fb_Kb_operate_226  x1 x2 x3 x4 x5 x6 x7 x8 σ = some (some yf, σf)) : Rn l G dm_Kb_operate m_Kb_operate (kI fun y' σ' => y' = yf ∧ σ' = σf) 226 [some (.inr (5, 0)), some (.inl x1), some (.inl x2), some (.inl x3), some (.inl x4), some (.inl x5), some (.inl x6), some (.inl x7), some (.inl x8)] [] σ := by
  unfold fb_Kb_operate_226 at h
  obtain ⟨h1, h⟩ := kg_some h
  refine s_Kb_operate_226 h1 (fun c => ?_) (fun c => ?_)
  · rw [if_pos c] at h
    exact e_Kb_operate_245  h
  · rw [if_neg c] at h
    exact e_Kb_operate_230  h
def fb_Kb_operate_225  (x1 : Int) (x2 : Int) (x3 : Int) (x4 : Int) (x5 : Int) (x6 : Int) (x7 : Int) (x8 : Int) (s0 : Int) (σ : kS) : kRes := kg ((s0 = 0 ∨ s0 = 1)) (some (some s0, σ))
theorem e_Kb_operate_225 {l : Launch} {G : kG} {yf : Int} {σf : kS}  {x1 : Int} {x2 : Int} {x3 : Int} {x4 : Int} {x5 : Int} {x6 : Int} {x7 : Int} {x8 : Int} {s0 : Int}  {σ : kS} (h : fb_Kb_operate_225  x1 x2 x3 x4 x5 x6 x7 x8 s0 σ = some (some yf, σf)) : Rn l G dm_Kb_operate m_Kb_operate (kI fun y' σ' => y' = yf ∧ σ' = σf) 225 [some (.inr (5, 0)), some (.inl x1), some (.inl x2), some (.inl x3), some (.inl x4), some (.inl x5), some (.inl x6), some (.inl x7), some (.inl x8)] [.inl s0] σ := by
  unfold fb_Kb_operate_225 at h
  obtain ⟨h1, h⟩ := kg_some h
  simp only [Option.some.injEq, Prod.mk.injEq, true_and] at h
  exact s_Kb_operate_225 h1 ⟨_, rfl, h⟩
def fb_Kb_operate_224  (x1 : Int) (x2 : Int) (x3 : Int) (x4 : Int) (x5 : Int) (x6 : Int) (x7 : Int) (x8 : Int) (σ : kS) : kRes := fb_Kb_operate_225  x1 x2 x3 x4 x5 x6 x7 x8 0 σ
theorem e_Kb_operate_224 {l : Launch} {G : kG} {yf : Int} {σf : kS}  {x1 : Int} {x2 : Int} {x3 : Int} {x4 : Int} {x5 : Int} {x6 : Int} {x7 : Int} {x8 : Int}  {σ : kS} (h : fb_Kb_operate_224  x1 x2 x3 x4 x5 x6 x7 x8 σ = some (some yf, σf)) : Rn l G dm_Kb_operate m_Kb_operate (kI fun y' σ' => y' = yf ∧ σ' = σf) 224 [some (.inr (5, 0)), some (.inl x1), some (.inl x2), some (.inl x3), some (.inl x4), some (.inl x5), some (.inl x6), some (.inl x7), some (.inl x8)] [] σ := by
  unfold fb_Kb_operate_224 at h
  refine s_Kb_operate_224  ?_
  exact e_Kb_operate_225  h
def fb_Kb_operate_220  (x1 : Int) (x2 : Int) (x3 : Int) (x4 : Int) (x5 : Int) (x6 : Int) (x7 : Int) (x8 : Int) (σ : kS) : kRes := fb_Kb_operate_225  x1 x2 x3 x4 x5 x6 x7 x8 1 σ
theorem e_Kb_operate_220 {l : Launch} {G : kG} {yf : Int} {σf : kS}  {x1 : Int} {x2 : Int} {x3 : Int} {x4 : Int} {x5 : Int} {x6 : Int} {x7 : Int} {x8 : Int}  {σ : kS} (h : fb_Kb_operate_220  x1 x2 x3 x4 x5 x6 x7 x8 σ = some (some yf, σf)) : Rn l G dm_Kb_operate m_Kb_operate (kI fun y' σ' => y' = yf ∧ σ' = σf) 220 [some (.inr (5, 0)), some (.inl x1), some (.inl x2), some (.inl x3), some (.inl x4), some (.inl x5), some (.inl x6), some (.inl x7), some (.inl x8)] [] σ := by
  unfold fb_Kb_operate_220 at h
  refine s_Kb_operate_220  ?_
  exact e_Kb_operate_225  h
def fb_Kb_operate_217  (x1 : Int) (x2 : Int) (x3 : Int) (x4 : Int) (x5 : Int) (x6 : Int) (x7 : Int) (x8 : Int) (s0 : Int) (σ : kS) : kRes := kg ((-2147483648 ≤ s0 ∧ s0 < 2147483648)) (if s0 = 0 then fb_Kb_operate_224  x1 x2 x3 x4 x5 x6 x7 x8 σ else fb_Kb_operate_220  x1 x2 x3 x4 x5 x6 x7 x8 σ)
theorem e_Kb_operate_217 {l : Launch} {G : kG} {yf : Int} {σf : kS}  {x1 : Int} {x2 : Int} {x3 : Int} {x4 : Int} {x5 : Int} {x6 : Int} {x7 : Int} {x8 : Int} {s0 : Int}  {σ : kS} (h : fb_Kb_operate_217  x1 x2 x3 x4 x5 x6 x7 x8 s0 σ = some (some yf, σf)) : Rn l G dm_Kb_operate m_Kb_operate (kI fun y' σ' => y' = yf ∧ σ' = σf) 217 [some (.inr (5, 0)), some (.inl x1), some (.inl x2), some (.inl x3), some (.inl x4), some (.inl x5), some (.inl x6), some (.inl x7), some (.inl x8)] [.inl s0] σ := by
  unfold fb_Kb_operate_217 at h
  obtain ⟨h1, h⟩ := kg_some h
  refine s_Kb_operate_217 h1 (fun c => ?_) (fun c => ?_)
  · rw [if_pos c] at h
    exact e_Kb_operate_224  h
  · rw [if_neg c] at h
    exact e_Kb_operate_220  h
def fb_Kb_operate_210  (x1 : Int) (x2 : Int) (x3 : Int) (x4 : Int) (x5 : Int) (x6 : Int) (x7 : Int) (x8 : Int) (σ : kS) : kRes := kbi (f_Kb_operateOnLetters 0 x5 σ) fun y σ1 => fb_Kb_operate_217  x1 x2 x3 x4 x5 x6 x7 x8 y σ1
theorem e_Kb_operate_210 {l : Launch} {G : kG} {yf : Int} {σf : kS}  {x1 : Int} {x2 : Int} {x3 : Int} {x4 : Int} {x5 : Int} {x6 : Int} {x7 : Int} {x8 : Int}  {σ : kS} (h : fb_Kb_operate_210  x1 x2 x3 x4 x5 x6 x7 x8 σ = some (some yf, σf)) : Rn l G dm_Kb_operate m_Kb_operate (kI fun y' σ' => y' = yf ∧ σ' = σf) 210 [some (.inr (5, 0)), some (.inl x1), some (.inl x2), some (.inl x3), some (.inl x4), some (.inl x5), some (.inl x6), some (.inl x7), some (.inl x8)] [] σ := by
  unfold fb_Kb_operate_210 at h
  obtain ⟨y, σ1, hc, h⟩ := kbi_some h
  refine s_Kb_operate_210  (by decide) (E_Kb_operateOnLetters hc) (fun y2 σ2 e2 => ?_)
  obtain ⟨rfl, rfl⟩ := e2
  exact e_Kb_operate_217  h
def fb_Kb_operate_206  (x1 : Int) (x2 : Int) (x3 : Int) (x4 : Int) (x5 : Int) (x6 : Int) (x7 : Int) (x8 : Int) (σ : kS) : kRes := kg ((-2147483648 ≤ x2 ∧ x2 < 2147483648)) (if x2 < 0 then fb_Kb_operate_224  x1 x2 x3 x4 x5 x6 x7 x8 σ else fb_Kb_operate_210  x1 x2 x3 x4 x5 x6 x7 x8 σ)
theorem e_Kb_operate_206 {l : Launch} {G : kG} {yf : Int} {σf : kS}  {x1 : Int} {x2 : Int} {x3 : Int} {x4 : Int} {x5 : Int} {x6 : Int} {x7 : Int} {x8 : Int}  {σ : kS} (h : fb_Kb_operate_206  x1 x2 x3 x4 x5 x6 x7 x8 σ = some (some yf, σf)) : Rn l G dm_Kb_operate m_Kb_operate (kI fun y' σ' => y' = yf ∧ σ' = σf) 206 [some (.inr (5, 0)), some (.inl x1), some (.inl x2), some (.inl x3), some (.inl x4), some (.inl x5), some (.inl x6), some (.inl x7), some (.inl x8)] [] σ := by
  unfold fb_Kb_operate_206 at h
  obtain ⟨h1, h⟩ := kg_some h
  refine s_Kb_operate_206 h1 (fun c => ?_) (fun c => ?_)
  · rw [if_pos c] at h
    exact e_Kb_operate_224  h
  · rw [if_neg c] at h
    exact e_Kb_operate_210  h
def fb_Kb_operate_205  (x1 : Int) (x2 : Int) (x3 : Int) (x4 : Int) (x5 : Int) (x6 : Int) (x7 : Int) (x8 : Int) (s0 : Int) (σ : kS) : kRes := kg ((s0 = 0 ∨ s0 = 1)) (some (some s0, σ))
theorem e_Kb_operate_205 {l : Launch} {G : kG} {yf : Int} {σf : kS}  {x1 : Int} {x2 : Int} {x3 : Int} {x4 : Int} {x5 : Int} {x6 : Int} {x7 : Int} {x8 : Int} {s0 : Int}  {σ : kS} (h : fb_Kb_operate_205  x1 x2 x3 x4 x5 x6 x7 x8 s0 σ = some (some yf, σf)) : Rn l G dm_Kb_operate m_Kb_operate (kI fun y' σ' => y' = yf ∧ σ' = σf) 205 [some (.inr (5, 0)), some (.inl x1), some (.inl x2), some (.inl x3), some (.inl x4), some (.inl x5), some (.inl x6), some (.inl x7), some (.inl x8)] [.inl s0] σ := by
  unfold fb_Kb_operate_205 at h
  obtain ⟨h1, h⟩ := kg_some h
  simp only [Option.some.injEq, Prod.mk.injEq, true_and] at h
  exact s_Kb_operate_205 h1 ⟨_, rfl, h⟩
def fb_Kb_operate_190  (x1 : Int) (x2 : Int) (x3 : Int) (x4 : Int) (x5 : Int) (x6 : Int) (x7 : Int) (x8 : Int) (σ : kS) : kRes := kg ((-2147483648 ≤ x6 ∧ x6 < 2147483648) ∧ (-2147483648 ≤ x5 + x3 ∧ x5 + x3 < 2147483648)) (kbi (f_Kb_operateOnLetters x5 (min x6 (x5 + x3)) σ) fun y σ1 => fb_Kb_operate_205  x1 x2 x3 x4 x5 x6 x7 x8 y σ1)
theorem e_Kb_operate_190 {l : Launch} {G : kG} {yf : Int} {σf : kS}  {x1 : Int} {x2 : Int} {x3 : Int} {x4 : Int} {x5 : Int} {x6 : Int} {x7 : Int} {x8 : Int}  {σ : kS} (h : fb_Kb_operate_190  x1 x2 x3 x4 x5 x6 x7 x8 σ = some (some yf, σf)) : Rn l G dm_Kb_operate m_Kb_operate (kI fun y' σ' => y' = yf ∧ σ' = σf) 190 [some (.inr (5, 0)), some (.inl x1), some (.inl x2), some (.inl x3), some (.inl x4), some (.inl x5), some (.inl x6), some (.inl x7), some (.inl x8)] [] σ := by
  unfold fb_Kb_operate_190 at h
  obtain ⟨⟨h1, h2⟩, h⟩ := kg_some h
  obtain ⟨y, σ1, hc, h⟩ := kbi_some h
  refine s_Kb_operate_190 h1 h2 (by decide) (by decide) (E_Kb_operateOnLetters hc) (fun y2 σ2 e2 => ?_)
  obtain ⟨rfl, rfl⟩ := e2
  exact e_Kb_operate_205  h
def fb_Kb_operate_189  (x1 : Int) (x2 : Int) (x3 : Int) (x4 : Int) (x5 : Int) (x6 : Int) (x7 : Int) (x8 : Int) (s0 : Int) (σ : kS) : kRes := kg ((s0 = 0 ∨ s0 = 1)) (some (some s0, σ))
theorem e_Kb_operate_189 {l : Launch} {G : kG} {yf : Int} {σf : kS}  {x1 : Int} {x2 : Int} {x3 : Int} {x4 : Int} {x5 : Int} {x6 : Int} {x7 : Int} {x8 : Int} {s0 : Int}  {σ : kS} (h : fb_Kb_operate_189  x1 x2 x3 x4 x5 x6 x7 x8 s0 σ = some (some yf, σf)) : Rn l G dm_Kb_operate m_Kb_operate (kI fun y' σ' => y' = yf ∧ σ' = σf) 189 [some (.inr (5, 0)), some (.inl x1), some (.inl x2), some (.inl x3), some (.inl x4), some (.inl x5), some (.inl x6), some (.inl x7), some (.inl x8)] [.inl s0] σ := by
  unfold fb_Kb_operate_189 at h
  obtain ⟨h1, h⟩ := kg_some h
  simp only [Option.some.injEq, Prod.mk.injEq, true_and] at h
  exact s_Kb_operate_189 h1 ⟨_, rfl, h⟩
def fb_Kb_operate_175  (x1 : Int) (x2 : Int) (x3 : Int) (x4 : Int) (x5 : Int) (x6 : Int) (x7 : Int) (x8 : Int) (σ : kS) : kRes := kg ((-2147483648 ≤ x5 - x3 ∧ x5 - x3 < 2147483648)) (kbi (f_Kb_operateOnLetters (max 0 (x5 - x3)) x5 σ) fun y σ1 => fb_Kb_operate_189  x1 x2 x3 x4 x5 x6 x7 x8 y σ1)
theorem e_Kb_operate_175 {l : Launch} {G : kG} {yf : Int} {σf : kS}  {x1 : Int} {x2 : Int} {x3 : Int} {x4 : Int} {x5 : Int} {x6 : Int} {x7 : Int} {x8 : Int}  {σ : kS} (h : fb_Kb_operate_175  x1 x2 x3 x4 x5 x6 x7 x8 σ = some (some yf, σf)) : Rn l G dm_Kb_operate m_Kb_operate (kI fun y' σ' => y' = yf ∧ σ' = σf) 175 [some (.inr (5, 0)), some (.inl x1), some (.inl x2), some (.inl x3), some (.inl x4), some (.inl x5), some (.inl x6), some (.inl x7), some (.inl x8)] [] σ := by
  unfold fb_Kb_operate_175 at h
  obtain ⟨h1, h⟩ := kg_some h
  obtain ⟨y, σ1, hc, h⟩ := kbi_some h
  refine s_Kb_operate_175 h1 (by decide) (by decide) (E_Kb_operateOnLetters hc) (fun y2 σ2 e2 => ?_)
  obtain ⟨rfl, rfl⟩ := e2
  exact e_Kb_operate_189  h
def fb_Kb_operate_174  (x1 : Int) (x2 : Int) (x3 : Int) (x4 : Int) (x5 : Int) (x6 : Int) (x7 : Int) (x8 : Int) (s0 : Int) (σ : kS) : kRes := kg ((s0 = 0 ∨ s0 = 1)) (some (some s0, σ))
theorem e_Kb_operate_174 {l : Launch} {G : kG} {yf : Int} {σf : kS}  {x1 : Int} {x2 : Int} {x3 : Int} {x4 : Int} {x5 : Int} {x6 : Int} {x7 : Int} {x8 : Int} {s0 : Int}  {σ : kS} (h : fb_Kb_operate_174  x1 x2 x3 x4 x5 x6 x7 x8 s0 σ = some (some yf, σf)) : Rn l G dm_Kb_operate m_Kb_operate (kI fun y' σ' => y' = yf ∧ σ' = σf) 174 [some (.inr (5, 0)), some (.inl x1), some (.inl x2), some (.inl x3), some (.inl x4), some (.inl x5), some (.inl x6), some (.inl x7), some (.inl x8)] [.inl s0] σ := by
  unfold fb_Kb_operate_174 at h
  obtain ⟨h1, h⟩ := kg_some h
  simp only [Option.some.injEq, Prod.mk.injEq, true_and] at h
  exact s_Kb_operate_174 h1 ⟨_, rfl, h⟩
def fb_Kb_operate_173  (x1 : Int) (x2 : Int) (x3 : Int) (x4 : Int) (x5 : Int) (x6 : Int) (x7 : Int) (x8 : Int) (σ : kS) : kRes := fb_Kb_operate_174  x1 x2 x3 x4 x5 x6 x7 x8 0 σ
theorem e_Kb_operate_173 {l : Launch} {G : kG} {yf : Int} {σf : kS}  {x1 : Int} {x2 : Int} {x3 : Int} {x4 : Int} {x5 : Int} {x6 : Int} {x7 : Int} {x8 : Int}  {σ : kS} (h : fb_Kb_operate_173  x1 x2 x3 x4 x5 x6 x7 x8 σ = some (some yf, σf)) : Rn l G dm_Kb_operate m_Kb_operate (kI fun y' σ' => y' = yf ∧ σ' = σf) 173 [some (.inr (5, 0)), some (.inl x1), some (.inl x2), some (.inl x3), some (.inl x4), some (.inl x5), some (.inl x6), some (.inl x7), some (.inl x8)] [] σ := by
  unfold fb_Kb_operate_173 at h
  refine s_Kb_operate_173  ?_
  exact e_Kb_operate_174  h
def fb_Kb_operate_169  (x1 : Int) (x2 : Int) (x3 : Int) (x4 : Int) (x5 : Int) (x6 : Int) (x7 : Int) (x8 : Int) (σ : kS) : kRes := fb_Kb_operate_174  x1 x2 x3 x4 x5 x6 x7 x8 1 σ
theorem e_Kb_operate_169 {l : Launch} {G : kG} {yf : Int} {σf : kS}  {x1 : Int} {x2 : Int} {x3 : Int} {x4 : Int} {x5 : Int} {x6 : Int} {x7 : Int} {x8 : Int}  {σ : kS} (h : fb_Kb_operate_169  x1 x2 x3 x4 x5 x6 x7 x8 σ = some (some yf, σf)) : Rn l G dm_Kb_operate m_Kb_operate (kI fun y' σ' => y' = yf ∧ σ' = σf) 169 [some (.inr (5, 0)), some (.inl x1), some (.inl x2), some (.inl x3), some (.inl x4), some (.inl x5), some (.inl x6), some (.inl x7), some (.inl x8)] [] σ := by
  unfold fb_Kb_operate_169 at h
  refine s_Kb_operate_169  ?_
  exact e_Kb_operate_174  h
def fb_Kb_operate_166  (x1 : Int) (x2 : Int) (x3 : Int) (x4 : Int) (x5 : Int) (x6 : Int) (x7 : Int) (x8 : Int) (s0 : Int) (σ : kS) : kRes := kg ((-2147483648 ≤ s0 ∧ s0 < 2147483648)) (if s0 = 0 then fb_Kb_operate_173  x1 x2 x3 x4 x5 x6 x7 x8 σ else fb_Kb_operate_169  x1 x2 x3 x4 x5 x6 x7 x8 σ)
theorem e_Kb_operate_166 {l : Launch} {G : kG} {yf : Int} {σf : kS}  {x1 : Int} {x2 : Int} {x3 : Int} {x4 : Int} {x5 : Int} {x6 : Int} {x7 : Int} {x8 : Int} {s0 : Int}  {σ : kS} (h : fb_Kb_operate_166  x1 x2 x3 x4 x5 x6 x7 x8 s0 σ = some (some yf, σf)) : Rn l G dm_Kb_operate m_Kb_operate (kI fun y' σ' => y' = yf ∧ σ' = σf) 166 [some (.inr (5, 0)), some (.inl x1), some (.inl x2), some (.inl x3), some (.inl x4), some (.inl x5), some (.inl x6), some (.inl x7), some (.inl x8)] [.inl s0] σ := by
  unfold fb_Kb_operate_166 at h
  obtain ⟨h1, h⟩ := kg_some h
  refine s_Kb_operate_166 h1 (fun c => ?_) (fun c => ?_)
  · rw [if_pos c] at h
    exact e_Kb_operate_173  h
  · rw [if_neg c] at h
    exact e_Kb_operate_169  h
def fb_Kb_operate_148  (x1 : Int) (x2 : Int) (x3 : Int) (x4 : Int) (x5 : Int) (x6 : Int) (x7 : Int) (x8 : Int) (σ : kS) : kRes := kg ((-2147483648 ≤ x4 ∧ x4 < 2147483648) ∧ (-2147483648 ≤ x7 ∧ x7 < 2147483648)) (kbi (f_Kb_operateOnLines (min x4 x7) (max x4 x7) σ) fun y σ1 => fb_Kb_operate_166  x1 x2 x3 x4 x5 x6 x7 x8 y σ1)
theorem e_Kb_operate_148 {l : Launch} {G : kG} {yf : Int} {σf : kS}  {x1 : Int} {x2 : Int} {x3 : Int} {x4 : Int} {x5 : Int} {x6 : Int} {x7 : Int} {x8 : Int}  {σ : kS} (h : fb_Kb_operate_148  x1 x2 x3 x4 x5 x6 x7 x8 σ = some (some yf, σf)) : Rn l G dm_Kb_operate m_Kb_operate (kI fun y' σ' => y' = yf ∧ σ' = σf) 148 [some (.inr (5, 0)), some (.inl x1), some (.inl x2), some (.inl x3), some (.inl x4), some (.inl x5), some (.inl x6), some (.inl x7), some (.inl x8)] [] σ := by
  unfold fb_Kb_operate_148 at h
  obtain ⟨⟨h1, h2⟩, h⟩ := kg_some h
  obtain ⟨y, σ1, hc, h⟩ := kbi_some h
  refine s_Kb_operate_148 h1 h2 (by decide) (by decide) (E_Kb_operateOnLines hc) (fun y2 σ2 e2 => ?_)
  obtain ⟨rfl, rfl⟩ := e2
  exact e_Kb_operate_166  h
def fb_Kb_operate_144  (x1 : Int) (x2 : Int) (x3 : Int) (x4 : Int) (x5 : Int) (x6 : Int) (x7 : Int) (x8 : Int) (σ : kS) : kRes := kg ((-2147483648 ≤ x2 ∧ x2 < 2147483648)) (if x2 < 0 then fb_Kb_operate_173  x1 x2 x3 x4 x5 x6 x7 x8 σ else fb_Kb_operate_148  x1 x2 x3 x4 x5 x6 x7 x8 σ)
theorem e_Kb_operate_144 {l : Launch} {G : kG} {yf : Int} {σf : kS}  {x1 : Int} {x2 : Int} {x3 : Int} {x4 : Int} {x5 : Int} {x6 : Int} {x7 : Int} {x8 : Int}  {σ : kS} (h : fb_Kb_operate_144  x1 x2 x3 x4 x5 x6 x7 x8 σ = some (some yf, σf)) : Rn l G dm_Kb_operate m_Kb_operate (kI fun y' σ' => y' = yf ∧ σ' = σf) 144 [some (.inr (5, 0)), some (.inl x1), some (.inl x2), some (.inl x3), some (.inl x4), some (.inl x5), some (.inl x6), some (.inl x7), some (.inl x8)] [] σ := by
  unfold fb_Kb_operate_144 at h
  obtain ⟨h1, h⟩ := kg_some h
  refine s_Kb_operate_144 h1 (fun c => ?_) (fun c => ?_)
  · rw [if_pos c] at h
    exact e_Kb_operate_173  h
  · rw [if_neg c] at h
    exact e_Kb_operate_148  h
def fb_Kb_operate_60  (x1 : Int) (x2 : Int) (x3 : Int) (x4 : Int) (x5 : Int) (x6 : Int) (x7 : Int) (s0 : Int) (σ : kS) : kRes := kg ((-2147483648 ≤ x1 ∧ x1 < 2147483648)) (if x1 = 36 then fb_Kb_operate_226  x1 x2 x3 x4 x5 x6 x7 s0 σ else if x1 = 48 then fb_Kb_operate_206  x1 x2 x3 x4 x5 x6 x7 s0 σ else if x1 = 71 then fb_Kb_operate_144  x1 x2 x3 x4 x5 x6 x7 s0 σ else if x1 = 98 then fb_Kb_operate_268  x1 x2 x3 x4 x5 x6 x7 s0 σ else if x1 = 104 then fb_Kb_operate_175  x1 x2 x3 x4 x5 x6 x7 s0 σ else if x1 = 106 then fb_Kb_operate_144  x1 x2 x3 x4 x5 x6 x7 s0 σ else if x1 = 107 then fb_Kb_operate_144  x1 x2 x3 x4 x5 x6 x7 s0 σ else if x1 = 108 then fb_Kb_operate_190  x1 x2 x3 x4 x5 x6 x7 s0 σ else if x1 = 119 then fb_Kb_operate_247  x1 x2 x3 x4 x5 x6 x7 s0 σ else fb_Kb_operate_292  x1 x2 x3 x4 x5 x6 x7 s0 σ)
theorem e_Kb_operate_60 {l : Launch} {G : kG} {yf : Int} {σf : kS}  {x1 : Int} {x2 : Int} {x3 : Int} {x4 : Int} {x5 : Int} {x6 : Int} {x7 : Int} {s0 : Int} {o8 : Option kV} {σ : kS} (h : fb_Kb_operate_60  x1 x2 x3 x4 x5 x6 x7 s0 σ = some (some yf, σf)) : Rn l G dm_Kb_operate m_Kb_operate (kI fun y' σ' => y' = yf ∧ σ' = σf) 60 [some (.inr (5, 0)), some (.inl x1), some (.inl x2), some (.inl x3), some (.inl x4), some (.inl x5), some (.inl x6), some (.inl x7), o8] [.inl s0] σ := by
  unfold fb_Kb_operate_60 at h
  obtain ⟨h1, h⟩ := kg_some h
  refine s_Kb_operate_60 h1 (fun c => ?_) (fun c => ?_) (fun c => ?_) (fun c => ?_) (fun c => ?_) (fun c => ?_) (fun c => ?_) (fun c => ?_) (fun c => ?_) (fun c0 c1 c2 c3 c4 c5 c6 c7 c8 => ?_)
  · rw [if_pos c] at h
    exact e_Kb_operate_226  h
  · rw [if_neg (show ¬ x1 = 36 by omega), if_pos c] at h
    exact e_Kb_operate_206  h
  · rw [if_neg (show ¬ x1 = 36 by omega), if_neg (show ¬ x1 = 48 by omega), if_pos c] at h
    exact e_Kb_operate_144  h
  · rw [if_neg (show ¬ x1 = 36 by omega), if_neg (show ¬ x1 = 48 by omega), if_neg (show ¬ x1 = 71 by omega), if_pos c] at h
    exact e_Kb_operate_268  h
  · rw [if_neg (show ¬ x1 = 36 by omega), if_neg (show ¬ x1 = 48 by omega), if_neg (show ¬ x1 = 71 by omega), if_neg (show ¬ x1 = 98 by omega), if_pos c] at h
    exact e_Kb_operate_175  h
  · rw [if_neg (show ¬ x1 = 36 by omega), if_neg (show ¬ x1 = 48 by omega), if_neg (show ¬ x1 = 71 by omega), if_neg (show ¬ x1 = 98 by omega), if_neg (show ¬ x1 = 104 by omega), if_pos c] at h
    exact e_Kb_operate_144  h
  · rw [if_neg (show ¬ x1 = 36 by omega), if_neg (show ¬ x1 = 48 by omega), if_neg (show ¬ x1 = 71 by omega), if_neg (show ¬ x1 = 98 by omega), if_neg (show ¬ x1 = 104 by omega), if_neg (show ¬ x1 = 106 by omega), if_pos c] at h
    exact e_Kb_operate_144  h
  · rw [if_neg (show ¬ x1 = 36 by omega), if_neg (show ¬ x1 = 48 by omega), if_neg (show ¬ x1 = 71 by omega), if_neg (show ¬ x1 = 98 by omega), if_neg (show ¬ x1 = 104 by omega), if_neg (show ¬ x1 = 106 by omega), if_neg (show ¬ x1 = 107 by omega), if_pos c] at h
    exact e_Kb_operate_190  h
  · rw [if_neg (show ¬ x1 = 36 by omega), if_neg (show ¬ x1 = 48 by omega), if_neg (show ¬ x1 = 71 by omega), if_neg (show ¬ x1 = 98 by omega), if_neg (show ¬ x1 = 104 by omega), if_neg (show ¬ x1 = 106 by omega), if_neg (show ¬ x1 = 107 by omega), if_neg (show ¬ x1 = 108 by omega), if_pos c] at h
    exact e_Kb_operate_247  h
  · rw [if_neg c0, if_neg c1, if_neg c2, if_neg c3, if_neg c4, if_neg c5, if_neg c6, if_neg c7, if_neg c8] at h
    exact e_Kb_operate_292  h
def fb_Kb_operate_59  (x1 : Int) (x2 : Int) (x3 : Int) (x4 : Int) (x5 : Int) (x6 : Int) (x7 : Int) (σ : kS) : kRes := fb_Kb_operate_60  x1 x2 x3 x4 x5 x6 x7 0 σ
theorem e_Kb_operate_59 {l : Launch} {G : kG} {yf : Int} {σf : kS}  {x1 : Int} {x2 : Int} {x3 : Int} {x4 : Int} {x5 : Int} {x6 : Int} {x7 : Int} {o8 : Option kV} {σ : kS} (h : fb_Kb_operate_59  x1 x2 x3 x4 x5 x6 x7 σ = some (some yf, σf)) : Rn l G dm_Kb_operate m_Kb_operate (kI fun y' σ' => y' = yf ∧ σ' = σf) 59 [some (.inr (5, 0)), some (.inl x1), some (.inl x2), some (.inl x3), some (.inl x4), some (.inl x5), some (.inl x6), some (.inl x7), o8] [] σ := by
  unfold fb_Kb_operate_59 at h
  refine s_Kb_operate_59  ?_
  exact e_Kb_operate_60  h
def fb_Kb_operate_55  (x1 : Int) (x2 : Int) (x3 : Int) (x4 : Int) (x5 : Int) (x6 : Int) (x7 : Int) (σ : kS) : kRes := fb_Kb_operate_60  x1 x2 x3 x4 x5 x6 x7 1 σ
theorem e_Kb_operate_55 {l : Launch} {G : kG} {yf : Int} {σf : kS}  {x1 : Int} {x2 : Int} {x3 : Int} {x4 : Int} {x5 : Int} {x6 : Int} {x7 : Int} {o8 : Option kV} {σ : kS} (h : fb_Kb_operate_55  x1 x2 x3 x4 x5 x6 x7 σ = some (some yf, σf)) : Rn l G dm_Kb_operate m_Kb_operate (kI fun y' σ' => y' = yf ∧ σ' = σf) 55 [some (.inr (5, 0)), some (.inl x1), some (.inl x2), some (.inl x3), some (.inl x4), some (.inl x5), some (.inl x6), some (.inl x7), o8] [] σ := by
  unfold fb_Kb_operate_55 at h
  refine s_Kb_operate_55  ?_
  exact e_Kb_operate_60  h
def fb_Kb_operate_48  (x1 : Int) (x2 : Int) (x3 : Int) (x4 : Int) (x5 : Int) (x6 : Int) (x7 : Int) (σ : kS) : kRes := kg ((-2147483648 ≤ x7 ∧ x7 < 2147483648) ∧ (-2147483648 ≤ x4 ∧ x4 < 2147483648)) (if x7 = x4 then fb_Kb_operate_55  x1 x2 x3 x4 x5 x6 x7 σ else fb_Kb_operate_59  x1 x2 x3 x4 x5 x6 x7 σ)
theorem e_Kb_operate_48 {l : Launch} {G : kG} {yf : Int} {σf : kS}  {x1 : Int} {x2 : Int} {x3 : Int} {x4 : Int} {x5 : Int} {x6 : Int} {x7 : Int} {o8 : Option kV} {σ : kS} (h : fb_Kb_operate_48  x1 x2 x3 x4 x5 x6 x7 σ = some (some yf, σf)) : Rn l G dm_Kb_operate m_Kb_operate (kI fun y' σ' => y' = yf ∧ σ' = σf) 48 [some (.inr (5, 0)), some (.inl x1), some (.inl x2), some (.inl x3), some (.inl x4), some (.inl x5), some (.inl x6), some (.inl x7), o8] [] σ := by
  unfold fb_Kb_operate_48 at h
  obtain ⟨⟨h1, h2⟩, h⟩ := kg_some h
  refine s_Kb_operate_48 h1 h2 (fun c => ?_) (fun c => ?_)
  · rw [if_neg c] at h
    exact e_Kb_operate_59  h
  · rw [if_pos c] at h
    exact e_Kb_operate_55  h
def fb_Kb_operate_36  (x1 : Int) (x2 : Int) (x3 : Int) (x4 : Int) (x5 : Int) (s0 : Int) (σ : kS) : kRes := kg ((-2147483648 ≤ x2 ∧ x2 < 2147483648)) (if x2 < 0 then fb_Kb_operate_59  x1 x2 x3 x4 x5 s0 (kdiv x2 32) σ else fb_Kb_operate_48  x1 x2 x3 x4 x5 s0 (kdiv x2 32) σ)
theorem e_Kb_operate_36 {l : Launch} {G : kG} {yf : Int} {σf : kS}  {x1 : Int} {x2 : Int} {x3 : Int} {x4 : Int} {x5 : Int} {s0 : Int} {o6 : Option kV} {o7 : Option kV} {o8 : Option kV} {σ : kS} (h : fb_Kb_operate_36  x1 x2 x3 x4 x5 s0 σ = some (some yf, σf)) : Rn l G dm_Kb_operate m_Kb_operate (kI fun y' σ' => y' = yf ∧ σ' = σf) 36 [some (.inr (5, 0)), some (.inl x1), some (.inl x2), some (.inl x3), some (.inl x4), some (.inl x5), o6, o7, o8] [.inl s0] σ := by
  unfold fb_Kb_operate_36 at h
  obtain ⟨h1, h⟩ := kg_some h
  refine s_Kb_operate_36 h1 (fun c => ?_) (fun c => ?_)
  · rw [if_pos c] at h
    exact e_Kb_operate_59  h
  · rw [if_neg c] at h
    exact e_Kb_operate_48  h
def fb_Kb_operate_0  (x1 : Int) (x2 : Int) (σ : kS) : kRes := kg ((-2147483648 ≤ σ 5 0 7 ∧ σ 5 0 7 < 2147483648)) (kbi (f_Te_sizeOf (σ 2 0 3) 0 σ) fun y σ1 => fb_Kb_operate_36  x1 x2 (max 1 (σ 5 0 7)) (σ 2 0 3) (σ 2 0 4) y σ1)
theorem e_Kb_operate_0 {l : Launch} {G : kG} {yf : Int} {σf : kS}  {x1 : Int} {x2 : Int} {o3 : Option kV} {o4 : Option kV} {o5 : Option kV} {o6 : Option kV} {o7 : Option kV} {o8 : Option kV} {σ : kS} (h : fb_Kb_operate_0  x1 x2 σ = some (some yf, σf)) : Rn l G dm_Kb_operate m_Kb_operate (kI fun y' σ' => y' = yf ∧ σ' = σf) 0 [some (.inr (5, 0)), some (.inl x1), some (.inl x2), o3, o4, o5, o6, o7, o8] [] σ := by
  unfold fb_Kb_operate_0 at h
  obtain ⟨h1, h⟩ := kg_some h
  obtain ⟨y, σ1, hc, h⟩ := kbi_some h
  refine s_Kb_operate_0 h1 (by decide) (by decide) (E_Te_sizeOf hc) (fun y2 σ2 e2 => ?_)
  obtain ⟨rfl, rfl⟩ := e2
  exact e_Kb_operate_36  h
def f_Kb_operate (x1 : Int) (x2 : Int) (σ : kS) : kRes := fb_Kb_operate_0 x1 x2 σ
theorem E_Kb_operate {l : Launch} {G : kG} {yf : Int} {σf : kS} {x1 : Int} {x2 : Int} {σ : kS} (h : f_Kb_operate x1 x2 σ = some (some yf, σf)) : Call l G dm_Kb_operate y_Kb_operate m_Kb_operate [.inr (5, 0), .inl x1, .inl x2] σ (kI fun y' σ' => y' = yf ∧ σ' = σf) := by
  unfold f_Kb_operate at h
  exact Call.of (by decide +kernel) rfl (Nat.le_of_ble_eq_true rfl) (e_Kb_operate_0 h)
