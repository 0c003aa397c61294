/-! Pa_read -/
def fb_Pa_read_219  (x2 : Int) (x3 : Int) (x4 : Int) (s0 : Int) (t : Nat) (σ : kS) : kRes := kg ((s0 = 0 ∨ s0 = 1)) (some (some s0, σ))
theorem e_Pa_read_219 {l : Launch} {G : kG} {yf : Int} {σf : kS}  {x2 : Int} {x3 : Int} {x4 : Int} {s0 : Int} {t : Nat}  {σ : kS} (h : fb_Pa_read_219  x2 x3 x4 s0 t σ = some (some yf, σf)) : Rn l G dm_Pa_read m_Pa_read (kI fun y' σ' => y' = yf ∧ σ' = σf) 219 [some (.inr (8, t)), some (.inr (16, 2)), some (.inl x2), some (.inl x3), some (.inl x4)] [.inl s0] σ := by
  unfold fb_Pa_read_219 at h
  obtain ⟨h1, h⟩ := kg_some h
  simp only [Option.some.injEq, Prod.mk.injEq, true_and] at h
  exact s_Pa_read_219 h1 ⟨_, rfl, h⟩
def fb_Pa_read_218  (x2 : Int) (x3 : Int) (x4 : Int) (t : Nat) (σ : kS) : kRes := fb_Pa_read_219  x2 x3 x4 0 t σ
theorem e_Pa_read_218 {l : Launch} {G : kG} {yf : Int} {σf : kS}  {x2 : Int} {x3 : Int} {x4 : Int} {t : Nat}  {σ : kS} (h : fb_Pa_read_218  x2 x3 x4 t σ = some (some yf, σf)) : Rn l G dm_Pa_read m_Pa_read (kI fun y' σ' => y' = yf ∧ σ' = σf) 218 [some (.inr (8, t)), some (.inr (16, 2)), some (.inl x2), some (.inl x3), some (.inl x4)] [] σ := by
  unfold fb_Pa_read_218 at h
  refine s_Pa_read_218  ?_
  exact e_Pa_read_219  h
def fb_Pa_read_214  (x2 : Int) (x3 : Int) (x4 : Int) (t : Nat) (σ : kS) : kRes := fb_Pa_read_219  x2 x3 x4 1 t σ
theorem e_Pa_read_214 {l : Launch} {G : kG} {yf : Int} {σf : kS}  {x2 : Int} {x3 : Int} {x4 : Int} {t : Nat}  {σ : kS} (h : fb_Pa_read_214  x2 x3 x4 t σ = some (some yf, σf)) : Rn l G dm_Pa_read m_Pa_read (kI fun y' σ' => y' = yf ∧ σ' = σf) 214 [some (.inr (8, t)), some (.inr (16, 2)), some (.inl x2), some (.inl x3), some (.inl x4)] [] σ := by
  unfold fb_Pa_read_214 at h
  refine s_Pa_read_214  ?_
  exact e_Pa_read_219  h
def fb_Pa_read_208  (x2 : Int) (x3 : Int) (x4 : Int) (t : Nat) (σ : kS) : kRes := kg ((-2147483648 ≤ x4 ∧ x4 < 2147483648) ∧ (-2147483648 ≤ x3 ∧ x3 < 2147483648)) (if x4 = x3 then fb_Pa_read_214  x2 x3 x4 t σ else fb_Pa_read_218  x2 x3 x4 t σ)
theorem e_Pa_read_208 {l : Launch} {G : kG} {yf : Int} {σf : kS}  {x2 : Int} {x3 : Int} {x4 : Int} {t : Nat}  {σ : kS} (h : fb_Pa_read_208  x2 x3 x4 t σ = some (some yf, σf)) : Rn l G dm_Pa_read m_Pa_read (kI fun y' σ' => y' = yf ∧ σ' = σf) 208 [some (.inr (8, t)), some (.inr (16, 2)), some (.inl x2), some (.inl x3), some (.inl x4)] [] σ := by
  unfold fb_Pa_read_208 at h
  obtain ⟨⟨h1, h2⟩, h⟩ := kg_some h
  refine s_Pa_read_208 h1 h2 (fun c => ?_) (fun c => ?_)
  · rw [if_neg c] at h
    exact e_Pa_read_218  h
  · rw [if_pos c] at h
    exact e_Pa_read_214  h
def fb_Pa_read_198  (x2 : Int) (x3 : Int) (x4 : Int) (s0 : Int) (t : Nat) (σ : kS) : kRes := kg ((s0 = 0 ∨ s0 = 1) ∧ (-2147483648 ≤ (kup σ 8 t 4 s0) 8 t 4 ∧ (kup σ 8 t 4 s0) 8 t 4 < 2147483648)) (if ((kup σ 8 t 4 s0) 8 t 4) = 0 then fb_Pa_read_208  x2 x3 x4 t (kup σ 8 t 4 s0) else fb_Pa_read_214  x2 x3 x4 t (kup σ 8 t 4 s0))
theorem e_Pa_read_198 {l : Launch} {G : kG} {yf : Int} {σf : kS}  {x2 : Int} {x3 : Int} {x4 : Int} {s0 : Int} {t : Nat}  {σ : kS} (h : fb_Pa_read_198  x2 x3 x4 s0 t σ = some (some yf, σf)) : Rn l G dm_Pa_read m_Pa_read (kI fun y' σ' => y' = yf ∧ σ' = σf) 198 [some (.inr (8, t)), some (.inr (16, 2)), some (.inl x2), some (.inl x3), some (.inl x4)] [.inl s0, .inr (8, t)] σ := by
  unfold fb_Pa_read_198 at h
  obtain ⟨⟨h1, h2⟩, h⟩ := kg_some h
  refine s_Pa_read_198 h1 h2 (fun c => ?_) (fun c => ?_)
  · rw [if_neg c] at h
    exact e_Pa_read_214  h
  · rw [if_pos c] at h
    exact e_Pa_read_208  h
def fb_Pa_read_197  (x2 : Int) (x3 : Int) (x4 : Int) (t : Nat) (σ : kS) : kRes := fb_Pa_read_198  x2 x3 x4 0 t σ
theorem e_Pa_read_197 {l : Launch} {G : kG} {yf : Int} {σf : kS}  {x2 : Int} {x3 : Int} {x4 : Int} {t : Nat}  {σ : kS} (h : fb_Pa_read_197  x2 x3 x4 t σ = some (some yf, σf)) : Rn l G dm_Pa_read m_Pa_read (kI fun y' σ' => y' = yf ∧ σ' = σf) 197 [some (.inr (8, t)), some (.inr (16, 2)), some (.inl x2), some (.inl x3), some (.inl x4)] [.inr (8, t)] σ := by
  unfold fb_Pa_read_197 at h
  refine s_Pa_read_197  ?_
  exact e_Pa_read_198  h
def fb_Pa_read_193  (x2 : Int) (x3 : Int) (x4 : Int) (t : Nat) (σ : kS) : kRes := fb_Pa_read_198  x2 x3 x4 1 t σ
theorem e_Pa_read_193 {l : Launch} {G : kG} {yf : Int} {σf : kS}  {x2 : Int} {x3 : Int} {x4 : Int} {t : Nat}  {σ : kS} (h : fb_Pa_read_193  x2 x3 x4 t σ = some (some yf, σf)) : Rn l G dm_Pa_read m_Pa_read (kI fun y' σ' => y' = yf ∧ σ' = σf) 193 [some (.inr (8, t)), some (.inr (16, 2)), some (.inl x2), some (.inl x3), some (.inl x4)] [.inr (8, t)] σ := by
  unfold fb_Pa_read_193 at h
  refine s_Pa_read_193  ?_
  exact e_Pa_read_198  h
def fb_Pa_read_190  (x2 : Int) (x3 : Int) (x4 : Int) (s0 : Int) (t : Nat) (σ : kS) : kRes := kg ((-2147483648 ≤ s0 ∧ s0 < 2147483648)) (if s0 = 0 then fb_Pa_read_197  x2 x3 x4 t σ else fb_Pa_read_193  x2 x3 x4 t σ)
theorem e_Pa_read_190 {l : Launch} {G : kG} {yf : Int} {σf : kS}  {x2 : Int} {x3 : Int} {x4 : Int} {s0 : Int} {t : Nat}  {σ : kS} (h : fb_Pa_read_190  x2 x3 x4 s0 t σ = some (some yf, σf)) : Rn l G dm_Pa_read m_Pa_read (kI fun y' σ' => y' = yf ∧ σ' = σf) 190 [some (.inr (8, t)), some (.inr (16, 2)), some (.inl x2), some (.inl x3), some (.inl x4)] [.inl s0, .inr (8, t)] σ := by
  unfold fb_Pa_read_190 at h
  obtain ⟨h1, h⟩ := kg_some h
  refine s_Pa_read_190 h1 (fun c => ?_) (fun c => ?_)
  · rw [if_pos c] at h
    exact e_Pa_read_197  h
  · rw [if_neg c] at h
    exact e_Pa_read_193  h
def fb_Pa_read_183  (x2 : Int) (x3 : Int) (x4 : Int) (t : Nat) (σ : kS) : kRes := kbi (f_Pa_isEndSign x4 x3 σ) fun y σ1 => fb_Pa_read_190  x2 x3 x4 y t σ1
theorem e_Pa_read_183 {l : Launch} {G : kG} {yf : Int} {σf : kS}  {x2 : Int} {x3 : Int} {x4 : Int} {t : Nat}  {σ : kS} (h : fb_Pa_read_183  x2 x3 x4 t σ = some (some yf, σf)) : Rn l G dm_Pa_read m_Pa_read (kI fun y' σ' => y' = yf ∧ σ' = σf) 183 [some (.inr (8, t)), some (.inr (16, 2)), some (.inl x2), some (.inl x3), some (.inl x4)] [.inr (8, t)] σ := by
  unfold fb_Pa_read_183 at h
  obtain ⟨y, σ1, hc, h⟩ := kbi_some h
  refine s_Pa_read_183  (by decide) (E_Pa_isEndSign hc) (fun y2 σ2 e2 => ?_)
  obtain ⟨rfl, rfl⟩ := e2
  exact e_Pa_read_190  h
def fb_Pa_read_176  (x2 : Int) (x3 : Int) (x4 : Int) (t : Nat) (σ : kS) : kRes := kg ((-2147483648 ≤ x4 ∧ x4 < 2147483648) ∧ (-2147483648 ≤ x3 ∧ x3 < 2147483648)) (if x3 ≤ x4 then fb_Pa_read_197  x2 x3 x4 t σ else fb_Pa_read_183  x2 x3 x4 t σ)
theorem e_Pa_read_176 {l : Launch} {G : kG} {yf : Int} {σf : kS}  {x2 : Int} {x3 : Int} {x4 : Int} {t : Nat}  {σ : kS} (h : fb_Pa_read_176  x2 x3 x4 t σ = some (some yf, σf)) : Rn l G dm_Pa_read m_Pa_read (kI fun y' σ' => y' = yf ∧ σ' = σf) 176 [some (.inr (8, t)), some (.inr (16, 2)), some (.inl x2), some (.inl x3), some (.inl x4)] [] σ := by
  unfold fb_Pa_read_176 at h
  obtain ⟨⟨h1, h2⟩, h⟩ := kg_some h
  refine s_Pa_read_176 h1 h2 (fun c => ?_) (fun c => ?_)
  · rw [if_pos c] at h
    exact e_Pa_read_197  h
  · rw [if_neg c] at h
    exact e_Pa_read_183  h
def fb_Pa_read_163 (k68 : Int → Int → Int → Nat → kS → kRes) (x2 : Int) (x3 : Int) (x4 : Int) (t : Nat) (σ : kS) : kRes := k68 x2 x3 x4 t (kup σ 8 t 2 ((σ 8 t 2) + 1))
theorem e_Pa_read_163 {l : Launch} {G : kG} {yf : Int} {σf : kS} {k68 : Int → Int → Int → Nat → kS → kRes} (hk68 : ∀ (x2 : Int) (x3 : Int) (x4 : Int) (t : Nat)  (σ : kS), k68 x2 x3 x4 t σ = some (some yf, σf) → Rn l G dm_Pa_read m_Pa_read (kI fun y' σ' => y' = yf ∧ σ' = σf) 68 [some (.inr (8, t)), some (.inr (16, 2)), some (.inl x2), some (.inl x3), some (.inl x4)] [] σ) {x2 : Int} {x3 : Int} {x4 : Int} {t : Nat}  {σ : kS} (h : fb_Pa_read_163 k68 x2 x3 x4 t σ = some (some yf, σf)) : Rn l G dm_Pa_read m_Pa_read (kI fun y' σ' => y' = yf ∧ σ' = σf) 163 [some (.inr (8, t)), some (.inr (16, 2)), some (.inl x2), some (.inl x3), some (.inl x4)] [] σ := by
  unfold fb_Pa_read_163 at h
  refine s_Pa_read_163  ?_
  exact hk68 _ _ _ _ _ h
def fb_Pa_read_145 (k68 : Int → Int → Int → Nat → kS → kRes) (x2 : Int) (x3 : Int) (x4 : Int) (t : Nat) (σ : kS) : kRes := fb_Pa_read_163 k68 x2 x3 (x4 + 1) t (kup σ 8 t 1 (kor (σ 8 t 1) (kshl 1 (σ 8 t 2))))
theorem e_Pa_read_145 {l : Launch} {G : kG} {yf : Int} {σf : kS} {k68 : Int → Int → Int → Nat → kS → kRes} (hk68 : ∀ (x2 : Int) (x3 : Int) (x4 : Int) (t : Nat)  (σ : kS), k68 x2 x3 x4 t σ = some (some yf, σf) → Rn l G dm_Pa_read m_Pa_read (kI fun y' σ' => y' = yf ∧ σ' = σf) 68 [some (.inr (8, t)), some (.inr (16, 2)), some (.inl x2), some (.inl x3), some (.inl x4)] [] σ) {x2 : Int} {x3 : Int} {x4 : Int} {t : Nat}  {σ : kS} (h : fb_Pa_read_145 k68 x2 x3 x4 t σ = some (some yf, σf)) : Rn l G dm_Pa_read m_Pa_read (kI fun y' σ' => y' = yf ∧ σ' = σf) 145 [some (.inr (8, t)), some (.inr (16, 2)), some (.inl x2), some (.inl x3), some (.inl x4)] [] σ := by
  unfold fb_Pa_read_145 at h
  refine s_Pa_read_145  ?_
  exact e_Pa_read_163 hk68 h
def fb_Pa_read_136 (k68 : Int → Int → Int → Nat → kS → kRes) (x2 : Int) (x3 : Int) (x4 : Int) (t : Nat) (σ : kS) : kRes := kg ((0 ≤ x4 ∧ x4 < (30 : Nat)) ∧ (-2147483648 ≤ σ 16 2 (Int.toNat x4) ∧ σ 16 2 (Int.toNat x4) < 2147483648)) (if (σ 16 2 (Int.toNat x4)) = 42 then fb_Pa_read_145 k68 x2 x3 x4 t σ else fb_Pa_read_163 k68 x2 x3 x4 t σ)
theorem e_Pa_read_136 {l : Launch} {G : kG} {yf : Int} {σf : kS} {k68 : Int → Int → Int → Nat → kS → kRes} (hk68 : ∀ (x2 : Int) (x3 : Int) (x4 : Int) (t : Nat)  (σ : kS), k68 x2 x3 x4 t σ = some (some yf, σf) → Rn l G dm_Pa_read m_Pa_read (kI fun y' σ' => y' = yf ∧ σ' = σf) 68 [some (.inr (8, t)), some (.inr (16, 2)), some (.inl x2), some (.inl x3), some (.inl x4)] [] σ) {x2 : Int} {x3 : Int} {x4 : Int} {t : Nat}  {σ : kS} (h : fb_Pa_read_136 k68 x2 x3 x4 t σ = some (some yf, σf)) : Rn l G dm_Pa_read m_Pa_read (kI fun y' σ' => y' = yf ∧ σ' = σf) 136 [some (.inr (8, t)), some (.inr (16, 2)), some (.inl x2), some (.inl x3), some (.inl x4)] [] σ := by
  unfold fb_Pa_read_136 at h
  obtain ⟨⟨h1, h2⟩, h⟩ := kg_some h
  refine s_Pa_read_136 h1 h2 (fun c => ?_) (fun c => ?_)
  · rw [if_neg c] at h
    exact e_Pa_read_163 hk68 h
  · rw [if_pos c] at h
    exact e_Pa_read_145 hk68 h
def fb_Pa_read_130 (k68 : Int → Int → Int → Nat → kS → kRes) (x2 : Int) (x3 : Int) (x4 : Int) (t : Nat) (σ : kS) : kRes := kg ((-2147483648 ≤ x4 ∧ x4 < 2147483648) ∧ (-2147483648 ≤ x3 ∧ x3 < 2147483648)) (if x3 ≤ x4 then fb_Pa_read_163 k68 x2 x3 x4 t σ else fb_Pa_read_136 k68 x2 x3 x4 t σ)
theorem e_Pa_read_130 {l : Launch} {G : kG} {yf : Int} {σf : kS} {k68 : Int → Int → Int → Nat → kS → kRes} (hk68 : ∀ (x2 : Int) (x3 : Int) (x4 : Int) (t : Nat)  (σ : kS), k68 x2 x3 x4 t σ = some (some yf, σf) → Rn l G dm_Pa_read m_Pa_read (kI fun y' σ' => y' = yf ∧ σ' = σf) 68 [some (.inr (8, t)), some (.inr (16, 2)), some (.inl x2), some (.inl x3), some (.inl x4)] [] σ) {x2 : Int} {x3 : Int} {x4 : Int} {t : Nat}  {σ : kS} (h : fb_Pa_read_130 k68 x2 x3 x4 t σ = some (some yf, σf)) : Rn l G dm_Pa_read m_Pa_read (kI fun y' σ' => y' = yf ∧ σ' = σf) 130 [some (.inr (8, t)), some (.inr (16, 2)), some (.inl x2), some (.inl x3), some (.inl x4)] [] σ := by
  unfold fb_Pa_read_130 at h
  obtain ⟨⟨h1, h2⟩, h⟩ := kg_some h
  refine s_Pa_read_130 h1 h2 (fun c => ?_) (fun c => ?_)
  · rw [if_pos c] at h
    exact e_Pa_read_163 hk68 h
  · rw [if_neg c] at h
    exact e_Pa_read_136 hk68 h
def fb_Pa_read_128  (x2 : Int) (x3 : Int) (x4 : Int) (t : Nat) (σ : kS) : kRes := some (some 0, σ)
theorem e_Pa_read_128 {l : Launch} {G : kG} {yf : Int} {σf : kS}  {x2 : Int} {x3 : Int} {x4 : Int} {t : Nat}  {σ : kS} (h : fb_Pa_read_128  x2 x3 x4 t σ = some (some yf, σf)) : Rn l G dm_Pa_read m_Pa_read (kI fun y' σ' => y' = yf ∧ σ' = σf) 128 [some (.inr (8, t)), some (.inr (16, 2)), some (.inl x2), some (.inl x3), some (.inl x4)] [] σ := by
  unfold fb_Pa_read_128 at h
  simp only [Option.some.injEq, Prod.mk.injEq, true_and] at h
  exact s_Pa_read_128  ⟨_, rfl, h⟩
def fb_Pa_read_121 (k68 : Int → Int → Int → Nat → kS → kRes) (x2 : Int) (x3 : Int) (x4 : Int) (s0 : Int) (t : Nat) (σ : kS) : kRes := kg ((-2147483648 ≤ s0 ∧ s0 < 2147483648)) (if 0 ≤ s0 then fb_Pa_read_130 k68 x2 x3 s0 t σ else fb_Pa_read_128  x2 x3 s0 t σ)
theorem e_Pa_read_121 {l : Launch} {G : kG} {yf : Int} {σf : kS} {k68 : Int → Int → Int → Nat → kS → kRes} (hk68 : ∀ (x2 : Int) (x3 : Int) (x4 : Int) (t : Nat)  (σ : kS), k68 x2 x3 x4 t σ = some (some yf, σf) → Rn l G dm_Pa_read m_Pa_read (kI fun y' σ' => y' = yf ∧ σ' = σf) 68 [some (.inr (8, t)), some (.inr (16, 2)), some (.inl x2), some (.inl x3), some (.inl x4)] [] σ) {x2 : Int} {x3 : Int} {x4 : Int} {s0 : Int} {t : Nat}  {σ : kS} (h : fb_Pa_read_121 k68 x2 x3 x4 s0 t σ = some (some yf, σf)) : Rn l G dm_Pa_read m_Pa_read (kI fun y' σ' => y' = yf ∧ σ' = σf) 121 [some (.inr (8, t)), some (.inr (16, 2)), some (.inl x2), some (.inl x3), some (.inl x4)] [.inl s0] σ := by
  unfold fb_Pa_read_121 at h
  obtain ⟨h1, h⟩ := kg_some h
  refine s_Pa_read_121 h1 (fun c => ?_) (fun c => ?_)
  · rw [if_pos c] at h
    exact e_Pa_read_130 hk68 h
  · rw [if_neg c] at h
    exact e_Pa_read_128  h
def fb_Pa_read_113 (k68 : Int → Int → Int → Nat → kS → kRes) (x2 : Int) (x3 : Int) (x4 : Int) (t : Nat) (σ : kS) : kRes := kbi (f_Pa_readSingle x4 x3 t σ) fun y σ1 => fb_Pa_read_121 k68 x2 x3 x4 y t σ1
theorem e_Pa_read_113 {l : Launch} {G : kG} {yf : Int} {σf : kS} {k68 : Int → Int → Int → Nat → kS → kRes} (hk68 : ∀ (x2 : Int) (x3 : Int) (x4 : Int) (t : Nat)  (σ : kS), k68 x2 x3 x4 t σ = some (some yf, σf) → Rn l G dm_Pa_read m_Pa_read (kI fun y' σ' => y' = yf ∧ σ' = σf) 68 [some (.inr (8, t)), some (.inr (16, 2)), some (.inl x2), some (.inl x3), some (.inl x4)] [] σ) {x2 : Int} {x3 : Int} {x4 : Int} {t : Nat}  {σ : kS} (h : fb_Pa_read_113 k68 x2 x3 x4 t σ = some (some yf, σf)) : Rn l G dm_Pa_read m_Pa_read (kI fun y' σ' => y' = yf ∧ σ' = σf) 113 [some (.inr (8, t)), some (.inr (16, 2)), some (.inl x2), some (.inl x3), some (.inl x4)] [] σ := by
  unfold fb_Pa_read_113 at h
  obtain ⟨y, σ1, hc, h⟩ := kbi_some h
  refine s_Pa_read_113  (by decide) (E_Pa_readSingle hc) (fun y2 σ2 e2 => ?_)
  obtain ⟨rfl, rfl⟩ := e2
  exact e_Pa_read_121 hk68 h
def fb_Pa_read_110 (k68 : Int → Int → Int → Nat → kS → kRes) (x2 : Int) (x3 : Int) (x4 : Int) (s0 : Int) (t : Nat) (σ : kS) : kRes := fb_Pa_read_121 k68 x2 x3 x4 s0 t σ
theorem e_Pa_read_110 {l : Launch} {G : kG} {yf : Int} {σf : kS} {k68 : Int → Int → Int → Nat → kS → kRes} (hk68 : ∀ (x2 : Int) (x3 : Int) (x4 : Int) (t : Nat)  (σ : kS), k68 x2 x3 x4 t σ = some (some yf, σf) → Rn l G dm_Pa_read m_Pa_read (kI fun y' σ' => y' = yf ∧ σ' = σf) 68 [some (.inr (8, t)), some (.inr (16, 2)), some (.inl x2), some (.inl x3), some (.inl x4)] [] σ) {x2 : Int} {x3 : Int} {x4 : Int} {s0 : Int} {t : Nat}  {σ : kS} (h : fb_Pa_read_110 k68 x2 x3 x4 s0 t σ = some (some yf, σf)) : Rn l G dm_Pa_read m_Pa_read (kI fun y' σ' => y' = yf ∧ σ' = σf) 110 [some (.inr (8, t)), some (.inr (16, 2)), some (.inl x2), some (.inl x3), some (.inl x4)] [.inl s0] σ := by
  unfold fb_Pa_read_110 at h
  refine s_Pa_read_110  ?_
  exact e_Pa_read_121 hk68 h
def fb_Pa_read_102 (k68 : Int → Int → Int → Nat → kS → kRes) (x2 : Int) (x3 : Int) (x4 : Int) (t : Nat) (σ : kS) : kRes := kbi (f_Pa_readSet x4 x3 t σ) fun y σ1 => fb_Pa_read_110 k68 x2 x3 x4 y t σ1
theorem e_Pa_read_102 {l : Launch} {G : kG} {yf : Int} {σf : kS} {k68 : Int → Int → Int → Nat → kS → kRes} (hk68 : ∀ (x2 : Int) (x3 : Int) (x4 : Int) (t : Nat)  (σ : kS), k68 x2 x3 x4 t σ = some (some yf, σf) → Rn l G dm_Pa_read m_Pa_read (kI fun y' σ' => y' = yf ∧ σ' = σf) 68 [some (.inr (8, t)), some (.inr (16, 2)), some (.inl x2), some (.inl x3), some (.inl x4)] [] σ) {x2 : Int} {x3 : Int} {x4 : Int} {t : Nat}  {σ : kS} (h : fb_Pa_read_102 k68 x2 x3 x4 t σ = some (some yf, σf)) : Rn l G dm_Pa_read m_Pa_read (kI fun y' σ' => y' = yf ∧ σ' = σf) 102 [some (.inr (8, t)), some (.inr (16, 2)), some (.inl x2), some (.inl x3), some (.inl x4)] [] σ := by
  unfold fb_Pa_read_102 at h
  obtain ⟨y, σ1, hc, h⟩ := kbi_some h
  refine s_Pa_read_102  (by decide) (E_Pa_readSet hc) (fun y2 σ2 e2 => ?_)
  obtain ⟨rfl, rfl⟩ := e2
  exact e_Pa_read_110 hk68 h
def fb_Pa_read_93 (k68 : Int → Int → Int → Nat → kS → kRes) (x2 : Int) (x3 : Int) (x4 : Int) (t : Nat) (σ : kS) : kRes := kg ((0 ≤ x4 ∧ x4 < (30 : Nat)) ∧ (-2147483648 ≤ σ 16 2 (Int.toNat x4) ∧ σ 16 2 (Int.toNat x4) < 2147483648)) (if (σ 16 2 (Int.toNat x4)) = 91 then fb_Pa_read_102 k68 x2 x3 x4 t σ else fb_Pa_read_113 k68 x2 x3 x4 t σ)
theorem e_Pa_read_93 {l : Launch} {G : kG} {yf : Int} {σf : kS} {k68 : Int → Int → Int → Nat → kS → kRes} (hk68 : ∀ (x2 : Int) (x3 : Int) (x4 : Int) (t : Nat)  (σ : kS), k68 x2 x3 x4 t σ = some (some yf, σf) → Rn l G dm_Pa_read m_Pa_read (kI fun y' σ' => y' = yf ∧ σ' = σf) 68 [some (.inr (8, t)), some (.inr (16, 2)), some (.inl x2), some (.inl x3), some (.inl x4)] [] σ) {x2 : Int} {x3 : Int} {x4 : Int} {t : Nat}  {σ : kS} (h : fb_Pa_read_93 k68 x2 x3 x4 t σ = some (some yf, σf)) : Rn l G dm_Pa_read m_Pa_read (kI fun y' σ' => y' = yf ∧ σ' = σf) 93 [some (.inr (8, t)), some (.inr (16, 2)), some (.inl x2), some (.inl x3), some (.inl x4)] [] σ := by
  unfold fb_Pa_read_93 at h
  obtain ⟨⟨h1, h2⟩, h⟩ := kg_some h
  refine s_Pa_read_93 h1 h2 (fun c => ?_) (fun c => ?_)
  · rw [if_neg c] at h
    exact e_Pa_read_113 hk68 h
  · rw [if_pos c] at h
    exact e_Pa_read_102 hk68 h
def fb_Pa_read_90 (k68 : Int → Int → Int → Nat → kS → kRes) (x2 : Int) (x3 : Int) (x4 : Int) (s0 : Int) (t : Nat) (σ : kS) : kRes := kg ((-2147483648 ≤ s0 ∧ s0 < 2147483648)) (if s0 = 0 then fb_Pa_read_93 k68 x2 x3 x4 t σ else fb_Pa_read_176  x2 x3 x4 t σ)
theorem e_Pa_read_90 {l : Launch} {G : kG} {yf : Int} {σf : kS} {k68 : Int → Int → Int → Nat → kS → kRes} (hk68 : ∀ (x2 : Int) (x3 : Int) (x4 : Int) (t : Nat)  (σ : kS), k68 x2 x3 x4 t σ = some (some yf, σf) → Rn l G dm_Pa_read m_Pa_read (kI fun y' σ' => y' = yf ∧ σ' = σf) 68 [some (.inr (8, t)), some (.inr (16, 2)), some (.inl x2), some (.inl x3), some (.inl x4)] [] σ) {x2 : Int} {x3 : Int} {x4 : Int} {s0 : Int} {t : Nat}  {σ : kS} (h : fb_Pa_read_90 k68 x2 x3 x4 s0 t σ = some (some yf, σf)) : Rn l G dm_Pa_read m_Pa_read (kI fun y' σ' => y' = yf ∧ σ' = σf) 90 [some (.inr (8, t)), some (.inr (16, 2)), some (.inl x2), some (.inl x3), some (.inl x4)] [.inl s0] σ := by
  unfold fb_Pa_read_90 at h
  obtain ⟨h1, h⟩ := kg_some h
  refine s_Pa_read_90 h1 (fun c => ?_) (fun c => ?_)
  · rw [if_neg c] at h
    exact e_Pa_read_176  h
  · rw [if_pos c] at h
    exact e_Pa_read_93 hk68 h
def fb_Pa_read_83 (k68 : Int → Int → Int → Nat → kS → kRes) (x2 : Int) (x3 : Int) (x4 : Int) (t : Nat) (σ : kS) : kRes := kbi (f_Pa_isEndSign x4 x3 σ) fun y σ1 => fb_Pa_read_90 k68 x2 x3 x4 y t σ1
theorem e_Pa_read_83 {l : Launch} {G : kG} {yf : Int} {σf : kS} {k68 : Int → Int → Int → Nat → kS → kRes} (hk68 : ∀ (x2 : Int) (x3 : Int) (x4 : Int) (t : Nat)  (σ : kS), k68 x2 x3 x4 t σ = some (some yf, σf) → Rn l G dm_Pa_read m_Pa_read (kI fun y' σ' => y' = yf ∧ σ' = σf) 68 [some (.inr (8, t)), some (.inr (16, 2)), some (.inl x2), some (.inl x3), some (.inl x4)] [] σ) {x2 : Int} {x3 : Int} {x4 : Int} {t : Nat}  {σ : kS} (h : fb_Pa_read_83 k68 x2 x3 x4 t σ = some (some yf, σf)) : Rn l G dm_Pa_read m_Pa_read (kI fun y' σ' => y' = yf ∧ σ' = σf) 83 [some (.inr (8, t)), some (.inr (16, 2)), some (.inl x2), some (.inl x3), some (.inl x4)] [] σ := by
  unfold fb_Pa_read_83 at h
  obtain ⟨y, σ1, hc, h⟩ := kbi_some h
  refine s_Pa_read_83  (by decide) (E_Pa_isEndSign hc) (fun y2 σ2 e2 => ?_)
  obtain ⟨rfl, rfl⟩ := e2
  exact e_Pa_read_90 hk68 h
def fb_Pa_read_77 (k68 : Int → Int → Int → Nat → kS → kRes) (x2 : Int) (x3 : Int) (x4 : Int) (t : Nat) (σ : kS) : kRes := kg ((-2147483648 ≤ x4 ∧ x4 < 2147483648) ∧ (-2147483648 ≤ x3 ∧ x3 < 2147483648)) (if x3 ≤ x4 then fb_Pa_read_176  x2 x3 x4 t σ else fb_Pa_read_83 k68 x2 x3 x4 t σ)
theorem e_Pa_read_77 {l : Launch} {G : kG} {yf : Int} {σf : kS} {k68 : Int → Int → Int → Nat → kS → kRes} (hk68 : ∀ (x2 : Int) (x3 : Int) (x4 : Int) (t : Nat)  (σ : kS), k68 x2 x3 x4 t σ = some (some yf, σf) → Rn l G dm_Pa_read m_Pa_read (kI fun y' σ' => y' = yf ∧ σ' = σf) 68 [some (.inr (8, t)), some (.inr (16, 2)), some (.inl x2), some (.inl x3), some (.inl x4)] [] σ) {x2 : Int} {x3 : Int} {x4 : Int} {t : Nat}  {σ : kS} (h : fb_Pa_read_77 k68 x2 x3 x4 t σ = some (some yf, σf)) : Rn l G dm_Pa_read m_Pa_read (kI fun y' σ' => y' = yf ∧ σ' = σf) 77 [some (.inr (8, t)), some (.inr (16, 2)), some (.inl x2), some (.inl x3), some (.inl x4)] [] σ := by
  unfold fb_Pa_read_77 at h
  obtain ⟨⟨h1, h2⟩, h⟩ := kg_some h
  refine s_Pa_read_77 h1 h2 (fun c => ?_) (fun c => ?_)
  · rw [if_pos c] at h
    exact e_Pa_read_176  h
  · rw [if_neg c] at h
    exact e_Pa_read_83 hk68 h
def fb_Pa_read_68 (k68 : Int → Int → Int → Nat → kS → kRes) (x2 : Int) (x3 : Int) (x4 : Int) (t : Nat) (σ : kS) : kRes := kg ((-2147483648 ≤ σ 8 t 2 ∧ σ 8 t 2 < 2147483648)) (if 8 ≤ (σ 8 t 2) then fb_Pa_read_176  x2 x3 x4 t σ else fb_Pa_read_77 k68 x2 x3 x4 t σ)
theorem e_Pa_read_68 {l : Launch} {G : kG} {yf : Int} {σf : kS} {k68 : Int → Int → Int → Nat → kS → kRes} (hk68 : ∀ (x2 : Int) (x3 : Int) (x4 : Int) (t : Nat)  (σ : kS), k68 x2 x3 x4 t σ = some (some yf, σf) → Rn l G dm_Pa_read m_Pa_read (kI fun y' σ' => y' = yf ∧ σ' = σf) 68 [some (.inr (8, t)), some (.inr (16, 2)), some (.inl x2), some (.inl x3), some (.inl x4)] [] σ) {x2 : Int} {x3 : Int} {x4 : Int} {t : Nat}  {σ : kS} (h : fb_Pa_read_68 k68 x2 x3 x4 t σ = some (some yf, σf)) : Rn l G dm_Pa_read m_Pa_read (kI fun y' σ' => y' = yf ∧ σ' = σf) 68 [some (.inr (8, t)), some (.inr (16, 2)), some (.inl x2), some (.inl x3), some (.inl x4)] [] σ := by
  unfold fb_Pa_read_68 at h
  obtain ⟨h1, h⟩ := kg_some h
  refine s_Pa_read_68 h1 (fun c => ?_) (fun c => ?_)
  · rw [if_pos c] at h
    exact e_Pa_read_176  h
  · rw [if_neg c] at h
    exact e_Pa_read_77 hk68 h
def fl_Pa_read_68  : Nat → Int → Int → Int → Nat → kS → kRes
  | 0, _, _, _, _, _ => none
  | n + 1, x2, x3, x4, t, σ => fb_Pa_read_68 (fl_Pa_read_68  n) x2 x3 x4 t σ
theorem el_Pa_read_68 {l : Launch} {G : kG} {yf : Int} {σf : kS}  : ∀ (n : Nat) (x2 : Int) (x3 : Int) (x4 : Int) (t : Nat)  (σ : kS), fl_Pa_read_68  n x2 x3 x4 t σ = some (some yf, σf) → Rn l G dm_Pa_read m_Pa_read (kI fun y' σ' => y' = yf ∧ σ' = σf) 68 [some (.inr (8, t)), some (.inr (16, 2)), some (.inl x2), some (.inl x3), some (.inl x4)] [] σ := by
  intro n
  induction n with
  | zero => intro x2 x3 x4 t σ h; simp only [fl_Pa_read_68] at h; cases h
  | succ n ih => intro x2 x3 x4 t σ h; simp only [fl_Pa_read_68] at h; exact e_Pa_read_68 ih h
def fb_Pa_read_61  (x2 : Int) (x3 : Int) (s0 : Int) (t : Nat) (σ : kS) : kRes := fl_Pa_read_68  3000 x2 x3 s0 t (kup σ 8 t 2 0)
theorem e_Pa_read_61 {l : Launch} {G : kG} {yf : Int} {σf : kS}  {x2 : Int} {x3 : Int} {s0 : Int} {t : Nat} {o4 : Option kV} {σ : kS} (h : fb_Pa_read_61  x2 x3 s0 t σ = some (some yf, σf)) : Rn l G dm_Pa_read m_Pa_read (kI fun y' σ' => y' = yf ∧ σ' = σf) 61 [some (.inr (8, t)), some (.inr (16, 2)), some (.inl x2), some (.inl x3), o4] [.inl s0] σ := by
  unfold fb_Pa_read_61 at h
  refine s_Pa_read_61  ?_
  exact el_Pa_read_68  _ _ _ _ _ _ h
def fb_Pa_read_60  (x2 : Int) (x3 : Int) (t : Nat) (σ : kS) : kRes := fb_Pa_read_61  x2 x3 x2 t σ
theorem e_Pa_read_60 {l : Launch} {G : kG} {yf : Int} {σf : kS}  {x2 : Int} {x3 : Int} {t : Nat} {o4 : Option kV} {σ : kS} (h : fb_Pa_read_60  x2 x3 t σ = some (some yf, σf)) : Rn l G dm_Pa_read m_Pa_read (kI fun y' σ' => y' = yf ∧ σ' = σf) 60 [some (.inr (8, t)), some (.inr (16, 2)), some (.inl x2), some (.inl x3), o4] [] σ := by
  unfold fb_Pa_read_60 at h
  refine s_Pa_read_60  ?_
  exact e_Pa_read_61  h
def fb_Pa_read_54  (x2 : Int) (x3 : Int) (t : Nat) (σ : kS) : kRes := fb_Pa_read_61  x2 x3 (x2 + 1) t σ
theorem e_Pa_read_54 {l : Launch} {G : kG} {yf : Int} {σf : kS}  {x2 : Int} {x3 : Int} {t : Nat} {o4 : Option kV} {σ : kS} (h : fb_Pa_read_54  x2 x3 t σ = some (some yf, σf)) : Rn l G dm_Pa_read m_Pa_read (kI fun y' σ' => y' = yf ∧ σ' = σf) 54 [some (.inr (8, t)), some (.inr (16, 2)), some (.inl x2), some (.inl x3), o4] [] σ := by
  unfold fb_Pa_read_54 at h
  refine s_Pa_read_54  ?_
  exact e_Pa_read_61  h
def fb_Pa_read_44  (x2 : Int) (x3 : Int) (s0 : Int) (t : Nat) (σ : kS) : kRes := kg ((s0 = 0 ∨ s0 = 1) ∧ (-2147483648 ≤ (kup σ 8 t 3 s0) 8 t 3 ∧ (kup σ 8 t 3 s0) 8 t 3 < 2147483648)) (if ((kup σ 8 t 3 s0) 8 t 3) = 0 then fb_Pa_read_60  x2 x3 t (kup σ 8 t 3 s0) else fb_Pa_read_54  x2 x3 t (kup σ 8 t 3 s0))
theorem e_Pa_read_44 {l : Launch} {G : kG} {yf : Int} {σf : kS}  {x2 : Int} {x3 : Int} {s0 : Int} {t : Nat} {o4 : Option kV} {σ : kS} (h : fb_Pa_read_44  x2 x3 s0 t σ = some (some yf, σf)) : Rn l G dm_Pa_read m_Pa_read (kI fun y' σ' => y' = yf ∧ σ' = σf) 44 [some (.inr (8, t)), some (.inr (16, 2)), some (.inl x2), some (.inl x3), o4] [.inl s0, .inr (8, t)] σ := by
  unfold fb_Pa_read_44 at h
  obtain ⟨⟨h1, h2⟩, h⟩ := kg_some h
  refine s_Pa_read_44 h1 h2 (fun c => ?_) (fun c => ?_)
  · rw [if_pos c] at h
    exact e_Pa_read_60  h
  · rw [if_neg c] at h
    exact e_Pa_read_54  h
def fb_Pa_read_43  (x2 : Int) (x3 : Int) (t : Nat) (σ : kS) : kRes := fb_Pa_read_44  x2 x3 0 t σ
theorem e_Pa_read_43 {l : Launch} {G : kG} {yf : Int} {σf : kS}  {x2 : Int} {x3 : Int} {t : Nat} {o4 : Option kV} {σ : kS} (h : fb_Pa_read_43  x2 x3 t σ = some (some yf, σf)) : Rn l G dm_Pa_read m_Pa_read (kI fun y' σ' => y' = yf ∧ σ' = σf) 43 [some (.inr (8, t)), some (.inr (16, 2)), some (.inl x2), some (.inl x3), o4] [.inr (8, t)] σ := by
  unfold fb_Pa_read_43 at h
  refine s_Pa_read_43  ?_
  exact e_Pa_read_44  h
def fb_Pa_read_39  (x2 : Int) (x3 : Int) (t : Nat) (σ : kS) : kRes := fb_Pa_read_44  x2 x3 1 t σ
theorem e_Pa_read_39 {l : Launch} {G : kG} {yf : Int} {σf : kS}  {x2 : Int} {x3 : Int} {t : Nat} {o4 : Option kV} {σ : kS} (h : fb_Pa_read_39  x2 x3 t σ = some (some yf, σf)) : Rn l G dm_Pa_read m_Pa_read (kI fun y' σ' => y' = yf ∧ σ' = σf) 39 [some (.inr (8, t)), some (.inr (16, 2)), some (.inl x2), some (.inl x3), o4] [.inr (8, t)] σ := by
  unfold fb_Pa_read_39 at h
  refine s_Pa_read_39  ?_
  exact e_Pa_read_44  h
def fb_Pa_read_25  (x2 : Int) (x3 : Int) (t : Nat) (σ : kS) : kRes := kg ((0 ≤ x2 ∧ x2 < (30 : Nat)) ∧ (-2147483648 ≤ (kup σ 8 t 1 0) 16 2 (Int.toNat x2) ∧ (kup σ 8 t 1 0) 16 2 (Int.toNat x2) < 2147483648)) (if ((kup σ 8 t 1 0) 16 2 (Int.toNat x2)) = 94 then fb_Pa_read_39  x2 x3 t (kup σ 8 t 1 0) else fb_Pa_read_43  x2 x3 t (kup σ 8 t 1 0))
theorem e_Pa_read_25 {l : Launch} {G : kG} {yf : Int} {σf : kS}  {x2 : Int} {x3 : Int} {t : Nat} {o4 : Option kV} {σ : kS} (h : fb_Pa_read_25  x2 x3 t σ = some (some yf, σf)) : Rn l G dm_Pa_read m_Pa_read (kI fun y' σ' => y' = yf ∧ σ' = σf) 25 [some (.inr (8, t)), some (.inr (16, 2)), some (.inl x2), some (.inl x3), o4] [] σ := by
  unfold fb_Pa_read_25 at h
  obtain ⟨⟨h1, h2⟩, h⟩ := kg_some h
  refine s_Pa_read_25 h1 h2 (fun c => ?_) (fun c => ?_)
  · rw [if_neg c] at h
    exact e_Pa_read_43  h
  · rw [if_pos c] at h
    exact e_Pa_read_39  h
def fb_Pa_read_17  (x2 : Int) (x3 : Int) (t : Nat) (σ : kS) : kRes := kbu (f2_Ar_fill2 0 t σ) fun σ1 => fb_Pa_read_25  x2 x3 t σ1
theorem e_Pa_read_17 {l : Launch} {G : kG} {yf : Int} {σf : kS}  {x2 : Int} {x3 : Int} {t : Nat} {o4 : Option kV} {σ : kS} (h : fb_Pa_read_17  x2 x3 t σ = some (some yf, σf)) : Rn l G dm_Pa_read m_Pa_read (kI fun y' σ' => y' = yf ∧ σ' = σf) 17 [some (.inr (8, t)), some (.inr (16, 2)), some (.inl x2), some (.inl x3), o4] [] σ := by
  unfold fb_Pa_read_17 at h
  obtain ⟨σ1, hc, h⟩ := kbu_some h
  refine s_Pa_read_17  (by decide) (E2_Ar_fill2 hc) (fun σ2 e2 => ?_)
  subst e2
  exact e_Pa_read_25  h
def fb_Pa_read_15  (x2 : Int) (x3 : Int) (t : Nat) (σ : kS) : kRes := some (some 0, σ)
theorem e_Pa_read_15 {l : Launch} {G : kG} {yf : Int} {σf : kS}  {x2 : Int} {x3 : Int} {t : Nat} {o4 : Option kV} {σ : kS} (h : fb_Pa_read_15  x2 x3 t σ = some (some yf, σf)) : Rn l G dm_Pa_read m_Pa_read (kI fun y' σ' => y' = yf ∧ σ' = σf) 15 [some (.inr (8, t)), some (.inr (16, 2)), some (.inl x2), some (.inl x3), o4] [] σ := by
  unfold fb_Pa_read_15 at h
  simp only [Option.some.injEq, Prod.mk.injEq, true_and] at h
  exact s_Pa_read_15  ⟨_, rfl, h⟩
def fb_Pa_read_9  (x2 : Int) (x3 : Int) (t : Nat) (σ : kS) : kRes := kg ((-2147483648 ≤ x3 ∧ x3 < 2147483648)) (if x3 ≤ 30 then fb_Pa_read_17  x2 x3 t σ else fb_Pa_read_15  x2 x3 t σ)
theorem e_Pa_read_9 {l : Launch} {G : kG} {yf : Int} {σf : kS}  {x2 : Int} {x3 : Int} {t : Nat} {o4 : Option kV} {σ : kS} (h : fb_Pa_read_9  x2 x3 t σ = some (some yf, σf)) : Rn l G dm_Pa_read m_Pa_read (kI fun y' σ' => y' = yf ∧ σ' = σf) 9 [some (.inr (8, t)), some (.inr (16, 2)), some (.inl x2), some (.inl x3), o4] [] σ := by
  unfold fb_Pa_read_9 at h
  obtain ⟨h1, h⟩ := kg_some h
  refine s_Pa_read_9 h1 (fun c => ?_) (fun c => ?_)
  · rw [if_pos c] at h
    exact e_Pa_read_17  h
  · rw [if_neg c] at h
    exact e_Pa_read_15  h
def fb_Pa_read_4  (x2 : Int) (x3 : Int) (t : Nat) (σ : kS) : kRes := kg ((-2147483648 ≤ x2 ∧ x2 < 2147483648) ∧ (-2147483648 ≤ x3 ∧ x3 < 2147483648)) (if x3 ≤ x2 then fb_Pa_read_15  x2 x3 t σ else fb_Pa_read_9  x2 x3 t σ)
theorem e_Pa_read_4 {l : Launch} {G : kG} {yf : Int} {σf : kS}  {x2 : Int} {x3 : Int} {t : Nat} {o4 : Option kV} {σ : kS} (h : fb_Pa_read_4  x2 x3 t σ = some (some yf, σf)) : Rn l G dm_Pa_read m_Pa_read (kI fun y' σ' => y' = yf ∧ σ' = σf) 4 [some (.inr (8, t)), some (.inr (16, 2)), some (.inl x2), some (.inl x3), o4] [] σ := by
  unfold fb_Pa_read_4 at h
  obtain ⟨⟨h1, h2⟩, h⟩ := kg_some h
  refine s_Pa_read_4 h1 h2 (fun c => ?_) (fun c => ?_)
  · rw [if_pos c] at h
    exact e_Pa_read_15  h
  · rw [if_neg c] at h
    exact e_Pa_read_9  h
def fb_Pa_read_0  (x2 : Int) (x3 : Int) (t : Nat) (σ : kS) : kRes := kg ((-2147483648 ≤ x2 ∧ x2 < 2147483648)) (if x2 < 0 then fb_Pa_read_15  x2 x3 t σ else fb_Pa_read_4  x2 x3 t σ)
theorem e_Pa_read_0 {l : Launch} {G : kG} {yf : Int} {σf : kS}  {x2 : Int} {x3 : Int} {t : Nat} {o4 : Option kV} {σ : kS} (h : fb_Pa_read_0  x2 x3 t σ = some (some yf, σf)) : Rn l G dm_Pa_read m_Pa_read (kI fun y' σ' => y' = yf ∧ σ' = σf) 0 [some (.inr (8, t)), some (.inr (16, 2)), some (.inl x2), some (.inl x3), o4] [] σ := by
  unfold fb_Pa_read_0 at h
  obtain ⟨h1, h⟩ := kg_some h
  refine s_Pa_read_0 h1 (fun c => ?_) (fun c => ?_)
  · rw [if_pos c] at h
    exact e_Pa_read_15  h
  · rw [if_neg c] at h
    exact e_Pa_read_4  h
def f_Pa_read (x2 : Int) (x3 : Int) (t : Nat) (σ : kS) : kRes := fb_Pa_read_0 x2 x3 t σ
theorem E_Pa_read {l : Launch} {G : kG} {yf : Int} {σf : kS} {x2 : Int} {x3 : Int} {t : Nat} {σ : kS} (h : f_Pa_read x2 x3 t σ = some (some yf, σf)) : Call l G dm_Pa_read y_Pa_read m_Pa_read [.inr (8, t), .inr (16, 2), .inl x2, .inl x3] σ (kI fun y' σ' => y' = yf ∧ σ' = σf) := by
  unfold f_Pa_read at h
  exact Call.of (by decide +kernel) rfl (Nat.le_of_ble_eq_true rfl) (e_Pa_read_0 h)
/-! Cl_readPattern -/
def fb_Cl_readPattern_78  (x2 : Int) (x3 : Int) (s0 : Int) (u : Nat) (σ : kS) : kRes := kg ((s0 = 0 ∨ s0 = 1)) (some (some s0, σ))
theorem e_Cl_readPattern_78 {l : Launch} {G : kG} {yf : Int} {σf : kS}  {x2 : Int} {x3 : Int} {s0 : Int} {u : Nat}  {σ : kS} (h : fb_Cl_readPattern_78  x2 x3 s0 u σ = some (some yf, σf)) : Rn l G dm_Cl_readPattern m_Cl_readPattern (kI fun y' σ' => y' = yf ∧ σ' = σf) 78 [some (.inr (7, 0)), some (.inr (8, u)), some (.inl x2), some (.inl x3)] [.inl s0] σ := by
  unfold fb_Cl_readPattern_78 at h
  obtain ⟨h1, h⟩ := kg_some h
  simp only [Option.some.injEq, Prod.mk.injEq, true_and] at h
  exact s_Cl_readPattern_78 h1 ⟨_, rfl, h⟩
def fb_Cl_readPattern_77  (x2 : Int) (x3 : Int) (u : Nat) (σ : kS) : kRes := fb_Cl_readPattern_78  x2 x3 0 u σ
theorem e_Cl_readPattern_77 {l : Launch} {G : kG} {yf : Int} {σf : kS}  {x2 : Int} {x3 : Int} {u : Nat}  {σ : kS} (h : fb_Cl_readPattern_77  x2 x3 u σ = some (some yf, σf)) : Rn l G dm_Cl_readPattern m_Cl_readPattern (kI fun y' σ' => y' = yf ∧ σ' = σf) 77 [some (.inr (7, 0)), some (.inr (8, u)), some (.inl x2), some (.inl x3)] [] σ := by
  unfold fb_Cl_readPattern_77 at h
  refine s_Cl_readPattern_77  ?_
  exact e_Cl_readPattern_78  h
def fb_Cl_readPattern_73  (x2 : Int) (x3 : Int) (u : Nat) (σ : kS) : kRes := fb_Cl_readPattern_78  x2 x3 1 u σ
theorem e_Cl_readPattern_73 {l : Launch} {G : kG} {yf : Int} {σf : kS}  {x2 : Int} {x3 : Int} {u : Nat}  {σ : kS} (h : fb_Cl_readPattern_73  x2 x3 u σ = some (some yf, σf)) : Rn l G dm_Cl_readPattern m_Cl_readPattern (kI fun y' σ' => y' = yf ∧ σ' = σf) 73 [some (.inr (7, 0)), some (.inr (8, u)), some (.inl x2), some (.inl x3)] [] σ := by
  unfold fb_Cl_readPattern_73 at h
  refine s_Cl_readPattern_73  ?_
  exact e_Cl_readPattern_78  h
def fb_Cl_readPattern_70  (x2 : Int) (x3 : Int) (s0 : Int) (u : Nat) (σ : kS) : kRes := kg ((-2147483648 ≤ s0 ∧ s0 < 2147483648)) (if s0 = 0 then fb_Cl_readPattern_77  x2 x3 u σ else fb_Cl_readPattern_73  x2 x3 u σ)
theorem e_Cl_readPattern_70 {l : Launch} {G : kG} {yf : Int} {σf : kS}  {x2 : Int} {x3 : Int} {s0 : Int} {u : Nat}  {σ : kS} (h : fb_Cl_readPattern_70  x2 x3 s0 u σ = some (some yf, σf)) : Rn l G dm_Cl_readPattern m_Cl_readPattern (kI fun y' σ' => y' = yf ∧ σ' = σf) 70 [some (.inr (7, 0)), some (.inr (8, u)), some (.inl x2), some (.inl x3)] [.inl s0] σ := by
  unfold fb_Cl_readPattern_70 at h
  obtain ⟨h1, h⟩ := kg_some h
  refine s_Cl_readPattern_70 h1 (fun c => ?_) (fun c => ?_)
  · rw [if_pos c] at h
    exact e_Cl_readPattern_77  h
  · rw [if_neg c] at h
    exact e_Cl_readPattern_73  h
def fb_Cl_readPattern_60  (x2 : Int) (x3 : Int) (u : Nat) (σ : kS) : kRes := kg (σ 7 0 7 = 1) (kbi (f_Pa_read x2 x3 u σ) fun y σ1 => fb_Cl_readPattern_70  x2 x3 y u σ1)
theorem e_Cl_readPattern_60 {l : Launch} {G : kG} {yf : Int} {σf : kS}  {x2 : Int} {x3 : Int} {u : Nat}  {σ : kS} (h : fb_Cl_readPattern_60  x2 x3 u σ = some (some yf, σf)) : Rn l G dm_Cl_readPattern m_Cl_readPattern (kI fun y' σ' => y' = yf ∧ σ' = σf) 60 [some (.inr (7, 0)), some (.inr (8, u)), some (.inl x2), some (.inl x3)] [] σ := by
  unfold fb_Cl_readPattern_60 at h
  obtain ⟨h1, h⟩ := kg_some h
  obtain ⟨y, σ1, hc, h⟩ := kbi_some h
  refine s_Cl_readPattern_60 h1 (by decide) (E_Pa_read hc) (fun y2 σ2 e2 => ?_)
  obtain ⟨rfl, rfl⟩ := e2
  exact e_Cl_readPattern_70  h
def fb_Cl_readPattern_45  (x2 : Int) (x3 : Int) (u : Nat) (σ : kS) : kRes := kg ((-2147483648 ≤ x3 ∧ x3 < 2147483648) ∧ (-2147483648 ≤ (kup σ 7 0 9 (x3 + 1)) 7 0 8 ∧ (kup σ 7 0 9 (x3 + 1)) 7 0 8 < 2147483648)) (if ((kup σ 7 0 9 (x3 + 1)) 7 0 8) ≤ x3 then fb_Cl_readPattern_77  x2 x3 u (kup σ 7 0 9 (x3 + 1)) else fb_Cl_readPattern_60  x2 x3 u (kup σ 7 0 9 (x3 + 1)))
theorem e_Cl_readPattern_45 {l : Launch} {G : kG} {yf : Int} {σf : kS}  {x2 : Int} {x3 : Int} {u : Nat}  {σ : kS} (h : fb_Cl_readPattern_45  x2 x3 u σ = some (some yf, σf)) : Rn l G dm_Cl_readPattern m_Cl_readPattern (kI fun y' σ' => y' = yf ∧ σ' = σf) 45 [some (.inr (7, 0)), some (.inr (8, u)), some (.inl x2), some (.inl x3)] [] σ := by
  unfold fb_Cl_readPattern_45 at h
  obtain ⟨⟨h1, h2⟩, h⟩ := kg_some h
  refine s_Cl_readPattern_45 h1 h2 (fun c => ?_) (fun c => ?_)
  · rw [if_pos c] at h
    exact e_Cl_readPattern_77  h
  · rw [if_neg c] at h
    exact e_Cl_readPattern_60  h
def fb_Cl_readPattern_39 (k20 : Int → Int → Nat → kS → kRes) (x2 : Int) (x3 : Int) (u : Nat) (σ : kS) : kRes := k20 x2 (x3 + 1) u σ
theorem e_Cl_readPattern_39 {l : Launch} {G : kG} {yf : Int} {σf : kS} {k20 : Int → Int → Nat → kS → kRes} (hk20 : ∀ (x2 : Int) (x3 : Int) (u : Nat)  (σ : kS), k20 x2 x3 u σ = some (some yf, σf) → Rn l G dm_Cl_readPattern m_Cl_readPattern (kI fun y' σ' => y' = yf ∧ σ' = σf) 20 [some (.inr (7, 0)), some (.inr (8, u)), some (.inl x2), some (.inl x3)] [] σ) {x2 : Int} {x3 : Int} {u : Nat}  {σ : kS} (h : fb_Cl_readPattern_39 k20 x2 x3 u σ = some (some yf, σf)) : Rn l G dm_Cl_readPattern m_Cl_readPattern (kI fun y' σ' => y' = yf ∧ σ' = σf) 39 [some (.inr (7, 0)), some (.inr (8, u)), some (.inl x2), some (.inl x3)] [] σ := by
  unfold fb_Cl_readPattern_39 at h
  refine s_Cl_readPattern_39  ?_
  exact hk20 _ _ _ _ h
def fb_Cl_readPattern_28 (k20 : Int → Int → Nat → kS → kRes) (x2 : Int) (x3 : Int) (u : Nat) (σ : kS) : kRes := kg (σ 7 0 7 = 1 ∧ (0 ≤ x3 ∧ x3 < (30 : Nat)) ∧ (-2147483648 ≤ σ 16 2 (Int.toNat x3) ∧ σ 16 2 (Int.toNat x3) < 2147483648)) (if (σ 16 2 (Int.toNat x3)) = 47 then fb_Cl_readPattern_45  x2 x3 u σ else fb_Cl_readPattern_39 k20 x2 x3 u σ)
theorem e_Cl_readPattern_28 {l : Launch} {G : kG} {yf : Int} {σf : kS} {k20 : Int → Int → Nat → kS → kRes} (hk20 : ∀ (x2 : Int) (x3 : Int) (u : Nat)  (σ : kS), k20 x2 x3 u σ = some (some yf, σf) → Rn l G dm_Cl_readPattern m_Cl_readPattern (kI fun y' σ' => y' = yf ∧ σ' = σf) 20 [some (.inr (7, 0)), some (.inr (8, u)), some (.inl x2), some (.inl x3)] [] σ) {x2 : Int} {x3 : Int} {u : Nat}  {σ : kS} (h : fb_Cl_readPattern_28 k20 x2 x3 u σ = some (some yf, σf)) : Rn l G dm_Cl_readPattern m_Cl_readPattern (kI fun y' σ' => y' = yf ∧ σ' = σf) 28 [some (.inr (7, 0)), some (.inr (8, u)), some (.inl x2), some (.inl x3)] [] σ := by
  unfold fb_Cl_readPattern_28 at h
  obtain ⟨⟨h1, h2, h3⟩, h⟩ := kg_some h
  refine s_Cl_readPattern_28 h1 h2 h3 (fun c => ?_) (fun c => ?_)
  · rw [if_pos c] at h
    exact e_Cl_readPattern_45  h
  · rw [if_neg c] at h
    exact e_Cl_readPattern_39 hk20 h
def fb_Cl_readPattern_20 (k20 : Int → Int → Nat → kS → kRes) (x2 : Int) (x3 : Int) (u : Nat) (σ : kS) : kRes := kg ((-2147483648 ≤ x3 ∧ x3 < 2147483648) ∧ (-2147483648 ≤ σ 7 0 8 ∧ σ 7 0 8 < 2147483648)) (if (σ 7 0 8) ≤ x3 then fb_Cl_readPattern_45  x2 x3 u σ else fb_Cl_readPattern_28 k20 x2 x3 u σ)
theorem e_Cl_readPattern_20 {l : Launch} {G : kG} {yf : Int} {σf : kS} {k20 : Int → Int → Nat → kS → kRes} (hk20 : ∀ (x2 : Int) (x3 : Int) (u : Nat)  (σ : kS), k20 x2 x3 u σ = some (some yf, σf) → Rn l G dm_Cl_readPattern m_Cl_readPattern (kI fun y' σ' => y' = yf ∧ σ' = σf) 20 [some (.inr (7, 0)), some (.inr (8, u)), some (.inl x2), some (.inl x3)] [] σ) {x2 : Int} {x3 : Int} {u : Nat}  {σ : kS} (h : fb_Cl_readPattern_20 k20 x2 x3 u σ = some (some yf, σf)) : Rn l G dm_Cl_readPattern m_Cl_readPattern (kI fun y' σ' => y' = yf ∧ σ' = σf) 20 [some (.inr (7, 0)), some (.inr (8, u)), some (.inl x2), some (.inl x3)] [] σ := by
  unfold fb_Cl_readPattern_20 at h
  obtain ⟨⟨h1, h2⟩, h⟩ := kg_some h
  refine s_Cl_readPattern_20 h1 h2 (fun c => ?_) (fun c => ?_)
  · rw [if_pos c] at h
    exact e_Cl_readPattern_45  h
  · rw [if_neg c] at h
    exact e_Cl_readPattern_28 hk20 h
def fl_Cl_readPattern_20  : Nat → Int → Int → Nat → kS → kRes
  | 0, _, _, _, _ => none
  | n + 1, x2, x3, u, σ => fb_Cl_readPattern_20 (fl_Cl_readPattern_20  n) x2 x3 u σ
theorem el_Cl_readPattern_20 {l : Launch} {G : kG} {yf : Int} {σf : kS}  : ∀ (n : Nat) (x2 : Int) (x3 : Int) (u : Nat)  (σ : kS), fl_Cl_readPattern_20  n x2 x3 u σ = some (some yf, σf) → Rn l G dm_Cl_readPattern m_Cl_readPattern (kI fun y' σ' => y' = yf ∧ σ' = σf) 20 [some (.inr (7, 0)), some (.inr (8, u)), some (.inl x2), some (.inl x3)] [] σ := by
  intro n
  induction n with
  | zero => intro x2 x3 u σ h; simp only [fl_Cl_readPattern_20] at h; cases h
  | succ n ih => intro x2 x3 u σ h; simp only [fl_Cl_readPattern_20] at h; exact e_Cl_readPattern_20 ih h
def fb_Cl_readPattern_11  (u : Nat) (σ : kS) : kRes := fl_Cl_readPattern_20  3000 ((σ 7 0 9) + 1) ((σ 7 0 9) + 1) u σ
theorem e_Cl_readPattern_11 {l : Launch} {G : kG} {yf : Int} {σf : kS}  {u : Nat} {o2 : Option kV} {o3 : Option kV} {σ : kS} (h : fb_Cl_readPattern_11  u σ = some (some yf, σf)) : Rn l G dm_Cl_readPattern m_Cl_readPattern (kI fun y' σ' => y' = yf ∧ σ' = σf) 11 [some (.inr (7, 0)), some (.inr (8, u)), o2, o3] [] σ := by
  unfold fb_Cl_readPattern_11 at h
  refine s_Cl_readPattern_11  ?_
  exact el_Cl_readPattern_20  _ _ _ _ _ h
def fb_Cl_readPattern_9  (u : Nat) (σ : kS) : kRes := some (some 0, σ)
theorem e_Cl_readPattern_9 {l : Launch} {G : kG} {yf : Int} {σf : kS}  {u : Nat} {o2 : Option kV} {o3 : Option kV} {σ : kS} (h : fb_Cl_readPattern_9  u σ = some (some yf, σf)) : Rn l G dm_Cl_readPattern m_Cl_readPattern (kI fun y' σ' => y' = yf ∧ σ' = σf) 9 [some (.inr (7, 0)), some (.inr (8, u)), o2, o3] [] σ := by
  unfold fb_Cl_readPattern_9 at h
  simp only [Option.some.injEq, Prod.mk.injEq, true_and] at h
  exact s_Cl_readPattern_9  ⟨_, rfl, h⟩
def fb_Cl_readPattern_4  (s0 : Int) (u : Nat) (σ : kS) : kRes := kg ((-2147483648 ≤ s0 ∧ s0 < 2147483648)) (if s0 = 47 then fb_Cl_readPattern_11  u σ else fb_Cl_readPattern_9  u σ)
theorem e_Cl_readPattern_4 {l : Launch} {G : kG} {yf : Int} {σf : kS}  {s0 : Int} {u : Nat} {o2 : Option kV} {o3 : Option kV} {σ : kS} (h : fb_Cl_readPattern_4  s0 u σ = some (some yf, σf)) : Rn l G dm_Cl_readPattern m_Cl_readPattern (kI fun y' σ' => y' = yf ∧ σ' = σf) 4 [some (.inr (7, 0)), some (.inr (8, u)), o2, o3] [.inl s0] σ := by
  unfold fb_Cl_readPattern_4 at h
  obtain ⟨h1, h⟩ := kg_some h
  refine s_Cl_readPattern_4 h1 (fun c => ?_) (fun c => ?_)
  · rw [if_pos c] at h
    exact e_Cl_readPattern_11  h
  · rw [if_neg c] at h
    exact e_Cl_readPattern_9  h
def fb_Cl_readPattern_0  (u : Nat) (σ : kS) : kRes := kbi (f_Cl_here  σ) fun y σ1 => fb_Cl_readPattern_4  y u σ1
theorem e_Cl_readPattern_0 {l : Launch} {G : kG} {yf : Int} {σf : kS}  {u : Nat} {o2 : Option kV} {o3 : Option kV} {σ : kS} (h : fb_Cl_readPattern_0  u σ = some (some yf, σf)) : Rn l G dm_Cl_readPattern m_Cl_readPattern (kI fun y' σ' => y' = yf ∧ σ' = σf) 0 [some (.inr (7, 0)), some (.inr (8, u)), o2, o3] [] σ := by
  unfold fb_Cl_readPattern_0 at h
  obtain ⟨y, σ1, hc, h⟩ := kbi_some h
  refine s_Cl_readPattern_0  (by decide) (E_Cl_here hc) (fun y2 σ2 e2 => ?_)
  obtain ⟨rfl, rfl⟩ := e2
  exact e_Cl_readPattern_4  h
def f_Cl_readPattern (u : Nat) (σ : kS) : kRes := fb_Cl_readPattern_0 u σ
theorem E_Cl_readPattern {l : Launch} {G : kG} {yf : Int} {σf : kS} {u : Nat} {σ : kS} (h : f_Cl_readPattern u σ = some (some yf, σf)) : Call l G dm_Cl_readPattern y_Cl_readPattern m_Cl_readPattern [.inr (7, 0), .inr (8, u)] σ (kI fun y' σ' => y' = yf ∧ σ' = σf) := by
  unfold f_Cl_readPattern at h
  exact Call.of (by decide +kernel) rfl (Nat.le_of_ble_eq_true rfl) (e_Cl_readPattern_0 h)
/-! Cl_readExchange -/
def fb_Cl_readExchange_143   (σ : kS) : kRes := some (some 1, σ)
theorem e_Cl_readExchange_143 {l : Launch} {G : kG} {yf : Int} {σf : kS}    {σ : kS} (h : fb_Cl_readExchange_143   σ = some (some yf, σf)) : Rn l G dm_Cl_readExchange m_Cl_readExchange (kI fun y' σ' => y' = yf ∧ σ' = σf) 143 [some (.inr (7, 0))] [] σ := by
  unfold fb_Cl_readExchange_143 at h
  simp only [Option.some.injEq, Prod.mk.injEq, true_and] at h
  exact s_Cl_readExchange_143  ⟨_, rfl, h⟩
def fb_Cl_readExchange_133   (σ : kS) : kRes := fb_Cl_readExchange_143  (kup σ 7 0 9 ((σ 7 0 9) + 1))
theorem e_Cl_readExchange_133 {l : Launch} {G : kG} {yf : Int} {σf : kS}    {σ : kS} (h : fb_Cl_readExchange_133   σ = some (some yf, σf)) : Rn l G dm_Cl_readExchange m_Cl_readExchange (kI fun y' σ' => y' = yf ∧ σ' = σf) 133 [some (.inr (7, 0))] [] σ := by
  unfold fb_Cl_readExchange_133 at h
  refine s_Cl_readExchange_133  ?_
  exact e_Cl_readExchange_143  h
def fb_Cl_readExchange_123  (s0 : Int) (σ : kS) : kRes := kg ((s0 = 0 ∨ s0 = 1) ∧ (-2147483648 ≤ (kup σ 7 0 15 s0) 7 0 15 ∧ (kup σ 7 0 15 s0) 7 0 15 < 2147483648)) (if ((kup σ 7 0 15 s0) 7 0 15) = 0 then fb_Cl_readExchange_143  (kup σ 7 0 15 s0) else fb_Cl_readExchange_133  (kup σ 7 0 15 s0))
theorem e_Cl_readExchange_123 {l : Launch} {G : kG} {yf : Int} {σf : kS}  {s0 : Int}  {σ : kS} (h : fb_Cl_readExchange_123  s0 σ = some (some yf, σf)) : Rn l G dm_Cl_readExchange m_Cl_readExchange (kI fun y' σ' => y' = yf ∧ σ' = σf) 123 [some (.inr (7, 0))] [.inl s0, .inr (7, 0)] σ := by
  unfold fb_Cl_readExchange_123 at h
  obtain ⟨⟨h1, h2⟩, h⟩ := kg_some h
  refine s_Cl_readExchange_123 h1 h2 (fun c => ?_) (fun c => ?_)
  · rw [if_pos c] at h
    exact e_Cl_readExchange_143  h
  · rw [if_neg c] at h
    exact e_Cl_readExchange_133  h
def fb_Cl_readExchange_122   (σ : kS) : kRes := fb_Cl_readExchange_123  0 σ
theorem e_Cl_readExchange_122 {l : Launch} {G : kG} {yf : Int} {σf : kS}    {σ : kS} (h : fb_Cl_readExchange_122   σ = some (some yf, σf)) : Rn l G dm_Cl_readExchange m_Cl_readExchange (kI fun y' σ' => y' = yf ∧ σ' = σf) 122 [some (.inr (7, 0))] [.inr (7, 0)] σ := by
  unfold fb_Cl_readExchange_122 at h
  refine s_Cl_readExchange_122  ?_
  exact e_Cl_readExchange_123  h
def fb_Cl_readExchange_118   (σ : kS) : kRes := fb_Cl_readExchange_123  1 σ
theorem e_Cl_readExchange_118 {l : Launch} {G : kG} {yf : Int} {σf : kS}    {σ : kS} (h : fb_Cl_readExchange_118   σ = some (some yf, σf)) : Rn l G dm_Cl_readExchange m_Cl_readExchange (kI fun y' σ' => y' = yf ∧ σ' = σf) 118 [some (.inr (7, 0))] [.inr (7, 0)] σ := by
  unfold fb_Cl_readExchange_118 at h
  refine s_Cl_readExchange_118  ?_
  exact e_Cl_readExchange_123  h
def fb_Cl_readExchange_113  (s0 : Int) (σ : kS) : kRes := kg ((-2147483648 ≤ s0 ∧ s0 < 2147483648)) (if s0 = 103 then fb_Cl_readExchange_118  σ else fb_Cl_readExchange_122  σ)
theorem e_Cl_readExchange_113 {l : Launch} {G : kG} {yf : Int} {σf : kS}  {s0 : Int}  {σ : kS} (h : fb_Cl_readExchange_113  s0 σ = some (some yf, σf)) : Rn l G dm_Cl_readExchange m_Cl_readExchange (kI fun y' σ' => y' = yf ∧ σ' = σf) 113 [some (.inr (7, 0))] [.inl s0, .inr (7, 0)] σ := by
  unfold fb_Cl_readExchange_113 at h
  obtain ⟨h1, h⟩ := kg_some h
  refine s_Cl_readExchange_113 h1 (fun c => ?_) (fun c => ?_)
  · rw [if_neg c] at h
    exact e_Cl_readExchange_122  h
  · rw [if_pos c] at h
    exact e_Cl_readExchange_118  h
def fb_Cl_readExchange_90   (σ : kS) : kRes := kbi (f_Cl_here  (kup (kup σ 7 0 17 (σ 7 0 9)) 7 0 9 (((kup σ 7 0 17 (σ 7 0 9)) 7 0 9) + 1))) fun y σ1 => fb_Cl_readExchange_113  y σ1
theorem e_Cl_readExchange_90 {l : Launch} {G : kG} {yf : Int} {σf : kS}    {σ : kS} (h : fb_Cl_readExchange_90   σ = some (some yf, σf)) : Rn l G dm_Cl_readExchange m_Cl_readExchange (kI fun y' σ' => y' = yf ∧ σ' = σf) 90 [some (.inr (7, 0))] [] σ := by
  unfold fb_Cl_readExchange_90 at h
  obtain ⟨y, σ1, hc, h⟩ := kbi_some h
  refine s_Cl_readExchange_90  (by decide) (E_Cl_here hc) (fun y2 σ2 e2 => ?_)
  obtain ⟨rfl, rfl⟩ := e2
  exact e_Cl_readExchange_113  h
def fb_Cl_readExchange_88   (σ : kS) : kRes := some (some 0, σ)
theorem e_Cl_readExchange_88 {l : Launch} {G : kG} {yf : Int} {σf : kS}    {σ : kS} (h : fb_Cl_readExchange_88   σ = some (some yf, σf)) : Rn l G dm_Cl_readExchange m_Cl_readExchange (kI fun y' σ' => y' = yf ∧ σ' = σf) 88 [some (.inr (7, 0))] [] σ := by
  unfold fb_Cl_readExchange_88 at h
  simp only [Option.some.injEq, Prod.mk.injEq, true_and] at h
  exact s_Cl_readExchange_88  ⟨_, rfl, h⟩
def fb_Cl_readExchange_77   (σ : kS) : kRes := kg ((-2147483648 ≤ σ 7 0 9 ∧ σ 7 0 9 < 2147483648) ∧ (-2147483648 ≤ σ 7 0 8 ∧ σ 7 0 8 < 2147483648)) (if (σ 7 0 9) < (σ 7 0 8) then fb_Cl_readExchange_90  σ else fb_Cl_readExchange_88  σ)
theorem e_Cl_readExchange_77 {l : Launch} {G : kG} {yf : Int} {σf : kS}    {σ : kS} (h : fb_Cl_readExchange_77   σ = some (some yf, σf)) : Rn l G dm_Cl_readExchange m_Cl_readExchange (kI fun y' σ' => y' = yf ∧ σ' = σf) 77 [some (.inr (7, 0))] [] σ := by
  unfold fb_Cl_readExchange_77 at h
  obtain ⟨⟨h1, h2⟩, h⟩ := kg_some h
  refine s_Cl_readExchange_77 h1 h2 (fun c => ?_) (fun c => ?_)
  · rw [if_pos c] at h
    exact e_Cl_readExchange_90  h
  · rw [if_neg c] at h
    exact e_Cl_readExchange_88  h
def fb_Cl_readExchange_70 (k21 : kS → kRes) (s0 : Int) (s1 : Int) (σ : kS) : kRes := k21 (kup σ 7 0 9 (s1 + s0))
theorem e_Cl_readExchange_70 {l : Launch} {G : kG} {yf : Int} {σf : kS} {k21 : kS → kRes} (hk21 : ∀   (σ : kS), k21  σ = some (some yf, σf) → Rn l G dm_Cl_readExchange m_Cl_readExchange (kI fun y' σ' => y' = yf ∧ σ' = σf) 21 [some (.inr (7, 0))] [] σ) {s0 : Int} {s1 : Int}  {σ : kS} (h : fb_Cl_readExchange_70 k21 s0 s1 σ = some (some yf, σf)) : Rn l G dm_Cl_readExchange m_Cl_readExchange (kI fun y' σ' => y' = yf ∧ σ' = σf) 70 [some (.inr (7, 0))] [.inl s0, .inl s1, .inr (7, 0)] σ := by
  unfold fb_Cl_readExchange_70 at h
  refine s_Cl_readExchange_70  ?_
  exact hk21 _ h
def fb_Cl_readExchange_69 (k21 : kS → kRes) (s0 : Int) (σ : kS) : kRes := fb_Cl_readExchange_70 k21 1 s0 σ
theorem e_Cl_readExchange_69 {l : Launch} {G : kG} {yf : Int} {σf : kS} {k21 : kS → kRes} (hk21 : ∀   (σ : kS), k21  σ = some (some yf, σf) → Rn l G dm_Cl_readExchange m_Cl_readExchange (kI fun y' σ' => y' = yf ∧ σ' = σf) 21 [some (.inr (7, 0))] [] σ) {s0 : Int}  {σ : kS} (h : fb_Cl_readExchange_69 k21 s0 σ = some (some yf, σf)) : Rn l G dm_Cl_readExchange m_Cl_readExchange (kI fun y' σ' => y' = yf ∧ σ' = σf) 69 [some (.inr (7, 0))] [.inl s0, .inr (7, 0)] σ := by
  unfold fb_Cl_readExchange_69 at h
  refine s_Cl_readExchange_69  ?_
  exact e_Cl_readExchange_70 hk21 h
def fb_Cl_readExchange_65 (k21 : kS → kRes) (s0 : Int) (σ : kS) : kRes := fb_Cl_readExchange_70 k21 2 s0 σ
theorem e_Cl_readExchange_65 {l : Launch} {G : kG} {yf : Int} {σf : kS} {k21 : kS → kRes} (hk21 : ∀   (σ : kS), k21  σ = some (some yf, σf) → Rn l G dm_Cl_readExchange m_Cl_readExchange (kI fun y' σ' => y' = yf ∧ σ' = σf) 21 [some (.inr (7, 0))] [] σ) {s0 : Int}  {σ : kS} (h : fb_Cl_readExchange_65 k21 s0 σ = some (some yf, σf)) : Rn l G dm_Cl_readExchange m_Cl_readExchange (kI fun y' σ' => y' = yf ∧ σ' = σf) 65 [some (.inr (7, 0))] [.inl s0, .inr (7, 0)] σ := by
  unfold fb_Cl_readExchange_65 at h
  refine s_Cl_readExchange_65  ?_
  exact e_Cl_readExchange_70 hk21 h
def fb_Cl_readExchange_46 (k21 : kS → kRes)  (σ : kS) : kRes := kg (σ 7 0 7 = 1 ∧ (0 ≤ σ 7 0 9 ∧ σ 7 0 9 < (30 : Nat)) ∧ (-2147483648 ≤ σ 16 2 (Int.toNat (σ 7 0 9)) ∧ σ 16 2 (Int.toNat (σ 7 0 9)) < 2147483648)) (if (σ 16 2 (Int.toNat (σ 7 0 9))) = 92 then fb_Cl_readExchange_65 k21 (σ 7 0 9) σ else fb_Cl_readExchange_69 k21 (σ 7 0 9) σ)
theorem e_Cl_readExchange_46 {l : Launch} {G : kG} {yf : Int} {σf : kS} {k21 : kS → kRes} (hk21 : ∀   (σ : kS), k21  σ = some (some yf, σf) → Rn l G dm_Cl_readExchange m_Cl_readExchange (kI fun y' σ' => y' = yf ∧ σ' = σf) 21 [some (.inr (7, 0))] [] σ)   {σ : kS} (h : fb_Cl_readExchange_46 k21  σ = some (some yf, σf)) : Rn l G dm_Cl_readExchange m_Cl_readExchange (kI fun y' σ' => y' = yf ∧ σ' = σf) 46 [some (.inr (7, 0))] [] σ := by
  unfold fb_Cl_readExchange_46 at h
  obtain ⟨⟨h1, h2, h3⟩, h⟩ := kg_some h
  refine s_Cl_readExchange_46 h1 h2 h3 (fun c => ?_) (fun c => ?_)
  · rw [if_neg c] at h
    exact e_Cl_readExchange_69 hk21 h
  · rw [if_pos c] at h
    exact e_Cl_readExchange_65 hk21 h
def fb_Cl_readExchange_32 (k21 : kS → kRes)  (σ : kS) : kRes := kg (σ 7 0 7 = 1 ∧ (0 ≤ σ 7 0 9 ∧ σ 7 0 9 < (30 : Nat)) ∧ (-2147483648 ≤ σ 16 2 (Int.toNat (σ 7 0 9)) ∧ σ 16 2 (Int.toNat (σ 7 0 9)) < 2147483648)) (if (σ 16 2 (Int.toNat (σ 7 0 9))) = 47 then fb_Cl_readExchange_77  σ else fb_Cl_readExchange_46 k21 σ)
theorem e_Cl_readExchange_32 {l : Launch} {G : kG} {yf : Int} {σf : kS} {k21 : kS → kRes} (hk21 : ∀   (σ : kS), k21  σ = some (some yf, σf) → Rn l G dm_Cl_readExchange m_Cl_readExchange (kI fun y' σ' => y' = yf ∧ σ' = σf) 21 [some (.inr (7, 0))] [] σ)   {σ : kS} (h : fb_Cl_readExchange_32 k21  σ = some (some yf, σf)) : Rn l G dm_Cl_readExchange m_Cl_readExchange (kI fun y' σ' => y' = yf ∧ σ' = σf) 32 [some (.inr (7, 0))] [] σ := by
  unfold fb_Cl_readExchange_32 at h
  obtain ⟨⟨h1, h2, h3⟩, h⟩ := kg_some h
  refine s_Cl_readExchange_32 h1 h2 h3 (fun c => ?_) (fun c => ?_)
  · rw [if_pos c] at h
    exact e_Cl_readExchange_77  h
  · rw [if_neg c] at h
    exact e_Cl_readExchange_46 hk21 h
def fb_Cl_readExchange_21 (k21 : kS → kRes)  (σ : kS) : kRes := kg ((-2147483648 ≤ σ 7 0 9 ∧ σ 7 0 9 < 2147483648) ∧ (-2147483648 ≤ σ 7 0 8 ∧ σ 7 0 8 < 2147483648)) (if (σ 7 0 8) ≤ (σ 7 0 9) then fb_Cl_readExchange_77  σ else fb_Cl_readExchange_32 k21 σ)
theorem e_Cl_readExchange_21 {l : Launch} {G : kG} {yf : Int} {σf : kS} {k21 : kS → kRes} (hk21 : ∀   (σ : kS), k21  σ = some (some yf, σf) → Rn l G dm_Cl_readExchange m_Cl_readExchange (kI fun y' σ' => y' = yf ∧ σ' = σf) 21 [some (.inr (7, 0))] [] σ)   {σ : kS} (h : fb_Cl_readExchange_21 k21  σ = some (some yf, σf)) : Rn l G dm_Cl_readExchange m_Cl_readExchange (kI fun y' σ' => y' = yf ∧ σ' = σf) 21 [some (.inr (7, 0))] [] σ := by
  unfold fb_Cl_readExchange_21 at h
  obtain ⟨⟨h1, h2⟩, h⟩ := kg_some h
  refine s_Cl_readExchange_21 h1 h2 (fun c => ?_) (fun c => ?_)
  · rw [if_pos c] at h
    exact e_Cl_readExchange_77  h
  · rw [if_neg c] at h
    exact e_Cl_readExchange_32 hk21 h
def fl_Cl_readExchange_21  : Nat → kS → kRes
  | 0, _ => none
  | n + 1, σ => fb_Cl_readExchange_21 (fl_Cl_readExchange_21  n)  σ
theorem el_Cl_readExchange_21 {l : Launch} {G : kG} {yf : Int} {σf : kS}  : ∀ (n : Nat)   (σ : kS), fl_Cl_readExchange_21  n  σ = some (some yf, σf) → Rn l G dm_Cl_readExchange m_Cl_readExchange (kI fun y' σ' => y' = yf ∧ σ' = σf) 21 [some (.inr (7, 0))] [] σ := by
  intro n
  induction n with
  | zero => intro σ h; simp only [fl_Cl_readExchange_21] at h; cases h
  | succ n ih => intro σ h; simp only [fl_Cl_readExchange_21] at h; exact e_Cl_readExchange_21 ih h
def fb_Cl_readExchange_13   (σ : kS) : kRes := fl_Cl_readExchange_21  3000 (kup σ 7 0 16 (σ 7 0 9))
theorem e_Cl_readExchange_13 {l : Launch} {G : kG} {yf : Int} {σf : kS}    {σ : kS} (h : fb_Cl_readExchange_13   σ = some (some yf, σf)) : Rn l G dm_Cl_readExchange m_Cl_readExchange (kI fun y' σ' => y' = yf ∧ σ' = σf) 13 [some (.inr (7, 0))] [] σ := by
  unfold fb_Cl_readExchange_13 at h
  refine s_Cl_readExchange_13  ?_
  exact el_Cl_readExchange_21  _ _ h
def fb_Cl_readExchange_11   (σ : kS) : kRes := some (some 0, σ)
theorem e_Cl_readExchange_11 {l : Launch} {G : kG} {yf : Int} {σf : kS}    {σ : kS} (h : fb_Cl_readExchange_11   σ = some (some yf, σf)) : Rn l G dm_Cl_readExchange m_Cl_readExchange (kI fun y' σ' => y' = yf ∧ σ' = σf) 11 [some (.inr (7, 0))] [] σ := by
  unfold fb_Cl_readExchange_11 at h
  simp only [Option.some.injEq, Prod.mk.injEq, true_and] at h
  exact s_Cl_readExchange_11  ⟨_, rfl, h⟩
def fb_Cl_readExchange_8  (s0 : Int) (σ : kS) : kRes := kg ((-2147483648 ≤ s0 ∧ s0 < 2147483648)) (if s0 = 0 then fb_Cl_readExchange_11  σ else fb_Cl_readExchange_13  σ)
theorem e_Cl_readExchange_8 {l : Launch} {G : kG} {yf : Int} {σf : kS}  {s0 : Int}  {σ : kS} (h : fb_Cl_readExchange_8  s0 σ = some (some yf, σf)) : Rn l G dm_Cl_readExchange m_Cl_readExchange (kI fun y' σ' => y' = yf ∧ σ' = σf) 8 [some (.inr (7, 0))] [.inl s0] σ := by
  unfold fb_Cl_readExchange_8 at h
  obtain ⟨h1, h⟩ := kg_some h
  refine s_Cl_readExchange_8 h1 (fun c => ?_) (fun c => ?_)
  · rw [if_neg c] at h
    exact e_Cl_readExchange_13  h
  · rw [if_pos c] at h
    exact e_Cl_readExchange_11  h
def fb_Cl_readExchange_0   (σ : kS) : kRes := kbi (f_Cl_readPattern 0 σ) fun y σ1 => fb_Cl_readExchange_8  y σ1
theorem e_Cl_readExchange_0 {l : Launch} {G : kG} {yf : Int} {σf : kS}    {σ : kS} (h : fb_Cl_readExchange_0   σ = some (some yf, σf)) : Rn l G dm_Cl_readExchange m_Cl_readExchange (kI fun y' σ' => y' = yf ∧ σ' = σf) 0 [some (.inr (7, 0))] [] σ := by
  unfold fb_Cl_readExchange_0 at h
  obtain ⟨y, σ1, hc, h⟩ := kbi_some h
  refine s_Cl_readExchange_0  (by decide) (E_Cl_readPattern hc) (fun y2 σ2 e2 => ?_)
  obtain ⟨rfl, rfl⟩ := e2
  exact e_Cl_readExchange_8  h
def f_Cl_readExchange  (σ : kS) : kRes := fb_Cl_readExchange_0  σ
theorem E_Cl_readExchange {l : Launch} {G : kG} {yf : Int} {σf : kS}  {σ : kS} (h : f_Cl_readExchange  σ = some (some yf, σf)) : Call l G dm_Cl_readExchange y_Cl_readExchange m_Cl_readExchange [.inr (7, 0)] σ (kI fun y' σ' => y' = yf ∧ σ' = σf) := by
  unfold f_Cl_readExchange at h
  exact Call.of (by decide +kernel) rfl (Nat.le_of_ble_eq_true rfl) (e_Cl_readExchange_0 h)
/-! Cl_takeAllIfNoRange -/
def fb_Cl_takeAllIfNoRange_25   (σ : kS) : kRes := some (none, σ)
theorem e_Cl_takeAllIfNoRange_25 {l : Launch} {G : kG} {σf : kS}    {σ : kS} (h : fb_Cl_takeAllIfNoRange_25   σ = some (none, σf)) : Rn l G dm_Cl_takeAllIfNoRange m_Cl_takeAllIfNoRange (kU fun σ' => σ' = σf) 25 [some (.inr (7, 0))] [] σ := by
  unfold fb_Cl_takeAllIfNoRange_25 at h
  simp only [Option.some.injEq, Prod.mk.injEq, true_and] at h
  exact s_Cl_takeAllIfNoRange_25  ⟨rfl, h⟩
def fb_Cl_takeAllIfNoRange_7   (σ : kS) : kRes := fb_Cl_takeAllIfNoRange_25  (kup (kup σ 7 0 11 0) 7 0 12 (((kup σ 7 0 11 0) 2 0 2) - 1))
theorem e_Cl_takeAllIfNoRange_7 {l : Launch} {G : kG} {σf : kS}    {σ : kS} (h : fb_Cl_takeAllIfNoRange_7   σ = some (none, σf)) : Rn l G dm_Cl_takeAllIfNoRange m_Cl_takeAllIfNoRange (kU fun σ' => σ' = σf) 7 [some (.inr (7, 0))] [] σ := by
  unfold fb_Cl_takeAllIfNoRange_7 at h
  refine s_Cl_takeAllIfNoRange_7  ?_
  exact e_Cl_takeAllIfNoRange_25  h
def fb_Cl_takeAllIfNoRange_0   (σ : kS) : kRes := kg ((-2147483648 ≤ σ 7 0 10 ∧ σ 7 0 10 < 2147483648)) (if (σ 7 0 10) = 0 then fb_Cl_takeAllIfNoRange_7  σ else fb_Cl_takeAllIfNoRange_25  σ)
theorem e_Cl_takeAllIfNoRange_0 {l : Launch} {G : kG} {σf : kS}    {σ : kS} (h : fb_Cl_takeAllIfNoRange_0   σ = some (none, σf)) : Rn l G dm_Cl_takeAllIfNoRange m_Cl_takeAllIfNoRange (kU fun σ' => σ' = σf) 0 [some (.inr (7, 0))] [] σ := by
  unfold fb_Cl_takeAllIfNoRange_0 at h
  obtain ⟨h1, h⟩ := kg_some h
  refine s_Cl_takeAllIfNoRange_0 h1 (fun c => ?_) (fun c => ?_)
  · rw [if_neg c] at h
    exact e_Cl_takeAllIfNoRange_25  h
  · rw [if_pos c] at h
    exact e_Cl_takeAllIfNoRange_7  h
def f_Cl_takeAllIfNoRange  (σ : kS) : kRes := fb_Cl_takeAllIfNoRange_0  σ
theorem E_Cl_takeAllIfNoRange {l : Launch} {G : kG} {σf : kS}  {σ : kS} (h : f_Cl_takeAllIfNoRange  σ = some (none, σf)) : Call l G dm_Cl_takeAllIfNoRange y_Cl_takeAllIfNoRange m_Cl_takeAllIfNoRange [.inr (7, 0)] σ (kU fun σ' => σ' = σf) := by
  unfold f_Cl_takeAllIfNoRange at h
  exact Call.of (by decide +kernel) rfl (Nat.le_of_ble_eq_true rfl) (e_Cl_takeAllIfNoRange_0 h)
/-! Cl_readChange -/
def fb_Cl_readChange_128  (s0 : Int) (σ : kS) : kRes := kg ((s0 = 0 ∨ s0 = 1)) (some (some s0, σ))
theorem e_Cl_readChange_128 {l : Launch} {G : kG} {yf : Int} {σf : kS}  {s0 : Int}  {σ : kS} (h : fb_Cl_readChange_128  s0 σ = some (some yf, σf)) : Rn l G dm_Cl_readChange m_Cl_readChange (kI fun y' σ' => y' = yf ∧ σ' = σf) 128 [some (.inr (7, 0))] [.inl s0] σ := by
  unfold fb_Cl_readChange_128 at h
  obtain ⟨h1, h⟩ := kg_some h
  simp only [Option.some.injEq, Prod.mk.injEq, true_and] at h
  exact s_Cl_readChange_128 h1 ⟨_, rfl, h⟩
def fb_Cl_readChange_127   (σ : kS) : kRes := fb_Cl_readChange_128  0 σ
theorem e_Cl_readChange_127 {l : Launch} {G : kG} {yf : Int} {σf : kS}    {σ : kS} (h : fb_Cl_readChange_127   σ = some (some yf, σf)) : Rn l G dm_Cl_readChange m_Cl_readChange (kI fun y' σ' => y' = yf ∧ σ' = σf) 127 [some (.inr (7, 0))] [] σ := by
  unfold fb_Cl_readChange_127 at h
  refine s_Cl_readChange_127  ?_
  exact e_Cl_readChange_128  h
def fb_Cl_readChange_123   (σ : kS) : kRes := fb_Cl_readChange_128  1 σ
theorem e_Cl_readChange_123 {l : Launch} {G : kG} {yf : Int} {σf : kS}    {σ : kS} (h : fb_Cl_readChange_123   σ = some (some yf, σf)) : Rn l G dm_Cl_readChange m_Cl_readChange (kI fun y' σ' => y' = yf ∧ σ' = σf) 123 [some (.inr (7, 0))] [] σ := by
  unfold fb_Cl_readChange_123 at h
  refine s_Cl_readChange_123  ?_
  exact e_Cl_readChange_128  h
def fb_Cl_readChange_112   (σ : kS) : kRes := kg ((-2147483648 ≤ σ 7 0 9 ∧ σ 7 0 9 < 2147483648) ∧ (-2147483648 ≤ σ 7 0 8 ∧ σ 7 0 8 < 2147483648)) (if (σ 7 0 9) = (σ 7 0 8) then fb_Cl_readChange_123  σ else fb_Cl_readChange_127  σ)
theorem e_Cl_readChange_112 {l : Launch} {G : kG} {yf : Int} {σf : kS}    {σ : kS} (h : fb_Cl_readChange_112   σ = some (some yf, σf)) : Rn l G dm_Cl_readChange m_Cl_readChange (kI fun y' σ' => y' = yf ∧ σ' = σf) 112 [some (.inr (7, 0))] [] σ := by
  unfold fb_Cl_readChange_112 at h
  obtain ⟨⟨h1, h2⟩, h⟩ := kg_some h
  refine s_Cl_readChange_112 h1 h2 (fun c => ?_) (fun c => ?_)
  · rw [if_neg c] at h
    exact e_Cl_readChange_127  h
  · rw [if_pos c] at h
    exact e_Cl_readChange_123  h
def fb_Cl_readChange_109  (s0 : Int) (σ : kS) : kRes := kg ((-2147483648 ≤ s0 ∧ s0 < 2147483648)) (if s0 = 0 then fb_Cl_readChange_127  σ else fb_Cl_readChange_112  σ)
theorem e_Cl_readChange_109 {l : Launch} {G : kG} {yf : Int} {σf : kS}  {s0 : Int}  {σ : kS} (h : fb_Cl_readChange_109  s0 σ = some (some yf, σf)) : Rn l G dm_Cl_readChange m_Cl_readChange (kI fun y' σ' => y' = yf ∧ σ' = σf) 109 [some (.inr (7, 0))] [.inl s0] σ := by
  unfold fb_Cl_readChange_109 at h
  obtain ⟨h1, h⟩ := kg_some h
  refine s_Cl_readChange_109 h1 (fun c => ?_) (fun c => ?_)
  · rw [if_pos c] at h
    exact e_Cl_readChange_127  h
  · rw [if_neg c] at h
    exact e_Cl_readChange_112  h
def fb_Cl_readChange_105   (σ : kS) : kRes := kbi (f_Cl_readExchange  σ) fun y σ1 => fb_Cl_readChange_109  y σ1
theorem e_Cl_readChange_105 {l : Launch} {G : kG} {yf : Int} {σf : kS}    {σ : kS} (h : fb_Cl_readChange_105   σ = some (some yf, σf)) : Rn l G dm_Cl_readChange m_Cl_readChange (kI fun y' σ' => y' = yf ∧ σ' = σf) 105 [some (.inr (7, 0))] [] σ := by
  unfold fb_Cl_readChange_105 at h
  obtain ⟨y, σ1, hc, h⟩ := kbi_some h
  refine s_Cl_readChange_105  (by decide) (E_Cl_readExchange hc) (fun y2 σ2 e2 => ?_)
  obtain ⟨rfl, rfl⟩ := e2
  exact e_Cl_readChange_109  h
def fb_Cl_readChange_88   (σ : kS) : kRes := kg ((-2147483648 ≤ (kup σ 7 0 9 ((σ 7 0 9) + 1)) 7 0 14 ∧ (kup σ 7 0 9 ((σ 7 0 9) + 1)) 7 0 14 < 2147483648)) (if ((kup σ 7 0 9 ((σ 7 0 9) + 1)) 7 0 14) = 0 then fb_Cl_readChange_105  (kup σ 7 0 9 ((σ 7 0 9) + 1)) else fb_Cl_readChange_112  (kup σ 7 0 9 ((σ 7 0 9) + 1)))
theorem e_Cl_readChange_88 {l : Launch} {G : kG} {yf : Int} {σf : kS}    {σ : kS} (h : fb_Cl_readChange_88   σ = some (some yf, σf)) : Rn l G dm_Cl_readChange m_Cl_readChange (kI fun y' σ' => y' = yf ∧ σ' = σf) 88 [some (.inr (7, 0))] [] σ := by
  unfold fb_Cl_readChange_88 at h
  obtain ⟨h1, h⟩ := kg_some h
  refine s_Cl_readChange_88 h1 (fun c => ?_) (fun c => ?_)
  · rw [if_neg c] at h
    exact e_Cl_readChange_112  h
  · rw [if_pos c] at h
    exact e_Cl_readChange_105  h
def fb_Cl_readChange_86   (σ : kS) : kRes := some (some 0, σ)
theorem e_Cl_readChange_86 {l : Launch} {G : kG} {yf : Int} {σf : kS}    {σ : kS} (h : fb_Cl_readChange_86   σ = some (some yf, σf)) : Rn l G dm_Cl_readChange m_Cl_readChange (kI fun y' σ' => y' = yf ∧ σ' = σf) 86 [some (.inr (7, 0))] [] σ := by
  unfold fb_Cl_readChange_86 at h
  simp only [Option.some.injEq, Prod.mk.injEq, true_and] at h
  exact s_Cl_readChange_86  ⟨_, rfl, h⟩
def fb_Cl_readChange_81  (s0 : Int) (σ : kS) : kRes := kg ((-2147483648 ≤ s0 ∧ s0 < 2147483648)) (if s0 = 115 then fb_Cl_readChange_88  σ else fb_Cl_readChange_86  σ)
theorem e_Cl_readChange_81 {l : Launch} {G : kG} {yf : Int} {σf : kS}  {s0 : Int}  {σ : kS} (h : fb_Cl_readChange_81  s0 σ = some (some yf, σf)) : Rn l G dm_Cl_readChange m_Cl_readChange (kI fun y' σ' => y' = yf ∧ σ' = σf) 81 [some (.inr (7, 0))] [.inl s0] σ := by
  unfold fb_Cl_readChange_81 at h
  obtain ⟨h1, h⟩ := kg_some h
  refine s_Cl_readChange_81 h1 (fun c => ?_) (fun c => ?_)
  · rw [if_pos c] at h
    exact e_Cl_readChange_88  h
  · rw [if_neg c] at h
    exact e_Cl_readChange_86  h
def fb_Cl_readChange_77   (σ : kS) : kRes := kbi (f_Cl_here  σ) fun y σ1 => fb_Cl_readChange_81  y σ1
theorem e_Cl_readChange_77 {l : Launch} {G : kG} {yf : Int} {σf : kS}    {σ : kS} (h : fb_Cl_readChange_77   σ = some (some yf, σf)) : Rn l G dm_Cl_readChange m_Cl_readChange (kI fun y' σ' => y' = yf ∧ σ' = σf) 77 [some (.inr (7, 0))] [] σ := by
  unfold fb_Cl_readChange_77 at h
  obtain ⟨y, σ1, hc, h⟩ := kbi_some h
  refine s_Cl_readChange_77  (by decide) (E_Cl_here hc) (fun y2 σ2 e2 => ?_)
  obtain ⟨rfl, rfl⟩ := e2
  exact e_Cl_readChange_81  h
def fb_Cl_readChange_67  (s0 : Int) (σ : kS) : kRes := kg ((s0 = 0 ∨ s0 = 1) ∧ (-2147483648 ≤ (kup σ 7 0 14 s0) 7 0 14 ∧ (kup σ 7 0 14 s0) 7 0 14 < 2147483648)) (if ((kup σ 7 0 14 s0) 7 0 14) = 0 then fb_Cl_readChange_77  (kup σ 7 0 14 s0) else fb_Cl_readChange_88  (kup σ 7 0 14 s0))
theorem e_Cl_readChange_67 {l : Launch} {G : kG} {yf : Int} {σf : kS}  {s0 : Int}  {σ : kS} (h : fb_Cl_readChange_67  s0 σ = some (some yf, σf)) : Rn l G dm_Cl_readChange m_Cl_readChange (kI fun y' σ' => y' = yf ∧ σ' = σf) 67 [some (.inr (7, 0))] [.inl s0, .inr (7, 0)] σ := by
  unfold fb_Cl_readChange_67 at h
  obtain ⟨⟨h1, h2⟩, h⟩ := kg_some h
  refine s_Cl_readChange_67 h1 h2 (fun c => ?_) (fun c => ?_)
  · rw [if_neg c] at h
    exact e_Cl_readChange_88  h
  · rw [if_pos c] at h
    exact e_Cl_readChange_77  h
def fb_Cl_readChange_66   (σ : kS) : kRes := fb_Cl_readChange_67  0 σ
theorem e_Cl_readChange_66 {l : Launch} {G : kG} {yf : Int} {σf : kS}    {σ : kS} (h : fb_Cl_readChange_66   σ = some (some yf, σf)) : Rn l G dm_Cl_readChange m_Cl_readChange (kI fun y' σ' => y' = yf ∧ σ' = σf) 66 [some (.inr (7, 0))] [.inr (7, 0)] σ := by
  unfold fb_Cl_readChange_66 at h
  refine s_Cl_readChange_66  ?_
  exact e_Cl_readChange_67  h
def fb_Cl_readChange_62   (σ : kS) : kRes := fb_Cl_readChange_67  1 σ
theorem e_Cl_readChange_62 {l : Launch} {G : kG} {yf : Int} {σf : kS}    {σ : kS} (h : fb_Cl_readChange_62   σ = some (some yf, σf)) : Rn l G dm_Cl_readChange m_Cl_readChange (kI fun y' σ' => y' = yf ∧ σ' = σf) 62 [some (.inr (7, 0))] [.inr (7, 0)] σ := by
  unfold fb_Cl_readChange_62 at h
  refine s_Cl_readChange_62  ?_
  exact e_Cl_readChange_67  h
def fb_Cl_readChange_57  (s0 : Int) (σ : kS) : kRes := kg ((-2147483648 ≤ s0 ∧ s0 < 2147483648)) (if s0 = 100 then fb_Cl_readChange_62  σ else fb_Cl_readChange_66  σ)
theorem e_Cl_readChange_57 {l : Launch} {G : kG} {yf : Int} {σf : kS}  {s0 : Int}  {σ : kS} (h : fb_Cl_readChange_57  s0 σ = some (some yf, σf)) : Rn l G dm_Cl_readChange m_Cl_readChange (kI fun y' σ' => y' = yf ∧ σ' = σf) 57 [some (.inr (7, 0))] [.inl s0, .inr (7, 0)] σ := by
  unfold fb_Cl_readChange_57 at h
  obtain ⟨h1, h⟩ := kg_some h
  refine s_Cl_readChange_57 h1 (fun c => ?_) (fun c => ?_)
  · rw [if_neg c] at h
    exact e_Cl_readChange_66  h
  · rw [if_pos c] at h
    exact e_Cl_readChange_62  h
def fb_Cl_readChange_52   (σ : kS) : kRes := kbi (f_Cl_here  σ) fun y σ1 => fb_Cl_readChange_57  y σ1
theorem e_Cl_readChange_52 {l : Launch} {G : kG} {yf : Int} {σf : kS}    {σ : kS} (h : fb_Cl_readChange_52   σ = some (some yf, σf)) : Rn l G dm_Cl_readChange m_Cl_readChange (kI fun y' σ' => y' = yf ∧ σ' = σf) 52 [some (.inr (7, 0))] [] σ := by
  unfold fb_Cl_readChange_52 at h
  obtain ⟨y, σ1, hc, h⟩ := kbi_some h
  refine s_Cl_readChange_52  (by decide) (E_Cl_here hc) (fun y2 σ2 e2 => ?_)
  obtain ⟨rfl, rfl⟩ := e2
  exact e_Cl_readChange_57  h
def fb_Cl_readChange_50   (σ : kS) : kRes := some (some 0, σ)
theorem e_Cl_readChange_50 {l : Launch} {G : kG} {yf : Int} {σf : kS}    {σ : kS} (h : fb_Cl_readChange_50   σ = some (some yf, σf)) : Rn l G dm_Cl_readChange m_Cl_readChange (kI fun y' σ' => y' = yf ∧ σ' = σf) 50 [some (.inr (7, 0))] [] σ := by
  unfold fb_Cl_readChange_50 at h
  simp only [Option.some.injEq, Prod.mk.injEq, true_and] at h
  exact s_Cl_readChange_50  ⟨_, rfl, h⟩
def fb_Cl_readChange_47  (s0 : Int) (σ : kS) : kRes := kg ((-2147483648 ≤ s0 ∧ s0 < 2147483648)) (if s0 = 0 then fb_Cl_readChange_50  σ else fb_Cl_readChange_52  σ)
theorem e_Cl_readChange_47 {l : Launch} {G : kG} {yf : Int} {σf : kS}  {s0 : Int}  {σ : kS} (h : fb_Cl_readChange_47  s0 σ = some (some yf, σf)) : Rn l G dm_Cl_readChange m_Cl_readChange (kI fun y' σ' => y' = yf ∧ σ' = σf) 47 [some (.inr (7, 0))] [.inl s0] σ := by
  unfold fb_Cl_readChange_47 at h
  obtain ⟨h1, h⟩ := kg_some h
  refine s_Cl_readChange_47 h1 (fun c => ?_) (fun c => ?_)
  · rw [if_neg c] at h
    exact e_Cl_readChange_52  h
  · rw [if_pos c] at h
    exact e_Cl_readChange_50  h
def fb_Cl_readChange_39   (σ : kS) : kRes := kbi (f_Cl_readPattern 1 σ) fun y σ1 => fb_Cl_readChange_47  y σ1
theorem e_Cl_readChange_39 {l : Launch} {G : kG} {yf : Int} {σf : kS}    {σ : kS} (h : fb_Cl_readChange_39   σ = some (some yf, σf)) : Rn l G dm_Cl_readChange m_Cl_readChange (kI fun y' σ' => y' = yf ∧ σ' = σf) 39 [some (.inr (7, 0))] [] σ := by
  unfold fb_Cl_readChange_39 at h
  obtain ⟨y, σ1, hc, h⟩ := kbi_some h
  refine s_Cl_readChange_39  (by decide) (E_Cl_readPattern hc) (fun y2 σ2 e2 => ?_)
  obtain ⟨rfl, rfl⟩ := e2
  exact e_Cl_readChange_47  h
def fb_Cl_readChange_25   (σ : kS) : kRes := kbu (f_Cl_takeAllIfNoRange  (kup σ 7 0 9 ((σ 7 0 9) + 1))) fun σ1 => fb_Cl_readChange_39  σ1
theorem e_Cl_readChange_25 {l : Launch} {G : kG} {yf : Int} {σf : kS}    {σ : kS} (h : fb_Cl_readChange_25   σ = some (some yf, σf)) : Rn l G dm_Cl_readChange m_Cl_readChange (kI fun y' σ' => y' = yf ∧ σ' = σf) 25 [some (.inr (7, 0))] [] σ := by
  unfold fb_Cl_readChange_25 at h
  obtain ⟨σ1, hc, h⟩ := kbu_some h
  refine s_Cl_readChange_25  (by decide) (E_Cl_takeAllIfNoRange hc) (fun σ2 e2 => ?_)
  subst e2
  exact e_Cl_readChange_39  h
def fb_Cl_readChange_15  (s0 : Int) (σ : kS) : kRes := kg ((s0 = 0 ∨ s0 = 1) ∧ (-2147483648 ≤ (kup σ 7 0 13 s0) 7 0 13 ∧ (kup σ 7 0 13 s0) 7 0 13 < 2147483648)) (if ((kup σ 7 0 13 s0) 7 0 13) = 0 then fb_Cl_readChange_52  (kup σ 7 0 13 s0) else fb_Cl_readChange_25  (kup σ 7 0 13 s0))
theorem e_Cl_readChange_15 {l : Launch} {G : kG} {yf : Int} {σf : kS}  {s0 : Int}  {σ : kS} (h : fb_Cl_readChange_15  s0 σ = some (some yf, σf)) : Rn l G dm_Cl_readChange m_Cl_readChange (kI fun y' σ' => y' = yf ∧ σ' = σf) 15 [some (.inr (7, 0))] [.inl s0, .inr (7, 0)] σ := by
  unfold fb_Cl_readChange_15 at h
  obtain ⟨⟨h1, h2⟩, h⟩ := kg_some h
  refine s_Cl_readChange_15 h1 h2 (fun c => ?_) (fun c => ?_)
  · rw [if_pos c] at h
    exact e_Cl_readChange_52  h
  · rw [if_neg c] at h
    exact e_Cl_readChange_25  h
def fb_Cl_readChange_14   (σ : kS) : kRes := fb_Cl_readChange_15  0 σ
theorem e_Cl_readChange_14 {l : Launch} {G : kG} {yf : Int} {σf : kS}    {σ : kS} (h : fb_Cl_readChange_14   σ = some (some yf, σf)) : Rn l G dm_Cl_readChange m_Cl_readChange (kI fun y' σ' => y' = yf ∧ σ' = σf) 14 [some (.inr (7, 0))] [.inr (7, 0)] σ := by
  unfold fb_Cl_readChange_14 at h
  refine s_Cl_readChange_14  ?_
  exact e_Cl_readChange_15  h
def fb_Cl_readChange_10   (σ : kS) : kRes := fb_Cl_readChange_15  1 σ
theorem e_Cl_readChange_10 {l : Launch} {G : kG} {yf : Int} {σf : kS}    {σ : kS} (h : fb_Cl_readChange_10   σ = some (some yf, σf)) : Rn l G dm_Cl_readChange m_Cl_readChange (kI fun y' σ' => y' = yf ∧ σ' = σf) 10 [some (.inr (7, 0))] [.inr (7, 0)] σ := by
  unfold fb_Cl_readChange_10 at h
  refine s_Cl_readChange_10  ?_
  exact e_Cl_readChange_15  h
def fb_Cl_readChange_5  (s0 : Int) (σ : kS) : kRes := kg ((-2147483648 ≤ s0 ∧ s0 < 2147483648)) (if s0 = 103 then fb_Cl_readChange_10  σ else fb_Cl_readChange_14  σ)
theorem e_Cl_readChange_5 {l : Launch} {G : kG} {yf : Int} {σf : kS}  {s0 : Int}  {σ : kS} (h : fb_Cl_readChange_5  s0 σ = some (some yf, σf)) : Rn l G dm_Cl_readChange m_Cl_readChange (kI fun y' σ' => y' = yf ∧ σ' = σf) 5 [some (.inr (7, 0))] [.inl s0, .inr (7, 0)] σ := by
  unfold fb_Cl_readChange_5 at h
  obtain ⟨h1, h⟩ := kg_some h
  refine s_Cl_readChange_5 h1 (fun c => ?_) (fun c => ?_)
  · rw [if_neg c] at h
    exact e_Cl_readChange_14  h
  · rw [if_pos c] at h
    exact e_Cl_readChange_10  h
def fb_Cl_readChange_0   (σ : kS) : kRes := kbi (f_Cl_here  σ) fun y σ1 => fb_Cl_readChange_5  y σ1
theorem e_Cl_readChange_0 {l : Launch} {G : kG} {yf : Int} {σf : kS}    {σ : kS} (h : fb_Cl_readChange_0   σ = some (some yf, σf)) : Rn l G dm_Cl_readChange m_Cl_readChange (kI fun y' σ' => y' = yf ∧ σ' = σf) 0 [some (.inr (7, 0))] [] σ := by
  unfold fb_Cl_readChange_0 at h
  obtain ⟨y, σ1, hc, h⟩ := kbi_some h
  refine s_Cl_readChange_0  (by decide) (E_Cl_here hc) (fun y2 σ2 e2 => ?_)
  obtain ⟨rfl, rfl⟩ := e2
  exact e_Cl_readChange_5  h
def f_Cl_readChange  (σ : kS) : kRes := fb_Cl_readChange_0  σ
theorem E_Cl_readChange {l : Launch} {G : kG} {yf : Int} {σf : kS}  {σ : kS} (h : f_Cl_readChange  σ = some (some yf, σf)) : Call l G dm_Cl_readChange y_Cl_readChange m_Cl_readChange [.inr (7, 0)] σ (kI fun y' σ' => y' = yf ∧ σ' = σf) := by
  unfold f_Cl_readChange at h
  exact Call.of (by decide +kernel) rfl (Nat.le_of_ble_eq_true rfl) (e_Cl_readChange_0 h)
/-! Cl_readPreserve -/
def fb_Cl_readPreserve_50  (s0 : Int) (σ : kS) : kRes := kg ((s0 = 0 ∨ s0 = 1)) (some (some s0, σ))
theorem e_Cl_readPreserve_50 {l : Launch} {G : kG} {yf : Int} {σf : kS}  {s0 : Int}  {σ : kS} (h : fb_Cl_readPreserve_50  s0 σ = some (some yf, σf)) : Rn l G dm_Cl_readPreserve m_Cl_readPreserve (kI fun y' σ' => y' = yf ∧ σ' = σf) 50 [some (.inr (7, 0))] [.inl s0] σ := by
  unfold fb_Cl_readPreserve_50 at h
  obtain ⟨h1, h⟩ := kg_some h
  simp only [Option.some.injEq, Prod.mk.injEq, true_and] at h
  exact s_Cl_readPreserve_50 h1 ⟨_, rfl, h⟩
def fb_Cl_readPreserve_49   (σ : kS) : kRes := fb_Cl_readPreserve_50  0 σ
theorem e_Cl_readPreserve_49 {l : Launch} {G : kG} {yf : Int} {σf : kS}    {σ : kS} (h : fb_Cl_readPreserve_49   σ = some (some yf, σf)) : Rn l G dm_Cl_readPreserve m_Cl_readPreserve (kI fun y' σ' => y' = yf ∧ σ' = σf) 49 [some (.inr (7, 0))] [] σ := by
  unfold fb_Cl_readPreserve_49 at h
  refine s_Cl_readPreserve_49  ?_
  exact e_Cl_readPreserve_50  h
def fb_Cl_readPreserve_45   (σ : kS) : kRes := fb_Cl_readPreserve_50  1 σ
theorem e_Cl_readPreserve_45 {l : Launch} {G : kG} {yf : Int} {σf : kS}    {σ : kS} (h : fb_Cl_readPreserve_45   σ = some (some yf, σf)) : Rn l G dm_Cl_readPreserve m_Cl_readPreserve (kI fun y' σ' => y' = yf ∧ σ' = σf) 45 [some (.inr (7, 0))] [] σ := by
  unfold fb_Cl_readPreserve_45 at h
  refine s_Cl_readPreserve_45  ?_
  exact e_Cl_readPreserve_50  h
def fb_Cl_readPreserve_29   (σ : kS) : kRes := kg (σ 7 0 7 = 1 ∧ (0 ≤ (σ 7 0 9) + 2 ∧ (σ 7 0 9) + 2 < (30 : Nat)) ∧ (-2147483648 ≤ σ 16 2 (Int.toNat ((σ 7 0 9) + 2)) ∧ σ 16 2 (Int.toNat ((σ 7 0 9) + 2)) < 2147483648)) (if (σ 16 2 (Int.toNat ((σ 7 0 9) + 2))) = 101 then fb_Cl_readPreserve_45  σ else fb_Cl_readPreserve_49  σ)
theorem e_Cl_readPreserve_29 {l : Launch} {G : kG} {yf : Int} {σf : kS}    {σ : kS} (h : fb_Cl_readPreserve_29   σ = some (some yf, σf)) : Rn l G dm_Cl_readPreserve m_Cl_readPreserve (kI fun y' σ' => y' = yf ∧ σ' = σf) 29 [some (.inr (7, 0))] [] σ := by
  unfold fb_Cl_readPreserve_29 at h
  obtain ⟨⟨h1, h2, h3⟩, h⟩ := kg_some h
  refine s_Cl_readPreserve_29 h1 h2 h3 (fun c => ?_) (fun c => ?_)
  · rw [if_neg c] at h
    exact e_Cl_readPreserve_49  h
  · rw [if_pos c] at h
    exact e_Cl_readPreserve_45  h
def fb_Cl_readPreserve_13   (σ : kS) : kRes := kg (σ 7 0 7 = 1 ∧ (0 ≤ (σ 7 0 9) + 1 ∧ (σ 7 0 9) + 1 < (30 : Nat)) ∧ (-2147483648 ≤ σ 16 2 (Int.toNat ((σ 7 0 9) + 1)) ∧ σ 16 2 (Int.toNat ((σ 7 0 9) + 1)) < 2147483648)) (if (σ 16 2 (Int.toNat ((σ 7 0 9) + 1))) = 114 then fb_Cl_readPreserve_29  σ else fb_Cl_readPreserve_49  σ)
theorem e_Cl_readPreserve_13 {l : Launch} {G : kG} {yf : Int} {σf : kS}    {σ : kS} (h : fb_Cl_readPreserve_13   σ = some (some yf, σf)) : Rn l G dm_Cl_readPreserve m_Cl_readPreserve (kI fun y' σ' => y' = yf ∧ σ' = σf) 13 [some (.inr (7, 0))] [] σ := by
  unfold fb_Cl_readPreserve_13 at h
  obtain ⟨⟨h1, h2, h3⟩, h⟩ := kg_some h
  refine s_Cl_readPreserve_13 h1 h2 h3 (fun c => ?_) (fun c => ?_)
  · rw [if_neg c] at h
    exact e_Cl_readPreserve_49  h
  · rw [if_pos c] at h
    exact e_Cl_readPreserve_29  h
def fb_Cl_readPreserve_0   (σ : kS) : kRes := kg ((-2147483648 ≤ (σ 7 0 8) - (σ 7 0 9) ∧ (σ 7 0 8) - (σ 7 0 9) < 2147483648)) (if ((σ 7 0 8) - (σ 7 0 9)) = 3 then fb_Cl_readPreserve_13  σ else fb_Cl_readPreserve_49  σ)
theorem e_Cl_readPreserve_0 {l : Launch} {G : kG} {yf : Int} {σf : kS}    {σ : kS} (h : fb_Cl_readPreserve_0   σ = some (some yf, σf)) : Rn l G dm_Cl_readPreserve m_Cl_readPreserve (kI fun y' σ' => y' = yf ∧ σ' = σf) 0 [some (.inr (7, 0))] [] σ := by
  unfold fb_Cl_readPreserve_0 at h
  obtain ⟨h1, h⟩ := kg_some h
  refine s_Cl_readPreserve_0 h1 (fun c => ?_) (fun c => ?_)
  · rw [if_neg c] at h
    exact e_Cl_readPreserve_49  h
  · rw [if_pos c] at h
    exact e_Cl_readPreserve_13  h
def f_Cl_readPreserve  (σ : kS) : kRes := fb_Cl_readPreserve_0  σ
theorem E_Cl_readPreserve {l : Launch} {G : kG} {yf : Int} {σf : kS}  {σ : kS} (h : f_Cl_readPreserve  σ = some (some yf, σf)) : Call l G dm_Cl_readPreserve y_Cl_readPreserve m_Cl_readPreserve [.inr (7, 0)] σ (kI fun y' σ' => y' = yf ∧ σ' = σf) := by
  unfold f_Cl_readPreserve at h
  exact Call.of (by decide +kernel) rfl (Nat.le_of_ble_eq_true rfl) (e_Cl_readPreserve_0 h)
/-! Cl_isDigit -/
def fb_Cl_isDigit_17  (x0 : Int) (s0 : Int) (σ : kS) : kRes := kg ((s0 = 0 ∨ s0 = 1)) (some (some s0, σ))
theorem e_Cl_isDigit_17 {l : Launch} {G : kG} {yf : Int} {σf : kS}  {x0 : Int} {s0 : Int}  {σ : kS} (h : fb_Cl_isDigit_17  x0 s0 σ = some (some yf, σf)) : Rn l G dm_Cl_isDigit m_Cl_isDigit (kI fun y' σ' => y' = yf ∧ σ' = σf) 17 [some (.inl x0)] [.inl s0] σ := by
  unfold fb_Cl_isDigit_17 at h
  obtain ⟨h1, h⟩ := kg_some h
  simp only [Option.some.injEq, Prod.mk.injEq, true_and] at h
  exact s_Cl_isDigit_17 h1 ⟨_, rfl, h⟩
def fb_Cl_isDigit_16  (x0 : Int) (σ : kS) : kRes := fb_Cl_isDigit_17  x0 0 σ
theorem e_Cl_isDigit_16 {l : Launch} {G : kG} {yf : Int} {σf : kS}  {x0 : Int}  {σ : kS} (h : fb_Cl_isDigit_16  x0 σ = some (some yf, σf)) : Rn l G dm_Cl_isDigit m_Cl_isDigit (kI fun y' σ' => y' = yf ∧ σ' = σf) 16 [some (.inl x0)] [] σ := by
  unfold fb_Cl_isDigit_16 at h
  refine s_Cl_isDigit_16  ?_
  exact e_Cl_isDigit_17  h
def fb_Cl_isDigit_12  (x0 : Int) (σ : kS) : kRes := fb_Cl_isDigit_17  x0 1 σ
theorem e_Cl_isDigit_12 {l : Launch} {G : kG} {yf : Int} {σf : kS}  {x0 : Int}  {σ : kS} (h : fb_Cl_isDigit_12  x0 σ = some (some yf, σf)) : Rn l G dm_Cl_isDigit m_Cl_isDigit (kI fun y' σ' => y' = yf ∧ σ' = σf) 12 [some (.inl x0)] [] σ := by
  unfold fb_Cl_isDigit_12 at h
  refine s_Cl_isDigit_12  ?_
  exact e_Cl_isDigit_17  h
def fb_Cl_isDigit_6  (x0 : Int) (σ : kS) : kRes := kg ((-2147483648 ≤ x0 ∧ x0 < 2147483648)) (if 57 < x0 then fb_Cl_isDigit_16  x0 σ else fb_Cl_isDigit_12  x0 σ)
theorem e_Cl_isDigit_6 {l : Launch} {G : kG} {yf : Int} {σf : kS}  {x0 : Int}  {σ : kS} (h : fb_Cl_isDigit_6  x0 σ = some (some yf, σf)) : Rn l G dm_Cl_isDigit m_Cl_isDigit (kI fun y' σ' => y' = yf ∧ σ' = σf) 6 [some (.inl x0)] [] σ := by
  unfold fb_Cl_isDigit_6 at h
  obtain ⟨h1, h⟩ := kg_some h
  refine s_Cl_isDigit_6 h1 (fun c => ?_) (fun c => ?_)
  · rw [if_pos c] at h
    exact e_Cl_isDigit_16  h
  · rw [if_neg c] at h
    exact e_Cl_isDigit_12  h
def fb_Cl_isDigit_0  (x0 : Int) (σ : kS) : kRes := kg ((-2147483648 ≤ x0 ∧ x0 < 2147483648)) (if x0 < 48 then fb_Cl_isDigit_16  x0 σ else fb_Cl_isDigit_6  x0 σ)
theorem e_Cl_isDigit_0 {l : Launch} {G : kG} {yf : Int} {σf : kS}  {x0 : Int}  {σ : kS} (h : fb_Cl_isDigit_0  x0 σ = some (some yf, σf)) : Rn l G dm_Cl_isDigit m_Cl_isDigit (kI fun y' σ' => y' = yf ∧ σ' = σf) 0 [some (.inl x0)] [] σ := by
  unfold fb_Cl_isDigit_0 at h
  obtain ⟨h1, h⟩ := kg_some h
  refine s_Cl_isDigit_0 h1 (fun c => ?_) (fun c => ?_)
  · rw [if_pos c] at h
    exact e_Cl_isDigit_16  h
  · rw [if_neg c] at h
    exact e_Cl_isDigit_6  h
def f_Cl_isDigit (x0 : Int) (σ : kS) : kRes := fb_Cl_isDigit_0 x0 σ
theorem E_Cl_isDigit {l : Launch} {G : kG} {yf : Int} {σf : kS} {x0 : Int} {σ : kS} (h : f_Cl_isDigit x0 σ = some (some yf, σf)) : Call l G dm_Cl_isDigit y_Cl_isDigit m_Cl_isDigit [.inl x0] σ (kI fun y' σ' => y' = yf ∧ σ' = σf) := by
  unfold f_Cl_isDigit at h
  exact Call.of (by decide +kernel) rfl (Nat.le_of_ble_eq_true rfl) (e_Cl_isDigit_0 h)
/-! Cl_nextLineWith -/
def fb_Cl_nextLineWith_82  (x2 : Int) (u : Nat) (σ : kS) : kRes := some (some (-1), σ)
theorem e_Cl_nextLineWith_82 {l : Launch} {G : kG} {yf : Int} {σf : kS}  {x2 : Int} {u : Nat} {o3 : Option kV} {σ : kS} (h : fb_Cl_nextLineWith_82  x2 u σ = some (some yf, σf)) : Rn l G dm_Cl_nextLineWith m_Cl_nextLineWith (kI fun y' σ' => y' = yf ∧ σ' = σf) 82 [some (.inr (7, 0)), some (.inr (8, u)), some (.inl x2), o3] [] σ := by
  unfold fb_Cl_nextLineWith_82 at h
  simp only [Option.some.injEq, Prod.mk.injEq, true_and] at h
  exact s_Cl_nextLineWith_82  ⟨_, rfl, h⟩
def fb_Cl_nextLineWith_76 (k2 : Int → Nat → kS → kRes) (x2 : Int) (x3 : Int) (u : Nat) (σ : kS) : kRes := k2 (x2 + 1) u σ
theorem e_Cl_nextLineWith_76 {l : Launch} {G : kG} {yf : Int} {σf : kS} {k2 : Int → Nat → kS → kRes} (hk2 : ∀ (x2 : Int) (u : Nat) (o3 : Option kV) (σ : kS), k2 x2 u σ = some (some yf, σf) → Rn l G dm_Cl_nextLineWith m_Cl_nextLineWith (kI fun y' σ' => y' = yf ∧ σ' = σf) 2 [some (.inr (7, 0)), some (.inr (8, u)), some (.inl x2), o3] [] σ) {x2 : Int} {x3 : Int} {u : Nat}  {σ : kS} (h : fb_Cl_nextLineWith_76 k2 x2 x3 u σ = some (some yf, σf)) : Rn l G dm_Cl_nextLineWith m_Cl_nextLineWith (kI fun y' σ' => y' = yf ∧ σ' = σf) 76 [some (.inr (7, 0)), some (.inr (8, u)), some (.inl x2), some (.inl x3)] [] σ := by
  unfold fb_Cl_nextLineWith_76 at h
  refine s_Cl_nextLineWith_76  ?_
  exact hk2 _ _ _ _ h
def fb_Cl_nextLineWith_74  (x2 : Int) (x3 : Int) (u : Nat) (σ : kS) : kRes := some (some x3, σ)
theorem e_Cl_nextLineWith_74 {l : Launch} {G : kG} {yf : Int} {σf : kS}  {x2 : Int} {x3 : Int} {u : Nat}  {σ : kS} (h : fb_Cl_nextLineWith_74  x2 x3 u σ = some (some yf, σf)) : Rn l G dm_Cl_nextLineWith m_Cl_nextLineWith (kI fun y' σ' => y' = yf ∧ σ' = σf) 74 [some (.inr (7, 0)), some (.inr (8, u)), some (.inl x2), some (.inl x3)] [] σ := by
  unfold fb_Cl_nextLineWith_74 at h
  simp only [Option.some.injEq, Prod.mk.injEq, true_and] at h
  exact s_Cl_nextLineWith_74  ⟨_, rfl, h⟩
def fb_Cl_nextLineWith_71 (k2 : Int → Nat → kS → kRes) (x2 : Int) (x3 : Int) (s0 : Int) (u : Nat) (σ : kS) : kRes := kg ((-2147483648 ≤ s0 ∧ s0 < 2147483648)) (if s0 = 0 then fb_Cl_nextLineWith_76 k2 x2 x3 u σ else fb_Cl_nextLineWith_74  x2 x3 u σ)
theorem e_Cl_nextLineWith_71 {l : Launch} {G : kG} {yf : Int} {σf : kS} {k2 : Int → Nat → kS → kRes} (hk2 : ∀ (x2 : Int) (u : Nat) (o3 : Option kV) (σ : kS), k2 x2 u σ = some (some yf, σf) → Rn l G dm_Cl_nextLineWith m_Cl_nextLineWith (kI fun y' σ' => y' = yf ∧ σ' = σf) 2 [some (.inr (7, 0)), some (.inr (8, u)), some (.inl x2), o3] [] σ) {x2 : Int} {x3 : Int} {s0 : Int} {u : Nat}  {σ : kS} (h : fb_Cl_nextLineWith_71 k2 x2 x3 s0 u σ = some (some yf, σf)) : Rn l G dm_Cl_nextLineWith m_Cl_nextLineWith (kI fun y' σ' => y' = yf ∧ σ' = σf) 71 [some (.inr (7, 0)), some (.inr (8, u)), some (.inl x2), some (.inl x3)] [.inl s0] σ := by
  unfold fb_Cl_nextLineWith_71 at h
  obtain ⟨h1, h⟩ := kg_some h
  refine s_Cl_nextLineWith_71 h1 (fun c => ?_) (fun c => ?_)
  · rw [if_pos c] at h
    exact e_Cl_nextLineWith_76 hk2 h
  · rw [if_neg c] at h
    exact e_Cl_nextLineWith_74  h
def fb_Cl_nextLineWith_61 (k2 : Int → Nat → kS → kRes) (x2 : Int) (s0 : Int) (u : Nat) (σ : kS) : kRes := kbi (f_Pa_isIn s0 u σ) fun y σ1 => fb_Cl_nextLineWith_71 k2 x2 s0 y u σ1
theorem e_Cl_nextLineWith_61 {l : Launch} {G : kG} {yf : Int} {σf : kS} {k2 : Int → Nat → kS → kRes} (hk2 : ∀ (x2 : Int) (u : Nat) (o3 : Option kV) (σ : kS), k2 x2 u σ = some (some yf, σf) → Rn l G dm_Cl_nextLineWith m_Cl_nextLineWith (kI fun y' σ' => y' = yf ∧ σ' = σf) 2 [some (.inr (7, 0)), some (.inr (8, u)), some (.inl x2), o3] [] σ) {x2 : Int} {s0 : Int} {u : Nat} {o3 : Option kV} {σ : kS} (h : fb_Cl_nextLineWith_61 k2 x2 s0 u σ = some (some yf, σf)) : Rn l G dm_Cl_nextLineWith m_Cl_nextLineWith (kI fun y' σ' => y' = yf ∧ σ' = σf) 61 [some (.inr (7, 0)), some (.inr (8, u)), some (.inl x2), o3] [.inl s0] σ := by
  unfold fb_Cl_nextLineWith_61 at h
  obtain ⟨y, σ1, hc, h⟩ := kbi_some h
  refine s_Cl_nextLineWith_61  (by decide) (E_Pa_isIn hc) (fun y2 σ2 e2 => ?_)
  obtain ⟨rfl, rfl⟩ := e2
  exact e_Cl_nextLineWith_71 hk2 h
def fb_Cl_nextLineWith_44 (k2 : Int → Nat → kS → kRes) (x2 : Int) (u : Nat) (σ : kS) : kRes := fb_Cl_nextLineWith_61 k2 x2 (((σ 2 0 3) + x2) - (σ 2 0 2)) u σ
theorem e_Cl_nextLineWith_44 {l : Launch} {G : kG} {yf : Int} {σf : kS} {k2 : Int → Nat → kS → kRes} (hk2 : ∀ (x2 : Int) (u : Nat) (o3 : Option kV) (σ : kS), k2 x2 u σ = some (some yf, σf) → Rn l G dm_Cl_nextLineWith m_Cl_nextLineWith (kI fun y' σ' => y' = yf ∧ σ' = σf) 2 [some (.inr (7, 0)), some (.inr (8, u)), some (.inl x2), o3] [] σ) {x2 : Int} {u : Nat} {o3 : Option kV} {σ : kS} (h : fb_Cl_nextLineWith_44 k2 x2 u σ = some (some yf, σf)) : Rn l G dm_Cl_nextLineWith m_Cl_nextLineWith (kI fun y' σ' => y' = yf ∧ σ' = σf) 44 [some (.inr (7, 0)), some (.inr (8, u)), some (.inl x2), o3] [] σ := by
  unfold fb_Cl_nextLineWith_44 at h
  refine s_Cl_nextLineWith_44  ?_
  exact e_Cl_nextLineWith_61 hk2 h
def fb_Cl_nextLineWith_32 (k2 : Int → Nat → kS → kRes) (x2 : Int) (u : Nat) (σ : kS) : kRes := fb_Cl_nextLineWith_61 k2 x2 ((σ 2 0 3) + x2) u σ
theorem e_Cl_nextLineWith_32 {l : Launch} {G : kG} {yf : Int} {σf : kS} {k2 : Int → Nat → kS → kRes} (hk2 : ∀ (x2 : Int) (u : Nat) (o3 : Option kV) (σ : kS), k2 x2 u σ = some (some yf, σf) → Rn l G dm_Cl_nextLineWith m_Cl_nextLineWith (kI fun y' σ' => y' = yf ∧ σ' = σf) 2 [some (.inr (7, 0)), some (.inr (8, u)), some (.inl x2), o3] [] σ) {x2 : Int} {u : Nat} {o3 : Option kV} {σ : kS} (h : fb_Cl_nextLineWith_32 k2 x2 u σ = some (some yf, σf)) : Rn l G dm_Cl_nextLineWith m_Cl_nextLineWith (kI fun y' σ' => y' = yf ∧ σ' = σf) 32 [some (.inr (7, 0)), some (.inr (8, u)), some (.inl x2), o3] [] σ := by
  unfold fb_Cl_nextLineWith_32 at h
  refine s_Cl_nextLineWith_32  ?_
  exact e_Cl_nextLineWith_61 hk2 h
def fb_Cl_nextLineWith_13 (k2 : Int → Nat → kS → kRes) (x2 : Int) (u : Nat) (σ : kS) : kRes := kg ((-2147483648 ≤ (σ 2 0 3) + x2 ∧ (σ 2 0 3) + x2 < 2147483648) ∧ (-2147483648 ≤ σ 2 0 2 ∧ σ 2 0 2 < 2147483648)) (if (σ 2 0 2) ≤ ((σ 2 0 3) + x2) then fb_Cl_nextLineWith_44 k2 x2 u σ else fb_Cl_nextLineWith_32 k2 x2 u σ)
theorem e_Cl_nextLineWith_13 {l : Launch} {G : kG} {yf : Int} {σf : kS} {k2 : Int → Nat → kS → kRes} (hk2 : ∀ (x2 : Int) (u : Nat) (o3 : Option kV) (σ : kS), k2 x2 u σ = some (some yf, σf) → Rn l G dm_Cl_nextLineWith m_Cl_nextLineWith (kI fun y' σ' => y' = yf ∧ σ' = σf) 2 [some (.inr (7, 0)), some (.inr (8, u)), some (.inl x2), o3] [] σ) {x2 : Int} {u : Nat} {o3 : Option kV} {σ : kS} (h : fb_Cl_nextLineWith_13 k2 x2 u σ = some (some yf, σf)) : Rn l G dm_Cl_nextLineWith m_Cl_nextLineWith (kI fun y' σ' => y' = yf ∧ σ' = σf) 13 [some (.inr (7, 0)), some (.inr (8, u)), some (.inl x2), o3] [] σ := by
  unfold fb_Cl_nextLineWith_13 at h
  obtain ⟨⟨h1, h2⟩, h⟩ := kg_some h
  refine s_Cl_nextLineWith_13 h1 h2 (fun c => ?_) (fun c => ?_)
  · rw [if_pos c] at h
    exact e_Cl_nextLineWith_44 hk2 h
  · rw [if_neg c] at h
    exact e_Cl_nextLineWith_32 hk2 h
def fb_Cl_nextLineWith_2 (k2 : Int → Nat → kS → kRes) (x2 : Int) (u : Nat) (σ : kS) : kRes := kg ((-2147483648 ≤ x2 ∧ x2 < 2147483648) ∧ (-2147483648 ≤ σ 2 0 2 ∧ σ 2 0 2 < 2147483648)) (if (σ 2 0 2) < x2 then fb_Cl_nextLineWith_82  x2 u σ else fb_Cl_nextLineWith_13 k2 x2 u σ)
theorem e_Cl_nextLineWith_2 {l : Launch} {G : kG} {yf : Int} {σf : kS} {k2 : Int → Nat → kS → kRes} (hk2 : ∀ (x2 : Int) (u : Nat) (o3 : Option kV) (σ : kS), k2 x2 u σ = some (some yf, σf) → Rn l G dm_Cl_nextLineWith m_Cl_nextLineWith (kI fun y' σ' => y' = yf ∧ σ' = σf) 2 [some (.inr (7, 0)), some (.inr (8, u)), some (.inl x2), o3] [] σ) {x2 : Int} {u : Nat} {o3 : Option kV} {σ : kS} (h : fb_Cl_nextLineWith_2 k2 x2 u σ = some (some yf, σf)) : Rn l G dm_Cl_nextLineWith m_Cl_nextLineWith (kI fun y' σ' => y' = yf ∧ σ' = σf) 2 [some (.inr (7, 0)), some (.inr (8, u)), some (.inl x2), o3] [] σ := by
  unfold fb_Cl_nextLineWith_2 at h
  obtain ⟨⟨h1, h2⟩, h⟩ := kg_some h
  refine s_Cl_nextLineWith_2 h1 h2 (fun c => ?_) (fun c => ?_)
  · rw [if_pos c] at h
    exact e_Cl_nextLineWith_82  h
  · rw [if_neg c] at h
    exact e_Cl_nextLineWith_13 hk2 h
def fl_Cl_nextLineWith_2  : Nat → Int → Nat → kS → kRes
  | 0, _, _, _ => none
  | n + 1, x2, u, σ => fb_Cl_nextLineWith_2 (fl_Cl_nextLineWith_2  n) x2 u σ
theorem el_Cl_nextLineWith_2 {l : Launch} {G : kG} {yf : Int} {σf : kS}  : ∀ (n : Nat) (x2 : Int) (u : Nat) (o3 : Option kV) (σ : kS), fl_Cl_nextLineWith_2  n x2 u σ = some (some yf, σf) → Rn l G dm_Cl_nextLineWith m_Cl_nextLineWith (kI fun y' σ' => y' = yf ∧ σ' = σf) 2 [some (.inr (7, 0)), some (.inr (8, u)), some (.inl x2), o3] [] σ := by
  intro n
  induction n with
  | zero => intro x2 u o3 σ h; simp only [fl_Cl_nextLineWith_2] at h; cases h
  | succ n ih => intro x2 u o3 σ h; simp only [fl_Cl_nextLineWith_2] at h; exact e_Cl_nextLineWith_2 ih h
def fb_Cl_nextLineWith_0  (u : Nat) (σ : kS) : kRes := fl_Cl_nextLineWith_2  3000 1 u σ
theorem e_Cl_nextLineWith_0 {l : Launch} {G : kG} {yf : Int} {σf : kS}  {u : Nat} {o2 : Option kV} {o3 : Option kV} {σ : kS} (h : fb_Cl_nextLineWith_0  u σ = some (some yf, σf)) : Rn l G dm_Cl_nextLineWith m_Cl_nextLineWith (kI fun y' σ' => y' = yf ∧ σ' = σf) 0 [some (.inr (7, 0)), some (.inr (8, u)), o2, o3] [] σ := by
  unfold fb_Cl_nextLineWith_0 at h
  refine s_Cl_nextLineWith_0  ?_
  exact el_Cl_nextLineWith_2  _ _ _ _ _ h
def f_Cl_nextLineWith (u : Nat) (σ : kS) : kRes := fb_Cl_nextLineWith_0 u σ
theorem E_Cl_nextLineWith {l : Launch} {G : kG} {yf : Int} {σf : kS} {u : Nat} {σ : kS} (h : f_Cl_nextLineWith u σ = some (some yf, σf)) : Call l G dm_Cl_nextLineWith y_Cl_nextLineWith m_Cl_nextLineWith [.inr (7, 0), .inr (8, u)] σ (kI fun y' σ' => y' = yf ∧ σ' = σf) := by
  unfold f_Cl_nextLineWith at h
  exact Call.of (by decide +kernel) rfl (Nat.le_of_ble_eq_true rfl) (e_Cl_nextLineWith_0 h)
/-! Cl_readAddress -/
def fb_Cl_readAddress_140  (x1 : Int) (x2 : Int) (s0 : Int) (σ : kS) : kRes := some (some s0, σ)
theorem e_Cl_readAddress_140 {l : Launch} {G : kG} {yf : Int} {σf : kS}  {x1 : Int} {x2 : Int} {s0 : Int}  {σ : kS} (h : fb_Cl_readAddress_140  x1 x2 s0 σ = some (some yf, σf)) : Rn l G dm_Cl_readAddress m_Cl_readAddress (kI fun y' σ' => y' = yf ∧ σ' = σf) 140 [some (.inr (7, 0)), some (.inl x1), some (.inl x2)] [.inl s0] σ := by
  unfold fb_Cl_readAddress_140 at h
  simp only [Option.some.injEq, Prod.mk.injEq, true_and] at h
  exact s_Cl_readAddress_140  ⟨_, rfl, h⟩
def fb_Cl_readAddress_139  (x1 : Int) (x2 : Int) (σ : kS) : kRes := fb_Cl_readAddress_140  x1 x2 (-1) σ
theorem e_Cl_readAddress_139 {l : Launch} {G : kG} {yf : Int} {σf : kS}  {x1 : Int} {x2 : Int}  {σ : kS} (h : fb_Cl_readAddress_139  x1 x2 σ = some (some yf, σf)) : Rn l G dm_Cl_readAddress m_Cl_readAddress (kI fun y' σ' => y' = yf ∧ σ' = σf) 139 [some (.inr (7, 0)), some (.inl x1), some (.inl x2)] [] σ := by
  unfold fb_Cl_readAddress_139 at h
  refine s_Cl_readAddress_139  ?_
  exact e_Cl_readAddress_140  h
def fb_Cl_readAddress_133  (x1 : Int) (x2 : Int) (σ : kS) : kRes := fb_Cl_readAddress_140  x1 x2 (x2 - 1) σ
theorem e_Cl_readAddress_133 {l : Launch} {G : kG} {yf : Int} {σf : kS}  {x1 : Int} {x2 : Int}  {σ : kS} (h : fb_Cl_readAddress_133  x1 x2 σ = some (some yf, σf)) : Rn l G dm_Cl_readAddress m_Cl_readAddress (kI fun y' σ' => y' = yf ∧ σ' = σf) 133 [some (.inr (7, 0)), some (.inl x1), some (.inl x2)] [] σ := by
  unfold fb_Cl_readAddress_133 at h
  refine s_Cl_readAddress_133  ?_
  exact e_Cl_readAddress_140  h
def fb_Cl_readAddress_122  (x1 : Int) (x2 : Int) (σ : kS) : kRes := kg ((-2147483648 ≤ x2 ∧ x2 < 2147483648) ∧ (-2147483648 ≤ σ 2 0 2 ∧ σ 2 0 2 < 2147483648)) (if (σ 2 0 2) < x2 then fb_Cl_readAddress_139  x1 x2 σ else fb_Cl_readAddress_133  x1 x2 σ)
theorem e_Cl_readAddress_122 {l : Launch} {G : kG} {yf : Int} {σf : kS}  {x1 : Int} {x2 : Int}  {σ : kS} (h : fb_Cl_readAddress_122  x1 x2 σ = some (some yf, σf)) : Rn l G dm_Cl_readAddress m_Cl_readAddress (kI fun y' σ' => y' = yf ∧ σ' = σf) 122 [some (.inr (7, 0)), some (.inl x1), some (.inl x2)] [] σ := by
  unfold fb_Cl_readAddress_122 at h
  obtain ⟨⟨h1, h2⟩, h⟩ := kg_some h
  refine s_Cl_readAddress_122 h1 h2 (fun c => ?_) (fun c => ?_)
  · rw [if_pos c] at h
    exact e_Cl_readAddress_139  h
  · rw [if_neg c] at h
    exact e_Cl_readAddress_133  h
def fb_Cl_readAddress_107  (x1 : Int) (x2 : Int) (s0 : Int) (s1 : Int) (σ : kS) : kRes := fb_Cl_readAddress_122  x1 ((s1 + s0) - 48) (kup σ 7 0 9 ((σ 7 0 9) + 1))
theorem e_Cl_readAddress_107 {l : Launch} {G : kG} {yf : Int} {σf : kS}  {x1 : Int} {x2 : Int} {s0 : Int} {s1 : Int}  {σ : kS} (h : fb_Cl_readAddress_107  x1 x2 s0 s1 σ = some (some yf, σf)) : Rn l G dm_Cl_readAddress m_Cl_readAddress (kI fun y' σ' => y' = yf ∧ σ' = σf) 107 [some (.inr (7, 0)), some (.inl x1), some (.inl x2)] [.inl s0, .inl s1] σ := by
  unfold fb_Cl_readAddress_107 at h
  refine s_Cl_readAddress_107  ?_
  exact e_Cl_readAddress_122  h
def fb_Cl_readAddress_99  (x1 : Int) (x2 : Int) (σ : kS) : kRes := kbi (f_Cl_here  σ) fun y σ1 => fb_Cl_readAddress_107  x1 x2 y (x2 * 10) σ1
theorem e_Cl_readAddress_99 {l : Launch} {G : kG} {yf : Int} {σf : kS}  {x1 : Int} {x2 : Int}  {σ : kS} (h : fb_Cl_readAddress_99  x1 x2 σ = some (some yf, σf)) : Rn l G dm_Cl_readAddress m_Cl_readAddress (kI fun y' σ' => y' = yf ∧ σ' = σf) 99 [some (.inr (7, 0)), some (.inl x1), some (.inl x2)] [] σ := by
  unfold fb_Cl_readAddress_99 at h
  obtain ⟨y, σ1, hc, h⟩ := kbi_some h
  refine s_Cl_readAddress_99  (by decide) (E_Cl_here hc) (fun y2 σ2 e2 => ?_)
  obtain ⟨rfl, rfl⟩ := e2
  exact e_Cl_readAddress_107  h
def fb_Cl_readAddress_96  (x1 : Int) (x2 : Int) (s0 : Int) (σ : kS) : kRes := kg ((-2147483648 ≤ s0 ∧ s0 < 2147483648)) (if s0 = 0 then fb_Cl_readAddress_122  x1 x2 σ else fb_Cl_readAddress_99  x1 x2 σ)
theorem e_Cl_readAddress_96 {l : Launch} {G : kG} {yf : Int} {σf : kS}  {x1 : Int} {x2 : Int} {s0 : Int}  {σ : kS} (h : fb_Cl_readAddress_96  x1 x2 s0 σ = some (some yf, σf)) : Rn l G dm_Cl_readAddress m_Cl_readAddress (kI fun y' σ' => y' = yf ∧ σ' = σf) 96 [some (.inr (7, 0)), some (.inl x1), some (.inl x2)] [.inl s0] σ := by
  unfold fb_Cl_readAddress_96 at h
  obtain ⟨h1, h⟩ := kg_some h
  refine s_Cl_readAddress_96 h1 (fun c => ?_) (fun c => ?_)
  · rw [if_pos c] at h
    exact e_Cl_readAddress_122  h
  · rw [if_neg c] at h
    exact e_Cl_readAddress_99  h
def fb_Cl_readAddress_93  (x1 : Int) (x2 : Int) (s0 : Int) (σ : kS) : kRes := kbi (f_Cl_isDigit s0 σ) fun y σ1 => fb_Cl_readAddress_96  x1 x2 y σ1
theorem e_Cl_readAddress_93 {l : Launch} {G : kG} {yf : Int} {σf : kS}  {x1 : Int} {x2 : Int} {s0 : Int}  {σ : kS} (h : fb_Cl_readAddress_93  x1 x2 s0 σ = some (some yf, σf)) : Rn l G dm_Cl_readAddress m_Cl_readAddress (kI fun y' σ' => y' = yf ∧ σ' = σf) 93 [some (.inr (7, 0)), some (.inl x1), some (.inl x2)] [.inl s0] σ := by
  unfold fb_Cl_readAddress_93 at h
  obtain ⟨y, σ1, hc, h⟩ := kbi_some h
  refine s_Cl_readAddress_93  (by decide) (E_Cl_isDigit hc) (fun y2 σ2 e2 => ?_)
  obtain ⟨rfl, rfl⟩ := e2
  exact e_Cl_readAddress_96  h
def fb_Cl_readAddress_84  (x1 : Int) (σ : kS) : kRes := kbi (f_Cl_here  σ) fun y σ1 => fb_Cl_readAddress_93  x1 (x1 - 48) y σ1
theorem e_Cl_readAddress_84 {l : Launch} {G : kG} {yf : Int} {σf : kS}  {x1 : Int} {o2 : Option kV} {σ : kS} (h : fb_Cl_readAddress_84  x1 σ = some (some yf, σf)) : Rn l G dm_Cl_readAddress m_Cl_readAddress (kI fun y' σ' => y' = yf ∧ σ' = σf) 84 [some (.inr (7, 0)), some (.inl x1), o2] [] σ := by
  unfold fb_Cl_readAddress_84 at h
  obtain ⟨y, σ1, hc, h⟩ := kbi_some h
  refine s_Cl_readAddress_84  (by decide) (E_Cl_here hc) (fun y2 σ2 e2 => ?_)
  obtain ⟨rfl, rfl⟩ := e2
  exact e_Cl_readAddress_93  h
def fb_Cl_readAddress_82  (x1 : Int) (σ : kS) : kRes := some (some (-1), σ)
theorem e_Cl_readAddress_82 {l : Launch} {G : kG} {yf : Int} {σf : kS}  {x1 : Int} {o2 : Option kV} {σ : kS} (h : fb_Cl_readAddress_82  x1 σ = some (some yf, σf)) : Rn l G dm_Cl_readAddress m_Cl_readAddress (kI fun y' σ' => y' = yf ∧ σ' = σf) 82 [some (.inr (7, 0)), some (.inl x1), o2] [] σ := by
  unfold fb_Cl_readAddress_82 at h
  simp only [Option.some.injEq, Prod.mk.injEq, true_and] at h
  exact s_Cl_readAddress_82  ⟨_, rfl, h⟩
def fb_Cl_readAddress_79  (x1 : Int) (s0 : Int) (σ : kS) : kRes := kg ((-2147483648 ≤ s0 ∧ s0 < 2147483648)) (if s0 = 0 then fb_Cl_readAddress_82  x1 σ else fb_Cl_readAddress_84  x1 σ)
theorem e_Cl_readAddress_79 {l : Launch} {G : kG} {yf : Int} {σf : kS}  {x1 : Int} {s0 : Int} {o2 : Option kV} {σ : kS} (h : fb_Cl_readAddress_79  x1 s0 σ = some (some yf, σf)) : Rn l G dm_Cl_readAddress m_Cl_readAddress (kI fun y' σ' => y' = yf ∧ σ' = σf) 79 [some (.inr (7, 0)), some (.inl x1), o2] [.inl s0] σ := by
  unfold fb_Cl_readAddress_79 at h
  obtain ⟨h1, h⟩ := kg_some h
  refine s_Cl_readAddress_79 h1 (fun c => ?_) (fun c => ?_)
  · rw [if_neg c] at h
    exact e_Cl_readAddress_84  h
  · rw [if_pos c] at h
    exact e_Cl_readAddress_82  h
def fb_Cl_readAddress_75  (x1 : Int) (σ : kS) : kRes := kbi (f_Cl_isDigit x1 σ) fun y σ1 => fb_Cl_readAddress_79  x1 y σ1
theorem e_Cl_readAddress_75 {l : Launch} {G : kG} {yf : Int} {σf : kS}  {x1 : Int} {o2 : Option kV} {σ : kS} (h : fb_Cl_readAddress_75  x1 σ = some (some yf, σf)) : Rn l G dm_Cl_readAddress m_Cl_readAddress (kI fun y' σ' => y' = yf ∧ σ' = σf) 75 [some (.inr (7, 0)), some (.inl x1), o2] [] σ := by
  unfold fb_Cl_readAddress_75 at h
  obtain ⟨y, σ1, hc, h⟩ := kbi_some h
  refine s_Cl_readAddress_75  (by decide) (E_Cl_isDigit hc) (fun y2 σ2 e2 => ?_)
  obtain ⟨rfl, rfl⟩ := e2
  exact e_Cl_readAddress_79  h
def fb_Cl_readAddress_65  (x1 : Int) (σ : kS) : kRes := some (some ((σ 2 0 2) - 1), σ)
theorem e_Cl_readAddress_65 {l : Launch} {G : kG} {yf : Int} {σf : kS}  {x1 : Int} {o2 : Option kV} {σ : kS} (h : fb_Cl_readAddress_65  x1 σ = some (some yf, σf)) : Rn l G dm_Cl_readAddress m_Cl_readAddress (kI fun y' σ' => y' = yf ∧ σ' = σf) 65 [some (.inr (7, 0)), some (.inl x1), o2] [] σ := by
  unfold fb_Cl_readAddress_65 at h
  simp only [Option.some.injEq, Prod.mk.injEq, true_and] at h
  exact s_Cl_readAddress_65  ⟨_, rfl, h⟩
def fb_Cl_readAddress_59  (x1 : Int) (σ : kS) : kRes := kg ((-2147483648 ≤ x1 ∧ x1 < 2147483648)) (if x1 = 36 then fb_Cl_readAddress_65  x1 σ else fb_Cl_readAddress_75  x1 σ)
theorem e_Cl_readAddress_59 {l : Launch} {G : kG} {yf : Int} {σf : kS}  {x1 : Int} {o2 : Option kV} {σ : kS} (h : fb_Cl_readAddress_59  x1 σ = some (some yf, σf)) : Rn l G dm_Cl_readAddress m_Cl_readAddress (kI fun y' σ' => y' = yf ∧ σ' = σf) 59 [some (.inr (7, 0)), some (.inl x1), o2] [] σ := by
  unfold fb_Cl_readAddress_59 at h
  obtain ⟨h1, h⟩ := kg_some h
  refine s_Cl_readAddress_59 h1 (fun c => ?_) (fun c => ?_)
  · rw [if_neg c] at h
    exact e_Cl_readAddress_75  h
  · rw [if_pos c] at h
    exact e_Cl_readAddress_65  h
def fb_Cl_readAddress_51  (x1 : Int) (σ : kS) : kRes := some (some (σ 2 0 3), σ)
theorem e_Cl_readAddress_51 {l : Launch} {G : kG} {yf : Int} {σf : kS}  {x1 : Int} {o2 : Option kV} {σ : kS} (h : fb_Cl_readAddress_51  x1 σ = some (some yf, σf)) : Rn l G dm_Cl_readAddress m_Cl_readAddress (kI fun y' σ' => y' = yf ∧ σ' = σf) 51 [some (.inr (7, 0)), some (.inl x1), o2] [] σ := by
  unfold fb_Cl_readAddress_51 at h
  simp only [Option.some.injEq, Prod.mk.injEq, true_and] at h
  exact s_Cl_readAddress_51  ⟨_, rfl, h⟩
def fb_Cl_readAddress_35  (x1 : Int) (σ : kS) : kRes := kg ((-2147483648 ≤ x1 ∧ x1 < 2147483648)) (if x1 = 46 then fb_Cl_readAddress_51  x1 (kup σ 7 0 9 ((σ 7 0 9) + 1)) else fb_Cl_readAddress_59  x1 (kup σ 7 0 9 ((σ 7 0 9) + 1)))
theorem e_Cl_readAddress_35 {l : Launch} {G : kG} {yf : Int} {σf : kS}  {x1 : Int} {o2 : Option kV} {σ : kS} (h : fb_Cl_readAddress_35  x1 σ = some (some yf, σf)) : Rn l G dm_Cl_readAddress m_Cl_readAddress (kI fun y' σ' => y' = yf ∧ σ' = σf) 35 [some (.inr (7, 0)), some (.inl x1), o2] [] σ := by
  unfold fb_Cl_readAddress_35 at h
  obtain ⟨h1, h⟩ := kg_some h
  refine s_Cl_readAddress_35 h1 (fun c => ?_) (fun c => ?_)
  · rw [if_neg c] at h
    exact e_Cl_readAddress_59  h
  · rw [if_pos c] at h
    exact e_Cl_readAddress_51  h
def fb_Cl_readAddress_34  (x1 : Int) (s0 : Int) (σ : kS) : kRes := some (some s0, σ)
theorem e_Cl_readAddress_34 {l : Launch} {G : kG} {yf : Int} {σf : kS}  {x1 : Int} {s0 : Int} {o2 : Option kV} {σ : kS} (h : fb_Cl_readAddress_34  x1 s0 σ = some (some yf, σf)) : Rn l G dm_Cl_readAddress m_Cl_readAddress (kI fun y' σ' => y' = yf ∧ σ' = σf) 34 [some (.inr (7, 0)), some (.inl x1), o2] [.inl s0] σ := by
  unfold fb_Cl_readAddress_34 at h
  simp only [Option.some.injEq, Prod.mk.injEq, true_and] at h
  exact s_Cl_readAddress_34  ⟨_, rfl, h⟩
def fb_Cl_readAddress_33  (x1 : Int) (σ : kS) : kRes := fb_Cl_readAddress_34  x1 (-1) σ
theorem e_Cl_readAddress_33 {l : Launch} {G : kG} {yf : Int} {σf : kS}  {x1 : Int} {o2 : Option kV} {σ : kS} (h : fb_Cl_readAddress_33  x1 σ = some (some yf, σf)) : Rn l G dm_Cl_readAddress m_Cl_readAddress (kI fun y' σ' => y' = yf ∧ σ' = σf) 33 [some (.inr (7, 0)), some (.inl x1), o2] [] σ := by
  unfold fb_Cl_readAddress_33 at h
  refine s_Cl_readAddress_33  ?_
  exact e_Cl_readAddress_34  h
def fb_Cl_readAddress_30  (x1 : Int) (s0 : Int) (σ : kS) : kRes := fb_Cl_readAddress_34  x1 s0 σ
theorem e_Cl_readAddress_30 {l : Launch} {G : kG} {yf : Int} {σf : kS}  {x1 : Int} {s0 : Int} {o2 : Option kV} {σ : kS} (h : fb_Cl_readAddress_30  x1 s0 σ = some (some yf, σf)) : Rn l G dm_Cl_readAddress m_Cl_readAddress (kI fun y' σ' => y' = yf ∧ σ' = σf) 30 [some (.inr (7, 0)), some (.inl x1), o2] [.inl s0] σ := by
  unfold fb_Cl_readAddress_30 at h
  refine s_Cl_readAddress_30  ?_
  exact e_Cl_readAddress_34  h
def fb_Cl_readAddress_22  (x1 : Int) (σ : kS) : kRes := kbi (f_Cl_nextLineWith 0 σ) fun y σ1 => fb_Cl_readAddress_30  x1 y σ1
theorem e_Cl_readAddress_22 {l : Launch} {G : kG} {yf : Int} {σf : kS}  {x1 : Int} {o2 : Option kV} {σ : kS} (h : fb_Cl_readAddress_22  x1 σ = some (some yf, σf)) : Rn l G dm_Cl_readAddress m_Cl_readAddress (kI fun y' σ' => y' = yf ∧ σ' = σf) 22 [some (.inr (7, 0)), some (.inl x1), o2] [] σ := by
  unfold fb_Cl_readAddress_22 at h
  obtain ⟨y, σ1, hc, h⟩ := kbi_some h
  refine s_Cl_readAddress_22  (by decide) (E_Cl_nextLineWith hc) (fun y2 σ2 e2 => ?_)
  obtain ⟨rfl, rfl⟩ := e2
  exact e_Cl_readAddress_30  h
def fb_Cl_readAddress_19  (x1 : Int) (s0 : Int) (σ : kS) : kRes := kg ((-2147483648 ≤ s0 ∧ s0 < 2147483648)) (if s0 = 0 then fb_Cl_readAddress_33  x1 σ else fb_Cl_readAddress_22  x1 σ)
theorem e_Cl_readAddress_19 {l : Launch} {G : kG} {yf : Int} {σf : kS}  {x1 : Int} {s0 : Int} {o2 : Option kV} {σ : kS} (h : fb_Cl_readAddress_19  x1 s0 σ = some (some yf, σf)) : Rn l G dm_Cl_readAddress m_Cl_readAddress (kI fun y' σ' => y' = yf ∧ σ' = σf) 19 [some (.inr (7, 0)), some (.inl x1), o2] [.inl s0] σ := by
  unfold fb_Cl_readAddress_19 at h
  obtain ⟨h1, h⟩ := kg_some h
  refine s_Cl_readAddress_19 h1 (fun c => ?_) (fun c => ?_)
  · rw [if_pos c] at h
    exact e_Cl_readAddress_33  h
  · rw [if_neg c] at h
    exact e_Cl_readAddress_22  h
def fb_Cl_readAddress_11  (x1 : Int) (σ : kS) : kRes := kbi (f_Cl_readPattern 0 σ) fun y σ1 => fb_Cl_readAddress_19  x1 y σ1
theorem e_Cl_readAddress_11 {l : Launch} {G : kG} {yf : Int} {σf : kS}  {x1 : Int} {o2 : Option kV} {σ : kS} (h : fb_Cl_readAddress_11  x1 σ = some (some yf, σf)) : Rn l G dm_Cl_readAddress m_Cl_readAddress (kI fun y' σ' => y' = yf ∧ σ' = σf) 11 [some (.inr (7, 0)), some (.inl x1), o2] [] σ := by
  unfold fb_Cl_readAddress_11 at h
  obtain ⟨y, σ1, hc, h⟩ := kbi_some h
  refine s_Cl_readAddress_11  (by decide) (E_Cl_readPattern hc) (fun y2 σ2 e2 => ?_)
  obtain ⟨rfl, rfl⟩ := e2
  exact e_Cl_readAddress_19  h
def fb_Cl_readAddress_4  (s0 : Int) (σ : kS) : kRes := kg ((-2147483648 ≤ s0 ∧ s0 < 2147483648)) (if s0 = 47 then fb_Cl_readAddress_11  s0 σ else fb_Cl_readAddress_35  s0 σ)
theorem e_Cl_readAddress_4 {l : Launch} {G : kG} {yf : Int} {σf : kS}  {s0 : Int} {o1 : Option kV} {o2 : Option kV} {σ : kS} (h : fb_Cl_readAddress_4  s0 σ = some (some yf, σf)) : Rn l G dm_Cl_readAddress m_Cl_readAddress (kI fun y' σ' => y' = yf ∧ σ' = σf) 4 [some (.inr (7, 0)), o1, o2] [.inl s0] σ := by
  unfold fb_Cl_readAddress_4 at h
  obtain ⟨h1, h⟩ := kg_some h
  refine s_Cl_readAddress_4 h1 (fun c => ?_) (fun c => ?_)
  · rw [if_neg c] at h
    exact e_Cl_readAddress_35  h
  · rw [if_pos c] at h
    exact e_Cl_readAddress_11  h
def fb_Cl_readAddress_0   (σ : kS) : kRes := kbi (f_Cl_here  σ) fun y σ1 => fb_Cl_readAddress_4  y σ1
theorem e_Cl_readAddress_0 {l : Launch} {G : kG} {yf : Int} {σf : kS}   {o1 : Option kV} {o2 : Option kV} {σ : kS} (h : fb_Cl_readAddress_0   σ = some (some yf, σf)) : Rn l G dm_Cl_readAddress m_Cl_readAddress (kI fun y' σ' => y' = yf ∧ σ' = σf) 0 [some (.inr (7, 0)), o1, o2] [] σ := by
  unfold fb_Cl_readAddress_0 at h
  obtain ⟨y, σ1, hc, h⟩ := kbi_some h
  refine s_Cl_readAddress_0  (by decide) (E_Cl_here hc) (fun y2 σ2 e2 => ?_)
  obtain ⟨rfl, rfl⟩ := e2
  exact e_Cl_readAddress_4  h
def f_Cl_readAddress  (σ : kS) : kRes := fb_Cl_readAddress_0  σ
theorem E_Cl_readAddress {l : Launch} {G : kG} {yf : Int} {σf : kS}  {σ : kS} (h : f_Cl_readAddress  σ = some (some yf, σf)) : Call l G dm_Cl_readAddress y_Cl_readAddress m_Cl_readAddress [.inr (7, 0)] σ (kI fun y' σ' => y' = yf ∧ σ' = σf) := by
  unfold f_Cl_readAddress at h
  exact Call.of (by decide +kernel) rfl (Nat.le_of_ble_eq_true rfl) (e_Cl_readAddress_0 h)
/-! Cl_readRange -/
def fb_Cl_readRange_164  (x1 : Int) (s0 : Int) (σ : kS) : kRes := kg ((s0 = 0 ∨ s0 = 1)) (some (some s0, σ))
theorem e_Cl_readRange_164 {l : Launch} {G : kG} {yf : Int} {σf : kS}  {x1 : Int} {s0 : Int}  {σ : kS} (h : fb_Cl_readRange_164  x1 s0 σ = some (some yf, σf)) : Rn l G dm_Cl_readRange m_Cl_readRange (kI fun y' σ' => y' = yf ∧ σ' = σf) 164 [some (.inr (7, 0)), some (.inl x1)] [.inl s0] σ := by
  unfold fb_Cl_readRange_164 at h
  obtain ⟨h1, h⟩ := kg_some h
  simp only [Option.some.injEq, Prod.mk.injEq, true_and] at h
  exact s_Cl_readRange_164 h1 ⟨_, rfl, h⟩
def fb_Cl_readRange_163  (x1 : Int) (σ : kS) : kRes := fb_Cl_readRange_164  x1 0 σ
theorem e_Cl_readRange_163 {l : Launch} {G : kG} {yf : Int} {σf : kS}  {x1 : Int}  {σ : kS} (h : fb_Cl_readRange_163  x1 σ = some (some yf, σf)) : Rn l G dm_Cl_readRange m_Cl_readRange (kI fun y' σ' => y' = yf ∧ σ' = σf) 163 [some (.inr (7, 0)), some (.inl x1)] [] σ := by
  unfold fb_Cl_readRange_163 at h
  refine s_Cl_readRange_163  ?_
  exact e_Cl_readRange_164  h
def fb_Cl_readRange_159  (x1 : Int) (σ : kS) : kRes := fb_Cl_readRange_164  x1 1 σ
theorem e_Cl_readRange_159 {l : Launch} {G : kG} {yf : Int} {σf : kS}  {x1 : Int}  {σ : kS} (h : fb_Cl_readRange_159  x1 σ = some (some yf, σf)) : Rn l G dm_Cl_readRange m_Cl_readRange (kI fun y' σ' => y' = yf ∧ σ' = σf) 159 [some (.inr (7, 0)), some (.inl x1)] [] σ := by
  unfold fb_Cl_readRange_159 at h
  refine s_Cl_readRange_159  ?_
  exact e_Cl_readRange_164  h
def fb_Cl_readRange_148  (x1 : Int) (σ : kS) : kRes := kg ((-2147483648 ≤ σ 7 0 11 ∧ σ 7 0 11 < 2147483648) ∧ (-2147483648 ≤ σ 7 0 12 ∧ σ 7 0 12 < 2147483648)) (if (σ 7 0 12) < (σ 7 0 11) then fb_Cl_readRange_163  x1 σ else fb_Cl_readRange_159  x1 σ)
theorem e_Cl_readRange_148 {l : Launch} {G : kG} {yf : Int} {σf : kS}  {x1 : Int}  {σ : kS} (h : fb_Cl_readRange_148  x1 σ = some (some yf, σf)) : Rn l G dm_Cl_readRange m_Cl_readRange (kI fun y' σ' => y' = yf ∧ σ' = σf) 148 [some (.inr (7, 0)), some (.inl x1)] [] σ := by
  unfold fb_Cl_readRange_148 at h
  obtain ⟨⟨h1, h2⟩, h⟩ := kg_some h
  refine s_Cl_readRange_148 h1 h2 (fun c => ?_) (fun c => ?_)
  · rw [if_pos c] at h
    exact e_Cl_readRange_163  h
  · rw [if_neg c] at h
    exact e_Cl_readRange_159  h
def fb_Cl_readRange_141  (x1 : Int) (σ : kS) : kRes := kg ((-2147483648 ≤ σ 7 0 11 ∧ σ 7 0 11 < 2147483648)) (if (σ 7 0 11) < 0 then fb_Cl_readRange_163  x1 σ else fb_Cl_readRange_148  x1 σ)
theorem e_Cl_readRange_141 {l : Launch} {G : kG} {yf : Int} {σf : kS}  {x1 : Int}  {σ : kS} (h : fb_Cl_readRange_141  x1 σ = some (some yf, σf)) : Rn l G dm_Cl_readRange m_Cl_readRange (kI fun y' σ' => y' = yf ∧ σ' = σf) 141 [some (.inr (7, 0)), some (.inl x1)] [] σ := by
  unfold fb_Cl_readRange_141 at h
  obtain ⟨h1, h⟩ := kg_some h
  refine s_Cl_readRange_141 h1 (fun c => ?_) (fun c => ?_)
  · rw [if_pos c] at h
    exact e_Cl_readRange_163  h
  · rw [if_neg c] at h
    exact e_Cl_readRange_148  h
def fb_Cl_readRange_138  (x1 : Int) (s0 : Int) (σ : kS) : kRes := fb_Cl_readRange_141  x1 (kup σ 7 0 12 s0)
theorem e_Cl_readRange_138 {l : Launch} {G : kG} {yf : Int} {σf : kS}  {x1 : Int} {s0 : Int}  {σ : kS} (h : fb_Cl_readRange_138  x1 s0 σ = some (some yf, σf)) : Rn l G dm_Cl_readRange m_Cl_readRange (kI fun y' σ' => y' = yf ∧ σ' = σf) 138 [some (.inr (7, 0)), some (.inl x1)] [.inl s0, .inr (7, 0)] σ := by
  unfold fb_Cl_readRange_138 at h
  refine s_Cl_readRange_138  ?_
  exact e_Cl_readRange_141  h
def fb_Cl_readRange_123  (x1 : Int) (σ : kS) : kRes := kbi (f_Cl_readAddress  (kup σ 7 0 9 ((σ 7 0 9) + 1))) fun y σ1 => fb_Cl_readRange_138  x1 y σ1
theorem e_Cl_readRange_123 {l : Launch} {G : kG} {yf : Int} {σf : kS}  {x1 : Int}  {σ : kS} (h : fb_Cl_readRange_123  x1 σ = some (some yf, σf)) : Rn l G dm_Cl_readRange m_Cl_readRange (kI fun y' σ' => y' = yf ∧ σ' = σf) 123 [some (.inr (7, 0)), some (.inl x1)] [] σ := by
  unfold fb_Cl_readRange_123 at h
  obtain ⟨y, σ1, hc, h⟩ := kbi_some h
  refine s_Cl_readRange_123  (by decide) (E_Cl_readAddress hc) (fun y2 σ2 e2 => ?_)
  obtain ⟨rfl, rfl⟩ := e2
  exact e_Cl_readRange_138  h
def fb_Cl_readRange_118  (x1 : Int) (s0 : Int) (σ : kS) : kRes := kg ((-2147483648 ≤ s0 ∧ s0 < 2147483648)) (if s0 = 44 then fb_Cl_readRange_123  x1 σ else fb_Cl_readRange_141  x1 σ)
theorem e_Cl_readRange_118 {l : Launch} {G : kG} {yf : Int} {σf : kS}  {x1 : Int} {s0 : Int}  {σ : kS} (h : fb_Cl_readRange_118  x1 s0 σ = some (some yf, σf)) : Rn l G dm_Cl_readRange m_Cl_readRange (kI fun y' σ' => y' = yf ∧ σ' = σf) 118 [some (.inr (7, 0)), some (.inl x1)] [.inl s0] σ := by
  unfold fb_Cl_readRange_118 at h
  obtain ⟨h1, h⟩ := kg_some h
  refine s_Cl_readRange_118 h1 (fun c => ?_) (fun c => ?_)
  · rw [if_neg c] at h
    exact e_Cl_readRange_141  h
  · rw [if_pos c] at h
    exact e_Cl_readRange_123  h
def fb_Cl_readRange_114  (x1 : Int) (σ : kS) : kRes := kbi (f_Cl_here  σ) fun y σ1 => fb_Cl_readRange_118  x1 y σ1
theorem e_Cl_readRange_114 {l : Launch} {G : kG} {yf : Int} {σf : kS}  {x1 : Int}  {σ : kS} (h : fb_Cl_readRange_114  x1 σ = some (some yf, σf)) : Rn l G dm_Cl_readRange m_Cl_readRange (kI fun y' σ' => y' = yf ∧ σ' = σf) 114 [some (.inr (7, 0)), some (.inl x1)] [] σ := by
  unfold fb_Cl_readRange_114 at h
  obtain ⟨y, σ1, hc, h⟩ := kbi_some h
  refine s_Cl_readRange_114  (by decide) (E_Cl_here hc) (fun y2 σ2 e2 => ?_)
  obtain ⟨rfl, rfl⟩ := e2
  exact e_Cl_readRange_118  h
def fb_Cl_readRange_96  (x1 : Int) (s0 : Int) (σ : kS) : kRes := kg ((-2147483648 ≤ (kup (kup σ 7 0 11 s0) 7 0 12 ((kup σ 7 0 11 s0) 7 0 11)) 7 0 11 ∧ (kup (kup σ 7 0 11 s0) 7 0 12 ((kup σ 7 0 11 s0) 7 0 11)) 7 0 11 < 2147483648)) (if ((kup (kup σ 7 0 11 s0) 7 0 12 ((kup σ 7 0 11 s0) 7 0 11)) 7 0 11) < 0 then fb_Cl_readRange_141  x1 (kup (kup σ 7 0 11 s0) 7 0 12 ((kup σ 7 0 11 s0) 7 0 11)) else fb_Cl_readRange_114  x1 (kup (kup σ 7 0 11 s0) 7 0 12 ((kup σ 7 0 11 s0) 7 0 11)))
theorem e_Cl_readRange_96 {l : Launch} {G : kG} {yf : Int} {σf : kS}  {x1 : Int} {s0 : Int}  {σ : kS} (h : fb_Cl_readRange_96  x1 s0 σ = some (some yf, σf)) : Rn l G dm_Cl_readRange m_Cl_readRange (kI fun y' σ' => y' = yf ∧ σ' = σf) 96 [some (.inr (7, 0)), some (.inl x1)] [.inl s0, .inr (7, 0)] σ := by
  unfold fb_Cl_readRange_96 at h
  obtain ⟨h1, h⟩ := kg_some h
  refine s_Cl_readRange_96 h1 (fun c => ?_) (fun c => ?_)
  · rw [if_pos c] at h
    exact e_Cl_readRange_141  h
  · rw [if_neg c] at h
    exact e_Cl_readRange_114  h
def fb_Cl_readRange_86  (x1 : Int) (σ : kS) : kRes := kbi (f_Cl_readAddress  (kup σ 7 0 10 1)) fun y σ1 => fb_Cl_readRange_96  x1 y σ1
theorem e_Cl_readRange_86 {l : Launch} {G : kG} {yf : Int} {σf : kS}  {x1 : Int}  {σ : kS} (h : fb_Cl_readRange_86  x1 σ = some (some yf, σf)) : Rn l G dm_Cl_readRange m_Cl_readRange (kI fun y' σ' => y' = yf ∧ σ' = σf) 86 [some (.inr (7, 0)), some (.inl x1)] [] σ := by
  unfold fb_Cl_readRange_86 at h
  obtain ⟨y, σ1, hc, h⟩ := kbi_some h
  refine s_Cl_readRange_86  (by decide) (E_Cl_readAddress hc) (fun y2 σ2 e2 => ?_)
  obtain ⟨rfl, rfl⟩ := e2
  exact e_Cl_readRange_96  h
def fb_Cl_readRange_84  (x1 : Int) (σ : kS) : kRes := some (some 1, σ)
theorem e_Cl_readRange_84 {l : Launch} {G : kG} {yf : Int} {σf : kS}  {x1 : Int}  {σ : kS} (h : fb_Cl_readRange_84  x1 σ = some (some yf, σf)) : Rn l G dm_Cl_readRange m_Cl_readRange (kI fun y' σ' => y' = yf ∧ σ' = σf) 84 [some (.inr (7, 0)), some (.inl x1)] [] σ := by
  unfold fb_Cl_readRange_84 at h
  simp only [Option.some.injEq, Prod.mk.injEq, true_and] at h
  exact s_Cl_readRange_84  ⟨_, rfl, h⟩
def fb_Cl_readRange_81  (x1 : Int) (s0 : Int) (σ : kS) : kRes := kg ((-2147483648 ≤ s0 ∧ s0 < 2147483648)) (if s0 = 0 then fb_Cl_readRange_84  x1 σ else fb_Cl_readRange_86  x1 σ)
theorem e_Cl_readRange_81 {l : Launch} {G : kG} {yf : Int} {σf : kS}  {x1 : Int} {s0 : Int}  {σ : kS} (h : fb_Cl_readRange_81  x1 s0 σ = some (some yf, σf)) : Rn l G dm_Cl_readRange m_Cl_readRange (kI fun y' σ' => y' = yf ∧ σ' = σf) 81 [some (.inr (7, 0)), some (.inl x1)] [.inl s0] σ := by
  unfold fb_Cl_readRange_81 at h
  obtain ⟨h1, h⟩ := kg_some h
  refine s_Cl_readRange_81 h1 (fun c => ?_) (fun c => ?_)
  · rw [if_neg c] at h
    exact e_Cl_readRange_86  h
  · rw [if_pos c] at h
    exact e_Cl_readRange_84  h
def fb_Cl_readRange_77  (x1 : Int) (σ : kS) : kRes := kbi (f_Cl_isDigit x1 σ) fun y σ1 => fb_Cl_readRange_81  x1 y σ1
theorem e_Cl_readRange_77 {l : Launch} {G : kG} {yf : Int} {σf : kS}  {x1 : Int}  {σ : kS} (h : fb_Cl_readRange_77  x1 σ = some (some yf, σf)) : Rn l G dm_Cl_readRange m_Cl_readRange (kI fun y' σ' => y' = yf ∧ σ' = σf) 77 [some (.inr (7, 0)), some (.inl x1)] [] σ := by
  unfold fb_Cl_readRange_77 at h
  obtain ⟨y, σ1, hc, h⟩ := kbi_some h
  refine s_Cl_readRange_77  (by decide) (E_Cl_isDigit hc) (fun y2 σ2 e2 => ?_)
  obtain ⟨rfl, rfl⟩ := e2
  exact e_Cl_readRange_81  h
def fb_Cl_readRange_71  (x1 : Int) (σ : kS) : kRes := kg ((-2147483648 ≤ x1 ∧ x1 < 2147483648)) (if x1 = 47 then fb_Cl_readRange_86  x1 σ else fb_Cl_readRange_77  x1 σ)
theorem e_Cl_readRange_71 {l : Launch} {G : kG} {yf : Int} {σf : kS}  {x1 : Int}  {σ : kS} (h : fb_Cl_readRange_71  x1 σ = some (some yf, σf)) : Rn l G dm_Cl_readRange m_Cl_readRange (kI fun y' σ' => y' = yf ∧ σ' = σf) 71 [some (.inr (7, 0)), some (.inl x1)] [] σ := by
  unfold fb_Cl_readRange_71 at h
  obtain ⟨h1, h⟩ := kg_some h
  refine s_Cl_readRange_71 h1 (fun c => ?_) (fun c => ?_)
  · rw [if_pos c] at h
    exact e_Cl_readRange_86  h
  · rw [if_neg c] at h
    exact e_Cl_readRange_77  h
def fb_Cl_readRange_65  (x1 : Int) (σ : kS) : kRes := kg ((-2147483648 ≤ x1 ∧ x1 < 2147483648)) (if x1 = 36 then fb_Cl_readRange_86  x1 σ else fb_Cl_readRange_71  x1 σ)
theorem e_Cl_readRange_65 {l : Launch} {G : kG} {yf : Int} {σf : kS}  {x1 : Int}  {σ : kS} (h : fb_Cl_readRange_65  x1 σ = some (some yf, σf)) : Rn l G dm_Cl_readRange m_Cl_readRange (kI fun y' σ' => y' = yf ∧ σ' = σf) 65 [some (.inr (7, 0)), some (.inl x1)] [] σ := by
  unfold fb_Cl_readRange_65 at h
  obtain ⟨h1, h⟩ := kg_some h
  refine s_Cl_readRange_65 h1 (fun c => ?_) (fun c => ?_)
  · rw [if_pos c] at h
    exact e_Cl_readRange_86  h
  · rw [if_neg c] at h
    exact e_Cl_readRange_71  h
def fb_Cl_readRange_59  (x1 : Int) (σ : kS) : kRes := kg ((-2147483648 ≤ x1 ∧ x1 < 2147483648)) (if x1 = 46 then fb_Cl_readRange_86  x1 σ else fb_Cl_readRange_65  x1 σ)
theorem e_Cl_readRange_59 {l : Launch} {G : kG} {yf : Int} {σf : kS}  {x1 : Int}  {σ : kS} (h : fb_Cl_readRange_59  x1 σ = some (some yf, σf)) : Rn l G dm_Cl_readRange m_Cl_readRange (kI fun y' σ' => y' = yf ∧ σ' = σf) 59 [some (.inr (7, 0)), some (.inl x1)] [] σ := by
  unfold fb_Cl_readRange_59 at h
  obtain ⟨h1, h⟩ := kg_some h
  refine s_Cl_readRange_59 h1 (fun c => ?_) (fun c => ?_)
  · rw [if_pos c] at h
    exact e_Cl_readRange_86  h
  · rw [if_neg c] at h
    exact e_Cl_readRange_65  h
def fb_Cl_readRange_42  (x1 : Int) (σ : kS) : kRes := some (some 1, kup (kup σ 7 0 10 1) 7 0 9 (((kup σ 7 0 10 1) 7 0 9) + 1))
theorem e_Cl_readRange_42 {l : Launch} {G : kG} {yf : Int} {σf : kS}  {x1 : Int}  {σ : kS} (h : fb_Cl_readRange_42  x1 σ = some (some yf, σf)) : Rn l G dm_Cl_readRange m_Cl_readRange (kI fun y' σ' => y' = yf ∧ σ' = σf) 42 [some (.inr (7, 0)), some (.inl x1)] [] σ := by
  unfold fb_Cl_readRange_42 at h
  simp only [Option.some.injEq, Prod.mk.injEq, true_and] at h
  exact s_Cl_readRange_42  ⟨_, rfl, h⟩
def fb_Cl_readRange_38  (x1 : Int) (σ : kS) : kRes := kbu (f_Cl_takeAllIfNoRange  σ) fun σ1 => fb_Cl_readRange_42  x1 σ1
theorem e_Cl_readRange_38 {l : Launch} {G : kG} {yf : Int} {σf : kS}  {x1 : Int}  {σ : kS} (h : fb_Cl_readRange_38  x1 σ = some (some yf, σf)) : Rn l G dm_Cl_readRange m_Cl_readRange (kI fun y' σ' => y' = yf ∧ σ' = σf) 38 [some (.inr (7, 0)), some (.inl x1)] [] σ := by
  unfold fb_Cl_readRange_38 at h
  obtain ⟨σ1, hc, h⟩ := kbu_some h
  refine s_Cl_readRange_38  (by decide) (E_Cl_takeAllIfNoRange hc) (fun σ2 e2 => ?_)
  subst e2
  exact e_Cl_readRange_42  h
def fb_Cl_readRange_31  (s0 : Int) (σ : kS) : kRes := kg ((-2147483648 ≤ s0 ∧ s0 < 2147483648)) (if s0 = 37 then fb_Cl_readRange_38  s0 σ else fb_Cl_readRange_59  s0 σ)
theorem e_Cl_readRange_31 {l : Launch} {G : kG} {yf : Int} {σf : kS}  {s0 : Int} {o1 : Option kV} {σ : kS} (h : fb_Cl_readRange_31  s0 σ = some (some yf, σf)) : Rn l G dm_Cl_readRange m_Cl_readRange (kI fun y' σ' => y' = yf ∧ σ' = σf) 31 [some (.inr (7, 0)), o1] [.inl s0] σ := by
  unfold fb_Cl_readRange_31 at h
  obtain ⟨h1, h⟩ := kg_some h
  refine s_Cl_readRange_31 h1 (fun c => ?_) (fun c => ?_)
  · rw [if_neg c] at h
    exact e_Cl_readRange_59  h
  · rw [if_pos c] at h
    exact e_Cl_readRange_38  h
def fb_Cl_readRange_0   (σ : kS) : kRes := kbi (f_Cl_here  (kup (kup (kup σ 7 0 11 (σ 2 0 3)) 7 0 12 ((kup σ 7 0 11 (σ 2 0 3)) 2 0 3)) 7 0 10 0)) fun y σ1 => fb_Cl_readRange_31  y σ1
theorem e_Cl_readRange_0 {l : Launch} {G : kG} {yf : Int} {σf : kS}   {o1 : Option kV} {σ : kS} (h : fb_Cl_readRange_0   σ = some (some yf, σf)) : Rn l G dm_Cl_readRange m_Cl_readRange (kI fun y' σ' => y' = yf ∧ σ' = σf) 0 [some (.inr (7, 0)), o1] [] σ := by
  unfold fb_Cl_readRange_0 at h
  obtain ⟨y, σ1, hc, h⟩ := kbi_some h
  refine s_Cl_readRange_0  (by decide) (E_Cl_here hc) (fun y2 σ2 e2 => ?_)
  obtain ⟨rfl, rfl⟩ := e2
  exact e_Cl_readRange_31  h
def f_Cl_readRange  (σ : kS) : kRes := fb_Cl_readRange_0  σ
theorem E_Cl_readRange {l : Launch} {G : kG} {yf : Int} {σf : kS}  {σ : kS} (h : f_Cl_readRange  σ = some (some yf, σf)) : Call l G dm_Cl_readRange y_Cl_readRange m_Cl_readRange [.inr (7, 0)] σ (kI fun y' σ' => y' = yf ∧ σ' = σf) := by
  unfold f_Cl_readRange at h
  exact Call.of (by decide +kernel) rfl (Nat.le_of_ble_eq_true rfl) (e_Cl_readRange_0 h)
/-! Di_addJob -/
def fb_Di_addJob_37  (x1 : Int) (x3 : Int) (x4 : Int) (x5 : Int) (u : Nat) (σ : kS) : kRes := kg ((0 ≤ x5 ∧ x5 < (3 : Nat)) ∧ (x1 = 0 ∨ x1 = 1)) (some (some 1, kup (kup (kup σ 13 0 (Int.toNat x5) x1) 14 0 (Int.toNat x5) ((x4 - x3) + 2)) 3 0 6 (((kup (kup σ 13 0 (Int.toNat x5) x1) 14 0 (Int.toNat x5) ((x4 - x3) + 2)) 3 0 6) + 1)))
theorem e_Di_addJob_37 {l : Launch} {G : kG} {yf : Int} {σf : kS}  {x1 : Int} {x3 : Int} {x4 : Int} {x5 : Int} {u : Nat}  {σ : kS} (h : fb_Di_addJob_37  x1 x3 x4 x5 u σ = some (some yf, σf)) : Rn l G dm_Di_addJob m_Di_addJob (kI fun y' σ' => y' = yf ∧ σ' = σf) 37 [some (.inr (3, 0)), some (.inl x1), some (.inr (2, u)), some (.inl x3), some (.inl x4), some (.inl x5)] [] σ := by
  unfold fb_Di_addJob_37 at h
  obtain ⟨⟨h1, h2⟩, h⟩ := kg_some h
  simp only [Option.some.injEq, Prod.mk.injEq, true_and] at h
  exact s_Di_addJob_37 h1 h2 ⟨_, rfl, h⟩
def fb_Di_addJob_10  (x1 : Int) (x3 : Int) (x4 : Int) (u : Nat) (σ : kS) : kRes := kg ((0 ≤ kmod ((σ 3 0 5) + (σ 3 0 6)) 3 ∧ kmod ((σ 3 0 5) + (σ 3 0 6)) 3 < (3 : Nat))) (kbu (f_Te_copyLines x3 x4 (6 + Int.toNat (kmod ((σ 3 0 5) + (σ 3 0 6)) 3)) u σ) fun σ1 => fb_Di_addJob_37  x1 x3 x4 (kmod ((σ 3 0 5) + (σ 3 0 6)) 3) u σ1)
theorem e_Di_addJob_10 {l : Launch} {G : kG} {yf : Int} {σf : kS}  {x1 : Int} {x3 : Int} {x4 : Int} {u : Nat} {o5 : Option kV} {σ : kS} (h : fb_Di_addJob_10  x1 x3 x4 u σ = some (some yf, σf)) : Rn l G dm_Di_addJob m_Di_addJob (kI fun y' σ' => y' = yf ∧ σ' = σf) 10 [some (.inr (3, 0)), some (.inl x1), some (.inr (2, u)), some (.inl x3), some (.inl x4), o5] [] σ := by
  unfold fb_Di_addJob_10 at h
  obtain ⟨h1, h⟩ := kg_some h
  obtain ⟨σ1, hc, h⟩ := kbu_some h
  refine s_Di_addJob_10 h1 (by decide) (E_Te_copyLines hc) (fun σ2 e2 => ?_)
  subst e2
  exact e_Di_addJob_37  h
def fb_Di_addJob_8  (x1 : Int) (x3 : Int) (x4 : Int) (u : Nat) (σ : kS) : kRes := some (some 0, σ)
theorem e_Di_addJob_8 {l : Launch} {G : kG} {yf : Int} {σf : kS}  {x1 : Int} {x3 : Int} {x4 : Int} {u : Nat} {o5 : Option kV} {σ : kS} (h : fb_Di_addJob_8  x1 x3 x4 u σ = some (some yf, σf)) : Rn l G dm_Di_addJob m_Di_addJob (kI fun y' σ' => y' = yf ∧ σ' = σf) 8 [some (.inr (3, 0)), some (.inl x1), some (.inr (2, u)), some (.inl x3), some (.inl x4), o5] [] σ := by
  unfold fb_Di_addJob_8 at h
  simp only [Option.some.injEq, Prod.mk.injEq, true_and] at h
  exact s_Di_addJob_8  ⟨_, rfl, h⟩
def fb_Di_addJob_0  (x1 : Int) (x3 : Int) (x4 : Int) (u : Nat) (σ : kS) : kRes := kg ((-2147483648 ≤ σ 3 0 6 ∧ σ 3 0 6 < 2147483648)) (if (σ 3 0 6) < 3 then fb_Di_addJob_10  x1 x3 x4 u σ else fb_Di_addJob_8  x1 x3 x4 u σ)
theorem e_Di_addJob_0 {l : Launch} {G : kG} {yf : Int} {σf : kS}  {x1 : Int} {x3 : Int} {x4 : Int} {u : Nat} {o5 : Option kV} {σ : kS} (h : fb_Di_addJob_0  x1 x3 x4 u σ = some (some yf, σf)) : Rn l G dm_Di_addJob m_Di_addJob (kI fun y' σ' => y' = yf ∧ σ' = σf) 0 [some (.inr (3, 0)), some (.inl x1), some (.inr (2, u)), some (.inl x3), some (.inl x4), o5] [] σ := by
  unfold fb_Di_addJob_0 at h
  obtain ⟨h1, h⟩ := kg_some h
  refine s_Di_addJob_0 h1 (fun c => ?_) (fun c => ?_)
  · rw [if_pos c] at h
    exact e_Di_addJob_10  h
  · rw [if_neg c] at h
    exact e_Di_addJob_8  h
def f_Di_addJob (x1 : Int) (x3 : Int) (x4 : Int) (u : Nat) (σ : kS) : kRes := fb_Di_addJob_0 x1 x3 x4 u σ
theorem E_Di_addJob {l : Launch} {G : kG} {yf : Int} {σf : kS} {x1 : Int} {x3 : Int} {x4 : Int} {u : Nat} {σ : kS} (h : f_Di_addJob x1 x3 x4 u σ = some (some yf, σf)) : Call l G dm_Di_addJob y_Di_addJob m_Di_addJob [.inr (3, 0), .inl x1, .inr (2, u), .inl x3, .inl x4] σ (kI fun y' σ' => y' = yf ∧ σ' = σf) := by
  unfold f_Di_addJob at h
  exact Call.of (by decide +kernel) rfl (Nat.le_of_ble_eq_true rfl) (e_Di_addJob_0 h)
/-! Cl_carryOut -/
def fb_Cl_carryOut_185  (s0 : Int) (σ : kS) : kRes := kg ((s0 = 0 ∨ s0 = 1)) (some (some s0, σ))
theorem e_Cl_carryOut_185 {l : Launch} {G : kG} {yf : Int} {σf : kS}  {s0 : Int}  {σ : kS} (h : fb_Cl_carryOut_185  s0 σ = some (some yf, σf)) : Rn l G dm_Cl_carryOut m_Cl_carryOut (kI fun y' σ' => y' = yf ∧ σ' = σf) 185 [some (.inr (7, 0)), some (.inr (6, 2))] [.inl s0] σ := by
  unfold fb_Cl_carryOut_185 at h
  obtain ⟨h1, h⟩ := kg_some h
  simp only [Option.some.injEq, Prod.mk.injEq, true_and] at h
  exact s_Cl_carryOut_185 h1 ⟨_, rfl, h⟩
def fb_Cl_carryOut_184   (σ : kS) : kRes := fb_Cl_carryOut_185  0 σ
theorem e_Cl_carryOut_184 {l : Launch} {G : kG} {yf : Int} {σf : kS}    {σ : kS} (h : fb_Cl_carryOut_184   σ = some (some yf, σf)) : Rn l G dm_Cl_carryOut m_Cl_carryOut (kI fun y' σ' => y' = yf ∧ σ' = σf) 184 [some (.inr (7, 0)), some (.inr (6, 2))] [] σ := by
  unfold fb_Cl_carryOut_184 at h
  refine s_Cl_carryOut_184  ?_
  exact e_Cl_carryOut_185  h
def fb_Cl_carryOut_180   (σ : kS) : kRes := fb_Cl_carryOut_185  1 σ
theorem e_Cl_carryOut_180 {l : Launch} {G : kG} {yf : Int} {σf : kS}    {σ : kS} (h : fb_Cl_carryOut_180   σ = some (some yf, σf)) : Rn l G dm_Cl_carryOut m_Cl_carryOut (kI fun y' σ' => y' = yf ∧ σ' = σf) 180 [some (.inr (7, 0)), some (.inr (6, 2))] [] σ := by
  unfold fb_Cl_carryOut_180 at h
  refine s_Cl_carryOut_180  ?_
  exact e_Cl_carryOut_185  h
def fb_Cl_carryOut_177  (s0 : Int) (σ : kS) : kRes := kg ((-2147483648 ≤ s0 ∧ s0 < 2147483648)) (if s0 = 0 then fb_Cl_carryOut_184  σ else fb_Cl_carryOut_180  σ)
theorem e_Cl_carryOut_177 {l : Launch} {G : kG} {yf : Int} {σf : kS}  {s0 : Int}  {σ : kS} (h : fb_Cl_carryOut_177  s0 σ = some (some yf, σf)) : Rn l G dm_Cl_carryOut m_Cl_carryOut (kI fun y' σ' => y' = yf ∧ σ' = σf) 177 [some (.inr (7, 0)), some (.inr (6, 2))] [.inl s0] σ := by
  unfold fb_Cl_carryOut_177 at h
  obtain ⟨h1, h⟩ := kg_some h
  refine s_Cl_carryOut_177 h1 (fun c => ?_) (fun c => ?_)
  · rw [if_pos c] at h
    exact e_Cl_carryOut_184  h
  · rw [if_neg c] at h
    exact e_Cl_carryOut_180  h
def fb_Cl_carryOut_173   (σ : kS) : kRes := kbi (f_Cl_change  σ) fun y σ1 => fb_Cl_carryOut_177  y σ1
theorem e_Cl_carryOut_173 {l : Launch} {G : kG} {yf : Int} {σf : kS}    {σ : kS} (h : fb_Cl_carryOut_173   σ = some (some yf, σf)) : Rn l G dm_Cl_carryOut m_Cl_carryOut (kI fun y' σ' => y' = yf ∧ σ' = σf) 173 [some (.inr (7, 0)), some (.inr (6, 2))] [] σ := by
  unfold fb_Cl_carryOut_173 at h
  obtain ⟨y, σ1, hc, h⟩ := kbi_some h
  refine s_Cl_carryOut_173  (by decide) (E_Cl_change hc) (fun y2 σ2 e2 => ?_)
  obtain ⟨rfl, rfl⟩ := e2
  exact e_Cl_carryOut_177  h
def fb_Cl_carryOut_170  (s0 : Int) (σ : kS) : kRes := kg ((-2147483648 ≤ s0 ∧ s0 < 2147483648)) (if s0 = 0 then fb_Cl_carryOut_184  σ else fb_Cl_carryOut_173  σ)
theorem e_Cl_carryOut_170 {l : Launch} {G : kG} {yf : Int} {σf : kS}  {s0 : Int}  {σ : kS} (h : fb_Cl_carryOut_170  s0 σ = some (some yf, σf)) : Rn l G dm_Cl_carryOut m_Cl_carryOut (kI fun y' σ' => y' = yf ∧ σ' = σf) 170 [some (.inr (7, 0)), some (.inr (6, 2))] [.inl s0] σ := by
  unfold fb_Cl_carryOut_170 at h
  obtain ⟨h1, h⟩ := kg_some h
  refine s_Cl_carryOut_170 h1 (fun c => ?_) (fun c => ?_)
  · rw [if_pos c] at h
    exact e_Cl_carryOut_184  h
  · rw [if_neg c] at h
    exact e_Cl_carryOut_173  h
def fb_Cl_carryOut_166   (σ : kS) : kRes := kbi (f_Cl_readChange  σ) fun y σ1 => fb_Cl_carryOut_170  y σ1
theorem e_Cl_carryOut_166 {l : Launch} {G : kG} {yf : Int} {σf : kS}    {σ : kS} (h : fb_Cl_carryOut_166   σ = some (some yf, σf)) : Rn l G dm_Cl_carryOut m_Cl_carryOut (kI fun y' σ' => y' = yf ∧ σ' = σf) 166 [some (.inr (7, 0)), some (.inr (6, 2))] [] σ := by
  unfold fb_Cl_carryOut_166 at h
  obtain ⟨y, σ1, hc, h⟩ := kbi_some h
  refine s_Cl_carryOut_166  (by decide) (E_Cl_readChange hc) (fun y2 σ2 e2 => ?_)
  obtain ⟨rfl, rfl⟩ := e2
  exact e_Cl_carryOut_170  h
def fb_Cl_carryOut_165  (s0 : Int) (σ : kS) : kRes := kg ((s0 = 0 ∨ s0 = 1)) (some (some s0, σ))
theorem e_Cl_carryOut_165 {l : Launch} {G : kG} {yf : Int} {σf : kS}  {s0 : Int}  {σ : kS} (h : fb_Cl_carryOut_165  s0 σ = some (some yf, σf)) : Rn l G dm_Cl_carryOut m_Cl_carryOut (kI fun y' σ' => y' = yf ∧ σ' = σf) 165 [some (.inr (7, 0)), some (.inr (6, 2))] [.inl s0] σ := by
  unfold fb_Cl_carryOut_165 at h
  obtain ⟨h1, h⟩ := kg_some h
  simp only [Option.some.injEq, Prod.mk.injEq, true_and] at h
  exact s_Cl_carryOut_165 h1 ⟨_, rfl, h⟩
def fb_Cl_carryOut_164   (σ : kS) : kRes := fb_Cl_carryOut_165  0 σ
theorem e_Cl_carryOut_164 {l : Launch} {G : kG} {yf : Int} {σf : kS}    {σ : kS} (h : fb_Cl_carryOut_164   σ = some (some yf, σf)) : Rn l G dm_Cl_carryOut m_Cl_carryOut (kI fun y' σ' => y' = yf ∧ σ' = σf) 164 [some (.inr (7, 0)), some (.inr (6, 2))] [] σ := by
  unfold fb_Cl_carryOut_164 at h
  refine s_Cl_carryOut_164  ?_
  exact e_Cl_carryOut_165  h
def fb_Cl_carryOut_160   (σ : kS) : kRes := fb_Cl_carryOut_165  1 σ
theorem e_Cl_carryOut_160 {l : Launch} {G : kG} {yf : Int} {σf : kS}    {σ : kS} (h : fb_Cl_carryOut_160   σ = some (some yf, σf)) : Rn l G dm_Cl_carryOut m_Cl_carryOut (kI fun y' σ' => y' = yf ∧ σ' = σf) 160 [some (.inr (7, 0)), some (.inr (6, 2))] [] σ := by
  unfold fb_Cl_carryOut_160 at h
  refine s_Cl_carryOut_160  ?_
  exact e_Cl_carryOut_165  h
def fb_Cl_carryOut_157  (s0 : Int) (σ : kS) : kRes := kg ((-2147483648 ≤ s0 ∧ s0 < 2147483648)) (if s0 = 0 then fb_Cl_carryOut_164  σ else fb_Cl_carryOut_160  σ)
theorem e_Cl_carryOut_157 {l : Launch} {G : kG} {yf : Int} {σf : kS}  {s0 : Int}  {σ : kS} (h : fb_Cl_carryOut_157  s0 σ = some (some yf, σf)) : Rn l G dm_Cl_carryOut m_Cl_carryOut (kI fun y' σ' => y' = yf ∧ σ' = σf) 157 [some (.inr (7, 0)), some (.inr (6, 2))] [.inl s0] σ := by
  unfold fb_Cl_carryOut_157 at h
  obtain ⟨h1, h⟩ := kg_some h
  refine s_Cl_carryOut_157 h1 (fun c => ?_) (fun c => ?_)
  · rw [if_pos c] at h
    exact e_Cl_carryOut_164  h
  · rw [if_neg c] at h
    exact e_Cl_carryOut_160  h
def fb_Cl_carryOut_135   (σ : kS) : kRes := kbi (f_Di_addJob 1 0 ((σ 2 0 2) - 1) 0 σ) fun y σ1 => fb_Cl_carryOut_157  y σ1
theorem e_Cl_carryOut_135 {l : Launch} {G : kG} {yf : Int} {σf : kS}    {σ : kS} (h : fb_Cl_carryOut_135   σ = some (some yf, σf)) : Rn l G dm_Cl_carryOut m_Cl_carryOut (kI fun y' σ' => y' = yf ∧ σ' = σf) 135 [some (.inr (7, 0)), some (.inr (6, 2))] [] σ := by
  unfold fb_Cl_carryOut_135 at h
  obtain ⟨y, σ1, hc, h⟩ := kbi_some h
  refine s_Cl_carryOut_135  (by decide) (E_Di_addJob hc) (fun y2 σ2 e2 => ?_)
  obtain ⟨rfl, rfl⟩ := e2
  exact e_Cl_carryOut_157  h
def fb_Cl_carryOut_132  (s0 : Int) (σ : kS) : kRes := kg ((-2147483648 ≤ s0 ∧ s0 < 2147483648)) (if s0 = 0 then fb_Cl_carryOut_164  σ else fb_Cl_carryOut_135  σ)
theorem e_Cl_carryOut_132 {l : Launch} {G : kG} {yf : Int} {σf : kS}  {s0 : Int}  {σ : kS} (h : fb_Cl_carryOut_132  s0 σ = some (some yf, σf)) : Rn l G dm_Cl_carryOut m_Cl_carryOut (kI fun y' σ' => y' = yf ∧ σ' = σf) 132 [some (.inr (7, 0)), some (.inr (6, 2))] [.inl s0] σ := by
  unfold fb_Cl_carryOut_132 at h
  obtain ⟨h1, h⟩ := kg_some h
  refine s_Cl_carryOut_132 h1 (fun c => ?_) (fun c => ?_)
  · rw [if_pos c] at h
    exact e_Cl_carryOut_164  h
  · rw [if_neg c] at h
    exact e_Cl_carryOut_135  h
def fb_Cl_carryOut_128   (σ : kS) : kRes := kbi (f_Cl_readPreserve  σ) fun y σ1 => fb_Cl_carryOut_132  y σ1
theorem e_Cl_carryOut_128 {l : Launch} {G : kG} {yf : Int} {σf : kS}    {σ : kS} (h : fb_Cl_carryOut_128   σ = some (some yf, σf)) : Rn l G dm_Cl_carryOut m_Cl_carryOut (kI fun y' σ' => y' = yf ∧ σ' = σf) 128 [some (.inr (7, 0)), some (.inr (6, 2))] [] σ := by
  unfold fb_Cl_carryOut_128 at h
  obtain ⟨y, σ1, hc, h⟩ := kbi_some h
  refine s_Cl_carryOut_128  (by decide) (E_Cl_readPreserve hc) (fun y2 σ2 e2 => ?_)
  obtain ⟨rfl, rfl⟩ := e2
  exact e_Cl_carryOut_132  h
def fb_Cl_carryOut_127  (s0 : Int) (σ : kS) : kRes := kg ((s0 = 0 ∨ s0 = 1)) (some (some s0, σ))
theorem e_Cl_carryOut_127 {l : Launch} {G : kG} {yf : Int} {σf : kS}  {s0 : Int}  {σ : kS} (h : fb_Cl_carryOut_127  s0 σ = some (some yf, σf)) : Rn l G dm_Cl_carryOut m_Cl_carryOut (kI fun y' σ' => y' = yf ∧ σ' = σf) 127 [some (.inr (7, 0)), some (.inr (6, 2))] [.inl s0] σ := by
  unfold fb_Cl_carryOut_127 at h
  obtain ⟨h1, h⟩ := kg_some h
  simp only [Option.some.injEq, Prod.mk.injEq, true_and] at h
  exact s_Cl_carryOut_127 h1 ⟨_, rfl, h⟩
def fb_Cl_carryOut_126   (σ : kS) : kRes := fb_Cl_carryOut_127  0 σ
theorem e_Cl_carryOut_126 {l : Launch} {G : kG} {yf : Int} {σf : kS}    {σ : kS} (h : fb_Cl_carryOut_126   σ = some (some yf, σf)) : Rn l G dm_Cl_carryOut m_Cl_carryOut (kI fun y' σ' => y' = yf ∧ σ' = σf) 126 [some (.inr (7, 0)), some (.inr (6, 2))] [] σ := by
  unfold fb_Cl_carryOut_126 at h
  refine s_Cl_carryOut_126  ?_
  exact e_Cl_carryOut_127  h
def fb_Cl_carryOut_122   (σ : kS) : kRes := fb_Cl_carryOut_127  1 σ
theorem e_Cl_carryOut_122 {l : Launch} {G : kG} {yf : Int} {σf : kS}    {σ : kS} (h : fb_Cl_carryOut_122   σ = some (some yf, σf)) : Rn l G dm_Cl_carryOut m_Cl_carryOut (kI fun y' σ' => y' = yf ∧ σ' = σf) 122 [some (.inr (7, 0)), some (.inr (6, 2))] [] σ := by
  unfold fb_Cl_carryOut_122 at h
  refine s_Cl_carryOut_122  ?_
  exact e_Cl_carryOut_127  h
def fb_Cl_carryOut_119  (s0 : Int) (σ : kS) : kRes := kg ((-2147483648 ≤ s0 ∧ s0 < 2147483648)) (if s0 = 0 then fb_Cl_carryOut_126  σ else fb_Cl_carryOut_122  σ)
theorem e_Cl_carryOut_119 {l : Launch} {G : kG} {yf : Int} {σf : kS}  {s0 : Int}  {σ : kS} (h : fb_Cl_carryOut_119  s0 σ = some (some yf, σf)) : Rn l G dm_Cl_carryOut m_Cl_carryOut (kI fun y' σ' => y' = yf ∧ σ' = σf) 119 [some (.inr (7, 0)), some (.inr (6, 2))] [.inl s0] σ := by
  unfold fb_Cl_carryOut_119 at h
  obtain ⟨h1, h⟩ := kg_some h
  refine s_Cl_carryOut_119 h1 (fun c => ?_) (fun c => ?_)
  · rw [if_pos c] at h
    exact e_Cl_carryOut_126  h
  · rw [if_neg c] at h
    exact e_Cl_carryOut_122  h
def fb_Cl_carryOut_99   (σ : kS) : kRes := kbi (f_Di_addJob 0 (σ 7 0 11) (σ 7 0 12) 0 σ) fun y σ1 => fb_Cl_carryOut_119  y σ1
theorem e_Cl_carryOut_99 {l : Launch} {G : kG} {yf : Int} {σf : kS}    {σ : kS} (h : fb_Cl_carryOut_99   σ = some (some yf, σf)) : Rn l G dm_Cl_carryOut m_Cl_carryOut (kI fun y' σ' => y' = yf ∧ σ' = σf) 99 [some (.inr (7, 0)), some (.inr (6, 2))] [] σ := by
  unfold fb_Cl_carryOut_99 at h
  obtain ⟨y, σ1, hc, h⟩ := kbi_some h
  refine s_Cl_carryOut_99  (by decide) (E_Di_addJob hc) (fun y2 σ2 e2 => ?_)
  obtain ⟨rfl, rfl⟩ := e2
  exact e_Cl_carryOut_119  h
def fb_Cl_carryOut_88   (σ : kS) : kRes := kg ((-2147483648 ≤ σ 7 0 9 ∧ σ 7 0 9 < 2147483648) ∧ (-2147483648 ≤ σ 7 0 8 ∧ σ 7 0 8 < 2147483648)) (if (σ 7 0 9) = (σ 7 0 8) then fb_Cl_carryOut_99  σ else fb_Cl_carryOut_126  σ)
theorem e_Cl_carryOut_88 {l : Launch} {G : kG} {yf : Int} {σf : kS}    {σ : kS} (h : fb_Cl_carryOut_88   σ = some (some yf, σf)) : Rn l G dm_Cl_carryOut m_Cl_carryOut (kI fun y' σ' => y' = yf ∧ σ' = σf) 88 [some (.inr (7, 0)), some (.inr (6, 2))] [] σ := by
  unfold fb_Cl_carryOut_88 at h
  obtain ⟨⟨h1, h2⟩, h⟩ := kg_some h
  refine s_Cl_carryOut_88 h1 h2 (fun c => ?_) (fun c => ?_)
  · rw [if_neg c] at h
    exact e_Cl_carryOut_126  h
  · rw [if_pos c] at h
    exact e_Cl_carryOut_99  h
def fb_Cl_carryOut_74   (σ : kS) : kRes := kbu (f_Cl_takeAllIfNoRange  (kup σ 7 0 9 ((σ 7 0 9) + 1))) fun σ1 => fb_Cl_carryOut_88  σ1
theorem e_Cl_carryOut_74 {l : Launch} {G : kG} {yf : Int} {σf : kS}    {σ : kS} (h : fb_Cl_carryOut_74   σ = some (some yf, σf)) : Rn l G dm_Cl_carryOut m_Cl_carryOut (kI fun y' σ' => y' = yf ∧ σ' = σf) 74 [some (.inr (7, 0)), some (.inr (6, 2))] [] σ := by
  unfold fb_Cl_carryOut_74 at h
  obtain ⟨σ1, hc, h⟩ := kbu_some h
  refine s_Cl_carryOut_74  (by decide) (E_Cl_takeAllIfNoRange hc) (fun σ2 e2 => ?_)
  subst e2
  exact e_Cl_carryOut_88  h
def fb_Cl_carryOut_72   (σ : kS) : kRes := some (some 1, σ)
theorem e_Cl_carryOut_72 {l : Launch} {G : kG} {yf : Int} {σf : kS}    {σ : kS} (h : fb_Cl_carryOut_72   σ = some (some yf, σf)) : Rn l G dm_Cl_carryOut m_Cl_carryOut (kI fun y' σ' => y' = yf ∧ σ' = σf) 72 [some (.inr (7, 0)), some (.inr (6, 2))] [] σ := by
  unfold fb_Cl_carryOut_72 at h
  simp only [Option.some.injEq, Prod.mk.injEq, true_and] at h
  exact s_Cl_carryOut_72  ⟨_, rfl, h⟩
def fb_Cl_carryOut_60   (σ : kS) : kRes := kbu (f_Te_stand (σ 7 0 12) 0 0 σ) fun σ1 => fb_Cl_carryOut_72  σ1
theorem e_Cl_carryOut_60 {l : Launch} {G : kG} {yf : Int} {σf : kS}    {σ : kS} (h : fb_Cl_carryOut_60   σ = some (some yf, σf)) : Rn l G dm_Cl_carryOut m_Cl_carryOut (kI fun y' σ' => y' = yf ∧ σ' = σf) 60 [some (.inr (7, 0)), some (.inr (6, 2))] [] σ := by
  unfold fb_Cl_carryOut_60 at h
  obtain ⟨σ1, hc, h⟩ := kbu_some h
  refine s_Cl_carryOut_60  (by decide) (E_Te_stand hc) (fun σ2 e2 => ?_)
  subst e2
  exact e_Cl_carryOut_72  h
def fb_Cl_carryOut_27  (s0 : Int) (σ : kS) : kRes := kg ((-2147483648 ≤ s0 ∧ s0 < 2147483648)) (if s0 = 0 then fb_Cl_carryOut_60  σ else if s0 = 112 then fb_Cl_carryOut_128  σ else if s0 = 119 then fb_Cl_carryOut_74  σ else fb_Cl_carryOut_166  σ)
theorem e_Cl_carryOut_27 {l : Launch} {G : kG} {yf : Int} {σf : kS}  {s0 : Int}  {σ : kS} (h : fb_Cl_carryOut_27  s0 σ = some (some yf, σf)) : Rn l G dm_Cl_carryOut m_Cl_carryOut (kI fun y' σ' => y' = yf ∧ σ' = σf) 27 [some (.inr (7, 0)), some (.inr (6, 2))] [.inl s0] σ := by
  unfold fb_Cl_carryOut_27 at h
  obtain ⟨h1, h⟩ := kg_some h
  refine s_Cl_carryOut_27 h1 (fun c => ?_) (fun c => ?_) (fun c => ?_) (fun c0 c1 c2 => ?_)
  · rw [if_pos c] at h
    exact e_Cl_carryOut_60  h
  · rw [if_neg (show ¬ s0 = 0 by omega), if_pos c] at h
    exact e_Cl_carryOut_128  h
  · rw [if_neg (show ¬ s0 = 0 by omega), if_neg (show ¬ s0 = 112 by omega), if_pos c] at h
    exact e_Cl_carryOut_74  h
  · rw [if_neg c0, if_neg c1, if_neg c2] at h
    exact e_Cl_carryOut_166  h
def fb_Cl_carryOut_23   (σ : kS) : kRes := kbi (f_Cl_here  σ) fun y σ1 => fb_Cl_carryOut_27  y σ1
theorem e_Cl_carryOut_23 {l : Launch} {G : kG} {yf : Int} {σf : kS}    {σ : kS} (h : fb_Cl_carryOut_23   σ = some (some yf, σf)) : Rn l G dm_Cl_carryOut m_Cl_carryOut (kI fun y' σ' => y' = yf ∧ σ' = σf) 23 [some (.inr (7, 0)), some (.inr (6, 2))] [] σ := by
  unfold fb_Cl_carryOut_23 at h
  obtain ⟨y, σ1, hc, h⟩ := kbi_some h
  refine s_Cl_carryOut_23  (by decide) (E_Cl_here hc) (fun y2 σ2 e2 => ?_)
  obtain ⟨rfl, rfl⟩ := e2
  exact e_Cl_carryOut_27  h
def fb_Cl_carryOut_21   (σ : kS) : kRes := some (some 0, σ)
theorem e_Cl_carryOut_21 {l : Launch} {G : kG} {yf : Int} {σf : kS}    {σ : kS} (h : fb_Cl_carryOut_21   σ = some (some yf, σf)) : Rn l G dm_Cl_carryOut m_Cl_carryOut (kI fun y' σ' => y' = yf ∧ σ' = σf) 21 [some (.inr (7, 0)), some (.inr (6, 2))] [] σ := by
  unfold fb_Cl_carryOut_21 at h
  simp only [Option.some.injEq, Prod.mk.injEq, true_and] at h
  exact s_Cl_carryOut_21  ⟨_, rfl, h⟩
def fb_Cl_carryOut_18  (s0 : Int) (σ : kS) : kRes := kg ((-2147483648 ≤ s0 ∧ s0 < 2147483648)) (if s0 = 0 then fb_Cl_carryOut_21  σ else fb_Cl_carryOut_23  σ)
theorem e_Cl_carryOut_18 {l : Launch} {G : kG} {yf : Int} {σf : kS}  {s0 : Int}  {σ : kS} (h : fb_Cl_carryOut_18  s0 σ = some (some yf, σf)) : Rn l G dm_Cl_carryOut m_Cl_carryOut (kI fun y' σ' => y' = yf ∧ σ' = σf) 18 [some (.inr (7, 0)), some (.inr (6, 2))] [.inl s0] σ := by
  unfold fb_Cl_carryOut_18 at h
  obtain ⟨h1, h⟩ := kg_some h
  refine s_Cl_carryOut_18 h1 (fun c => ?_) (fun c => ?_)
  · rw [if_neg c] at h
    exact e_Cl_carryOut_23  h
  · rw [if_pos c] at h
    exact e_Cl_carryOut_21  h
def fb_Cl_carryOut_14   (σ : kS) : kRes := kbi (f_Cl_readRange  σ) fun y σ1 => fb_Cl_carryOut_18  y σ1
theorem e_Cl_carryOut_14 {l : Launch} {G : kG} {yf : Int} {σf : kS}    {σ : kS} (h : fb_Cl_carryOut_14   σ = some (some yf, σf)) : Rn l G dm_Cl_carryOut m_Cl_carryOut (kI fun y' σ' => y' = yf ∧ σ' = σf) 14 [some (.inr (7, 0)), some (.inr (6, 2))] [] σ := by
  unfold fb_Cl_carryOut_14 at h
  obtain ⟨y, σ1, hc, h⟩ := kbi_some h
  refine s_Cl_carryOut_14  (by decide) (E_Cl_readRange hc) (fun y2 σ2 e2 => ?_)
  obtain ⟨rfl, rfl⟩ := e2
  exact e_Cl_carryOut_18  h
def fb_Cl_carryOut_12   (σ : kS) : kRes := some (some 1, σ)
theorem e_Cl_carryOut_12 {l : Launch} {G : kG} {yf : Int} {σf : kS}    {σ : kS} (h : fb_Cl_carryOut_12   σ = some (some yf, σf)) : Rn l G dm_Cl_carryOut m_Cl_carryOut (kI fun y' σ' => y' = yf ∧ σ' = σf) 12 [some (.inr (7, 0)), some (.inr (6, 2))] [] σ := by
  unfold fb_Cl_carryOut_12 at h
  simp only [Option.some.injEq, Prod.mk.injEq, true_and] at h
  exact s_Cl_carryOut_12  ⟨_, rfl, h⟩
def fb_Cl_carryOut_5   (σ : kS) : kRes := kg ((-2147483648 ≤ σ 7 0 8 ∧ σ 7 0 8 < 2147483648)) (if (σ 7 0 8) = 0 then fb_Cl_carryOut_12  σ else fb_Cl_carryOut_14  σ)
theorem e_Cl_carryOut_5 {l : Launch} {G : kG} {yf : Int} {σf : kS}    {σ : kS} (h : fb_Cl_carryOut_5   σ = some (some yf, σf)) : Rn l G dm_Cl_carryOut m_Cl_carryOut (kI fun y' σ' => y' = yf ∧ σ' = σf) 5 [some (.inr (7, 0)), some (.inr (6, 2))] [] σ := by
  unfold fb_Cl_carryOut_5 at h
  obtain ⟨h1, h⟩ := kg_some h
  refine s_Cl_carryOut_5 h1 (fun c => ?_) (fun c => ?_)
  · rw [if_neg c] at h
    exact e_Cl_carryOut_14  h
  · rw [if_pos c] at h
    exact e_Cl_carryOut_12  h
def fb_Cl_carryOut_0   (σ : kS) : kRes := kbu (f_Cl_begin  σ) fun σ1 => fb_Cl_carryOut_5  σ1
theorem e_Cl_carryOut_0 {l : Launch} {G : kG} {yf : Int} {σf : kS}    {σ : kS} (h : fb_Cl_carryOut_0   σ = some (some yf, σf)) : Rn l G dm_Cl_carryOut m_Cl_carryOut (kI fun y' σ' => y' = yf ∧ σ' = σf) 0 [some (.inr (7, 0)), some (.inr (6, 2))] [] σ := by
  unfold fb_Cl_carryOut_0 at h
  obtain ⟨σ1, hc, h⟩ := kbu_some h
  refine s_Cl_carryOut_0  (by decide) (E_Cl_begin hc) (fun σ2 e2 => ?_)
  subst e2
  exact e_Cl_carryOut_5  h
def f_Cl_carryOut  (σ : kS) : kRes := fb_Cl_carryOut_0  σ
theorem E_Cl_carryOut {l : Launch} {G : kG} {yf : Int} {σf : kS}  {σ : kS} (h : f_Cl_carryOut  σ = some (some yf, σf)) : Call l G dm_Cl_carryOut y_Cl_carryOut m_Cl_carryOut [.inr (7, 0), .inr (6, 2)] σ (kI fun y' σ' => y' = yf ∧ σ' = σf) := by
  unfold f_Cl_carryOut at h
  exact Call.of (by decide +kernel) rfl (Nat.le_of_ble_eq_true rfl) (e_Cl_carryOut_0 h)
/-! Cl_search -/
def fb_Cl_search_190  (x2 : Int) (σ : kS) : kRes := some (some 0, σ)
theorem e_Cl_search_190 {l : Launch} {G : kG} {yf : Int} {σf : kS}  {x2 : Int} {o3 : Option kV} {o4 : Option kV} {o5 : Option kV} {o6 : Option kV} {σ : kS} (h : fb_Cl_search_190  x2 σ = some (some yf, σf)) : Rn l G dm_Cl_search m_Cl_search (kI fun y' σ' => y' = yf ∧ σ' = σf) 190 [some (.inr (7, 0)), some (.inr (6, 2)), some (.inl x2), o3, o4, o5, o6] [] σ := by
  unfold fb_Cl_search_190 at h
  simp only [Option.some.injEq, Prod.mk.injEq, true_and] at h
  exact s_Cl_search_190  ⟨_, rfl, h⟩
def fb_Cl_search_184 (k28 : Int → kS → kRes) (x2 : Int) (x3 : Int) (x4 : Int) (x5 : Int) (x6 : Int) (σ : kS) : kRes := k28 (x2 + 1) σ
theorem e_Cl_search_184 {l : Launch} {G : kG} {yf : Int} {σf : kS} {k28 : Int → kS → kRes} (hk28 : ∀ (x2 : Int) (o3 : Option kV) (o4 : Option kV) (o5 : Option kV) (o6 : Option kV) (σ : kS), k28 x2 σ = some (some yf, σf) → Rn l G dm_Cl_search m_Cl_search (kI fun y' σ' => y' = yf ∧ σ' = σf) 28 [some (.inr (7, 0)), some (.inr (6, 2)), some (.inl x2), o3, o4, o5, o6] [] σ) {x2 : Int} {x3 : Int} {x4 : Int} {x5 : Int} {x6 : Int}  {σ : kS} (h : fb_Cl_search_184 k28 x2 x3 x4 x5 x6 σ = some (some yf, σf)) : Rn l G dm_Cl_search m_Cl_search (kI fun y' σ' => y' = yf ∧ σ' = σf) 184 [some (.inr (7, 0)), some (.inr (6, 2)), some (.inl x2), some (.inl x3), some (.inl x4), some (.inl x5), some (.inl x6)] [] σ := by
  unfold fb_Cl_search_184 at h
  refine s_Cl_search_184  ?_
  exact hk28 _ _ _ _ _ _ h
def fb_Cl_search_178 (k142 : Int → Int → Int → Int → Int → kS → kRes) (x2 : Int) (x3 : Int) (x4 : Int) (x5 : Int) (x6 : Int) (σ : kS) : kRes := k142 x2 x3 x4 x5 (x6 + 1) σ
theorem e_Cl_search_178 {l : Launch} {G : kG} {yf : Int} {σf : kS} {k142 : Int → Int → Int → Int → Int → kS → kRes} (hk142 : ∀ (x2 : Int) (x3 : Int) (x4 : Int) (x5 : Int) (x6 : Int)  (σ : kS), k142 x2 x3 x4 x5 x6 σ = some (some yf, σf) → Rn l G dm_Cl_search m_Cl_search (kI fun y' σ' => y' = yf ∧ σ' = σf) 142 [some (.inr (7, 0)), some (.inr (6, 2)), some (.inl x2), some (.inl x3), some (.inl x4), some (.inl x5), some (.inl x6)] [] σ) {x2 : Int} {x3 : Int} {x4 : Int} {x5 : Int} {x6 : Int}  {σ : kS} (h : fb_Cl_search_178 k142 x2 x3 x4 x5 x6 σ = some (some yf, σf)) : Rn l G dm_Cl_search m_Cl_search (kI fun y' σ' => y' = yf ∧ σ' = σf) 178 [some (.inr (7, 0)), some (.inr (6, 2)), some (.inl x2), some (.inl x3), some (.inl x4), some (.inl x5), some (.inl x6)] [] σ := by
  unfold fb_Cl_search_178 at h
  refine s_Cl_search_178  ?_
  exact hk142 _ _ _ _ _ _ h
def fb_Cl_search_176  (x2 : Int) (x3 : Int) (x4 : Int) (x5 : Int) (x6 : Int) (σ : kS) : kRes := some (some 1, σ)
theorem e_Cl_search_176 {l : Launch} {G : kG} {yf : Int} {σf : kS}  {x2 : Int} {x3 : Int} {x4 : Int} {x5 : Int} {x6 : Int}  {σ : kS} (h : fb_Cl_search_176  x2 x3 x4 x5 x6 σ = some (some yf, σf)) : Rn l G dm_Cl_search m_Cl_search (kI fun y' σ' => y' = yf ∧ σ' = σf) 176 [some (.inr (7, 0)), some (.inr (6, 2)), some (.inl x2), some (.inl x3), some (.inl x4), some (.inl x5), some (.inl x6)] [] σ := by
  unfold fb_Cl_search_176 at h
  simp only [Option.some.injEq, Prod.mk.injEq, true_and] at h
  exact s_Cl_search_176  ⟨_, rfl, h⟩
def fb_Cl_search_166  (x2 : Int) (x3 : Int) (x4 : Int) (x5 : Int) (x6 : Int) (σ : kS) : kRes := kbu (f_Te_stand x3 x6 0 σ) fun σ1 => fb_Cl_search_176  x2 x3 x4 x5 x6 σ1
theorem e_Cl_search_166 {l : Launch} {G : kG} {yf : Int} {σf : kS}  {x2 : Int} {x3 : Int} {x4 : Int} {x5 : Int} {x6 : Int}  {σ : kS} (h : fb_Cl_search_166  x2 x3 x4 x5 x6 σ = some (some yf, σf)) : Rn l G dm_Cl_search m_Cl_search (kI fun y' σ' => y' = yf ∧ σ' = σf) 166 [some (.inr (7, 0)), some (.inr (6, 2)), some (.inl x2), some (.inl x3), some (.inl x4), some (.inl x5), some (.inl x6)] [] σ := by
  unfold fb_Cl_search_166 at h
  obtain ⟨σ1, hc, h⟩ := kbu_some h
  refine s_Cl_search_166  (by decide) (E_Te_stand hc) (fun σ2 e2 => ?_)
  subst e2
  exact e_Cl_search_176  h
def fb_Cl_search_163 (k142 : Int → Int → Int → Int → Int → kS → kRes) (x2 : Int) (x3 : Int) (x4 : Int) (x5 : Int) (x6 : Int) (s0 : Int) (σ : kS) : kRes := kg ((-2147483648 ≤ s0 ∧ s0 < 2147483648)) (if s0 < 0 then fb_Cl_search_178 k142 x2 x3 x4 x5 x6 σ else fb_Cl_search_166  x2 x3 x4 x5 x6 σ)
theorem e_Cl_search_163 {l : Launch} {G : kG} {yf : Int} {σf : kS} {k142 : Int → Int → Int → Int → Int → kS → kRes} (hk142 : ∀ (x2 : Int) (x3 : Int) (x4 : Int) (x5 : Int) (x6 : Int)  (σ : kS), k142 x2 x3 x4 x5 x6 σ = some (some yf, σf) → Rn l G dm_Cl_search m_Cl_search (kI fun y' σ' => y' = yf ∧ σ' = σf) 142 [some (.inr (7, 0)), some (.inr (6, 2)), some (.inl x2), some (.inl x3), some (.inl x4), some (.inl x5), some (.inl x6)] [] σ) {x2 : Int} {x3 : Int} {x4 : Int} {x5 : Int} {x6 : Int} {s0 : Int}  {σ : kS} (h : fb_Cl_search_163 k142 x2 x3 x4 x5 x6 s0 σ = some (some yf, σf)) : Rn l G dm_Cl_search m_Cl_search (kI fun y' σ' => y' = yf ∧ σ' = σf) 163 [some (.inr (7, 0)), some (.inr (6, 2)), some (.inl x2), some (.inl x3), some (.inl x4), some (.inl x5), some (.inl x6)] [.inl s0] σ := by
  unfold fb_Cl_search_163 at h
  obtain ⟨h1, h⟩ := kg_some h
  refine s_Cl_search_163 h1 (fun c => ?_) (fun c => ?_)
  · rw [if_pos c] at h
    exact e_Cl_search_178 hk142 h
  · rw [if_neg c] at h
    exact e_Cl_search_166  h
def fb_Cl_search_149 (k142 : Int → Int → Int → Int → Int → kS → kRes) (x2 : Int) (x3 : Int) (x4 : Int) (x5 : Int) (x6 : Int) (σ : kS) : kRes := kbi (f_Pa_endOfMatch x3 x6 0 σ) fun y σ1 => fb_Cl_search_163 k142 x2 x3 x4 x5 x6 y σ1
theorem e_Cl_search_149 {l : Launch} {G : kG} {yf : Int} {σf : kS} {k142 : Int → Int → Int → Int → Int → kS → kRes} (hk142 : ∀ (x2 : Int) (x3 : Int) (x4 : Int) (x5 : Int) (x6 : Int)  (σ : kS), k142 x2 x3 x4 x5 x6 σ = some (some yf, σf) → Rn l G dm_Cl_search m_Cl_search (kI fun y' σ' => y' = yf ∧ σ' = σf) 142 [some (.inr (7, 0)), some (.inr (6, 2)), some (.inl x2), some (.inl x3), some (.inl x4), some (.inl x5), some (.inl x6)] [] σ) {x2 : Int} {x3 : Int} {x4 : Int} {x5 : Int} {x6 : Int}  {σ : kS} (h : fb_Cl_search_149 k142 x2 x3 x4 x5 x6 σ = some (some yf, σf)) : Rn l G dm_Cl_search m_Cl_search (kI fun y' σ' => y' = yf ∧ σ' = σf) 149 [some (.inr (7, 0)), some (.inr (6, 2)), some (.inl x2), some (.inl x3), some (.inl x4), some (.inl x5), some (.inl x6)] [] σ := by
  unfold fb_Cl_search_149 at h
  obtain ⟨y, σ1, hc, h⟩ := kbi_some h
  refine s_Cl_search_149  (by decide) (E_Pa_endOfMatch hc) (fun y2 σ2 e2 => ?_)
  obtain ⟨rfl, rfl⟩ := e2
  exact e_Cl_search_163 hk142 h
def fb_Cl_search_142 (k28 : Int → kS → kRes) (k142 : Int → Int → Int → Int → Int → kS → kRes) (x2 : Int) (x3 : Int) (x4 : Int) (x5 : Int) (x6 : Int) (σ : kS) : kRes := kg ((-2147483648 ≤ x6 ∧ x6 < 2147483648) ∧ (-2147483648 ≤ x5 ∧ x5 < 2147483648)) (if x5 < x6 then fb_Cl_search_184 k28 x2 x3 x4 x5 x6 σ else fb_Cl_search_149 k142 x2 x3 x4 x5 x6 σ)
theorem e_Cl_search_142 {l : Launch} {G : kG} {yf : Int} {σf : kS} {k28 : Int → kS → kRes} (hk28 : ∀ (x2 : Int) (o3 : Option kV) (o4 : Option kV) (o5 : Option kV) (o6 : Option kV) (σ : kS), k28 x2 σ = some (some yf, σf) → Rn l G dm_Cl_search m_Cl_search (kI fun y' σ' => y' = yf ∧ σ' = σf) 28 [some (.inr (7, 0)), some (.inr (6, 2)), some (.inl x2), o3, o4, o5, o6] [] σ) {k142 : Int → Int → Int → Int → Int → kS → kRes} (hk142 : ∀ (x2 : Int) (x3 : Int) (x4 : Int) (x5 : Int) (x6 : Int)  (σ : kS), k142 x2 x3 x4 x5 x6 σ = some (some yf, σf) → Rn l G dm_Cl_search m_Cl_search (kI fun y' σ' => y' = yf ∧ σ' = σf) 142 [some (.inr (7, 0)), some (.inr (6, 2)), some (.inl x2), some (.inl x3), some (.inl x4), some (.inl x5), some (.inl x6)] [] σ) {x2 : Int} {x3 : Int} {x4 : Int} {x5 : Int} {x6 : Int}  {σ : kS} (h : fb_Cl_search_142 k28 k142 x2 x3 x4 x5 x6 σ = some (some yf, σf)) : Rn l G dm_Cl_search m_Cl_search (kI fun y' σ' => y' = yf ∧ σ' = σf) 142 [some (.inr (7, 0)), some (.inr (6, 2)), some (.inl x2), some (.inl x3), some (.inl x4), some (.inl x5), some (.inl x6)] [] σ := by
  unfold fb_Cl_search_142 at h
  obtain ⟨⟨h1, h2⟩, h⟩ := kg_some h
  refine s_Cl_search_142 h1 h2 (fun c => ?_) (fun c => ?_)
  · rw [if_pos c] at h
    exact e_Cl_search_184 hk28 h
  · rw [if_neg c] at h
    exact e_Cl_search_149 hk142 h
def fl_Cl_search_142 (k28 : Int → kS → kRes) : Nat → Int → Int → Int → Int → Int → kS → kRes
  | 0, _, _, _, _, _, _ => none
  | n + 1, x2, x3, x4, x5, x6, σ => fb_Cl_search_142 k28 (fl_Cl_search_142 k28 n) x2 x3 x4 x5 x6 σ
theorem el_Cl_search_142 {l : Launch} {G : kG} {yf : Int} {σf : kS} {k28 : Int → kS → kRes} (hk28 : ∀ (x2 : Int) (o3 : Option kV) (o4 : Option kV) (o5 : Option kV) (o6 : Option kV) (σ : kS), k28 x2 σ = some (some yf, σf) → Rn l G dm_Cl_search m_Cl_search (kI fun y' σ' => y' = yf ∧ σ' = σf) 28 [some (.inr (7, 0)), some (.inr (6, 2)), some (.inl x2), o3, o4, o5, o6] [] σ) : ∀ (n : Nat) (x2 : Int) (x3 : Int) (x4 : Int) (x5 : Int) (x6 : Int)  (σ : kS), fl_Cl_search_142 k28 n x2 x3 x4 x5 x6 σ = some (some yf, σf) → Rn l G dm_Cl_search m_Cl_search (kI fun y' σ' => y' = yf ∧ σ' = σf) 142 [some (.inr (7, 0)), some (.inr (6, 2)), some (.inl x2), some (.inl x3), some (.inl x4), some (.inl x5), some (.inl x6)] [] σ := by
  intro n
  induction n with
  | zero => intro x2 x3 x4 x5 x6 σ h; simp only [fl_Cl_search_142] at h; cases h
  | succ n ih => intro x2 x3 x4 x5 x6 σ h; simp only [fl_Cl_search_142] at h; exact e_Cl_search_142 hk28 ih h
def fb_Cl_search_136 (k28 : Int → kS → kRes) (x2 : Int) (x3 : Int) (x4 : Int) (s0 : Int) (σ : kS) : kRes := fl_Cl_search_142 k28 3000 x2 x3 x4 s0 x4 σ
theorem e_Cl_search_136 {l : Launch} {G : kG} {yf : Int} {σf : kS} {k28 : Int → kS → kRes} (hk28 : ∀ (x2 : Int) (o3 : Option kV) (o4 : Option kV) (o5 : Option kV) (o6 : Option kV) (σ : kS), k28 x2 σ = some (some yf, σf) → Rn l G dm_Cl_search m_Cl_search (kI fun y' σ' => y' = yf ∧ σ' = σf) 28 [some (.inr (7, 0)), some (.inr (6, 2)), some (.inl x2), o3, o4, o5, o6] [] σ) {x2 : Int} {x3 : Int} {x4 : Int} {s0 : Int} {o5 : Option kV} {o6 : Option kV} {σ : kS} (h : fb_Cl_search_136 k28 x2 x3 x4 s0 σ = some (some yf, σf)) : Rn l G dm_Cl_search m_Cl_search (kI fun y' σ' => y' = yf ∧ σ' = σf) 136 [some (.inr (7, 0)), some (.inr (6, 2)), some (.inl x2), some (.inl x3), some (.inl x4), o5, o6] [.inl s0] σ := by
  unfold fb_Cl_search_136 at h
  refine s_Cl_search_136  ?_
  exact el_Cl_search_142 hk28 _ _ _ _ _ _ _ h
def fb_Cl_search_128 (k28 : Int → kS → kRes) (x2 : Int) (x3 : Int) (x4 : Int) (σ : kS) : kRes := kbi (f_Te_sizeOf x3 0 σ) fun y σ1 => fb_Cl_search_136 k28 x2 x3 x4 y σ1
theorem e_Cl_search_128 {l : Launch} {G : kG} {yf : Int} {σf : kS} {k28 : Int → kS → kRes} (hk28 : ∀ (x2 : Int) (o3 : Option kV) (o4 : Option kV) (o5 : Option kV) (o6 : Option kV) (σ : kS), k28 x2 σ = some (some yf, σf) → Rn l G dm_Cl_search m_Cl_search (kI fun y' σ' => y' = yf ∧ σ' = σf) 28 [some (.inr (7, 0)), some (.inr (6, 2)), some (.inl x2), o3, o4, o5, o6] [] σ) {x2 : Int} {x3 : Int} {x4 : Int} {o5 : Option kV} {o6 : Option kV} {σ : kS} (h : fb_Cl_search_128 k28 x2 x3 x4 σ = some (some yf, σf)) : Rn l G dm_Cl_search m_Cl_search (kI fun y' σ' => y' = yf ∧ σ' = σf) 128 [some (.inr (7, 0)), some (.inr (6, 2)), some (.inl x2), some (.inl x3), some (.inl x4), o5, o6] [] σ := by
  unfold fb_Cl_search_128 at h
  obtain ⟨y, σ1, hc, h⟩ := kbi_some h
  refine s_Cl_search_128  (by decide) (E_Te_sizeOf hc) (fun y2 σ2 e2 => ?_)
  obtain ⟨rfl, rfl⟩ := e2
  exact e_Cl_search_136 hk28 h
def fb_Cl_search_118 (k28 : Int → kS → kRes) (x2 : Int) (x3 : Int) (x4 : Int) (σ : kS) : kRes := fb_Cl_search_136 k28 x2 x3 x4 (σ 2 0 4) σ
theorem e_Cl_search_118 {l : Launch} {G : kG} {yf : Int} {σf : kS} {k28 : Int → kS → kRes} (hk28 : ∀ (x2 : Int) (o3 : Option kV) (o4 : Option kV) (o5 : Option kV) (o6 : Option kV) (σ : kS), k28 x2 σ = some (some yf, σf) → Rn l G dm_Cl_search m_Cl_search (kI fun y' σ' => y' = yf ∧ σ' = σf) 28 [some (.inr (7, 0)), some (.inr (6, 2)), some (.inl x2), o3, o4, o5, o6] [] σ) {x2 : Int} {x3 : Int} {x4 : Int} {o5 : Option kV} {o6 : Option kV} {σ : kS} (h : fb_Cl_search_118 k28 x2 x3 x4 σ = some (some yf, σf)) : Rn l G dm_Cl_search m_Cl_search (kI fun y' σ' => y' = yf ∧ σ' = σf) 118 [some (.inr (7, 0)), some (.inr (6, 2)), some (.inl x2), some (.inl x3), some (.inl x4), o5, o6] [] σ := by
  unfold fb_Cl_search_118 at h
  refine s_Cl_search_118  ?_
  exact e_Cl_search_136 hk28 h
def fb_Cl_search_105 (k28 : Int → kS → kRes) (x2 : Int) (x3 : Int) (s0 : Int) (σ : kS) : kRes := kg ((-2147483648 ≤ x2 ∧ x2 < 2147483648) ∧ (-2147483648 ≤ σ 2 0 2 ∧ σ 2 0 2 < 2147483648)) (if x2 = (σ 2 0 2) then fb_Cl_search_118 k28 x2 x3 s0 σ else fb_Cl_search_128 k28 x2 x3 s0 σ)
theorem e_Cl_search_105 {l : Launch} {G : kG} {yf : Int} {σf : kS} {k28 : Int → kS → kRes} (hk28 : ∀ (x2 : Int) (o3 : Option kV) (o4 : Option kV) (o5 : Option kV) (o6 : Option kV) (σ : kS), k28 x2 σ = some (some yf, σf) → Rn l G dm_Cl_search m_Cl_search (kI fun y' σ' => y' = yf ∧ σ' = σf) 28 [some (.inr (7, 0)), some (.inr (6, 2)), some (.inl x2), o3, o4, o5, o6] [] σ) {x2 : Int} {x3 : Int} {s0 : Int} {o4 : Option kV} {o5 : Option kV} {o6 : Option kV} {σ : kS} (h : fb_Cl_search_105 k28 x2 x3 s0 σ = some (some yf, σf)) : Rn l G dm_Cl_search m_Cl_search (kI fun y' σ' => y' = yf ∧ σ' = σf) 105 [some (.inr (7, 0)), some (.inr (6, 2)), some (.inl x2), some (.inl x3), o4, o5, o6] [.inl s0] σ := by
  unfold fb_Cl_search_105 at h
  obtain ⟨⟨h1, h2⟩, h⟩ := kg_some h
  refine s_Cl_search_105 h1 h2 (fun c => ?_) (fun c => ?_)
  · rw [if_neg c] at h
    exact e_Cl_search_128 hk28 h
  · rw [if_pos c] at h
    exact e_Cl_search_118 hk28 h
def fb_Cl_search_104 (k28 : Int → kS → kRes) (x2 : Int) (x3 : Int) (σ : kS) : kRes := fb_Cl_search_105 k28 x2 x3 0 σ
theorem e_Cl_search_104 {l : Launch} {G : kG} {yf : Int} {σf : kS} {k28 : Int → kS → kRes} (hk28 : ∀ (x2 : Int) (o3 : Option kV) (o4 : Option kV) (o5 : Option kV) (o6 : Option kV) (σ : kS), k28 x2 σ = some (some yf, σf) → Rn l G dm_Cl_search m_Cl_search (kI fun y' σ' => y' = yf ∧ σ' = σf) 28 [some (.inr (7, 0)), some (.inr (6, 2)), some (.inl x2), o3, o4, o5, o6] [] σ) {x2 : Int} {x3 : Int} {o4 : Option kV} {o5 : Option kV} {o6 : Option kV} {σ : kS} (h : fb_Cl_search_104 k28 x2 x3 σ = some (some yf, σf)) : Rn l G dm_Cl_search m_Cl_search (kI fun y' σ' => y' = yf ∧ σ' = σf) 104 [some (.inr (7, 0)), some (.inr (6, 2)), some (.inl x2), some (.inl x3), o4, o5, o6] [] σ := by
  unfold fb_Cl_search_104 at h
  refine s_Cl_search_104  ?_
  exact e_Cl_search_105 hk28 h
def fb_Cl_search_92 (k28 : Int → kS → kRes) (x2 : Int) (x3 : Int) (σ : kS) : kRes := fb_Cl_search_105 k28 x2 x3 ((σ 2 0 4) + 1) σ
theorem e_Cl_search_92 {l : Launch} {G : kG} {yf : Int} {σf : kS} {k28 : Int → kS → kRes} (hk28 : ∀ (x2 : Int) (o3 : Option kV) (o4 : Option kV) (o5 : Option kV) (o6 : Option kV) (σ : kS), k28 x2 σ = some (some yf, σf) → Rn l G dm_Cl_search m_Cl_search (kI fun y' σ' => y' = yf ∧ σ' = σf) 28 [some (.inr (7, 0)), some (.inr (6, 2)), some (.inl x2), o3, o4, o5, o6] [] σ) {x2 : Int} {x3 : Int} {o4 : Option kV} {o5 : Option kV} {o6 : Option kV} {σ : kS} (h : fb_Cl_search_92 k28 x2 x3 σ = some (some yf, σf)) : Rn l G dm_Cl_search m_Cl_search (kI fun y' σ' => y' = yf ∧ σ' = σf) 92 [some (.inr (7, 0)), some (.inr (6, 2)), some (.inl x2), some (.inl x3), o4, o5, o6] [] σ := by
  unfold fb_Cl_search_92 at h
  refine s_Cl_search_92  ?_
  exact e_Cl_search_105 hk28 h
def fb_Cl_search_87 (k28 : Int → kS → kRes) (x2 : Int) (s0 : Int) (σ : kS) : kRes := kg ((-2147483648 ≤ x2 ∧ x2 < 2147483648)) (if x2 = 0 then fb_Cl_search_92 k28 x2 s0 σ else fb_Cl_search_104 k28 x2 s0 σ)
theorem e_Cl_search_87 {l : Launch} {G : kG} {yf : Int} {σf : kS} {k28 : Int → kS → kRes} (hk28 : ∀ (x2 : Int) (o3 : Option kV) (o4 : Option kV) (o5 : Option kV) (o6 : Option kV) (σ : kS), k28 x2 σ = some (some yf, σf) → Rn l G dm_Cl_search m_Cl_search (kI fun y' σ' => y' = yf ∧ σ' = σf) 28 [some (.inr (7, 0)), some (.inr (6, 2)), some (.inl x2), o3, o4, o5, o6] [] σ) {x2 : Int} {s0 : Int} {o3 : Option kV} {o4 : Option kV} {o5 : Option kV} {o6 : Option kV} {σ : kS} (h : fb_Cl_search_87 k28 x2 s0 σ = some (some yf, σf)) : Rn l G dm_Cl_search m_Cl_search (kI fun y' σ' => y' = yf ∧ σ' = σf) 87 [some (.inr (7, 0)), some (.inr (6, 2)), some (.inl x2), o3, o4, o5, o6] [.inl s0] σ := by
  unfold fb_Cl_search_87 at h
  obtain ⟨h1, h⟩ := kg_some h
  refine s_Cl_search_87 h1 (fun c => ?_) (fun c => ?_)
  · rw [if_neg c] at h
    exact e_Cl_search_104 hk28 h
  · rw [if_pos c] at h
    exact e_Cl_search_92 hk28 h
def fb_Cl_search_70 (k28 : Int → kS → kRes) (x2 : Int) (σ : kS) : kRes := fb_Cl_search_87 k28 x2 (((σ 2 0 3) + x2) - (σ 2 0 2)) σ
theorem e_Cl_search_70 {l : Launch} {G : kG} {yf : Int} {σf : kS} {k28 : Int → kS → kRes} (hk28 : ∀ (x2 : Int) (o3 : Option kV) (o4 : Option kV) (o5 : Option kV) (o6 : Option kV) (σ : kS), k28 x2 σ = some (some yf, σf) → Rn l G dm_Cl_search m_Cl_search (kI fun y' σ' => y' = yf ∧ σ' = σf) 28 [some (.inr (7, 0)), some (.inr (6, 2)), some (.inl x2), o3, o4, o5, o6] [] σ) {x2 : Int} {o3 : Option kV} {o4 : Option kV} {o5 : Option kV} {o6 : Option kV} {σ : kS} (h : fb_Cl_search_70 k28 x2 σ = some (some yf, σf)) : Rn l G dm_Cl_search m_Cl_search (kI fun y' σ' => y' = yf ∧ σ' = σf) 70 [some (.inr (7, 0)), some (.inr (6, 2)), some (.inl x2), o3, o4, o5, o6] [] σ := by
  unfold fb_Cl_search_70 at h
  refine s_Cl_search_70  ?_
  exact e_Cl_search_87 hk28 h
def fb_Cl_search_58 (k28 : Int → kS → kRes) (x2 : Int) (σ : kS) : kRes := fb_Cl_search_87 k28 x2 ((σ 2 0 3) + x2) σ
theorem e_Cl_search_58 {l : Launch} {G : kG} {yf : Int} {σf : kS} {k28 : Int → kS → kRes} (hk28 : ∀ (x2 : Int) (o3 : Option kV) (o4 : Option kV) (o5 : Option kV) (o6 : Option kV) (σ : kS), k28 x2 σ = some (some yf, σf) → Rn l G dm_Cl_search m_Cl_search (kI fun y' σ' => y' = yf ∧ σ' = σf) 28 [some (.inr (7, 0)), some (.inr (6, 2)), some (.inl x2), o3, o4, o5, o6] [] σ) {x2 : Int} {o3 : Option kV} {o4 : Option kV} {o5 : Option kV} {o6 : Option kV} {σ : kS} (h : fb_Cl_search_58 k28 x2 σ = some (some yf, σf)) : Rn l G dm_Cl_search m_Cl_search (kI fun y' σ' => y' = yf ∧ σ' = σf) 58 [some (.inr (7, 0)), some (.inr (6, 2)), some (.inl x2), o3, o4, o5, o6] [] σ := by
  unfold fb_Cl_search_58 at h
  refine s_Cl_search_58  ?_
  exact e_Cl_search_87 hk28 h
def fb_Cl_search_39 (k28 : Int → kS → kRes) (x2 : Int) (σ : kS) : kRes := kg ((-2147483648 ≤ (σ 2 0 3) + x2 ∧ (σ 2 0 3) + x2 < 2147483648) ∧ (-2147483648 ≤ σ 2 0 2 ∧ σ 2 0 2 < 2147483648)) (if (σ 2 0 2) ≤ ((σ 2 0 3) + x2) then fb_Cl_search_70 k28 x2 σ else fb_Cl_search_58 k28 x2 σ)
theorem e_Cl_search_39 {l : Launch} {G : kG} {yf : Int} {σf : kS} {k28 : Int → kS → kRes} (hk28 : ∀ (x2 : Int) (o3 : Option kV) (o4 : Option kV) (o5 : Option kV) (o6 : Option kV) (σ : kS), k28 x2 σ = some (some yf, σf) → Rn l G dm_Cl_search m_Cl_search (kI fun y' σ' => y' = yf ∧ σ' = σf) 28 [some (.inr (7, 0)), some (.inr (6, 2)), some (.inl x2), o3, o4, o5, o6] [] σ) {x2 : Int} {o3 : Option kV} {o4 : Option kV} {o5 : Option kV} {o6 : Option kV} {σ : kS} (h : fb_Cl_search_39 k28 x2 σ = some (some yf, σf)) : Rn l G dm_Cl_search m_Cl_search (kI fun y' σ' => y' = yf ∧ σ' = σf) 39 [some (.inr (7, 0)), some (.inr (6, 2)), some (.inl x2), o3, o4, o5, o6] [] σ := by
  unfold fb_Cl_search_39 at h
  obtain ⟨⟨h1, h2⟩, h⟩ := kg_some h
  refine s_Cl_search_39 h1 h2 (fun c => ?_) (fun c => ?_)
  · rw [if_pos c] at h
    exact e_Cl_search_70 hk28 h
  · rw [if_neg c] at h
    exact e_Cl_search_58 hk28 h
def fb_Cl_search_28 (k28 : Int → kS → kRes) (x2 : Int) (σ : kS) : kRes := kg ((-2147483648 ≤ x2 ∧ x2 < 2147483648) ∧ (-2147483648 ≤ σ 2 0 2 ∧ σ 2 0 2 < 2147483648)) (if (σ 2 0 2) < x2 then fb_Cl_search_190  x2 σ else fb_Cl_search_39 k28 x2 σ)
theorem e_Cl_search_28 {l : Launch} {G : kG} {yf : Int} {σf : kS} {k28 : Int → kS → kRes} (hk28 : ∀ (x2 : Int) (o3 : Option kV) (o4 : Option kV) (o5 : Option kV) (o6 : Option kV) (σ : kS), k28 x2 σ = some (some yf, σf) → Rn l G dm_Cl_search m_Cl_search (kI fun y' σ' => y' = yf ∧ σ' = σf) 28 [some (.inr (7, 0)), some (.inr (6, 2)), some (.inl x2), o3, o4, o5, o6] [] σ) {x2 : Int} {o3 : Option kV} {o4 : Option kV} {o5 : Option kV} {o6 : Option kV} {σ : kS} (h : fb_Cl_search_28 k28 x2 σ = some (some yf, σf)) : Rn l G dm_Cl_search m_Cl_search (kI fun y' σ' => y' = yf ∧ σ' = σf) 28 [some (.inr (7, 0)), some (.inr (6, 2)), some (.inl x2), o3, o4, o5, o6] [] σ := by
  unfold fb_Cl_search_28 at h
  obtain ⟨⟨h1, h2⟩, h⟩ := kg_some h
  refine s_Cl_search_28 h1 h2 (fun c => ?_) (fun c => ?_)
  · rw [if_pos c] at h
    exact e_Cl_search_190  h
  · rw [if_neg c] at h
    exact e_Cl_search_39 hk28 h
def fl_Cl_search_28  : Nat → Int → kS → kRes
  | 0, _, _ => none
  | n + 1, x2, σ => fb_Cl_search_28 (fl_Cl_search_28  n) x2 σ
theorem el_Cl_search_28 {l : Launch} {G : kG} {yf : Int} {σf : kS}  : ∀ (n : Nat) (x2 : Int) (o3 : Option kV) (o4 : Option kV) (o5 : Option kV) (o6 : Option kV) (σ : kS), fl_Cl_search_28  n x2 σ = some (some yf, σf) → Rn l G dm_Cl_search m_Cl_search (kI fun y' σ' => y' = yf ∧ σ' = σf) 28 [some (.inr (7, 0)), some (.inr (6, 2)), some (.inl x2), o3, o4, o5, o6] [] σ := by
  intro n
  induction n with
  | zero => intro x2 o3 o4 o5 o6 σ h; simp only [fl_Cl_search_28] at h; cases h
  | succ n ih => intro x2 o3 o4 o5 o6 σ h; simp only [fl_Cl_search_28] at h; exact e_Cl_search_28 ih h
def fb_Cl_search_26   (σ : kS) : kRes := fl_Cl_search_28  3000 0 σ
theorem e_Cl_search_26 {l : Launch} {G : kG} {yf : Int} {σf : kS}   {o2 : Option kV} {o3 : Option kV} {o4 : Option kV} {o5 : Option kV} {o6 : Option kV} {σ : kS} (h : fb_Cl_search_26   σ = some (some yf, σf)) : Rn l G dm_Cl_search m_Cl_search (kI fun y' σ' => y' = yf ∧ σ' = σf) 26 [some (.inr (7, 0)), some (.inr (6, 2)), o2, o3, o4, o5, o6] [] σ := by
  unfold fb_Cl_search_26 at h
  refine s_Cl_search_26  ?_
  exact el_Cl_search_28  _ _ _ _ _ _ _ h
def fb_Cl_search_24   (σ : kS) : kRes := some (some 0, σ)
theorem e_Cl_search_24 {l : Launch} {G : kG} {yf : Int} {σf : kS}   {o2 : Option kV} {o3 : Option kV} {o4 : Option kV} {o5 : Option kV} {o6 : Option kV} {σ : kS} (h : fb_Cl_search_24   σ = some (some yf, σf)) : Rn l G dm_Cl_search m_Cl_search (kI fun y' σ' => y' = yf ∧ σ' = σf) 24 [some (.inr (7, 0)), some (.inr (6, 2)), o2, o3, o4, o5, o6] [] σ := by
  unfold fb_Cl_search_24 at h
  simp only [Option.some.injEq, Prod.mk.injEq, true_and] at h
  exact s_Cl_search_24  ⟨_, rfl, h⟩
def fb_Cl_search_21  (s0 : Int) (σ : kS) : kRes := kg ((-2147483648 ≤ s0 ∧ s0 < 2147483648)) (if s0 = 0 then fb_Cl_search_24  σ else fb_Cl_search_26  σ)
theorem e_Cl_search_21 {l : Launch} {G : kG} {yf : Int} {σf : kS}  {s0 : Int} {o2 : Option kV} {o3 : Option kV} {o4 : Option kV} {o5 : Option kV} {o6 : Option kV} {σ : kS} (h : fb_Cl_search_21  s0 σ = some (some yf, σf)) : Rn l G dm_Cl_search m_Cl_search (kI fun y' σ' => y' = yf ∧ σ' = σf) 21 [some (.inr (7, 0)), some (.inr (6, 2)), o2, o3, o4, o5, o6] [.inl s0] σ := by
  unfold fb_Cl_search_21 at h
  obtain ⟨h1, h⟩ := kg_some h
  refine s_Cl_search_21 h1 (fun c => ?_) (fun c => ?_)
  · rw [if_neg c] at h
    exact e_Cl_search_26  h
  · rw [if_pos c] at h
    exact e_Cl_search_24  h
def fb_Cl_search_5   (σ : kS) : kRes := kg (σ 7 0 7 = 1) (kbi (f_Pa_read 0 (σ 7 0 8) 0 σ) fun y σ1 => fb_Cl_search_21  y σ1)
theorem e_Cl_search_5 {l : Launch} {G : kG} {yf : Int} {σf : kS}   {o2 : Option kV} {o3 : Option kV} {o4 : Option kV} {o5 : Option kV} {o6 : Option kV} {σ : kS} (h : fb_Cl_search_5   σ = some (some yf, σf)) : Rn l G dm_Cl_search m_Cl_search (kI fun y' σ' => y' = yf ∧ σ' = σf) 5 [some (.inr (7, 0)), some (.inr (6, 2)), o2, o3, o4, o5, o6] [] σ := by
  unfold fb_Cl_search_5 at h
  obtain ⟨h1, h⟩ := kg_some h
  obtain ⟨y, σ1, hc, h⟩ := kbi_some h
  refine s_Cl_search_5 h1 (by decide) (E_Pa_read hc) (fun y2 σ2 e2 => ?_)
  obtain ⟨rfl, rfl⟩ := e2
  exact e_Cl_search_21  h
def fb_Cl_search_0   (σ : kS) : kRes := kbu (f_Cl_begin  σ) fun σ1 => fb_Cl_search_5  σ1
theorem e_Cl_search_0 {l : Launch} {G : kG} {yf : Int} {σf : kS}   {o2 : Option kV} {o3 : Option kV} {o4 : Option kV} {o5 : Option kV} {o6 : Option kV} {σ : kS} (h : fb_Cl_search_0   σ = some (some yf, σf)) : Rn l G dm_Cl_search m_Cl_search (kI fun y' σ' => y' = yf ∧ σ' = σf) 0 [some (.inr (7, 0)), some (.inr (6, 2)), o2, o3, o4, o5, o6] [] σ := by
  unfold fb_Cl_search_0 at h
  obtain ⟨σ1, hc, h⟩ := kbu_some h
  refine s_Cl_search_0  (by decide) (E_Cl_begin hc) (fun σ2 e2 => ?_)
  subst e2
  exact e_Cl_search_5  h
def f_Cl_search  (σ : kS) : kRes := fb_Cl_search_0  σ
theorem E_Cl_search {l : Launch} {G : kG} {yf : Int} {σf : kS}  {σ : kS} (h : f_Cl_search  σ = some (some yf, σf)) : Call l G dm_Cl_search y_Cl_search m_Cl_search [.inr (7, 0), .inr (6, 2)] σ (kI fun y' σ' => y' = yf ∧ σ' = σf) := by
  unfold f_Cl_search at h
  exact Call.of (by decide +kernel) rfl (Nat.le_of_ble_eq_true rfl) (e_Cl_search_0 h)
