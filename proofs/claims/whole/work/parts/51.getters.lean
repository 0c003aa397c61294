/-! Pure: what the two states have in common, and the calls that only read -/
def printable (T : Tx) : Prop := ∀ p, p < T.length → ∀ c, c < (ln T p).length → 32 ≤ (ln T p).getD c 0 ∧ (ln T p).getD c 0 ≤ 126
def JMode (σ : kS) : Prop := σ 5 0 6 = σ 9 0 5 ∧ (σ 9 0 5 = 0 ∨ σ 9 0 5 = 1 ∨ σ 9 0 5 = 2)
def JText (σ : kS) (T : Tx) : Prop := CT σ 0 T ∧ σ 2 0 2 = T.length ∧ RT σ 0 T ∧ σ 22 0 0 = T.length ∧ 0 < T.length ∧ printable T
def JCur (σ : kS) (T : Tx) : Prop := σ 2 0 3 = σ 23 0 0 ∧ σ 2 0 4 = σ 24 0 0 ∧ 0 ≤ σ 23 0 0 ∧ σ 23 0 0 < T.length ∧ 0 ≤ σ 24 0 0 ∧ σ 24 0 0 ≤ (ln T (σ 23 0 0).toNat).length ∧ (σ 9 0 5 ≠ 1 → σ 24 0 0 < (ln T (σ 23 0 0).toNat).length ∨ σ 24 0 0 = 0)
def JBuf (σ : kS) (B : Tx) : Prop := σ 1 0 4 = σ 9 0 7 ∧ -1 ≤ σ 9 0 7 ∧ σ 9 0 7 ≤ 10 ∧ CT σ 3 B ∧ σ 2 3 2 = B.length ∧ RT σ 4 B ∧ (B.length : Int) = (if σ 9 0 7 = 0 then 1 else max 0 (σ 9 0 7)) ∧ printable B ∧ (σ 9 0 7 = 0 → 0 < (ln B 0).length)
/-- the file (text 4, reference's 5) and the safe text (5, 6) -/
def JPut (σ : kS) (t b : Nat) (F : Tx) : Prop := σ 2 t 2 = F.length ∧ CT σ t F ∧ RT σ b F ∧ σ 22 0 b = (if F.length = 0 then -1 else (F.length : Int)) ∧ printable F
def JWin (n : Nat) (σ : kS) : Prop := σ 4 0 2 = σ 9 0 37 ∧ 5 ≤ σ 9 0 37 ∧ σ 9 0 37 ≤ 20 ∧ σ 4 0 3 = σ 9 0 38 ∧ 0 ≤ σ 9 0 38 ∧ σ 9 0 38 < 10 ∧ σ 4 0 4 = σ 9 0 39 ∧ 0 ≤ σ 9 0 39 ∧ σ 9 0 39 ≤ 115 * n ∧
  ∀ r c : Nat, r < 5 → (c : Int) < σ 9 0 37 → σ 15 0 (r * (σ 9 0 37).toNat + c) = σ 36 0 (20 * r + c) ∧ 0 ≤ σ 36 0 (20 * r + c) ∧ σ 36 0 (20 * r + c) ≤ 126
theorem S_mode {σ : kS} (h : JMode σ) : f_Ks_mode σ = some (some (σ 9 0 5), σ) ∧ f_Rm_mode σ = some (some (σ 9 0 5), σ) := by
  unfold f_Ks_mode fb_Ks_mode_0 f_Rm_mode fb_Rm_mode_0
  rw [h.1]
  exact ⟨rfl, rfl⟩
theorem S_lines {σ : kS} {T : Tx} (h : JText σ T) : f_Ks_lines σ = some (some (σ 22 0 0), σ) ∧ f_Rm_lines σ = some (some (σ 22 0 0), σ) := by
  unfold f_Ks_lines fb_Ks_lines_0 f_Rm_lines fb_Rm_lines_0
  rw [h.2.1, h.2.2.2.1]
  exact ⟨rfl, rfl⟩
theorem S_length {σ : kS} {T : Tx} {x : Int} (h : JText σ T) (hx : -2147483648 ≤ x ∧ x < 2147483648) : f_Ks_length x σ = some (some (szo T x), σ) ∧ f_Rm_length x σ = some (some (szo T x), σ) := by
  constructor
  · unfold f_Ks_length fb_Ks_length_0 fb_Ks_length_11
    rw [kbi_eq (P_sizeOf h.1 h.2.1 hx)]
  · have hl := h.1.1
    have hT := h.2.2.1
    have hc := h.2.2.2.1
    unfold f_Rm_length fb_Rm_length_0 fb_Rm_length_4 fb_Rm_length_14 fb_Rm_length_18 fb_Rm_length_24 szo
    rw [kg_pos hx]
    by_cases h1 : x < 0
    · rw [if_pos h1, if_neg (by omega)]
    · rw [if_neg h1, kg_pos ⟨hx, by omega⟩]
      by_cases h2 : x < σ 22 0 0
      · have hp := (hT.2 x.toNat (by omega)).1
        have hp2 : σ 21 0 x.toNat = ((ln T x.toNat).length : Int) := by simpa using hp
        rw [if_pos h2, kg_pos (by omega), if_pos (by omega), hp2]
      · rw [if_neg h2, if_neg (by omega)]
theorem S_letter {σ : kS} {T : Tx} {x y : Int} (h : JText σ T) (hx : -2147483648 ≤ x ∧ x < 2147483648) (hy : -2147483648 ≤ y ∧ y < 2147483648) : f_Ks_letter x y σ = some (some (chr T x y), σ) ∧ f_Rm_letter x y σ = some (some (chr T x y), σ) := by
  have hc := h.2.2.2.1
  constructor
  · unfold f_Ks_letter fb_Ks_letter_0 fb_Ks_letter_12
    rw [kbi_eq (P_codeAt h.1 h.2.1 hx hy)]
  · unfold f_Rm_letter fb_Rm_letter_0 fb_Rm_letter_13
    rw [kbi_eq (P_character (b := 0) (bi := 0) (n := σ 22 0 0) rfl (by omega) h.2.2.1 (by omega) (by omega) hx hy)]
theorem S_cursor {σ : kS} {T : Tx} (h : JCur σ T) : f_Ks_cursor σ = some (some (32 * σ 23 0 0 + σ 24 0 0), σ) ∧ f_Rm_cursor σ = some (some (32 * σ 23 0 0 + σ 24 0 0), σ) := by
  unfold f_Ks_cursor fb_Ks_cursor_0 f_Rm_cursor fb_Rm_cursor_0
  rw [h.1, h.2.1, Int.mul_comm]
  exact ⟨rfl, rfl⟩
theorem S_buffer {σ : kS} {B : Tx} (h : JBuf σ B) : f_Ks_buffer σ = some (some (σ 9 0 7), σ) ∧ f_Rm_buffer σ = some (some (σ 9 0 7), σ) := by
  unfold f_Ks_buffer fb_Ks_buffer_0 f_Rm_buffer fb_Rm_buffer_0
  rw [h.1]
  exact ⟨rfl, rfl⟩
theorem S_held {σ : kS} {B : Tx} {x y : Int} (h : JBuf σ B) (hx : -2147483648 ≤ x ∧ x < 2147483648) (hy : -2147483648 ≤ y ∧ y < 2147483648) : f_Ks_held x y σ = some (some (chr B x y), σ) ∧ f_Rm_held x y σ = some (some (chr B x y), σ) := by
  obtain ⟨h1, h2, h3, h4, h5, h6, h7, -⟩ := h
  constructor
  · unfold f_Ks_held fb_Ks_held_0 fb_Ks_held_12
    rw [kbi_eq (P_codeAt h4 h5 hx hy)]
  · unfold f_Rm_held fb_Rm_held_0 fb_Rm_held_9 fb_Rm_held_13 fb_Rm_held_17 fb_Rm_held_22
    rw [kg_pos (by omega)]
    by_cases h8 : σ 9 0 7 = 0
    · rw [if_pos h8] at h7
      rw [if_pos h8, kbi_eq (P_character (b := 4) (bi := 4) (n := 1) rfl (by omega) h6 (by omega) (by omega) hx hy)]
    · rw [if_neg h8] at h7
      rw [if_neg h8, kbi_eq (P_character (b := 4) (bi := 4) (n := σ 9 0 7) rfl (by omega) h6 (by omega) (by omega) hx hy)]
theorem S_file {σ : kS} {F : Tx} (h : JPut σ 4 5 F) : f_Ks_file σ = some (some (σ 22 0 5), σ) ∧ f_Rm_file σ = some (some (σ 22 0 5), σ) := by
  obtain ⟨h1, h2, h3, h4, -⟩ := h
  have hl := h2.1
  refine ⟨?_, rfl⟩
  unfold f_Ks_file fb_Ks_file_0 fb_Ks_file_13 fb_Ks_file_17 fb_Ks_file_27
  rw [kg_pos (by omega)]
  by_cases h5 : F.length = 0
  · rw [if_pos (by omega), h4, if_pos h5]
  · rw [if_neg (by omega), h4, if_neg h5, h1]
theorem S_stored {σ : kS} {F : Tx} {x y : Int} (h : JPut σ 4 5 F) (hx : -2147483648 ≤ x ∧ x < 2147483648) (hy : -2147483648 ≤ y ∧ y < 2147483648) : f_Ks_stored x y σ = some (some (chr F x y), σ) ∧ f_Rm_stored x y σ = some (some (chr F x y), σ) := by
  obtain ⟨h1, h2, h3, h4, -⟩ := h
  constructor
  · unfold f_Ks_stored fb_Ks_stored_0 fb_Ks_stored_12
    rw [kbi_eq (P_codeAt h2 h1 hx hy)]
  · unfold f_Rm_stored fb_Rm_stored_0 fb_Rm_stored_13
    have h5 : max 0 (σ 22 0 5) = F.length ∧ -1 ≤ σ 22 0 5 := by
      rw [h4]
      split <;> omega
    rw [kbi_eq (P_character (b := 5) (bi := 5) (n := σ 22 0 5) rfl (by omega) h3 h5.1 h5.2 hx hy)]
theorem S_top {n : Nat} {σ : kS} (h : JWin n σ) : f_Ks_top σ = some (some (σ 9 0 38), σ) ∧ f_Rm_top σ = some (some (σ 9 0 38), σ) := by
  unfold f_Ks_top fb_Ks_top_0 f_Rm_top fb_Rm_top_0
  rw [h.2.2.2.1]
  exact ⟨rfl, rfl⟩
theorem S_sent {n : Nat} {σ : kS} (h : JWin n σ) : f_Ks_sent σ = some (some (σ 9 0 39), σ) ∧ f_Rm_sent σ = some (some (σ 9 0 39), σ) := by
  unfold f_Ks_sent fb_Ks_sent_0 f_Rm_sent fb_Rm_sent_0
  rw [h.2.2.2.2.2.2.1]
  exact ⟨rfl, rfl⟩
theorem S_cell {n : Nat} {σ : kS} {x y : Int} (h : JWin n σ) (hx : -2147483648 ≤ x ∧ x < 2147483648) (hy : -2147483648 ≤ y ∧ y < 2147483648) : ∃ z, f_Ks_cell x y σ = some (some z, σ) ∧ f_Rm_cell x y σ = some (some z, σ) := by
  obtain ⟨h1, h2, h3, -, -, -, -, -, -, h10⟩ := h
  by_cases hin : 0 ≤ x ∧ x < 5 ∧ 0 ≤ y ∧ y < σ 9 0 37
  · obtain ⟨g1, -⟩ := h10 x.toNat y.toNat (by omega) (by omega)
    refine ⟨σ 36 0 (20 * x.toNat + y.toNat), ?_, ?_⟩
    · unfold f_Ks_cell fb_Ks_cell_0 f_Wi_codeAt fb_Wi_codeAt_0 fb_Wi_codeAt_4 fb_Wi_codeAt_9 fb_Wi_codeAt_13 fb_Wi_codeAt_25 fb_Wi_codeAt_38 fb_Ks_cell_9
      have hm : 0 ≤ x * σ 9 0 37 := Int.mul_nonneg hin.1 (by omega)
      have hm2 : x * σ 9 0 37 ≤ 4 * σ 9 0 37 := Int.mul_le_mul_of_nonneg_right (by omega) (by omega)
      have e : (x * σ 9 0 37 + y).toNat = x.toNat * (σ 9 0 37).toNat + y.toNat := by
        rw [Int.toNat_add hm hin.2.2.1, Int.toNat_mul hin.1 (by omega)]
      rw [kg_pos hx, if_neg (by omega), kg_pos hx, if_neg (by omega), kg_pos hy, if_neg (by omega), h1, kg_pos (by omega), if_pos (by omega), kg_pos (by omega), e, g1]
      rfl
    · unfold f_Rm_cell fb_Rm_cell_0 fb_Rm_cell_4 fb_Rm_cell_9 fb_Rm_cell_13 fb_Rm_cell_25 fb_Rm_cell_36
      have e : (20 * x + y).toNat = 20 * x.toNat + y.toNat := by omega
      rw [kg_pos hx, if_neg (by omega), kg_pos hx, if_neg (by omega), kg_pos hy, if_neg (by omega), kg_pos (by omega), if_pos (by omega), kg_pos (by omega), e]
  · refine ⟨0, ?_, ?_⟩
    · unfold f_Ks_cell fb_Ks_cell_0 f_Wi_codeAt fb_Wi_codeAt_0 fb_Wi_codeAt_4 fb_Wi_codeAt_9 fb_Wi_codeAt_13 fb_Wi_codeAt_21 fb_Wi_codeAt_38 fb_Ks_cell_9
      rw [kg_pos hx]
      by_cases a1 : x < 0
      · rw [if_pos a1]; rfl
      · rw [if_neg a1, kg_pos hx]
        by_cases a2 : 5 ≤ x
        · rw [if_pos a2]; rfl
        · rw [if_neg a2, kg_pos hy]
          by_cases a3 : y < 0
          · rw [if_pos a3]; rfl
          · rw [if_neg a3, kg_pos (by omega), if_neg (by omega)]; rfl
    · unfold f_Rm_cell fb_Rm_cell_0 fb_Rm_cell_4 fb_Rm_cell_9 fb_Rm_cell_13 fb_Rm_cell_21 fb_Rm_cell_36
      rw [kg_pos hx]
      by_cases a1 : x < 0
      · rw [if_pos a1]
      · rw [if_neg a1, kg_pos hx]
        by_cases a2 : 4 < x
        · rw [if_pos a2]
        · rw [if_neg a2, kg_pos hy]
          by_cases a3 : y < 0
          · rw [if_pos a3]
          · rw [if_neg a3, kg_pos (by omega), if_neg (by omega)]
