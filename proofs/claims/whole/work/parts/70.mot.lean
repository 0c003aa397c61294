/-! Pure: motions. Kinds of characters, stops, the walk over places (line * 32 + column). -/
def kd (c : Int) : Int := if c = 32 then 0 else if 97 ≤ c ∧ c ≤ 122 ∨ 65 ≤ c ∧ c ≤ 90 ∨ 48 ≤ c ∧ c ≤ 57 ∨ c = 95 then 1 else 2
theorem P_kindOf {c : Int} {σ : kS} (h : -2147483648 ≤ c ∧ c < 2147483648) : f_Mo_kindOf c σ = some (some (kd c), σ) := by
  unfold f_Mo_kindOf fb_Mo_kindOf_0 fb_Mo_kindOf_6 fb_Mo_kindOf_8 fb_Mo_kindOf_14 fb_Mo_kindOf_20 fb_Mo_kindOf_26 fb_Mo_kindOf_32 fb_Mo_kindOf_38 fb_Mo_kindOf_44 fb_Mo_kindOf_50 fb_Mo_kindOf_54 fb_Mo_kindOf_55 fb_Mo_kindOf_60 fb_Mo_kindOf_64 fb_Mo_kindOf_65 kd
  simp only [kg_pos h]
  rw [kg_pos (by decide), kg_pos (by decide), if_neg (by decide : ¬ (1 : Int) = 0)]
  simp only [if_true]
  split
  · rfl
  · by_cases h1 : 97 ≤ c ∧ c ≤ 122 ∨ 65 ≤ c ∧ c ≤ 90 ∨ 48 ≤ c ∧ c ≤ 57 ∨ c = 95
    · rw [if_pos h1]
      repeat' split
      all_goals first | rfl | (exfalso; omega)
    · rw [if_neg h1]
      repeat' split
      all_goals first | rfl | (exfalso; omega)
theorem Q_kindOf {c : Int} {σ : kS} (h : -2147483648 ≤ c ∧ c < 2147483648) : f_Rm_kindOf c σ = some (some (kd c), σ) := by
  unfold f_Rm_kindOf fb_Rm_kindOf_0 fb_Rm_kindOf_6 fb_Rm_kindOf_12 fb_Rm_kindOf_18 fb_Rm_kindOf_24 fb_Rm_kindOf_30 fb_Rm_kindOf_36 fb_Rm_kindOf_42 fb_Rm_kindOf_46 fb_Rm_kindOf_47 fb_Rm_kindOf_54 fb_Rm_kindOf_58 fb_Rm_kindOf_62 fb_Rm_kindOf_66 fb_Rm_kindOf_67 kd
  simp only [kg_pos h]
  rw [kg_pos (by decide), kg_pos (by decide), if_neg (by decide : ¬ (1 : Int) = 0)]
  simp only [if_true]
  by_cases h0 : c = 32
  · subst h0
    rfl
  · rw [if_neg h0]
    by_cases h1 : 97 ≤ c ∧ c ≤ 122 ∨ 65 ≤ c ∧ c ≤ 90 ∨ 48 ≤ c ∧ c ≤ 57 ∨ c = 95
    · rw [if_pos h1]
      repeat' split
      all_goals first | rfl | (exfalso; omega)
    · rw [if_neg h1]
      repeat' split
      all_goals first | rfl | (exfalso; omega)
/-- is there a stop at a place -/
def stI (T : Tx) (p c : Nat) : Int := if (ln T p).length = 0 then (if c = 0 then 1 else 0) else if c < (ln T p).length ∧ kd ((ln T p).getD c 0) ≠ 0 ∧ (c = 0 ∨ kd ((ln T p).getD c 0) ≠ kd ((ln T p).getD (c - 1) 0)) then 1 else 0
theorem stI_01 (T : Tx) (p c : Nat) : stI T p c = 0 ∨ stI T p c = 1 := by
  unfold stI
  repeat' split
  all_goals first | exact .inl rfl | exact .inr rfl
theorem kd_012 (c : Int) : 0 ≤ kd c ∧ kd c ≤ 2 := by
  unfold kd
  repeat' split
  all_goals decide
theorem szo_in {T : Tx} {p : Nat} (hp : p < T.length) : szo T p = (ln T p).length := by
  unfold szo
  rw [if_pos (by omega), Int.toNat_natCast]
theorem chr_in {T : Tx} {p c : Nat} (hp : p < T.length) (hc : c < (ln T p).length) : chr T p c = (ln T p).getD c 0 := by
  unfold chr
  rw [if_pos (by rw [Int.toNat_natCast]; omega), Int.toNat_natCast, Int.toNat_natCast]
theorem P_isStop {σ : kS} {T : Tx} {p c : Nat} (hT : CT σ 0 T) (hc : σ 2 0 2 = T.length) (hpr : printable T) (hp : p < T.length) (hc2 : c < 32) : f_Mo_isStop p c σ = some (some (stI T p c), σ) := by
  have hl := hT.1
  have h20 := (hT.2 p hp).2.1
  unfold f_Mo_isStop fb_Mo_isStop_0
  rw [kbi_eq (P_sizeOf hT hc (by omega)), szo_in hp]
  unfold fb_Mo_isStop_5 stI
  rw [kg_pos (by omega)]
  by_cases h0 : c < (ln T p).length
  · have hk := hpr p hp c h0
    rw [if_pos (by omega), if_neg (by omega)]
    unfold fb_Mo_isStop_25
    rw [kbi_eq (P_codeAt hT hc (by omega) (by omega)), chr_in hp h0]
    unfold fb_Mo_isStop_31
    rw [kbi_eq (P_kindOf (by omega))]
    have k1 := kd_012 ((ln T p).getD c 0)
    unfold fb_Mo_isStop_34
    rw [kg_pos (by omega)]
    by_cases h1 : kd ((ln T p).getD c 0) = 0
    · rw [if_pos h1, if_neg (by omega)]
      rfl
    · rw [if_neg h1]
      unfold fb_Mo_isStop_41
      rw [kg_pos (by omega)]
      by_cases h2 : c = 0
      · rw [if_pos (by omega), if_pos ⟨h0, h1, .inl h2⟩]
        rfl
      · have hk2 := hpr p hp (c - 1) (by omega)
        have k2 := kd_012 ((ln T p).getD (c - 1) 0)
        rw [if_neg (by omega)]
        unfold fb_Mo_isStop_45
        rw [show ((c : Int) - 1) = ((c - 1 : Nat) : Int) by omega, kbi_eq (P_codeAt hT hc (by omega) (by omega)), chr_in hp (by omega)]
        unfold fb_Mo_isStop_55
        rw [kbi_eq (P_kindOf (by omega))]
        unfold fb_Mo_isStop_58
        rw [kg_pos (by omega)]
        by_cases h3 : kd ((ln T p).getD c 0) = kd ((ln T p).getD (c - 1) 0)
        · rw [if_pos h3, if_neg (by omega)]
          rfl
        · rw [if_neg h3, if_pos ⟨h0, h1, .inr h3⟩]
          rfl
  · rw [if_neg (by omega)]
    unfold fb_Mo_isStop_11
    rw [kg_pos (by omega)]
    by_cases h2 : c = 0
    · rw [if_pos (by omega), if_pos (by omega), if_pos h2]
      unfold fb_Mo_isStop_15
      rw [kg_pos (by omega), if_pos (by omega)]
      rfl
    · rw [if_neg (by omega), if_neg (c := c = 0) h2, if_neg (c := c < _ ∧ _) (by omega), ite_self]
      rfl
theorem Q_at {σ : kS} {T : Tx} {p c : Nat} {xp xc : Int} (hxp : xp = p) (hxc : xc = c) (hT : RT σ 0 T) (hp : p < T.length) (hc : c < (ln T p).length) : f_Rm_at xp xc σ = some (some ((ln T p).getD c 0), σ) := by
  have hl := hT.1
  have h20 := (hT.2 p hp).2.1
  subst hxp hxc
  unfold f_Rm_at fb_Rm_at_0
  rw [kg_pos (by omega)]
  have : σ 20 0 (200 * 0 + (20 * p + c)) = _ := (hT.2 p hp).2.2 c hc
  rw [show (20 * (p : Int) + (c : Int)).toNat = 200 * 0 + (20 * p + c) by omega, this]
theorem Q_sz {σ : kS} {T : Tx} {p : Nat} {xp : Int} (hxp : xp = p) (hT : RT σ 0 T) (hp : p < T.length) : σ 21 0 xp.toNat = (ln T p).length := by
  have := (hT.2 p hp).1
  rw [hxp, Int.toNat_natCast, ← this]
  exact congrArg (σ 21 0) (by omega)
theorem Q_stop {σ : kS} {T : Tx} {p c : Nat} {xp xc : Int} (hxp : xp = p) (hxc : xc = c) (hT : RT σ 0 T) (hpr : printable T) (hp : p < T.length) (hc : c < max 1 (ln T p).length) : f_Rm_stop xp xc σ = some (some (stI T p c), σ) := by
  have hl := hT.1
  have h20 := (hT.2 p hp).2.1
  subst hxp hxc
  unfold f_Rm_stop fb_Rm_stop_0 stI
  rw [Q_sz rfl hT hp, kg_pos (by omega)]
  by_cases h0 : (ln T p).length = 0
  · rw [if_pos (by omega), if_pos h0, if_pos (by omega)]
    unfold fb_Rm_stop_9
    rw [kg_pos (by omega), if_pos (by omega)]
    rfl
  · have h1 : c < (ln T p).length := by omega
    have hk := hpr p hp c h1
    have k1 := kd_012 ((ln T p).getD c 0)
    rw [if_neg (by omega), if_neg h0]
    unfold fb_Rm_stop_19
    rw [kbi_eq (Q_at rfl rfl hT hp h1)]
    unfold fb_Rm_stop_26
    rw [kbi_eq (Q_kindOf (by omega))]
    unfold fb_Rm_stop_29
    rw [kg_pos (by omega)]
    by_cases h2 : kd ((ln T p).getD c 0) = 0
    · rw [if_pos (by omega), if_neg (by omega)]
      rfl
    · rw [if_neg (by omega)]
      unfold fb_Rm_stop_34
      rw [kg_pos (by omega)]
      by_cases h3 : c = 0
      · rw [if_pos (by omega), if_pos ⟨h1, h2, .inl h3⟩]
        rfl
      · have hk2 := hpr p hp (c - 1) (by omega)
        have k2 := kd_012 ((ln T p).getD (c - 1) 0)
        rw [if_neg (by omega)]
        unfold fb_Rm_stop_38
        rw [kbi_eq (Q_at (c := c - 1) rfl (by omega) hT hp (by omega))]
        unfold fb_Rm_stop_47
        rw [kbi_eq (Q_kindOf (by omega))]
        unfold fb_Rm_stop_50
        rw [kg_pos (by omega)]
        by_cases h4 : kd ((ln T p).getD (c - 1) 0) = kd ((ln T p).getD c 0)
        · rw [if_pos h4, if_neg (by omega)]
          rfl
        · rw [if_neg h4, if_pos ⟨h1, h2, .inr (Ne.symm h4)⟩]
          rfl
