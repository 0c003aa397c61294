/-! Pure: where a motion leads (a place, or -1). -/
def lead (x : Tc) (c n : Int) : Int :=
  if c = 36 then (if n ≤ 0 then 32 * x.2.1 + max 0 (((ln x.1 x.2.1.toNat).length : Int) - 1) else -1)
  else if c = 48 then (if n ≤ 0 then 32 * x.2.1 else -1)
  else if c = 71 then (if n ≤ x.1.length then (if n = 0 then 32 * ((x.1.length : Int) - 1) else 32 * (n - 1)) else -1)
  else if c = 98 then sbw x.1 (32 * x.2.1 + x.2.2).toNat (max 1 n).toNat
  else if c = 104 then (if x.2.2 = 0 then -1 else 32 * x.2.1 + max 0 (x.2.2 - max 1 n))
  else if c = 106 then (if x.2.1 + max 1 n < x.1.length then 32 * (x.2.1 + max 1 n) + x.2.2 else -1)
  else if c = 107 then (if max 1 n ≤ x.2.1 then 32 * (x.2.1 - max 1 n) + x.2.2 else -1)
  else if c = 108 then (if x.2.2 < max 0 (((ln x.1 x.2.1.toNat).length : Int) - 1) then 32 * x.2.1 + min (max 0 (((ln x.1 x.2.1.toNat).length : Int) - 1)) (x.2.2 + max 1 n) else -1)
  else if c = 119 then sfw x.1 (32 * (x.1.length : Int) - (32 * x.2.1 + x.2.2 + 1)).toNat (32 * x.2.1 + x.2.2 + 1).toNat (max 1 n).toNat
  else -1
theorem wfX.sz {x : Tc} (h : wfX x) : (ln x.1 x.2.1.toNat).length ≤ 20 ∧ x.2.1.toNat < x.1.length ∧ x.1.length ≤ 10 ∧ 0 < x.1.length ∧ 0 ≤ x.2.1 ∧ 0 ≤ x.2.2 ∧ x.2.2 ≤ (ln x.1 x.2.1.toNat).length ∧ ((x.2.1.toNat : Nat) : Int) = x.2.1 := by
  obtain ⟨⟨w1, w2, w3, w4⟩, w5, w6, w7, w8⟩ := h
  exact ⟨w4 _ (by omega), by omega, w2, w1, w5, w7, w8, by omega⟩
theorem C_lead {σ : kS} {x : Tc} {c n : Int} (hX : CX σ 0 x) (hw : wfX x) (hc : 0 ≤ c ∧ c ≤ 126) (hn : 0 ≤ n ∧ n ≤ 99) : f_Mo_lead c n σ = some (some (lead x c n), σ) := by
  obtain ⟨x1, x2, x3, x4⟩ := hX
  obtain ⟨w1, w2, w3, w4, w5, w6, w7, w8⟩ := hw.sz
  have hpr := hw.1.2.2.1
  obtain ⟨T, r, k⟩ := x
  dsimp only at *
  unfold f_Mo_lead fb_Mo_lead_0
  have hs : szo T r = (ln T r.toNat).length := by
    rw [← w8, szo_in w2, w8]
  rw [kg_pos (by omega), x3, x4, kbi_eq (P_sizeOf x1 x2 (by omega)), hs]
  unfold fb_Mo_lead_25 lead
  rw [kg_pos (by omega)]
  by_cases h1 : c = 36
  · rw [if_pos h1, if_pos h1]
    unfold fb_Mo_lead_225 fb_Mo_lead_233 fb_Mo_lead_229 f_Mo_place fb_Mo_place_0 fb_Mo_lead_240
    rw [kg_pos (by omega), Int.mul_comm r 32]
    split <;> rfl
  rw [if_neg h1, if_neg h1]
  by_cases h2 : c = 48
  · rw [if_pos h2, if_pos h2]
    unfold fb_Mo_lead_210 fb_Mo_lead_218 fb_Mo_lead_214 f_Mo_place fb_Mo_place_0 fb_Mo_lead_224
    rw [kg_pos (by omega), Int.mul_comm r 32, Int.add_zero]
    split <;> rfl
  rw [if_neg h2, if_neg h2]
  by_cases h3 : c = 71
  · rw [if_pos h3, if_pos h3]
    unfold fb_Mo_lead_241 fb_Mo_lead_249 fb_Mo_lead_253 fb_Mo_lead_257 fb_Mo_lead_264 fb_Mo_lead_265 f_Mo_place fb_Mo_place_0 fb_Mo_lead_271
    rw [x2, kg_pos (by omega), kg_pos (by omega), Int.mul_comm _ 32, Int.mul_comm _ 32, Int.add_zero, Int.add_zero]
    split
    · split <;> rfl
    · rfl
  rw [if_neg h3, if_neg h3]
  by_cases h4 : c = 98
  · rw [if_pos h4, if_pos h4]
    unfold fb_Mo_lead_285 f_Mo_place fb_Mo_place_0
    rw [kbi_eq rfl]
    unfold fb_Mo_lead_293 f_Mo_stopBefore fb_Mo_stopBefore_0
    have := L_before (σ := σ) (x1 := r * 32 + k) (x2 := max 1 n) x1 x2 hpr (32 * r + k).toNat 3000 (max 1 n).toNat (by omega) (by omega) (by omega) (by omega)
    rw [show (((32 * r + k).toNat : Nat) : Int) - 1 = r * 32 + k - 1 by omega, show (((max 1 n).toNat : Nat) : Int) = max 1 n by omega] at this
    rw [kbi_eq this]
    rfl
  rw [if_neg h4, if_neg h4]
  by_cases h5 : c = 104
  · rw [if_pos h5, if_pos h5]
    unfold fb_Mo_lead_116 fb_Mo_lead_121 fb_Mo_lead_125 f_Mo_place fb_Mo_place_0 fb_Mo_lead_138
    rw [kg_pos (by omega), kg_pos (by omega), Int.mul_comm r 32]
    split <;> rfl
  rw [if_neg h5, if_neg h5]
  by_cases h6 : c = 106
  · rw [if_pos h6, if_pos h6]
    unfold fb_Mo_lead_165 fb_Mo_lead_176 fb_Mo_lead_180 f_Mo_place fb_Mo_place_0 fb_Mo_lead_189
    rw [x2, kg_pos (by omega), Int.mul_comm _ 32]
    split <;> rfl
  rw [if_neg h6, if_neg h6]
  by_cases h7 : c = 107
  · rw [if_pos h7, if_pos h7]
    unfold fb_Mo_lead_190 fb_Mo_lead_196 fb_Mo_lead_200 f_Mo_place fb_Mo_place_0 fb_Mo_lead_209
    rw [kg_pos (by omega), Int.mul_comm _ 32]
    split <;> rfl
  rw [if_neg h7, if_neg h7]
  by_cases h8 : c = 108
  · rw [if_pos h8, if_pos h8]
    unfold fb_Mo_lead_139 fb_Mo_lead_146 fb_Mo_lead_150 f_Mo_place fb_Mo_place_0 fb_Mo_lead_164
    rw [kg_pos (by omega), kg_pos (by omega), Int.mul_comm r 32]
    split <;> rfl
  rw [if_neg h8, if_neg h8]
  by_cases h9 : c = 119
  · rw [if_pos h9, if_pos h9]
    unfold fb_Mo_lead_272 f_Mo_place fb_Mo_place_0
    rw [kbi_eq rfl]
    unfold fb_Mo_lead_280 f_Mo_stopBehind fb_Mo_stopBehind_0
    have := L_behind (σ := σ) (x1 := r * 32 + k) (x2 := max 1 n) x1 x2 hpr (32 * (T.length : Int) - (32 * r + k + 1)).toNat 3000 (32 * r + k + 1).toNat (max 1 n).toNat (by omega) (by omega) (by omega) (by omega)
    rw [show (((32 * r + k + 1).toNat : Nat) : Int) = r * 32 + k + 1 by omega, show (((max 1 n).toNat : Nat) : Int) = max 1 n by omega] at this
    rw [kbi_eq this]
    rfl
  rw [if_neg h9, if_neg h9]
  rfl
theorem R_motion {σ : kS} {x : Tc} {c n d m : Int} (hX : RX σ 0 x) (hw : wfX x) (hon : onC x) (hd : σ 9 0 10 = d) (hdn : 0 ≤ d ∧ d ≤ 2 ∧ (d = 0 ↔ n = 0)) (hc : 0 ≤ c ∧ c ≤ 126) (hn : 0 ≤ n ∧ n ≤ 99) (hm : m = max 1 n) (h0 : c = 36 ∨ c = 48 → n = 0) : ToS (f_Rm_motion c m σ) σ (lead x c n) := by
  obtain ⟨x1, x2, x3, x4⟩ := hX
  obtain ⟨w1, w2, w3, w4, w5, w6, w7, w8⟩ := hw.sz
  have hpr := hw.1.2.2.1
  unfold onC at hon
  obtain ⟨T, r, k⟩ := x
  dsimp only at *
  have hs : σ 21 0 r.toNat = (ln T r.toNat).length := Q_sz w8.symm x1 w2
  have e0 : ∀ c', f_Rm_motion c' m σ = fb_Rm_motion_36 c' m r k (max 0 (((ln T r.toNat).length : Int) - 1)) σ := by
    intro c'
    unfold f_Rm_motion fb_Rm_motion_0 fb_Rm_motion_24 fb_Rm_motion_35
    rw [x3, x4, hs, kg_pos (by omega), kg_pos (by omega)]
    split
    · exact congrArg (fun z => fb_Rm_motion_36 c' m r k z σ) (by omega)
    · exact congrArg (fun z => fb_Rm_motion_36 c' m r k z σ) (by omega)
  rw [e0]
  have hl : 0 ≤ max 0 (((ln T r.toNat).length : Int) - 1) ∧ max 0 (((ln T r.toNat).length : Int) - 1) < 20 ∧ k ≤ max 0 (((ln T r.toNat).length : Int) - 1) := by omega
  unfold lead
  dsimp only
  generalize max 0 (((ln T r.toNat).length : Int) - 1) = e at hl
  have e36 : fb_Rm_motion_36 c m r k e σ = fb_Rm_motion_94 c m r k e (if c = 106 then r + m else if c = 107 then r - m else if c = 71 then (if d ≤ 0 then (T.length : Int) - 1 else m - 1) else r) σ := by
    unfold fb_Rm_motion_36 fb_Rm_motion_45 fb_Rm_motion_51 fb_Rm_motion_57 fb_Rm_motion_63 fb_Rm_motion_69 fb_Rm_motion_76 fb_Rm_motion_82 fb_Rm_motion_93
    rw [hd, x2, kg_pos (by omega), kg_pos (by omega), kg_pos (by omega), kg_pos (by omega)]
    repeat' split
    all_goals rfl
  rw [e36]
  unfold fb_Rm_motion_94
  rw [kg_pos (by omega)]
  have hS : ∀ a b : Int, kup (kup σ 9 0 16 a) 9 0 17 b = sTo σ a b := fun a b => rfl
  have hS2 : ∀ a b v : Int, kup (sTo σ a b) 9 0 17 v = sTo σ a v := by
    intro a b v
    unfold sTo
    funext i j l
    simp only [kup]
    split <;> rfl
  rw [hS]
  by_cases h9 : c = 119
  · rw [if_pos h9, if_neg (by omega), if_neg (by omega), if_neg (by omega), if_neg (by omega), if_neg (by omega), if_neg (by omega), if_neg (by omega), if_neg (by omega), if_pos h9]
    rw [if_neg (by omega), if_neg (by omega), if_neg (by omega)]
    unfold fb_Rm_motion_115
    rw [kg_pos (by omega), if_pos h9]
    unfold fb_Rm_motion_123 fb_Rm_motion_128 f_Rm_toStop fb_Rm_toStop_0
    have x3' : sTo σ r k 23 0 0 = r := x3
    have x4' : sTo σ r k 24 0 0 = k := x4
    obtain ⟨y, u, v, z1, z2⟩ := L_toStopF' (σ := σ) (x1 := m) x1 x2 hpr (T.length - r.toNat) 3000 r.toNat (k + 1).toNat m.toNat r k (by omega) (by omega) (by omega) (by omega) (by omega)
    rw [show (((r.toNat : Nat) : Int)) = r by omega, show (((k + 1).toNat : Nat) : Int) = k + 1 by omega, show ((m.toNat : Nat) : Int) = m by omega] at z1
    rw [x3', x4', kbi_eq z1]
    refine ⟨y, u, v, ?_, ?_⟩
    · unfold fb_Rm_motion_131
      rw [kg_pos (by omega)]
    · rw [show (32 * (T.length : Int) - (32 * r + k + 1)).toNat = 32 * (T.length - r.toNat) - (k + 1).toNat by omega, show (32 * r + k + 1).toNat = 32 * r.toNat + (k + 1).toNat by omega, ← hm]
      exact z2
  rw [if_neg h9]
  unfold fb_Rm_motion_109
  rw [kg_pos (by omega)]
  by_cases h4 : c = 98
  · rw [if_pos h4, if_neg (by omega), if_neg (by omega), if_neg (by omega), if_neg (by omega), if_neg (by omega), if_neg (by omega), if_pos h4]
    unfold fb_Rm_motion_115
    rw [kg_pos (by omega), if_neg (by omega)]
    unfold fb_Rm_motion_127 fb_Rm_motion_128 f_Rm_toStop fb_Rm_toStop_0
    have x3' : sTo σ r k 23 0 0 = r := x3
    have x4' : sTo σ r k 24 0 0 = k := x4
    obtain ⟨y, u, v, z1, z2⟩ := L_toStopB' (σ := σ) (x1 := m) x1 x2 hpr r.toNat 3000 k.toNat m.toNat r k (by omega) (by omega) (by omega) (by omega) (by omega)
    rw [show (((r.toNat : Nat) : Int)) = r by omega, show ((k.toNat : Nat) : Int) - 1 = k + -1 by omega, show ((m.toNat : Nat) : Int) = m by omega] at z1
    rw [x3', x4', kbi_eq z1]
    refine ⟨y, u, v, ?_, ?_⟩
    · unfold fb_Rm_motion_131
      rw [kg_pos (by omega)]
    · rw [show (32 * r + k).toNat = 32 * r.toNat + k.toNat by omega, ← hm]
      exact z2
  rw [if_neg h4]
  unfold fb_Rm_motion_132
  rw [kg_pos (by omega)]
  by_cases h5 : c = 104
  · subst h5
    simp only [Int.reduceEq, if_false, if_true]
    unfold fb_Rm_motion_138 fb_Rm_motion_145 fb_Rm_motion_152 fb_Rm_motion_153 fb_Rm_motion_161 fb_Rm_motion_165 fb_Rm_motion_166
    rw [kg_pos (by omega), kg_pos (by omega), kg_pos (by omega), kg_pos (by omega), kg_pos (by omega), hS2, hS2]
    repeat' split
    all_goals first
      | exact ⟨0, _, _, rfl, .inl ⟨rfl, rfl⟩⟩
      | exact ⟨1, _, _, rfl, .inr ⟨rfl, by omega, by omega, by omega, by omega⟩⟩
      | (exfalso; omega)
  rw [if_neg h5]
  unfold fb_Rm_motion_167
  rw [kg_pos (by omega)]
  by_cases h8 : c = 108
  · subst h8
    simp only [Int.reduceEq, if_false, if_true, ← hm]
    unfold fb_Rm_motion_173 fb_Rm_motion_183 fb_Rm_motion_190 fb_Rm_motion_192 fb_Rm_motion_202 fb_Rm_motion_206 fb_Rm_motion_207
    rw [kg_pos (by omega), kg_pos (by omega), kg_pos (by omega), kg_pos (by omega), kg_pos (by omega), hS2, hS2]
    by_cases q1 : k < e
    · have q3 : ¬ e ≤ k := by omega
      by_cases q2 : e ≤ k + m
      · simp only [q1, q2, q3, if_true, if_false]
        exact ⟨1, _, _, rfl, .inr ⟨rfl, by omega, by omega, by omega, by omega⟩⟩
      · simp only [q1, q2, q3, if_true, if_false]
        exact ⟨1, _, _, rfl, .inr ⟨rfl, by omega, by omega, by omega, by omega⟩⟩
    · have q3 : e ≤ k := by omega
      have q2 : e ≤ k + m := by omega
      simp only [q1, q2, q3, if_true, if_false]
      exact ⟨0, _, _, rfl, .inl ⟨rfl, rfl⟩⟩
  rw [if_neg h8]
  have e208 : ∀ R : Int, -1000 ≤ R → R ≤ 1000 → fb_Rm_motion_208 c m r k e (sTo σ R k) = fb_Rm_motion_237 c m r k e (sTo σ R (if c = 36 then e else if c = 71 ∨ c = 48 then 0 else k)) := by
    intro R _ _
    unfold fb_Rm_motion_208 fb_Rm_motion_214 fb_Rm_motion_220 fb_Rm_motion_225 fb_Rm_motion_231
    rw [kg_pos (by omega), kg_pos (by omega), kg_pos (by omega), kg_pos (by omega), hS2, hS2, hS2]
    by_cases q1 : c = 36
    · rw [if_pos q1, if_pos q1, if_pos q1, if_neg (by omega), if_neg (by omega)]
    · rw [if_neg q1, if_neg q1, if_neg q1]
      by_cases q2 : c = 71
      · rw [if_pos q2, if_pos (.inl q2)]
      · rw [if_neg q2]
        by_cases q3 : c = 48
        · rw [if_pos q3, if_pos (.inr q3)]
        · rw [if_neg q3, if_neg (by omega)]
  have e237 : ∀ R V : Int, -1000 ≤ R → R ≤ 1000 → 0 ≤ V → V < 32 → fb_Rm_motion_237 c m r k e (sTo σ R V) = some (some (if (c = 106 ∨ c = 107 ∨ c = 71 ∨ c = 48 ∨ c = 36) ∧ 0 ≤ R ∧ R < T.length then 1 else 0), sTo σ R V) := by
    intro R V _ _ _ _
    have x2' : sTo σ R V 22 0 0 = T.length := x2
    have y2' : sTo σ R V 9 0 16 = R := rfl
    unfold fb_Rm_motion_237 fb_Rm_motion_243 fb_Rm_motion_249 fb_Rm_motion_255 fb_Rm_motion_261 fb_Rm_motion_267 fb_Rm_motion_271 fb_Rm_motion_272 fb_Rm_motion_279 fb_Rm_motion_286 fb_Rm_motion_299 fb_Rm_motion_303 fb_Rm_motion_304
    rw [x2', y2']
    rw [kg_pos (by omega), kg_pos (by omega), kg_pos (by omega), kg_pos (by omega), kg_pos (by omega), kg_pos (by omega), kg_pos (by omega), kg_pos (by omega), kg_pos (by omega), kg_pos (by omega), kg_pos (by omega)]
    rw [if_neg (by decide : ¬ (1 : Int) = 0)]
    simp only [if_true]
    have hf : (if R < 0 then some (some (0 : Int), sTo σ R V) else if (T.length : Int) ≤ R then some (some 0, sTo σ R V) else some (some 1, sTo σ R V)) = some (some (if 0 ≤ R ∧ R < T.length then 1 else 0), sTo σ R V) := by
      repeat' split
      all_goals first | rfl | (exfalso; omega)
    rw [hf]
    by_cases q : c = 106 ∨ c = 107 ∨ c = 71 ∨ c = 48 ∨ c = 36
    · simp only [q, true_and]
      repeat' split
      all_goals first | rfl | (exfalso; omega)
    · simp only [q, false_and]
      repeat' split
      all_goals first | rfl | (exfalso; omega)
  rw [e208 _ (by repeat' split; all_goals omega) (by repeat' split; all_goals omega), e237 _ _ (by repeat' split; all_goals omega) (by repeat' split; all_goals omega) (by repeat' split; all_goals omega) (by repeat' split; all_goals omega)]
  refine ⟨_, _, _, rfl, ?_⟩
  repeat' split
  all_goals omega
