/-! Pure: w and b, the reference's walk. -/
def sTo (σ : kS) (u v : Int) : kS := kup (kup σ 9 0 16 u) 9 0 17 v
theorem sTo_sTo (σ : kS) (u v u' v' : Int) : kup (kup (sTo σ u v) 9 0 16 u') 9 0 17 v' = sTo σ u' v' := by
  unfold sTo
  funext a b c
  simp only [kup]
  split
  · rfl
  · split
    · rfl
    · rfl
theorem sTo_id (σ : kS) : sTo σ (σ 9 0 16) (σ 9 0 17) = σ := by
  unfold sTo
  funext a b c
  simp only [kup]
  split
  · rename_i h
    rw [h.1, h.2.1, h.2.2]
  · split
    · rename_i h
      rw [h.1, h.2.1, h.2.2]
    · rfl
def ToS (o : kRes) (σ : kS) (z : Int) : Prop := ∃ y u v, o = some (some y, sTo σ u v) ∧ (y = 0 ∧ z = -1 ∨ y = 1 ∧ 0 ≤ u ∧ 0 ≤ v ∧ v < 32 ∧ z = 32 * u + v)
theorem ToS.cg {o o' : kRes} {σ : kS} {z z' : Int} (h : ToS o σ z) (e : o' = o) (e2 : z' = z) : ToS o' σ z' := by
  rw [e, e2]
  exact h
theorem L_toStopF {σ : kS} {T : Tx} {x1 : Int} {k20 : Int → Int → Int → Int → Int → kS → kRes} {p : Nat} (hT : RT σ 0 T) (hc : σ 22 0 0 = T.length) (hpr : printable T) (hp : p < T.length)
    (hk : ∀ (l : Nat) (u v : Int), 1 ≤ l → l ≤ 1000 → ToS (k20 x1 1 (p + 1 : Nat) 0 l (sTo σ u v)) σ (sfw T (32 * (T.length - p - 1)) (32 * (p + 1)) l)) :
    ∀ (m n c l : Nat) (u v : Int), max 1 (ln T p).length ≤ c + m → c ≤ 32 → m < n → 1 ≤ l → l ≤ 1000 → ToS (fl_Rm_toStop_55 k20 n x1 1 p c l ((max 1 (ln T p).length : Nat) : Int) (sTo σ u v)) σ (sfw T (32 * (T.length - p) - c) (32 * p + c) l) := by
  have hl := hT.1
  have h20 := (hT.2 p hp).2.1
  intro m
  induction m with
  | zero =>
    intro n c l u v h1 h2 h3 h4 h5
    obtain ⟨n, rfl⟩ : ∃ n', n = n' + 1 := ⟨n - 1, by omega⟩
    refine (hk l u v h4 h5).cg ?_ ?_
    · simp only [fl_Rm_toStop_55, fb_Rm_toStop_55, fb_Rm_toStop_60]
      rw [kg_pos (by omega), if_neg (by omega), kg_pos (by omega), if_pos (by omega)]
      unfold fb_Rm_toStop_107
      rw [kg_pos (by omega), if_neg (by omega)]
      have hc' : sTo σ u v 22 0 0 = T.length := hc
      unfold fb_Rm_toStop_115 fb_Rm_toStop_129 fb_Rm_toStop_125 fb_Rm_toStop_130 fb_Rm_toStop_141 fb_Rm_toStop_166
      rw [hc', kg_pos (by omega), kg_pos (by decide), kg_pos (by decide)]
      split <;> exact if_pos (by decide)
    · have e := sfw_skip (T := T) (32 - c) (32 * (T.length - p - 1)) (32 * p + c) l fun i hi => by
        rw [show (32 * p + c + i) / 32 = p by omega, show (32 * p + c + i) % 32 = c + i by omega]
        exact stI_off (by omega)
      rw [show 32 * (T.length - p) - c = 32 - c + 32 * (T.length - p - 1) by omega, e, show 32 * p + c + (32 - c) = 32 * (p + 1) by omega]
  | succ m ih =>
    intro n c l u v h1 h2 h3 h4 h5
    by_cases hcc : max 1 (ln T p).length ≤ c
    · exact ih n c l u v (by omega) h2 (by omega) h4 h5
    obtain ⟨n, rfl⟩ : ∃ n', n = n' + 1 := ⟨n - 1, by omega⟩
    have hT' : RT (sTo σ u v) 0 T := hT
    have h01 := stI_01 T p c
    have e0 : 32 * (T.length - p) - c = 32 * (T.length - p) - (c + 1) + 1 := by omega
    have e1 : (32 * p + c) / 32 = p := by omega
    have e2 : (32 * p + c) % 32 = c := by omega
    rw [e0]
    simp only [fl_Rm_toStop_55, fb_Rm_toStop_55, fb_Rm_toStop_60, fb_Rm_toStop_67, sfw]
    rw [e1, e2, kg_pos (by omega), if_neg (by omega), kg_pos (by omega), if_neg (by omega), kbi_eq (Q_stop rfl rfl hT' hpr hp (by omega))]
    unfold fb_Rm_toStop_74
    rw [kg_pos (by omega)]
    by_cases hs : stI T p c = 1
    · rw [if_neg (by omega), if_pos hs]
      unfold fb_Rm_toStop_77
      rw [kg_pos (by omega), sTo_sTo]
      by_cases h6 : l = 1
      · rw [if_pos (by omega), if_pos h6]
        exact ⟨1, p, c, rfl, .inr ⟨rfl, by omega, by omega, by omega, by omega⟩⟩
      · rw [if_neg (by omega), if_neg h6]
        refine (ih n (c + 1) (l - 1) p c (by omega) (by omega) (by omega) (by omega) (by omega)).cg ?_ rfl
        unfold fb_Rm_toStop_98
        rw [show ((l : Int) + (-1)) = ((l - 1 : Nat) : Int) by omega]
        rfl
    · rw [if_pos (by omega), if_neg hs]
      exact ih n (c + 1) l u v (by omega) (by omega) (by omega) (by omega) (by omega)
theorem L_toStopF' {σ : kS} {T : Tx} {x1 : Int} (hT : RT σ 0 T) (hc : σ 22 0 0 = T.length) (hpr : printable T) : ∀ (L n p c l : Nat) (u v : Int), p + L = T.length → L < n → c ≤ 32 → 1 ≤ l → l ≤ 1000 → ToS (fl_Rm_toStop_20 n x1 1 p c l (sTo σ u v)) σ (sfw T (32 * L - c) (32 * p + c) l) := by
  have hl := hT.1
  intro L
  induction L with
  | zero =>
    intro n p c l u v h1 h2 h3 h4 h5
    obtain ⟨n, rfl⟩ : ∃ n', n = n' + 1 := ⟨n - 1, by omega⟩
    have hc' : sTo σ u v 22 0 0 = T.length := hc
    simp only [fl_Rm_toStop_20, fb_Rm_toStop_20, fb_Rm_toStop_24, fb_Rm_toStop_171]
    rw [hc', kg_pos (by omega), if_neg (by omega), kg_pos (by omega), if_pos (by omega), show 32 * 0 - c = 0 by omega]
    exact ⟨0, u, v, rfl, .inl ⟨rfl, rfl⟩⟩
  | succ L ih =>
    intro n p c l u v h1 h2 h3 h4 h5
    obtain ⟨n, rfl⟩ : ∃ n', n = n' + 1 := ⟨n - 1, by omega⟩
    have hc' : sTo σ u v 22 0 0 = T.length := hc
    have hp : p < T.length := by omega
    have h20 := (hT.2 p hp).2.1
    have hs : sTo σ u v 21 0 (Int.toNat p) = (ln T p).length := Q_sz rfl hT hp
    simp only [fl_Rm_toStop_20, fb_Rm_toStop_20, fb_Rm_toStop_24, fb_Rm_toStop_34, fb_Rm_toStop_43, fb_Rm_toStop_52, fb_Rm_toStop_53]
    rw [hc', kg_pos (by omega), if_neg (by omega), kg_pos (by omega), if_neg (by omega), hs, kg_pos (by omega), kg_pos (by omega)]
    refine (L_toStopF (x1 := x1) (k20 := fl_Rm_toStop_20 n) hT hc hpr hp (fun l u v h6 h7 => ?_) 32 3000 c l u v (by omega) h3 (by omega) h4 h5).cg ?_ ?_
    · exact (ih n (p + 1) 0 l u v (by omega) (by omega) (by omega) h6 h7).cg rfl (by rw [show 32 * (T.length - p - 1) = 32 * L - 0 by omega]; rfl)
    · split
      · rw [show (1 : Int) = ((max 1 (ln T p).length : Nat) : Int) by omega]
      · rw [show (((ln T p).length : Nat) : Int) = ((max 1 (ln T p).length : Nat) : Int) by omega]
    · rw [show 32 * (T.length - p) - c = 32 * (L + 1) - c by omega]
theorem L_toStopB {σ : kS} {T : Tx} {x1 : Int} {k20 : Int → Int → Int → Int → Int → kS → kRes} {p : Nat} (hT : RT σ 0 T) (hc : σ 22 0 0 = T.length) (hpr : printable T) (hp : p < T.length)
    (hk : ∀ (l : Nat) (u v : Int), 1 ≤ l → l ≤ 1000 → ToS (k20 x1 (-1) ((p : Int) - 1) (if p = 0 then 0 else ((max 1 (ln T (p - 1)).length : Nat) : Int) - 1) l (sTo σ u v)) σ (sbw T (32 * p) l)) :
    ∀ (c n l : Nat) (u v : Int), c ≤ max 1 (ln T p).length → c < n → 1 ≤ l → l ≤ 1000 → ToS (fl_Rm_toStop_55 k20 n x1 (-1) p ((c : Int) - 1) l ((max 1 (ln T p).length : Nat) : Int) (sTo σ u v)) σ (sbw T (32 * p + c) l) := by
  have hl := hT.1
  have h20 := (hT.2 p hp).2.1
  intro c
  induction c with
  | zero =>
    intro n l u v h1 h3 h4 h5
    obtain ⟨n, rfl⟩ : ∃ n', n = n' + 1 := ⟨n - 1, by omega⟩
    refine (hk l u v h4 h5).cg ?_ rfl
    simp only [fl_Rm_toStop_55, fb_Rm_toStop_55]
    rw [kg_pos (by omega), if_pos (by omega)]
    unfold fb_Rm_toStop_107
    rw [kg_pos (by omega)]
    have hc' : sTo σ u v 22 0 0 = T.length := hc
    by_cases h0 : p = 0
    · rw [if_pos (by omega), if_pos h0]
      unfold fb_Rm_toStop_129 fb_Rm_toStop_130 fb_Rm_toStop_136 fb_Rm_toStop_141 fb_Rm_toStop_166
      rw [kg_pos (by decide), if_neg (by decide), kg_pos (by decide), if_pos rfl]
      rfl
    · rw [if_neg (by omega), if_neg h0]
      unfold fb_Rm_toStop_115 fb_Rm_toStop_125 fb_Rm_toStop_130 fb_Rm_toStop_136 fb_Rm_toStop_145 fb_Rm_toStop_154 fb_Rm_toStop_165 fb_Rm_toStop_166
      have hs : sTo σ u v 21 0 (Int.toNat (p + -1)) = (ln T (p - 1)).length := Q_sz (p := p - 1) (by omega) hT (by omega)
      have h21 := (hT.2 (p - 1) (by omega)).2.1
      rw [hc', hs, kg_pos (by omega), if_neg (by omega), kg_pos (by decide), if_neg (by decide), kg_pos (by decide), if_neg (by decide), kg_pos (by omega), kg_pos (by omega)]
      split
      · rw [show (0 : Int) = ((max 1 (ln T (p - 1)).length : Nat) : Int) - 1 by omega]
        rfl
      · rw [show ((((ln T (p - 1)).length : Nat) : Int) - 1) = ((max 1 (ln T (p - 1)).length : Nat) : Int) - 1 by omega]
        rfl
  | succ c ih =>
    intro n l u v h1 h3 h4 h5
    obtain ⟨n, rfl⟩ : ∃ n', n = n' + 1 := ⟨n - 1, by omega⟩
    have hT' : RT (sTo σ u v) 0 T := hT
    have h01 := stI_01 T p c
    have e1 : (32 * p + c) / 32 = p := by omega
    have e2 : (32 * p + c) % 32 = c := by omega
    rw [show (((c + 1 : Nat) : Int) - 1) = (c : Int) by omega, ← Nat.add_assoc]
    simp only [fl_Rm_toStop_55, fb_Rm_toStop_55, fb_Rm_toStop_60, fb_Rm_toStop_67, sbw]
    rw [e1, e2, kg_pos (by omega), if_neg (by omega), kg_pos (by omega), if_neg (by omega), kbi_eq (Q_stop rfl rfl hT' hpr hp (by omega))]
    unfold fb_Rm_toStop_74
    rw [kg_pos (by omega)]
    by_cases hs : stI T p c = 1
    · rw [if_neg (by omega), if_pos hs]
      unfold fb_Rm_toStop_77
      rw [kg_pos (by omega), sTo_sTo]
      by_cases h6 : l = 1
      · rw [if_pos (by omega), if_pos h6]
        exact ⟨1, p, c, rfl, .inr ⟨rfl, by omega, by omega, by omega, by omega⟩⟩
      · rw [if_neg (by omega), if_neg h6]
        refine (ih n (l - 1) p c (by omega) (by omega) (by omega) (by omega)).cg ?_ rfl
        unfold fb_Rm_toStop_98
        rw [show ((l : Int) + (-1)) = ((l - 1 : Nat) : Int) by omega]
        rfl
    · rw [if_pos (by omega), if_neg hs]
      exact ih n l u v (by omega) (by omega) (by omega) (by omega)
theorem L_toStopB' {σ : kS} {T : Tx} {x1 : Int} (hT : RT σ 0 T) (hc : σ 22 0 0 = T.length) (hpr : printable T) : ∀ (p n c l : Nat) (u v : Int), p < T.length → p + 1 < n → c ≤ max 1 (ln T p).length → 1 ≤ l → l ≤ 1000 → ToS (fl_Rm_toStop_20 n x1 (-1) p ((c : Int) - 1) l (sTo σ u v)) σ (sbw T (32 * p + c) l) := by
  have hl := hT.1
  intro p
  induction p with
  | zero =>
    intro n c l u v hp h2 h3 h4 h5
    obtain ⟨n, rfl⟩ : ∃ n', n = n' + 1 := ⟨n - 1, by omega⟩
    have hc' : sTo σ u v 22 0 0 = T.length := hc
    have h20 := (hT.2 0 hp).2.1
    have hs : sTo σ u v 21 0 (Int.toNat (0 : Nat)) = (ln T 0).length := Q_sz rfl hT hp
    simp only [fl_Rm_toStop_20, fb_Rm_toStop_20, fb_Rm_toStop_24, fb_Rm_toStop_34, fb_Rm_toStop_43, fb_Rm_toStop_52, fb_Rm_toStop_53]
    rw [hc', kg_pos (by omega), if_neg (by omega), kg_pos (by omega), if_neg (by omega), hs, kg_pos (by omega), kg_pos (by omega)]
    refine (L_toStopB (x1 := x1) (k20 := fl_Rm_toStop_20 n) hT hc hpr hp (fun l u v h6 h7 => ?_) c 3000 l u v h3 (by omega) h4 h5).cg ?_ rfl
    · obtain ⟨n, rfl⟩ : ∃ n', n = n' + 1 := ⟨n - 1, by omega⟩
      simp only [fl_Rm_toStop_20, fb_Rm_toStop_20, fb_Rm_toStop_171]
      rw [kg_pos (by omega), if_pos (by omega)]
      exact ⟨0, u, v, rfl, .inl ⟨rfl, rfl⟩⟩
    · split
      · rw [show (1 : Int) = ((max 1 (ln T 0).length : Nat) : Int) by omega]
      · rw [show (((ln T 0).length : Nat) : Int) = ((max 1 (ln T 0).length : Nat) : Int) by omega]
  | succ p ih =>
    intro n c l u v hp h2 h3 h4 h5
    obtain ⟨n, rfl⟩ : ∃ n', n = n' + 1 := ⟨n - 1, by omega⟩
    have hc' : sTo σ u v 22 0 0 = T.length := hc
    have h20 := (hT.2 (p + 1) hp).2.1
    have h21 := (hT.2 p (by omega)).2.1
    have hs : sTo σ u v 21 0 (Int.toNat (p + 1 : Nat)) = (ln T (p + 1)).length := Q_sz rfl hT hp
    simp only [fl_Rm_toStop_20, fb_Rm_toStop_20, fb_Rm_toStop_24, fb_Rm_toStop_34, fb_Rm_toStop_43, fb_Rm_toStop_52, fb_Rm_toStop_53]
    rw [hc', kg_pos (by omega), if_neg (by omega), kg_pos (by omega), if_neg (by omega), hs, kg_pos (by omega), kg_pos (by omega)]
    refine (L_toStopB (x1 := x1) (k20 := fl_Rm_toStop_20 n) hT hc hpr hp (fun l u v h6 h7 => ?_) c 3000 l u v h3 (by omega) h4 h5).cg ?_ rfl
    · refine (ih n (max 1 (ln T p).length) l u v (by omega) (by omega) (Nat.le_refl _) h6 h7).cg ?_ ?_
      · rw [if_neg (by omega), show p + 1 - 1 = p by omega, show (((p + 1 : Nat) : Int) - 1) = (p : Int) by omega]
      · rw [show 32 * (p + 1) = 32 * p + max 1 (ln T p).length + (32 - max 1 (ln T p).length) by omega]
        refine sbw_skip _ _ l fun i hi => ?_
        rw [show (32 * p + max 1 (ln T p).length + i) / 32 = p by omega, show (32 * p + max 1 (ln T p).length + i) % 32 = max 1 (ln T p).length + i by omega]
        exact stI_off (by omega)
    · split
      · rw [show (1 : Int) = ((max 1 (ln T (p + 1)).length : Nat) : Int) by omega]
      · rw [show (((ln T (p + 1)).length : Nat) : Int) = ((max 1 (ln T (p + 1)).length : Nat) : Int) by omega]
