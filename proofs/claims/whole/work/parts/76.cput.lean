/-! Pure: the class puts the buffer, opens a line, exchanges the text for the OTHER. -/
def canP (x : Tc) (b : Int × Tx) : Int := if b.1 = 0 then (if (ln x.1 x.2.1.toNat).length + (ln b.2 0).length ≤ 20 then 1 else 0) else if 0 < b.1 ∧ (x.1.length : Int) + b.1 ≤ 10 then 1 else 0
theorem szo_row {x : Tc} (h : wfX x) : szo x.1 x.2.1 = (ln x.1 x.2.1.toNat).length := by
  obtain ⟨w1, w2, w3, w4, w5, w6, w7, w8⟩ := h.sz
  rw [← w8, szo_in w2, w8]
theorem SC.sizeRow {g : Int} {x : Tc} {o : Option Tc} {b : Int × Tx} {q : Qd} {m : Md} {l : Int × List Int} {σ : kS} (h : wfX x) (c : CE g (x, o, b, q, m, l) σ) : f_Te_sizeOf (σ 2 0 3) 0 σ = some (some ((ln x.1 x.2.1.toNat).length : Int), σ) := by
  have h3 : σ 2 0 3 = x.2.1 := c.1.2.2.1
  obtain ⟨w1, w2, w3, w4, w5, w6, w7, w8⟩ := h.sz
  rw [← szo_row h, h3]
  exact P_sizeOf c.1.1 c.1.2.1 (by omega)
theorem wfB.z {b : Int × Tx} (h : wfB b) (h0 : b.1 = 0) : b.2.length = 1 ∧ 0 < (ln b.2 0).length ∧ (ln b.2 0).length ≤ 20 := by
  obtain ⟨h1, h2, h3, h4, h5, h6⟩ := h
  rw [if_pos h0] at h3
  exact ⟨by omega, h6 h0, h5 0 (by omega)⟩
theorem wfB.p {b : Int × Tx} (h : wfB b) (h0 : 0 < b.1) : (b.2.length : Int) = b.1 ∧ b.2.length ≤ 10 := by
  obtain ⟨h1, h2, h3, h4, h5, h6⟩ := h
  rw [if_neg (by omega)] at h3
  omega
theorem SC.canPut {g : Int} {x : Tc} {o : Option Tc} {b : Int × Tx} {q : Qd} {m : Md} {l : Int × List Int} (hx : wfX x) (hb : wfB b) : SC g f_De_canPut (some (canP x b)) (x, o, b, q, m, l) (x, o, b, q, m, l) := by
  refine SC.read fun σ c => ?_
  have h4 : σ 1 0 4 = b.1 := c.2.2.1.1
  have h2 : σ 2 0 2 = x.1.length := c.1.2.1
  obtain ⟨w1, w2, w3, w4, w5, w6, w7, w8⟩ := hx.sz
  have hb' := hb.1
  have hb'' := hb.2.1
  unfold f_De_canPut fb_De_canPut_0 canP
  rw [h4, kg_pos (by omega)]
  by_cases h0 : b.1 = 0
  · obtain ⟨b1, b2, b3⟩ := hb.z h0
    rw [if_pos h0, if_pos h0]
    unfold fb_De_canPut_7
    rw [kbi_eq (SC.sizeRow hx c)]
    unfold fb_De_canPut_21
    have e : szo b.2 0 = (ln b.2 0).length := szo_in (p := 0) (by omega)
    rw [kbi_eq (P_sizeOf (T := b.2) c.2.2.1.2.1 c.2.2.1.2.2 (by omega)), e]
    unfold fb_De_canPut_29 fb_De_canPut_39 fb_De_canPut_35 fb_De_canPut_40
    rw [kg_pos (by omega), kg_pos (by omega), kg_pos (by omega)]
    by_cases h1 : (ln x.1 x.2.1.toNat).length + (ln b.2 0).length ≤ 20
    · rw [if_pos h1, if_neg (by omega)]
    · rw [if_neg h1, if_pos (by omega)]
  · rw [if_neg h0, if_neg h0]
    unfold fb_De_canPut_41 fb_De_canPut_48 fb_De_canPut_69 fb_De_canPut_65 fb_De_canPut_70
    rw [h4, h2, kg_pos (by omega), kg_pos (by omega), kg_pos (by omega), kg_pos (by omega)]
    by_cases h1 : 0 < b.1 ∧ (x.1.length : Int) + b.1 ≤ 10
    · rw [if_pos h1, if_neg (by omega), if_neg (by omega)]
    · rw [if_neg h1]
      split
      · rfl
      · rw [if_pos (by omega)]
theorem SC.putLines {g : Int} {x : Tc} {o : Option Tc} {b : Int × Tx} {q : Qd} {m : Md} {l : Int × List Int} {p : Nat} {xp : Int} (hxp : xp = p) (hx : wfX x) (hb : wfB b) (h0 : 0 < b.1) (hl : (x.1.length : Int) + b.1 ≤ 10) (hp : p ≤ x.1.length) : SC g (f_De_putLines xp) none (x, o, b, q, m, l) ((ins x.1 p b.2, p, 0), o, b, q, m, l) := by
  subst hxp
  obtain ⟨b1, b2⟩ := hb.p h0
  have hil : (ins x.1 p b.2).length = x.1.length + b.2.length := ins_len hp
  intro σ c
  have h4 : σ 1 0 4 = ((b.2.length : Nat) : Int) := (show σ 1 0 4 = b.1 from c.2.2.1.1).trans b1.symm
  obtain ⟨F, G, e, hT⟩ := C_openLines (σ := σ) (t := 0) (T := x.1) (a := p) (m := b.2.length) c.1.1 c.1.2.1 hp (by omega)
  have hrl : (ins x.1 p (List.replicate b.2.length [])).length = x.1.length + b.2.length := by
    rw [ins_len hp, List.length_replicate]
  unfold f_De_putLines fb_De_putLines_0
  rw [h4, kbi_eq e]
  obtain ⟨c1, c2, c3, c4, c5, c6, c7⟩ := c
  have hB : CT σ 3 b.2 := c3.2.1
  have hTR : TR (va_cpy (σ 10 3) F 0 (20 * p) (20 * b.2.length)) (va_cpy (σ 11 3) G 0 p b.2.length) (ins x.1 p b.2) := by
    refine ⟨by omega, fun k hk => ?_⟩
    have hg : ln (ins x.1 p b.2) k = _ := ins_gd [] hp k
    obtain ⟨t1, t2, t3⟩ := hT.2 k (by omega)
    have hg2 : ln (ins x.1 p (List.replicate b.2.length [])) k = _ := ins_gd [] hp k
    rw [List.length_replicate] at hg2
    unfold va_cpy
    by_cases h1 : p ≤ k ∧ k < p + b.2.length
    · rw [if_neg (by omega), if_pos (by omega)] at hg
      obtain ⟨s1, s2, s3⟩ := hB.2 (k - p) (by omega)
      have hg' : ln (ins x.1 p b.2) k = ln b.2 (k - p) := hg
      rw [hg', if_pos h1]
      refine ⟨?_, s2, fun c hc => ?_⟩
      · rw [← s1]
        exact congrArg (σ 11 3) (by omega)
      · rw [if_pos (by omega), ← s3 c hc]
        exact congrArg (σ 10 3) (by omega)
    · have hgg : ln (ins x.1 p b.2) k = ln (ins x.1 p (List.replicate b.2.length [])) k := by
        rw [hg, hg2]
        by_cases h2 : k < p
        · rw [if_pos h2, if_pos h2]
        · rw [if_neg h2, if_neg h2, if_neg (by omega), if_neg (by omega)]
      rw [hgg, if_neg h1]
      refine ⟨t1, t2, fun c hc => ?_⟩
      rw [if_neg (by omega)]
      exact t3 c hc
  unfold fb_De_putLines_12
  rw [kg_pos (by decide), if_neg (by decide)]
  unfold fb_De_putLines_16 fb_De_putLines_45
  have g4 : sT σ 0 F G (ins x.1 p (List.replicate b.2.length [])).length 1 0 4 = ((b.2.length : Nat) : Int) := h4
  have g4' : ∀ f, kupA (sT σ 0 F G (ins x.1 p (List.replicate b.2.length [])).length) 10 0 f 1 0 4 = ((b.2.length : Nat) : Int) := fun f => h4
  rw [g4, kg_pos (by omega), g4', kg_pos (by omega)]
  have e20 : ∀ n : Nat, ((n : Int) * 20).toNat = 20 * n := fun n => by omega
  rw [e20, e20, Int.toNat_natCast, Int.toNat_natCast]
  have hst := SC.u (SC.stand (g := g) (x := (ins x.1 p b.2, x.2)) (o := o) (b := b) (q := q) (m := m) (l := l) (r := p) (c := 0) (show 0 < (ins x.1 p b.2).length by omega) (by omega) (by omega)) (SC.ret (r := none))
  have e1 : cl p ((ins x.1 p b.2).length - 1) = p := by
    unfold cl
    omega
  have e2 : ∀ n : Nat, cl 0 ((n : Int) - 1) = 0 := fun n => by
    unfold cl
    omega
  dsimp only at hst
  rw [e1, e2] at hst
  have hce : CE g ((ins x.1 p b.2, x.2), o, b, q, m, l) (kupA (kupA (sT σ 0 F G (ins x.1 p (List.replicate b.2.length [])).length) 10 0 (va_cpy (σ 10 3) F 0 (20 * p) (20 * b.2.length))) 11 0 (va_cpy (σ 11 3) G 0 p b.2.length)) := by
    refine ⟨⟨hTR, ?_, c1.2.2.1, c1.2.2.2⟩, ?_, c3, c4, c5, c6, c7⟩
    · show ((ins x.1 p (List.replicate b.2.length [])).length : Int) = _
      dsimp only
      omega
    · cases o with
      | none => exact c2
      | some y => exact c2
  obtain ⟨σ', z1, z2, z3⟩ := hst _ hce
  exact ⟨σ', z1, z2, (((frE.rfl.sT (by decide)).kupA (by decide)).kupA (by decide)).tr z3⟩
theorem SC.putLetters {g : Int} {x : Tc} {o : Option Tc} {b : Int × Tx} {q : Qd} {m : Md} {l : Int × List Int} {k : Nat} {xk : Int} (hxk : xk = k) (hx : wfX x) (hb : wfB b) (h0 : b.1 = 0) (hl : (ln x.1 x.2.1.toNat).length + (ln b.2 0).length ≤ 20) (hk : k ≤ (ln x.1 x.2.1.toNat).length) : SC g (f_De_putLetters xk) none (x, o, b, q, m, l) ((x.1.set x.2.1.toNat (ins (ln x.1 x.2.1.toNat) k (ln b.2 0)), x.2.1, (k : Int) + (ln b.2 0).length - 1), o, b, q, m, l) := by
  subst hxk
  obtain ⟨b1, b2, b3⟩ := hb.z h0
  obtain ⟨w1, w2, w3, w4, w5, w6, w7, w8⟩ := hx.sz
  intro σ c
  have h3 : σ 2 0 3 = ((x.2.1.toNat : Nat) : Int) := (show σ 2 0 3 = x.2.1 from c.1.2.2.1).trans w8.symm
  obtain ⟨F, G, e, hT⟩ := C_openLetters (σ := σ) (t := 0) (T := x.1) (p := x.2.1.toNat) (a := k) (m := (ln b.2 0).length) c.1.1 c.1.2.1 w2 hk hl
  have es : szo b.2 0 = (ln b.2 0).length := szo_in (p := 0) (by omega)
  unfold f_De_putLetters fb_De_putLetters_0
  rw [kbi_eq (P_sizeOf (T := b.2) c.2.2.1.2.1 c.2.2.1.2.2 (by omega)), es]
  unfold fb_De_putLetters_8
  rw [h3, kbi_eq e]
  obtain ⟨c1, c2, c3, c4, c5, c6, c7⟩ := c
  have hB : CT σ 3 b.2 := c3.2.1
  have hil : (ins (ln x.1 x.2.1.toNat) k (ln b.2 0)).length = (ln x.1 x.2.1.toNat).length + (ln b.2 0).length := ins_len hk
  have hir : (ins (ln x.1 x.2.1.toNat) k (List.replicate (ln b.2 0).length 32)).length = (ln x.1 x.2.1.toNat).length + (ln b.2 0).length := by
    rw [ins_len hk, List.length_replicate]
  have hTR : TR (va_cpy (σ 10 3) F 0 (20 * x.2.1.toNat + k) (ln b.2 0).length) G (x.1.set x.2.1.toNat (ins (ln x.1 x.2.1.toNat) k (ln b.2 0))) := by
    refine ⟨by rw [List.length_set]; exact w3, fun p hp => ?_⟩
    rw [List.length_set] at hp
    obtain ⟨t1, t2, t3⟩ := hT.2 p (by rw [List.length_set]; exact hp)
    rw [ln_set w2] at t1 t2 t3 ⊢
    unfold va_cpy
    by_cases h1 : p = x.2.1.toNat
    · rw [if_pos h1] at t1 t2 t3 ⊢
      rw [hir] at t1 t2 t3
      rw [hil]
      refine ⟨t1, t2, fun c hc => ?_⟩
      have hg := ins_gd (X := ln x.1 x.2.1.toNat) (Y := ln b.2 0) 0 hk c
      have hg2 := t3 c hc
      rw [ins_gd 0 hk, List.length_replicate] at hg2
      rw [hg]
      by_cases h2 : k ≤ c ∧ c < k + (ln b.2 0).length
      · rw [if_pos (by omega), if_neg (by omega), if_pos (by omega)]
        have := (hB.2 0 (by omega)).2.2 (c - k) (by omega)
        rw [← this]
        exact congrArg (σ 10 3) (by omega)
      · rw [if_neg (by omega), hg2]
        by_cases h5 : c < k
        · rw [if_pos h5, if_pos h5]
        · rw [if_neg h5, if_neg h5, if_neg (by omega), if_neg (by omega)]
    · rw [if_neg h1] at t1 t2 t3 ⊢
      refine ⟨t1, t2, fun c hc => ?_⟩
      rw [if_neg (by omega)]
      exact t3 c hc
  unfold fb_De_putLetters_25
  rw [kg_pos (by decide), if_neg (by decide)]
  unfold fb_De_putLetters_29
  have g3 : sT σ 0 F G (x.1.set x.2.1.toNat (ins (ln x.1 x.2.1.toNat) k (List.replicate (ln b.2 0).length 32))).length 2 0 3 = ((x.2.1.toNat : Nat) : Int) := h3
  rw [g3, kg_pos (by omega), show (((x.2.1.toNat : Nat) : Int) * 20 + (k : Int)).toNat = 20 * x.2.1.toNat + k by omega, Int.toNat_natCast]
  have hst := SC.stand (g := g) (x := (x.1.set x.2.1.toNat (ins (ln x.1 x.2.1.toNat) k (ln b.2 0)), x.2)) (o := o) (b := b) (q := q) (m := m) (l := l) (r := x.2.1) (c := (k : Int) + (ln b.2 0).length - 1) (by rw [List.length_set]; omega) (by omega) (by omega)
  dsimp only at hst
  rw [List.length_set] at hst
  have e1 : cl x.2.1 ((x.1.length : Int) - 1) = x.2.1 := by
    unfold cl
    omega
  rw [e1, ln_set w2, if_pos rfl, hil] at hst
  have e2 : cl ((k : Int) + (ln b.2 0).length - 1) ((((ln x.1 x.2.1.toNat).length + (ln b.2 0).length : Nat) : Int) - 1) = (k : Int) + (ln b.2 0).length - 1 := by
    unfold cl
    omega
  rw [e2] at hst
  have hce : CE g ((x.1.set x.2.1.toNat (ins (ln x.1 x.2.1.toNat) k (ln b.2 0)), x.2), o, b, q, m, l) (kupA (sT σ 0 F G (x.1.set x.2.1.toNat (ins (ln x.1 x.2.1.toNat) k (List.replicate (ln b.2 0).length 32))).length) 10 0 (va_cpy (σ 10 3) F 0 (20 * x.2.1.toNat + k) (ln b.2 0).length)) := by
    refine ⟨⟨hTR, ?_, c1.2.2.1, c1.2.2.2⟩, ?_, c3, c4, c5, c6, c7⟩
    · show ((x.1.set x.2.1.toNat (ins (ln x.1 x.2.1.toNat) k (List.replicate (ln b.2 0).length 32))).length : Int) = _
      dsimp only
      rw [List.length_set, List.length_set]
    · cases o with
      | none => exact c2
      | some y => exact c2
  obtain ⟨σ', z1, z2, z3⟩ := hst _ hce
  refine ⟨σ', ?_, z2, ((frE.rfl.sT (by decide)).kupA (by decide)).tr z3⟩
  unfold fb_De_putLetters_60
  have g3' : kupA (sT σ 0 F G (x.1.set x.2.1.toNat (ins (ln x.1 x.2.1.toNat) k (List.replicate (ln b.2 0).length 32))).length) 10 0 (va_cpy (σ 10 3) F 0 (20 * x.2.1.toNat + k) (ln b.2 0).length) 2 0 3 = x.2.1 := h3.trans w8
  have g10 : sT σ 0 F G (x.1.set x.2.1.toNat (ins (ln x.1 x.2.1.toNat) k (List.replicate (ln b.2 0).length 32))).length 10 3 = σ 10 3 := rfl
  have g11 : sT σ 0 F G (x.1.set x.2.1.toNat (ins (ln x.1 x.2.1.toNat) k (List.replicate (ln b.2 0).length 32))).length 10 0 = F := rfl
  rw [g10, g11, g3', kbu_eq z1]
  rfl
