/-! Pure: reading d, s and g, the class's side. -/
/-- what s has behind it: pattern, replacement, everywhere; and where that ends -/
def exP (ks : List Int) (k : Nat) : Option (Ex × Nat) :=
  if ks.getD k 0 = 47 then (dlA ks k).elim none fun d => if ks.length ≤ skE ks 40 d.2 then none else some ((d.1, d.2, skE ks 40 d.2, decide (ks.getD (skE ks 40 d.2 + 1) 0 = 103)), if ks.getD (skE ks 40 d.2 + 1) 0 = 103 then skE ks 40 d.2 + 2 else skE ks 40 d.2 + 1) else none
/-- d or s to the end of the line -/
def ccP (ks : List Int) (k : Nat) : Option (Option Ex) :=
  if ks.getD k 0 = 100 then (if k + 1 = ks.length then some none else none) else if ks.getD k 0 = 115 then (exP ks (k + 1)).elim none fun v => if v.2 = ks.length then some (some v.1) else none else none
/-- the same, perhaps with g before it -/
def chP (ks : List Int) (k : Nat) : Option (Option Pt × Option Ex) :=
  if ks.getD k 0 = 103 then (if ks.getD (k + 1) 0 = 47 then (dlA ks (k + 1)).elim none fun d => (ccP ks d.2).map fun c => (some d.1, c) else none) else (ccP ks k).map fun c => (none, c)
section
variable {ks : List Int} {σ : kS} {k : Nat}
theorem skE_le (hl : ks.length ≤ 30) : ∀ m k, k ≤ 32 → skE ks m k ≤ 32 := by
  intro m
  induction m with
  | zero => intro k hk; exact hk
  | succ m ih =>
    intro k hk
    unfold skE
    split
    · exact hk
    · split
      · exact hk
      · exact ih _ (by split <;> omega)
theorem C_skL (hl : ks.length ≤ 30) (hks : ∀ c ∈ ks, 32 ≤ c ∧ c ≤ 126) : ∀ (m f j : Nat) (σ : kS), CLs ks σ j → ks.length ≤ j + m → j ≤ 32 → m < f → ∃ τ, fl_Cl_readExchange_21 f σ = fb_Cl_readExchange_77 τ ∧ CLs ks τ (skE ks (m + 1) j) ∧ frX σ τ ∧ (∀ i, i ≠ 9 → τ 7 0 i = σ 7 0 i) ∧ ∀ a, a ≠ 7 → τ a = σ a := by
  intro m
  induction m with
  | zero =>
    intro f j σ h h1 h2 h3
    obtain ⟨f, rfl⟩ : ∃ f', f = f' + 1 := ⟨f - 1, by omega⟩
    refine ⟨σ, ?_, ?_, frX.rfl, fun _ _ => rfl, fun _ _ => rfl⟩
    · simp only [fl_Cl_readExchange_21, fb_Cl_readExchange_21]
      rw [h.2.2.1, h.2.1, kg_pos (by omega), if_pos (by omega)]
    · unfold skE
      rw [if_pos (by omega)]
      exact h
  | succ m ih =>
    intro f j σ h h1 h2 h3
    obtain ⟨f, rfl⟩ : ∃ f', f = f' + 1 := ⟨f - 1, by omega⟩
    simp only [fl_Cl_readExchange_21, fb_Cl_readExchange_21]
    rw [h.2.2.1, h.2.1, kg_pos (by omega)]
    unfold skE
    by_cases c1 : ks.length ≤ j
    · rw [if_pos (by omega), if_pos c1]
      exact ⟨σ, rfl, h, frX.rfl, fun _ _ => rfl, fun _ _ => rfl⟩
    · rw [if_neg (by omega), if_neg c1]
      have hr := hks _ (gd_mem (ks := ks) (k := j) (by omega))
      unfold fb_Cl_readExchange_32
      rw [h.2.2.1, Int.toNat_natCast, h.2.2.2 j (by omega), kg_pos ⟨h.1, by omega, by omega⟩]
      by_cases c2 : ks.getD j 0 = 47
      · rw [if_pos c2, if_pos c2]
        exact ⟨σ, rfl, h, frX.rfl, fun _ _ => rfl, fun _ _ => rfl⟩
      · rw [if_neg c2, if_neg c2]
        unfold fb_Cl_readExchange_46 fb_Cl_readExchange_65 fb_Cl_readExchange_69 fb_Cl_readExchange_70
        rw [h.2.2.1, Int.toNat_natCast, h.2.2.2 j (by omega), kg_pos ⟨h.1, by omega, by omega⟩]
        have go : ∀ (d : Nat) (v : Int), v = ((j + d : Nat) : Int) → 1 ≤ d → d ≤ 2 → ∃ τ, fl_Cl_readExchange_21 f (kup σ 7 0 9 v) = fb_Cl_readExchange_77 τ ∧ CLs ks τ (skE ks (m + 1) (j + d)) ∧ frX σ τ ∧ (∀ i, i ≠ 9 → τ 7 0 i = σ 7 0 i) ∧ ∀ a, a ≠ 7 → τ a = σ a := by
          intro d v hv hd1 hd2
          obtain ⟨τ, z1, z2, z3, z4, z5⟩ := ih f (j + d) (kup σ 7 0 9 v) (h.at hv) (by omega) (by omega) (by omega)
          exact ⟨τ, z1, z2, (frX.rfl.kup (by decide)).tr z3, fun i hi => (z4 i hi).trans (kup_j hi), fun a ha => (z5 a ha).trans (kup_kk ha)⟩
        by_cases c3 : ks.getD j 0 = 92
        · rw [if_pos c3, if_pos c3]
          exact go 2 _ (by omega) (by omega) (by omega)
        · rw [if_neg c3, if_neg c3]
          exact go 1 _ (by omega) (by omega) (by omega)
theorem PCt.of7 {t : Nat} {P : Pt} {σ' : kS} (h : PCt ks σ t P) (f : ∀ a, a ≠ 7 → σ' a = σ a) : PCt ks σ' t P := by
  unfold PCt
  rw [f 8 (by decide), f 17 (by decide)]
  exact h
theorem C_readExch (h : CLs ks σ k) (hl : ks.length ≤ 30) (hks : ∀ c ∈ ks, 32 ≤ c ∧ c ≤ 126) (hk : k ≤ 31) : ∃ σ' y, f_Cl_readExchange σ = some (some y, σ') ∧ frX σ σ' ∧ (∀ j, j ≠ 9 → j ≠ 15 → j ≠ 16 → j ≠ 17 → σ' 7 0 j = σ 7 0 j) ∧ (σ' 8 1 = σ 8 1 ∧ σ' 17 1 = σ 17 1) ∧ ((exP ks k = none ∧ y = 0) ∨ ∃ v j, exP ks k = some (v, j) ∧ y = 1 ∧ CLs ks σ' j ∧ PCt ks σ' 0 v.1 ∧ σ' 7 0 15 = b2 v.2.2.2 ∧ σ' 7 0 16 = v.2.1 ∧ σ' 7 0 17 = v.2.2.1 ∧ v.2.2.1 < ks.length ∧ skE ks 40 v.2.1 = v.2.2.1 ∧ j ≤ 40) := by
  unfold f_Cl_readExchange fb_Cl_readExchange_0
  obtain ⟨τ, y, e1, f1, o1, u1, h1⟩ := C_readPat (t := 0) h hl hks hk
  rw [kbi_eq e1]
  unfold fb_Cl_readExchange_8 exP
  have u1' := u1 1 (by decide)
  rcases h1 with ⟨rfl, hn⟩ | ⟨P, j, h47, hd, rfl, hC, hP, hj1, hj2⟩
  · rw [kg_pos (by decide), if_pos rfl]
    refine ⟨τ, 0, rfl, f1, fun i h9 _ _ _ => o1 i h9, u1', .inl ⟨?_, rfl⟩⟩
    rcases hn with hn | hn
    · rw [if_neg hn]
    · split
      · rw [hn]
        rfl
      · rfl
  · rw [kg_pos (by decide), if_neg (by decide), if_pos h47, hd]
    unfold fb_Cl_readExchange_13
    have hj : τ 7 0 9 = j := hC.2.2.1
    rw [hj]
    have C16 : CLs ks (kup τ 7 0 16 (j : Int)) j := ⟨(kup_j (by decide)).trans hC.1, (kup_j (by decide)).trans hC.2.1, (kup_j (by decide)).trans hj, hC.2.2.2⟩
    obtain ⟨υ, z1, z2, z3, z4, z5⟩ := C_skL hl hks 39 3000 j (kup τ 7 0 16 (j : Int)) C16 (by omega) (by omega) (by omega)
    rw [z1]
    have f2 : frX σ υ := (f1.tr (frX.rfl.kup (by decide))).tr z3
    have o2 : ∀ i, i ≠ 9 → i ≠ 16 → υ 7 0 i = σ 7 0 i := fun i h9 h16 => (z4 i h9).trans ((kup_j h16).trans (o1 i h9))
    have k7 : ∀ a, a ≠ 7 → υ a = τ a := fun a ha => (z5 a ha).trans (kup_kk ha)
    have u16 : υ 7 0 16 = j := (z4 16 (by decide)).trans (kup_self _ _ _ _ _)
    have hPu : PCt ks υ 0 P := hP.of7 k7
    have uu : υ 8 1 = σ 8 1 ∧ υ 17 1 = σ 17 1 := ⟨(congrFun (k7 8 (by decide)) 1).trans u1'.1, (congrFun (k7 17 (by decide)) 1).trans u1'.2⟩
    show ∃ σ' y, fb_Cl_readExchange_77 υ = some (some y, σ') ∧ frX σ σ' ∧ (∀ j, j ≠ 9 → j ≠ 15 → j ≠ 16 → j ≠ 17 → σ' 7 0 j = σ 7 0 j) ∧ (σ' 8 1 = σ 8 1 ∧ σ' 17 1 = σ 17 1) ∧ (((if ks.length ≤ skE ks 40 j then none else some ((P, j, skE ks 40 j, decide (ks.getD (skE ks 40 j + 1) 0 = 103)), if ks.getD (skE ks 40 j + 1) 0 = 103 then skE ks 40 j + 2 else skE ks 40 j + 1) : Option (Ex × Nat)) = none ∧ y = 0) ∨ ∃ v i, (if ks.length ≤ skE ks 40 j then none else some ((P, j, skE ks 40 j, decide (ks.getD (skE ks 40 j + 1) 0 = 103)), if ks.getD (skE ks 40 j + 1) 0 = 103 then skE ks 40 j + 2 else skE ks 40 j + 1) : Option (Ex × Nat)) = some (v, i) ∧ _)
    have hse : skE ks (39 + 1) j = skE ks 40 j := rfl
    rw [hse] at z2
    have hsle := skE_le hl 40 j (by omega)
    generalize hE : skE ks 40 j = e at z2 hsle
    unfold fb_Cl_readExchange_77
    rw [z2.2.2.1, z2.2.1, kg_pos (by omega)]
    by_cases c1 : ks.length ≤ e
    · rw [if_neg (by omega), if_pos c1]
      exact ⟨υ, 0, rfl, f2, fun i h9 h15 h16 h17 => o2 i h9 h16, uu, .inl ⟨rfl, rfl⟩⟩
    · rw [if_pos (by omega), if_neg c1]
      unfold fb_Cl_readExchange_90
      rw [z2.2.2.1, kup_j (by decide), z2.2.2.1]
      -- behind the replacement
      have f3 : frX σ (kup (kup υ 7 0 17 (e : Int)) 7 0 9 ((e : Int) + 1)) := (f2.kup (by decide)).kup (by decide)
      have o3 : ∀ i, i ≠ 9 → i ≠ 17 → kup (kup υ 7 0 17 (e : Int)) 7 0 9 ((e : Int) + 1) 7 0 i = υ 7 0 i := fun i h9 h17 => (kup_j h9).trans (kup_j h17)
      have a17 : kup (kup υ 7 0 17 (e : Int)) 7 0 9 ((e : Int) + 1) 7 0 17 = e := (kup_j (by decide)).trans (kup_self _ _ _ _ _)
      have k3 : ∀ a, a ≠ 7 → kup (kup υ 7 0 17 (e : Int)) 7 0 9 ((e : Int) + 1) a = υ a := fun a ha => (kup_kk ha).trans (kup_kk ha)
      have C3 : CLs ks (kup (kup υ 7 0 17 (e : Int)) 7 0 9 ((e : Int) + 1)) (e + 1) := ⟨(o3 7 (by decide) (by decide)).trans z2.1, (o3 8 (by decide) (by decide)).trans z2.2.1, kup_self _ _ _ _ _, by rw [k3 16 (by decide)]; exact z2.2.2.2⟩
      generalize kup (kup υ 7 0 17 (e : Int)) 7 0 9 ((e : Int) + 1) = ω at f3 o3 a17 k3 C3
      rw [kbi_eq (C_here C3 hl (by omega))]
      have hr := gd_rng hks (e + 1)
      unfold fb_Cl_readExchange_113 fb_Cl_readExchange_118 fb_Cl_readExchange_122
      rw [kg_pos (by omega)]
      have hPw : PCt ks ω 0 P := hPu.of7 k3
      have uw : ω 8 1 = σ 8 1 ∧ ω 17 1 = σ 17 1 := ⟨(congrFun (k3 8 (by decide)) 1).trans uu.1, (congrFun (k3 17 (by decide)) 1).trans uu.2⟩
      have ow : ∀ i, i ≠ 9 → i ≠ 15 → i ≠ 16 → i ≠ 17 → ω 7 0 i = σ 7 0 i := fun i h9 h15 h16 h17 => (o3 i h9 h17).trans (o2 i h9 h16)
      have w16 : ω 7 0 16 = j := (o3 16 (by decide) (by decide)).trans u16
      by_cases c2 : ks.getD (e + 1) 0 = 103
      · rw [if_pos c2, if_pos c2]
        unfold fb_Cl_readExchange_123
        rw [kup_self, kg_pos (by decide), if_neg (by decide)]
        refine ⟨_, 1, rfl, (f3.kup (by decide)).kup (by decide), fun i h9 h15 h16 h17 => ?_, ⟨?_, ?_⟩, .inr ⟨_, _, rfl, rfl, ⟨?_, ?_, ?_, ?_⟩, ?_, ?_, ?_, ?_, by show e < ks.length; omega, hE, by omega⟩⟩
        · rw [kup_j h9, kup_j h15]
          exact ow i h9 h15 h16 h17
        · rw [kup_ii (by decide), kup_ii (by decide)]
          exact uw.1
        · rw [kup_ii (by decide), kup_ii (by decide)]
          exact uw.2
        · rw [kup_j (by decide), kup_j (by decide)]
          exact C3.1
        · rw [kup_j (by decide), kup_j (by decide)]
          exact C3.2.1
        · rw [kup_self, kup_j (by decide), C3.2.2.1]
          omega
        · rw [kup_kk (by decide), kup_kk (by decide)]
          exact C3.2.2.2
        · exact hPw.of7 fun a ha => (kup_kk ha).trans (kup_kk ha)
        · rw [kup_j (by decide), kup_self]
          show 1 = b2 (decide (ks.getD (e + 1) 0 = 103))
          rw [decide_eq_true c2]
          rfl
        · rw [kup_j (by decide), kup_j (by decide)]
          exact w16
        · rw [kup_j (by decide), kup_j (by decide)]
          exact a17
      · rw [if_neg c2, if_neg c2]
        unfold fb_Cl_readExchange_123
        rw [kup_self, kg_pos (by decide), if_pos rfl]
        refine ⟨_, 1, rfl, f3.kup (by decide), fun i h9 h15 h16 h17 => ?_, ⟨?_, ?_⟩, .inr ⟨_, _, rfl, rfl, ⟨?_, ?_, ?_, ?_⟩, ?_, ?_, ?_, ?_, by show e < ks.length; omega, hE, by omega⟩⟩
        · rw [kup_j h15]
          exact ow i h9 h15 h16 h17
        · rw [kup_ii (by decide)]
          exact uw.1
        · rw [kup_ii (by decide)]
          exact uw.2
        · rw [kup_j (by decide)]
          exact C3.1
        · rw [kup_j (by decide)]
          exact C3.2.1
        · rw [kup_j (by decide)]
          exact C3.2.2.1
        · rw [kup_kk (by decide)]
          exact C3.2.2.2
        · exact hPw.of7 fun a ha => kup_kk ha
        · rw [kup_self]
          show 0 = b2 (decide (ks.getD (e + 1) 0 = 103))
          rw [decide_eq_false c2]
          rfl
        · rw [kup_j (by decide)]
          exact w16
        · rw [kup_j (by decide)]
          exact a17
/-- d or s, the class's side; gl: what was read of g -/
theorem C_readCc {gl : Option Pt} {a b : Nat} (h : CLs ks σ k) (hl : ks.length ≤ 30) (hks : ∀ c ∈ ks, 32 ≤ c ∧ c ≤ 126) (hk : k ≤ 31) (h11 : σ 7 0 11 = a) (h12 : σ 7 0 12 = b) (h13 : σ 7 0 13 = b2 gl.isSome) (hP : ∀ P, gl = some P → PCt ks σ 1 P) : ∃ σ' y, fb_Cl_readChange_52 σ = some (some y, σ') ∧ frX σ σ' ∧ ((ccP ks k = none ∧ y = 0) ∨ ∃ c, ccP ks k = some c ∧ y = 1 ∧ CPa ks gl c a b σ') := by
  have hr := gd_rng hks k
  unfold fb_Cl_readChange_52
  rw [kbi_eq (C_here h hl (by omega))]
  unfold fb_Cl_readChange_57 fb_Cl_readChange_62 fb_Cl_readChange_66 ccP
  rw [kg_pos (by omega)]
  -- the end
  have h112 : ∀ (υ : kS) (j : Nat) (c : Option Ex), CLs ks υ j → j ≤ 100 → frX σ υ → CPa ks gl c a b υ → ∃ σ' y, fb_Cl_readChange_112 υ = some (some y, σ') ∧ frX σ σ' ∧ (((if j = ks.length then some c else none) = none ∧ y = 0) ∨ ∃ c', (if j = ks.length then some c else none) = some c' ∧ y = 1 ∧ CPa ks gl c' a b σ') := by
    intro υ j c hC hj f hpa
    unfold fb_Cl_readChange_112 fb_Cl_readChange_123 fb_Cl_readChange_127 fb_Cl_readChange_128
    rw [hC.2.1, hC.2.2.1, kg_pos (by omega)]
    by_cases c1 : j = ks.length
    · rw [if_pos (by omega), if_pos c1, kg_pos (by decide)]
      exact ⟨υ, 1, rfl, f, .inr ⟨c, rfl, rfl, hpa⟩⟩
    · rw [if_neg (by omega), if_neg c1, kg_pos (by decide)]
      exact ⟨υ, 0, rfl, f, .inl ⟨rfl, rfl⟩⟩
  have hstep : ∀ v : Int, CLs ks (kup (kup σ 7 0 14 v) 7 0 9 ((k : Int) + 1)) (k + 1) ∧ frX σ (kup (kup σ 7 0 14 v) 7 0 9 ((k : Int) + 1)) := fun v => ⟨⟨(kup_j (by decide)).trans ((kup_j (by decide)).trans h.1), (kup_j (by decide)).trans ((kup_j (by decide)).trans h.2.1), kup_self _ _ _ _ _, h.2.2.2⟩, (frX.rfl.kup (by decide)).kup (by decide)⟩
  by_cases c1 : ks.getD k 0 = 100
  · rw [if_pos c1, if_pos c1]
    unfold fb_Cl_readChange_67
    rw [kup_self, kg_pos (by decide), if_neg (by decide)]
    unfold fb_Cl_readChange_88
    have e9 : kup σ 7 0 14 1 7 0 9 = k := h.2.2.1
    rw [e9]
    have e14 : kup (kup σ 7 0 14 1) 7 0 9 ((k : Int) + 1) 7 0 14 = 1 := (kup_j (by decide)).trans (kup_self _ _ _ _ _)
    rw [e14, kg_pos (by decide), if_neg (by decide)]
    refine h112 _ (k + 1) none (hstep 1).1 (by omega) (hstep 1).2 ⟨(hstep 1).1.1, ?_, ?_, ?_, e14, fun P hp => ?_, fun v hv => nomatch hv⟩
    · rw [kup_j (by decide), kup_j (by decide)]
      exact h11
    · rw [kup_j (by decide), kup_j (by decide)]
      exact h12
    · rw [kup_j (by decide), kup_j (by decide)]
      exact h13
    · exact (hP P hp).of7 fun a ha => (kup_kk ha).trans (kup_kk ha)
  · rw [if_neg c1, if_neg c1]
    unfold fb_Cl_readChange_67
    rw [kup_self, kg_pos (by decide), if_pos rfl]
    unfold fb_Cl_readChange_77
    have h14 : CLs ks (kup σ 7 0 14 0) k := ⟨(kup_j (by decide)).trans h.1, (kup_j (by decide)).trans h.2.1, (kup_j (by decide)).trans h.2.2.1, h.2.2.2⟩
    rw [kbi_eq (C_here h14 hl (by omega))]
    unfold fb_Cl_readChange_81
    rw [kg_pos (by omega)]
    by_cases c2 : ks.getD k 0 = 115
    · rw [if_pos c2, if_pos c2]
      unfold fb_Cl_readChange_88
      have e9 : kup σ 7 0 14 0 7 0 9 = k := h.2.2.1
      rw [e9]
      have e14 : kup (kup σ 7 0 14 0) 7 0 9 ((k : Int) + 1) 7 0 14 = 0 := (kup_j (by decide)).trans (kup_self _ _ _ _ _)
      rw [e14, kg_pos (by decide), if_pos rfl]
      unfold fb_Cl_readChange_105
      have hkl : k < ks.length := by
        by_cases hlt : k < ks.length
        · exact hlt
        · rw [gd_ge ks 0 (by omega)] at c2
          exact absurd c2 (by decide)
      obtain ⟨τ, y, z1, z2, z3, z4, z5⟩ := C_readExch (hstep 0).1 hl hks (by omega)
      rw [kbi_eq z1]
      unfold fb_Cl_readChange_109
      have f2 := (hstep 0).2.tr z2
      rcases z5 with ⟨en, rfl⟩ | ⟨v, j, ev, rfl, hC, hPv, v15, v16, v17, v18, v19, hj⟩
      · rw [kg_pos (by decide), if_pos rfl, en]
        exact ⟨τ, 0, rfl, f2, .inl ⟨rfl, rfl⟩⟩
      · rw [kg_pos (by decide), if_neg (by decide), ev]
        have o : ∀ i, i ≠ 9 → i ≠ 14 → i ≠ 15 → i ≠ 16 → i ≠ 17 → τ 7 0 i = σ 7 0 i := fun i h9 h14 h15 h16 h17 => (z3 i h9 h15 h16 h17).trans ((kup_j h9).trans (kup_j h14))
        have := h112 τ j (some v) hC (by omega) f2 ⟨hC.1, (o 11 (by decide) (by decide) (by decide) (by decide) (by decide)).trans h11, (o 12 (by decide) (by decide) (by decide) (by decide) (by decide)).trans h12, (o 13 (by decide) (by decide) (by decide) (by decide) (by decide)).trans h13, (z3 14 (by decide) (by decide) (by decide) (by decide)).trans e14, fun P hp => ?_, fun v' hv' => ?_⟩
        · exact this
        · have := hP P hp
          unfold PCt
          rw [z4.1, z4.2, kup_ii (by decide), kup_ii (by decide), kup_ii (by decide), kup_ii (by decide)]
          exact this
        · cases hv'
          exact ⟨hPv, v15, v16, v17, v18, v19⟩
    · rw [if_neg c2, if_neg c2]
      exact ⟨_, 0, rfl, frX.rfl.kup (by decide), .inl ⟨rfl, rfl⟩⟩
/-- the range of a change: all lines for g without a range -/
def gA1 (v : Bool × Nat × Nat × Nat) (g : Bool) : Nat := if g && !v.1 then 0 else v.2.1
def gA2 (v : Bool × Nat × Nat × Nat) (g : Bool) (n : Nat) : Nat := if g && !v.1 then n - 1 else v.2.2.1
theorem C_takeAll {v : Bool × Nat × Nat × Nat} {x : Tc} (hX : CX σ 0 x) (hx : wfX x) (hv : CRg σ v) : ∃ σ', f_Cl_takeAllIfNoRange σ = some (none, σ') ∧ frX σ σ' ∧ σ' 7 0 11 = gA1 v true ∧ σ' 7 0 12 = gA2 v true x.1.length ∧ (∀ j, j ≠ 11 → j ≠ 12 → σ' 7 0 j = σ 7 0 j) ∧ ∀ a, a ≠ 7 → σ' a = σ a := by
  obtain ⟨v1, v2, v3⟩ := hv
  obtain ⟨w1, w2, w3, w4, w5, w6, w7, w8⟩ := hx.sz
  unfold f_Cl_takeAllIfNoRange fb_Cl_takeAllIfNoRange_0 fb_Cl_takeAllIfNoRange_7 fb_Cl_takeAllIfNoRange_25 gA1 gA2
  have h01 := b2_01 v.1
  rw [v1, kg_pos (by omega)]
  cases hv1 : v.1 with
  | false =>
    rw [if_pos (show b2 false = 0 from rfl)]
    refine ⟨_, rfl, (frX.rfl.kup (by decide)).kup (by decide), ?_, ?_, fun j h11 h12 => (kup_j h12).trans (kup_j h11), fun a ha => (kup_kk ha).trans (kup_kk ha)⟩
    · rw [kup_j (by decide), kup_self]
      rfl
    · rw [kup_self, kup_k (by decide), hX.2.1]
      show (x.1.length : Int) - 1 = ((x.1.length - 1 : Nat) : Int)
      omega
  | true =>
    rw [if_neg (show ¬ b2 true = 0 by decide)]
    exact ⟨σ, rfl, frX.rfl, v2, v3, fun _ _ _ => rfl, fun _ _ => rfl⟩
theorem C_readChange {v : Bool × Nat × Nat × Nat} {x : Tc} (h : CLs ks σ k) (hX : CX σ 0 x) (hx : wfX x) (hv : CRg σ v) (hl : ks.length ≤ 30) (hks : ∀ c ∈ ks, 32 ≤ c ∧ c ≤ 126) (hk : k < ks.length) : ∃ σ' y, f_Cl_readChange σ = some (some y, σ') ∧ frX σ σ' ∧ ((chP ks k = none ∧ y = 0) ∨ ∃ u, chP ks k = some u ∧ y = 1 ∧ CPa ks u.1 u.2 (gA1 v u.1.isSome) (gA2 v u.1.isSome x.1.length) σ') := by
  have hr := gd_rng hks k
  unfold f_Cl_readChange fb_Cl_readChange_0
  rw [kbi_eq (C_here h hl (by omega))]
  unfold fb_Cl_readChange_5 fb_Cl_readChange_10 fb_Cl_readChange_14 chP
  rw [kg_pos (by omega)]
  have hC : ∀ z : Int, CLs ks (kup σ 7 0 13 z) k := fun z => ⟨(kup_j (by decide)).trans h.1, (kup_j (by decide)).trans h.2.1, (kup_j (by decide)).trans h.2.2.1, h.2.2.2⟩
  by_cases c1 : ks.getD k 0 = 103
  · rw [if_pos c1, if_pos c1]
    unfold fb_Cl_readChange_15
    rw [kup_self, kg_pos (by decide), if_neg (by decide)]
    unfold fb_Cl_readChange_25
    rw [(hC 1).2.2.1]
    have C2 : CLs ks (kup (kup σ 7 0 13 1) 7 0 9 ((k : Int) + 1)) (k + 1) := (hC 1).at (by omega)
    have X2 : CX (kup (kup σ 7 0 13 1) 7 0 9 ((k : Int) + 1)) 0 x := hX
    have R2 : CRg (kup (kup σ 7 0 13 1) 7 0 9 ((k : Int) + 1)) v := hv
    have f2 : frX σ (kup (kup σ 7 0 13 1) 7 0 9 ((k : Int) + 1)) := (frX.rfl.kup (by decide)).kup (by decide)
    have e13 : kup (kup σ 7 0 13 1) 7 0 9 ((k : Int) + 1) 7 0 13 = 1 := rfl
    generalize kup (kup σ 7 0 13 1) 7 0 9 ((k : Int) + 1) = τ at C2 X2 R2 f2 e13
    obtain ⟨υ, z1, z2, z3, z4, z5, z6⟩ := C_takeAll X2 hx R2
    rw [kbu_eq z1]
    have C3 : CLs ks υ (k + 1) := ⟨(z5 7 (by decide) (by decide)).trans C2.1, (z5 8 (by decide) (by decide)).trans C2.2.1, (z5 9 (by decide) (by decide)).trans C2.2.2.1, by rw [z6 16 (by decide)]; exact C2.2.2.2⟩
    unfold fb_Cl_readChange_39
    obtain ⟨ω, y, y1, y2, y3, y4, y5⟩ := C_readPat (t := 1) C3 hl hks (by omega)
    rw [kbi_eq y1]
    unfold fb_Cl_readChange_47 fb_Cl_readChange_50
    have f4 := (f2.tr z2).tr y2
    rcases y5 with ⟨rfl, hn⟩ | ⟨P, j, h47, hd, rfl, hCj, hP, hj1, hj2⟩
    · rw [kg_pos (by decide), if_pos rfl]
      refine ⟨ω, 0, rfl, f4, .inl ⟨?_, rfl⟩⟩
      rcases hn with hn | hn
      · rw [if_neg hn]
      · split
        · rw [hn]
          rfl
        · rfl
    · rw [kg_pos (by decide), if_neg (by decide), if_pos h47, hd]
      have := C_readCc (gl := some P) (a := gA1 v true) (b := gA2 v true x.1.length) hCj hl hks (by omega) ((y3 11 (by decide)).trans z3) ((y3 12 (by decide)).trans z4) ((y3 13 (by decide)).trans ((z5 13 (by decide) (by decide)).trans e13)) (fun P' hp => by cases hp; exact hP)
      obtain ⟨σ', y, a1, a2, a3⟩ := this
      refine ⟨σ', y, a1, f4.tr a2, ?_⟩
      rcases a3 with ⟨en, rfl⟩ | ⟨c, ec, rfl, hp⟩
      · refine .inl ⟨?_, rfl⟩
        show (ccP ks j).map _ = none
        rw [en]
        rfl
      · refine .inr ⟨(some P, c), ?_, rfl, hp⟩
        show (ccP ks j).map _ = _
        rw [ec]
        rfl
  · rw [if_neg c1, if_neg c1]
    unfold fb_Cl_readChange_15
    rw [kup_self, kg_pos (by decide), if_pos rfl]
    obtain ⟨σ', y, a1, a2, a3⟩ := C_readCc (gl := none) (a := v.2.1) (b := v.2.2.1) (hC 0) hl hks (by omega) hv.2.1 hv.2.2 rfl (fun P' hp => nomatch hp)
    refine ⟨σ', y, a1, (frX.rfl.kup (by decide)).tr a2, ?_⟩
    rcases a3 with ⟨en, rfl⟩ | ⟨c, ec, rfl, hp⟩
    · exact .inl ⟨by rw [en]; rfl, rfl⟩
    · exact .inr ⟨(none, c), by rw [ec]; rfl, rfl, hp⟩
end
