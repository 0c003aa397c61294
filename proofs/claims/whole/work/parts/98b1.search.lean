/-! Pure: SEARCH. -/
/-- only the class's scratch has changed -/
def frX (σ σ' : kS) : Prop := ∀ a, a ≠ 7 → a ≠ 8 → a ≠ 17 → a ≠ 18 → σ' a = σ a
theorem frX.rfl {σ : kS} : frX σ σ := fun _ _ _ _ _ => Eq.refl _
theorem frX.tr {σ σ' σ'' : kS} (h : frX σ σ') (h2 : frX σ' σ'') : frX σ σ'' := fun a h7 h8 h17 h18 => (h2 a h7 h8 h17 h18).trans (h a h7 h8 h17 h18)
theorem frX.kup {σ σ' : kS} {k i j : Nat} {x : Int} (h : frX σ σ') (hk : k = 7 ∨ k = 8 ∨ k = 17 ∨ k = 18) : frX σ (kup σ' k i j x) := h.tr fun a h7 h8 h17 h18 => kup_kk (by omega)
theorem frX.of {σ σ' : kS} (h : ∀ k, k ≠ 8 → k ≠ 17 → σ' k = σ k) : frX σ σ' := fun a _ h8 h17 _ => h a h8 h17
theorem frX.frE {σ σ' : kS} (h : frX σ σ') : frE σ σ' := ⟨fun a ha => h a (by omega) (by omega) (by omega) (by omega), fun t _ => ⟨congrFun (h 2 (by decide) (by decide) (by decide) (by decide)) t, congrFun (h 10 (by decide) (by decide) (by decide) (by decide)) t, congrFun (h 11 (by decide) (by decide) (by decide) (by decide)) t⟩⟩
theorem CE.frX {g : Int} {A : kEd} {σ σ' : kS} (h : CE g A σ) (f : frX σ σ') : CE g A σ' := h.cg (f 1 (by decide) (by decide) (by decide) (by decide)) (f 2 (by decide) (by decide) (by decide) (by decide)) (f 5 (by decide) (by decide) (by decide) (by decide)) (f 6 (by decide) (by decide) (by decide) (by decide)) (f 10 (by decide) (by decide) (by decide) (by decide)) (f 11 (by decide) (by decide) (by decide) (by decide)) (f 16 (by decide) (by decide) (by decide) (by decide))
/-- the first place from q on where f holds -/
def firstF (f : Nat → Bool) : Nat → Nat → Option Nat
  | _, 0 => none
  | q, m + 1 => if f q then some q else firstF f (q + 1) m
theorem firstF_in {f : Nat → Bool} : ∀ (m q : Nat) (p : Nat), firstF f q m = some p → q ≤ p ∧ p < q + m ∧ f p = true := by
  intro m
  induction m with
  | zero => intro q p h; exact nomatch h
  | succ m ih =>
    intro q p h
    unfold firstF at h
    cases hf : f q with
    | true =>
      rw [hf, if_pos rfl] at h
      cases h
      exact ⟨Nat.le_refl q, by omega, hf⟩
    | false =>
      rw [hf] at h
      simp only [Bool.false_eq_true, if_false] at h
      have := ih (q + 1) p h
      exact ⟨by omega, by omega, this.2.2⟩
/-- a turn of SEARCH: line and the places to try -/
def srL (x : Tc) (k : Nat) : Nat := (x.2.1.toNat + k) % x.1.length
def srA (x : Tc) (k : Nat) : Nat := if k = 0 then x.2.2.toNat + 1 else 0
def srB (x : Tc) (k : Nat) : Nat := if k = x.1.length then x.2.2.toNat else (ln x.1 (srL x k)).length
def srT (ks : List Int) (P : Pt) (x : Tc) (k : Nat) : Option Nat := firstF (fun p => decide (0 ≤ mtA ks P (ln x.1 (srL x k)) p)) (srA x k) (srB x k + 1 - srA x k)
def srF (ks : List Int) (P : Pt) (x : Tc) : Nat → Nat → Option (Nat × Nat)
  | _, 0 => none
  | k, m + 1 => (srT ks P x k).elim (srF ks P x (k + 1) m) fun p => some (srL x k, p)
/-- SEARCH: 0 it rings, 1 taken -/
def srcA (ks : List Int) (x : Tc) : Option Tc := (parA ks 0 ks.length).elim none fun P => (srF ks P x 0 (x.1.length + 1)).map fun y => clipX (x.1, (y.1 : Int), (y.2 : Int))
theorem mtA_rng (ks : List Int) (P : Pt) (L : List Int) (p : Nat) : mtA ks P L p = -1 ∨ (p : Int) ≤ mtA ks P L p ∧ mtA ks P L p ≤ p + (L.length - p : Nat) := by
  unfold mtA
  split
  · exact .inl rfl
  · exact gr_rng _ _ _
theorem srL_lt {x : Tc} (hx : wfX x) (k : Nat) : srL x k < x.1.length := Nat.mod_lt _ hx.sz.2.2.2.1
theorem srB_le {x : Tc} (hx : wfX x) {k : Nat} (hk : k ≤ x.1.length) : srB x k ≤ (ln x.1 (srL x k)).length := by
  obtain ⟨w1, w2, w3, w4, w5, w6, w7, w8⟩ := hx.sz
  unfold srB
  by_cases h : k = x.1.length
  · rw [if_pos h]
    have : srL x k = x.2.1.toNat := by
      unfold srL
      rw [h, Nat.add_mod_right, Nat.mod_eq_of_lt w2]
    rw [this]
    omega
  · rw [if_neg h]
    exact Nat.le_refl _
theorem cl_clip {x : Tc} {r c : Nat} (hr : r < x.1.length) : (x.1, cl (r : Int) ((x.1.length : Int) - 1), cl (c : Int) (((ln x.1 (cl (r : Int) ((x.1.length : Int) - 1)).toNat).length : Int) - 1)) = clipX (x.1, (r : Int), (c : Int)) := by
  have e1 : cl (r : Int) ((x.1.length : Int) - 1) = r := by
    unfold cl
    omega
  unfold clipX
  rw [e1]
  dsimp only
  have e2 : ∀ n : Int, (if (c : Int) ≤ max 0 (n - 1) then (c : Int) else max 0 (n - 1)) = cl (c : Int) (n - 1) := fun n => by
    unfold cl
    split <;> omega
  rw [e2]
theorem SC.search {g : Int} {x : Tc} {o : Option Tc} {b : Int × Tx} {q : Qd} {s : Int × Int} {ks : List Int} {l : Int × List Int} {md : Int} (hx : wfX x) (hl : ks.length ≤ 30) (hks : ∀ c ∈ ks, 32 ≤ c ∧ c ≤ 126) : SC g f_Cl_search (some ((srcA ks x).elim 0 fun _ => 1)) (x, o, b, q, (md, s.1, s.2, ks), l) ((srcA ks x).getD x, o, b, q, (md, s.1, s.2, ks), l) := by
  obtain ⟨w1, w2, w3, w4, w5, w6, w7, w8⟩ := hx.sz
  intro σ c
  have h6 : σ 6 2 1 = ks.length := c.2.2.2.2.1.2.2.2.1
  have ha : kArr (σ 16 2) ks := c.2.2.2.2.1.2.2.2.2
  have hT0 : CX σ 0 x := c.1
  unfold f_Cl_search fb_Cl_search_0 f_Cl_begin fb_Cl_begin_0
  have e6 : kup σ 7 0 7 1 6 2 1 = ks.length := h6
  rw [e6, kg_pos (by omega), kbu_eq rfl]
  have f1 : frX σ (kup (kup (kup σ 7 0 7 1) 7 0 8 (min (ks.length : Int) 30)) 7 0 9 0) := ((frX.rfl.kup (by decide)).kup (by decide)).kup (by decide)
  have t7 : kup (kup (kup σ 7 0 7 1) 7 0 8 (min (ks.length : Int) 30)) 7 0 9 0 7 0 7 = 1 := rfl
  have t8 : kup (kup (kup σ 7 0 7 1) 7 0 8 (min (ks.length : Int) 30)) 7 0 9 0 7 0 8 = ks.length := by
    show min (ks.length : Int) 30 = ks.length
    omega
  generalize kup (kup (kup σ 7 0 7 1) 7 0 8 (min (ks.length : Int) 30)) 7 0 9 0 = τ at f1 t7 t8
  unfold fb_Cl_search_5
  have ha1 : kArr (τ 16 2) ks := by
    rw [f1 16 (by decide) (by decide) (by decide) (by decide)]
    exact ha
  obtain ⟨υ, y, ey, hfy, hy⟩ := C_read (σ := τ) (t := 0) (xa := 0) (a := 0) (b := ks.length) rfl rfl ha1 hl hks (Nat.le_refl _) (by decide)
  rw [t8, kg_pos t7, kbi_eq ey]
  have f2 : frX σ υ := f1.tr (frX.of hfy.1)
  have cu : CE g (x, o, b, q, (md, s.1, s.2, ks), l) υ := c.frX f2
  unfold fb_Cl_search_21 srcA
  rcases hy with ⟨hp, rfl⟩ | ⟨P, hp, rfl, hP⟩
  · rw [hp, kg_pos (by decide), if_pos rfl]
    exact ⟨υ, rfl, cu, f2.frE⟩
  · rw [hp, kg_pos (by decide), if_neg (by decide)]
    unfold fb_Cl_search_26
    obtain ⟨x1, x2, x3, x4⟩ : CX υ 0 x := cu.1
    have hpr := hx.1.2.2.1
    -- the turns
    have hloop : ∀ (m n k : Nat), k + m = x.1.length + 1 → m < n → ∃ σ', fl_Cl_search_28 n (k : Int) υ = some (some ((srF ks P x k m).elim 0 fun _ => 1), σ') ∧ CE g (((srF ks P x k m).map fun y => clipX (x.1, (y.1 : Int), (y.2 : Int))).getD x, o, b, q, (md, s.1, s.2, ks), l) σ' ∧ frE υ σ' := by
      intro m
      induction m with
      | zero =>
        intro n k h1 h2
        obtain ⟨n, rfl⟩ : ∃ n', n = n' + 1 := ⟨n - 1, by omega⟩
        refine ⟨υ, ?_, cu, frE.rfl⟩
        simp only [fl_Cl_search_28, fb_Cl_search_28, fb_Cl_search_190]
        rw [x2, kg_pos (by omega), if_pos (by omega)]
        rfl
      | succ m ih =>
        intro n k h1 h2
        obtain ⟨n, rfl⟩ : ∃ n', n = n' + 1 := ⟨n - 1, by omega⟩
        have hLlt := srL_lt hx k
        have hBle := srB_le hx (k := k) (by omega)
        have hl20 := hx.1.2.2.2 (srL x k) hLlt
        have hAle : srA x k ≤ 21 := by
          unfold srA
          split <;> omega
        simp only [fl_Cl_search_28, fb_Cl_search_28]
        rw [x2, kg_pos (by omega), if_neg (by omega)]
        -- the line, from and to
        have e136 : fb_Cl_search_39 (fl_Cl_search_28 n) (k : Int) υ = fl_Cl_search_142 (fl_Cl_search_28 n) 3000 (k : Int) (srL x k : Int) (srA x k : Int) (srB x k : Int) (srA x k : Int) υ := by
          have eL : (if (x.1.length : Int) ≤ x.2.1 + k then fb_Cl_search_70 (fl_Cl_search_28 n) (k : Int) υ else fb_Cl_search_58 (fl_Cl_search_28 n) (k : Int) υ) = fb_Cl_search_87 (fl_Cl_search_28 n) (k : Int) (srL x k : Int) υ := by
            unfold fb_Cl_search_70 fb_Cl_search_58 srL
            rw [x2, x3]
            by_cases h : (x.1.length : Int) ≤ x.2.1 + k
            · rw [if_pos h]
              have : (x.2.1.toNat + k) % x.1.length = x.2.1.toNat + k - x.1.length := by
                rw [Nat.mod_eq_sub_mod (by omega), Nat.mod_eq_of_lt (by omega)]
              rw [this]
              exact congrArg (fun z => fb_Cl_search_87 (fl_Cl_search_28 n) (k : Int) z υ) (by omega)
            · rw [if_neg h, Nat.mod_eq_of_lt (by omega)]
              exact congrArg (fun z => fb_Cl_search_87 (fl_Cl_search_28 n) (k : Int) z υ) (by omega)
          have eA : fb_Cl_search_87 (fl_Cl_search_28 n) (k : Int) (srL x k : Int) υ = fb_Cl_search_105 (fl_Cl_search_28 n) (k : Int) (srL x k : Int) (srA x k : Int) υ := by
            unfold fb_Cl_search_87 fb_Cl_search_92 fb_Cl_search_104 srA
            rw [x4, kg_pos (by omega)]
            by_cases h : k = 0
            · rw [if_pos (by omega), if_pos h]
              exact congrArg (fun z => fb_Cl_search_105 (fl_Cl_search_28 n) (k : Int) (srL x k : Int) z υ) (by omega)
            · rw [if_neg (by omega), if_neg h]
              rfl
          have eB : fb_Cl_search_105 (fl_Cl_search_28 n) (k : Int) (srL x k : Int) (srA x k : Int) υ = fb_Cl_search_136 (fl_Cl_search_28 n) (k : Int) (srL x k : Int) (srA x k : Int) (srB x k : Int) υ := by
            unfold fb_Cl_search_105 fb_Cl_search_118 fb_Cl_search_128 srB
            rw [x2, x4, kg_pos (by omega)]
            by_cases h : k = x.1.length
            · rw [if_pos (by omega), if_pos h]
              exact congrArg (fun z => fb_Cl_search_136 (fl_Cl_search_28 n) (k : Int) (srL x k : Int) (srA x k : Int) z υ) (by omega)
            · rw [if_neg (by omega), if_neg h, kbi_eq (P_sizeOf x1 x2 (by omega)), szo_in hLlt]
          unfold fb_Cl_search_39
          rw [x2, x3, kg_pos (by omega), eL, eA, eB]
          rfl
        rw [e136]
        -- the places
        have hin : ∀ (j f p : Nat), p + j = max (srA x k) (srB x k + 1) → srA x k ≤ p → j < f → ∃ σ', fl_Cl_search_142 (fl_Cl_search_28 n) f (k : Int) (srL x k : Int) (srA x k : Int) (srB x k : Int) (p : Int) υ = some (some (((firstF (fun p => decide (0 ≤ mtA ks P (ln x.1 (srL x k)) p)) p j).elim (srF ks P x (k + 1) m) fun p => some (srL x k, p)).elim 0 fun _ => 1), σ') ∧ CE g ((((firstF (fun p => decide (0 ≤ mtA ks P (ln x.1 (srL x k)) p)) p j).elim (srF ks P x (k + 1) m) fun p => some (srL x k, p)).map fun y => clipX (x.1, (y.1 : Int), (y.2 : Int))).getD x, o, b, q, (md, s.1, s.2, ks), l) σ' ∧ frE υ σ' := by
          intro j
          induction j with
          | zero =>
            intro f p h3 h4 h5
            obtain ⟨f, rfl⟩ : ∃ f', f = f' + 1 := ⟨f - 1, by omega⟩
            obtain ⟨σ', z1, z2, z3⟩ := ih n (k + 1) (by omega) (by omega)
            refine ⟨σ', ?_, z2, z3⟩
            simp only [fl_Cl_search_142, fb_Cl_search_142, fb_Cl_search_184]
            rw [kg_pos (by omega), if_pos (by omega)]
            exact z1
          | succ j ihj =>
            intro f p h3 h4 h5
            obtain ⟨f, rfl⟩ : ∃ f', f = f' + 1 := ⟨f - 1, by omega⟩
            simp only [fl_Cl_search_142, fb_Cl_search_142]
            rw [kg_pos (by omega), if_neg (by omega)]
            unfold fb_Cl_search_149
            have hmr := mtA_rng ks P (ln x.1 (srL x k)) p
            rw [kbi_eq (C_endOf hP x1 x2 hpr hLlt (by omega))]
            unfold fb_Cl_search_163
            rw [kg_pos (by omega), firstF]
            by_cases hm0 : mtA ks P (ln x.1 (srL x k)) p < 0
            · rw [if_pos hm0, decide_eq_false (by omega)]
              exact ihj f (p + 1) (by omega) (by omega) (by omega)
            · rw [if_neg hm0, decide_eq_true (by omega), if_pos rfl]
              have hst := SC.u (k := fun σ1 => fb_Cl_search_176 (k : Int) (srL x k : Int) (srA x k : Int) (srB x k : Int) (p : Int) σ1) (SC.stand (g := g) (x := x) (o := o) (b := b) (q := q) (m := (md, s.1, s.2, ks)) (l := l) (r := (srL x k : Int)) (c := (p : Int)) w4 (by omega) (by omega)) (SC.ret (r := some 1))
              rw [cl_clip hLlt] at hst
              exact hst υ cu
        have := hin (srB x k + 1 - srA x k) 3000 (srA x k) (by omega) (Nat.le_refl _) (by omega)
        unfold srF srT
        exact this
    obtain ⟨σ', z1, z2, z3⟩ := hloop (x.1.length + 1) 3000 0 (by omega) (by omega)
    refine ⟨σ', ?_, z2, f2.frE.tr z3⟩
    have e : fl_Cl_search_28 3000 0 υ = _ := z1
    rw [e]
    show some (some _, σ') = some (some (((srF ks P x 0 (x.1.length + 1)).map fun y => clipX (x.1, (y.1 : Int), (y.2 : Int))).elim 0 fun _ => 1), σ')
    cases srF ks P x 0 (x.1.length + 1) <;> rfl
theorem SR.search {g : Int} {B : Option Tc} {x : Tc} {o : Option Tc} {b : Int × Tx} {q : Qd} {s : Int × Int} {l : Int × List Int} {ks : List Int} (hx : wfX x) : ∀ σ, RE2 g B (x, o, b, q, (0, s.1, s.2, []), l) σ → TyR ks σ → ∃ σ' y, f_Rm_search σ = some (some ((srcA ks x).elim 0 fun _ => 2), σ') ∧ RE2 g B (y, o, b, q, (0, s.1, s.2, []), l) σ' ∧ clipX y = ((srcA ks x).getD (clipX x)) ∧ (0 ≤ y.2.1 ∧ y.2.1 < y.1.length ∧ -1000 ≤ y.2.2 ∧ y.2.2 ≤ 1000) ∧ frF σ σ' := by
  obtain ⟨w1, w2, w3, w4, w5, w6, w7, w8⟩ := hx.sz
  intro σ c hT
  have h20 := hT.1
  unfold f_Rm_search fb_Rm_search_0
  obtain ⟨υ, y, ey, fy, hy⟩ := R_pattern (xa := 0) (a := 0) (b := ks.length) rfl rfl hT (Nat.le_refl _) (by decide)
  rw [h20, kbi_eq ey]
  have cu : RE2 g B (x, o, b, q, (0, s.1, s.2, []), l) υ := ⟨c.1.frQ fy, fun z hz => (c.2 z hz).fr (fun j _ _ => congrFun (congrFun (fy.1 20 (by decide) (by decide)) 0) j) (fun j _ _ => congrFun (congrFun (fy.1 21 (by decide) (by decide)) 0) j) (fun k h1 h2 => congrFun (congrFun (fy.1 k (by omega) (by omega)) 0) 2)⟩
  unfold fb_Rm_search_9 srcA
  rcases hy with ⟨hp, rfl⟩ | ⟨P, hp, rfl, hP⟩
  · rw [hp, kg_pos (by decide), if_pos rfl]
    exact ⟨υ, x, rfl, cu, rfl, ⟨w5, by omega, by omega, by omega⟩, fy.frF⟩
  · rw [hp, kg_pos (by decide), if_neg (by decide)]
    unfold fb_Rm_search_14
    obtain ⟨x1, x2, x3, x4⟩ : RX υ 0 x := cu.1.1
    have hpr := hx.1.2.2.1
    have hloop : ∀ (m n k : Nat), k + m = x.1.length + 1 → m < n → ∃ σ' y, fl_Rm_search_16 n (k : Int) υ = some (some ((srF ks P x k m).elim 0 fun _ => 2), σ') ∧ RE2 g B (y, o, b, q, (0, s.1, s.2, []), l) σ' ∧ clipX y = ((srF ks P x k m).map fun y => clipX (x.1, (y.1 : Int), (y.2 : Int))).getD (clipX x) ∧ (0 ≤ y.2.1 ∧ y.2.1 < y.1.length ∧ -1000 ≤ y.2.2 ∧ y.2.2 ≤ 1000) ∧ frF υ σ' := by
      intro m
      induction m with
      | zero =>
        intro n k h1 h2
        obtain ⟨n, rfl⟩ : ∃ n', n = n' + 1 := ⟨n - 1, by omega⟩
        refine ⟨υ, x, ?_, cu, rfl, ⟨w5, by omega, by omega, by omega⟩, frF.rfl⟩
        simp only [fl_Rm_search_16, fb_Rm_search_16, fb_Rm_search_127]
        rw [x2, kg_pos (by omega), if_pos (by omega)]
        rfl
      | succ m ih =>
        intro n k h1 h2
        obtain ⟨n, rfl⟩ : ∃ n', n = n' + 1 := ⟨n - 1, by omega⟩
        have hLlt := srL_lt hx k
        have hBle := srB_le hx (k := k) (by omega)
        have hl20 := hx.1.2.2.2 (srL x k) hLlt
        have hAle : srA x k ≤ 21 := by
          unfold srA
          split <;> omega
        simp only [fl_Rm_search_16, fb_Rm_search_16]
        rw [x2, kg_pos (by omega), if_neg (by omega)]
        have e84 : fb_Rm_search_26 (fl_Rm_search_16 n) (k : Int) υ = fl_Rm_search_89 (fl_Rm_search_16 n) 3000 (k : Int) (srL x k : Int) (srA x k : Int) (srB x k : Int) (srA x k : Int) υ := by
          have hmod : kmod (x.2.1 + (k : Int)) (x.1.length : Int) = (srL x k : Int) := by
            rw [k_mod (by omega) (by omega)]
            unfold srL
            rw [Int.natCast_emod, Int.natCast_add, w8]
          have hne : ¬ Int32.ofInt (x.1.length : Int) = 0 := by
            intro h
            have := congrArg Int32.toInt h
            rw [k_toInt (by omega)] at this
            have h0 : (0 : Int32).toInt = 0 := by decide
            rw [h0] at this
            omega
          have eA : ∀ z, (if (k : Int) = 0 then fb_Rm_search_46 (fl_Rm_search_16 n) (k : Int) z υ else fb_Rm_search_57 (fl_Rm_search_16 n) (k : Int) z υ) = fb_Rm_search_58 (fl_Rm_search_16 n) (k : Int) z (srA x k : Int) υ := by
            intro z
            unfold fb_Rm_search_46 fb_Rm_search_57 srA
            rw [x4]
            by_cases h : k = 0
            · rw [if_pos (by omega), if_pos h]
              exact congrArg (fun v => fb_Rm_search_58 (fl_Rm_search_16 n) (k : Int) z v υ) (by omega)
            · rw [if_neg (by omega), if_neg h]
              rfl
          have eB : fb_Rm_search_58 (fl_Rm_search_16 n) (k : Int) (srL x k : Int) (srA x k : Int) υ = fb_Rm_search_84 (fl_Rm_search_16 n) (k : Int) (srL x k : Int) (srA x k : Int) (srB x k : Int) υ := by
            unfold fb_Rm_search_58 fb_Rm_search_69 fb_Rm_search_78 srB
            rw [x2, x4, kg_pos (by omega)]
            by_cases h : k = x.1.length
            · rw [if_pos (by omega), if_pos h]
              exact congrArg (fun v => fb_Rm_search_84 (fl_Rm_search_16 n) (k : Int) (srL x k : Int) (srA x k : Int) v υ) (by omega)
            · rw [if_neg (by omega), if_neg h, kg_pos (by omega), Q_sz rfl x1 hLlt]
          unfold fb_Rm_search_26
          rw [x2, x3, kg_pos ⟨hne, by omega⟩, hmod, eA, eB]
          rfl
        rw [e84]
        have hin : ∀ (j f p : Nat), p + j = max (srA x k) (srB x k + 1) → srA x k ≤ p → j < f → ∃ σ' y, fl_Rm_search_89 (fl_Rm_search_16 n) f (k : Int) (srL x k : Int) (srA x k : Int) (srB x k : Int) (p : Int) υ = some (some (((firstF (fun p => decide (0 ≤ mtA ks P (ln x.1 (srL x k)) p)) p j).elim (srF ks P x (k + 1) m) fun p => some (srL x k, p)).elim 0 fun _ => 2), σ') ∧ RE2 g B (y, o, b, q, (0, s.1, s.2, []), l) σ' ∧ clipX y = (((firstF (fun p => decide (0 ≤ mtA ks P (ln x.1 (srL x k)) p)) p j).elim (srF ks P x (k + 1) m) fun p => some (srL x k, p)).map fun y => clipX (x.1, (y.1 : Int), (y.2 : Int))).getD (clipX x) ∧ (0 ≤ y.2.1 ∧ y.2.1 < y.1.length ∧ -1000 ≤ y.2.2 ∧ y.2.2 ≤ 1000) ∧ frF υ σ' := by
          intro j
          induction j with
          | zero =>
            intro f p h3 h4 h5
            obtain ⟨f, rfl⟩ : ∃ f', f = f' + 1 := ⟨f - 1, by omega⟩
            obtain ⟨σ', y, z1, z2, z3, z4, z5⟩ := ih n (k + 1) (by omega) (by omega)
            refine ⟨σ', y, ?_, z2, z3, z4, z5⟩
            simp only [fl_Rm_search_89, fb_Rm_search_89, fb_Rm_search_121]
            rw [kg_pos (by omega), if_pos (by omega)]
            exact z1
          | succ j ihj =>
            intro f p h3 h4 h5
            obtain ⟨f, rfl⟩ : ∃ f', f = f' + 1 := ⟨f - 1, by omega⟩
            simp only [fl_Rm_search_89, fb_Rm_search_89]
            rw [kg_pos (by omega), if_neg (by omega)]
            unfold fb_Rm_search_96
            have hmr := mtA_rng ks P (ln x.1 (srL x k)) p
            rw [kbi_eq (R_match hP x1 hpr rfl rfl hLlt (by omega))]
            unfold fb_Rm_search_103
            rw [kg_pos (by omega), firstF]
            by_cases hm0 : mtA ks P (ln x.1 (srL x k)) p < 0
            · rw [if_pos hm0, decide_eq_false (by omega)]
              exact ihj f (p + 1) (by omega) (by omega) (by omega)
            · rw [if_neg hm0, decide_eq_true (by omega), if_pos rfl]
              obtain ⟨σ', z1, z2, z3⟩ := SR.u (k := fun σ1 => fb_Rm_search_113 (k : Int) (srL x k : Int) (srA x k : Int) (srB x k : Int) (p : Int) σ1) (SR.place (g := g) (B := B) (x := x) (o := o) (b := b) (q := q) (m := (0, s.1, s.2, [])) (l := l) (r := (srL x k : Int)) (c := (p : Int))) (SR.ret (r := some 2)) υ cu
              exact ⟨σ', _, z1, z2, rfl, ⟨by show 0 ≤ (srL x k : Int); omega, by show (srL x k : Int) < x.1.length; omega, by show -1000 ≤ (p : Int); omega, by show (p : Int) ≤ 1000; omega⟩, z3⟩
        have := hin (srB x k + 1 - srA x k) 3000 (srA x k) (by omega) (Nat.le_refl _) (by omega)
        unfold srF srT
        exact this
    obtain ⟨σ', y, z1, z2, z3, z4, z5⟩ := hloop (x.1.length + 1) 3000 0 (by omega) (by omega)
    refine ⟨σ', y, ?_, z2, z3, z4, fy.frF.tr z5⟩
    have e : fl_Rm_search_16 3000 0 υ = _ := z1
    rw [e]
    show some (some _, σ') = some (some (((srF ks P x 0 (x.1.length + 1)).map fun y => clipX (x.1, (y.1 : Int), (y.2 : Int))).elim 0 fun _ => 2), σ')
    cases srF ks P x 0 (x.1.length + 1) <;> rfl
