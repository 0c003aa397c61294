/-! Pure: addresses. -/
def isDb (c : Int) : Bool := decide (48 ≤ c ∧ c ≤ 57)
/-- a pattern between slashes, the first of them at k: where it ends, and the pattern -/
def dlA (ks : List Int) (k : Nat) : Option (Pt × Nat) := if ks.length ≤ findI ks 47 ks.length 40 (k + 1) then none else (parA ks (k + 1) (findI ks 47 ks.length 40 (k + 1))).map fun P => (P, findI ks 47 ks.length 40 (k + 1) + 1)
def nxA (ks : List Int) (P : Pt) (T : Tx) (r : Nat) : Option Nat := (firstF (fun k => innA ks P (ln T ((r + k) % T.length))) 1 T.length).map fun k => (r + k) % T.length
/-- an address at k: the line, and where it ends -/
def adrA (ks : List Int) (T : Tx) (r k : Nat) : Option (Nat × Nat) :=
  if ks.getD k 0 = 47 then (dlA ks k).elim none fun d => (nxA ks d.1 T r).map fun n => (n, d.2)
  else if ks.getD k 0 = 46 then some (r, k + 1)
  else if ks.getD k 0 = 36 then some (T.length - 1, k + 1)
  else if isDb (ks.getD k 0) then
    (if isDb (ks.getD (k + 1) 0) then (if 1 ≤ 10 * (ks.getD k 0 - 48) + ks.getD (k + 1) 0 - 48 ∧ 10 * (ks.getD k 0 - 48) + ks.getD (k + 1) 0 - 48 ≤ T.length then some ((10 * (ks.getD k 0 - 48) + ks.getD (k + 1) 0 - 48 - 1).toNat, k + 2) else none)
     else (if 1 ≤ ks.getD k 0 - 48 ∧ ks.getD k 0 - 48 ≤ T.length then some ((ks.getD k 0 - 48 - 1).toNat, k + 1) else none))
  else none
/-- the class reads at place k of the line ks -/
def CLs (ks : List Int) (σ : kS) (k : Nat) : Prop := σ 7 0 7 = 1 ∧ σ 7 0 8 = ks.length ∧ σ 7 0 9 = k ∧ kArr (σ 16 2) ks
theorem CLs.to {ks : List Int} {σ σ' : kS} {k : Nat} (h : CLs ks σ k) (f : ∀ a, a ≠ 8 → a ≠ 17 → σ' a = σ a) : CLs ks σ' k := by
  obtain ⟨h1, h2, h3, h4⟩ := h
  unfold CLs
  rw [f 7 (by decide) (by decide), f 16 (by decide) (by decide)]
  exact ⟨h1, h2, h3, h4⟩
theorem CLs.at {ks : List Int} {σ : kS} {k j : Nat} {x : Int} (h : CLs ks σ k) (hx : x = j) : CLs ks (kup σ 7 0 9 x) j := ⟨h.1, h.2.1, by rw [kup_self, hx], h.2.2.2⟩
section
variable {ks : List Int} {σ : kS} {k : Nat}
theorem C_here (h : CLs ks σ k) (hl : ks.length ≤ 30) (hk : k ≤ 1000) : f_Cl_here σ = some (some (ks.getD k 0), σ) := by
  obtain ⟨h1, h2, h3, h4⟩ := h
  unfold f_Cl_here fb_Cl_here_0 fb_Cl_here_23 fb_Cl_here_11 fb_Cl_here_24
  rw [h2, h3, kg_pos (by omega)]
  by_cases z : k < ks.length
  · rw [if_neg (by omega), kg_pos ⟨h1, by omega⟩, Int.toNat_natCast, h4 k z]
  · rw [if_pos (by omega), gd_ge ks 0 (by omega)]
theorem C_isDigit {c : Int} {σ : kS} (hc : 0 ≤ c ∧ c ≤ 126) : f_Cl_isDigit c σ = some (some (b2 (isDb c)), σ) := by
  unfold f_Cl_isDigit fb_Cl_isDigit_0 fb_Cl_isDigit_6 fb_Cl_isDigit_12 fb_Cl_isDigit_16 fb_Cl_isDigit_17 isDb
  simp only [kg_pos (show -2147483648 ≤ c ∧ c < 2147483648 by omega)]
  rw [kg_pos (by decide), kg_pos (by decide)]
  by_cases h : 48 ≤ c ∧ c ≤ 57
  · rw [decide_eq_true h, if_neg (by omega), if_neg (by omega)]
    rfl
  · rw [decide_eq_false h]
    split
    · rfl
    · rw [if_pos (by omega)]
      rfl
theorem C_slashL {t : Nat} {x2 : Int} (h : CLs ks σ k) (hl : ks.length ≤ 30) (hks : ∀ c ∈ ks, 32 ≤ c ∧ c ≤ 126) : ∀ (m f j : Nat), ks.length ≤ j + m → j ≤ 60 → m < f → fl_Cl_readPattern_20 f x2 (j : Int) t σ = fb_Cl_readPattern_45 x2 ((findI ks 47 ks.length (m + 1) j : Nat) : Int) t σ := by
  obtain ⟨h1, h2, h3, h4⟩ := h
  intro m
  induction m with
  | zero =>
    intro f j g1 g2 g3
    obtain ⟨f, rfl⟩ : ∃ f', f = f' + 1 := ⟨f - 1, by omega⟩
    simp only [fl_Cl_readPattern_20, fb_Cl_readPattern_20]
    rw [h2, kg_pos (by omega), if_pos (by omega), findI, if_pos (by omega)]
  | succ m ih =>
    intro f j g1 g2 g3
    obtain ⟨f, rfl⟩ : ∃ f', f = f' + 1 := ⟨f - 1, by omega⟩
    simp only [fl_Cl_readPattern_20, fb_Cl_readPattern_20]
    rw [h2, kg_pos (by omega), findI]
    by_cases hk : ks.length ≤ j
    · rw [if_pos (by omega), if_pos hk]
    · have hr := hks _ (gd_mem (ks := ks) (k := j) (by omega))
      rw [if_neg (by omega), if_neg hk]
      unfold fb_Cl_readPattern_28 fb_Cl_readPattern_39
      rw [Int.toNat_natCast, h4 j (by omega), kg_pos ⟨h1, by omega, by omega⟩]
      by_cases h5 : ks.getD j 0 = 47
      · rw [if_pos h5, if_pos h5]
      · rw [if_neg h5, if_neg h5]
        exact ih f (j + 1) (by omega) (by omega) (by omega)
theorem C_readPat {t : Nat} (h : CLs ks σ k) (hl : ks.length ≤ 30) (hks : ∀ c ∈ ks, 32 ≤ c ∧ c ≤ 126) (hk : k ≤ 31) : ∃ σ' y, f_Cl_readPattern t σ = some (some y, σ') ∧ frX σ σ' ∧ (∀ j, j ≠ 9 → σ' 7 0 j = σ 7 0 j) ∧ (∀ u, u ≠ t → σ' 8 u = σ 8 u ∧ σ' 17 u = σ 17 u) ∧ ((y = 0 ∧ (ks.getD k 0 ≠ 47 ∨ dlA ks k = none)) ∨ ∃ P j, ks.getD k 0 = 47 ∧ dlA ks k = some (P, j) ∧ y = 1 ∧ CLs ks σ' j ∧ PCt ks σ' t P ∧ k < j ∧ j ≤ ks.length) := by
  have r0 := gd_rng hks k
  unfold f_Cl_readPattern fb_Cl_readPattern_0
  rw [kbi_eq (C_here h hl (by omega))]
  unfold fb_Cl_readPattern_4
  rw [kg_pos (by omega)]
  by_cases c1 : ks.getD k 0 = 47
  · rw [if_pos c1]
    unfold fb_Cl_readPattern_11
    have h9 : σ 7 0 9 + 1 = ((k + 1 : Nat) : Int) := by
      rw [h.2.2.1]
      omega
    have hs := C_slashL (t := t) (x2 := ((k + 1 : Nat) : Int)) h hl hks 39 3000 (k + 1) (by omega) (by omega) (by omega)
    rw [h9, show fl_Cl_readPattern_20 3000 ((k + 1 : Nat) : Int) ((k + 1 : Nat) : Int) t σ = fb_Cl_readPattern_45 ((k + 1 : Nat) : Int) ((findI ks 47 ks.length 40 (k + 1) : Nat) : Int) t σ from hs]
    have hle := findI_le ks 47 ks.length 40 (k + 1)
    unfold dlA
    generalize findI ks 47 ks.length 40 (k + 1) = e at hle
    have f9 : frX σ (kup σ 7 0 9 ((e : Int) + 1)) := frX.rfl.kup (by decide)
    have o9 : ∀ j, j ≠ 9 → kup σ 7 0 9 ((e : Int) + 1) 7 0 j = σ 7 0 j := fun j hj => kup_j hj
    have u9 : ∀ u, kup σ 7 0 9 ((e : Int) + 1) 8 u = σ 8 u ∧ kup σ 7 0 9 ((e : Int) + 1) 17 u = σ 17 u := fun u => ⟨kup_ii (by omega), kup_ii (by omega)⟩
    have hC : CLs ks (kup σ 7 0 9 ((e : Int) + 1)) (e + 1) := h.at (by omega)
    generalize hτ : kup σ 7 0 9 ((e : Int) + 1) = τ at f9 o9 u9 hC
    unfold fb_Cl_readPattern_45
    rw [hτ, hC.2.1, kg_pos (by omega)]
    by_cases he : ks.length ≤ e
    · rw [if_pos (by omega), if_pos he]
      exact ⟨τ, 0, rfl, f9, o9, fun u _ => u9 u, .inl ⟨rfl, .inr rfl⟩⟩
    · rw [if_neg (by omega), if_neg he]
      unfold fb_Cl_readPattern_60
      obtain ⟨υ, y, ey, hfy, hy⟩ := C_read (σ := τ) (t := t) (xa := ((k + 1 : Nat) : Int)) (xb := (e : Int)) (a := k + 1) (b := e) rfl rfl hC.2.2.2 hl hks (by omega) (by omega)
      rw [kg_pos hC.1, kbi_eq ey]
      have hCu : CLs ks υ (e + 1) := hC.to hfy.1
      have fu : frX σ υ := f9.tr (frX.of hfy.1)
      have ou : ∀ j, j ≠ 9 → υ 7 0 j = σ 7 0 j := fun j hj => by
        rw [hfy.1 7 (by decide) (by decide)]
        exact o9 j hj
      have uu : ∀ u, u ≠ t → υ 8 u = σ 8 u ∧ υ 17 u = σ 17 u := fun u hu => ⟨(hfy.2 u hu).1.trans (u9 u).1, (hfy.2 u hu).2.trans (u9 u).2⟩
      unfold fb_Cl_readPattern_70 fb_Cl_readPattern_77 fb_Cl_readPattern_73 fb_Cl_readPattern_78
      rcases hy with ⟨hp, rfl⟩ | ⟨P, hp, rfl, hP⟩
      · rw [hp, kg_pos (by decide), if_pos rfl, kg_pos (by decide)]
        exact ⟨υ, 0, rfl, fu, ou, uu, .inl ⟨rfl, .inr rfl⟩⟩
      · rw [hp, kg_pos (by decide), if_neg (by decide), kg_pos (by decide)]
        exact ⟨υ, 1, rfl, fu, ou, uu, .inr ⟨P, e + 1, c1, rfl, rfl, hCu, hP, by omega, by omega⟩⟩
  · rw [if_neg c1]
    exact ⟨σ, 0, rfl, frX.rfl, fun _ _ => rfl, fun _ _ => ⟨rfl, rfl⟩, .inl ⟨rfl, .inl c1⟩⟩
theorem C_next {P : Pt} {x : Tc} {t : Nat} (hx : wfX x) (hX : CX σ 0 x) (hP : PCt ks σ t P) : f_Cl_nextLineWith t σ = some (some ((nxA ks P x.1 x.2.1.toNat).elim (-1) fun n => (n : Int)), σ) := by
  obtain ⟨w1, w2, w3, w4, w5, w6, w7, w8⟩ := hx.sz
  obtain ⟨x1, x2, x3, x4⟩ := hX
  have hloop : ∀ (m n j : Nat), j + m = x.1.length + 1 → m < n → fl_Cl_nextLineWith_2 n (j : Int) t σ = some (some (((firstF (fun k => innA ks P (ln x.1 ((x.2.1.toNat + k) % x.1.length))) j m).map fun k => (x.2.1.toNat + k) % x.1.length).elim (-1) fun n => (n : Int)), σ) := by
    intro m
    induction m with
    | zero =>
      intro n j h1 h2
      obtain ⟨n, rfl⟩ : ∃ n', n = n' + 1 := ⟨n - 1, by omega⟩
      simp only [fl_Cl_nextLineWith_2, fb_Cl_nextLineWith_2, fb_Cl_nextLineWith_82]
      rw [x2, kg_pos (by omega), if_pos (by omega)]
      rfl
    | succ m ih =>
      intro n j h1 h2
      obtain ⟨n, rfl⟩ : ∃ n', n = n' + 1 := ⟨n - 1, by omega⟩
      have hLlt : (x.2.1.toNat + j) % x.1.length < x.1.length := Nat.mod_lt _ w4
      simp only [fl_Cl_nextLineWith_2, fb_Cl_nextLineWith_2]
      rw [x2, kg_pos (by omega), if_neg (by omega)]
      have e61 : fb_Cl_nextLineWith_13 (fl_Cl_nextLineWith_2 n) (j : Int) t σ = fb_Cl_nextLineWith_61 (fl_Cl_nextLineWith_2 n) (j : Int) (((x.2.1.toNat + j) % x.1.length : Nat) : Int) t σ := by
        unfold fb_Cl_nextLineWith_13 fb_Cl_nextLineWith_44 fb_Cl_nextLineWith_32
        rw [x2, x3, kg_pos (by omega)]
        by_cases h : (x.1.length : Int) ≤ x.2.1 + j
        · rw [if_pos h]
          have : (x.2.1.toNat + j) % x.1.length = x.2.1.toNat + j - x.1.length := by
            rw [Nat.mod_eq_sub_mod (by omega), Nat.mod_eq_of_lt (by omega)]
          rw [this]
          exact congrArg (fun z => fb_Cl_nextLineWith_61 (fl_Cl_nextLineWith_2 n) (j : Int) z t σ) (by omega)
        · rw [if_neg h, Nat.mod_eq_of_lt (by omega)]
          exact congrArg (fun z => fb_Cl_nextLineWith_61 (fl_Cl_nextLineWith_2 n) (j : Int) z t σ) (by omega)
      rw [e61]
      unfold fb_Cl_nextLineWith_61
      rw [kbi_eq (C_isIn hP x1 x2 hx.1.2.2.1 hLlt)]
      unfold fb_Cl_nextLineWith_71
      have h01 := b2_01 (innA ks P (ln x.1 ((x.2.1.toNat + j) % x.1.length)))
      rw [kg_pos (by omega), firstF]
      cases innA ks P (ln x.1 ((x.2.1.toNat + j) % x.1.length)) with
      | true =>
        rw [if_neg (show ¬ b2 true = 0 by decide), if_pos rfl]
        rfl
      | false =>
        rw [if_pos (show b2 false = 0 from rfl)]
        exact ih n (j + 1) (by omega) (by omega)
  have := hloop x.1.length 3000 1 (by omega) (by omega)
  exact this
/-- an address, the class's side -/
theorem C_addr {x : Tc} (hx : wfX x) (hX : CX σ 0 x) (h : CLs ks σ k) (hl : ks.length ≤ 30) (hks : ∀ c ∈ ks, 32 ≤ c ∧ c ≤ 126) (hk : k ≤ 31) : ∃ σ', f_Cl_readAddress σ = some (some ((adrA ks x.1 x.2.1.toNat k).elim (-1) fun a => (a.1 : Int)), σ') ∧ frX σ σ' ∧ (∀ j, j ≠ 9 → σ' 7 0 j = σ 7 0 j) ∧ ∀ a, adrA ks x.1 x.2.1.toNat k = some a → CLs ks σ' a.2 ∧ a.1 < x.1.length ∧ a.2 ≤ 32 := by
  obtain ⟨w1, w2, w3, w4, w5, w6, w7, w8⟩ := hx.sz
  have hX' := hX
  obtain ⟨x1, x2, x3, x4⟩ := hX'
  have r0 := gd_rng hks k
  have r1 := gd_rng hks (k + 1)
  unfold f_Cl_readAddress fb_Cl_readAddress_0
  rw [kbi_eq (C_here h hl (by omega))]
  unfold fb_Cl_readAddress_4 adrA
  rw [kg_pos (by omega)]
  by_cases c1 : ks.getD k 0 = 47
  · rw [if_pos c1, if_pos c1]
    unfold fb_Cl_readAddress_11
    obtain ⟨υ, y, ey, fy, oy, uy, hy⟩ := C_readPat (t := 0) h hl hks hk
    rw [kbi_eq ey]
    unfold fb_Cl_readAddress_19
    rcases hy with ⟨rfl, hn⟩ | ⟨P, j, -, hd, rfl, hC, hP, hj1, hj2⟩
    · have hn' : dlA ks k = none := hn.resolve_left (fun z => z c1)
      rw [hn', kg_pos (by decide), if_pos rfl]
      exact ⟨υ, rfl, fy, oy, fun a ha => nomatch ha⟩
    · rw [hd, kg_pos (by decide), if_neg (by decide)]
      unfold fb_Cl_readAddress_22
      have hXu : CX υ 0 x := by
        unfold CX CT
        rw [fy 2 (by decide) (by decide) (by decide) (by decide), fy 10 (by decide) (by decide) (by decide) (by decide), fy 11 (by decide) (by decide) (by decide) (by decide)]
        exact hX
      rw [kbi_eq (C_next hx hXu hP)]
      refine ⟨υ, ?_, fy, oy, fun a ha => ?_⟩
      · show some (some ((nxA ks P x.1 x.2.1.toNat).elim (-1) fun n => (n : Int)), υ) = some (some (((nxA ks P x.1 x.2.1.toNat).map fun n => (n, j)).elim (-1) fun a => (a.1 : Int)), υ)
        cases nxA ks P x.1 x.2.1.toNat <;> rfl
      · have ha' : ((nxA ks P x.1 x.2.1.toNat).map fun n => (n, j)) = some a := ha
        cases hn : nxA ks P x.1 x.2.1.toNat with
        | none =>
          rw [hn] at ha'
          exact nomatch ha'
        | some n =>
          rw [hn] at ha'
          cases ha'
          refine ⟨hC, ?_, by show j ≤ 32; omega⟩
          unfold nxA at hn
          cases hf : firstF (fun k => innA ks P (ln x.1 ((x.2.1.toNat + k) % x.1.length))) 1 x.1.length with
          | none =>
            rw [hf] at hn
            exact nomatch hn
          | some q =>
            rw [hf] at hn
            cases hn
            exact Nat.mod_lt _ w4
  rw [if_neg c1, if_neg c1]
  unfold fb_Cl_readAddress_35
  rw [h.2.2.1, kg_pos (by omega)]
  have f9 : frX σ (kup σ 7 0 9 ((k : Int) + 1)) := frX.rfl.kup (by decide)
  have o9 : ∀ j, j ≠ 9 → kup σ 7 0 9 ((k : Int) + 1) 7 0 j = σ 7 0 j := fun j hj => kup_j hj
  have hC : CLs ks (kup σ 7 0 9 ((k : Int) + 1)) (k + 1) := h.at (by omega)
  have e2 : kup σ 7 0 9 ((k : Int) + 1) 2 0 2 = x.1.length := x2
  have e3 : kup σ 7 0 9 ((k : Int) + 1) 2 0 3 = x.2.1 := x3
  generalize kup σ 7 0 9 ((k : Int) + 1) = τ at f9 o9 hC e2 e3
  by_cases c2 : ks.getD k 0 = 46
  · rw [if_pos c2, if_pos c2]
    refine ⟨τ, ?_, f9, o9, fun a ha => by cases ha; exact ⟨hC, w2, by dsimp only; omega⟩⟩
    unfold fb_Cl_readAddress_51
    rw [e3, ← w8]
    rfl
  rw [if_neg c2, if_neg c2]
  unfold fb_Cl_readAddress_59
  rw [kg_pos (by omega)]
  by_cases c3 : ks.getD k 0 = 36
  · rw [if_pos c3, if_pos c3]
    refine ⟨τ, ?_, f9, o9, fun a ha => by cases ha; exact ⟨hC, by dsimp only; omega, by dsimp only; omega⟩⟩
    unfold fb_Cl_readAddress_65
    rw [e2]
    show some (some ((x.1.length : Int) - 1), τ) = some (some ((x.1.length - 1 : Nat) : Int), τ)
    rw [show ((x.1.length - 1 : Nat) : Int) = (x.1.length : Int) - 1 by omega]
  rw [if_neg c3, if_neg c3]
  unfold fb_Cl_readAddress_75
  rw [kbi_eq (C_isDigit r0)]
  unfold fb_Cl_readAddress_79
  cases hd0 : isDb (ks.getD k 0) with
  | false =>
    rw [kg_pos (by decide), if_pos (show b2 false = 0 from rfl)]
    exact ⟨τ, rfl, f9, o9, fun a ha => nomatch ha⟩
  | true =>
    have d0 : 48 ≤ ks.getD k 0 ∧ ks.getD k 0 ≤ 57 := of_decide_eq_true hd0
    rw [kg_pos (by decide), if_neg (show ¬ b2 true = 0 by decide), if_pos rfl]
    unfold fb_Cl_readAddress_84
    rw [kbi_eq (C_here hC hl (by omega))]
    unfold fb_Cl_readAddress_93
    rw [kbi_eq (C_isDigit r1)]
    unfold fb_Cl_readAddress_96
    -- the end of a number
    have hnum : ∀ (v : Int) (j : Nat) (υ : kS), 0 ≤ v → v ≤ 1000 → j ≤ 32 → frX σ υ → (∀ j, j ≠ 9 → υ 7 0 j = σ 7 0 j) → CLs ks υ j → υ 2 0 2 = x.1.length → ∃ σ', fb_Cl_readAddress_122 (ks.getD k 0) v υ = some (some ((if 1 ≤ v ∧ v ≤ x.1.length then some ((v - 1).toNat, j) else none : Option (Nat × Nat)).elim (-1) fun a => (a.1 : Int)), σ') ∧ frX σ σ' ∧ (∀ j, j ≠ 9 → σ' 7 0 j = σ 7 0 j) ∧ ∀ a, (if 1 ≤ v ∧ v ≤ x.1.length then some ((v - 1).toNat, j) else none : Option (Nat × Nat)) = some a → CLs ks σ' a.2 ∧ a.1 < x.1.length ∧ a.2 ≤ 32 := by
      intro v j υ hv hv2 hj fu ou hCu h2
      refine ⟨υ, ?_, fu, ou, fun a ha => ?_⟩
      · unfold fb_Cl_readAddress_122 fb_Cl_readAddress_139 fb_Cl_readAddress_133 fb_Cl_readAddress_140
        rw [h2, kg_pos (by omega)]
        by_cases z : 1 ≤ v ∧ v ≤ x.1.length
        · rw [if_pos z, if_neg (by omega)]
          show some (some (v - 1), υ) = some (some (((v - 1).toNat : Nat) : Int), υ)
          rw [show (((v - 1).toNat : Nat) : Int) = v - 1 by omega]
        · rw [if_neg z]
          by_cases z2 : (x.1.length : Int) < v
          · rw [if_pos z2]
            rfl
          · rw [if_neg z2, show v = 0 by omega]
            rfl
      · by_cases z : 1 ≤ v ∧ v ≤ x.1.length
        · rw [if_pos z] at ha
          cases ha
          exact ⟨hCu, by dsimp only; omega, hj⟩
        · rw [if_neg z] at ha
          exact nomatch ha
    cases hd1 : isDb (ks.getD (k + 1) 0) with
    | false =>
      rw [kg_pos (by decide), if_pos (show b2 false = 0 from rfl)]
      simp only [Bool.false_eq_true, if_false]
      exact hnum (ks.getD k 0 - 48) (k + 1) τ (by omega) (by omega) (by omega) f9 o9 hC e2
    | true =>
      have d1 : 48 ≤ ks.getD (k + 1) 0 ∧ ks.getD (k + 1) 0 ≤ 57 := of_decide_eq_true hd1
      rw [kg_pos (by decide), if_neg (show ¬ b2 true = 0 by decide), if_pos rfl]
      unfold fb_Cl_readAddress_99
      rw [kbi_eq (C_here hC hl (by omega))]
      unfold fb_Cl_readAddress_107
      rw [hC.2.2.1, show (ks.getD k 0 - 48) * 10 + ks.getD (k + 1) 0 - 48 = 10 * (ks.getD k 0 - 48) + ks.getD (k + 1) 0 - 48 by omega]
      have hkl : k + 1 < ks.length := by
        by_cases z : k + 1 < ks.length
        · exact z
        · rw [gd_ge ks 0 (by omega)] at d1
          omega
      exact hnum _ (k + 2) (kup τ 7 0 9 (((k + 1 : Nat) : Int) + 1)) (by omega) (by omega) (by omega) (f9.kup (by decide)) (fun j hj => by rw [kup_j hj]; exact o9 j hj) (hC.at (by omega)) (by rw [kup_k (by decide)]; exact e2)
/-- the reference reads at place k; bad: 0 -/
def RLs (ks : List Int) (σ : kS) (k : Nat) : Prop := TyR ks σ ∧ σ 9 0 22 = k ∧ σ 9 0 23 = 0
/-- the reference's own reading state may change: 22 to 33 but 30 and below the patterns -/
def frZ (σ σ' : kS) : Prop := (∀ a, a ≠ 9 → (a < 28 ∨ 31 < a) → σ' a = σ a) ∧ ∀ c, c < 22 ∨ 30 < c → σ' 9 0 c = σ 9 0 c
theorem frZ.rfl {σ : kS} : frZ σ σ := ⟨fun _ _ _ => Eq.refl _, fun _ _ => Eq.refl _⟩
theorem frZ.tr {σ σ' σ'' : kS} (h : frZ σ σ') (h2 : frZ σ' σ'') : frZ σ σ'' := ⟨fun a h3 h4 => (h2.1 a h3 h4).trans (h.1 a h3 h4), fun c hc => (h2.2 c hc).trans (h.2 c hc)⟩
theorem frZ.kup {σ σ' : kS} {j : Nat} {x : Int} (h : frZ σ σ') (hk : 22 ≤ j ∧ j ≤ 30) : frZ σ (kup σ' 9 0 j x) := h.tr ⟨fun a h1 h2 => kup_kk h1, fun c hc => kup_jj (by omega)⟩
theorem frQ.z {σ σ' : kS} (h : frQ σ σ') : frZ σ σ' := ⟨fun a h1 h2 => h.1 a h1 (by omega), fun c hc => h.2 c (by omega)⟩
theorem frZ.frF {σ σ' : kS} (h : frZ σ σ') : frF σ σ' := ⟨fun a h1 h2 => h.1 a h1 (by omega), fun a h1 => h.1 a (by omega) (by omega), fun c hc => h.2 c (by omega), fun j _ => congrFun (congrFun (h.1 20 (by decide) (by decide)) 0) j, fun j _ => congrFun (congrFun (h.1 21 (by decide) (by decide)) 0) j, fun k h1 h2 j _ => congrFun (congrFun (h.1 k (by omega) (by omega)) 0) j⟩
theorem RE2.frZ {g : Int} {B : Option Tc} {A : kEd} {σ σ' : kS} (c : RE2 g B A σ) (f : frZ σ σ') : RE2 g B A σ' := ⟨c.1.cg3 (fun c h1 _ _ _ => f.2 c (by omega)) (fun k h1 h2 => f.1 k (by omega) (by omega)), fun z hz => (c.2 z hz).fr (fun j _ _ => congrFun (congrFun (f.1 20 (by decide) (by decide)) 0) j) (fun j _ _ => congrFun (congrFun (f.1 21 (by decide) (by decide)) 0) j) (fun k h1 h2 => congrFun (congrFun (f.1 k (by omega) (by omega)) 0) 2)⟩
theorem RX.frZ {σ σ' : kS} {b : Nat} {x : Tc} (h : RX σ b x) (f : frZ σ σ') : RX σ' b x := h.fr (fun j _ _ => congrFun (congrFun (f.1 20 (by decide) (by decide)) 0) j) (fun j _ _ => congrFun (congrFun (f.1 21 (by decide) (by decide)) 0) j) (fun k h1 h2 => congrFun (congrFun (f.1 k (by omega) (by omega)) 0) b)
theorem TyR.frZ {ks : List Int} {σ σ' : kS} (h : TyR ks σ) (f : frZ σ σ') : TyR ks σ' := by
  obtain ⟨h1, h2, h3, h4⟩ := h
  exact ⟨(f.2 20 (by decide)).trans h1, by rw [f.1 27 (by decide) (by decide)]; exact h2, h3, h4⟩
theorem R_see (h : RLs ks σ k) (hk : k ≤ 100) : f_Rm_seen (σ 9 0 22) σ = some (some (ks.getD k 0), σ) := R_seen h.1.1 h.1.2.1 h.1.2.2.1 h.2.1 hk
theorem RLs.at {j : Nat} {x : Int} (h : RLs ks σ k) (hx : x = j) : RLs ks (kup σ 9 0 22 x) j := ⟨h.1.frZ (frZ.rfl.kup (by decide)), by rw [kup_self, hx], h.2.2⟩
theorem R_take {v : Int} (h : RLs ks σ k) (hk : k ≤ 100) (hv : 0 ≤ v ∧ v ≤ 126) : ∃ σ', f_Rm_take v σ = some (some (if ks.getD k 0 = v then 1 else 0), σ') ∧ frZ σ σ' ∧ (∀ j, j ≠ 22 → σ' 9 0 j = σ 9 0 j) ∧ (∀ a, a ≠ 9 → σ' a = σ a) ∧ RLs ks σ' (if ks.getD k 0 = v then k + 1 else k) := by
  have r0 := gd_rng h.1.2.2.2 k
  unfold f_Rm_take fb_Rm_take_0
  rw [kbi_eq (R_see h hk)]
  unfold fb_Rm_take_8
  rw [kg_pos (by omega)]
  by_cases c : ks.getD k 0 = v
  · rw [if_pos c, if_pos c, if_pos c]
    refine ⟨kup σ 9 0 22 ((k : Int) + 1), ?_, frZ.rfl.kup (by decide), fun j hj => kup_j hj, fun a ha => kup_kk ha, h.at (by omega)⟩
    unfold fb_Rm_take_12 fb_Rm_take_17 fb_Rm_take_23 fb_Rm_take_36
    rw [kg_pos (by decide), if_neg (by decide), kg_pos (by decide), h.2.1]
  · rw [if_neg c, if_neg c, if_neg c]
    refine ⟨kup σ 9 0 22 (k : Int), ?_, frZ.rfl.kup (by decide), fun j hj => kup_j hj, fun a ha => kup_kk ha, h.at rfl⟩
    unfold fb_Rm_take_16 fb_Rm_take_17 fb_Rm_take_32 fb_Rm_take_36
    rw [kg_pos (by decide), if_pos rfl, kg_pos (by decide), h.2.1]
theorem R_digit (h : RLs ks σ k) (hk : k ≤ 100) : f_Rm_digit σ = some (some (b2 (isDb (ks.getD k 0))), σ) := by
  have r0 := gd_rng h.1.2.2.2 k
  unfold f_Rm_digit fb_Rm_digit_0
  rw [kbi_eq (R_see h hk)]
  unfold fb_Rm_digit_8 fb_Rm_digit_30 fb_Rm_digit_31 isDb
  rw [kg_pos (by omega)]
  by_cases z : ks.getD k 0 < 48
  · rw [if_pos z, decide_eq_false (by omega), kg_pos (by decide)]
    rfl
  · rw [if_neg z]
    unfold fb_Rm_digit_13
    rw [kbi_eq (R_see h hk)]
    unfold fb_Rm_digit_21 fb_Rm_digit_30 fb_Rm_digit_26 fb_Rm_digit_31
    rw [kg_pos (by omega), kg_pos (by decide), kg_pos (by decide)]
    by_cases z2 : 57 < ks.getD k 0
    · rw [if_pos z2, decide_eq_false (by omega)]
      rfl
    · rw [if_neg z2, decide_eq_true (by omega)]
      rfl
theorem R_slashL {x1 : Int} : ∀ (m f j : Nat) (σ : kS), RLs ks σ j → ks.length ≤ j + m → j ≤ 60 → m < f → ∃ τ, fl_Rm_delimited_5 f x1 σ = fb_Rm_delimited_42 x1 τ ∧ frZ σ τ ∧ (∀ i, i ≠ 22 → τ 9 0 i = σ 9 0 i) ∧ RLs ks τ (findI ks 47 ks.length (m + 1) j) := by
  intro m
  induction m with
  | zero =>
    intro f j σ h g1 g2 g3
    obtain ⟨f, rfl⟩ : ∃ f', f = f' + 1 := ⟨f - 1, by omega⟩
    have hl := h.1.2.2.1
    rw [findI, if_pos (by omega)]
    refine ⟨σ, ?_, frZ.rfl, fun _ _ => rfl, h⟩
    simp only [fl_Rm_delimited_5, fb_Rm_delimited_5]
    rw [h.2.1, h.1.1, kg_pos (by omega), if_pos (by omega)]
  | succ m ih =>
    intro f j σ h g1 g2 g3
    obtain ⟨f, rfl⟩ : ∃ f', f = f' + 1 := ⟨f - 1, by omega⟩
    have hl := h.1.2.2.1
    have hr := gd_rng h.1.2.2.2 j
    simp only [fl_Rm_delimited_5, fb_Rm_delimited_5]
    rw [findI]
    by_cases hk : ks.length ≤ j
    · rw [if_pos hk]
      refine ⟨σ, ?_, frZ.rfl, fun _ _ => rfl, h⟩
      rw [h.2.1, h.1.1, kg_pos (by omega), if_pos (by omega)]
    · rw [if_neg hk]
      have e16 : kg ((-2147483648 ≤ σ 9 0 22 ∧ σ 9 0 22 < 2147483648) ∧ -2147483648 ≤ σ 9 0 20 ∧ σ 9 0 20 < 2147483648) (if σ 9 0 20 ≤ σ 9 0 22 then fb_Rm_delimited_42 x1 σ else fb_Rm_delimited_16 (fl_Rm_delimited_5 f) x1 σ) = fb_Rm_delimited_16 (fl_Rm_delimited_5 f) x1 σ := by
        rw [h.2.1, h.1.1, kg_pos (by omega), if_neg (by omega)]
      rw [e16]
      unfold fb_Rm_delimited_16
      rw [kbi_eq (R_see h (by omega))]
      unfold fb_Rm_delimited_24 fb_Rm_delimited_29
      rw [kg_pos (by omega)]
      by_cases h5 : ks.getD j 0 = 47
      · rw [if_pos h5, if_pos h5]
        exact ⟨σ, rfl, frZ.rfl, fun _ _ => rfl, h⟩
      · rw [if_neg h5, if_neg h5]
        have h9 : σ 9 0 22 + 1 = ((j + 1 : Nat) : Int) := by
          rw [h.2.1]
          omega
        obtain ⟨τ, e, z1, z2, z3⟩ := ih f (j + 1) (kup σ 9 0 22 (σ 9 0 22 + 1)) (h.at h9) (by omega) (by omega) (by omega)
        exact ⟨τ, e, (frZ.rfl.kup (by decide)).tr z1, fun i hi => (z2 i hi).trans (kup_j hi), z3⟩
/-- a pattern between slashes, the first of them behind us (at k) -/
theorem R_delim (h : RLs ks σ (k + 1)) (hk : k ≤ 31) : ∃ σ', f_Rm_delimited σ = some (none, σ') ∧ frZ σ σ' ∧ ((dlA ks k = none ∧ σ' 9 0 23 = 1 ∧ ∃ j : Nat, σ' 9 0 22 = j ∧ j ≤ 100 ∧ k < j) ∨ ∃ P j, dlA ks k = some (P, j) ∧ RLs ks σ' j ∧ PRt ks σ' P ∧ k < j ∧ j ≤ ks.length) := by
  have hl := h.1.2.2.1
  unfold f_Rm_delimited fb_Rm_delimited_0
  obtain ⟨τ, e, z1, z2, z3⟩ := R_slashL (x1 := σ 9 0 22) 39 3000 (k + 1) σ h (by omega) (by omega) (by omega)
  rw [e, h.2.1]
  have z3' : RLs ks τ (findI ks 47 ks.length 40 (k + 1)) := z3
  have hle := findI_le ks 47 ks.length 40 (k + 1)
  unfold dlA
  clear z3
  generalize findI ks 47 ks.length 40 (k + 1) = e at hle z3'
  unfold fb_Rm_delimited_42
  rw [z3'.2.2, kg_pos (by decide), if_pos rfl]
  unfold fb_Rm_delimited_50
  rw [z3'.2.1, z3'.1.1, kg_pos (by omega)]
  by_cases he : ks.length ≤ e
  · rw [if_pos (by omega), if_pos he]
    refine ⟨kup (kup τ 9 0 23 1) 9 0 22 ((e : Int) + 1), ?_, (z1.kup (by decide)).kup (by decide), .inl ⟨rfl, rfl, e + 1, by rw [kup_self]; omega, by omega, by omega⟩⟩
    unfold fb_Rm_delimited_73 fb_Rm_delimited_78
    rw [kg_pos (by decide)]
    have : kup τ 9 0 23 1 9 0 22 = e := z3'.2.1
    rw [this]
  · rw [if_neg (by omega), if_neg he]
    unfold fb_Rm_delimited_61
    obtain ⟨υ, y, ey, fy, hy⟩ := R_pattern (xa := ((k + 1 : Nat) : Int)) (xb := τ 9 0 22) (a := k + 1) (b := e) rfl z3'.2.1 z3'.1 (by omega) (by omega)
    rw [kbi_eq ey]
    have u22 : υ 9 0 22 = e := (fy.2 22 (by decide)).trans z3'.2.1
    have u22' : ∀ v, kup υ 9 0 23 v 9 0 22 = e := fun v => u22
    unfold fb_Rm_delimited_70 fb_Rm_delimited_73 fb_Rm_delimited_77 fb_Rm_delimited_78
    rcases hy with ⟨hp, rfl⟩ | ⟨P, hp, rfl, hP⟩
    · rw [hp, kg_pos (by decide), if_pos rfl, kg_pos (by decide), u22']
      exact ⟨_, rfl, ((z1.tr fy.z).kup (by decide)).kup (by decide), .inl ⟨rfl, rfl, e + 1, by rw [kup_self]; omega, by omega, by omega⟩⟩
    · rw [hp, kg_pos (by decide), if_neg (by decide), kg_pos (by decide), u22']
      have ff : frZ σ (kup (kup υ 9 0 23 0) 9 0 22 ((e : Int) + 1)) := ((z1.tr fy.z).kup (by decide)).kup (by decide)
      refine ⟨_, rfl, ff, .inr ⟨P, e + 1, rfl, ⟨h.1.frZ ff, by rw [kup_self]; omega, rfl⟩, ?_, by omega, by omega⟩⟩
      obtain ⟨q1, q2, q3, q4, q5, q6⟩ := hP
      exact ⟨h.1.frZ ff, q2, q3, q4, q5, q6⟩
theorem R_below {P : Pt} {x : Tc} (hx : wfX x) (hX : RX σ 0 x) (hP : PRt ks σ P) : ∃ σ', f_Rm_below x.2.1 σ = some (some ((nxA ks P x.1 x.2.1.toNat).elim 0 fun n => (n : Int) + 1), σ') ∧ frZ σ σ' ∧ (∀ n, nxA ks P x.1 x.2.1.toNat = some n → σ' = σ) ∧ (nxA ks P x.1 x.2.1.toNat = none → σ' 9 0 23 = 1 ∧ σ' 9 0 22 = σ 9 0 22) := by
  obtain ⟨w1, w2, w3, w4, w5, w6, w7, w8⟩ := hx.sz
  obtain ⟨x1, x2, x3, x4⟩ := hX
  have hne : ¬ Int32.ofInt (x.1.length : Int) = 0 := by
    intro h
    have := congrArg Int32.toInt h
    rw [k_toInt (by omega)] at this
    have h0 : (0 : Int32).toInt = 0 := by decide
    rw [h0] at this
    omega
  have hloop : ∀ (m n j : Nat), j + m = x.1.length + 1 → m < n → ∃ σ', fl_Rm_below_2 n x.2.1 (j : Int) σ = some (some (((firstF (fun k => innA ks P (ln x.1 ((x.2.1.toNat + k) % x.1.length))) j m).map fun k => (x.2.1.toNat + k) % x.1.length).elim 0 fun n => (n : Int) + 1), σ') ∧ frZ σ σ' ∧ (∀ n, ((firstF (fun k => innA ks P (ln x.1 ((x.2.1.toNat + k) % x.1.length))) j m).map fun k => (x.2.1.toNat + k) % x.1.length) = some n → σ' = σ) ∧ (((firstF (fun k => innA ks P (ln x.1 ((x.2.1.toNat + k) % x.1.length))) j m).map fun k => (x.2.1.toNat + k) % x.1.length) = none → σ' 9 0 23 = 1 ∧ σ' 9 0 22 = σ 9 0 22) := by
    intro m
    induction m with
    | zero =>
      intro n j h1 h2
      obtain ⟨n, rfl⟩ : ∃ n', n = n' + 1 := ⟨n - 1, by omega⟩
      refine ⟨kup σ 9 0 23 1, ?_, frZ.rfl.kup (by decide), fun n hn => (nomatch hn), fun _ => ⟨rfl, rfl⟩⟩
      simp only [fl_Rm_below_2, fb_Rm_below_2, fb_Rm_below_41]
      rw [x2, kg_pos (by omega), if_pos (by omega)]
      rfl
    | succ m ih =>
      intro n j h1 h2
      obtain ⟨n, rfl⟩ : ∃ n', n = n' + 1 := ⟨n - 1, by omega⟩
      have hLlt : (x.2.1.toNat + j) % x.1.length < x.1.length := Nat.mod_lt _ w4
      have hmod : kmod (x.2.1 + (j : Int)) (x.1.length : Int) = (((x.2.1.toNat + j) % x.1.length : Nat) : Int) := by
        rw [k_mod (by omega) (by omega), Int.natCast_emod, Int.natCast_add, w8]
      simp only [fl_Rm_below_2, fb_Rm_below_2]
      rw [x2, kg_pos (by omega), if_neg (by omega)]
      unfold fb_Rm_below_12
      rw [x2, kg_pos hne, hmod, kbi_eq (R_some hP x1 hx.1.2.2.1 rfl hLlt)]
      unfold fb_Rm_below_28
      have h01 := b2_01 (innA ks P (ln x.1 ((x.2.1.toNat + j) % x.1.length)))
      rw [kg_pos (by omega), firstF]
      cases innA ks P (ln x.1 ((x.2.1.toNat + j) % x.1.length)) with
      | true =>
        rw [if_neg (show ¬ b2 true = 0 by decide), if_pos rfl]
        exact ⟨σ, rfl, frZ.rfl, fun _ _ => rfl, fun h => (nomatch h)⟩
      | false =>
        rw [if_pos (show b2 false = 0 from rfl)]
        exact ih n (j + 1) (by omega) (by omega)
  exact hloop x.1.length 3000 1 (by omega) (by omega)
/-- an address, the reference's side -/
theorem R_addr {x : Tc} {xr : Int} (hx : wfX x) (hX : RX σ 0 x) (hxr : xr = x.2.1) (h : RLs ks σ k) (hk : k ≤ 31) : ∃ σ' v, f_Rm_address xr σ = some (some v, σ') ∧ frZ σ σ' ∧ (0 ≤ v ∧ v ≤ 99) ∧ ((σ' 9 0 23 = 0 ∨ σ' 9 0 23 = 1) ∧ ∃ j : Nat, σ' 9 0 22 = j ∧ j ≤ 100) ∧ ((adrA ks x.1 x.2.1.toNat k = none ∧ (σ' 9 0 23 = 1 ∨ v < 1 ∨ (x.1.length : Int) < v)) ∨ ∃ a, adrA ks x.1 x.2.1.toNat k = some a ∧ v = (a.1 : Int) + 1 ∧ RLs ks σ' a.2 ∧ a.1 < x.1.length ∧ a.2 ≤ 32) := by
  obtain ⟨w1, w2, w3, w4, w5, w6, w7, w8⟩ := hx.sz
  subst hxr
  have hks := h.1.2.2.2
  have hl := h.1.2.2.1
  have r0 := gd_rng hks k
  have r1 := gd_rng hks (k + 1)
  unfold f_Rm_address fb_Rm_address_0
  rw [kbi_eq (R_digit h (by omega))]
  unfold fb_Rm_address_6 adrA
  cases hd0 : isDb (ks.getD k 0) with
  | true =>
    have d0 : 48 ≤ ks.getD k 0 ∧ ks.getD k 0 ≤ 57 := of_decide_eq_true hd0
    have hkl : k < ks.length := by
      by_cases z : k < ks.length
      · exact z
      · rw [gd_ge ks 0 (by omega)] at d0
        omega
    rw [kg_pos (by decide), if_neg (show ¬ b2 true = 0 by decide), if_neg (by omega), if_neg (by omega), if_neg (by omega), if_pos rfl]
    unfold fb_Rm_address_9
    -- the number
    have h1 : RLs ks (kup (kup σ 9 0 23 0) 9 0 22 ((k : Int) + 1)) (k + 1) := by
      refine ⟨h.1.frZ ((frZ.rfl.kup (by decide)).kup (by decide)), ?_, rfl⟩
      rw [kup_self]
      omega
    have f1 : frZ σ (kup (kup σ 9 0 23 0) 9 0 22 ((k : Int) + 1)) := (frZ.rfl.kup (by decide)).kup (by decide)
    have hnum : ∃ τ, f_Rm_number σ = some (some (if isDb (ks.getD (k + 1) 0) then 10 * (ks.getD k 0 - 48) + ks.getD (k + 1) 0 - 48 else ks.getD k 0 - 48), τ) ∧ frZ σ τ ∧ RLs ks τ (if isDb (ks.getD (k + 1) 0) then k + 2 else k + 1) := by
      unfold f_Rm_number fb_Rm_number_0
      rw [h.2.2, kg_pos (by decide), if_pos rfl]
      unfold fb_Rm_number_10
      rw [kbi_eq (R_digit h (by omega)), hd0]
      unfold fb_Rm_number_14 fb_Rm_number_21 fb_Rm_number_22
      rw [kg_pos (by decide), if_neg (show ¬ b2 true = 0 by decide), kg_pos (by decide)]
      have h0 : RLs ks (kup σ 9 0 23 0) k := ⟨h.1.frZ (frZ.rfl.kup (by decide)), h.2.1, rfl⟩
      have step0 : ∀ n, fl_Rm_number_27 (n + 1) 0 0 (kup σ 9 0 23 0) = fl_Rm_number_27 n (ks.getD k 0 - 48) 1 (kup (kup σ 9 0 23 0) 9 0 22 ((k : Int) + 1)) := by
        intro n
        simp only [fl_Rm_number_27, fb_Rm_number_27]
        rw [kg_pos (by decide), if_neg (by decide)]
        unfold fb_Rm_number_32
        rw [kbi_eq (R_digit h0 (by omega)), hd0]
        unfold fb_Rm_number_36
        rw [kg_pos (by decide), if_neg (show ¬ b2 true = 0 by decide)]
        unfold fb_Rm_number_39
        rw [kbi_eq (R_see h0 (by omega))]
        unfold fb_Rm_number_51
        rw [h0.2.1, show 10 * 0 + ks.getD k 0 - 48 = ks.getD k 0 - 48 by omega]
        rfl
      have step1 : ∀ n, ∃ τ, fl_Rm_number_27 (n + 2) (ks.getD k 0 - 48) 1 (kup (kup σ 9 0 23 0) 9 0 22 ((k : Int) + 1)) = some (some (if isDb (ks.getD (k + 1) 0) then 10 * (ks.getD k 0 - 48) + ks.getD (k + 1) 0 - 48 else ks.getD k 0 - 48), τ) ∧ frZ σ τ ∧ RLs ks τ (if isDb (ks.getD (k + 1) 0) then k + 2 else k + 1) := by
        intro n
        generalize kup (kup σ 9 0 23 0) 9 0 22 ((k : Int) + 1) = τ at h1 f1
        have e : fl_Rm_number_27 (n + 2) (ks.getD k 0 - 48) 1 τ = fb_Rm_number_36 (fl_Rm_number_27 (n + 1)) (ks.getD k 0 - 48) 1 (b2 (isDb (ks.getD (k + 1) 0))) τ := by
          simp only [fl_Rm_number_27, fb_Rm_number_27]
          rw [kg_pos (by decide), if_neg (by decide)]
          unfold fb_Rm_number_32
          rw [kbi_eq (R_digit h1 (by omega))]
        rw [e]
        unfold fb_Rm_number_36
        cases hd1 : isDb (ks.getD (k + 1) 0) with
        | false =>
          rw [kg_pos (by decide), if_pos (show b2 false = 0 from rfl)]
          simp only [Bool.false_eq_true, if_false]
          exact ⟨τ, rfl, f1, h1⟩
        | true =>
          rw [kg_pos (by decide), if_neg (show ¬ b2 true = 0 by decide), if_pos rfl, if_pos rfl]
          unfold fb_Rm_number_39
          rw [kbi_eq (R_see h1 (by omega))]
          unfold fb_Rm_number_51
          rw [h1.2.1]
          refine ⟨kup τ 9 0 22 (((k + 1 : Nat) : Int) + 1), ?_, f1.kup (by decide), h1.at (by omega)⟩
          simp only [fl_Rm_number_27, fb_Rm_number_27, fb_Rm_number_72]
          rw [kg_pos (by decide), if_pos (by decide)]
      obtain ⟨τ, e, z1, z2⟩ := step1 2997
      refine ⟨τ, ?_, z1, z2⟩
      rw [← e]
      exact step0 2999
    obtain ⟨τ, e, z1, z2⟩ := hnum
    rw [kbi_eq e]
    cases hd1 : isDb (ks.getD (k + 1) 0) with
    | true =>
      have d1 : 48 ≤ ks.getD (k + 1) 0 ∧ ks.getD (k + 1) 0 ≤ 57 := of_decide_eq_true hd1
      rw [hd1, if_pos rfl] at z2
      rw [if_pos rfl, if_pos rfl]
      refine ⟨τ, _, rfl, z1, ⟨by omega, by omega⟩, ⟨.inl z2.2.2, k + 2, z2.2.1, by omega⟩, ?_⟩
      by_cases z : 1 ≤ 10 * (ks.getD k 0 - 48) + ks.getD (k + 1) 0 - 48 ∧ 10 * (ks.getD k 0 - 48) + ks.getD (k + 1) 0 - 48 ≤ x.1.length
      · rw [if_pos z]
        exact .inr ⟨_, rfl, by dsimp only; omega, z2, by dsimp only; omega, by dsimp only; omega⟩
      · rw [if_neg z]
        exact .inl ⟨rfl, .inr (by omega)⟩
    | false =>
      rw [hd1] at z2
      simp only [Bool.false_eq_true, if_false] at z2 ⊢
      refine ⟨τ, _, rfl, z1, ⟨by omega, by omega⟩, ⟨.inl z2.2.2, k + 1, z2.2.1, by omega⟩, ?_⟩
      by_cases z : 1 ≤ ks.getD k 0 - 48 ∧ ks.getD k 0 - 48 ≤ x.1.length
      · rw [if_pos z]
        exact .inr ⟨_, rfl, by dsimp only; omega, z2, by dsimp only; omega, by dsimp only; omega⟩
      · rw [if_neg z]
        exact .inl ⟨rfl, .inr (by omega)⟩
  | false =>
    rw [kg_pos (by decide), if_pos (show b2 false = 0 from rfl)]
    unfold fb_Rm_address_17
    obtain ⟨τ, e, z1, z2, z3, z4⟩ := R_take (v := 46) h (by omega) (by decide)
    rw [kbi_eq e]
    unfold fb_Rm_address_23
    by_cases c2 : ks.getD k 0 = 46
    · rw [if_pos c2] at z4
      rw [if_pos c2, kg_pos (by decide), if_neg (by decide), if_neg (by omega), if_pos c2]
      exact ⟨τ, x.2.1 + 1, rfl, z1, ⟨by omega, by omega⟩, ⟨.inl z4.2.2, k + 1, z4.2.1, by omega⟩, .inr ⟨_, rfl, by dsimp only; omega, z4, w2, by dsimp only; omega⟩⟩
    · rw [if_neg c2] at z4
      rw [if_neg c2, kg_pos (by decide), if_pos rfl]
      unfold fb_Rm_address_33
      obtain ⟨τ2, e2, y1, y2, y3, y4⟩ := R_take (v := 36) z4 (by omega) (by decide)
      rw [kbi_eq e2]
      unfold fb_Rm_address_39
      by_cases c3 : ks.getD k 0 = 36
      · rw [if_pos c3] at y4
        have hXt : RX τ2 0 x := (hX.frZ z1).frZ y1
        have h22 : τ2 22 0 0 = x.1.length := hXt.2.1
        rw [if_pos c3, kg_pos (by decide), if_neg (by decide), if_neg (by omega), if_neg (by omega), if_pos c3]
        unfold fb_Rm_address_42
        rw [h22]
        exact ⟨τ2, x.1.length, rfl, z1.tr y1, ⟨by omega, by omega⟩, ⟨.inl y4.2.2, k + 1, y4.2.1, by omega⟩, .inr ⟨_, rfl, by dsimp only; omega, y4, by dsimp only; omega, by dsimp only; omega⟩⟩
      · rw [if_neg c3] at y4
        rw [if_neg c3, kg_pos (by decide), if_pos rfl]
        unfold fb_Rm_address_52
        obtain ⟨τ3, e3, v1, v2, v3, v4⟩ := R_take (v := 47) y4 (by omega) (by decide)
        rw [kbi_eq e3]
        unfold fb_Rm_address_58
        have f3 : frZ σ τ3 := (z1.tr y1).tr v1
        by_cases c1 : ks.getD k 0 = 47
        · rw [if_pos c1] at v4
          rw [if_pos c1, kg_pos (by decide), if_neg (by decide), if_pos c1]
          unfold fb_Rm_address_61
          obtain ⟨τ4, e4, u1, u2⟩ := R_delim v4 hk
          rw [kbu_eq e4]
          unfold fb_Rm_address_65
          rcases u2 with ⟨hn, hb, j, hj, hj2, -⟩ | ⟨P, j, hd, hR, hP, hj1, hj2⟩
          · rw [hn, hb, kg_pos (by decide), if_neg (by decide)]
            exact ⟨τ4, 0, rfl, f3.tr u1, ⟨by decide, by decide⟩, ⟨.inr hb, j, hj, hj2⟩, .inl ⟨rfl, .inl hb⟩⟩
          · rw [hd, hR.2.2, kg_pos (by decide), if_pos rfl]
            unfold fb_Rm_address_76
            obtain ⟨τ5, e5, q1, q2, q3⟩ := R_below hx (hX.frZ (f3.tr u1)) hP
            rw [kbi_eq e5]
            show ∃ σ' v, fb_Rm_address_81 x.2.1 0 _ τ5 = some (some v, σ') ∧ frZ σ σ' ∧ (0 ≤ v ∧ v ≤ 99) ∧ ((σ' 9 0 23 = 0 ∨ σ' 9 0 23 = 1) ∧ ∃ j : Nat, σ' 9 0 22 = j ∧ j ≤ 100) ∧ ((((nxA ks P x.1 x.2.1.toNat).map fun n => (n, j)) = none ∧ (σ' 9 0 23 = 1 ∨ v < 1 ∨ (x.1.length : Int) < v)) ∨ ∃ a, ((nxA ks P x.1 x.2.1.toNat).map fun n => (n, j)) = some a ∧ v = (a.1 : Int) + 1 ∧ RLs ks σ' a.2 ∧ a.1 < x.1.length ∧ a.2 ≤ 32)
            cases hn : nxA ks P x.1 x.2.1.toNat with
            | none =>
              obtain ⟨q4, q5⟩ := q3 hn
              exact ⟨τ5, 0, rfl, (f3.tr u1).tr q1, ⟨by decide, by decide⟩, ⟨.inr q4, j, q5.trans hR.2.1, by omega⟩, .inl ⟨rfl, .inl q4⟩⟩
            | some n =>
              have q4 := q2 n hn
              subst q4
              have hnl : n < x.1.length := by
                unfold nxA at hn
                cases hf : firstF (fun k => innA ks P (ln x.1 ((x.2.1.toNat + k) % x.1.length))) 1 x.1.length with
                | none =>
                  rw [hf] at hn
                  exact nomatch hn
                | some q =>
                  rw [hf] at hn
                  cases hn
                  exact Nat.mod_lt _ w4
              exact ⟨τ5, (n : Int) + 1, rfl, (f3.tr u1).tr q1, ⟨by omega, by omega⟩, ⟨.inl hR.2.2, j, hR.2.1, by omega⟩, .inr ⟨(n, j), rfl, rfl, hR, hnl, by dsimp only; omega⟩⟩
        · rw [if_neg c1] at v4
          rw [if_neg c1, kg_pos (by decide), if_pos rfl, if_neg c1, if_neg c2, if_neg c3]
          simp only [Bool.false_eq_true, if_false]
          refine ⟨kup τ3 9 0 23 1, 0, rfl, f3.kup (by decide), ⟨by decide, by decide⟩, ⟨.inr rfl, k, ?_, by omega⟩, .inl ⟨trivial, .inl rfl⟩⟩
          rw [kup_j (by decide)]
          exact v4.2.1
end
