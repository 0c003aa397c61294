/-! Pure: s, the class's side. -/
/-- s at the lines of a list, f: what becomes of a line; the last line that changed -/
def exF (f : List Int → List Int × Bool) : List Nat → Tx × Option Nat → Option (Tx × Option Nat)
  | [], s => some s
  | p :: ps, s => if (f (ln s.1 p)).2 then (if 20 < (f (ln s.1 p)).1.length then none else exF f ps (s.1.set p (f (ln s.1 p)).1, some p)) else exF f ps s
theorem prL {Q : Int → Prop} : ∀ {L : List Int}, (∀ i, i < L.length → Q (L.getD i 0)) → ∀ c ∈ L, Q c := by
  intro L
  induction L with
  | nil => intro _ c hc; exact nomatch hc
  | cons a L ih =>
    intro h c hc
    rcases List.mem_cons.1 hc with rfl | hc
    · exact h 0 (by simp)
    · exact ih (fun i hi => h (i + 1) (by rw [List.length_cons]; omega)) c hc
theorem slc_mem {L : List Int} {a b : Nat} {c : Int} (h : c ∈ slc L a b) : c ∈ L := List.mem_of_mem_drop (List.mem_of_mem_take h)
theorem rpA_pr {Q : Int → Prop} {ks : List Int} {e : Nat} {M : List Int} (hM : ∀ c ∈ M, Q c) (hks : ∀ c ∈ ks, Q c) (he : e < ks.length) : ∀ m k, ∀ c ∈ rpA ks e M m k, Q c := by
  intro m
  induction m with
  | zero => intro k c hc; exact nomatch hc
  | succ m ih =>
    intro k c hc
    unfold rpA at hc
    split at hc
    · exact nomatch hc
    · split at hc
      · rcases List.mem_append.1 hc with h | h
        · exact hM c h
        · exact ih _ c h
      · split at hc
        · rcases List.mem_cons.1 hc with rfl | h
          · exact hks _ (gd_mem (by omega))
          · exact ih _ c h
        · rcases List.mem_cons.1 hc with rfl | h
          · exact hks _ (gd_mem (by omega))
          · exact ih _ c h
theorem bdA_pr {Q : Int → Prop} {mt : Nat → Int} {rp : Nat → Nat → List Int} {G : Bool} {L : List Int} (hL : ∀ c ∈ L, Q c) (hrp : ∀ p q, ∀ c ∈ rp p q, Q c) : ∀ m p d f, ∀ c ∈ (bdA mt rp G L m p d f).1, Q c := by
  intro m
  induction m with
  | zero => intro p d f c hc; exact hL c (slc_mem hc)
  | succ m ih =>
    intro p d f c hc
    unfold bdA at hc
    split at hc
    · exact hL c (slc_mem hc)
    · split at hc
      · exact ih _ _ _ c hc
      · split at hc
        · rcases List.mem_append.1 hc with h | h
          · exact hL c (slc_mem h)
          · rcases List.mem_append.1 h with h | h
            · exact hrp _ _ c h
            · exact ih _ _ _ c h
        · rcases List.mem_append.1 hc with h | h
          · exact hL c (slc_mem h)
          · rcases List.mem_append.1 h with h | h
            · exact hrp _ _ c h
            · exact hL c (slc_mem h)
theorem lnB_pr {ks : List Int} {P : Pt} {b e : Nat} {G : Bool} {L : List Int} (hL : ∀ c ∈ L, 32 ≤ c ∧ c ≤ 126) (hks : ∀ c ∈ ks, 32 ≤ c ∧ c ≤ 126) (he : e < ks.length) : ∀ c ∈ (lnB ks P b e G L).1, 32 ≤ c ∧ c ≤ 126 := bdA_pr hL (fun _ _ => rpA_pr (fun c hc => hL c (slc_mem hc)) hks he _ _) _ _ _ _
theorem pr_set {T : Tx} {p : Nat} {B : List Int} (hT : printable T) (hB : ∀ c ∈ B, 32 ≤ c ∧ c ≤ 126) (hp : p < T.length) : printable (T.set p B) := by
  intro i hi c hc
  rw [List.length_set] at hi
  rw [ln_set hp] at hc ⊢
  by_cases h : i = p
  · rw [if_pos h] at hc ⊢
    exact hB _ (gd_mem hc)
  · rw [if_neg h] at hc ⊢
    exact hT i hi c hc
/-- only the class's text 0 has changed, not its cursor -/
def frP (σ σ' : kS) : Prop := (∀ a, a ≠ 2 → a ≠ 10 → a ≠ 11 → σ' a = σ a) ∧ (∀ t, t ≠ 0 → σ' 2 t = σ 2 t ∧ σ' 10 t = σ 10 t ∧ σ' 11 t = σ 11 t) ∧ ∀ j, j ≠ 2 → σ' 2 0 j = σ 2 0 j
theorem frP.tr {σ σ' σ'' : kS} (h : frP σ σ') (h2 : frP σ' σ'') : frP σ σ'' := ⟨fun a h3 h4 h5 => (h2.1 a h3 h4 h5).trans (h.1 a h3 h4 h5), fun t ht => ⟨(h2.2.1 t ht).1.trans (h.2.1 t ht).1, (h2.2.1 t ht).2.1.trans (h.2.1 t ht).2.1, (h2.2.1 t ht).2.2.trans (h.2.1 t ht).2.2⟩, fun j hj => (h2.2.2 j hj).trans (h.2.2 j hj)⟩
theorem frP.s0 {σ : kS} {F G : Nat → Int} {n : Int} : frP σ (sT σ 0 F G n) := by
  unfold sT
  refine ⟨fun a h3 h4 h5 => ?_, fun t ht => ⟨?_, ?_, ?_⟩, fun j hj => ?_⟩
  · rw [kup_kk h3, kupA_kk h5, kupA_kk h4]
  · rw [kup_ii (by omega), kupA_ii (by omega), kupA_ii (by omega)]
  · rw [kup_ii (by omega), kupA_ii (by omega), kupA_ii (by omega)]
  · rw [kup_ii (by omega), kupA_ii (by omega), kupA_ii (by omega)]
  · rw [kup_j hj, kupA_k (by decide), kupA_k (by decide)]
theorem frP.kupA {σ : kS} {F : Nat → Int} : frP σ (kupA σ 10 0 F) := ⟨fun a _ h4 _ => kupA_kk h4, fun t ht => ⟨kupA_ii (by omega), kupA_ii (by omega), kupA_ii (by omega)⟩, fun j _ => kupA_k (by decide)⟩
theorem CE.frP {g : Int} {x : Tc} {o : Option Tc} {b : Int × Tx} {q : Qd} {m : Md} {l : Int × List Int} {T : Tx} {σ σ' : kS} (c : CE g (x, o, b, q, m, l) σ) (f : frP σ σ') (hT : CT σ' 0 T) (hn : σ' 2 0 2 = T.length) : CE g ((T, x.2), o, b, q, m, l) σ' := by
  obtain ⟨c1, c2, c3, c4, c5, c6, c7⟩ := c
  obtain ⟨f1, f2, f3⟩ := f
  refine ⟨⟨hT, hn, (f3 3 (by decide)).trans c1.2.2.1, (f3 4 (by decide)).trans c1.2.2.2⟩, ?_, ?_, ?_, ?_, ?_, ?_⟩
  · cases o with
    | none =>
      show σ' 1 0 5 = 0
      rw [f1 1 (by decide) (by decide) (by decide)]
      exact c2
    | some y =>
      show σ' 1 0 5 = 1 ∧ CX σ' 1 y
      unfold CX CT
      rw [f1 1 (by decide) (by decide) (by decide), (f2 1 (by decide)).1, (f2 1 (by decide)).2.1, (f2 1 (by decide)).2.2]
      exact c2
  · unfold CB CT
    rw [f1 1 (by decide) (by decide) (by decide), (f2 3 (by decide)).1, (f2 3 (by decide)).2.1, (f2 3 (by decide)).2.2]
    exact c3
  · unfold CQ
    rw [f1 5 (by decide) (by decide) (by decide), f1 6 (by decide) (by decide) (by decide), f1 16 (by decide) (by decide) (by decide)]
    exact c4
  · unfold CM
    rw [f1 5 (by decide) (by decide) (by decide), f1 6 (by decide) (by decide) (by decide), f1 16 (by decide) (by decide) (by decide)]
    exact c5
  · unfold CL
    rw [f1 6 (by decide) (by decide) (by decide), f1 16 (by decide) (by decide) (by decide)]
    exact c6
  · rw [f1 5 (by decide) (by decide) (by decide)]
    exact c7
theorem frP.frE {σ σ' : kS} (f : frP σ σ') : frE σ σ' := ⟨fun a ha => f.1 a (by omega) (by omega) (by omega), fun t ht => f.2.1 t (by omega)⟩
/-- while s goes on in the class -/
def frH (σ σ' : kS) : Prop := frE σ σ' ∧ (∀ a, a = 5 ∨ a = 6 ∨ a = 8 ∨ a = 16 ∨ a = 17 → σ' a = σ a) ∧ (∀ j, j ≠ 6 → σ' 7 0 j = σ 7 0 j) ∧ σ' 2 2 = σ 2 2 ∧ σ' 10 2 = σ 10 2 ∧ σ' 11 2 = σ 11 2
theorem frH.rfl {σ : kS} : frH σ σ := ⟨frE.rfl, fun _ _ => Eq.refl _, fun _ _ => Eq.refl _, Eq.refl _, Eq.refl _, Eq.refl _⟩
theorem frH.tr {σ σ' σ'' : kS} (h : frH σ σ') (h2 : frH σ' σ'') : frH σ σ'' := ⟨h.1.tr h2.1, fun a ha => (h2.2.1 a ha).trans (h.2.1 a ha), fun j hj => (h2.2.2.1 j hj).trans (h.2.2.1 j hj), h2.2.2.2.1.trans h.2.2.2.1, h2.2.2.2.2.1.trans h.2.2.2.2.1, h2.2.2.2.2.2.trans h.2.2.2.2.2⟩
theorem frP.frH {σ σ' : kS} (f : frP σ σ') : frH σ σ' := ⟨f.frE, fun a ha => f.1 a (by omega) (by omega) (by omega), fun j _ => congrFun (congrFun (f.1 7 (by decide) (by decide) (by decide)) 0) j, (f.2.1 2 (by decide)).1, (f.2.1 2 (by decide)).2.1, (f.2.1 2 (by decide)).2.2⟩
theorem sB_frH {σ : kS} {F : Nat → Int} {n : Int} : frH σ (sB σ F n) := ⟨sB_fr.frE, fun a ha => sB_k (by omega) (by omega), fun j hj => sB_7 hj, congrFun (sB_k (by decide) (by decide)) 2, congrFun (sB_k (by decide) (by decide)) 2, congrFun (sB_k (by decide) (by decide)) 2⟩
theorem CX.frH {σ σ' : kS} {x : Tc} (h : CX σ 2 x) (f : frH σ σ') : CX σ' 2 x := by
  unfold CX CT
  rw [f.2.2.2.1, f.2.2.2.2.1, f.2.2.2.2.2]
  exact h
/-- what was built becomes the line -/
theorem C_putLine {σ : kS} {T : Tx} {p : Nat} {B : List Int} {k7 : Int → Int → Int → kS → kRes} {x1 x2 x4 : Int} (hT : CT σ 0 T) (hc : σ 2 0 2 = T.length) (hp : p < T.length) (h6 : σ 7 0 6 = B.length) (hB : B.length ≤ 20) (hF : Bu (σ 18 0) B) : ∃ σ', fb_Cl_exchangeLines_62 k7 x1 x2 (p : Int) x4 σ = k7 x1 (p : Int) ((p : Int) + 1) σ' ∧ CT σ' 0 (T.set p B) ∧ σ' 2 0 2 = (T.set p B).length ∧ frP σ σ' := by
  have hT1 := hT.1
  unfold fb_Cl_exchangeLines_62
  rw [kbi_eq (P_sizeOf hT hc (by omega)), szo_in hp]
  unfold fb_Cl_exchangeLines_76
  obtain ⟨F1, G1, e1, z1⟩ := C_closeLetters (σ := σ) (t := 0) (T := T) (p := p) (a := 0) (b := (ln T p).length) hT hc hp (Nat.zero_le _) (Nat.le_refl _)
  rw [kbu_eq (show f_Te_closeLetters (p : Int) 0 ((ln T p).length : Int) 0 σ = _ from e1)]
  rw [cut_all] at z1 ⊢
  have f1 : frP σ (sT σ 0 F1 G1 (T.set p []).length) := frP.s0
  have c1 : CT (sT σ 0 F1 G1 (T.set p []).length) 0 (T.set p []) := by
    unfold CT sT
    rw [kup_ii (by decide), kup_ii (by decide), kupA_ii (by decide), kupA_f, if_pos (by decide), kupA_f, if_pos (by decide)]
    exact z1
  have n1 : sT σ 0 F1 G1 (T.set p []).length 2 0 2 = (T.set p []).length := kup_self _ _ _ _ _
  generalize sT σ 0 F1 G1 (T.set p []).length = τ at f1 c1 n1
  have hln : ln (T.set p []) p = [] := by rw [ln_set hp, if_pos rfl]
  unfold fb_Cl_exchangeLines_79
  have t6 : τ 7 0 6 = B.length := by
    rw [f1.1 7 (by decide) (by decide) (by decide)]
    exact h6
  obtain ⟨F2, G2, e2, z2⟩ := C_openLetters (σ := τ) (t := 0) (T := T.set p []) (p := p) (a := 0) (m := B.length) c1 n1 (by rw [List.length_set]; exact hp) (Nat.zero_le _) (by rw [hln]; show 0 + B.length ≤ 20; omega)
  rw [t6]
  rw [kbi_eq (show f_Te_openLetters (p : Int) 0 (B.length : Int) 0 τ = _ from e2)]
  rw [hln, List.set_set] at z2 ⊢
  have hi : (ins ([] : List Int) 0 (List.replicate B.length 32)).length = B.length := by
    unfold ins
    simp
  generalize ins ([] : List Int) 0 (List.replicate B.length 32) = B0 at z2 hi
  have f2 : frP σ (sT τ 0 F2 G2 (T.set p B0).length) := f1.tr frP.s0
  have a10 : sT τ 0 F2 G2 (T.set p B0).length 10 0 = F2 := by
    unfold sT
    rw [kup_ii (by decide), kupA_ii (by decide), kupA_f, if_pos (by decide)]
  have a11 : sT τ 0 F2 G2 (T.set p B0).length 11 0 = G2 := by
    unfold sT
    rw [kup_ii (by decide), kupA_f, if_pos (by decide)]
  have n2 : sT τ 0 F2 G2 (T.set p B0).length 2 0 2 = (T.set p B0).length := kup_self _ _ _ _ _
  generalize sT τ 0 F2 G2 (T.set p B0).length = υ at f2 a10 a11 n2
  unfold fb_Cl_exchangeLines_92 fb_Cl_exchangeLines_116 fb_Cl_exchangeLines_118
  have u6 : υ 7 0 6 = B.length := by
    rw [f2.1 7 (by decide) (by decide) (by decide)]
    exact h6
  have u18 : υ 18 0 = σ 18 0 := congrFun (f2.1 18 (by decide) (by decide) (by decide)) 0
  rw [u6, kg_pos (by omega), a10, u18, Int.toNat_natCast, show ((p : Int) * 20).toNat = 20 * p by omega]
  refine ⟨_, rfl, ?_, ?_, f2.tr frP.kupA⟩
  · unfold CT
    rw [kupA_f, if_pos (by decide), kupA_ii (by decide), a11]
    refine ⟨by rw [List.length_set]; exact hT1, fun i hi2 => ?_⟩
    rw [List.length_set] at hi2
    obtain ⟨w1, w2, w3⟩ := z2.2 i (by rw [List.length_set]; exact hi2)
    rw [ln_set hp] at w1 w2 w3 ⊢
    by_cases h : i = p
    · rw [if_pos h] at w1 w2 w3 ⊢
      refine ⟨by rw [w1, hi], hB, fun c hc => ?_⟩
      unfold va_cpy
      rw [if_pos (by omega), ← hF c hc (by omega)]
      exact congrArg (σ 18 0) (by omega)
    · rw [if_neg h] at w1 w2 w3 ⊢
      refine ⟨w1, w2, fun c hc => ?_⟩
      unfold va_cpy
      rw [if_neg (by omega)]
      exact w3 c hc
  · rw [kupA_k (by decide), n2, List.length_set, List.length_set]
section
variable {g : Int} {o : Option Tc} {q : Qd} {l : Int × List Int} {ks : List Int} {bf : Int × Tx} {md : Int × Int × Int}
/-- s, the class's side -/
theorem C_exch {x : Tc} {σ : kS} {a b w wk bb e : Nat} {P : Pt} {G : Bool} {mn : Nat → Bool} (c : CE g (x, o, bf, q, (md.1, md.2.1, md.2.2, ks), l) σ) (hx : wfX x) (hl : ks.length ≤ 30) (hks : ∀ c ∈ ks, 32 ≤ c ∧ c ≤ 126) (h7 : σ 7 0 7 = 1) (h11 : σ 7 0 11 = a) (h12 : σ 7 0 12 = b) (h13 : σ 7 0 13 = 0 ∧ mn = (fun _ => true) ∨ σ 7 0 13 = 1 ∧ mn = w.testBit) (h15 : σ 7 0 15 = b2 G) (h16 : σ 7 0 16 = bb) (h17 : σ 7 0 17 = e) (hP : PCt ks σ 0 P) (he : e < ks.length) (hwk : skE ks wk bb = e) (hw : w < 1025) (hab : a ≤ b) (hb : b < x.1.length) : ∃ σ' y, f_Cl_exchangeLines (w : Int) σ = some (some y, σ') ∧ frH σ σ' ∧ ((exF (lnB ks P bb e G) (ntL mn a (b + 1 - a)) (x.1, none) = none ∧ y = -2 ∧ ∃ T, CE g ((T, x.2), o, bf, q, (md.1, md.2.1, md.2.2, ks), l) σ') ∨ ∃ r, exF (lnB ks P bb e G) (ntL mn a (b + 1 - a)) (x.1, none) = some r ∧ y = (r.2.elim (-1) fun p => (p : Int)) ∧ CE g ((r.1, x.2), o, bf, q, (md.1, md.2.1, md.2.2, ks), l) σ' ∧ wfText r.1 ∧ r.1.length = x.1.length ∧ ∀ p, r.2 = some p → p < x.1.length) := by
  obtain ⟨w1, w2, w3, w4, w5, w6, w7, w8⟩ := hx.sz
  have hloop : ∀ (m n p : Nat) (T : Tx) (ch : Option Nat) (τ : kS), p + m = b + 1 → m < n → T.length = x.1.length → wfText T → (∀ p, ch = some p → p < x.1.length) → CE g ((T, x.2), o, bf, q, (md.1, md.2.1, md.2.2, ks), l) τ → frH σ τ → ∃ σ' y, fl_Cl_exchangeLines_7 n (w : Int) (ch.elim (-1) fun p => (p : Int)) (p : Int) τ = some (some y, σ') ∧ frH σ σ' ∧ ((exF (lnB ks P bb e G) (ntL mn p m) (T, ch) = none ∧ y = -2 ∧ ∃ T, CE g ((T, x.2), o, bf, q, (md.1, md.2.1, md.2.2, ks), l) σ') ∨ ∃ r, exF (lnB ks P bb e G) (ntL mn p m) (T, ch) = some r ∧ y = (r.2.elim (-1) fun p => (p : Int)) ∧ CE g ((r.1, x.2), o, bf, q, (md.1, md.2.1, md.2.2, ks), l) σ' ∧ wfText r.1 ∧ r.1.length = x.1.length ∧ ∀ p, r.2 = some p → p < x.1.length) := by
    intro m
    induction m with
    | zero =>
      intro n p T ch τ h1 h2 h3 h4 h5 c f
      obtain ⟨n, rfl⟩ : ∃ n', n = n' + 1 := ⟨n - 1, by omega⟩
      refine ⟨τ, _, ?_, f, .inr ⟨(T, ch), rfl, rfl, c, h4, h3, h5⟩⟩
      have t12 : τ 7 0 12 = b := (f.2.2.1 12 (by decide)).trans h12
      simp only [fl_Cl_exchangeLines_7, fb_Cl_exchangeLines_7, fb_Cl_exchangeLines_124]
      rw [t12, kg_pos (by omega), if_pos (by omega)]
    | succ m ih =>
      intro n p T ch τ h1 h2 h3 h4 h5 c f
      obtain ⟨n, rfl⟩ : ∃ n', n = n' + 1 := ⟨n - 1, by omega⟩
      have t12 : τ 7 0 12 = b := (f.2.2.1 12 (by decide)).trans h12
      have t13 : τ 7 0 13 = σ 7 0 13 := f.2.2.1 13 (by decide)
      simp only [fl_Cl_exchangeLines_7, fb_Cl_exchangeLines_7]
      rw [t12, kg_pos (by omega), if_neg (by omega)]
      -- is the line meant
      have e35 : fb_Cl_exchangeLines_15 (fl_Cl_exchangeLines_7 n) (w : Int) (ch.elim (-1) fun p => (p : Int)) (p : Int) τ = fb_Cl_exchangeLines_35 (fl_Cl_exchangeLines_7 n) (w : Int) (ch.elim (-1) fun p => (p : Int)) (p : Int) (b2 (mn p)) τ := by
        unfold fb_Cl_exchangeLines_15 fb_Cl_exchangeLines_30 fb_Cl_exchangeLines_22 fb_Cl_exchangeLines_34
        rw [t13]
        rcases h13 with ⟨z1, z2⟩ | ⟨z1, z2⟩
        · rw [z1, z2, kg_pos (by decide), if_pos rfl]
          rfl
        · rw [z1, z2, kg_pos (by decide), if_neg (by decide), kbit (by omega) (by omega)]
          cases w.testBit p with
          | false =>
            rw [if_neg Bool.false_ne_true, kg_pos (by decide), if_pos rfl]
            rfl
          | true =>
            rw [if_pos rfl, kg_pos (by decide), if_neg (by decide)]
            rfl
      rw [e35]
      unfold fb_Cl_exchangeLines_35
      have h01 := b2_01 (mn p)
      rw [kg_pos (by omega)]
      unfold ntL
      cases hmn : mn p with
      | false =>
        rw [if_pos (show b2 false = 0 from rfl), if_neg Bool.false_ne_true]
        exact ih n (p + 1) T ch τ (by omega) (by omega) h3 h4 h5 c f
      | true =>
        rw [if_neg (show ¬ b2 true = 0 by decide), if_pos rfl]
        unfold fb_Cl_exchangeLines_42
        have hTc : CT τ 0 T := c.1.1
        have hTn : τ 2 0 2 = T.length := c.1.2.1
        have hPt : PCt ks τ 0 P := by
          unfold PCt
          rw [f.2.1 8 (by decide), f.2.1 17 (by decide)]
          exact hP
        have hka : kArr (τ 16 2) ks := c.2.2.2.2.1.2.2.2.2
        obtain ⟨F, z1, z2, z3⟩ := C_build (r := p) (xr := (p : Int)) (P := P) (b := bb) (e := e) (w := wk) (G := G) rfl hPt hTc hTn h4.2.2.1 (by omega) ((f.2.2.1 7 (by decide)).trans h7) ((f.2.2.1 15 (by decide)).trans h15) ((f.2.2.1 16 (by decide)).trans h16) ((f.2.2.1 17 (by decide)).trans h17) hka hl hks he hwk
        rw [kbi_eq z1]
        unfold fb_Cl_exchangeLines_47
        have g01 := b2_01 (lnB ks P bb e G (ln T p)).2
        rw [kg_pos (by omega)]
        have c1 : CE g ((T, x.2), o, bf, q, (md.1, md.2.1, md.2.2, ks), l) (sB τ F (lnB ks P bb e G (ln T p)).1.length) := c.frX sB_fr
        have f1 : frH σ (sB τ F (lnB ks P bb e G (ln T p)).1.length) := f.tr sB_frH
        unfold exF
        dsimp only
        cases hfd : (lnB ks P bb e G (ln T p)).2 with
        | false =>
          rw [if_pos (show b2 false = 0 from rfl), if_neg Bool.false_ne_true]
          exact ih n (p + 1) T ch _ (by omega) (by omega) h3 h4 h5 c1 f1
        | true =>
          rw [if_neg (show ¬ b2 true = 0 by decide), if_pos rfl]
          unfold fb_Cl_exchangeLines_50
          rw [sB_6, kg_pos (by omega)]
          by_cases h20 : 20 < (lnB ks P bb e G (ln T p)).1.length
          · rw [if_neg (by omega), if_pos h20]
            exact ⟨_, -2, rfl, f1, .inl ⟨rfl, rfl, T, c1⟩⟩
          · rw [if_pos (by omega), if_neg h20]
            have hF18 : Bu (sB τ F (lnB ks P bb e G (ln T p)).1.length 18 0) (lnB ks P bb e G (ln T p)).1 := by
              unfold sB
              rw [kup_ii (by decide), kupA_f, if_pos (by decide)]
              exact z2
            obtain ⟨υ, y1, y2, y3, y4⟩ := C_putLine (k7 := fl_Cl_exchangeLines_7 n) (x1 := (w : Int)) (x2 := ch.elim (-1) fun p => (p : Int)) (x4 := b2 true) (p := p) (B := (lnB ks P bb e G (ln T p)).1) c1.1.1 c1.1.2.1 (by show p < T.length; omega) sB_6 (by omega) hF18
            rw [y1]
            have hlnpr : ∀ c ∈ ln T p, 32 ≤ c ∧ c ≤ 126 := prL (h4.2.2.1 p (by omega))
            have hwf : wfText (T.set p (lnB ks P bb e G (ln T p)).1) := by
              refine ⟨by rw [List.length_set]; exact h4.1, by rw [List.length_set]; exact h4.2.1, pr_set h4.2.2.1 (lnB_pr hlnpr hks he) (by omega), fun i hi => ?_⟩
              rw [List.length_set] at hi
              rw [ln_set (by omega)]
              split
              · omega
              · exact h4.2.2.2 i hi
            exact ih n (p + 1) _ (some p) υ (by omega) (by omega) (by rw [List.length_set]; exact h3) hwf (fun i hi => by cases hi; omega) (c1.frP y4 y2 y3) (f1.tr y4.frH)
  unfold f_Cl_exchangeLines fb_Cl_exchangeLines_0
  rw [h11]
  exact hloop (b + 1 - a) 3000 a x.1 none σ (by omega) (by omega) rfl hx.1 (fun _ h => nomatch h) c frH.rfl
end
