/-! Pure: one command, and g, the reference's side. -/
def frV (σ σ' : kS) : Prop := frF σ σ' ∧ σ' 32 = σ 32 ∧ σ' 27 = σ 27 ∧ σ' 9 0 20 = σ 9 0 20
theorem frV.rfl {σ : kS} : frV σ σ := ⟨frF.rfl, Eq.refl _, Eq.refl _, Eq.refl _⟩
theorem frV.tr {σ σ' σ'' : kS} (h : frV σ σ') (h2 : frV σ' σ'') : frV σ σ'' := ⟨h.1.tr h2.1, h2.2.1.trans h.2.1, h2.2.2.1.trans h.2.2.1, h2.2.2.2.trans h.2.2.2⟩
theorem frZ.v {σ σ' : kS} (h : frZ σ σ') : frV σ σ' := ⟨h.frF, h.1 32 (by decide) (by decide), h.1 27 (by decide) (by decide), h.2 20 (by decide)⟩
theorem frK.v {σ σ' : kS} (h : frK σ σ') : frV σ σ' := ⟨h.1, h.2.1 32 (by decide), h.2.1 27 (by decide), h.2.2 20 (by decide)⟩
theorem frJ.v {σ σ' : kS} (h : frJ σ σ') : frV σ σ' := ⟨h.1, h.2.1 32 (by decide) (by decide), h.2.1 27 (by decide) (by decide), h.2.2 20 (by decide)⟩
theorem frV.TyR {ks : List Int} {σ σ' : kS} (f : frV σ σ') (h : TyR ks σ) : TyR ks σ' := ⟨f.2.2.2.trans h.1, by rw [f.2.2.1]; exact h.2.1, h.2.2.1, h.2.2.2⟩
theorem gd_lt {ks : List Int} {k : Nat} {v : Int} (h : ks.getD k 0 = v) (hv : v ≠ 0) : k < ks.length := by
  by_cases hlt : k < ks.length
  · exact hlt
  · rw [gd_ge ks 0 (by omega)] at h
    exact absurd h.symm hv
section
variable {g : Int} {B : Option Tc} {o : Option Tc} {q : Qd} {md : Md} {l : Int × List Int} {ks : List Int} {bf : Int × Tx}
/-- d or s at a range, the reference's side -/
theorem R_one {xa xb : Int} {cu0 : Int × Int} {a b k : Nat} {T : Tx} {ch : Option Nat} {σ : kS} (hxa : xa = a) (hxb : xb = b) (c : RE2 g B ((T, ch.elim cu0 fun p => ((p : Int), 0)), o, bf, q, md, l) σ) (h : RLs ks σ k) (hk : k ≤ 31) (hT : ∀ v, ccP ks k = some (some v) → wfText T) (hch : ∀ p, ch = some p → p < T.length) (hab : a ≤ b) (hb : b < T.length) : ∃ σ' y, f_Rm_one xa xb σ = some (some y, σ') ∧ frV σ σ' ∧ ((ccP ks k = none ∧ y = 0 ∧ RE2 g B ((T, ch.elim cu0 fun p => ((p : Int), 0)), o, bf, q, md, l) σ') ∨ (ccP ks k = some none ∧ y = 1 ∧ RE2 g B (dropX T a b, o, ((b : Int) - a + 1, slc T a (b + 1)), q, md, l) σ' ∧ σ' 9 0 23 = 0) ∨ ∃ v, ccP ks k = some (some v) ∧ ((exF (lnB ks v.1 v.2.1 v.2.2.1 v.2.2.2) (ntL (fun _ => true) a (b + 1 - a)) (T, ch) = none ∧ y = 0 ∧ ∃ T' cu', RE2 g B ((T', cu'), o, bf, q, md, l) σ') ∨ ∃ r, exF (lnB ks v.1 v.2.1 v.2.2.1 v.2.2.2) (ntL (fun _ => true) a (b + 1 - a)) (T, ch) = some r ∧ y = 1 ∧ RE2 g B ((r.1, r.2.elim cu0 fun p => ((p : Int), 0)), o, bf, q, md, l) σ' ∧ wfText r.1 ∧ r.1.length = T.length ∧ (∀ p, r.2 = some p → p < T.length) ∧ σ' 9 0 23 = 0 ∧ ∃ d : Nat, σ' 9 0 31 = σ 9 0 31 + d ∧ d ≤ 10 ∧ (d = 0 → r.2 = ch) ∧ (d ≠ 0 → r.2 ≠ none))) := by
  subst hxa hxb
  have hl := h.1.2.2.1
  have hT1 : T.length ≤ 10 := c.1.1.1.1
  unfold f_Rm_one fb_Rm_one_0
  obtain ⟨τ, e1, f1, o1, k1, h1⟩ := R_take (v := 100) h (by omega) (by decide)
  rw [kbi_eq e1]
  have c1 := c.frZ f1
  unfold fb_Rm_one_6
  by_cases cd : ks.getD k 0 = 100
  · have hkl := gd_lt cd (by decide)
    have hcc : ccP ks k = if k + 1 = ks.length then some none else none := by
      unfold ccP
      rw [if_pos cd]
    rw [if_pos cd] at h1
    rw [if_pos cd, kg_pos (by decide), if_neg (by decide), hcc]
    unfold fb_Rm_one_9
    rw [kbi_eq (R_ended h1.1 h1.2.1 (by omega) h1.2.2 (.inl rfl))]
    unfold fb_Rm_one_13 fb_Rm_one_16
    by_cases ce : k + 1 = ks.length
    · rw [if_pos ⟨rfl, ce⟩, if_pos ce, kg_pos (by decide), if_neg (by decide)]
      unfold fb_Rm_one_18 fb_Rm_one_24 fb_Rm_one_30
      obtain ⟨υ, e2, c2, f2⟩ := SK.hold (i := a) (j := b) rfl rfl hab hb hT1 τ c1
      rw [kbu_eq e2]
      obtain ⟨ω, e3, c3, f3⟩ := SK.take (i := a) (j := b) rfl rfl hab hb hT1 υ c2
      rw [kbu_eq e3]
      refine ⟨ω, 1, rfl, (f1.v.tr f2.v).tr f3.v, .inr (.inl ⟨rfl, rfl, c3, ?_⟩)⟩
      rw [f3.2.2 23 (by decide), f2.2.2 23 (by decide)]
      exact h1.2.2
    · rw [if_neg (show ¬ ((0 : Int) = 0 ∧ k + 1 = ks.length) from fun h => ce h.2), if_neg ce, kg_pos (by decide), if_pos rfl]
      exact ⟨τ, 0, rfl, f1.v, .inl ⟨rfl, rfl, c1⟩⟩
  · rw [if_neg cd] at h1
    rw [if_neg cd, kg_pos (by decide), if_pos rfl]
    unfold fb_Rm_one_32
    obtain ⟨υ, e2, f2, o2, k2, h2⟩ := R_take (v := 115) h1 (by omega) (by decide)
    rw [kbi_eq e2]
    have c2 := c1.frZ f2
    have f12 := f1.tr f2
    unfold fb_Rm_one_38
    by_cases cs : ks.getD k 0 = 115
    · have hkl := gd_lt cs (by decide)
      rw [if_pos cs] at h2
      rw [if_pos cs, kg_pos (by decide), if_neg (by decide)]
      unfold fb_Rm_one_41
      have hcc : ccP ks k = ((exP ks (k + 1)).elim none fun v => if v.2 = ks.length then some v.1 else none).map some := by
        unfold ccP
        rw [if_neg cd, if_pos cs]
        cases exP ks (k + 1) with
        | none => rfl
        | some v =>
          show (if v.2 = ks.length then some (some v.1) else none) = Option.map some (if v.2 = ks.length then some v.1 else none)
          split <;> rfl
      obtain ⟨ω, f3, h3⟩ := R_exP (xa := (a : Int)) (xb := (b : Int)) h2 (by omega)
      have c3 := c2.frZ f3
      have f13 := f12.tr f3
      rcases h3 with ⟨hn, e3⟩ | ⟨v, hv, e3, R3, P3, he, hbb⟩
      · rw [hn] at hcc
        rw [kbi_eq e3, hcc]
        exact ⟨ω, 0, rfl, f13.v, .inl ⟨rfl, rfl, c3⟩⟩
      · rw [hv] at hcc
        have hwf := hT v (by rw [hcc]; rfl)
        obtain ⟨φ, y, z1, z2, z3⟩ := R_exL (x1 := (a : Int)) (cu0 := cu0) (n0 := T.length) (b := b) (bb := v.2.1) (e := v.2.2.1) (kk := ks.length) (P := v.1) (G := v.2.2.2) hb hT1 hbb he h.1.2.2.2 (b + 1 - a) 3000 a T ch ω (by omega) (by omega) rfl hwf hch c3 R3 P3
        rw [← e3] at z1
        rw [kbi_eq z1]
        unfold fb_Rm_one_47 fb_Rm_one_50 fb_Rm_one_54 fb_Rm_one_55
        have ff := f13.v.tr z2.v
        rcases z3 with ⟨en, rfl, hT'⟩ | ⟨r, er, rfl, cr, r1, r2, r3, d, d1, d2, d3, d4⟩
        · rw [kg_pos (by decide), if_pos rfl, kg_pos (by decide)]
          exact ⟨φ, 0, rfl, ff, .inr (.inr ⟨v, by rw [hcc]; rfl, .inl ⟨en, rfl, hT'⟩⟩)⟩
        · rw [kg_pos (by decide), if_neg (by decide), kg_pos (by decide)]
          refine ⟨φ, 1, rfl, ff, .inr (.inr ⟨v, by rw [hcc]; rfl, .inr ⟨r, er, rfl, cr, r1, r2, r3, ?_, d, ?_, by omega, d3, d4⟩⟩)⟩
          · rw [z2.2.2 23 (by decide)]
            exact R3.2.2
          · rw [d1, f13.2 31 (by decide)]
    · rw [if_neg cs, kg_pos (by decide), if_pos rfl]
      refine ⟨υ, 0, ?_, f12.v, .inl ⟨?_, rfl, c2⟩⟩
      · unfold fb_Rm_one_54 fb_Rm_one_55
        rw [kg_pos (by decide)]
      · unfold ccP
        rw [if_neg cd, if_neg cs]
theorem exF_cons {f : List Int → List Int × Bool} {p : Nat} {ps : List Nat} {s : Tx × Option Nat} : exF f (p :: ps) s = (exF f [p] s).elim none fun r => exF f ps r := by
  show (if (f (ln s.1 p)).2 then (if 20 < (f (ln s.1 p)).1.length then none else exF f ps (s.1.set p (f (ln s.1 p)).1, some p)) else exF f ps s) = Option.elim (if (f (ln s.1 p)).2 then (if 20 < (f (ln s.1 p)).1.length then none else some (s.1.set p (f (ln s.1 p)).1, some p)) else some s) none fun r => exF f ps r
  split
  · split <;> rfl
  · rfl
theorem ntL_ge {f : Nat → Bool} : ∀ (m p i : Nat), i < (ntL f p m).length → p + i ≤ (ntL f p m).getD i 0 ∧ (ntL f p m).getD i 0 < p + m := by
  intro m
  induction m with
  | zero => intro p i h; exact absurd h (Nat.not_lt_zero i)
  | succ m ih =>
    intro p i h
    unfold ntL at h ⊢
    cases hf : f p with
    | true =>
      rw [hf, if_pos rfl, List.length_cons] at h
      rw [if_pos rfl]
      cases i with
      | zero => exact ⟨Nat.le_refl p, by show p < p + (m + 1); omega⟩
      | succ i =>
        have := ih (p + 1) i (by omega)
        show p + (i + 1) ≤ (ntL f (p + 1) m).getD i 0 ∧ (ntL f (p + 1) m).getD i 0 < p + (m + 1)
        omega
    | false =>
      rw [hf, if_neg Bool.false_ne_true] at h
      rw [if_neg Bool.false_ne_true]
      have := ih (p + 1) i h
      omega
theorem ntL_len {f : Nat → Bool} : ∀ (m p : Nat), (ntL f p m).length ≤ m := by
  intro m
  induction m with
  | zero => intro p; exact Nat.le_refl _
  | succ m ih =>
    intro p
    have := ih (p + 1)
    unfold ntL
    split
    · rw [List.length_cons]
      omega
    · omega
theorem drop_gd {N : List Nat} {k : Nat} (h : k < N.length) : N.drop k = N.getD k 0 :: N.drop (k + 1) := by
  rw [List.drop_eq_getElem_cons h, List.getD_eq_getElem?_getD, List.getElem?_eq_getElem h]
  rfl
/-- the lines of g are noted, the reference's side -/
theorem R_noteL {x1 : Int} {σ : kS} {b : Nat} {T : Tx} {P : Pt} (hP : PRt ks σ P) (hT : RT σ 0 T) (hpr : printable T) (hb : b < T.length) : ∀ (m f p : Nat) (F : Nat → Int) (acc : List Nat), p + m = b + 1 → m < f → (∀ i, i < acc.length → F i = ((acc.getD i 0 : Nat) : Int)) → acc.length + m ≤ 10 → ∃ F', fl_Rm_all_29 f x1 (b : Int) (acc.length : Int) (p : Int) (kupA σ 32 0 F) = fb_Rm_all_61 x1 (b : Int) ((acc ++ ntL (fun i => innA ks P (ln T i)) p m).length : Int) ((b : Int) + 1) (kupA σ 32 0 F') ∧ ∀ i, i < (acc ++ ntL (fun i => innA ks P (ln T i)) p m).length → F' i = (((acc ++ ntL (fun i => innA ks P (ln T i)) p m).getD i 0 : Nat) : Int) := by
  have hT1 := hT.1
  intro m
  induction m with
  | zero =>
    intro f p F acc h1 h2 h3 h4
    obtain ⟨f, rfl⟩ : ∃ f', f = f' + 1 := ⟨f - 1, by omega⟩
    obtain rfl : p = b + 1 := by omega
    have e0 : ntL (fun i => innA ks P (ln T i)) (b + 1) 0 = [] := rfl
    rw [e0, List.append_nil]
    refine ⟨F, ?_, h3⟩
    simp only [fl_Rm_all_29, fb_Rm_all_29]
    rw [kg_pos (by omega), if_pos (by omega)]
    rfl
  | succ m ih =>
    intro f p F acc h1 h2 h3 h4
    obtain ⟨f, rfl⟩ : ∃ f', f = f' + 1 := ⟨f - 1, by omega⟩
    simp only [fl_Rm_all_29, fb_Rm_all_29]
    rw [kg_pos (by omega), if_neg (by omega)]
    unfold fb_Rm_all_35
    have hP' : PRt ks (kupA σ 32 0 F) P := by
      unfold PRt
      rw [kupA_kk (a := 9) (by decide), kupA_kk (a := 27) (by decide), kupA_kk (a := 28) (by decide), kupA_kk (a := 29) (by decide), kupA_kk (a := 30) (by decide), kupA_kk (a := 31) (by decide)]
      exact hP
    have hT' : RT (kupA σ 32 0 F) 0 T := by
      unfold RT
      rw [kupA_kk (a := 20) (by decide), kupA_kk (a := 21) (by decide)]
      exact hT
    rw [kbi_eq (R_some hP' hT' hpr rfl (by omega))]
    unfold fb_Rm_all_41
    have h01 := b2_01 (innA ks P (ln T p))
    rw [kg_pos (by omega)]
    unfold ntL
    cases innA ks P (ln T p) with
    | false =>
      rw [if_pos (show b2 false = 0 from rfl), if_neg Bool.false_ne_true]
      exact ih f (p + 1) F acc (by omega) (by omega) h3 (by omega)
    | true =>
      rw [if_neg (show ¬ b2 true = 0 by decide), if_pos rfl]
      unfold fb_Rm_all_44 fb_Rm_all_55
      rw [kg_pos (by omega), Int.toNat_natCast, kup_kupA]
      have hl2 : (acc ++ [p]).length = acc.length + 1 := by rw [List.length_append, List.length_singleton]
      obtain ⟨F', z1, z2⟩ := ih f (p + 1) (fun c => if c = acc.length then (p : Int) else F c) (acc ++ [p]) (by omega) (by omega) (fun i hi => by
        rw [gd_snoc]
        by_cases h : i = acc.length
        · rw [if_pos h, if_neg (by omega), if_pos h]
        · rw [if_neg h, if_pos (by omega)]
          exact h3 i (by omega)) (by omega)
      rw [hl2, List.append_assoc, List.singleton_append] at z1
      rw [List.append_assoc, List.singleton_append] at z2
      exact ⟨F', z1, z2⟩
/-- once it has failed, g does no more -/
theorem R_all0 {x1 x2 x3 x4 x5 : Int} {k f : Nat} {σ : kS} (h3 : -1 ≤ x3 ∧ x3 ≤ 10) (hk : k ≤ 100) : fl_Rm_all_91 (f + 1) x1 x2 x3 x4 x5 0 (k : Int) σ = some (some 0, σ) := by
  show fb_Rm_all_91 (fl_Rm_all_91 f) x1 x2 x3 x4 x5 0 (k : Int) σ = _
  unfold fb_Rm_all_91 fb_Rm_all_97 fb_Rm_all_153
  rw [kg_pos (by omega)]
  split
  · rw [kg_pos (by decide)]
  · rw [kg_pos (by decide), if_pos rfl, kg_pos (by decide)]
theorem R_at0 {A : kEd} {σ : kS} {v : Int} (c : RE2 g B A σ) : RE2 g B A (kup σ 9 0 22 v) ∧ frV σ (kup σ 9 0 22 v) := by
  have f : frZ σ (kup σ 9 0 22 v) := frZ.rfl.kup (by decide)
  exact ⟨c.frZ f, f.v⟩
/-- g with s, the reference's side -/
theorem R_allS {x1 x2 x5 : Int} {cu0 : Int × Int} {bg n0 : Nat} {N : List Nat} {v : Ex} (hcc : ccP ks bg = some (some v)) (hbg : bg ≤ 31) (h5 : 0 ≤ x5 ∧ x5 ≤ 126 ∧ x5 ≠ 100) (hN : N.length ≤ 10) (hNn : ∀ i, i < N.length → N.getD i 0 < n0) : ∀ (m f k : Nat) (T : Tx) (ch : Option Nat) (σ : kS), k + m = N.length → m < f → RE2 g B ((T, ch.elim cu0 fun p => ((p : Int), 0)), o, bf, q, md, l) σ → TyR ks σ → σ 9 0 23 = 0 → (∀ i, i < N.length → σ 32 0 i = ((N.getD i 0 : Nat) : Int)) → wfText T → T.length = n0 → (∀ p, ch = some p → p < n0) → ∃ σ' y, fl_Rm_all_91 f x1 x2 (N.length : Int) (bg : Int) x5 1 (k : Int) σ = some (some y, σ') ∧ frF σ σ' ∧ ((exF (lnB ks v.1 v.2.1 v.2.2.1 v.2.2.2) (N.drop k) (T, ch) = none ∧ y = 0 ∧ ∃ T' cu', RE2 g B ((T', cu'), o, bf, q, md, l) σ') ∨ ∃ r, exF (lnB ks v.1 v.2.1 v.2.2.1 v.2.2.2) (N.drop k) (T, ch) = some r ∧ y = 1 ∧ RE2 g B ((r.1, r.2.elim cu0 fun p => ((p : Int), 0)), o, bf, q, md, l) σ' ∧ wfText r.1 ∧ r.1.length = n0 ∧ (∀ p, r.2 = some p → p < n0)) := by
  intro m
  induction m with
  | zero =>
    intro f k T ch σ h1 h2 c hy h23 h32 hwf hTn hch
    obtain ⟨f, rfl⟩ : ∃ f', f = f' + 1 := ⟨f - 1, by omega⟩
    rw [List.drop_of_length_le (by omega)]
    refine ⟨σ, 1, ?_, frF.rfl, .inr ⟨(T, ch), rfl, rfl, c, hwf, hTn, hch⟩⟩
    simp only [fl_Rm_all_91, fb_Rm_all_91, fb_Rm_all_153]
    rw [kg_pos (by omega), if_pos (by omega), kg_pos (by decide)]
  | succ m ih =>
    intro f k T ch σ h1 h2 c hy h23 h32 hwf hTn hch
    obtain ⟨f, rfl⟩ : ∃ f', f = f' + 1 := ⟨f - 1, by omega⟩
    simp only [fl_Rm_all_91, fb_Rm_all_91, fb_Rm_all_97, fb_Rm_all_102]
    rw [kg_pos (by omega), if_neg (by omega), kg_pos (by decide), if_neg (by decide), kg_pos (by omega), if_neg h5.2.2]
    unfold fb_Rm_all_122
    rw [kg_pos (by omega), Int.toNat_natCast, h32 k (by omega)]
    unfold fb_Rm_all_129
    obtain ⟨c1, f1⟩ := R_at0 (v := (bg : Int)) c
    have hpn := hNn k (by omega)
    have R1 : RLs ks (kup σ 9 0 22 (bg : Int)) bg := ⟨f1.TyR hy, kup_self _ _ _ _ _, (kup_j (by decide)).trans h23⟩
    obtain ⟨τ, y, z1, z2, z3⟩ := R_one (cu0 := cu0) (ch := ch) (a := N.getD k 0) (b := N.getD k 0) rfl rfl c1 R1 hbg (fun _ _ => hwf) (fun p hp => by rw [hTn]; exact hch p hp) (Nat.le_refl _) (by omega)
    rw [kbi_eq z1]
    unfold fb_Rm_all_145
    rw [hcc] at z3
    rw [drop_gd (by omega), exF_cons]
    rcases z3 with ⟨h, -⟩ | ⟨h, -⟩ | ⟨v', hv', hr⟩
    · exact nomatch h
    · exact nomatch h
    · cases hv'
      rw [show N.getD k 0 + 1 - N.getD k 0 = 1 by omega] at hr
      have e1 : ntL (fun _ => true) (N.getD k 0) 1 = [N.getD k 0] := rfl
      rw [e1] at hr
      have ff := f1.tr z2
      rcases hr with ⟨en, rfl, hT'⟩ | ⟨r, er, rfl, cr, r1, r2, r3, r4, -⟩
      · rw [en]
        obtain ⟨f, rfl⟩ : ∃ f', f = f' + 1 := ⟨f - 1, by omega⟩
        rw [show (k : Int) + 1 = ((k + 1 : Nat) : Int) by omega, R_all0 (by omega) (by omega)]
        exact ⟨τ, 0, rfl, ff.1, .inl ⟨rfl, rfl, hT'⟩⟩
      · rw [er]
        obtain ⟨σ', y, y1, y2, y3⟩ := ih f (k + 1) r.1 r.2 τ (by omega) (by omega) cr (ff.TyR hy) r4 (fun i hi => by rw [ff.2.1]; exact h32 i hi) r1 (by omega) (fun p hp => by rw [← hTn]; exact r3 p hp)
        exact ⟨σ', y, y1, ff.1.tr y2, y3⟩
/-- g with d, the reference's side -/
theorem R_allD {x1 x2 : Int} {bg n0 : Nat} {N : List Nat} (hcc : ccP ks bg = some none) (hbg : bg ≤ 31) (hN : N.length ≤ 10) (hNn : ∀ i, i < N.length → i ≤ N.getD i 0 ∧ N.getD i 0 < n0) : ∀ (m f k : Nat) (s : Tc × Int × Tx) (σ : kS), k + m = N.length → m < f → RE2 g B (s.1, o, s.2, q, md, l) σ → TyR ks σ → σ 9 0 23 = 0 → (∀ i, i < N.length → σ 32 0 i = ((N.getD i 0 : Nat) : Int)) → (k < n0 → s.1.1.length = n0 - k) → ∃ σ', fl_Rm_all_91 f x1 x2 (N.length : Int) (bg : Int) 100 1 (k : Int) σ = some (some 1, σ') ∧ frF σ σ' ∧ RE2 g B ((dlF (N.drop k) k s).1, o, (dlF (N.drop k) k s).2, q, md, l) σ' := by
  intro m
  induction m with
  | zero =>
    intro f k s σ h1 h2 c hy h23 h32 hTn
    obtain ⟨f, rfl⟩ : ∃ f', f = f' + 1 := ⟨f - 1, by omega⟩
    rw [List.drop_of_length_le (by omega)]
    refine ⟨σ, ?_, frF.rfl, c⟩
    simp only [fl_Rm_all_91, fb_Rm_all_91, fb_Rm_all_153]
    rw [kg_pos (by omega), if_pos (by omega), kg_pos (by decide)]
  | succ m ih =>
    intro f k s σ h1 h2 c hy h23 h32 hTn
    obtain ⟨f, rfl⟩ : ∃ f', f = f' + 1 := ⟨f - 1, by omega⟩
    obtain ⟨hp1, hp2⟩ := hNn k (by omega)
    have hlen := hTn (by omega)
    show ∃ σ', fb_Rm_all_91 (fl_Rm_all_91 f) x1 x2 (N.length : Int) (bg : Int) 100 1 (k : Int) σ = _ ∧ _
    unfold fb_Rm_all_91 fb_Rm_all_97 fb_Rm_all_102
    rw [kg_pos (by omega), if_neg (by omega), kg_pos (by decide), if_neg (by decide), kg_pos (by decide), if_pos rfl]
    unfold fb_Rm_all_109
    rw [kg_pos (by omega), Int.toNat_natCast, h32 k (by omega)]
    unfold fb_Rm_all_129
    obtain ⟨c1, f1⟩ := R_at0 (v := (bg : Int)) c
    have R1 : RLs ks (kup σ 9 0 22 (bg : Int)) bg := ⟨f1.TyR hy, kup_self _ _ _ _ _, (kup_j (by decide)).trans h23⟩
    obtain ⟨τ, y, z1, z2, z3⟩ := R_one (xa := ((N.getD k 0 : Nat) : Int) - (k : Int)) (xb := ((N.getD k 0 : Nat) : Int) - (k : Int)) (cu0 := s.1.2) (ch := none) (a := N.getD k 0 - k) (b := N.getD k 0 - k) (T := s.1.1) (by omega) (by omega) c1 R1 hbg (fun v hv => by rw [hcc] at hv; exact nomatch hv) (fun p hp => nomatch hp) (Nat.le_refl _) (by omega)
    rw [kbi_eq z1]
    unfold fb_Rm_all_145
    rw [hcc] at z3
    rw [drop_gd (by omega)]
    have ff := f1.tr z2
    rcases z3 with ⟨h, -⟩ | ⟨-, rfl, c2, t23⟩ | ⟨v', hv', -⟩
    · exact nomatch h
    · have hdl := dropX_n1 (T := s.1.1) (i := N.getD k 0 - k) (by omega)
      obtain ⟨σ', y1, y2, y3⟩ := ih f (k + 1) (dropX s.1.1 (N.getD k 0 - k) (N.getD k 0 - k), (((N.getD k 0 - k : Nat) : Int) - ((N.getD k 0 - k : Nat) : Int) + 1, slc s.1.1 (N.getD k 0 - k) (N.getD k 0 - k + 1))) τ (by omega) (by omega) c2 (ff.TyR hy) t23 (fun i hi => by rw [ff.2.1]; exact h32 i hi) (fun h => by dsimp only; omega)
      exact ⟨σ', y1, ff.1.tr y2, y3⟩
    · exact nomatch hv'
/-- g, the reference's side -/
theorem R_all {xa xb : Int} {a b k : Nat} {x : Tc} {σ : kS} (hxa : xa = a) (hxb : xb = b) (c : RE2 g B (x, o, bf, q, md, l) σ) (hx : wfX x) (h : RLs ks σ k) (hk : k ≤ 31) (hab : a ≤ b) (hb : b < x.1.length) : ∃ σ' y, f_Rm_all xa xb σ = some (some y, σ') ∧ frF σ σ' ∧ (((if ks.getD k 0 = 47 then (dlA ks k).elim none fun d => (ccP ks d.2).elim none fun e => chgA ks (some d.1) e a b x bf else none) = none ∧ y = 0 ∧ ∃ T' cu', RE2 g B ((T', cu'), o, bf, q, md, l) σ') ∨ ∃ r, (if ks.getD k 0 = 47 then (dlA ks k).elim none fun d => (ccP ks d.2).elim none fun e => chgA ks (some d.1) e a b x bf else none) = some r ∧ y = 1 ∧ RE2 g B (r.1, o, r.2, q, md, l) σ') := by
  subst hxa hxb
  have hl := h.1.2.2.1
  have hT1 : x.1.length ≤ 10 := c.1.1.1.1
  unfold f_Rm_all fb_Rm_all_0
  obtain ⟨τ, e1, f1, o1, k1, h1⟩ := R_take (v := 47) h (by omega) (by decide)
  rw [kbi_eq e1]
  have c1 := c.frZ f1
  unfold fb_Rm_all_6 fb_Rm_all_9
  by_cases c47 : ks.getD k 0 = 47
  · rw [if_pos c47] at h1
    rw [if_pos c47, if_pos c47, kg_pos (by decide), if_neg (by decide)]
    unfold fb_Rm_all_11
    obtain ⟨υ, e2, f2, h2⟩ := R_delim h1 hk
    rw [kbu_eq e2]
    have f12 := f1.tr f2
    have c2 := c.frZ f12
    unfold fb_Rm_all_15 fb_Rm_all_22
    rcases h2 with ⟨hn, b1, -⟩ | ⟨P, j, hd, hR, hP, hj1, hj2⟩
    · rw [hn, b1, kg_pos (by decide), if_neg (by decide)]
      exact ⟨υ, 0, rfl, f12.frF, .inl ⟨rfl, rfl, x.1, x.2, c2⟩⟩
    · rw [hd, hR.2.2, kg_pos (by decide), if_pos rfl]
      unfold fb_Rm_all_24
      obtain ⟨F', z1, z2⟩ := R_noteL (x1 := (a : Int)) (b := b) hP c2.1.1.1 hx.1.2.2.1 hb (b + 1 - a) 3000 a (υ 32 0) [] (by omega) (by omega) (fun i hi => absurd hi (Nat.not_lt_zero i)) (by show 0 + (b + 1 - a) ≤ 10; omega)
      rw [kupA_id, List.nil_append] at z1
      rw [List.nil_append] at z2
      have hnt : ntL (fun i => innA ks P (ln x.1 i)) a (b + 1 - a) = nts ks (some P) x.1 a b := rfl
      rw [hnt] at z1 z2
      show ∃ σ' y, fl_Rm_all_29 3000 (a : Int) (b : Int) (([] : List Nat).length : Int) (a : Int) υ = some (some y, σ') ∧ frF σ σ' ∧ (((ccP ks j).elim none fun e => chgA ks (some P) e a b x bf) = none ∧ _ ∨ ∃ r, ((ccP ks j).elim none fun e => chgA ks (some P) e a b x bf) = some r ∧ _)
      rw [z1]
      have hge : ∀ i, i < (nts ks (some P) x.1 a b).length → a + i ≤ (nts ks (some P) x.1 a b).getD i 0 ∧ (nts ks (some P) x.1 a b).getD i 0 < a + (b + 1 - a) := fun i hi => ntL_ge _ _ _ hi
      have hN10 : (nts ks (some P) x.1 a b).length ≤ 10 := Nat.le_trans (ntL_len _ _) (by omega)
      have hN : nts ks (some P) x.1 a b = nts ks (some P) x.1 a b := rfl
      have hchg : ∀ e, chgA ks (some P) e a b x bf = if (nts ks (some P) x.1 a b).length = 0 then none else e.elim (some (dlF (nts ks (some P) x.1 a b) 0 (x, bf))) fun v => (exF (lnB ks v.1 v.2.1 v.2.2.1 v.2.2.2) (nts ks (some P) x.1 a b) (x.1, none)).elim none fun r => some ((r.1, r.2.elim x.2 fun p => ((p : Int), 0)), bf) := by
        intro e
        unfold chgA
        split
        · rfl
        · cases e with
          | none => rfl
          | some v =>
            show Option.elim (exF (lnB ks v.1 v.2.1 v.2.2.1 v.2.2.2) (nts ks (some P) x.1 a b) (x.1, none)) none (fun r => if r.2.isNone && false then none else some ((r.1, r.2.elim x.2 fun p => ((p : Int), 0)), bf)) = Option.elim (exF (lnB ks v.1 v.2.1 v.2.2.1 v.2.2.2) (nts ks (some P) x.1 a b) (x.1, none)) none (fun r => some ((r.1, r.2.elim x.2 fun p => ((p : Int), 0)), bf))
            generalize exF (lnB ks v.1 v.2.1 v.2.2.1 v.2.2.2) (nts ks (some P) x.1 a b) (x.1, none) = E
            cases E with
            | none => rfl
            | some r =>
              show (if r.2.isNone && false then none else some ((r.1, r.2.elim x.2 fun p => ((p : Int), (0 : Int))), bf)) = some ((r.1, r.2.elim x.2 fun p => ((p : Int), 0)), bf)
              rw [Bool.and_false, if_neg Bool.false_ne_true]
      simp only [hchg]
      generalize nts ks (some P) x.1 a b = N at z2 hge hN10 ⊢
      have hk3 : ∀ a, a ≠ 32 → kupA υ 32 0 F' a = υ a := fun a ha => kupA_kk ha
      have f3 : frF υ (kupA υ 32 0 F') := ⟨fun a h1 h2 => hk3 a (by omega), fun a h1 => hk3 a (by omega), fun c hc => congrFun (congrFun (hk3 9 (by decide)) 0) c, fun j _ => congrFun (congrFun (hk3 20 (by decide)) 0) j, fun j _ => congrFun (congrFun (hk3 21 (by decide)) 0) j, fun k h1 h2 j _ => congrFun (congrFun (hk3 k (by omega)) 0) j⟩
      have c3 : RE2 g B (x, o, bf, q, md, l) (kupA υ 32 0 F') := ⟨c2.1.cg3 (fun i _ _ _ _ => congrFun (congrFun (hk3 9 (by decide)) 0) i) (fun k h1 h2 => hk3 k (by omega)), fun y hy => (c2.2 y hy).fr (fun j _ _ => congrFun (congrFun (hk3 20 (by decide)) 0) j) (fun j _ _ => congrFun (congrFun (hk3 21 (by decide)) 0) j) (fun k h1 h2 => congrFun (congrFun (hk3 k (by omega)) 0) 2)⟩
      have R3 : RLs ks (kupA υ 32 0 F') j := by
        unfold RLs TyR
        rw [hk3 9 (by decide), hk3 27 (by decide)]
        exact hR
      have z3 : ∀ i, i < N.length → kupA υ 32 0 F' 32 0 i = ((N.getD i 0 : Nat) : Int) := fun i hi => by
        rw [kupA_self']
        exact z2 i hi
      have f13 := f12.frF.tr f3
      generalize kupA υ 32 0 F' = ω at f3 c3 R3 z3 f13
      have hr := gd_rng h.1.2.2.2 j
      unfold fb_Rm_all_61
      rw [kbi_eq (R_see R3 (by omega)), R3.2.1]
      unfold fb_Rm_all_75 fb_Rm_all_81 fb_Rm_all_85 fb_Rm_all_86
      rw [kg_pos (by omega)]
      by_cases h0 : N.length = 0
      · rw [if_pos (by omega)]
        have e0 : fl_Rm_all_91 3000 (a : Int) (b : Int) (N.length : Int) (j : Int) (ks.getD j 0) 0 0 ω = some (some 0, ω) := R_all0 (k := 0) (f := 2999) (by omega) (by omega)
        rw [e0]
        refine ⟨ω, 0, rfl, f13, .inl ⟨?_, rfl, x.1, x.2, c3⟩⟩
        simp only [if_pos h0]
        cases ccP ks j <;> rfl
      · rw [if_neg (by omega)]
        simp only [if_neg h0]
        cases hcc : ccP ks j with
        | none =>
          -- the first of them rings
          obtain ⟨hp1, hp2⟩ := hge 0 (by omega)
          have : ∃ σ', ∀ n, fl_Rm_all_91 (n + 2) (a : Int) (b : Int) (N.length : Int) (j : Int) (ks.getD j 0) 1 0 ω = some (some 0, σ') ∧ frF ω σ' ∧ ∃ T' cu', RE2 g B ((T', cu'), o, bf, q, md, l) σ' := by
            obtain ⟨c4, f4⟩ := R_at0 (v := (j : Int)) c3
            have R4 : RLs ks (kup ω 9 0 22 (j : Int)) j := R3.at rfl
            obtain ⟨φ, y, y1, y2, y3⟩ := R_one (xa := ((N.getD 0 0 : Nat) : Int)) (xb := ((N.getD 0 0 : Nat) : Int)) (cu0 := x.2) (ch := none) (a := N.getD 0 0) (b := N.getD 0 0) (T := x.1) rfl rfl c4 R4 (by omega) (fun _ _ => hx.1) (fun p hp => nomatch hp) (Nat.le_refl _) (by omega)
            rw [hcc] at y3
            rcases y3 with ⟨-, rfl, c5⟩ | ⟨hh, -⟩ | ⟨v', hv', -⟩
            · refine ⟨φ, fun n => ⟨?_, f4.1.tr y2.1, x.1, x.2, c5⟩⟩
              have e97 : fl_Rm_all_91 (n + 2) (a : Int) (b : Int) (N.length : Int) (j : Int) (ks.getD j 0) 1 0 ω = fb_Rm_all_129 (fl_Rm_all_91 (n + 1)) (a : Int) (b : Int) (N.length : Int) (j : Int) (ks.getD j 0) 1 0 ((N.getD 0 0 : Nat) : Int) ω := by
                rw [show fl_Rm_all_91 (n + 2) (a : Int) (b : Int) (N.length : Int) (j : Int) (ks.getD j 0) 1 0 ω = fb_Rm_all_91 (fl_Rm_all_91 (n + 1)) (a : Int) (b : Int) (N.length : Int) (j : Int) (ks.getD j 0) 1 0 ω from rfl]
                unfold fb_Rm_all_91 fb_Rm_all_97 fb_Rm_all_102 fb_Rm_all_109 fb_Rm_all_122
                have ez : ω 32 0 (Int.toNat 0) = ((N.getD 0 0 : Nat) : Int) := z3 0 (by omega)
                rw [kg_pos (by omega), if_neg (by omega), kg_pos (by decide), if_neg (by decide), kg_pos (by omega), ez, kg_pos (by decide), kg_pos (by decide), Int.sub_zero]
                split <;> rfl
              rw [e97]
              unfold fb_Rm_all_129
              rw [kbi_eq y1]
              exact R_all0 (k := 1) (by omega) (by omega)
            · exact nomatch hh
            · exact nomatch hv'
          obtain ⟨σ', hs⟩ := this
          obtain ⟨q1, q2, q3⟩ := hs 2998
          exact ⟨σ', 0, q1, f13.tr q2, .inl ⟨rfl, rfl, q3⟩⟩
        | some e =>
          cases e with
          | none =>
            have hj100 : ks.getD j 0 = 100 := by
              unfold ccP at hcc
              split at hcc
              · assumption
              · split at hcc
                · cases hee : exP ks (j + 1) with
                  | none =>
                    rw [hee] at hcc
                    exact nomatch hcc
                  | some v =>
                    rw [hee] at hcc
                    have : (if v.2 = ks.length then some (some v.1) else none) = some (none : Option Ex) := hcc
                    split at this
                    · exact nomatch this
                    · exact nomatch this
                · exact nomatch hcc
            rw [hj100]
            obtain ⟨σ', q1, q2, q3⟩ := R_allD (x1 := (a : Int)) (x2 := (b : Int)) (n0 := x.1.length) hcc (by have := gd_lt hj100 (by decide); omega) hN10 (fun i hi => by have := hge i hi; omega) N.length 3000 0 (x, bf) ω (by omega) (by omega) c3 R3.1 R3.2.2 z3 (fun _ => by dsimp only; omega)
            exact ⟨σ', 1, q1, f13.tr q2, .inr ⟨_, rfl, rfl, q3⟩⟩
          | some v =>
            have hj115 : ks.getD j 0 = 115 := by
              unfold ccP at hcc
              split at hcc
              · split at hcc
                · exact nomatch hcc
                · exact nomatch hcc
              · split at hcc
                · assumption
                · exact nomatch hcc
            rw [hj115]
            obtain ⟨σ', y, q1, q2, q3⟩ := R_allS (x1 := (a : Int)) (x2 := (b : Int)) (x5 := 115) (cu0 := x.2) (n0 := x.1.length) (v := v) hcc (by have := gd_lt hj115 (by decide); omega) (by decide) hN10 (fun i hi => by have := hge i hi; omega) N.length 3000 0 x.1 none ω (by omega) (by omega) c3 R3.1 R3.2.2 z3 hx.1 rfl (fun p hp => nomatch hp)
            rw [List.drop_zero] at q3
            refine ⟨σ', y, q1, f13.tr q2, ?_⟩
            show (Option.elim _ _ _ = none ∧ _) ∨ ∃ r, Option.elim _ _ _ = some r ∧ _
            rcases q3 with ⟨en, rfl, hT'⟩ | ⟨r, er, rfl, cr, -⟩
            · refine .inl ⟨?_, rfl, hT'⟩
              show Option.elim (exF (lnB ks v.1 v.2.1 v.2.2.1 v.2.2.2) N (x.1, none)) _ _ = none
              rw [en]
              rfl
            · refine .inr ⟨((r.1, r.2.elim x.2 fun p => ((p : Int), 0)), bf), ?_, rfl, cr⟩
              show Option.elim (exF (lnB ks v.1 v.2.1 v.2.2.1 v.2.2.2) N (x.1, none)) _ _ = _
              rw [er]
              rfl
  · rw [if_neg c47, if_neg c47, kg_pos (by decide), if_pos rfl]
    exact ⟨τ, 0, rfl, f1.frF, .inl ⟨rfl, rfl, x.1, x.2, c1⟩⟩
end
