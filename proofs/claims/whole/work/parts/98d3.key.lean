/-! Pure: key. -/
/-- a key (1: taken, 0: it rings) -/
def keyA (A : kEd) (D : kDk) (c : Int) : Int × kEd × kDk :=
  if mdA A = 1 then ((insA 0 A c).1, (insA 0 A c).2, D)
  else if mdA A = 2 then askA A D c
  else if c = 46 ∧ A.2.2.2.1.2.2.2.length = 0 then ((perA A).1, (perA A).2, D)
  else ((cmdA 0 A c).1, (cmdA 0 A c).2, D)
theorem wfL_cmd {A : kEd} {c : Int} {r : Int × kEd} (hl : wfL true (lA A)) (hm : mdA A = 0) (hq : wfQ A.2.2.2.1) (hpd : pends (0, 0, 0) A.2.2.2.1.2.2.2 = some (qA A)) (hkk : ∀ c ∈ A.2.2.2.1.2.2.2, kKey c) (hc : kKey c) (h : CK 0 A c r) : wfL (decide (mdA r.2 ≠ 1)) (lA r.2) := by
  obtain ⟨-, -, h3⟩ := h
  have hsame : lA r.2 = lA A → mdA r.2 ≠ 1 → wfL (decide (mdA r.2 ≠ 1)) (lA r.2) := fun h1 h2 => by
    rw [decide_eq_true h2, h1]
    exact hl
  rcases h3 with ⟨q', -, rfl⟩ | ⟨hpn, h4⟩
  · exact hsame rfl (by show mdA A ≠ 1; rw [hm]; decide)
  · rcases h4 with ⟨-, a2, a3⟩ | ⟨-, -, a3, a4⟩ | ⟨-, a2, a3, a4, a5⟩
    · exact hsame a2 (by show mdA r.2 ≠ 1; rw [show mdA r.2 = 0 from a3]; decide)
    · exact hsame a3 a4
    · obtain ⟨q1, q2, q3, q4, q5, q6, q7, q8⟩ := hq
      have hlen : (A.2.2.2.1.2.2.2 ++ [c]).length = A.2.2.2.1.2.2.2.length + 1 := by rw [List.length_append, List.length_singleton]
      have hk3 : A.2.2.2.1.2.2.2.length ≤ 3 := by
        split at q8 <;> omega
      have hkk' : ∀ d ∈ A.2.2.2.1.2.2.2 ++ [c], kKey d := fun d hd => by
        rcases List.mem_append.1 hd with h | h
        · exact hkk d h
        · rw [List.mem_singleton.1 h]
          exact hc
      have el : lA r.2 = (((A.2.2.2.1.2.2.2 ++ [c]).length : Int), A.2.2.2.1.2.2.2 ++ [c]) := a4.trans (if_pos rfl)
      rw [el]
      have hmk : ∀ done : Bool, chOk done (A.2.2.2.1.2.2.2 ++ [c]) → wfL done (((A.2.2.2.1.2.2.2 ++ [c]).length : Int), A.2.2.2.1.2.2.2 ++ [c]) := fun done hd => ⟨by dsimp only; omega, by dsimp only; omega, by dsimp only; omega, fun _ _ => hd, fun _ => by dsimp only; omega⟩
      refine hmk _ ?_
      rcases a5 with ⟨b1, b2⟩ | ⟨b1, b2⟩
      · rw [show mdA r.2 = 1 from b2]
        exact ⟨A.2.2.2.1.2.2.2, c, qA A, [], rfl, hpd, hpn, a2, a3, hkk', .inr ⟨b1, [], fun d hd => (nomatch hd), rfl⟩⟩
      · rw [show mdA r.2 = 0 from b2]
        exact ⟨A.2.2.2.1.2.2.2, c, qA A, [], rfl, hpd, hpn, a2, a3, hkk', .inl ⟨b1, rfl, rfl⟩⟩
theorem wfL_ins {l : Int × List Int} {c : Int} (hl : wfL false l) (hc : kKey c) : wfL (decide (c = 27)) (keepL 0 l c) := by
  obtain ⟨l1, l2, l3, l4, l5⟩ := hl
  have l0 := l5 rfl
  unfold keepL
  rw [if_pos rfl]
  refine ⟨by dsimp only; omega, by dsimp only; omega, ?_, fun _ h8 => ?_, fun _ => by dsimp only; omega⟩
  · dsimp only
    split
    · rw [List.length_append, List.length_singleton]
      omega
    · omega
  · dsimp only at h8 ⊢
    rw [if_pos (by omega)]
    obtain ⟨ks, k, q, is, e1, e2, e3, e4, e5, e6, e7⟩ := l4 l0 (by omega)
    have hkk' : ∀ d ∈ l.2 ++ [c], kKey d := fun d hd => by
      rcases List.mem_append.1 hd with h | h
      · exact e6 d h
      · rw [List.mem_singleton.1 h]
        exact hc
    rcases e7 with ⟨-, -, h⟩ | ⟨a1, js, a2, a3⟩
    · exact nomatch h
    · rw [if_neg Bool.false_ne_true] at a3
      refine ⟨ks, k, q, is ++ [c], by rw [e1, List.append_assoc, List.cons_append], e2, e3, e4, e5, hkk', .inr ⟨a1, ?_⟩⟩
      by_cases h27 : c = 27
      · rw [decide_eq_true h27]
        exact ⟨js, a2, by rw [if_pos rfl, a3, h27]⟩
      · rw [decide_eq_false h27]
        refine ⟨js ++ [c], fun d hd => ?_, by rw [if_neg Bool.false_ne_true, a3]⟩
        rcases List.mem_append.1 hd with h | h
        · exact a2 d h
        · rw [List.mem_singleton.1 h]
          exact h27
/-- what key leaves -/
theorem keyA_wf {A : kEd} {D : kDk} {c : Int} (hw : wfE A) (hl : wfL (decide (mdA A ≠ 1)) (lA A)) (hD : wfD D) (hc : kKey c) : wfE (keyA A D c).2.1 ∧ wfL (decide (mdA (keyA A D c).2.1 ≠ 1)) (lA (keyA A D c).2.1) ∧ wfD (keyA A D c).2.2 ∧ ((keyA A D c).1 = 0 ∨ (keyA A D c).1 = 1) := by
  have hw0 := hw
  obtain ⟨x, o, b, q, ⟨m, s1, s2, ks0⟩, l⟩ := A
  obtain ⟨hx, hon, ho, hb, hq, hq0, hpd, hkk, hm⟩ := hw
  dsimp only at hx hon ho hb hq hq0 hpd hkk hm
  obtain ⟨m1, m2, m3, m4, m5, m6⟩ := hm
  dsimp only at m1 m2 m3 m4 m5 m6
  unfold keyA
  rcases m1 with rfl | rfl | rfl
  · obtain rfl : ks0 = [] := m6 (show ¬ (0 : Int) = 2 by decide)
    rw [if_neg (show ¬ (0 : Int) = 1 by decide), if_neg (show ¬ (0 : Int) = 2 by decide)]
    have hlt : wfL true l := hl
    by_cases h46 : c = 46 ∧ q.2.2.2.length = 0
    · rw [if_pos h46]
      obtain ⟨p1, p2, p3, p4⟩ := perA_wf hw0 rfl (List.eq_nil_of_length_eq_zero h46.2) hlt
      refine ⟨p1, ?_, hD, p4⟩
      show wfL (decide (mdA (perA _).2 ≠ 1)) (lA (perA _).2)
      rw [p3, p2]
      exact hlt
    · rw [if_neg h46]
      have hk := cmdA_wf (g := 0) (s := (s1, s2)) (l := l) hx (hon (show ¬ (0 : Int) = 1 by decide)) ho hb hq hpd hkk hc
      refine ⟨hk.1, wfL_cmd (A := (x, o, b, q, (0, s1, s2, []), l)) hlt rfl hq hpd hkk hc hk, hD, ?_⟩
      rcases hk.2.2 with ⟨q', -, e⟩ | ⟨-, ⟨e, -⟩ | ⟨e, -⟩ | ⟨e, -⟩⟩
      · exact .inr (congrArg Prod.fst e)
      · exact .inl e
      · exact .inr e
      · exact .inr e
  · obtain rfl : ks0 = [] := m6 (show ¬ (1 : Int) = 2 by decide)
    obtain rfl : q = (0, 0, 0, []) := hq0 (show ¬ (1 : Int) = 0 by decide)
    rw [if_pos rfl]
    have hlf : wfL false l := hl
    obtain ⟨e1, e2, e3, e4⟩ := edA_wf (s := (s1, s2)) (l := l) hx (m2 rfl) ho hb hc
    have e01 := edA_01 (x, o, b, (0, 0, 0, []), (1, s1, s2, []), l) c
    dsimp only at e1 e2 e3 e4
    unfold insA
    dsimp only
    generalize edA (x, o, b, (0, 0, 0, []), (1, s1, s2, []), l) c = r at e1 e2 e3 e4 e01
    by_cases h0 : r.1 = 0
    · rw [if_pos h0]
      have h27 : c ≠ 27 := fun h => by
        have := e4 h
        omega
      rw [if_neg h27] at e2
      refine ⟨e1, ?_, hD, e01⟩
      rw [show mdA r.2 = 1 from e2, show lA r.2 = l from e3]
      exact hlf
    · rw [if_neg h0]
      refine ⟨e1, ?_, hD, e01⟩
      show wfL (decide (r.2.2.2.2.2.1.1 ≠ 1)) (keepL 0 r.2.2.2.2.2.2 c)
      rw [e3, e2]
      have := wfL_ins hlf hc
      by_cases h27 : c = 27
      · rw [decide_eq_true h27] at this
        rw [if_pos h27]
        exact this
      · rw [decide_eq_false h27] at this
        rw [if_neg h27]
        exact this
  · obtain rfl : q = (0, 0, 0, []) := hq0 (show ¬ (2 : Int) = 0 by decide)
    rw [if_neg (show ¬ (2 : Int) = 1 by decide), if_pos rfl]
    have hlt : wfL true l := hl
    obtain ⟨a1, a2, a3, a4⟩ := askA_wf (s1 := s1) (sr := s2) (l := l) hx (hon (show ¬ (2 : Int) = 1 by decide)) ho hb hD m4 m5 (m3 rfl) hc
    refine ⟨a1, ?_, a2, ?_⟩
    · rw [decide_eq_true (show mdA (askA (x, o, b, (0, 0, 0, []), (2, s1, s2, ks0), l) D c).2.1 ≠ 1 from a3), show lA (askA (x, o, b, (0, 0, 0, []), (2, s1, s2, ks0), l) D c).2.1 = l from a4]
      exact hlt
    · unfold askA
      split
      · split
        · exact .inr rfl
        · exact .inl rfl
      split
      · exact .inr rfl
      split
      · split
        · cases srcA ks0 x with
          | none => exact .inl rfl
          | some y => exact .inr rfl
        · cases caA ks0 x o b D with
          | none => exact .inl rfl
          | some y => exact .inr rfl
      · exact .inr rfl
/-- key before the window, the class's side -/
theorem C_key {A : kEd} {D : kDk} {c : Int} {σ : kS} (hw : wfE A) (hl : wfL (decide (mdA A ≠ 1)) (lA A)) (hD : wfD D) (hc : kKey c) (k : CE 0 A σ) (d : CD D σ) : ∃ σ', fb_Ks_key_9 c σ = fb_Ks_key_98 c (keyA A D c).1 σ' ∧ CE 0 (keyA A D c).2.1 σ' ∧ CD (keyA A D c).2.2 σ' ∧ ∀ k, k = 4 ∨ k = 9 ∨ k = 15 ∨ 20 ≤ k → σ' k = σ k := by
  have hw0 := hw
  have hc126 : 0 ≤ c ∧ c ≤ 126 := by
    have hc' := hc
    unfold kKey at hc'
    omega
  have h6 : σ 5 0 6 = mdA A := k.2.2.2.2.1.1
  have h61 : σ 6 0 1 = (A.2.2.2.1.2.2.2.length : Int) := k.2.2.2.1.2.2.2.1
  have hE : ∀ υ, frE σ υ → CD D υ ∧ ∀ k, k = 4 ∨ k = 9 ∨ k = 15 ∨ 20 ≤ k → υ k = σ k := fun υ f => ⟨d.frE f, fun k hk => f.1 k (by omega)⟩
  obtain ⟨x, o, b, q, ⟨m, s1, s2, ks0⟩, l⟩ := A
  obtain ⟨hx, hon, ho, hb, hq, hq0, hpd, hkk, hm⟩ := hw
  dsimp only at hx hon ho hb hq hq0 hpd hkk hm h61
  replace h6 : σ 5 0 6 = m := h6
  obtain ⟨m1, m2, m3, m4, m5, m6⟩ := hm
  dsimp only at m1 m2 m3 m4 m5 m6
  have hl' := hl
  obtain ⟨l1, l2, l3, -, -⟩ := hl
  unfold fb_Ks_key_9 keyA
  rw [h6]
  rcases m1 with rfl | rfl | rfl
  · obtain rfl : ks0 = [] := m6 (show ¬ (0 : Int) = 2 by decide)
    have hlt : wfL true l := hl'
    rw [kg_pos (by decide), if_neg (show ¬ (0 : Int) = 1 by decide), if_neg (show ¬ (0 : Int) = 2 by decide), if_neg (show ¬ (0 : Int) = 1 by decide), if_neg (show ¬ (0 : Int) = 2 by decide)]
    unfold fb_Ks_key_68
    have hk3 : q.2.2.2.length ≤ 3 := by
      obtain ⟨q1, q2, q3, q4, q5, q6, q7, q8⟩ := hq
      split at q8 <;> omega
    have eR : f_Kb_isRepeat c σ = some (some (if c = 46 ∧ q.2.2.2.length = 0 then 1 else 0), σ) := by
      unfold f_Kb_isRepeat fb_Kb_isRepeat_0 fb_Kb_isRepeat_7 fb_Kb_isRepeat_13 fb_Kb_isRepeat_23 fb_Kb_isRepeat_27 fb_Kb_isRepeat_28
      rw [h6, h61, kg_pos (by decide), if_pos rfl, kg_pos (by omega)]
      by_cases h46 : c = 46
      · rw [if_pos h46, kg_pos (by omega)]
        by_cases h0 : q.2.2.2.length = 0
        · rw [if_pos (by omega), kg_pos (by decide), if_pos ⟨h46, h0⟩]
        · rw [if_neg (by omega), kg_pos (by decide), if_neg (fun h => h0 h.2)]
      · rw [if_neg h46, kg_pos (by decide), if_neg (fun h => h46 h.1)]
    rw [kbi_eq eR]
    unfold fb_Ks_key_76
    dsimp only
    by_cases h46 : c = 46 ∧ q.2.2.2.length = 0
    · rw [if_pos h46, if_pos h46, kg_pos (by decide), if_neg (by decide)]
      unfold fb_Ks_key_79 fb_Ks_key_86 fb_Ks_key_97
      obtain ⟨σ', y1, y2, y3⟩ := C_per hw0 rfl (List.eq_nil_of_length_eq_zero h46.2) hlt k
      rw [kbi_eq y1]
      obtain ⟨d1, k1⟩ := hE σ' y3
      exact ⟨σ', rfl, y2, d1, k1⟩
    · rw [if_neg h46, if_neg h46, kg_pos (by decide), if_pos rfl]
      unfold fb_Ks_key_89 fb_Ks_key_97
      obtain ⟨σ', y1, y2, y3⟩ := SC.cmd (g := 0) (s := (s1, s2)) (o := o) (l := l) (c := c) (.inl rfl) hc126 hx hb hq σ k
      rw [kbi_eq y1]
      obtain ⟨d1, k1⟩ := hE σ' y3
      exact ⟨σ', rfl, y2, d1, k1⟩
  · obtain rfl : ks0 = [] := m6 (show ¬ (1 : Int) = 2 by decide)
    rw [kg_pos (by decide), if_pos rfl, if_pos rfl]
    unfold fb_Ks_key_44 fb_Ks_key_52
    obtain ⟨σ', y1, y2, y3⟩ := SC.inser (g := 0) (s := (s1, s2)) (o := o) (b := b) (q := q) (l := l) (c := c) (.inl rfl) hc126 hx (m2 rfl) ⟨l1, l2⟩ l3 σ k
    rw [kbi_eq y1]
    obtain ⟨d1, k1⟩ := hE σ' y3
    exact ⟨σ', rfl, y2, d1, k1⟩
  · rw [kg_pos (by decide), if_neg (show ¬ (2 : Int) = 1 by decide), if_pos rfl, if_neg (show ¬ (2 : Int) = 1 by decide), if_pos rfl]
    unfold fb_Ks_key_56 fb_Ks_key_64
    obtain ⟨σ', y1, y2, y3, y4⟩ := C_ask hc k d hx hD.2.2.1 m4 m5 (m3 rfl)
    rw [kbi_eq y1]
    exact ⟨σ', rfl, y2, y3, y4⟩
/-- key before the window, the reference's side -/
theorem R_key {A : kEd} {D : kDk} {c : Int} {σ : kS} (hw : wfE A) (hl : wfL (decide (mdA A ≠ 1)) (lA A)) (hD : wfD D) (hc : kKey c) (k : RE 0 A σ) (d : RD D σ) : ∃ σ', fb_Rm_key_32 c σ = fb_Rm_key_66 c (1 - (keyA A D c).1) σ' ∧ RE 0 (keyA A D c).2.1 σ' ∧ RD (keyA A D c).2.2 σ' ∧ frU σ σ' := by
  have hw0 := hw
  have hc126 : 0 ≤ c ∧ c ≤ 126 := by
    have hc' := hc
    unfold kKey at hc'
    omega
  have h5 : σ 9 0 5 = mdA A := k.2.2.2.2.1.1
  have h12 : σ 9 0 12 = (A.2.2.2.1.2.2.2.length : Int) := k.2.2.2.1.2.2.2.1
  obtain ⟨x, o, b, q, ⟨m, s1, s2, ks0⟩, l⟩ := A
  obtain ⟨hx, hon, ho, hb, hq, hq0, hpd, hkk, hm⟩ := hw
  dsimp only at hx hon ho hb hq hq0 hpd hkk hm h12
  replace h5 : σ 9 0 5 = m := h5
  obtain ⟨m1, m2, m3, m4, m5, m6⟩ := hm
  dsimp only at m1 m2 m3 m4 m5 m6
  have hl' := hl
  obtain ⟨l1, l2, l3, -, -⟩ := hl
  unfold fb_Rm_key_32 keyA
  rw [h5]
  rcases m1 with rfl | rfl | rfl
  · obtain rfl : ks0 = [] := m6 (show ¬ (0 : Int) = 2 by decide)
    have hlt : wfL true l := hl'
    rw [kg_pos (by decide), if_pos rfl, if_neg (show ¬ (0 : Int) = 1 by decide), if_neg (show ¬ (0 : Int) = 2 by decide)]
    unfold fb_Rm_key_39 fb_Rm_key_45
    have hk3 : q.2.2.2.length ≤ 3 := by
      obtain ⟨q1, q2, q3, q4, q5, q6, q7, q8⟩ := hq
      split at q8 <;> omega
    rw [h12, kg_pos (by omega)]
    dsimp only
    have ew : (if c = 46 then kg (-2147483648 ≤ (q.2.2.2.length : Int) ∧ (q.2.2.2.length : Int) < 2147483648) (if (q.2.2.2.length : Int) = 0 then fb_Rm_key_52 c σ else fb_Rm_key_60 c σ) else fb_Rm_key_60 c σ) = if c = 46 ∧ q.2.2.2.length = 0 then fb_Rm_key_52 c σ else fb_Rm_key_60 c σ := by
      by_cases h46 : c = 46
      · rw [if_pos h46, kg_pos (by omega)]
        by_cases h0 : q.2.2.2.length = 0
        · rw [if_pos (by omega), if_pos ⟨h46, h0⟩]
        · rw [if_neg (by omega), if_neg (fun h => h0 h.2)]
      · rw [if_neg h46, if_neg (fun h => h46 h.1)]
    rw [ew]
    by_cases h46 : c = 46 ∧ q.2.2.2.length = 0
    · rw [if_pos h46, if_pos h46]
      unfold fb_Rm_key_52 fb_Rm_key_56
      obtain ⟨σ', y1, y2, y3⟩ := R_per hw0 rfl (List.eq_nil_of_length_eq_zero h46.2) hlt k
      rw [kbi_eq y1]
      exact ⟨σ', rfl, y2, d.frF y3, y3.u⟩
    · rw [if_neg h46, if_neg h46]
      unfold fb_Rm_key_60 fb_Rm_key_65
      obtain ⟨σ', y1, y2, y3⟩ := SW.cmd (g := 0) (s := (s1, s2)) (l := l) (c := c) (.inl rfl) hc126 hx (hon (show ¬ (0 : Int) = 1 by decide)) ho hb hq σ k
      rw [kbi_eq y1]
      exact ⟨σ', rfl, y2, d.frF y3, y3.u⟩
  · obtain rfl : ks0 = [] := m6 (show ¬ (1 : Int) = 2 by decide)
    rw [kg_pos (by decide), if_neg (show ¬ (1 : Int) = 0 by decide), if_pos rfl]
    unfold fb_Rm_key_60 fb_Rm_key_65
    obtain ⟨σ', y1, y2, y3⟩ := SW.inser (g := 0) (s := (s1, s2)) (o := o) (b := b) (q := q) (l := l) (c := c) (.inl rfl) hc126 hx (m2 rfl) ⟨l1, l2⟩ l3 σ k
    rw [kbi_eq y1]
    exact ⟨σ', rfl, y2, d.frF y3, y3.u⟩
  · rw [kg_pos (by decide), if_neg (show ¬ (2 : Int) = 0 by decide), if_neg (show ¬ (2 : Int) = 1 by decide), if_pos rfl]
    unfold fb_Rm_key_60 fb_Rm_key_65
    obtain ⟨σ', y1, y2, y3, y4⟩ := R_ask hc k d hx (hon (show ¬ (2 : Int) = 1 by decide)) ho hb hD m4 m5 (m3 rfl)
    rw [kbi_eq y1]
    exact ⟨σ', rfl, y2, y3, y4⟩
theorem st_key {n : Nat} {σ : kS} (hJ : J n σ) (c : Int) (hc : -2147483648 ≤ c ∧ c < 2147483648) : kSame (J (n + 1)) (f_Ks_key c) (f_Rm_key c) σ := by
  have eI : ∀ σ, f_Ks_isKey c σ = some (some (if 32 ≤ c ∧ c ≤ 126 ∨ c = 27 ∨ c = 10 ∨ c = 8 then 1 else 0), σ) := by
    intro σ
    unfold f_Ks_isKey fb_Ks_isKey_0 fb_Ks_isKey_6 fb_Ks_isKey_12 fb_Ks_isKey_18 fb_Ks_isKey_24 fb_Ks_isKey_30 fb_Ks_isKey_34 fb_Ks_isKey_35
    simp only [kg_pos hc]
    rw [kg_pos (by decide), kg_pos (by decide)]
    by_cases h : 32 ≤ c ∧ c ≤ 126 ∨ c = 27 ∨ c = 10 ∨ c = 8
    · rw [if_pos h]
      split
      · split
        · rfl
        · split
          · rfl
          · rw [if_pos (by omega)]
      · split
        · rfl
        · split
          · rfl
          · split
            · rfl
            · rw [if_pos (by omega)]
    · rw [if_neg h]
      split
      · rw [if_neg (by omega), if_neg (by omega), if_neg (by omega)]
      · rw [if_neg (by omega), if_neg (by omega), if_neg (by omega), if_neg (by omega)]
  by_cases hk : kKey c
  · obtain ⟨A, D, W, w, pc, pr⟩ := hJ
    obtain ⟨k1, k2, k3, k4⟩ := keyA_wf w.1 w.2.1 w.2.2.1 hk
    have hx' : wfX (keyA A D c).2.1.1 := k1.1
    refine kSame.mk (y := 1 - (keyA A D c).1) (A' := (keyA A D c).2.1) (D' := (keyA A D c).2.2) (W' := showW (keyA A D c).2.1.1 W) ?_ ?_ ⟨k1, k2, k3, showW_wf hx' w.2.2.2⟩ pc pr
    · intro τ p
      obtain ⟨υ, y1, y2, y3, y4⟩ := C_key w.1 w.2.1 w.2.2.1 hk p.1 p.2.1
      have pu : PC (keyA A D c).2.1 (keyA A D c).2.2 W υ := ⟨y2, y3, p.2.2.cg (y4 4 (by decide)) (congrFun (y4 15 (by decide)) 0)⟩
      obtain ⟨ω, z1, z2, z3⟩ := PC.show hx' w.2.2.2 pu
      refine ⟨ω, ?_, z2, frC.tr (fun a ha => y4 a (by omega)) z3⟩
      unfold f_Ks_key fb_Ks_key_0
      rw [kbi_eq (eI τ), if_pos (show 32 ≤ c ∧ c ≤ 126 ∨ c = 27 ∨ c = 10 ∨ c = 8 from hk)]
      unfold fb_Ks_key_4
      rw [kg_pos (by decide), if_neg (by decide), y1]
      unfold fb_Ks_key_98 fb_Ks_key_112 fb_Ks_key_116 fb_Ks_key_120 fb_Ks_key_121
      rw [kbu_eq z1, kg_pos (by omega)]
      rcases k4 with h | h
      · rw [h, if_pos rfl]
        rfl
      · rw [h, if_neg (by decide)]
        rfl
    · intro τ p
      obtain ⟨υ, y1, y2, y3, y4⟩ := R_key w.1 w.2.1 w.2.2.1 hk p.1 p.2.1
      have pu : PR (keyA A D c).2.1 (keyA A D c).2.2 W υ := ⟨y2, y3, p.2.2.frU y4⟩
      obtain ⟨ω, z1, z2, z3⟩ := PR.draw hx' w.2.2.2 pu
      refine ⟨ω, ?_, z2, frR.tr (fun a ha hb => y4.1 a ha hb) z3⟩
      have e32 : f_Rm_key c τ = fb_Rm_key_32 c τ := by
        unfold f_Rm_key fb_Rm_key_0 fb_Rm_key_6 fb_Rm_key_12 fb_Rm_key_18 fb_Rm_key_24
        simp only [kg_pos hc]
        unfold kKey at hk
        split
        · split
          · rfl
          · split
            · rfl
            · rw [if_pos (by omega)]
        · split
          · rfl
          · split
            · rfl
            · split
              · rfl
              · rw [if_pos (by omega)]
      rw [e32, y1]
      unfold fb_Rm_key_66 fb_Rm_key_70
      rw [kbu_eq z1]
  · refine kSame.read hJ ⟨-1, ?_, ?_⟩
    · unfold f_Ks_key fb_Ks_key_0
      rw [kbi_eq (eI σ), if_neg (show ¬ (32 ≤ c ∧ c ≤ 126 ∨ c = 27 ∨ c = 10 ∨ c = 8) from hk)]
      unfold fb_Ks_key_4 fb_Ks_key_7
      rw [kg_pos (by decide), if_pos rfl]
    · unfold f_Rm_key fb_Rm_key_0 fb_Rm_key_6 fb_Rm_key_12 fb_Rm_key_18 fb_Rm_key_24 fb_Rm_key_30
      simp only [kg_pos hc]
      unfold kKey at hk
      split
      · rw [if_neg (by omega), if_neg (by omega), if_neg (by omega)]
      · rw [if_neg (by omega), if_neg (by omega), if_neg (by omega), if_neg (by omega)]
