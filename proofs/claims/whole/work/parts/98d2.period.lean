/-! Pure: the period. -/
abbrev mdA (A : kEd) : Int := A.2.2.2.2.1.1
abbrev lA (A : kEd) : Int × List Int := A.2.2.2.2.2
abbrev qA (A : kEd) : Int × Int × Int := (A.2.2.2.1.1, A.2.2.2.1.2.1, A.2.2.2.1.2.2.1)
theorem insA_1 (A : kEd) (c : Int) : insA 1 A c = edA A c := by
  unfold insA keepL
  rw [if_neg (show ¬ (1 : Int) = 0 by decide)]
  split
  · rfl
  · rfl
/-- a key of a change that is worked again -/
def stp (A : kEd) (c : Int) : Int × kEd := if mdA A = 0 then cmdA 1 A c else insA 1 A c
def rpS : Int → kEd → List Int → Int × kEd
  | t, A, [] => (t, A)
  | t, A, c :: cs => if (stp A c).1 = 0 then (if mdA (stp A c).2 = 0 then (0, (stp A c).2) else rpS 0 (stp A c).2 cs) else rpS t (stp A c).2 cs
/-- where the keys of a change stand: in its command, in INSERT, at its end -/
def RS (t : Int) (A : kEd) (cs : List Int) : Prop := wfE A ∧ (t = 0 ∨ t = 1) ∧ (∀ c ∈ cs, kKey c) ∧ (cs = [] ∧ mdA A = 0 ∨ (mdA A = 0 ∧ t = 1 ∧ ∃ ks k is q, cs = ks ++ k :: is ∧ pends (qA A) ks = some q ∧ pend q k = none ∧ k ≠ 27 ∧ (q.1 = 0 → k ≠ 58 ∧ k ≠ 47) ∧ (¬ insK q k ∧ is = [] ∨ insK q k ∧ ∃ js, (∀ c ∈ js, c ≠ 27) ∧ is = js ++ [27])) ∨ mdA A = 1 ∧ ∃ js, (∀ c ∈ js, c ≠ 27) ∧ cs = js ++ [27])
theorem stp_rs {t : Int} {A : kEd} {c : Int} {cs : List Int} (h : RS t A (c :: cs)) : ((stp A c).1 = 0 ∨ (stp A c).1 = 1) ∧ wfE (stp A c).2 ∧ lA (stp A c).2 = lA A ∧ (mdA (stp A c).2 = 0 ∨ mdA (stp A c).2 = 1) ∧ ((stp A c).1 = 0 ∧ mdA (stp A c).2 = 0 ∨ RS (if (stp A c).1 = 0 then 0 else t) (stp A c).2 cs) := by
  obtain ⟨hw, ht, hk, hs⟩ := h
  have hc : kKey c := hk c (List.mem_cons_self ..)
  have hk' : ∀ d ∈ cs, kKey d := fun d hd => hk d (List.mem_cons_of_mem _ hd)
  obtain ⟨x, o, b, q, ⟨m, s1, s2, ks0⟩, l⟩ := A
  obtain ⟨hx, hon, ho, hb, hq, hq0, hpd, hkk, hm⟩ := hw
  dsimp only at hx hon ho hb hq hq0 hpd hkk hm
  obtain ⟨m1, m2, m3, m4, m5, m6⟩ := hm
  dsimp only at m1 m2 m3 m4 m5 m6
  rcases hs with ⟨h0, -⟩ | ⟨hm0, rfl, ks, k, is, q', hcs, hps, hpn, hk27, hk58, hins⟩ | ⟨hm1, js, hjs, hcs⟩
  · exact nomatch h0
  · -- in the command
    have hm0' : m = 0 := hm0
    subst hm0'
    obtain rfl : ks0 = [] := m6 (show ¬ (0 : Int) = 2 by decide)
    have est : stp (x, o, b, q, (0, s1, s2, []), l) c = cmdA 1 (x, o, b, q, (0, s1, s2, []), l) c := if_pos rfl
    obtain ⟨c1, c2, c3⟩ := cmdA_wf (g := 1) (s := (s1, s2)) (l := l) hx (hon (show ¬ (0 : Int) = 1 by decide)) ho hb hq hpd hkk hc
    rw [est]
    generalize cmdA 1 (x, o, b, q, (0, s1, s2, []), l) c = r at c1 c2 c3
    dsimp only at c2 c3
    cases ks with
    | cons a ks =>
      -- still pending
      rw [List.cons_append] at hcs
      cases hcs
      have hps' : (pend (q.1, q.2.1, q.2.2.1) c).bind (fun q' => pends q' ks) = some q' := hps
      rcases c3 with ⟨q1, hq1, rfl⟩ | ⟨hn, -⟩
      · rw [hq1] at hps'
        refine ⟨.inr rfl, c1, rfl, .inl rfl, .inr ⟨c1, .inr rfl, hk', .inr (.inl ⟨rfl, rfl, ks, k, is, q', rfl, hps', hpn, hk27, hk58, hins⟩)⟩⟩
      · rw [hn] at hps'
        exact nomatch hps'
    | nil =>
      cases hcs
      have hqq : (q.1, q.2.1, q.2.2.1) = q' := Option.some.inj hps
      subst hqq
      rcases c3 with ⟨q1, hq1, -⟩ | ⟨-, c4⟩
      · rw [hpn] at hq1
        exact nomatch hq1
      · rcases c4 with ⟨a1, a2, a3⟩ | ⟨a1, a2, a3, a4⟩ | ⟨a1, -, -, a2, a3⟩
        · exact ⟨.inl a1, c1, a2, .inl a3, .inl ⟨a1, a3⟩⟩
        · have hni := a2.resolve_right hk27
          have hmr : mdA r.2 = 0 := by
            have hmm := c1.2.2.2.2.2.2.2.2.1
            rcases hmm with h | h | h
            · exact h
            · exact absurd h a4
            · obtain ⟨z1, z2⟩ := c2 h
              have := hk58 z1
              rcases z2 with z2 | z2
              · exact absurd z2 this.2
              · exact absurd z2 this.1
          rcases hins with ⟨-, rfl⟩ | ⟨hi, -⟩
          · exact ⟨.inr a1, c1, a3, .inl hmr, .inr ⟨c1, by rw [a1]; exact .inr rfl, fun d hd => (nomatch hd), .inl ⟨rfl, hmr⟩⟩⟩
          · exact absurd hi hni
        · have hl : lA r.2 = l := a2
          rcases a3 with ⟨b1, b2⟩ | ⟨b1, b2⟩
          · rcases hins with ⟨hi, -⟩ | ⟨-, js, hj1, hj2⟩
            · exact absurd b1 hi
            · exact ⟨.inr a1, c1, hl, .inr b2, .inr ⟨c1, by rw [a1]; exact .inr rfl, hk', .inr (.inr ⟨b2, js, hj1, hj2⟩)⟩⟩
          · rcases hins with ⟨-, rfl⟩ | ⟨hi, -⟩
            · exact ⟨.inr a1, c1, hl, .inl b2, .inr ⟨c1, by rw [a1]; exact .inr rfl, fun d hd => (nomatch hd), .inl ⟨rfl, b2⟩⟩⟩
            · exact absurd hi b1
  · -- in INSERT
    have hm1' : m = 1 := hm1
    subst hm1'
    obtain rfl : ks0 = [] := m6 (show ¬ (1 : Int) = 2 by decide)
    obtain rfl : q = (0, 0, 0, []) := hq0 (show ¬ (1 : Int) = 0 by decide)
    have est : stp (x, o, b, (0, 0, 0, []), (1, s1, s2, []), l) c = edA (x, o, b, (0, 0, 0, []), (1, s1, s2, []), l) c := (if_neg (show ¬ (1 : Int) = 0 by decide)).trans (insA_1 _ _)
    obtain ⟨e1, e2, e3, e4⟩ := edA_wf (s := (s1, s2)) (l := l) hx (m2 rfl) ho hb hc
    have e01 := edA_01 (x, o, b, (0, 0, 0, []), (1, s1, s2, []), l) c
    rw [est]
    generalize edA (x, o, b, (0, 0, 0, []), (1, s1, s2, []), l) c = r at e1 e2 e3 e4 e01
    have ht' : (if r.1 = 0 then 0 else t) = 0 ∨ (if r.1 = 0 then 0 else t) = 1 := by
      split
      · exact .inl rfl
      · exact ht
    cases js with
    | cons a js =>
      rw [List.cons_append] at hcs
      cases hcs
      have hc27 := hjs c (List.mem_cons_self ..)
      rw [if_neg hc27] at e2
      exact ⟨e01, e1, e3, .inr e2, .inr ⟨e1, ht', hk', .inr (.inr ⟨e2, js, fun d hd => hjs d (List.mem_cons_of_mem _ hd), rfl⟩)⟩⟩
    | nil =>
      cases hcs
      rw [if_pos rfl] at e2
      exact ⟨e01, e1, e3, .inl e2, .inr ⟨e1, ht', fun d hd => (nomatch hd), .inl ⟨rfl, e2⟩⟩⟩
theorem rpS_wf : ∀ (cs : List Int) (t : Int) (A : kEd), RS t A cs → wfE (rpS t A cs).2 ∧ mdA (rpS t A cs).2 = 0 ∧ lA (rpS t A cs).2 = lA A ∧ ((rpS t A cs).1 = 0 ∨ (rpS t A cs).1 = 1) := by
  intro cs
  induction cs with
  | nil =>
    intro t A h
    obtain ⟨hw, ht, -, hs⟩ := h
    refine ⟨hw, ?_, rfl, ht⟩
    rcases hs with ⟨-, h⟩ | ⟨-, -, ks, k, is, q, h, -⟩ | ⟨-, js, -, h⟩
    · exact h
    · cases ks <;> exact nomatch h
    · cases js <;> exact nomatch h
  | cons c cs ih =>
    intro t A h
    obtain ⟨z1, z2, z3, z4, z5⟩ := stp_rs h
    unfold rpS
    by_cases h0 : (stp A c).1 = 0
    · rw [if_pos h0]
      rw [if_pos h0] at z5
      by_cases hm : mdA (stp A c).2 = 0
      · rw [if_pos hm]
        exact ⟨z2, hm, z3, .inl rfl⟩
      · rw [if_neg hm]
        rcases z5 with ⟨-, h⟩ | h
        · exact absurd h hm
        · have := ih 0 _ h
          rw [z3] at this
          exact this
    · rw [if_neg h0]
      rw [if_neg h0] at z5
      rcases z5 with ⟨h, -⟩ | h
      · exact absurd h h0
      · have := ih t _ h
        rw [z3] at this
        exact this
/-- one key, the class's side and the reference's -/
theorem stp_c {t : Int} {A : kEd} {c : Int} {cs : List Int} (h : RS t A (c :: cs)) (hl : 0 ≤ (lA A).1 ∧ (lA A).1 ≤ 9) (hl2 : ((lA A).2.length : Int) = min 8 (lA A).1) {σ : kS} (k : CE 1 A σ) : ∃ σ', (if σ 5 0 6 = 0 then f_Kb_command c σ else f_Kb_insert c σ) = some (some (stp A c).1, σ') ∧ CE 1 (stp A c).2 σ' ∧ frE σ σ' := by
  obtain ⟨hw, ht, hk, hs⟩ := h
  have hc : kKey c := hk c (List.mem_cons_self ..)
  have hc126 : 0 ≤ c ∧ c ≤ 126 := by
    clear hs
    unfold kKey at hc
    omega
  have h6 : σ 5 0 6 = mdA A := k.2.2.2.2.1.1
  obtain ⟨x, o, b, q, ⟨m, s1, s2, ks0⟩, l⟩ := A
  obtain ⟨hx, hon, ho, hb, hq, hq0, hpd, hkk, hm⟩ := hw
  dsimp only at hx hon ho hb hq hq0 hpd hkk hm
  obtain ⟨m1, m2, m3, m4, m5, m6⟩ := hm
  dsimp only at m1 m2 m3 m4 m5 m6
  have h6' : σ 5 0 6 = m := h6
  have hmm : m = 0 ∨ m = 1 := by
    rcases hs with ⟨h0, -⟩ | ⟨h0, -⟩ | ⟨h0, -⟩
    · exact nomatch h0
    · exact .inl h0
    · exact .inr h0
  rcases hmm with rfl | rfl
  · obtain rfl : ks0 = [] := m6 (show ¬ (0 : Int) = 2 by decide)
    have est : stp (x, o, b, q, (0, s1, s2, []), l) c = cmdA 1 (x, o, b, q, (0, s1, s2, []), l) c := if_pos rfl
    rw [if_pos h6', est]
    exact SC.cmd (s := (s1, s2)) (.inr rfl) hc126 hx hb hq σ k
  · obtain rfl : ks0 = [] := m6 (show ¬ (1 : Int) = 2 by decide)
    have est : stp (x, o, b, q, (1, s1, s2, []), l) c = insA 1 (x, o, b, q, (1, s1, s2, []), l) c := if_neg (show ¬ (1 : Int) = 0 by decide)
    rw [if_neg (by rw [h6']; decide), est]
    exact SC.inser (s := (s1, s2)) (.inr rfl) hc126 hx (m2 rfl) hl hl2 σ k
theorem stp_r {t : Int} {A : kEd} {c : Int} {cs : List Int} (h : RS t A (c :: cs)) (hl : 0 ≤ (lA A).1 ∧ (lA A).1 ≤ 9) (hl2 : ((lA A).2.length : Int) = min 8 (lA A).1) {σ : kS} (k : RE 1 A σ) : ∃ σ', f_Rm_work c σ = some (some (1 - (stp A c).1), σ') ∧ RE 1 (stp A c).2 σ' ∧ frF σ σ' := by
  obtain ⟨hw, ht, hk, hs⟩ := h
  have hc : kKey c := hk c (List.mem_cons_self ..)
  have hc126 : 0 ≤ c ∧ c ≤ 126 := by
    clear hs
    unfold kKey at hc
    omega
  obtain ⟨x, o, b, q, ⟨m, s1, s2, ks0⟩, l⟩ := A
  obtain ⟨hx, hon, ho, hb, hq, hq0, hpd, hkk, hm⟩ := hw
  dsimp only at hx hon ho hb hq hq0 hpd hkk hm
  obtain ⟨m1, m2, m3, m4, m5, m6⟩ := hm
  dsimp only at m1 m2 m3 m4 m5 m6
  have hmm : m = 0 ∨ m = 1 := by
    rcases hs with ⟨h0, -⟩ | ⟨h0, -⟩ | ⟨h0, -⟩
    · exact nomatch h0
    · exact .inl h0
    · exact .inr h0
  rcases hmm with rfl | rfl
  · obtain rfl : ks0 = [] := m6 (show ¬ (0 : Int) = 2 by decide)
    have est : stp (x, o, b, q, (0, s1, s2, []), l) c = cmdA 1 (x, o, b, q, (0, s1, s2, []), l) c := if_pos rfl
    rw [est]
    exact SW.cmd (s := (s1, s2)) (.inr rfl) hc126 hx (hon (show ¬ (0 : Int) = 1 by decide)) ho hb hq σ k
  · obtain rfl : ks0 = [] := m6 (show ¬ (1 : Int) = 2 by decide)
    have est : stp (x, o, b, q, (1, s1, s2, []), l) c = insA 1 (x, o, b, q, (1, s1, s2, []), l) c := if_neg (show ¬ (1 : Int) = 0 by decide)
    rw [est]
    exact SW.inser (s := (s1, s2)) (.inr rfl) hc126 hx (m2 rfl) hl hl2 σ k
theorem gd_mid {pre cs : List Int} {c : Int} : (pre ++ c :: cs).getD pre.length 0 = c := by
  rw [gd_app, if_neg (Nat.lt_irrefl _), Nat.sub_self]
  rfl
/-- the change again, the class's side -/
theorem C_rep : ∀ (cs : List Int) (t : Int) (A : kEd) (pre : List Int) (n : Nat) (σ : kS), RS t A cs → CE 1 A σ → (lA A).1 = ((pre ++ cs).length : Int) → (lA A).2 = pre ++ cs → (pre ++ cs).length ≤ 8 → cs.length < n → ∃ σ', fl_Kb_repeat_31 n t (pre.length : Int) σ = some (some (rpS t A cs).1, kup σ' 5 0 12 0) ∧ CE 1 (rpS t A cs).2 σ' ∧ frE σ σ' := by
  intro cs
  induction cs with
  | nil =>
    intro t A pre n σ h k hl1 hl2 h8 hn
    obtain ⟨n, rfl⟩ : ∃ n', n = n' + 1 := ⟨n - 1, by omega⟩
    rw [List.append_nil] at hl1 h8
    have h61 : σ 6 1 1 = (pre.length : Int) := k.2.2.2.2.2.1.1.trans hl1
    refine ⟨σ, ?_, k, frE.rfl⟩
    simp only [fl_Kb_repeat_31, fb_Kb_repeat_31, fb_Kb_repeat_96]
    rw [h61, kg_pos (by omega), if_pos (by omega), kg_pos h.2.1]
    rfl
  | cons c cs ih =>
    intro t A pre n σ h k hl1 hl2 h8 hn
    obtain ⟨n, rfl⟩ : ∃ n', n = n' + 1 := ⟨n - 1, by omega⟩
    have hlen : (pre ++ c :: cs).length = pre.length + (cs.length + 1) := by
      rw [List.length_append, List.length_cons]
    have h61 : σ 6 1 1 = ((pre ++ c :: cs).length : Int) := k.2.2.2.2.2.1.1.trans hl1
    have ha : kArr (σ 16 1) (pre ++ c :: cs) := by
      have := k.2.2.2.2.2.1.2
      rw [show A.2.2.2.2.2.2 = pre ++ c :: cs from hl2] at this
      exact this
    have hci : σ 16 1 pre.length = c := (ha pre.length (by omega)).trans gd_mid
    have hl9 : 0 ≤ (lA A).1 ∧ (lA A).1 ≤ 9 := by omega
    have hl8 : ((lA A).2.length : Int) = min 8 (lA A).1 := by
      rw [hl2, hl1]
      omega
    obtain ⟨τ, s1, s2, s3⟩ := stp_c h hl9 hl8 k
    obtain ⟨z1, z2, z3, z4, z5⟩ := stp_rs h
    have h6 : σ 5 0 6 = mdA A := k.2.2.2.2.1.1
    have hmA : mdA A = 0 ∨ mdA A = 1 := by
      rcases h.2.2.2 with ⟨h0, -⟩ | ⟨h0, -⟩ | ⟨h0, -⟩
      · exact nomatch h0
      · exact .inl h0
      · exact .inr h0
    have t6 : τ 5 0 6 = mdA (stp A c).2 := s2.2.2.2.2.1.1
    simp only [fl_Kb_repeat_31, fb_Kb_repeat_31, fb_Kb_repeat_42]
    rw [h61, kg_pos (by omega), if_neg (by omega), Int.toNat_natCast, hci, kg_pos (by omega)]
    -- the key is worked
    have e75 : (if σ 5 0 6 = 0 then fb_Kb_repeat_59 (fl_Kb_repeat_31 n) t (pre.length : Int) c σ else fb_Kb_repeat_70 (fl_Kb_repeat_31 n) t (pre.length : Int) c σ) = fb_Kb_repeat_75 (fl_Kb_repeat_31 n) t (pre.length : Int) c (stp A c).1 τ := by
      by_cases h0 : σ 5 0 6 = 0
      · rw [if_pos h0] at s1 ⊢
        unfold fb_Kb_repeat_59
        rw [kbi_eq s1]
        rfl
      · rw [if_neg h0] at s1 ⊢
        unfold fb_Kb_repeat_70
        rw [kbi_eq s1]
    rw [e75]
    unfold fb_Kb_repeat_75 fb_Kb_repeat_78 rpS
    rw [kg_pos (by omega)]
    have hnx : ∀ t', RS t' (stp A c).2 cs → ∃ σ', fl_Kb_repeat_31 n t' ((pre.length : Int) + 1) τ = some (some (rpS t' (stp A c).2 cs).1, kup σ' 5 0 12 0) ∧ CE 1 (rpS t' (stp A c).2 cs).2 σ' ∧ frE σ σ' := by
      intro t' hr
      have hpc : (pre ++ [c]) ++ cs = pre ++ c :: cs := by rw [List.append_assoc, List.singleton_append]
      obtain ⟨σ', y1, y2, y3⟩ := ih t' (stp A c).2 (pre ++ [c]) n τ hr s2 (by rw [z3, hpc]; exact hl1) (by rw [z3, hpc]; exact hl2) (by rw [hpc]; exact h8) (by rw [List.length_cons] at hn; omega)
      rw [List.length_append, List.length_singleton] at y1
      exact ⟨σ', y1, y2, s3.tr y3⟩
    by_cases h0 : (stp A c).1 = 0
    · rw [if_pos h0, if_pos h0, t6, kg_pos (by omega)]
      rw [if_pos h0] at z5
      by_cases hm : mdA (stp A c).2 = 0
      · rw [if_pos hm, if_pos hm]
        unfold fb_Kb_repeat_87 fb_Kb_repeat_96
        rw [kg_pos (by decide)]
        exact ⟨τ, rfl, s2, s3⟩
      · rw [if_neg hm, if_neg hm]
        rcases z5 with ⟨-, h⟩ | h
        · exact absurd h hm
        · exact hnx 0 h
    · rw [if_neg h0, if_neg h0]
      rw [if_neg h0] at z5
      rcases z5 with ⟨h, -⟩ | h
      · exact absurd h h0
      · exact hnx t h
/-- the change again, the reference's side -/
theorem R_rep : ∀ (cs : List Int) (t : Int) (A : kEd) (pre : List Int) (n : Nat) (σ : kS), RS t A cs → RE 1 A σ → (lA A).1 = ((pre ++ cs).length : Int) → (lA A).2 = pre ++ cs → (pre ++ cs).length ≤ 8 → cs.length + 1 < n → ∃ σ', fl_Rm_period_27 n (1 - t) (pre.length : Int) σ = some (some (1 - (rpS t A cs).1), kup σ' 9 0 15 0) ∧ RE 1 (rpS t A cs).2 σ' ∧ frF σ σ' := by
  intro cs
  induction cs with
  | nil =>
    intro t A pre n σ h k hl1 hl2 h8 hn
    obtain ⟨n, rfl⟩ : ∃ n', n = n' + 1 := ⟨n - 1, by omega⟩
    rw [List.append_nil] at hl1 h8
    have h14 : σ 9 0 14 = (pre.length : Int) := k.2.2.2.2.2.1.1.trans hl1
    refine ⟨σ, ?_, k, frF.rfl⟩
    simp only [fl_Rm_period_27, fb_Rm_period_27, fb_Rm_period_74]
    rw [h14, kg_pos (by omega), if_pos (by omega)]
    rfl
  | cons c cs ih =>
    intro t A pre n σ h k hl1 hl2 h8 hn
    obtain ⟨n, rfl⟩ : ∃ n', n = n' + 1 := ⟨n - 1, by omega⟩
    have hlen : (pre ++ c :: cs).length = pre.length + (cs.length + 1) := by
      rw [List.length_append, List.length_cons]
    have h14 : σ 9 0 14 = ((pre ++ c :: cs).length : Int) := k.2.2.2.2.2.1.1.trans hl1
    have ha : kArr (σ 26 0) (pre ++ c :: cs) := by
      have := k.2.2.2.2.2.1.2
      rw [show A.2.2.2.2.2.2 = pre ++ c :: cs from hl2] at this
      exact this
    have hci : σ 26 0 pre.length = c := (ha pre.length (by omega)).trans gd_mid
    have hl9 : 0 ≤ (lA A).1 ∧ (lA A).1 ≤ 9 := by omega
    have hl8 : ((lA A).2.length : Int) = min 8 (lA A).1 := by
      rw [hl2, hl1]
      omega
    obtain ⟨τ, s1, s2, s3⟩ := stp_r h hl9 hl8 k
    obtain ⟨z1, z2, z3, z4, z5⟩ := stp_rs h
    have h5 : σ 9 0 5 = mdA A := k.2.2.2.2.1.1
    have ht := h.2.1
    have hmt : t = 1 ∨ mdA A = 1 := by
      rcases h.2.2.2 with ⟨h0, -⟩ | ⟨-, h0, -⟩ | ⟨h0, -⟩
      · exact nomatch h0
      · exact .inl h0
      · exact .inr h0
    have hmA : mdA A = 0 ∨ mdA A = 1 := by
      rcases h.2.2.2 with ⟨h0, -⟩ | ⟨h0, -⟩ | ⟨h0, -⟩
      · exact nomatch h0
      · exact .inl h0
      · exact .inr h0
    have t5 : τ 9 0 5 = mdA (stp A c).2 := s2.2.2.2.2.1.1
    have t14 : τ 9 0 14 = ((pre ++ c :: cs).length : Int) := s2.2.2.2.2.2.1.1.trans (by rw [show (stp A c).2.2.2.2.2.2 = lA A from z3]; exact hl1)
    simp only [fl_Rm_period_27, fb_Rm_period_27, fb_Rm_period_35, fb_Rm_period_39]
    rw [h14, kg_pos (by omega), if_neg (by omega), kg_pos (by omega), h5, kg_pos (by omega)]
    have e46 : (if 1 - t = 0 then fb_Rm_period_46 (fl_Rm_period_27 n) (1 - t) (pre.length : Int) σ else (if mdA A = 0 then fb_Rm_period_74 (1 - t) (pre.length : Int) σ else fb_Rm_period_46 (fl_Rm_period_27 n) (1 - t) (pre.length : Int) σ)) = fb_Rm_period_46 (fl_Rm_period_27 n) (1 - t) (pre.length : Int) σ := by
      by_cases h1 : 1 - t = 0
      · rw [if_pos h1]
      · rw [if_neg h1, if_neg (by omega)]
    rw [e46]
    unfold fb_Rm_period_46
    rw [Int.toNat_natCast, hci, kg_pos (by omega), kbi_eq s1]
    unfold fb_Rm_period_56 fb_Rm_period_62 fb_Rm_period_66 fb_Rm_period_67 rpS
    rw [kg_pos (by omega)]
    have hnx : ∀ t', RS t' (stp A c).2 cs → ∃ σ', fl_Rm_period_27 n (1 - t') ((pre.length : Int) + 1) τ = some (some (1 - (rpS t' (stp A c).2 cs).1), kup σ' 9 0 15 0) ∧ RE 1 (rpS t' (stp A c).2 cs).2 σ' ∧ frF σ σ' := by
      intro t' hr
      have hpc : (pre ++ [c]) ++ cs = pre ++ c :: cs := by rw [List.append_assoc, List.singleton_append]
      obtain ⟨σ', y1, y2, y3⟩ := ih t' (stp A c).2 (pre ++ [c]) n τ hr s2 (by rw [z3, hpc]; exact hl1) (by rw [z3, hpc]; exact hl2) (by rw [hpc]; exact h8) (by rw [List.length_cons] at hn; omega)
      rw [List.length_append, List.length_singleton] at y1
      exact ⟨σ', y1, y2, s3.tr y3⟩
    by_cases h0 : (stp A c).1 = 0
    · rw [if_pos (show 1 - (stp A c).1 = 1 by omega), if_pos h0]
      rw [if_pos h0] at z5
      by_cases hm : mdA (stp A c).2 = 0
      · rw [if_pos hm]
        refine ⟨τ, ?_, s2, s3⟩
        obtain ⟨n, rfl⟩ : ∃ n', n = n' + 1 := ⟨n - 1, by omega⟩
        show fb_Rm_period_27 (fl_Rm_period_27 n) 1 ((pre.length : Int) + 1) τ = some (some (1 - 0), kup τ 9 0 15 0)
        unfold fb_Rm_period_27 fb_Rm_period_35 fb_Rm_period_39 fb_Rm_period_74
        rw [t14, kg_pos (by omega), kg_pos (by decide), if_neg (show ¬ (1 : Int) = 0 by decide), t5, kg_pos (by omega), if_pos hm, ite_self]
        rfl
      · rw [if_neg hm]
        rcases z5 with ⟨-, h⟩ | h
        · exact absurd h hm
        · exact hnx 0 h
    · rw [if_neg (show ¬ 1 - (stp A c).1 = 1 by omega), if_neg h0]
      rw [if_neg h0] at z5
      rcases z5 with ⟨h, -⟩ | h
      · exact absurd h h0
      · exact hnx t h
/-- the period (1: taken, 0: it rings) -/
def perA (A : kEd) : Int × kEd := if (lA A).1 = 0 ∨ 8 < (lA A).1 then (0, A) else rpS 1 A (lA A).2
section
variable {A : kEd} {σ : kS}
theorem RS_of (hw : wfE A) (hm : mdA A = 0) (hq : A.2.2.2.1.2.2.2 = []) (hl : wfL true (lA A)) (h : ¬ ((lA A).1 = 0 ∨ 8 < (lA A).1)) : RS 1 A (lA A).2 := by
  obtain ⟨l1, l2, l3, l4, l5⟩ := hl
  obtain ⟨ks, k, q, is, e1, e2, e3, e4, e5, e6, e7⟩ := l4 (by omega) (by omega)
  have hpd := hw.2.2.2.2.2.2.1
  rw [hq] at hpd
  have hqa : qA A = (0, 0, 0) := (Option.some.inj hpd).symm
  refine ⟨hw, .inr rfl, e6, .inr (.inl ⟨hm, rfl, ks, k, is, q, e1, by rw [hqa]; exact e2, e3, e4, e5, ?_⟩)⟩
  rcases e7 with ⟨a1, a2, -⟩ | ⟨a1, js, a2, a3⟩
  · exact .inl ⟨a1, a2⟩
  · rw [if_pos rfl] at a3
    exact .inr ⟨a1, js, a2, a3⟩
theorem perA_wf (hw : wfE A) (hm : mdA A = 0) (hq : A.2.2.2.1.2.2.2 = []) (hl : wfL true (lA A)) : wfE (perA A).2 ∧ mdA (perA A).2 = 0 ∧ lA (perA A).2 = lA A ∧ ((perA A).1 = 0 ∨ (perA A).1 = 1) := by
  unfold perA
  by_cases h : (lA A).1 = 0 ∨ 8 < (lA A).1
  · rw [if_pos h]
    exact ⟨hw, hm, rfl, .inl rfl⟩
  · rw [if_neg h]
    exact rpS_wf _ _ _ (RS_of hw hm hq hl h)
theorem CE.g1 {g g' : Int} (k : CE g A σ) : CE g' A (kup σ 5 0 12 g') := by
  obtain ⟨c1, c2, c3, c4, c5, c6, c7⟩ := k
  obtain ⟨x, o, b, q, m, l⟩ := A
  refine ⟨c1, ?_, c3, c4, c5, c6, rfl⟩
  cases o with
  | none => exact c2
  | some y => exact c2
theorem RE.g1 {g g' : Int} (k : RE g A σ) : RE g' A (kup σ 9 0 15 g') := by
  obtain ⟨c1, c2, c3, c4, c5, c6, c7⟩ := k
  obtain ⟨x, o, b, q, m, l⟩ := A
  refine ⟨c1, ?_, c3, c4, c5, c6, rfl⟩
  cases o with
  | none => exact c2
  | some y => exact c2
theorem C_per (hw : wfE A) (hm : mdA A = 0) (hq : A.2.2.2.1.2.2.2 = []) (hl : wfL true (lA A)) (k : CE 0 A σ) : ∃ σ', f_Kb_repeat σ = some (some (perA A).1, σ') ∧ CE 0 (perA A).2 σ' ∧ frE σ σ' := by
  have h61 : σ 6 1 1 = (lA A).1 := k.2.2.2.2.2.1.1
  have hl0 := hl
  obtain ⟨l1, l2, l3, -, -⟩ := hl
  unfold f_Kb_repeat fb_Kb_repeat_0 fb_Kb_repeat_10 fb_Kb_repeat_20 perA
  rw [h61, kg_pos (by omega)]
  by_cases h : (lA A).1 = 0 ∨ 8 < (lA A).1
  · rw [if_pos h]
    by_cases h0 : (lA A).1 = 0
    · rw [if_pos h0]
      exact ⟨σ, rfl, k, frE.rfl⟩
    · rw [if_neg h0]
      have eT : f_Ke_isTooLong 1 σ = some (some 1, σ) := by
        unfold f_Ke_isTooLong fb_Ke_isTooLong_0 fb_Ke_isTooLong_12 fb_Ke_isTooLong_17
        rw [h61, show (((if (1 : Nat) = 0 then 4 else if (1 : Nat) = 1 then 8 else 30 : Nat)) : Int) = 8 from rfl, kg_pos (by omega), if_neg (by omega), kg_pos (by decide)]
      rw [kbi_eq eT]
      unfold fb_Kb_repeat_17 fb_Kb_repeat_20
      rw [kg_pos (by decide), if_neg (by decide)]
      exact ⟨σ, rfl, k, frE.rfl⟩
  · rw [if_neg h, if_neg (by omega)]
    have eT : f_Ke_isTooLong 1 σ = some (some 0, σ) := by
      unfold f_Ke_isTooLong fb_Ke_isTooLong_0 fb_Ke_isTooLong_16 fb_Ke_isTooLong_17
      rw [h61, show (((if (1 : Nat) = 0 then 4 else if (1 : Nat) = 1 then 8 else 30 : Nat)) : Int) = 8 from rfl, kg_pos (by omega), if_pos (by omega), kg_pos (by decide)]
    rw [kbi_eq eT]
    unfold fb_Kb_repeat_17
    rw [kg_pos (by decide), if_pos rfl]
    unfold fb_Kb_repeat_22
    obtain ⟨σ', y1, y2, y3⟩ := C_rep (lA A).2 1 A [] 3000 (kup σ 5 0 12 1) (RS_of hw hm hq hl0 h) k.g1 (by rw [List.nil_append]; omega) rfl (by rw [List.nil_append]; omega) (by omega)
    exact ⟨_, y1, y2.g1, (frE.rfl.kup (by decide)).tr (y3.kup (by decide))⟩
theorem R_per (hw : wfE A) (hm : mdA A = 0) (hq : A.2.2.2.1.2.2.2 = []) (hl : wfL true (lA A)) (k : RE 0 A σ) : ∃ σ', f_Rm_period σ = some (some (1 - (perA A).1), σ') ∧ RE 0 (perA A).2 σ' ∧ frF σ σ' := by
  have h14 : σ 9 0 14 = (lA A).1 := k.2.2.2.2.2.1.1
  have hl0 := hl
  obtain ⟨l1, l2, l3, -, -⟩ := hl
  unfold f_Rm_period fb_Rm_period_0 fb_Rm_period_7 fb_Rm_period_16 perA
  rw [h14, kg_pos (by omega)]
  by_cases h : (lA A).1 = 0 ∨ 8 < (lA A).1
  · rw [if_pos h]
    by_cases h0 : (lA A).1 = 0
    · rw [if_pos h0]
      exact ⟨σ, rfl, k, frF.rfl⟩
    · rw [if_neg h0, kg_pos (by omega), if_neg (by omega)]
      exact ⟨σ, rfl, k, frF.rfl⟩
  · rw [if_neg h, if_neg (by omega), kg_pos (by omega), if_pos (by omega)]
    unfold fb_Rm_period_18
    obtain ⟨σ', y1, y2, y3⟩ := R_rep (lA A).2 1 A [] 3000 (kup σ 9 0 15 1) (RS_of hw hm hq hl0 h) k.g1 (by rw [List.nil_append]; omega) rfl (by rw [List.nil_append]; omega) (by omega)
    exact ⟨_, y1, y2.g1, (frF.rfl.kup (by decide)).tr (y3.kup (by decide))⟩
end
