/-! Pure: the reference's work in COMMAND. -/
theorem SW.cmd {g : Int} {x : Tc} {o : Option Tc} {b : Int × Tx} {q : Qd} {s : Int × Int} {l : Int × List Int} {c : Int} (hg : g = 0 ∨ g = 1) (hc : 0 ≤ c ∧ c ≤ 126) (hx : wfX x) (hon : onC x) (ho : wfO o) (hb : wfB b) (hq : wfQ q) : SW g (f_Rm_work c) (some (1 - (cmdA g (x, o, b, q, (0, s.1, s.2, []), l) c).1)) (x, o, b, q, (0, s.1, s.2, []), l) (cmdA g (x, o, b, q, (0, s.1, s.2, []), l) c).2 := by
  intro σ k
  have h5 : σ 9 0 5 = 0 := k.2.2.2.2.1.1
  have e47 : f_Rm_work c σ = fb_Rm_work_47 c σ := by
    unfold f_Rm_work fb_Rm_work_0 fb_Rm_work_14
    rw [h5, kg_pos (by decide), if_neg (by decide), kg_pos (by decide), if_neg (by decide)]
  rw [e47]
  unfold fb_Rm_work_47
  rw [kg_pos (by omega)]
  by_cases h27 : c = 27
  · rw [if_pos h27]
    have hcm : cmdA g (x, o, b, q, (0, s.1, s.2, []), l) c = (1, dropQ (x, o, b, q, (0, s.1, s.2, []), l)) := by
      unfold cmdA pend
      dsimp only
      rw [if_neg (by omega), if_neg (by omega)]
      show (if c = 27 then _ else _ : Int × kEd) = _
      rw [if_pos h27]
    rw [hcm]
    obtain ⟨k1, k2, k3, k4, k5, k6, k7⟩ := k
    unfold fb_Rm_work_53 fb_Rm_work_57 f_Rm_drop fb_Rm_drop_0
    rw [kbu_eq rfl]
    refine ⟨_, rfl, ⟨k1, ?_, k3, ⟨rfl, rfl, rfl, rfl, kArr_0⟩, k5, k6, k7⟩, (((frF.rfl.kup (by decide)).kup (by decide)).kup (by decide)).kup (by decide)⟩
    cases o with
    | none => exact k2
    | some y => exact k2
  · rw [if_neg h27]
    have hq' := hq
    obtain ⟨q1, q2, q3, q4, q5, q6, q7, q8⟩ := hq'
    have hk : q.2.2.2.length ≤ 3 := by
      split at q8 <;> omega
    -- the key is noted, the text is copied
    have h12 : σ 9 0 12 = q.2.2.2.length := k.2.2.2.1.2.2.2.1
    have ka : kArr (σ 25 0) q.2.2.2 := k.2.2.2.1.2.2.2.2
    have hst : ∃ τ, f_Rm_copyText 0 2 (kup (kup σ 25 0 (Int.toNat (σ 9 0 12)) c) 9 0 12 ((kup σ 25 0 (Int.toNat (σ 9 0 12)) c) 9 0 12 + 1)) = some (none, τ) ∧ RE2 g (some x) (addK (x, o, b, q, (0, s.1, s.2, []), l) q.1 c) τ ∧ frF σ τ := by
      refine ⟨_, R_copyText (a := 0) (b := 2) (xa := 0) (xb := 2) rfl rfl (by decide) (by decide) (by decide), ?_⟩
      have h12' : ∀ j, kup σ 25 0 j c 9 0 12 = q.2.2.2.length := fun j => h12
      rw [h12, h12', Int.toNat_natCast]
      have f1 : frF σ (kup (kup σ 25 0 q.2.2.2.length c) 9 0 12 ((q.2.2.2.length : Int) + 1)) := (frF.rfl.kup (by omega)).kup (by decide)
      obtain ⟨k1, k2, k3, k4, k5, k6, k7⟩ := k
      have u0 : RX (kup (kup σ 25 0 q.2.2.2.length c) 9 0 12 ((q.2.2.2.length : Int) + 1)) 0 x := k1
      have u1 : RO (kup (kup σ 25 0 q.2.2.2.length c) 9 0 12 ((q.2.2.2.length : Int) + 1)) o := by
        cases o with
        | none => exact k2
        | some y => exact k2
      have u3 : RB (kup (kup σ 25 0 q.2.2.2.length c) 9 0 12 ((q.2.2.2.length : Int) + 1)) b := k3
      have u4 : RQ (kup (kup σ 25 0 q.2.2.2.length c) 9 0 12 ((q.2.2.2.length : Int) + 1)) (q.1, q.2.1, q.2.2.1, q.2.2.2 ++ [c]) := by
        refine ⟨k4.1, k4.2.1, k4.2.2.1, ?_, ?_⟩
        · show (q.2.2.2.length : Int) + 1 = ((q.2.2.2 ++ [c]).length : Nat)
          rw [List.length_append, List.length_singleton]
          omega
        · have e : kup (kup σ 25 0 q.2.2.2.length c) 9 0 12 ((q.2.2.2.length : Int) + 1) 25 0 = fun j => if j = q.2.2.2.length then c else σ 25 0 j := by
            rw [kup_ii (by decide), kup_f, if_pos (by decide)]
          rw [e]
          exact kArr_add ka
      have u5 : RM (kup (kup σ 25 0 q.2.2.2.length c) 9 0 12 ((q.2.2.2.length : Int) + 1)) (0, s.1, s.2, []) := k5
      have u6 : RL (kup (kup σ 25 0 q.2.2.2.length c) 9 0 12 ((q.2.2.2.length : Int) + 1)) l := k6
      have u7 : kup (kup σ 25 0 q.2.2.2.length c) 9 0 12 ((q.2.2.2.length : Int) + 1) 9 0 15 = g := k7
      generalize kup (kup σ 25 0 q.2.2.2.length c) 9 0 12 ((q.2.2.2.length : Int) + 1) = τ at f1 u0 u1 u3 u4 u5 u6 u7 ⊢
      have vo : ∀ k, (k < 20 ∨ 24 < k) → ∀ i, sX τ 0 2 k i = τ k i := fun k hk i => sX_o _ _ _ hk i
      refine ⟨⟨⟨sX_x u0 (by decide), ?_, ⟨?_, sX_T u3.2 (by decide)⟩, ?_, ?_, ?_, ?_⟩, fun y hy => by cases hy; exact sX_b u0⟩, f1.tr (frF.rfl.sX (by decide))⟩
      · cases o with
        | none =>
          show sX τ 0 2 9 0 6 = 0
          rw [vo 9 (.inl (by decide))]
          exact u1
        | some y =>
          refine ⟨?_, sX_x u1.2 (by decide)⟩
          show sX τ 0 2 9 0 6 = 1
          rw [vo 9 (.inl (by decide))]
          exact u1.1
      · rw [vo 9 (.inl (by decide))]
        exact u3.1
      · unfold RQ
        rw [vo 9 (.inl (by decide)), vo 25 (.inr (by decide))]
        exact u4
      · unfold RM
        rw [vo 9 (.inl (by decide)), vo 27 (.inr (by decide))]
        exact u5
      · unfold RL
        rw [vo 9 (.inl (by decide)), vo 26 (.inr (by decide))]
        exact u6
      · rw [vo 9 (.inl (by decide))]
        exact u7
    obtain ⟨τ, et, kt, ft⟩ := hst
    unfold fb_Rm_work_59
    rw [kg_pos (by omega), kbu_eq et]
    unfold fb_Rm_work_85
    obtain ⟨υ, eu, ku, fu⟩ := SR.cmd (g := g) (B := some x) (x := x) (o := o) (b := b) (q := q) (s := s) (l := l) (c := c) hc hx hon hb hq τ kt
    rw [kbi_eq eu]
    by_cases hp : pend (q.1, q.2.1, q.2.2.1) c = none
    · obtain ⟨z1, z2, z3, z4⟩ := EQ.cmd (g := g) (x := x) (o := o) (b := b) (q := q) (s := s) (l := l) (c := c) h27 hx hon ho hb hq hp
      generalize cmdR (x, o, b, q, (0, s.1, s.2, []), l) c = R at z1 z2 z3 z4 eu ku ⊢
      obtain ⟨w, x', o', b', q', m', l'⟩ := R
      obtain ⟨φ, ef, kf, ff⟩ := SR.fin (g := g) (B := x) (x := x') (o := o') (b := b') (q := q') (m := m') (l := l') (c := c) (w := w) hg z1 z2.1 z2.2.1 z2.2.2.1 z2.2.2.2 υ ku
      have hdd : dropQ (cmdA g (x, o, b, q, (0, s.1, s.2, []), l) c).2 = (cmdA g (x, o, b, q, (0, s.1, s.2, []), l) c).2 := by
        unfold cmdA
        dsimp only
        rw [hp]
        show dropQ (if c = 27 then _ else _ : Int × kEd).2 = (if c = 27 then _ else _ : Int × kEd).2
        rw [if_neg h27]
        repeat' split
        all_goals rfl
      have z3' : finA g x w (x', o', b', q', m', l') = dropQ (cmdA g (x, o, b, q, (0, s.1, s.2, []), l) c).2 := z3
      have z4' : (cmdA g (x, o, b, q, (0, s.1, s.2, []), l) c).1 = if w = 0 then 0 else 1 := z4
      rw [z3', hdd] at kf
      refine ⟨φ, ?_, kf.1, ft.tr (fu.tr ff)⟩
      rw [ef, z4']
      split <;> rfl
    · obtain ⟨q', hq'⟩ : ∃ q', pend (q.1, q.2.1, q.2.2.1) c = some q' := by
        cases h : pend (q.1, q.2.1, q.2.2.1) c with
        | none => exact absurd h hp
        | some q' => exact ⟨q', rfl⟩
      have e1 : cmdR (x, o, b, q, (0, s.1, s.2, []), l) c = (1, (x, o, b, (q'.1, q'.2.1, q'.2.2, q.2.2.2 ++ [c]), (0, s.1, s.2, []), l)) := by
        unfold cmdR
        dsimp only
        rw [hq']
        rfl
      have e2 : cmdA g (x, o, b, q, (0, s.1, s.2, []), l) c = (1, (x, o, b, (q'.1, q'.2.1, q'.2.2, q.2.2.2 ++ [c]), (0, s.1, s.2, []), l)) := by
        unfold cmdA
        dsimp only
        rw [hq']
        rfl
      rw [e1] at ku
      rw [e1, e2]
      refine ⟨υ, ?_, ku.1, ft.tr fu⟩
      unfold fb_Rm_work_90 fb_Rm_work_96
      rw [kg_pos (show -2147483648 ≤ (1 : Int) ∧ (1 : Int) < 2147483648 by decide), if_pos rfl]
      rfl
