/-! Pure: what the reference's work does around a command. -/
def SW (g : Int) (f : kS → kRes) (r : Option Int) (A A' : kEd) : Prop := ∀ σ, RE g A σ → ∃ σ', f σ = some (r, σ') ∧ RE g A' σ' ∧ frF σ σ'
def keepL (g : Int) (l : Int × List Int) (c : Int) : Int × List Int := if g = 0 then (min 9 (l.1 + 1), if l.1 < 8 then l.2 ++ [c] else l.2) else l
theorem SR.keep {g : Int} {B : Option Tc} {x : Tc} {o : Option Tc} {b : Int × Tx} {q : Qd} {m : Md} {l : Int × List Int} {c : Int} (hg : g = 0 ∨ g = 1) (hl : 0 ≤ l.1 ∧ l.1 ≤ 9) (hl2 : (l.2.length : Int) = min 8 l.1) : SR g B (f_Rm_keep c) none (x, o, b, q, m, l) (x, o, b, q, m, keepL g l c) := by
  intro σ k
  obtain ⟨⟨k1, k2, k3, k4, k5, k6, k7⟩, k8⟩ := k
  have h15 : σ 9 0 15 = g := k7
  have h14 : σ 9 0 14 = l.1 := k6.1
  have ka : kArr (σ 26 0) l.2 := k6.2
  unfold f_Rm_keep fb_Rm_keep_0 keepL
  rw [h15, kg_pos (by omega)]
  by_cases h0 : g = 0
  · rw [if_pos h0, if_pos h0]
    unfold fb_Rm_keep_8
    rw [h14, kg_pos (by omega)]
    by_cases h8 : l.1 < 8
    · rw [if_pos h8, if_neg (by omega)]
      unfold fb_Rm_keep_17 fb_Rm_keep_27 fb_Rm_keep_37 fb_Rm_keep_46 fb_Rm_keep_48
      have h14' : ∀ j, kup σ 26 0 j c 9 0 14 = l.1 := fun j => h14
      rw [h14, kg_pos (by omega), h14', kg_pos (by omega), if_neg (by omega)]
      refine ⟨_, rfl, ⟨⟨k1, ?_, k3, k4, k5, ⟨?_, ?_⟩, k7⟩, k8⟩, (frF.rfl.kup (by omega)).kup (by decide)⟩
      · cases o with
        | none => exact k2
        | some y => exact k2
      · show l.1 + 1 = min 9 (l.1 + 1)
        omega
      · have e : kup (kup σ 26 0 l.1.toNat c) 9 0 14 (l.1 + 1) 26 0 = fun j => if j = l.2.length then c else σ 26 0 j := by
          rw [kup_ii (by decide), kup_f, if_pos (by decide), show l.1.toNat = l.2.length by omega]
        show kArr (kup (kup σ 26 0 l.1.toNat c) 9 0 14 (l.1 + 1) 26 0) (l.2 ++ [c])
        rw [e]
        exact kArr_add ka
    · rw [if_neg h8, if_pos (by omega)]
      unfold fb_Rm_keep_27 fb_Rm_keep_37 fb_Rm_keep_46 fb_Rm_keep_48
      rw [h14, kg_pos (by omega)]
      have e9 : (if 9 ≤ l.1 then (some ((none : Option Int), kup σ 9 0 14 9) : kRes) else some (none, kup σ 9 0 14 (l.1 + 1))) = some (none, kup σ 9 0 14 (min 9 (l.1 + 1))) := by
        split
        · rw [show min 9 (l.1 + 1) = 9 by omega]
        · rw [show min 9 (l.1 + 1) = l.1 + 1 by omega]
      rw [e9]
      refine ⟨_, rfl, ⟨⟨k1, ?_, k3, k4, k5, ⟨rfl, ka⟩, k7⟩, k8⟩, frF.rfl.kup (by decide)⟩
      cases o with
      | none => exact k2
      | some y => exact k2
  · rw [if_neg h0, if_neg h0]
    exact ⟨σ, rfl, ⟨⟨k1, k2, k3, k4, k5, k6, k7⟩, k8⟩, frF.rfl⟩
theorem SR.changed {g : Int} {B x : Tc} {o : Option Tc} {b : Int × Tx} {q : Qd} {m : Md} {l : Int × List Int} : SR g (some B) f_Rm_changed none (x, o, b, q, m, l) (x, some B, b, q, m, l) := by
  intro σ k
  obtain ⟨⟨c1, c2, c3, c4, c5, c6, c7⟩, c8⟩ := k
  have hx0 : RX σ 0 x := c1
  have hB : RT σ 4 b.2 := c3.2
  unfold f_Rm_changed fb_Rm_changed_0
  rw [kbu_eq (R_copyText (a := 2) (b := 1) (xa := 2) (xb := 1) rfl rfl (by decide) (by decide) (by decide))]
  unfold fb_Rm_changed_6
  have v0 : RX (sX σ 2 1) 0 x := sX_x hx0 (by decide)
  have v1 : RX (sX σ 2 1) 1 B := sX_b (c8 B rfl)
  have v2 : ∀ y, some B = some y → RX (sX σ 2 1) 2 y := fun y hy => sX_x (c8 y hy) (by decide)
  have v4 : RT (sX σ 2 1) 4 b.2 := sX_T hB (by decide)
  have vf : frF σ (sX σ 2 1) := frF.rfl.sX (by decide)
  have vo : ∀ k, (k < 20 ∨ 24 < k) → ∀ i, sX σ 2 1 k i = σ k i := fun k hk i => sX_o _ _ _ hk i
  have k3 : sX σ 2 1 9 0 7 = b.1 := by
    rw [vo 9 (.inl (by decide))]
    exact c3.1
  have k4 : RQ (sX σ 2 1) q := by
    unfold RQ
    rw [vo 9 (.inl (by decide)), vo 25 (.inr (by decide))]
    exact c4
  have k5 : RM (sX σ 2 1) m := by
    unfold RM
    rw [vo 9 (.inl (by decide)), vo 27 (.inr (by decide))]
    exact c5
  have k6 : RL (sX σ 2 1) l := by
    unfold RL
    rw [vo 9 (.inl (by decide)), vo 26 (.inr (by decide))]
    exact c6
  have k7 : sX σ 2 1 9 0 15 = g := by
    rw [vo 9 (.inl (by decide))]
    exact c7
  generalize sX σ 2 1 = τ at v0 v1 v2 v4 vf k3 k4 k5 k6 k7 ⊢
  exact ⟨_, rfl, ⟨⟨v0, ⟨rfl, v1⟩, ⟨k3, v4⟩, k4, k5, k6, k7⟩, v2⟩, vf.kup (by decide)⟩
theorem SR.keepLoop {g : Int} {B : Option Tc} {x : Tc} {o : Option Tc} {b : Int × Tx} {q : Qd} {mm : Md} {c w : Int} {r : Option Int} {A' : kEd} (hg : g = 0) (hq : q.2.2.2.length ≤ 4) (hend : SR g B (fb_Rm_work_152 c w) r (x, o, b, q, mm, ((q.2.2.2.length : Int), q.2.2.2)) A') : ∀ (m n k : Nat), k + m = q.2.2.2.length → m < n → SR g B (fl_Rm_work_128 n c w (k : Int)) r (x, o, b, q, mm, ((k : Int), q.2.2.2.take k)) A' := by
  intro m
  induction m with
  | zero =>
    intro n k h1 h2
    obtain ⟨n, rfl⟩ : ∃ n', n = n' + 1 := ⟨n - 1, by omega⟩
    have hk : k = q.2.2.2.length := by omega
    rw [hk, List.take_of_length_le (Nat.le_refl _)]
    refine SR.cg hend fun σ k' => ?_
    have h12 : σ 9 0 12 = q.2.2.2.length := k'.1.2.2.2.1.2.2.2.1
    simp only [fl_Rm_work_128, fb_Rm_work_128]
    rw [h12, kg_pos (by omega), if_pos (by omega)]
  | succ m ih =>
    intro n k h1 h2
    obtain ⟨n, rfl⟩ : ∃ n', n = n' + 1 := ⟨n - 1, by omega⟩
    have hi := ih n (k + 1) (by omega) (by omega)
    have hlen : (q.2.2.2.take k).length = k := by
      rw [List.length_take]
      omega
    have h4 : q.2.2.2.take (k + 1) = q.2.2.2.take k ++ [q.2.2.2.getD k 0] := by
      rw [List.take_succ_eq_append_getElem (by omega), List.getD_eq_getElem?_getD, List.getElem?_eq_getElem (by omega)]
      rfl
    refine SR.cg (f := fun σ => kbu (f_Rm_keep (q.2.2.2.getD k 0) σ) fun σ1 => fl_Rm_work_128 n c w ((k + 1 : Nat) : Int) σ1) ?_ fun σ k' => ?_
    · have hK := SR.keep (g := g) (B := B) (x := x) (o := o) (b := b) (q := q) (m := mm) (l := ((k : Int), q.2.2.2.take k)) (c := q.2.2.2.getD k 0) (.inl hg) (by dsimp only; omega) (by dsimp only; omega)
      unfold keepL at hK
      rw [if_pos hg] at hK
      dsimp only at hK
      rw [if_pos (by omega), ← h4, show min 9 ((k : Int) + 1) = ((k + 1 : Nat) : Int) by omega] at hK
      exact SR.u hK hi
    · have h12 : σ 9 0 12 = q.2.2.2.length := k'.1.2.2.2.1.2.2.2.1
      have h25 : σ 25 0 k = q.2.2.2.getD k 0 := k'.1.2.2.2.1.2.2.2.2 k (show k < q.2.2.2.length by omega)
      simp only [fl_Rm_work_128, fb_Rm_work_128, fb_Rm_work_136, fb_Rm_work_146]
      rw [h12, kg_pos (by omega), if_neg (by omega), kg_pos (by omega), Int.toNat_natCast, h25]
      rfl
theorem SR.keepLoop1 {g : Int} {B : Option Tc} {x : Tc} {o : Option Tc} {b : Int × Tx} {q : Qd} {mm : Md} {l : Int × List Int} {c w : Int} {r : Option Int} {A' : kEd} (hg : g = 1) (hq : q.2.2.2.length ≤ 4) (hend : SR g B (fb_Rm_work_152 c w) r (x, o, b, q, mm, l) A') : ∀ (m n k : Nat), k + m = q.2.2.2.length → m < n → SR g B (fl_Rm_work_128 n c w (k : Int)) r (x, o, b, q, mm, l) A' := by
  intro m
  induction m with
  | zero =>
    intro n k h1 h2
    obtain ⟨n, rfl⟩ : ∃ n', n = n' + 1 := ⟨n - 1, by omega⟩
    refine SR.cg hend fun σ k' => ?_
    have h12 : σ 9 0 12 = q.2.2.2.length := k'.1.2.2.2.1.2.2.2.1
    simp only [fl_Rm_work_128, fb_Rm_work_128]
    rw [h12, kg_pos (by omega), if_pos (by omega)]
  | succ m ih =>
    intro n k h1 h2
    obtain ⟨n, rfl⟩ : ∃ n', n = n' + 1 := ⟨n - 1, by omega⟩
    have hi := ih n (k + 1) (by omega) (by omega)
    refine SR.cg hi fun σ k' => ?_
    have h12 : σ 9 0 12 = q.2.2.2.length := k'.1.2.2.2.1.2.2.2.1
    have h15 : σ 9 0 15 = g := k'.1.2.2.2.2.2.2
    simp only [fl_Rm_work_128, fb_Rm_work_128, fb_Rm_work_136, fb_Rm_work_146]
    rw [h12, kg_pos (by omega), if_neg (by omega), kg_pos (by omega)]
    unfold f_Rm_keep fb_Rm_keep_0 fb_Rm_keep_7
    rw [h15, kg_pos (by omega), if_neg (by omega)]
    rfl
/-- what work leaves when a command is over -/
def finA (g : Int) (B : Tc) (w : Int) (A : kEd) : kEd := ((if A.2.2.2.2.1.1 = 0 then clipX A.1 else A.1), (if w = 3 then some B else A.2.1), A.2.2.1, (0, 0, 0, []), A.2.2.2.2.1, (if w = 3 then chL g A else A.2.2.2.2.2))
theorem SR.fin {g : Int} {B x : Tc} {o : Option Tc} {b : Int × Tx} {q : Qd} {m : Md} {l : Int × List Int} {c w : Int} (hg : g = 0 ∨ g = 1) (hw : w = 0 ∨ w = 2 ∨ w = 3) (hm : 0 ≤ m.1 ∧ m.1 ≤ 2) (hq : q.2.2.2.length ≤ 4) (hr : 0 ≤ x.2.1 ∧ x.2.1 < x.1.length) (hc : -1000 ≤ x.2.2 ∧ x.2.2 ≤ 1000) : SR g (some B) (fb_Rm_work_90 c w) (some (if w = 0 then 1 else 0)) (x, o, b, q, m, l) (finA g B w (x, o, b, q, m, l)) := by
  have h152 : ∀ (o : Option Tc) (l : Int × List Int), SR g (some B) (fb_Rm_work_152 c w) (some (if w = 0 then 1 else 0)) (x, o, b, q, m, l) ((if m.1 = 0 then clipX x else x), o, b, (0, 0, 0, []), m, l) := by
    intro o l
    have h163 : ∀ x : Tc, SR g (some B) (fb_Rm_work_163 c w) (some (if w = 0 then 1 else 0)) (x, o, b, q, m, l) (x, o, b, (0, 0, 0, []), m, l) := by
      intro x
      unfold fb_Rm_work_163
      refine SR.u SR.drop (SR.read fun σ k => ?_)
      unfold fb_Rm_work_167 fb_Rm_work_171 fb_Rm_work_175 fb_Rm_work_176
      rw [kg_pos (by omega)]
      split <;> rfl
    by_cases h : m.1 = 0
    · rw [if_pos h]
      refine SR.cg (f := fb_Rm_work_159 c w) ?_ fun σ k => ?_
      · unfold fb_Rm_work_159
        exact SR.u (SR.clip hr hc) (h163 (clipX x))
      · have h5 : σ 9 0 5 = m.1 := k.1.2.2.2.2.1.1
        unfold fb_Rm_work_152
        rw [h5, kg_pos (by omega), if_pos h]
    · rw [if_neg h]
      refine SR.cg (h163 x) fun σ k => ?_
      have h5 : σ 9 0 5 = m.1 := k.1.2.2.2.2.1.1
      unfold fb_Rm_work_152
      rw [h5, kg_pos (by omega), if_neg h]
  have e98 : ∀ σ, fb_Rm_work_90 c w σ = fb_Rm_work_98 c w σ := fun σ => by
    unfold fb_Rm_work_90
    rw [kg_pos (by omega), if_neg (by omega)]
  unfold finA
  dsimp only
  by_cases h3 : w = 3
  · rw [if_pos h3, if_pos h3]
    refine SR.cg (f := fb_Rm_work_103 c w) ?_ fun σ k => by
      rw [e98]
      unfold fb_Rm_work_98
      rw [kg_pos (by omega), if_pos h3]
    unfold fb_Rm_work_103
    refine SR.u SR.changed ?_
    unfold chL
    dsimp only
    rcases hg with h0 | h0
    · rw [if_pos h0]
      have hL := SR.keepLoop (g := g) (B := some B) (x := x) (o := some B) (b := b) (q := q) (mm := m) (c := c) (w := w) h0 hq (h152 (some B) _) q.2.2.2.length 3000 0 (by omega) (by omega)
      rw [List.take_zero] at hL
      intro σ k
      have h15 : σ 9 0 15 = g := k.1.2.2.2.2.2.2
      have hk : RE2 g (some B) (x, some B, b, q, m, (((0 : Nat) : Int), [])) (kup σ 9 0 14 0) := by
        obtain ⟨⟨k1, k2, k3, k4, k5, k6, k7⟩, k8⟩ := k
        exact ⟨⟨k1, k2, k3, k4, k5, ⟨rfl, kArr_0⟩, k7⟩, k8⟩
      obtain ⟨σ', y1, y2, y3⟩ := hL _ hk
      refine ⟨σ', ?_, y2, (frF.rfl.kup (by decide)).tr y3⟩
      show fb_Rm_work_107 c w σ = _
      unfold fb_Rm_work_107 fb_Rm_work_122 fb_Rm_work_123
      rw [h15, kg_pos (by omega), if_pos h0]
      exact y1
    · rw [if_neg (show ¬ g = 0 by omega)]
      have hL := SR.keepLoop1 (g := g) (B := some B) (x := x) (o := some B) (b := b) (q := q) (mm := m) (l := l) (c := c) (w := w) h0 hq (h152 (some B) l) q.2.2.2.length 3000 0 (by omega) (by omega)
      intro σ k
      have h15 : σ 9 0 15 = g := k.1.2.2.2.2.2.2
      have h14 : σ 9 0 14 = l.1 := k.1.2.2.2.2.2.1.1
      have hk : RE2 g (some B) (x, some B, b, q, m, l) (kup σ 9 0 14 l.1) := by
        obtain ⟨⟨k1, k2, k3, k4, k5, k6, k7⟩, k8⟩ := k
        exact ⟨⟨k1, k2, k3, k4, k5, ⟨rfl, k6.2⟩, k7⟩, k8⟩
      obtain ⟨σ', y1, y2, y3⟩ := hL _ hk
      refine ⟨σ', ?_, y2, (frF.rfl.kup (by decide)).tr y3⟩
      show fb_Rm_work_107 c w σ = _
      unfold fb_Rm_work_107 fb_Rm_work_115 fb_Rm_work_123
      rw [h15, h14, kg_pos (by omega), if_neg (by omega)]
      exact y1
  · rw [if_neg h3, if_neg h3]
    refine SR.cg (h152 o l) fun σ k => ?_
    rw [e98]
    unfold fb_Rm_work_98
    rw [kg_pos (by omega), if_neg h3]
