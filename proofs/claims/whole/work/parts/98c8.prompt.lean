/-! Pure: a key in PROMPT. -/
def leaA (A : kEd) : kEd := (A.1, A.2.1, A.2.2.1, A.2.2.2.1, (0, 0, 0, []), A.2.2.2.2.2)
def setK (A : kEd) (ks : List Int) : kEd := (A.1, A.2.1, A.2.2.1, A.2.2.2.1, (A.2.2.2.2.1.1, A.2.2.2.2.1.2.1, A.2.2.2.2.1.2.2.1, ks), A.2.2.2.2.2)
/-- a key in PROMPT (1: taken, 0: it rings) -/
def askA (A : kEd) (D : kDk) (c : Int) : Int × kEd × kDk :=
  if 32 ≤ c then (if A.2.2.2.2.1.2.2.2.length < 30 then (1, setK A (A.2.2.2.2.1.2.2.2 ++ [c]), D) else (0, A, D))
  else if c = 8 ∧ 0 < A.2.2.2.2.1.2.2.2.length then (1, setK A A.2.2.2.2.1.2.2.2.dropLast, D)
  else if c = 10 then
    (if A.2.2.2.2.1.2.2.1 = 1 then (srcA A.2.2.2.2.1.2.2.2 A.1).elim (0, leaA A, D) fun y => (1, (y, (leaA A).2), D)
     else (caA A.2.2.2.2.1.2.2.2 A.1 A.2.1 A.2.2.1 D).elim (0, leaA A, D) fun r => (1, (r.1.1, r.1.2.1, r.1.2.2, A.2.2.2.1, (0, 0, 0, []), A.2.2.2.2.2), r.2))
  else (1, leaA A, D)
theorem gd_dl {ks : List Int} {i : Nat} (h : i < ks.length - 1) : ks.dropLast.getD i 0 = ks.getD i 0 := by
  rw [List.dropLast_eq_take, gd_take ks 0 h]
section
variable {g : Int} {x : Tc} {o : Option Tc} {b : Int × Tx} {q : Qd} {l : Int × List Int} {s1 sr : Int} {ks : List Int} {D : kDk} {σ : kS} {c : Int}
theorem CE.fin {md : Int × Int × Int} (h : CE g (x, o, b, q, (0, md.2.1, md.2.2, ks), l) σ) : CE g (x, o, b, q, (0, 0, 0, []), l) (kup σ 6 2 1 0) := by
  obtain ⟨c1, c2, c3, c4, c5, c6, c7⟩ := h
  refine ⟨c1, ?_, c3, c4, ⟨c5.1, fun h => absurd h (show ¬ (0 : Int) = 1 by decide), fun h => absurd h (show ¬ (0 : Int) = 2 by decide), rfl, kArr_0⟩, c6, c7⟩
  cases o with
  | none => exact c2
  | some y => exact c2
theorem C_ask (hc : kKey c) (h : CE g (x, o, b, q, (2, s1, sr, ks), l) σ) (d : CD D σ) (hx : wfX x) (hD : D.2.2.length ≤ 3) (hl : ks.length ≤ 30) (hks : ∀ c ∈ ks, 32 ≤ c ∧ c ≤ 126) (hsr : sr = 0 ∨ sr = 1) : ∃ σ', f_Kb_ask c σ = some (some (askA (x, o, b, q, (2, s1, sr, ks), l) D c).1, σ') ∧ CE g (askA (x, o, b, q, (2, s1, sr, ks), l) D c).2.1 σ' ∧ CD (askA (x, o, b, q, (2, s1, sr, ks), l) D c).2.2 σ' ∧ ∀ k, k = 4 ∨ k = 9 ∨ k = 15 ∨ 20 ≤ k → σ' k = σ k := by
  have h6 : σ 6 2 1 = ks.length := h.2.2.2.2.1.2.2.2.1
  have ha : kArr (σ 16 2) ks := h.2.2.2.2.1.2.2.2.2
  have h11 : σ 5 0 11 = sr := h.2.2.2.2.1.2.2.1 rfl
  have hE : ∀ υ, frE σ υ → CD D υ ∧ ∀ k, k = 4 ∨ k = 9 ∨ k = 15 ∨ 20 ≤ k → υ k = σ k := fun υ f => ⟨d.frE f, fun k hk => f.1 k (by omega)⟩
  unfold kKey at hc
  unfold f_Kb_ask fb_Kb_ask_0 askA
  rw [kg_pos (by omega)]
  by_cases c32 : 32 ≤ c
  · rw [if_neg (by omega), if_pos c32]
    unfold fb_Kb_ask_6
    have eF : f_Ke_isFull 2 σ = some (some (if ks.length < 30 then 0 else 1), σ) := by
      unfold f_Ke_isFull fb_Ke_isFull_0 fb_Ke_isFull_12 fb_Ke_isFull_16 fb_Ke_isFull_17
      rw [h6, show (((if (2 : Nat) = 0 then 4 else if (2 : Nat) = 1 then 8 else 30 : Nat)) : Int) = 30 from rfl, kg_pos (by omega)]
      by_cases h30 : ks.length < 30
      · rw [if_pos (by omega), if_pos h30, kg_pos (by decide)]
      · rw [if_neg (by omega), if_neg h30, kg_pos (by decide)]
    rw [kbi_eq eF]
    unfold fb_Kb_ask_13 fb_Kb_ask_16
    dsimp only
    by_cases h30 : ks.length < 30
    · rw [if_pos h30, if_pos h30, kg_pos (by decide), if_pos rfl]
      unfold fb_Kb_ask_18 fb_Kb_ask_26
      have eA : f_Ke_add c 2 σ = some (none, kup (kup σ 16 2 ks.length c) 6 2 1 ((ks ++ [c]).length : Nat)) := by
        unfold f_Ke_add fb_Ke_add_0 fb_Ke_add_12 fb_Ke_add_22
        have q6 : kup σ 16 2 ks.length c 6 2 1 = ks.length := h6
        rw [h6, show (((if (2 : Nat) = 0 then 4 else if (2 : Nat) = 1 then 8 else 30 : Nat)) : Int) = 30 from rfl, kg_pos (by omega), if_neg (by omega), kg_pos (by omega), Int.toNat_natCast, q6, kg_pos (by omega), show min ((ks.length : Int) + 1) (30 + 1) = ((ks ++ [c]).length : Nat) by rw [List.length_append, List.length_singleton]; omega]
      rw [kbu_eq eA]
      have fe : frE σ (kup (kup σ 16 2 ks.length c) 6 2 1 ((ks ++ [c]).length : Nat)) := (frE.rfl.kup (by decide)).kup (by decide)
      obtain ⟨d1, k1⟩ := hE _ fe
      refine ⟨_, rfl, ?_, d1, k1⟩
      obtain ⟨c1, c2, c3, c4, c5, c6, c7⟩ := h
      refine ⟨c1, ?_, c3, c4, ⟨c5.1, c5.2.1, c5.2.2.1, rfl, ?_⟩, c6, c7⟩
      · cases o with
        | none => exact c2
        | some y => exact c2
      · have e : kup (kup σ 16 2 ks.length c) 6 2 1 ((ks ++ [c]).length : Nat) 16 2 = fun j => if j = ks.length then c else σ 16 2 j := by
          rw [kup_ii (by decide), kup_f, if_pos (by decide)]
        show kArr (kup (kup σ 16 2 ks.length c) 6 2 1 ((ks ++ [c]).length : Nat) 16 2) (ks ++ [c])
        rw [e]
        exact kArr_add ha
    · rw [if_neg h30, if_neg h30, kg_pos (by decide), if_neg (by decide)]
      exact ⟨σ, rfl, h, d, fun _ _ => rfl⟩
  · rw [if_pos (by omega), if_neg c32]
    unfold fb_Kb_ask_28 fb_Kb_ask_34
    rw [kg_pos (by omega), h6, kg_pos (by omega)]
    dsimp only
    by_cases c8 : c = 8 ∧ 0 < ks.length
    · rw [if_pos c8.1, if_neg (by omega), if_pos c8]
      unfold fb_Kb_ask_44
      rw [h6]
      have fe : frE σ (kup σ 6 2 1 ((ks.length : Int) - 1)) := frE.rfl.kup (by decide)
      obtain ⟨d1, k1⟩ := hE _ fe
      refine ⟨_, rfl, ?_, d1, k1⟩
      obtain ⟨c1, c2, c3, c4, c5, c6, c7⟩ := h
      refine ⟨c1, ?_, c3, c4, ⟨c5.1, c5.2.1, c5.2.2.1, ?_, ?_⟩, c6, c7⟩
      · cases o with
        | none => exact c2
        | some y => exact c2
      · show (ks.length : Int) - 1 = (ks.dropLast.length : Int)
        rw [List.length_dropLast]
        omega
      · intro i hi
        have hi' : i < ks.dropLast.length := hi
        rw [List.length_dropLast] at hi'
        show σ 16 2 i = ks.dropLast.getD i 0
        rw [gd_dl hi']
        exact ha i (by omega)
    · have e59 : (if c = 8 then (if (ks.length : Int) ≤ 0 then fb_Kb_ask_59 c σ else fb_Kb_ask_44 c σ) else fb_Kb_ask_59 c σ) = fb_Kb_ask_59 c σ := by
        by_cases hc8 : c = 8
        · rw [if_pos hc8, if_pos (by omega)]
        · rw [if_neg hc8]
      rw [e59, if_neg c8]
      unfold fb_Kb_ask_59
      rw [kg_pos (by omega)]
      have h0 : CE g (x, o, b, q, (0, s1, sr, ks), l) (kup σ 5 0 6 0) := by
        obtain ⟨c1, c2, c3, c4, c5, c6, c7⟩ := h
        refine ⟨c1, ?_, c3, c4, ⟨rfl, fun h => absurd h (show ¬ (0 : Int) = 1 by decide), fun h => absurd h (show ¬ (0 : Int) = 2 by decide), c5.2.2.2.1, c5.2.2.2.2⟩, c6, c7⟩
        cases o with
        | none => exact c2
        | some y => exact c2
      have f0 : frE σ (kup σ 5 0 6 0) := frE.rfl.kup (by decide)
      have e11 : kup σ 5 0 6 0 5 0 11 = sr := h11
      generalize kup σ 5 0 6 0 = τ at h0 f0 e11
      by_cases c10 : c = 10
      · rw [if_pos c10, if_pos c10]
        unfold fb_Kb_ask_70
        rw [e11, kg_pos (by omega)]
        rcases hsr with hsr | hsr
        · -- a COMMAND line
          subst hsr
          rw [if_pos rfl, if_neg (by decide)]
          unfold fb_Kb_ask_94 fb_Kb_ask_105 fb_Kb_ask_108 fb_Kb_ask_112 fb_Kb_ask_113
          obtain ⟨υ, y, z1, z2, z3⟩ := C_carry (md := (0, s1, 0)) h0 (hE τ f0).1 hx hD hl hks
          rw [kbi_eq z1]
          have kw : ∀ v : Int, ∀ k, k = 4 ∨ k = 9 ∨ k = 15 ∨ 20 ≤ k → kup υ 6 2 1 v k = σ k := fun v k hk => (kup_kk (by omega)).trans ((z2 k hk).trans ((hE τ f0).2 k hk))
          rcases z3 with ⟨en, rfl, cn, dn⟩ | ⟨r, er, rfl, cr, dr⟩
          · rw [en, kg_pos (by decide), if_pos rfl, kg_pos (by decide)]
            exact ⟨_, rfl, CE.fin (md := (0, s1, 0)) cn, dn.frE (frE.rfl.kup (by decide)), kw 0⟩
          · rw [er, kg_pos (by decide), if_neg (by decide), kg_pos (by decide)]
            exact ⟨_, rfl, CE.fin (md := (0, s1, 0)) cr, dr.frE (frE.rfl.kup (by decide)), kw 0⟩
        · subst hsr
          rw [if_neg (by decide), if_pos rfl]
          unfold fb_Kb_ask_77 fb_Kb_ask_88 fb_Kb_ask_91 fb_Kb_ask_108 fb_Kb_ask_112 fb_Kb_ask_113
          obtain ⟨υ, z1, z2, z3⟩ := SC.search (g := g) (o := o) (b := b) (q := q) (s := (s1, 1)) (l := l) (md := 0) hx hl hks τ h0
          rw [kbi_eq z1]
          have fe := (f0.tr z3).tr (frE.rfl.kup (k := 6) (i := 2) (j := 1) (x := 0) (by decide))
          obtain ⟨d1, k1⟩ := hE _ fe
          cases hs : srcA ks x with
          | none =>
            rw [hs] at z2
            rw [show (Option.elim (none : Option Tc) (0 : Int) fun _ => 1) = 0 from rfl, kg_pos (by decide), if_pos rfl, kg_pos (by decide)]
            exact ⟨_, rfl, CE.fin (md := (0, s1, 1)) z2, d1, k1⟩
          | some y =>
            rw [hs] at z2
            rw [show (Option.elim (some y) (0 : Int) fun _ => 1) = 1 from rfl, kg_pos (by decide), if_neg (by decide), kg_pos (by decide)]
            exact ⟨_, rfl, CE.fin (md := (0, s1, 1)) z2, d1, k1⟩
      · rw [if_neg c10, if_neg c10]
        unfold fb_Kb_ask_108 fb_Kb_ask_113
        rw [kg_pos (by decide)]
        have fe := f0.tr (frE.rfl.kup (k := 6) (i := 2) (j := 1) (x := 0) (by decide))
        obtain ⟨d1, k1⟩ := hE _ fe
        exact ⟨_, rfl, CE.fin (md := (0, s1, sr)) h0, d1, k1⟩
/-- the text is copied to and from the place where it stood before -/
theorem R_cpB {m : Md} (k : RE g (x, o, b, q, m, l) σ) : RE2 g (some x) (x, o, b, q, m, l) (sX σ 0 2) ∧ frF σ (sX σ 0 2) := by
  obtain ⟨u0, u1, u3, u4, u5, u6, u7⟩ := k
  have vo : ∀ k, (k < 20 ∨ 24 < k) → ∀ i, sX σ 0 2 k i = σ k i := fun k hk i => sX_o _ _ _ hk i
  refine ⟨⟨⟨sX_x u0 (by decide), ?_, ⟨?_, sX_T u3.2 (by decide)⟩, ?_, ?_, ?_, ?_⟩, fun y hy => by cases hy; exact sX_b u0⟩, frF.rfl.sX (by decide)⟩
  · cases o with
    | none =>
      show sX σ 0 2 9 0 6 = 0
      rw [vo 9 (.inl (by decide))]
      exact u1
    | some y =>
      refine ⟨?_, sX_x u1.2 (by decide)⟩
      show sX σ 0 2 9 0 6 = 1
      rw [vo 9 (.inl (by decide))]
      exact u1.1
  · rw [vo 9 (.inl (by decide))]
    exact u3.1
  · unfold RQ
    rw [vo 9 (.inl (by decide)), vo 25 (.inr (by decide))]
    exact u4
  · unfold RM
    rw [vo 9 (.inl (by decide)), vo 27 (.inr (by decide))]
    exact u5
  · unfold RL
    rw [vo 9 (.inl (by decide)), vo 26 (.inr (by decide))]
    exact u6
  · rw [vo 9 (.inl (by decide))]
    exact u7
theorem R_cpA {m : Md} {y : Tc} (k : RE2 g (some x) (y, o, b, q, m, l) σ) : RE2 g (some x) (x, o, b, q, m, l) (sX σ 2 0) ∧ frF σ (sX σ 2 0) := by
  obtain ⟨⟨u0, u1, u3, u4, u5, u6, u7⟩, u8⟩ := k
  have vo : ∀ k, (k < 20 ∨ 24 < k) → ∀ i, sX σ 2 0 k i = σ k i := fun k hk i => sX_o _ _ _ hk i
  refine ⟨⟨⟨sX_b (u8 x rfl), ?_, ⟨?_, sX_T u3.2 (by decide)⟩, ?_, ?_, ?_, ?_⟩, fun y hy => sX_x (u8 y hy) (by decide)⟩, frF.rfl.sX (by decide)⟩
  · cases o with
    | none =>
      show sX σ 2 0 9 0 6 = 0
      rw [vo 9 (.inl (by decide))]
      exact u1
    | some y =>
      refine ⟨?_, sX_x u1.2 (by decide)⟩
      show sX σ 2 0 9 0 6 = 1
      rw [vo 9 (.inl (by decide))]
      exact u1.1
  · rw [vo 9 (.inl (by decide))]
    exact u3.1
  · unfold RQ
    rw [vo 9 (.inl (by decide)), vo 25 (.inr (by decide))]
    exact u4
  · unfold RM
    rw [vo 9 (.inl (by decide)), vo 27 (.inr (by decide))]
    exact u5
  · unfold RL
    rw [vo 9 (.inl (by decide)), vo 26 (.inr (by decide))]
    exact u6
  · rw [vo 9 (.inl (by decide))]
    exact u7
theorem R_ask (hc : kKey c) (h : RE g (x, o, b, q, (2, s1, sr, ks), l) σ) (d : RD D σ) (hx : wfX x) (hon : onC x) (ho : wfO o) (hb : wfB b) (hD : wfD D) (hl : ks.length ≤ 30) (hks : ∀ c ∈ ks, 32 ≤ c ∧ c ≤ 126) (hsr : sr = 0 ∨ sr = 1) : ∃ σ', f_Rm_work c σ = some (some (1 - (askA (x, o, b, q, (2, s1, sr, ks), l) D c).1), σ') ∧ RE g (askA (x, o, b, q, (2, s1, sr, ks), l) D c).2.1 σ' ∧ RD (askA (x, o, b, q, (2, s1, sr, ks), l) D c).2.2 σ' ∧ frU σ σ' := by
  have h5 : σ 9 0 5 = 2 := h.2.2.2.2.1.1
  obtain ⟨h21, h20, h27⟩ := h.2.2.2.2.1.2.2 rfl
  have h20' : σ 9 0 20 = ks.length := h20
  have hty : TyR ks σ := ⟨h20, h27, hl, hks⟩
  unfold kKey at hc
  have e0 : f_Rm_work c σ = kbi (f_Rm_inPrompt c σ) fun y σ1 => fb_Rm_work_13 c y σ1 := by
    unfold f_Rm_work fb_Rm_work_0 fb_Rm_work_8
    rw [h5, kg_pos (by decide), if_pos rfl]
  rw [e0]
  unfold f_Rm_inPrompt fb_Rm_inPrompt_0 fb_Rm_inPrompt_6 fb_Rm_inPrompt_12 askA
  simp only [kg_pos (show -2147483648 ≤ c ∧ c < 2147483648 by omega)]
  rw [h20', kg_pos (by omega)]
  -- the prompt is left
  have hle : RE g (leaA (x, o, b, q, (2, s1, sr, ks), l)) (kup σ 9 0 5 0) := by
    obtain ⟨c1, c2, c3, c4, c5, c6, c7⟩ := h
    refine ⟨c1, ?_, c3, c4, ⟨rfl, fun h => absurd h (show ¬ (0 : Int) = 1 by decide), fun h => absurd h (show ¬ (0 : Int) = 2 by decide)⟩, c6, c7⟩
    cases o with
    | none => exact c2
    | some y => exact c2
  have fle : frF σ (kup σ 9 0 5 0) := frF.rfl.kup (by decide)
  by_cases c27 : c = 27
  · rw [if_pos c27, if_neg (by omega), if_neg (by omega), if_neg (by omega)]
    unfold fb_Rm_inPrompt_19 fb_Rm_inPrompt_148
    exact ⟨_, rfl, hle, d.frF fle, fle.u⟩
  rw [if_neg c27]
  by_cases c8 : c = 8
  · rw [if_pos c8, if_neg (show ¬ 32 ≤ c by omega)]
    by_cases h0 : ks.length = 0
    · rw [if_pos (show (ks.length : Int) = 0 by omega), if_neg (show ¬ (c = 8 ∧ 0 < ks.length) by omega), if_neg (by omega)]
      unfold fb_Rm_inPrompt_19 fb_Rm_inPrompt_148
      exact ⟨_, rfl, hle, d.frF fle, fle.u⟩
    · rw [if_neg (show ¬ (ks.length : Int) = 0 by omega), if_pos (show c = 8 ∧ 0 < ks.length by omega)]
      unfold fb_Rm_inPrompt_27 fb_Rm_inPrompt_33 fb_Rm_inPrompt_148
      rw [kg_pos (by omega), if_pos c8, h20']
      have fe : frF σ (kup σ 9 0 20 ((ks.length : Int) - 1)) := frF.rfl.kup (by decide)
      refine ⟨_, rfl, ?_, d.frF fe, fe.u⟩
      obtain ⟨c1, c2, c3, c4, c5, c6, c7⟩ := h
      refine ⟨c1, ?_, c3, c4, ⟨c5.1, c5.2.1, fun _ => ⟨h21, ?_, ?_⟩⟩, c6, c7⟩
      · cases o with
        | none => exact c2
        | some y => exact c2
      · show (ks.length : Int) - 1 = (ks.dropLast.length : Int)
        rw [List.length_dropLast]
        omega
      · intro i hi
        have hi' : i < ks.dropLast.length := hi
        rw [List.length_dropLast] at hi'
        show σ 27 0 i = ks.dropLast.getD i 0
        rw [gd_dl hi']
        exact h27 i (by show i < ks.length; omega)
  rw [if_neg c8]
  unfold fb_Rm_inPrompt_27 fb_Rm_inPrompt_46
  rw [kg_pos (by omega), if_neg c8, kg_pos (by omega)]
  by_cases c10 : c = 10
  · rw [if_pos c10, if_neg (show ¬ 32 ≤ c by omega), if_neg (show ¬ (c = 8 ∧ 0 < ks.length) by omega), if_pos c10]
    unfold fb_Rm_inPrompt_52
    rw [kbu_eq (R_copyText (a := 0) (b := 2) (xa := 0) (xb := 2) rfl rfl (by decide) (by decide) (by decide))]
    have e21 : kup σ 9 0 5 0 9 0 21 = (if sr = 1 then 47 else 58) := h21
    have tyl : TyR ks (kup σ 9 0 5 0) := hty
    have dl := d.frF fle
    generalize kup σ 9 0 5 0 = τ at hle fle e21 tyl dl
    obtain ⟨k1, f1⟩ := R_cpB hle
    have vo : ∀ k, (k < 20 ∨ 24 < k) → ∀ i, sX τ 0 2 k i = τ k i := fun k hk i => sX_o _ _ _ hk i
    have ty1 : TyR ks (sX τ 0 2) := by
      unfold TyR
      rw [vo 9 (.inl (by decide)), vo 27 (.inr (by decide))]
      exact tyl
    have e21' : sX τ 0 2 9 0 21 = (if sr = 1 then 47 else 58) := by
      rw [vo 9 (.inl (by decide))]
      exact e21
    have d1 := dl.frF f1
    have u1 := fle.u.tr f1.u
    generalize sX τ 0 2 = υ at k1 f1 ty1 e21' d1 u1
    unfold fb_Rm_inPrompt_63
    -- it rings: the text goes back
    have h0 : ∀ (y : Tc) (ω : kS), RE2 g (some x) (y, o, b, q, (0, 0, 0, []), l) ω → RD D ω → frU σ ω → ∃ σ', kbi (fb_Rm_inPrompt_83 c 0 ω) (fun y σ1 => fb_Rm_work_13 c y σ1) = some (some 1, σ') ∧ RE g (x, o, b, q, (0, 0, 0, []), l) σ' ∧ RD D σ' ∧ frU σ σ' := by
      intro y ω kω dω uω
      obtain ⟨k2, f2⟩ := R_cpA kω
      obtain ⟨w1, w2, w3, w4, w5, w6, w7, w8⟩ := hx.sz
      obtain ⟨φ, e3, k3, f3⟩ := SR.clip (g := g) (B := some x) (x := x) (o := o) (b := b) (q := q) (m := (0, 0, 0, [])) (l := l) (by omega) (by omega) _ k2
      rw [clip_id hx hon] at k3
      refine ⟨φ, ?_, k3.1, (dω.frF f2).frF f3, (uω.tr f2.u).tr f3.u⟩
      unfold fb_Rm_inPrompt_83 fb_Rm_inPrompt_88 fb_Rm_inPrompt_94 fb_Rm_inPrompt_103 fb_Rm_inPrompt_107 fb_Rm_inPrompt_111 fb_Rm_inPrompt_116
      rw [kg_pos (by decide), if_pos rfl, kbu_eq (R_copyText (a := 2) (b := 0) (xa := 2) (xb := 0) rfl rfl (by decide) (by decide) (by decide)), kg_pos (by decide), if_neg (by decide), kbu_eq e3, kg_pos (by decide), if_pos rfl]
      rfl
    -- it is done, no change
    have h2 : ∀ (y : Tc) (D' : kDk) (ω : kS), RE2 g (some x) (y, o, b, q, (0, 0, 0, []), l) ω → RD D' ω → frU σ ω → (0 ≤ y.2.1 ∧ y.2.1 < y.1.length ∧ -1000 ≤ y.2.2 ∧ y.2.2 ≤ 1000) → ∃ σ', kbi (fb_Rm_inPrompt_83 c 2 ω) (fun y σ1 => fb_Rm_work_13 c y σ1) = some (some 0, σ') ∧ RE g (clipX y, o, b, q, (0, 0, 0, []), l) σ' ∧ RD D' σ' ∧ frU σ σ' := by
      intro y D' ω kω dω uω hy
      obtain ⟨φ, e3, k3, f3⟩ := SR.clip (g := g) (B := some x) (x := y) (o := o) (b := b) (q := q) (m := (0, 0, 0, [])) (l := l) (by omega) (by omega) _ kω
      refine ⟨φ, ?_, k3.1, dω.frF f3, uω.tr f3.u⟩
      unfold fb_Rm_inPrompt_83 fb_Rm_inPrompt_94 fb_Rm_inPrompt_103 fb_Rm_inPrompt_107 fb_Rm_inPrompt_115 fb_Rm_inPrompt_116
      rw [kg_pos (by decide), if_neg (by decide), kg_pos (by decide), if_neg (by decide), kbu_eq e3, kg_pos (by decide), if_neg (by decide)]
      rfl
    rw [e21']
    rcases hsr with hsr | hsr
    · subst hsr
      rw [if_neg (show ¬ (0 : Int) = 1 by decide), kg_pos (by decide), if_neg (by decide)]
      unfold fb_Rm_inPrompt_79
      obtain ⟨ω, y, z1, z2, z3⟩ := R_line k1 d1 hD.2.2.1 hx ty1
      rw [kbi_eq z1]
      have uω := u1.tr z2
      rw [if_neg (show ¬ (0 : Int) = 1 by decide)]
      rcases z3 with ⟨en, rfl, ⟨T', cu', cn⟩, dn⟩ | ⟨x', D', er, rfl, cr, dr⟩ | ⟨z, ez, rfl, cz, dz⟩
      · rw [en]
        exact h0 _ ω cn dn uω
      · obtain ⟨⟨wf1, wf2⟩, -⟩ := caA_wf hks hx hon ho hb hD er
        dsimp only at wf1 wf2
        obtain ⟨w1, w2, w3, w4, w5, w6, w7, w8⟩ := wf1.sz
        rw [er]
        have := h2 x' D' ω cr dr uω (by omega)
        rw [clip_id wf1 wf2] at this
        exact this
      · obtain ⟨⟨wf1, wf2⟩, -⟩ := caA_wf hks hx hon ho hb hD ez
        dsimp only at wf1 wf2
        obtain ⟨w1, w2, w3, w4, w5, w6, w7, w8⟩ := wf1.sz
        rw [ez]
        obtain ⟨φ, e3, k3, f3⟩ := SR.changed (g := g) (B := x) (x := z.1) (o := o) (b := z.2) (q := q) (m := (0, 0, 0, [])) (l := l) ω cz
        obtain ⟨ψ, e4, k4, f4⟩ := SR.clip (g := g) (B := some x) (x := z.1) (o := some x) (b := z.2) (q := q) (m := (0, 0, 0, [])) (l := l) (by omega) (by omega) φ k3
        rw [clip_id wf1 wf2] at k4
        refine ⟨ψ, ?_, k4.1, (dz.frF f3).frF f4, (uω.tr f3.u).tr f4.u⟩
        unfold fb_Rm_inPrompt_83 fb_Rm_inPrompt_94 fb_Rm_inPrompt_99 fb_Rm_inPrompt_103 fb_Rm_inPrompt_107 fb_Rm_inPrompt_115 fb_Rm_inPrompt_116
        rw [kg_pos (by decide), if_neg (by decide), kg_pos (by decide), if_pos rfl, kbu_eq e3, kbu_eq e4, kg_pos (by decide), if_neg (by decide)]
        rfl
    · subst hsr
      rw [if_pos rfl, kg_pos (by decide), if_pos rfl, if_pos rfl]
      unfold fb_Rm_inPrompt_72 fb_Rm_inPrompt_76
      obtain ⟨ω, y, z1, z2, z3, z4, z5⟩ := SR.search (g := g) (B := some x) (o := o) (b := b) (q := q) (s := (0, 0)) (l := l) (ks := ks) hx υ k1 ty1
      rw [kbi_eq z1]
      have uω := u1.tr z5.u
      have dω := d1.frF z5
      cases hs : srcA ks x with
      | none => exact h0 _ ω z2 dω uω
      | some w =>
        rw [hs] at z3
        have := h2 y D ω z2 dω uω z4
        rw [z3] at this
        exact this
  · rw [if_neg c10, if_pos (show 32 ≤ c by omega)]
    unfold fb_Rm_inPrompt_117 fb_Rm_inPrompt_126
    rw [h20', kg_pos (by omega)]
    by_cases h30 : ks.length < 30
    · rw [if_neg (by omega), if_pos h30]
      unfold fb_Rm_inPrompt_128 fb_Rm_inPrompt_148
      have e20 : ∀ j v, kup σ 27 0 j v 9 0 20 = ks.length := fun j v => h20'
      rw [h20', kg_pos (by omega), Int.toNat_natCast, e20]
      have fe : frF σ (kup (kup σ 27 0 ks.length c) 9 0 20 ((ks.length : Int) + 1)) := (frF.rfl.kup (by omega)).kup (by decide)
      refine ⟨_, rfl, ?_, d.frF fe, fe.u⟩
      obtain ⟨c1, c2, c3, c4, c5, c6, c7⟩ := h
      refine ⟨c1, ?_, c3, c4, ⟨c5.1, c5.2.1, fun _ => ⟨h21, ?_, ?_⟩⟩, c6, c7⟩
      · cases o with
        | none => exact c2
        | some y => exact c2
      · show (ks.length : Int) + 1 = ((ks ++ [c]).length : Int)
        rw [List.length_append, List.length_singleton]
        omega
      · have e : kup (kup σ 27 0 ks.length c) 9 0 20 ((ks.length : Int) + 1) 27 0 = fun j => if j = ks.length then c else σ 27 0 j := by
          rw [kup_ii (by decide), kup_f, if_pos (by decide)]
        show kArr (kup (kup σ 27 0 ks.length c) 9 0 20 ((ks.length : Int) + 1) 27 0) (ks ++ [c])
        rw [e]
        exact kArr_add h27
    · rw [if_pos (by omega), if_neg h30]
      exact ⟨σ, rfl, h, d, frU.rfl⟩
end
