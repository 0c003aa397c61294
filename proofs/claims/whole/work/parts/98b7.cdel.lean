/-! Pure: the lines of a global command, and what d does, the class's side. -/
/-- the lines from p on, m of them, that f means -/
def ntL (f : Nat → Bool) : Nat → Nat → List Nat
  | _, 0 => []
  | p, m + 1 => if f p then p :: ntL f (p + 1) m else ntL f (p + 1) m
theorem ntL_ext {f f' : Nat → Bool} : ∀ (m p : Nat), (∀ i, p ≤ i → i < p + m → f i = f' i) → ntL f p m = ntL f' p m := by
  intro m
  induction m with
  | zero => intro p _; rfl
  | succ m ih =>
    intro p h
    unfold ntL
    rw [h p (by omega) (by omega), ih (p + 1) fun i h1 h2 => h i (by omega) (by omega)]
theorem ntL_in {f : Nat → Bool} : ∀ (m p i : Nat), i ∈ ntL f p m → p ≤ i ∧ i < p + m ∧ f i = true := by
  intro m
  induction m with
  | zero => intro p i h; exact nomatch h
  | succ m ih =>
    intro p i h
    unfold ntL at h
    cases hf : f p with
    | true =>
      rw [hf, if_pos rfl] at h
      rcases List.mem_cons.1 h with rfl | h
      · exact ⟨Nat.le_refl _, by omega, hf⟩
      · have := ih _ _ h
        exact ⟨by omega, by omega, this.2.2⟩
    | false =>
      rw [hf, if_neg Bool.false_ne_true] at h
      have := ih _ _ h
      exact ⟨by omega, by omega, this.2.2⟩
/-- d at the lines that are noted, k of them are gone -/
def dlF : List Nat → Nat → Tc × Int × Tx → Tc × Int × Tx
  | [], _, s => s
  | p :: ps, k, s => dlF ps (k + 1) (dropX s.1.1 (p - k) (p - k), (((p - k : Nat) : Int) - ((p - k : Nat) : Int) + 1, slc s.1.1 (p - k) (p - k + 1)))
/-- the class's text, OTHER and buffer may have changed, nothing else -/
def frG (σ σ' : kS) : Prop := frE σ σ' ∧ (∀ a, 5 ≤ a ∧ a ≤ 8 ∨ 16 ≤ a ∧ a ≤ 18 → σ' a = σ a) ∧ σ' 2 2 = σ 2 2 ∧ σ' 10 2 = σ 10 2 ∧ σ' 11 2 = σ 11 2
theorem frG.rfl {σ : kS} : frG σ σ := ⟨frE.rfl, fun _ _ => Eq.refl _, Eq.refl _, Eq.refl _, Eq.refl _⟩
theorem frG.tr {σ σ' σ'' : kS} (h : frG σ σ') (h2 : frG σ' σ'') : frG σ σ'' := ⟨h.1.tr h2.1, fun a ha => (h2.2.1 a ha).trans (h.2.1 a ha), h2.2.2.1.trans h.2.2.1, h2.2.2.2.1.trans h.2.2.2.1, h2.2.2.2.2.trans h.2.2.2.2⟩
theorem frG.kup {σ σ' : kS} {k i j : Nat} {x : Int} (h : frG σ σ') (hk : k = 1 ∨ (k = 2 ∨ k = 10 ∨ k = 11) ∧ i < 4 ∧ i ≠ 2) : frG σ (kup σ' k i j x) := h.tr ⟨frE.rfl.kup (by omega), fun a ha => kup_kk (by omega), kup_ii (by omega), kup_ii (by omega), kup_ii (by omega)⟩
theorem frG.kupA {σ σ' : kS} {k i : Nat} {f : Nat → Int} (h : frG σ σ') (hk : k = 1 ∨ (k = 2 ∨ k = 10 ∨ k = 11) ∧ i < 4 ∧ i ≠ 2) : frG σ (kupA σ' k i f) := h.tr ⟨frE.rfl.kupA (by omega), fun a ha => kupA_kk (by omega), kupA_ii (by omega), kupA_ii (by omega), kupA_ii (by omega)⟩
theorem frG.sT {σ σ' : kS} {t : Nat} {F G : Nat → Int} {n : Int} (h : frG σ σ') (ht : t < 4 ∧ t ≠ 2) : frG σ (sT σ' t F G n) := ((h.kupA (by omega)).kupA (by omega)).kup (by omega)
theorem CX.frG {σ σ' : kS} {x : Tc} (h : CX σ 2 x) (f : frG σ σ') : CX σ' 2 x := by
  unfold CX CT
  rw [f.2.2.1, f.2.2.2.1, f.2.2.2.2]
  exact h
def SG (g : Int) (f : kS → kRes) (r : Option Int) (A A' : kEd) : Prop := ∀ σ, CE g A σ → ∃ σ', f σ = some (r, σ') ∧ CE g A' σ' ∧ frG σ σ'
theorem SG.u {g : Int} {f k : kS → kRes} {r : Option Int} {A A1 A2 : kEd} (h : SG g f none A A1) (h2 : SG g k r A1 A2) : SG g (fun σ => kbu (f σ) k) r A A2 := by
  intro σ c
  obtain ⟨σ1, e1, c1, f1⟩ := h σ c
  obtain ⟨σ2, e2, c2, f2⟩ := h2 σ1 c1
  exact ⟨σ2, (kbu_eq e1).trans e2, c2, f1.tr f2⟩
theorem SG.cg {g : Int} {f f' : kS → kRes} {r : Option Int} {A A' : kEd} (h : SG g f r A A') (e : ∀ σ, CE g A σ → f' σ = f σ) : SG g f' r A A' := by
  intro σ c
  rw [e σ c]
  exact h σ c
theorem SG.ret {g : Int} {r : Option Int} {A : kEd} : SG g (fun σ => some (r, σ)) r A A := fun σ c => ⟨σ, Eq.refl _, c, frG.rfl⟩
section
variable {g : Int} {x : Tc} {o : Option Tc} {b : Int × Tx} {q : Qd} {m : Md} {l : Int × List Int}
theorem SG.t0 {f : kS → kRes} {r : Option Int} {T : Tx} (h : ∀ σ, CE g (x, o, b, q, m, l) σ → ToT (f σ) r σ 0 T) : SG g f r (x, o, b, q, m, l) ((T, x.2), o, b, q, m, l) := by
  intro σ c
  obtain ⟨F, G, e, hT⟩ := h σ c
  obtain ⟨c1, c2, c3, c4, c5, c6, c7⟩ := c
  refine ⟨_, e, ⟨⟨hT, rfl, c1.2.2.1, c1.2.2.2⟩, ?_, c3, c4, c5, c6, c7⟩, frG.rfl.sT (by decide)⟩
  cases o with
  | none => exact c2
  | some y => exact c2
theorem SG.t3 {f : kS → kRes} {r : Option Int} {T : Tx} (h : ∀ σ, CE g (x, o, b, q, m, l) σ → ToT (f σ) r σ 3 T) : SG g f r (x, o, b, q, m, l) (x, o, (b.1, T), q, m, l) := by
  intro σ c
  obtain ⟨F, G, e, hT⟩ := h σ c
  obtain ⟨c1, c2, c3, c4, c5, c6, c7⟩ := c
  refine ⟨_, e, ⟨c1, ?_, ⟨c3.1, hT, rfl⟩, c4, c5, c6, c7⟩, frG.rfl.sT (by decide)⟩
  cases o with
  | none => exact c2
  | some y => exact c2
theorem SG.stand {r c : Int} (hT : 0 < x.1.length) (hr : -1000 ≤ r ∧ r ≤ 1000) (hc : -1000 ≤ c ∧ c ≤ 1000) : SG g (f_Te_stand r c 0) none (x, o, b, q, m, l) ((x.1, cl r (x.1.length - 1), cl c ((ln x.1 (cl r (x.1.length - 1)).toNat).length - 1)), o, b, q, m, l) := by
  intro σ h
  obtain ⟨c1, c2, c3, c4, c5, c6, c7⟩ := h
  refine ⟨_, C_stand c1.1 c1.2.1 hT (by omega) (by omega), ⟨⟨c1.1, c1.2.1, rfl, rfl⟩, ?_, c3, c4, c5, c6, c7⟩, (frG.rfl.kup (by decide)).kup (by decide)⟩
  cases o with
  | none => exact c2
  | some y => exact c2
theorem SG.holdLines {i j : Nat} {xi xj : Int} (hi : xi = i) (hj : xj = j) (hij : i ≤ j) (hjl : j < x.1.length) : SG g (f_De_holdLines xi xj) none (x, o, b, q, m, l) (x, o, ((j : Int) - i + 1, slc x.1 i (j + 1)), q, m, l) := by
  subst hi hj
  unfold f_De_holdLines fb_De_holdLines_0
  refine SG.u (SG.t3 fun σ c => C_copyLines (t := 3) (u := 0) c.1.1 c.1.2.1 (by decide) hij hjl) ?_
  intro σ h
  obtain ⟨c1, c2, c3, c4, c5, c6, c7⟩ := h
  have hn : σ 2 3 2 = ((slc x.1 i (j + 1)).length : Int) := c3.2.2
  refine ⟨_, rfl, ⟨c1, ?_, ⟨?_, c3.2.1, c3.2.2⟩, c4, c5, c6, c7⟩, frG.rfl.kup (by decide)⟩
  · cases o with
    | none => exact c2
    | some y => exact c2
  · show σ 2 3 2 = (j : Int) - i + 1
    rw [hn, slc_len (by omega)]
    omega
theorem SG.dropLines {i j : Nat} {xi xj : Int} (hi : xi = i) (hj : xj = j) (hij : i ≤ j) (hjl : j < x.1.length) (hl : x.1.length ≤ 10) : SG g (f_De_dropLines xi xj) none (x, o, b, q, m, l) (dropX x.1 i j, o, b, q, m, l) := by
  subst hi hj
  have hcl : (cut x.1 i (j + 1)).length = x.1.length - (j + 1 - i) := cut_len (by omega) (by omega)
  unfold f_De_dropLines fb_De_dropLines_0
  refine SG.u (SG.t0 fun σ c => C_closeLines c.1.1 c.1.2.1 hij hjl) ?_
  have h26 : ∀ (T : Tx) (w : Int × Int), 0 < T.length → T.length ≤ 10 → SG g (fb_De_dropLines_26 i j) none ((T, w), o, b, q, m, l) ((T, cl i (T.length - 1), 0), o, b, q, m, l) := by
    intro T w hT hl
    refine SG.u (A1 := ((T, cl i (T.length - 1), 0), o, b, q, m, l)) ?_ SG.ret
    have := SG.stand (g := g) (x := (T, w)) (o := o) (b := b) (q := q) (m := m) (l := l) (r := i) (c := 0) hT (by omega) (by omega)
    have e : ∀ n : Int, -1 ≤ n → cl 0 n = 0 := fun n hn => by
      unfold cl
      omega
    rw [e _ (by omega)] at this
    exact this
  by_cases h0 : (cut x.1 i (j + 1)).length = 0
  · have hd : dropT x.1 i j = [[]] := by
      unfold dropT orE
      rw [if_pos h0]
    unfold dropX
    rw [hd]
    refine SG.cg (f := fun σ => kbu (f_Te_reset 0 σ) fun σ1 => fb_De_dropLines_26 i j σ1) (SG.u (A1 := (([[]], 0, 0), o, b, q, m, l)) ?_ (h26 [[]] (0, 0) (by decide) (by decide))) ?_
    · intro σ h
      obtain ⟨c1, c2, c3, c4, c5, c6, c7⟩ := h
      refine ⟨_, rfl, ⟨⟨TR_1 rfl, rfl, rfl, rfl⟩, ?_, c3, c4, c5, c6, c7⟩, (((frG.rfl.kup (by decide)).kup (by decide)).kup (by decide)).kup (by decide)⟩
      cases o with
      | none => exact c2
      | some y => exact c2
    · intro σ c
      have : σ 2 0 2 = ((cut x.1 i (j + 1)).length : Int) := c.1.2.1
      unfold fb_De_dropLines_9 fb_De_dropLines_19
      rw [this, kg_pos (by omega), if_pos (by omega)]
  · have hd : dropT x.1 i j = cut x.1 i (j + 1) := by
      unfold dropT orE
      rw [if_neg h0]
    unfold dropX
    rw [hd]
    refine SG.cg (h26 (cut x.1 i (j + 1)) x.2 (by omega) (by omega)) ?_
    intro σ c
    have : σ 2 0 2 = ((cut x.1 i (j + 1)).length : Int) := c.1.2.1
    unfold fb_De_dropLines_9
    rw [this, kg_pos (by omega), if_neg (by omega)]
end
theorem pow_le10 {n : Nat} (h : n ≤ 10) : 2 ^ n ≤ 1024 := by
  have := Nat.pow_le_pow_right (n := 2) (by decide) h
  exact this
/-- the noted lines, as bits -/
theorem C_note {ks : List Int} {σ : kS} {P : Pt} {T : Tx} {a b : Nat} (hP : PCt ks σ 1 P) (hT : CT σ 0 T) (hc : σ 2 0 2 = T.length) (hpr : printable T) (hab : a ≤ b) (hb : b < T.length) (h11 : σ 7 0 11 = a) (h12 : σ 7 0 12 = b) : ∃ w : Nat, f_Cl_noteLines σ = some (some (w : Int), σ) ∧ w < 1025 ∧ ∀ i, w.testBit i = (decide (a ≤ i ∧ i ≤ b) && innA ks P (ln T i)) := by
  have hT1 := hT.1
  have hloop : ∀ (m n p v : Nat), p + m = b + 1 → m < n → v < 2 ^ p → ∃ w : Nat, fl_Cl_noteLines_7 n (v : Int) (p : Int) σ = some (some (w : Int), σ) ∧ w < 2 ^ (b + 1) ∧ ∀ i, w.testBit i = (v.testBit i || (decide (p ≤ i ∧ i ≤ b) && innA ks P (ln T i))) := by
    intro m
    induction m with
    | zero =>
      intro n p v h1 h2 h3
      obtain ⟨n, rfl⟩ : ∃ n', n = n' + 1 := ⟨n - 1, by omega⟩
      obtain rfl : p = b + 1 := by omega
      refine ⟨v, ?_, h3, fun i => ?_⟩
      · simp only [fl_Cl_noteLines_7, fb_Cl_noteLines_7, fb_Cl_noteLines_42]
        rw [h12, kg_pos (by omega), if_pos (by omega)]
      · rw [decide_eq_false (by omega), Bool.false_and, Bool.or_false]
    | succ m ih =>
      intro n p v h1 h2 h3
      obtain ⟨n, rfl⟩ : ∃ n', n = n' + 1 := ⟨n - 1, by omega⟩
      have hp2 := pow_le10 (n := p) (by omega)
      have hp3 : 2 ^ p < 2 ^ (p + 1) := Nat.pow_lt_pow_right (by decide) (by omega)
      simp only [fl_Cl_noteLines_7, fb_Cl_noteLines_7]
      rw [h12, kg_pos (by omega), if_neg (by omega)]
      unfold fb_Cl_noteLines_15
      rw [kbi_eq (C_isIn hP hT hc hpr (by omega))]
      unfold fb_Cl_noteLines_27 fb_Cl_noteLines_30 fb_Cl_noteLines_36
      have h01 := b2_01 (innA ks P (ln T p))
      rw [kg_pos (by omega)]
      cases hi : innA ks P (ln T p) with
      | false =>
        rw [if_pos (show b2 false = 0 from rfl)]
        obtain ⟨w, w1, w2, w3⟩ := ih n (p + 1) v (by omega) (by omega) (by omega)
        refine ⟨w, w1, w2, fun i => ?_⟩
        rw [w3]
        by_cases h : i = p
        · rw [h, hi, Bool.and_false, Bool.and_false]
        · rw [show decide (p ≤ i ∧ i ≤ b) = decide (p + 1 ≤ i ∧ i ≤ b) from decide_eq_decide.2 (by omega)]
      | true =>
        rw [if_neg (show ¬ b2 true = 0 by decide)]
        have ek : kor (v : Int) (kshl 1 (p : Int)) = ((v ||| 2 ^ p : Nat) : Int) := by
          have e1 : kshl 1 (p : Int) = ((2 ^ p : Nat) : Int) := by
            have := kshl_n (a := 1) (i := p) (by omega) (by omega)
            rw [Nat.one_mul] at this
            exact this
          rw [e1, kor_n (by omega) (by omega)]
        rw [ek]
        obtain ⟨w, w1, w2, w3⟩ := ih n (p + 1) (v ||| 2 ^ p) (by omega) (by omega) (Nat.or_lt_two_pow (by omega) hp3)
        refine ⟨w, w1, w2, fun i => ?_⟩
        rw [w3, Nat.testBit_or, Nat.testBit_two_pow]
        by_cases h : i = p
        · rw [h, hi, decide_eq_true (show p = p from rfl), decide_eq_true (show p ≤ p ∧ p ≤ b by omega), Bool.or_true, Bool.true_or, Bool.and_true, Bool.or_true]
        · rw [decide_eq_false (show ¬ p = i by omega), Bool.or_false, show decide (p ≤ i ∧ i ≤ b) = decide (p + 1 ≤ i ∧ i ≤ b) from decide_eq_decide.2 (by omega)]
  obtain ⟨w, w1, w2, w3⟩ := hloop (b + 1 - a) 3000 a 0 (by omega) (by omega) (Nat.two_pow_pos a)
  have hp2 := pow_le10 (n := b + 1) (by omega)
  refine ⟨w, ?_, by omega, fun i => by rw [w3, Nat.zero_testBit, Bool.false_or]⟩
  unfold f_Cl_noteLines fb_Cl_noteLines_0
  rw [h11]
  exact w1
theorem dropX_n1 {T : Tx} {i : Nat} (hi : i < T.length) : (dropX T i i).1.length = max 1 (T.length - 1) := by
  have hcl : (cut T i (i + 1)).length = T.length - (i + 1 - i) := cut_len (by omega) (by omega)
  unfold dropX dropT orE
  dsimp only
  split
  · show 1 = max 1 (T.length - 1)
    omega
  · omega
section
variable {g : Int} {o : Option Tc} {q : Qd} {md : Md} {l : Int × List Int}
/-- d, the class's side: a range -/
theorem C_del1 {x : Tc} {bf : Int × Tx} {σ : kS} {a b : Nat} {x1 : Int} (c : CE g (x, o, bf, q, md, l) σ) (h11 : σ 7 0 11 = a) (h12 : σ 7 0 12 = b) (h13 : σ 7 0 13 = 0) (hab : a ≤ b) (hb : b < x.1.length) (hl : x.1.length ≤ 10) : ∃ σ', f_Cl_deleteLines x1 σ = some (none, σ') ∧ CE g (dropX x.1 a b, o, ((b : Int) - a + 1, slc x.1 a (b + 1)), q, md, l) σ' ∧ frG σ σ' := by
  unfold f_Cl_deleteLines fb_Cl_deleteLines_0 fb_Cl_deleteLines_7
  rw [h13, kg_pos (by decide), if_pos rfl]
  obtain ⟨τ, z1, z2, z3⟩ := SG.holdLines (i := a) (j := b) h11 h12 hab hb σ c
  rw [kbu_eq z1]
  unfold fb_Cl_deleteLines_22
  have t7 : τ 7 = σ 7 := z3.2.1 7 (by decide)
  obtain ⟨υ, y1, y2, y3⟩ := SG.dropLines (xi := τ 7 0 11) (xj := τ 7 0 12) (i := a) (j := b) (by rw [t7]; exact h11) (by rw [t7]; exact h12) hab hb hl τ z2
  rw [kbu_eq y1]
  exact ⟨υ, rfl, y2, z3.tr y3⟩
/-- d, the class's side: the noted lines -/
theorem C_del2 {x : Tc} {bf : Int × Tx} {σ : kS} {a b w : Nat} (c : CE g (x, o, bf, q, md, l) σ) (h11 : σ 7 0 11 = a) (h12 : σ 7 0 12 = b) (h13 : σ 7 0 13 = 1) (hw : w < 1025) (hab : a ≤ b) (hb : b < x.1.length) (hl : x.1.length ≤ 10) : ∃ σ', f_Cl_deleteLines (w : Int) σ = some (none, σ') ∧ CE g ((dlF (ntL w.testBit a (b + 1 - a)) 0 (x, bf)).1, o, (dlF (ntL w.testBit a (b + 1 - a)) 0 (x, bf)).2, q, md, l) σ' ∧ frG σ σ' := by
  have hloop : ∀ (m n p k : Nat) (s : Tc × Int × Tx) (σ : kS), p + m = b + 1 → k ≤ p → m < n → σ 7 0 12 = b → (k < x.1.length → s.1.1.length = x.1.length - k) → CE g (s.1, o, s.2, q, md, l) σ → ∃ σ', fl_Cl_deleteLines_45 n (w : Int) (k : Int) (p : Int) σ = some (none, σ') ∧ CE g ((dlF (ntL w.testBit p m) k s).1, o, (dlF (ntL w.testBit p m) k s).2, q, md, l) σ' ∧ frG σ σ' := by
    intro m
    induction m with
    | zero =>
      intro n p k s σ h1 h2 h3 h4 h5 c
      obtain ⟨n, rfl⟩ : ∃ n', n = n' + 1 := ⟨n - 1, by omega⟩
      refine ⟨σ, ?_, c, frG.rfl⟩
      simp only [fl_Cl_deleteLines_45, fb_Cl_deleteLines_45, fb_Cl_deleteLines_96]
      rw [h4, kg_pos (by omega), if_pos (by omega)]
    | succ m ih =>
      intro n p k s σ h1 h2 h3 h4 h5 c
      obtain ⟨n, rfl⟩ : ∃ n', n = n' + 1 := ⟨n - 1, by omega⟩
      simp only [fl_Cl_deleteLines_45, fb_Cl_deleteLines_45, fb_Cl_deleteLines_53]
      rw [h4, kg_pos (by omega), if_neg (by omega), kbit (by omega) (by omega)]
      unfold ntL
      cases hbit : w.testBit p with
      | false =>
        rw [if_neg Bool.false_ne_true, if_neg Bool.false_ne_true, kg_pos (by decide), if_pos rfl]
        exact ih n (p + 1) k s σ (by omega) (by omega) (by omega) h4 h5 c
      | true =>
        rw [if_pos rfl, if_pos rfl, kg_pos (by decide), if_neg (by decide)]
        have hlen := h5 (by omega)
        unfold fb_Cl_deleteLines_61 fb_Cl_deleteLines_74 fb_Cl_deleteLines_87 fb_Cl_deleteLines_90
        obtain ⟨τ, z1, z2, z3⟩ := SG.holdLines (xi := (p : Int) - k) (xj := (p : Int) - k) (i := p - k) (j := p - k) (by omega) (by omega) (Nat.le_refl _) (by omega) σ c
        rw [kbu_eq z1]
        obtain ⟨υ, y1, y2, y3⟩ := SG.dropLines (xi := (p : Int) - k) (xj := (p : Int) - k) (i := p - k) (j := p - k) (by omega) (by omega) (Nat.le_refl _) (by omega) (by omega) τ z2
        rw [kbu_eq y1]
        have hfr := z3.tr y3
        have hdl := dropX_n1 (T := s.1.1) (i := p - k) (by omega)
        obtain ⟨σ', v1, v2, v3⟩ := ih n (p + 1) (k + 1) (dropX s.1.1 (p - k) (p - k), (((p - k : Nat) : Int) - ((p - k : Nat) : Int) + 1, slc s.1.1 (p - k) (p - k + 1))) υ (by omega) (by omega) (by omega) (by rw [hfr.2.1 7 (by decide)]; exact h4) (fun h => by dsimp only; omega) y2
        exact ⟨σ', v1, v2, hfr.tr v3⟩
  unfold f_Cl_deleteLines fb_Cl_deleteLines_0 fb_Cl_deleteLines_38
  rw [h13, kg_pos (by decide), if_neg (by decide), h11]
  exact hloop (b + 1 - a) 3000 a 0 (x, bf) σ (by omega) (by omega) (by omega) h12 (fun _ => by dsimp only; omega) c
end
