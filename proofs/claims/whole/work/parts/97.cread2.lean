/-! Pure: reading a pattern, the class's side: atoms, and the whole. -/
section
variable {ks : List Int} {σ : kS} {t : Nat}
def gA (ks : List Int) (acc : List At) : Nat → Int → Bool := fun i c => tkD ks (acc.getD i ((0, 0, 0), false)).1 c
/-- what stands of a pattern in the making -/
def PCp (ks : List Int) (σ : kS) (t : Nat) (f : Bool) (acc : List At) : Prop := acc.length ≤ 8 ∧ σ 8 t 2 = acc.length ∧ σ 8 t 3 = b2 f ∧ (∃ s : Nat, σ 8 t 1 = s ∧ s < 2 ^ acc.length ∧ ∀ i, i < acc.length → s.testBit i = (acc.getD i ((0, 0, 0), false)).2) ∧ ∀ c : Nat, c < 127 → ∃ k : Nat, σ 17 t c = k ∧ k < 2 ^ acc.length ∧ (c < 32 → k = 0) ∧ ∀ i, i < acc.length → 32 ≤ c → k.testBit i = gA ks acc i c
theorem PCp.bt {f : Bool} {acc : List At} (h : PCp ks σ t f acc) (hn : acc.length ≤ 7) : BT (σ 17 t) acc.length (gA ks acc) (fun _ => false) := by
  intro c hc
  obtain ⟨k, k1, k2, k3, k4⟩ := h.2.2.2.2 c hc
  exact ⟨k, k1, Nat.lt_of_lt_of_le k2 (Nat.pow_le_pow_right (by decide) (by omega)), k3, k4, fun _ => bit_hi k2 (Nat.le_refl _)⟩
/-- an atom is read: -1, or where it ends, with the takers' bits -/
theorem C_atom {acc : List At} {f : Bool} {k b : Nat} (hP : PCp ks σ t f acc) (hn : acc.length ≤ 7) (ha : kArr (σ 16 2) ks) (hl : ks.length ≤ 30) (hks : ∀ c ∈ ks, 32 ≤ c ∧ c ≤ 126) (hb : b ≤ ks.length) (hk : k < b) : ∃ F y, (if ks.getD k 0 = 91 then f_Pa_readSet (k : Int) (b : Int) t σ else f_Pa_readSingle (k : Int) (b : Int) t σ) = some (some y, kupA σ 17 t F) ∧ ((atomA ks k b = none ∧ y = -1) ∨ ∃ d nx, atomA ks k b = some (d, nx) ∧ y = (nx : Int) ∧ k < nx ∧ nx ≤ b ∧ BT F acc.length (gA ks acc) (fun c => tkD ks d c)) := by
  have hB := hP.bt hn
  have p2 := hP.2.1
  have hg : ∀ j, j < ks.length → σ 16 2 j = ks.getD j 0 := fun j hj => ha j hj
  have hr : ∀ j, j < ks.length → 32 ≤ ks.getD j 0 ∧ ks.getD j 0 ≤ 126 := fun j hj => hks _ (gd_mem hj)
  have r0 := hr k (by omega)
  have hbit : kshl 1 (σ 8 t 2) = ((2 ^ acc.length : Nat) : Int) := by
    have hp := pow_le8 (n := acc.length) (by omega)
    rw [p2, show (1 : Int) = ((1 : Nat) : Int) from rfl, kshl_n (a := 1) (i := acc.length) (by omega) (by omega), Nat.one_mul]
  have hid : kupA σ 17 t (σ 17 t) = σ := kupA_id σ 17 t
  unfold atomA
  by_cases c1 : ks.getD k 0 = 91
  · rw [if_pos c1, if_neg (by omega), if_neg (by omega), if_neg (by omega), if_pos c1]
    have hfl := C_findL (σ := σ) (t := t) (x2 := (k : Int)) (x4 := ((2 ^ acc.length : Nat) : Int)) (F := σ 17 t) ha hl hks hb 39 3000 (k + 2) (by omega) (by omega) (by omega)
    rw [hid] at hfl
    have e0 : f_Pa_readSet (k : Int) (b : Int) t σ = fb_Pa_readSet_34 (k : Int) (b : Int) ((2 ^ acc.length : Nat) : Int) ((findI ks 93 b (39 + 1) (k + 2) : Nat) : Int) t σ := by
      unfold f_Pa_readSet fb_Pa_readSet_0
      rw [hbit]
      exact hfl
    rw [e0]
    have hge : ∀ m q, q ≤ findI ks 93 b m q := by
      intro m
      induction m with
      | zero => intro q; exact Nat.le_refl q
      | succ m ih =>
        intro q
        unfold findI
        split
        · exact Nat.le_refl q
        · split
          · exact Nat.le_refl q
          · exact Nat.le_trans (Nat.le_succ q) (ih (q + 1))
    have hle : ∀ m q, findI ks 93 b m q ≤ q + m := by
      intro m
      induction m with
      | zero => intro q; exact Nat.le_refl q
      | succ m ih =>
        intro q
        unfold findI
        split
        · omega
        · split
          · omega
          · have := ih (q + 1)
            omega
    have hge0 := hge 40 (k + 2)
    have hle0 := hle 40 (k + 2)
    unfold fb_Pa_readSet_34
    show ∃ F y, kg (_ ∧ _) (if ((findI ks 93 b 40 (k + 2) : Nat) : Int) < (b : Int) then fb_Pa_readSet_42 (k : Int) (b : Int) ((2 ^ acc.length : Nat) : Int) ((findI ks 93 b 40 (k + 2) : Nat) : Int) t σ else fb_Pa_readSet_40 (k : Int) (b : Int) ((2 ^ acc.length : Nat) : Int) ((findI ks 93 b 40 (k + 2) : Nat) : Int) t σ) = _ ∧ _
    generalize findI ks 93 b 40 (k + 2) = e at hge0 hle0
    rw [kg_pos (by omega)]
    by_cases he : b ≤ e
    · rw [if_neg (by omega), if_pos he]
      refine ⟨σ 17 t, -1, ?_, .inl ⟨rfl, rfl⟩⟩
      rw [hid]
      rfl
    · rw [if_pos (by omega), if_neg he]
      have r1 := hr (k + 1) (by omega)
      unfold fb_Pa_readSet_42
      rw [show ((k : Int) + 1).toNat = k + 1 by omega, hg (k + 1) (by omega), kg_pos (by omega)]
      -- the members
      have hset : ∀ (x6 : Int) (i : Nat), i ≤ e → ∃ F' k', fb_Pa_readSet_81 (k : Int) (b : Int) ((2 ^ acc.length : Nat) : Int) (e : Int) x6 (i : Int) t σ = fb_Pa_readSet_186 (k : Int) (b : Int) ((2 ^ acc.length : Nat) : Int) (e : Int) x6 k' t (kupA σ 17 t F') ∧ BT F' acc.length (gA ks acc) (fun c => setIn ks e c 40 i) := by
        intro x6 i hi
        obtain ⟨F', k', e1, hB1⟩ := C_setL (σ := σ) (t := t) (n := acc.length) (g := gA ks acc) (x2 := (k : Int)) (x3 := (b : Int)) (x6 := x6) (e := e) hn ha hl hks (by omega) 39 3000 i (σ 17 t) (fun _ => false) (by omega) (by omega) (by omega) hB
        rw [hid] at e1
        exact ⟨F', k', e1, hB1.ext fun c _ _ => by rw [Bool.false_or]⟩
      by_cases hrev : ks.getD (k + 1) 0 = 94 ∧ k + 2 < e
      · rw [if_pos hrev.1]
        unfold fb_Pa_readSet_52 fb_Pa_readSet_60 fb_Pa_readSet_65 fb_Pa_readSet_72
        rw [kg_pos (by omega), if_neg (by omega), kg_pos (by decide), if_neg (by decide)]
        obtain ⟨F1, k1, e1, hB1⟩ := hset 1 (k + 2) (by omega)
        rw [show ((k + 2 : Nat) : Int) = (k : Int) + 2 by omega] at e1
        rw [e1]
        unfold fb_Pa_readSet_186
        obtain ⟨F2, e2, hB2⟩ := C_revL (σ := σ) (t := t) (x2 := (k : Int)) (x3 := (b : Int)) (x5 := (e : Int)) (x7 := k1) hn 95 3000 32 F1 _ (by decide) (by decide) (by decide) hB1
        refine ⟨F2, (e : Int) + 1, e2, .inr ⟨(2, (k : Int) + 1, (e : Int)), e + 1, rfl, by omega, by omega, by omega, hB2.ext fun c c1 c2 => ?_⟩⟩
        unfold tkD
        dsimp only
        rw [if_neg (by decide), if_neg (by decide), show ((k : Int) + 1).toNat = k + 1 by omega, if_pos ⟨hrev.1, by omega⟩, if_pos (by omega), Int.toNat_natCast]
      · have e64 : (if ks.getD (k + 1) 0 = 94 then fb_Pa_readSet_52 (k : Int) (b : Int) ((2 ^ acc.length : Nat) : Int) (e : Int) t σ else fb_Pa_readSet_64 (k : Int) (b : Int) ((2 ^ acc.length : Nat) : Int) (e : Int) t σ) = fb_Pa_readSet_64 (k : Int) (b : Int) ((2 ^ acc.length : Nat) : Int) (e : Int) t σ := by
          by_cases z : ks.getD (k + 1) 0 = 94
          · rw [if_pos z]
            unfold fb_Pa_readSet_52
            rw [kg_pos (by omega), if_pos (by omega)]
          · rw [if_neg z]
        rw [e64]
        unfold fb_Pa_readSet_64 fb_Pa_readSet_65 fb_Pa_readSet_78
        rw [kg_pos (by decide), if_pos rfl]
        obtain ⟨F1, k1, e1, hB1⟩ := hset 0 (k + 1) (by omega)
        rw [show ((k + 1 : Nat) : Int) = (k : Int) + 1 by omega] at e1
        rw [e1]
        refine ⟨F1, (e : Int) + 1, ?_, .inr ⟨(2, (k : Int) + 1, (e : Int)), e + 1, rfl, by omega, by omega, by omega, hB1.ext fun c c1 c2 => ?_⟩⟩
        · have h0 : ∀ n, fl_Pa_readSet_190 (n + 1) (k : Int) (b : Int) ((2 ^ acc.length : Nat) : Int) (e : Int) 0 k1 32 t (kupA σ 17 t F1) = some (some ((e : Int) + 1), kupA σ 17 t F1) := fun n => by
            simp only [fl_Pa_readSet_190, fb_Pa_readSet_190, fb_Pa_readSet_220]
            rw [kg_pos (by decide)]
            exact if_pos trivial
          exact h0 2999
        · unfold tkD
          dsimp only
          rw [if_neg (by decide), if_neg (by decide), show ((k : Int) + 1).toNat = k + 1 by omega, if_neg (fun z => hrev ⟨z.1, by omega⟩), Int.toNat_natCast]
  · rw [if_neg c1]
    unfold f_Pa_readSingle fb_Pa_readSingle_0
    rw [Int.toNat_natCast, hg k (by omega), hbit, kg_pos (by omega)]
    by_cases c2 : ks.getD k 0 = 42
    · rw [if_pos c2, if_pos c2]
      refine ⟨σ 17 t, -1, ?_, .inl ⟨rfl, rfl⟩⟩
      rw [hid]
      rfl
    rw [if_neg c2, if_neg c2]
    -- one code
    have hone : ∀ (j : Nat) (y : Int), j < ks.length → y = (j : Int) + 1 → ∃ F, fb_Pa_readSingle_92 (k : Int) (b : Int) ((2 ^ acc.length : Nat) : Int) (ks.getD k 0) y t σ = some (some y, kupA σ 17 t F) ∧ BT F acc.length (gA ks acc) (fun c => tkD ks (1, ks.getD j 0, 0) c) := by
      intro j y hj hy
      have rj := hr j hj
      refine ⟨fun c => if c = (ks.getD j 0).toNat then kor (σ 17 t (ks.getD j 0).toNat) ((2 ^ acc.length : Nat) : Int) else σ 17 t c, ?_, (hB.or (c0 := (ks.getD j 0).toNat) hn (by omega) (by omega)).ext fun c c1 c2 => ?_⟩
      · unfold fb_Pa_readSingle_92
        rw [show (y - 1).toNat = j by omega, hg j hj, kg_pos (by omega), kup_eqA]
      · unfold tkD
        dsimp only
        rw [if_neg (by decide), if_pos rfl]
        by_cases z : ks.getD j 0 = c
        · rw [decide_eq_true z, if_pos (by omega)]
        · rw [decide_eq_false z, if_neg (by omega)]
    unfold fb_Pa_readSingle_20
    rw [kg_pos (by omega)]
    by_cases c3 : ks.getD k 0 = 92
    · rw [if_pos c3, if_neg (by omega), if_pos c3]
      unfold fb_Pa_readSingle_27
      rw [kg_pos (by omega)]
      by_cases hkb : b ≤ k + 1
      · rw [if_neg (by omega), if_pos hkb]
        refine ⟨σ 17 t, -1, ?_, .inl ⟨rfl, rfl⟩⟩
        rw [hid]
        rfl
      · rw [if_pos (by omega), if_neg hkb]
        obtain ⟨F, e1, hB1⟩ := hone (k + 1) ((k : Int) + 2) (by omega) (by omega)
        refine ⟨F, (k : Int) + 2, ?_, .inr ⟨_, k + 2, rfl, by omega, by omega, by omega, hB1⟩⟩
        unfold fb_Pa_readSingle_36
        rw [kg_pos (by omega), if_neg (by omega)]
        unfold fb_Pa_readSingle_76 fb_Pa_readSingle_83
        rw [kg_pos (by omega), if_pos c3]
        exact e1
    · rw [if_neg c3]
      unfold fb_Pa_readSingle_36
      rw [kg_pos (by omega)]
      by_cases c4 : ks.getD k 0 = 46
      · rw [if_pos c4, if_pos c4]
        unfold fb_Pa_readSingle_43
        obtain ⟨F, e1, hB1⟩ := C_dotL (σ := σ) (t := t) (x2 := (k : Int)) (x3 := (b : Int)) (x5 := ks.getD k 0) hn 95 3000 32 (σ 17 t) _ (by decide) (by decide) (by decide) hB
        rw [hid] at e1
        refine ⟨F, (k : Int) + 1, e1, .inr ⟨_, k + 1, rfl, by omega, by omega, by omega, hB1.ext fun c c1 c2 => ?_⟩⟩
        unfold tkD
        rw [if_pos rfl, if_pos (by omega)]
      · rw [if_neg c4, if_neg c4, if_neg c3, if_neg c1]
        obtain ⟨F, e1, hB1⟩ := hone k ((k : Int) + 1) (by omega) (by omega)
        refine ⟨F, (k : Int) + 1, ?_, .inr ⟨_, k + 1, rfl, by omega, by omega, by omega, hB1⟩⟩
        unfold fb_Pa_readSingle_76 fb_Pa_readSingle_89
        rw [kg_pos (by omega), if_neg c3]
        exact e1
theorem gd_snoc {α : Type} (acc : List α) (a d : α) (i : Nat) : (acc ++ [a]).getD i d = if i < acc.length then acc.getD i d else if i = acc.length then a else d := by
  rw [gd_app]
  by_cases h : i < acc.length
  · rw [if_pos h, if_pos h]
  · rw [if_neg h, if_neg h]
    by_cases h2 : i = acc.length
    · rw [if_pos h2, h2, Nat.sub_self]
      rfl
    · rw [if_neg h2]
      exact gd_ge _ _ (by rw [List.length_singleton]; omega)
/-- what reading a pattern leaves as it was -/
def frT (t : Nat) (σ σ' : kS) : Prop := (∀ a, a ≠ 8 → a ≠ 17 → σ' a = σ a) ∧ ∀ u, u ≠ t → σ' 8 u = σ 8 u ∧ σ' 17 u = σ 17 u
theorem frT.rfl {t : Nat} {σ : kS} : frT t σ σ := ⟨fun _ _ _ => Eq.refl _, fun _ _ => ⟨Eq.refl _, Eq.refl _⟩⟩
theorem frT.tr {t : Nat} {σ σ' σ'' : kS} (h : frT t σ σ') (h2 : frT t σ' σ'') : frT t σ σ'' := ⟨fun a h8 h17 => (h2.1 a h8 h17).trans (h.1 a h8 h17), fun u hu => ⟨(h2.2 u hu).1.trans (h.2 u hu).1, (h2.2 u hu).2.trans (h.2 u hu).2⟩⟩
theorem frT.kup {t : Nat} {σ σ' : kS} {j : Nat} {x : Int} (h : frT t σ σ') : frT t σ (kup σ' 8 t j x) := h.tr ⟨fun a h8 h17 => kup_kk h8, fun u hu => ⟨kup_ii (by omega), kup_ii (by omega)⟩⟩
theorem frT.kupA {t : Nat} {σ σ' : kS} {F : Nat → Int} (h : frT t σ σ') : frT t σ (kupA σ' 17 t F) := h.tr ⟨fun a h8 h17 => kupA_kk h17, fun u hu => ⟨kupA_ii (by omega), kupA_ii (by omega)⟩⟩
theorem C_readL {f : Bool} {x2 : Int} {b : Nat} (hl : ks.length ≤ 30) (hks : ∀ c ∈ ks, 32 ≤ c ∧ c ≤ 126) (hb : b ≤ ks.length) : ∀ (m n k : Nat) (acc : List At) (σ : kS), kArr (σ 16 2) ks → PCp ks σ t f acc → b < k + m → k ≤ b → m < n → ∃ σ' y, fl_Pa_read_68 n x2 (b : Int) (k : Int) t σ = some (some y, σ') ∧ frT t σ σ' ∧ ((prs ks b m k acc = none ∧ y = 0) ∨ ∃ r, prs ks b m k acc = some r ∧ y = 1 ∧ PCt ks σ' t (f, r.1, r.2)) := by
  intro m
  induction m with
  | zero =>
    intro n k acc σ ha hP h1 h2 h3
    exact absurd h1 (by omega)
  | succ m ih =>
    intro n k acc σ ha hP h1 h2 h3
    obtain ⟨n, rfl⟩ : ∃ n', n = n' + 1 := ⟨n - 1, by omega⟩
    have hP' := hP
    obtain ⟨p1, p2, p3, p5, p6⟩ := hP'
    have hr : ∀ j, j < ks.length → 32 ≤ ks.getD j 0 ∧ ks.getD j 0 ≤ 126 := fun j hj => hks _ (gd_mem hj)
    have hg : ∀ j, j < ks.length → σ 16 2 j = ks.getD j 0 := fun j hj => ha j hj
    -- the sign at the end
    have hsign : k < b → f_Pa_isEndSign (k : Int) (b : Int) σ = some (some (if ks.getD k 0 = 36 ∧ k + 1 = b then 1 else 0), σ) := by
      intro hk
      have r0 := hr k (by omega)
      unfold f_Pa_isEndSign fb_Pa_isEndSign_0 fb_Pa_isEndSign_8 fb_Pa_isEndSign_15 fb_Pa_isEndSign_19 fb_Pa_isEndSign_20
      rw [Int.toNat_natCast, hg k (by omega), kg_pos (by omega), kg_pos (by omega), kg_pos (by decide), kg_pos (by decide)]
      by_cases z : ks.getD k 0 = 36 ∧ k + 1 = b
      · rw [if_pos z, if_pos z.1, if_pos (by omega)]
      · rw [if_neg z]
        by_cases z1 : ks.getD k 0 = 36
        · rw [if_pos z1, if_neg (by omega)]
        · rw [if_neg z1]
    -- the end of the reading
    have hfin : ∀ l : Bool, PCt ks (kup σ 8 t 4 (b2 l)) t (f, l, acc) := by
      intro l
      have z : ∀ j, j ≠ 4 → kup σ 8 t 4 (b2 l) 8 t j = σ 8 t j := fun j hj => kup_j hj
      have z17 : ∀ c, kup σ 8 t 4 (b2 l) 17 t c = σ 17 t c := fun c => kup_k (by decide)
      refine ⟨p1, ?_, ?_, kup_self _ _ _ _ _, ?_, ?_⟩
      · rw [z 2 (by decide)]
        exact p2
      · rw [z 3 (by decide)]
        exact p3
      · obtain ⟨s, s1, s2, s3⟩ := p5
        exact ⟨s, by rw [z 1 (by decide)]; exact s1, s2, s3⟩
      · intro c hc
        obtain ⟨k, k1, k2, k3, k4⟩ := p6 c hc
        exact ⟨k, by rw [z17]; exact k1, k2, k3, k4⟩
    have hfr : ∀ (v : Int), frT t σ (kup σ 8 t 4 v) := fun v => frT.rfl.kup
    rw [prs]
    simp only [fl_Pa_read_68, fb_Pa_read_68]
    rw [p2, kg_pos (by omega)]
    by_cases hkb : b ≤ k
    · -- all is read
      rw [if_pos hkb]
      refine ⟨kup σ 8 t 4 0, 1, ?_, hfr 0, .inr ⟨(false, acc), rfl, rfl, hfin false⟩⟩
      have e176 : fb_Pa_read_176 x2 (b : Int) (k : Int) t σ = some (some 1, kup σ 8 t 4 0) := by
        unfold fb_Pa_read_176 fb_Pa_read_197 fb_Pa_read_198
        rw [kg_pos (by omega), if_pos (by omega), kup_self, kg_pos (by decide), if_pos rfl]
        unfold fb_Pa_read_208
        rw [kg_pos (by omega), if_pos (by omega)]
        rfl
      unfold fb_Pa_read_77
      rw [kg_pos (by omega), if_pos (show (b : Int) ≤ k by omega), e176, ite_self]
    rw [if_neg hkb]
    by_cases hsg : ks.getD k 0 = 36 ∧ k + 1 = b
    · rw [if_pos hsg]
      refine ⟨kup σ 8 t 4 1, 1, ?_, hfr 1, .inr ⟨(true, acc), rfl, rfl, hfin true⟩⟩
      have hs1 := hsign (by omega)
      rw [if_pos hsg] at hs1
      have e176 : fb_Pa_read_176 x2 (b : Int) (k : Int) t σ = some (some 1, kup σ 8 t 4 1) := by
        unfold fb_Pa_read_176
        rw [kg_pos (by omega), if_neg (by omega)]
        unfold fb_Pa_read_183
        rw [kbi_eq hs1]
        unfold fb_Pa_read_190 fb_Pa_read_193 fb_Pa_read_198
        rw [kg_pos (by decide), if_neg (by decide), kup_self, kg_pos (by decide), if_neg (by decide)]
        rfl
      unfold fb_Pa_read_77
      rw [kg_pos (by omega), if_neg (show ¬ (b : Int) ≤ k by omega)]
      unfold fb_Pa_read_83
      rw [kbi_eq hs1]
      unfold fb_Pa_read_90
      rw [kg_pos (by decide), if_neg (show ¬ (1 : Int) = 0 by decide), e176, ite_self]
    rw [if_neg hsg]
    have hs0 := hsign (by omega)
    rw [if_neg hsg] at hs0
    by_cases h8 : acc.length = 8
    · rw [if_pos h8, if_pos (by omega)]
      refine ⟨kup σ 8 t 4 0, 0, ?_, hfr 0, .inl ⟨rfl, rfl⟩⟩
      unfold fb_Pa_read_176
      rw [kg_pos (by omega), if_neg (by omega)]
      unfold fb_Pa_read_183
      rw [kbi_eq hs0]
      unfold fb_Pa_read_190 fb_Pa_read_197 fb_Pa_read_198
      rw [kg_pos (by decide), if_pos rfl, kup_self, kg_pos (by decide), if_pos rfl]
      unfold fb_Pa_read_208
      rw [kg_pos (by omega), if_neg (by omega)]
      rfl
    rw [if_neg h8, if_neg (by omega)]
    unfold fb_Pa_read_77
    rw [kg_pos (by omega), if_neg (by omega)]
    unfold fb_Pa_read_83
    rw [kbi_eq hs0]
    unfold fb_Pa_read_90
    rw [kg_pos (by decide), if_pos rfl]
    have r0 := hr k (by omega)
    obtain ⟨F, y, ea, hA⟩ := C_atom (σ := σ) (t := t) hP (by omega) ha hl hks hb (k := k) (by omega)
    have e121 : fb_Pa_read_93 (fl_Pa_read_68 n) x2 (b : Int) (k : Int) t σ = fb_Pa_read_121 (fl_Pa_read_68 n) x2 (b : Int) (k : Int) y t (kupA σ 17 t F) := by
      unfold fb_Pa_read_93 fb_Pa_read_102 fb_Pa_read_113
      rw [Int.toNat_natCast, hg k (by omega), kg_pos (by omega)]
      by_cases z : ks.getD k 0 = 91
      · rw [if_pos z] at ea ⊢
        rw [kbi_eq ea]
        rfl
      · rw [if_neg z] at ea ⊢
        rw [kbi_eq ea]
    rw [e121]
    unfold fb_Pa_read_121
    rcases hA with ⟨hA1, hA2⟩ | ⟨d, nx, hA1, hA2, hA3, hA4, hA5⟩
    · rw [hA1, hA2, kg_pos (by decide), if_neg (by decide)]
      exact ⟨kupA σ 17 t F, 0, rfl, frT.rfl.kupA, .inl ⟨rfl, rfl⟩⟩
    · rw [hA1, hA2, kg_pos (by omega), if_pos (by omega)]
      have hb' := pow_le8 (n := acc.length + 1) (by omega)
      obtain ⟨s, s1, s2, s3⟩ := p5
      have hpn : 2 ^ acc.length < 2 ^ (acc.length + 1) := Nat.pow_lt_pow_right (by decide) (by omega)
      -- the pattern with one atom more
      have hnew : ∀ (st : Bool) (τ : kS), τ 8 t 2 = ((acc.length + 1 : Nat) : Int) → τ 8 t 3 = b2 f → τ 8 t 1 = (if st then ((s ||| 2 ^ acc.length : Nat) : Int) else (s : Int)) → τ 17 t = F → PCp ks τ t f (acc ++ [(d, st)]) := by
        intro st τ t1 t2 t3 t4
        have hlen : (acc ++ [(d, st)]).length = acc.length + 1 := by
          rw [List.length_append, List.length_singleton]
        refine ⟨by omega, by rw [hlen]; exact t1, t2, ?_, ?_⟩
        · refine ⟨if st then s ||| 2 ^ acc.length else s, ?_, ?_, fun i hi => ?_⟩
          · rw [t3]
            cases st <;> rfl
          · rw [hlen]
            split
            · exact Nat.or_lt_two_pow (by omega) hpn
            · omega
          · rw [hlen] at hi
            rw [gd_snoc]
            by_cases z : i < acc.length
            · rw [if_pos z]
              cases st with
              | true => rw [if_pos rfl, Nat.testBit_or, Nat.testBit_two_pow, decide_eq_false (by omega), Bool.or_false, s3 i z]
              | false => exact s3 i z
            · have z2 : i = acc.length := by omega
              rw [if_neg z, if_pos z2, z2]
              cases st with
              | true => rw [if_pos rfl, Nat.testBit_or, Nat.testBit_two_pow, decide_eq_true rfl, Bool.or_true]
              | false => exact bit_hi s2 (Nat.le_refl _)
        · intro c hc
          obtain ⟨kk, k1, k2, k3, k4, k5⟩ := hA5 c hc
          refine ⟨kk, by rw [t4]; exact k1, by rw [hlen]; exact k2, k3, fun i hi hc2 => ?_⟩
          rw [hlen] at hi
          unfold gA
          rw [gd_snoc]
          by_cases z : i < acc.length
          · rw [if_pos z]
            exact k4 i z hc2
          · have z2 : i = acc.length := by omega
            rw [if_neg z, if_pos z2, z2]
            exact k5 hc2
      have hka : ∀ j, kupA σ 17 t F 8 t j = σ 8 t j := fun j => kupA_o (by decide)
      have hk16 : ∀ j, kupA σ 17 t F 16 2 j = σ 16 2 j := fun j => kupA_o (by decide)
      show ∃ σ' y, fb_Pa_read_130 (fl_Pa_read_68 n) x2 (b : Int) (nx : Int) t (kupA σ 17 t F) = some (some y, σ') ∧ frT t σ σ' ∧ ((prs ks b m (if isS ks nx b then nx + 1 else nx) (acc ++ [(d, isS ks nx b)]) = none ∧ y = 0) ∨ ∃ r, prs ks b m (if isS ks nx b then nx + 1 else nx) (acc ++ [(d, isS ks nx b)]) = some r ∧ y = 1 ∧ PCt ks σ' t (f, r.1, r.2))
      unfold fb_Pa_read_130
      rw [kg_pos (by omega)]
      by_cases hst : nx < b ∧ ks.getD nx 0 = 42
      · have hS : isS ks nx b = true := decide_eq_true hst
        have rn := hr nx (by omega)
        rw [hS, if_pos rfl, if_neg (by omega)]
        unfold fb_Pa_read_136
        rw [Int.toNat_natCast, hk16, hg nx (by omega), kg_pos (by omega), if_pos hst.2]
        unfold fb_Pa_read_145 fb_Pa_read_163
        have hbit : kshl 1 (kupA σ 17 t F 8 t 2) = ((2 ^ acc.length : Nat) : Int) := by
          rw [hka, p2, show (1 : Int) = ((1 : Nat) : Int) from rfl, kshl_n (a := 1) (i := acc.length) (by omega) (by omega), Nat.one_mul]
        rw [hbit, hka 1, s1, kor_n (by omega) (by omega), kup_j (by decide : (2 : Nat) ≠ 1), hka 2, p2]
        obtain ⟨σ', y', e, f1, f2⟩ := ih n (nx + 1) (acc ++ [(d, true)]) (kup (kup (kupA σ 17 t F) 8 t 1 ((s ||| 2 ^ acc.length : Nat) : Int)) 8 t 2 ((acc.length : Int) + 1)) (fun i hi => by
          rw [kup_k (by decide), kup_k (by decide), hk16]
          exact ha i hi) (hnew true _ (by rw [kup_self]; omega) (by rw [kup_j (by decide), kup_j (by decide), hka]; exact p3) (by rw [kup_j (by decide), kup_self]; rfl) (by
          rw [kup_ii (by omega), kup_ii (by omega), kupA_f, if_pos ⟨rfl, rfl⟩])) (by omega) (by omega) (by omega)
        refine ⟨σ', y', ?_, ((frT.rfl.kupA.kup).kup).tr f1, f2⟩
        rw [show ((nx : Int) + 1) = ((nx + 1 : Nat) : Int) by omega]
        exact e
      · have hS : isS ks nx b = false := decide_eq_false hst
        rw [hS]
        simp only [Bool.false_eq_true, if_false]
        have e163 : (if (b : Int) ≤ (nx : Int) then fb_Pa_read_163 (fl_Pa_read_68 n) x2 (b : Int) (nx : Int) t (kupA σ 17 t F) else fb_Pa_read_136 (fl_Pa_read_68 n) x2 (b : Int) (nx : Int) t (kupA σ 17 t F)) = fb_Pa_read_163 (fl_Pa_read_68 n) x2 (b : Int) (nx : Int) t (kupA σ 17 t F) := by
          by_cases z : (b : Int) ≤ nx
          · rw [if_pos z]
          · have rn := hr nx (by omega)
            rw [if_neg z]
            unfold fb_Pa_read_136
            rw [Int.toNat_natCast, hk16, hg nx (by omega), kg_pos (by omega), if_neg (by omega)]
        rw [e163]
        unfold fb_Pa_read_163
        rw [hka 2, p2]
        obtain ⟨σ', y', e, f1, f2⟩ := ih n nx (acc ++ [(d, false)]) (kup (kupA σ 17 t F) 8 t 2 ((acc.length : Int) + 1)) (fun i hi => by
          rw [kup_k (by decide), hk16]
          exact ha i hi) (hnew false _ (by rw [kup_self]; omega) (by rw [kup_j (by decide), hka]; exact p3) (by rw [kup_j (by decide), hka]; exact s1) (by
          rw [kup_ii (by omega), kupA_f, if_pos ⟨rfl, rfl⟩])) (by omega) (by omega) (by omega)
        exact ⟨σ', y', e, (frT.rfl.kupA.kup).tr f1, f2⟩
theorem L_fill2' (x : Int) (t : Nat) : ∀ (m n : Nat) (k : Int) (σ : kS), 0 ≤ k → k + m = 127 → m < n → fl2_Ar_fill2_5 n x k 127 t σ = some (none, fun a b c => if a = 17 ∧ b = t ∧ k.toNat ≤ c ∧ c < 127 then x else σ a b c) := by
  intro m
  induction m with
  | zero =>
    intro n k σ h0 h1 h2
    obtain ⟨n, rfl⟩ : ∃ n', n = n' + 1 := ⟨n - 1, by omega⟩
    simp only [fl2_Ar_fill2_5, fb2_Ar_fill2_5, fb2_Ar_fill2_20]
    rw [kg_pos (by omega), if_pos (by omega)]
    congr 2
    funext a b c
    rw [if_neg]
    omega
  | succ m ih =>
    intro n k σ h0 h1 h2
    obtain ⟨n, rfl⟩ : ∃ n', n = n' + 1 := ⟨n - 1, by omega⟩
    simp only [fl2_Ar_fill2_5, fb2_Ar_fill2_5, fb2_Ar_fill2_10]
    rw [kg_pos (by omega), if_neg (by omega), kg_pos (by omega), ih n (k + 1) _ (by omega) (by omega) (by omega)]
    congr 2
    funext a b c
    simp only [kup]
    by_cases h : a = 17 ∧ b = t ∧ k.toNat ≤ c ∧ c < 127
    · rw [if_pos h]
      by_cases hc : c = k.toNat
      · rw [if_neg (by omega), if_pos ⟨h.1, h.2.1, hc⟩]
      · rw [if_pos (by omega)]
    · rw [if_neg h, if_neg (by omega), if_neg (by omega)]
theorem C_read {a b : Nat} {xa xb : Int} (hxa : xa = a) (hxb : xb = b) (ha : kArr (σ 16 2) ks) (hl : ks.length ≤ 30) (hks : ∀ c ∈ ks, 32 ≤ c ∧ c ≤ 126) (hb : b ≤ ks.length) (haa : a ≤ 100) : ∃ σ' y, f_Pa_read xa xb t σ = some (some y, σ') ∧ frT t σ σ' ∧ ((parA ks a b = none ∧ y = 0) ∨ ∃ P, parA ks a b = some P ∧ y = 1 ∧ PCt ks σ' t P) := by
  subst hxa hxb
  unfold f_Pa_read fb_Pa_read_0 fb_Pa_read_4 parA
  rw [kg_pos (by omega), if_neg (by omega), kg_pos (by omega)]
  by_cases h : b ≤ a
  · rw [if_pos (by omega), if_pos h]
    exact ⟨σ, 0, rfl, frT.rfl, .inl ⟨rfl, rfl⟩⟩
  · rw [if_neg (by omega), if_neg h]
    unfold fb_Pa_read_9
    rw [kg_pos (by omega), if_pos (by omega)]
    unfold fb_Pa_read_17 f2_Ar_fill2 fb2_Ar_fill2_0
    rw [kbu_eq (L_fill2' 0 t 127 3000 0 σ (by omega) (by omega) (by omega))]
    generalize hτ : (fun a b c => if a = 17 ∧ b = t ∧ (0 : Int).toNat ≤ c ∧ c < 127 then 0 else σ a b c) = τ
    have t17 : ∀ c, c < 127 → τ 17 t c = 0 := fun c hc => by
      rw [← hτ]
      exact if_pos ⟨rfl, rfl, Nat.zero_le c, hc⟩
    have to : ∀ k, k ≠ 17 → τ k = σ k := fun k hk => by
      rw [← hτ]
      funext b c
      exact if_neg (fun z => hk z.1)
    have tu : ∀ u, u ≠ t → τ 17 u = σ 17 u := fun u hu => by
      rw [← hτ]
      funext c
      exact if_neg (fun z => hu z.2.1)
    have f0 : frT t σ τ := ⟨fun a h8 h17 => to a h17, fun u hu => ⟨congrFun (to 8 (by decide)) u, tu u hu⟩⟩
    clear hτ
    unfold fb_Pa_read_25
    have ra := hks _ (gd_mem (ks := ks) (k := a) (by omega))
    have e16 : kup τ 8 t 1 0 16 2 a = ks.getD a 0 := by
      rw [kup_k (by decide), to 16 (by decide)]
      exact ha a (by omega)
    rw [Int.toNat_natCast, e16, kg_pos (by omega)]
    have e44 : (if ks.getD a 0 = 94 then fb_Pa_read_39 (a : Int) (b : Int) t (kup τ 8 t 1 0) else fb_Pa_read_43 (a : Int) (b : Int) t (kup τ 8 t 1 0)) = fb_Pa_read_44 (a : Int) (b : Int) (b2 (isC ks a)) t (kup τ 8 t 1 0) := by
      unfold isC
      by_cases z : ks.getD a 0 = 94
      · rw [if_pos z, decide_eq_true z]
        rfl
      · rw [if_neg z, decide_eq_false z]
        rfl
    rw [e44]
    unfold fb_Pa_read_44
    have h01 := b2_01 (isC ks a)
    rw [kup_self, kg_pos (by omega)]
    have e61 : (if b2 (isC ks a) = 0 then fb_Pa_read_60 (a : Int) (b : Int) t (kup (kup τ 8 t 1 0) 8 t 3 (b2 (isC ks a))) else fb_Pa_read_54 (a : Int) (b : Int) t (kup (kup τ 8 t 1 0) 8 t 3 (b2 (isC ks a)))) = fl_Pa_read_68 3000 (a : Int) (b : Int) ((if isC ks a then a + 1 else a : Nat) : Int) t (kup (kup (kup τ 8 t 1 0) 8 t 3 (b2 (isC ks a))) 8 t 2 0) := by
      cases isC ks a <;> rfl
    rw [e61]
    have hP0 : PCp ks (kup (kup (kup τ 8 t 1 0) 8 t 3 (b2 (isC ks a))) 8 t 2 0) t (isC ks a) [] := by
      refine ⟨by decide, kup_self _ _ _ _ _, ?_, ⟨0, ?_, by decide, fun i hi => absurd hi (Nat.not_lt_zero i)⟩, fun c hc => ⟨0, ?_, by decide, fun _ => rfl, fun i hi => absurd hi (Nat.not_lt_zero i)⟩⟩
      · rw [kup_j (by decide), kup_self]
      · rw [kup_j (by decide), kup_j (by decide), kup_self]
        rfl
      · rw [kup_k (by decide), kup_k (by decide), kup_k (by decide), t17 c hc]
        rfl
    have hle : (if isC ks a then a + 1 else a) ≤ b := by
      split <;> omega
    obtain ⟨σ', y, e, f1, f2⟩ := C_readL (t := t) (f := isC ks a) (x2 := (a : Int)) hl hks hb 40 3000 (if isC ks a then a + 1 else a) [] _ (fun i hi => by
      rw [kup_k (by decide), kup_k (by decide), kup_k (by decide), to 16 (by decide)]
      exact ha i hi) hP0 (by omega) hle (by omega)
    refine ⟨σ', y, e, (((f0.kup).kup).kup).tr f1, ?_⟩
    · rcases f2 with ⟨z1, z2⟩ | ⟨r, z1, z2, z3⟩
      · exact .inl ⟨by rw [z1]; rfl, z2⟩
      · exact .inr ⟨(isC ks a, r.1, r.2), by rw [z1]; rfl, z2, z3⟩
end
