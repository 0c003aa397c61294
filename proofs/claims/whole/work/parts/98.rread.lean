/-! Pure: reading a pattern, the reference's side. -/
def frQ (σ σ' : kS) : Prop := (∀ a, a ≠ 9 → (a < 28 ∨ 31 < a) → σ' a = σ a) ∧ ∀ c, c < 28 ∨ 30 < c → σ' 9 0 c = σ 9 0 c
theorem frQ.rfl {σ : kS} : frQ σ σ := ⟨fun _ _ _ => Eq.refl _, fun _ _ => Eq.refl _⟩
theorem frQ.tr {σ σ' σ'' : kS} (h : frQ σ σ') (h2 : frQ σ' σ'') : frQ σ σ'' := ⟨fun a h3 h4 => (h2.1 a h3 h4).trans (h.1 a h3 h4), fun c hc => (h2.2 c hc).trans (h.2 c hc)⟩
theorem frQ.kup {σ σ' : kS} {k i j : Nat} {x : Int} (h : frQ σ σ') (hk : 28 ≤ k ∧ k ≤ 31 ∨ k = 9 ∧ 28 ≤ j ∧ j ≤ 30) : frQ σ (kup σ' k i j x) := h.tr ⟨fun a h1 h2 => kup_kk (by omega), fun c hc => kup_jj (by omega)⟩
theorem frQ.frF {σ σ' : kS} (h : frQ σ σ') : frF σ σ' := ⟨fun a h1 h2 => h.1 a h1 (by omega), fun a h1 => h.1 a (by omega) (by omega), fun c hc => h.2 c (by omega), fun j _ => congrFun (congrFun (h.1 20 (by decide) (by decide)) 0) j, fun j _ => congrFun (congrFun (h.1 21 (by decide) (by decide)) 0) j, fun k h1 h2 j _ => congrFun (congrFun (h.1 k (by omega) (by omega)) 0) j⟩
theorem RE.frQ {g : Int} {A : kEd} {σ σ' : kS} (h : RE g A σ) (f : frQ σ σ') : RE g A σ' := h.cg3 (fun c h1 _ _ _ => f.2 c (by omega)) (fun k h1 h2 => f.1 k (by omega) (by omega))
def TyR (ks : List Int) (σ : kS) : Prop := σ 9 0 20 = ks.length ∧ kArr (σ 27 0) ks ∧ ks.length ≤ 30 ∧ ∀ c ∈ ks, 32 ≤ c ∧ c ≤ 126
theorem TyR.frQ {ks : List Int} {σ σ' : kS} (h : TyR ks σ) (f : frQ σ σ') : TyR ks σ' := by
  obtain ⟨h1, h2, h3, h4⟩ := h
  exact ⟨(f.2 20 (by decide)).trans h1, by rw [f.1 27 (by decide) (by decide)]; exact h2, h3, h4⟩
def atD (ks : List Int) (σ : kS) (i : Nat) (A : At) : Prop := σ 28 0 i = A.1.1 ∧ σ 29 0 i = A.1.2.1 ∧ (A.1.1 = 2 → σ 30 0 i = A.1.2.2) ∧ σ 31 0 i = b2 A.2 ∧ (A.1.1 = 0 ∨ A.1.1 = 1 ∨ A.1.1 = 2) ∧ (0 ≤ A.1.2.1 ∧ A.1.2.1 ≤ 126) ∧ (A.1.1 = 2 → A.1.2.1 < A.1.2.2 ∧ A.1.2.2 < ks.length)
def PRp (ks : List Int) (σ : kS) (f : Bool) (acc : List At) : Prop := TyR ks σ ∧ acc.length ≤ 8 ∧ σ 9 0 28 = acc.length ∧ σ 9 0 29 = b2 f ∧ ∀ i, i < acc.length → atD ks σ i (acc.getD i ((0, 0, 0), false))
section
variable {ks : List Int} {σ : kS}
theorem R_atomE {f : Bool} {acc : List At} {τ : kS} {x1 x3 : Int} {d : Int × Int × Int} {nx b : Nat} (hP : PRp ks σ f acc) (hn : acc.length < 8) (hf : frQ σ τ) (h28 : τ 9 0 28 = acc.length) (h29 : τ 9 0 29 = b2 f) (hb : b ≤ ks.length) (hnx : nx ≤ b)
    (ho : ∀ k, 28 ≤ k → k ≤ 31 → ∀ i, i < acc.length → τ k 0 i = σ k 0 i) (d1 : τ 28 0 acc.length = d.1) (d2 : τ 29 0 acc.length = d.2.1) (d3 : d.1 = 2 → τ 30 0 acc.length = d.2.2) (d4 : d.1 = 0 ∨ d.1 = 1 ∨ d.1 = 2) (d5 : 0 ≤ d.2.1 ∧ d.2.1 ≤ 126) (d6 : d.1 = 2 → d.2.1 < d.2.2 ∧ d.2.2 < ks.length) :
    ∃ σ', fb_Rm_atom_172 x1 (b : Int) x3 (nx : Int) τ = some (some ((if isS ks nx b then nx + 1 else nx : Nat) : Int), σ') ∧ frQ σ σ' ∧ PRp ks σ' f (acc ++ [(d, isS ks nx b)]) ∧ σ' 9 0 30 = τ 9 0 30 := by
  obtain ⟨t1, t2, t3, t4⟩ := hP.1.frQ hf
  have hfin : ∀ s : Bool, frQ σ (kup (kup τ 31 0 acc.length (b2 s)) 9 0 28 ((acc.length : Int) + 1)) ∧ PRp ks (kup (kup τ 31 0 acc.length (b2 s)) 9 0 28 ((acc.length : Int) + 1)) f (acc ++ [(d, s)]) ∧ kup (kup τ 31 0 acc.length (b2 s)) 9 0 28 ((acc.length : Int) + 1) 9 0 30 = τ 9 0 30 := by
    intro s
    have hf' : frQ σ (kup (kup τ 31 0 acc.length (b2 s)) 9 0 28 ((acc.length : Int) + 1)) := (hf.kup (by omega)).kup (by omega)
    refine ⟨hf', ⟨hP.1.frQ hf', ?_, ?_, ?_, fun i hi => ?_⟩, by rw [kup_j (by decide), kup_k (by decide)]⟩
    · rw [List.length_append, List.length_singleton]
      omega
    · rw [kup_self, List.length_append, List.length_singleton]
      rfl
    · rw [kup_j (by decide), kup_k (by decide)]
      exact h29
    · rw [List.length_append, List.length_singleton] at hi
      rw [gd_snoc]
      have z : ∀ k, 28 ≤ k → k ≤ 30 → ∀ j, kup (kup τ 31 0 acc.length (b2 s)) 9 0 28 ((acc.length : Int) + 1) k 0 j = τ k 0 j := fun k h1 h2 j => by rw [kup_k (by omega), kup_k (by omega)]
      have z31 : ∀ j, kup (kup τ 31 0 acc.length (b2 s)) 9 0 28 ((acc.length : Int) + 1) 31 0 j = if j = acc.length then b2 s else τ 31 0 j := fun j => by
        rw [kup_k (by decide)]
        by_cases hj : j = acc.length
        · rw [if_pos hj, hj, kup_self]
        · rw [if_neg hj, kup_j hj]
      unfold atD
      rw [z 28 (by decide) (by decide), z 29 (by decide) (by decide), z 30 (by decide) (by decide), z31]
      by_cases h : i < acc.length
      · rw [if_pos h, if_neg (by omega), ho 28 (by decide) (by decide) i h, ho 29 (by decide) (by decide) i h, ho 30 (by decide) (by decide) i h, ho 31 (by decide) (by decide) i h]
        exact hP.2.2.2.2 i h
      · have h2 : i = acc.length := by omega
        rw [if_neg h, if_pos h2, if_pos h2, h2]
        exact ⟨d1, d2, d3, rfl, d4, d5, d6⟩
  have hst : ∀ s : Bool, fb_Rm_atom_202 x1 (b : Int) x3 (nx : Int) (b2 s) (acc.length : Int) τ = some (some ((if s then nx + 1 else nx : Nat) : Int), kup (kup τ 31 0 acc.length (b2 s)) 9 0 28 ((acc.length : Int) + 1)) := by
    intro s
    have h01 := b2_01 s
    have e28 : kup τ 31 0 acc.length (b2 s) 9 0 28 = acc.length := by
      rw [kup_k (by decide)]
      exact h28
    unfold fb_Rm_atom_202
    rw [Int.toNat_natCast, e28, Int.toNat_natCast, kup_self, kg_pos (by omega)]
    unfold fb_Rm_atom_222 fb_Rm_atom_215 fb_Rm_atom_224
    rw [e28]
    cases s with
    | true =>
      rw [if_neg (show ¬ b2 true = 0 by decide), if_pos rfl, show ((nx : Int) + 1) = ((nx + 1 : Nat) : Int) by omega]
    | false =>
      rw [if_pos (show b2 false = 0 from rfl)]
      rfl
  unfold fb_Rm_atom_172
  rw [h28, kg_pos (by omega)]
  by_cases h : nx < b ∧ ks.getD nx 0 = 42
  · have hS : isS ks nx b = true := decide_eq_true h
    rw [hS, if_neg (by omega)]
    unfold fb_Rm_atom_186
    rw [kbi_eq (R_seen (k := nx) t1 t2 t3 rfl (by omega))]
    unfold fb_Rm_atom_192
    rw [kg_pos (by omega), if_pos h.2]
    exact ⟨_, hst true, hfin true⟩
  · have hS : isS ks nx b = false := decide_eq_false h
    rw [hS]
    have e201 : (if (b : Int) ≤ (nx : Int) then fb_Rm_atom_201 x1 (b : Int) x3 (nx : Int) (acc.length : Int) τ else fb_Rm_atom_186 x1 (b : Int) x3 (nx : Int) (acc.length : Int) τ) = fb_Rm_atom_201 x1 (b : Int) x3 (nx : Int) (acc.length : Int) τ := by
      by_cases z : (b : Int) ≤ nx
      · rw [if_pos z]
      · have rn := gd_rng t4 nx
        rw [if_neg z]
        unfold fb_Rm_atom_186
        rw [kbi_eq (R_seen (k := nx) t1 t2 t3 rfl (by omega))]
        unfold fb_Rm_atom_192
        rw [kg_pos (by omega), if_neg (by omega)]
    rw [e201]
    exact ⟨_, hst false, hfin false⟩
theorem R_findL {x1 x3 x4 : Int} {b : Nat} {τ : kS} (hT : TyR ks τ) (hb : b ≤ ks.length) : ∀ (m f k : Nat), b ≤ k + m → k ≤ 60 → m < f → fl_Rm_atom_102 f x1 (b : Int) x3 x4 (k : Int) τ = fb_Rm_atom_125 x1 (b : Int) x3 x4 ((findI ks 93 b (m + 1) k : Nat) : Int) τ := by
  obtain ⟨t1, t2, t3, t4⟩ := hT
  intro m
  induction m with
  | zero =>
    intro f k h1 h2 h3
    obtain ⟨f, rfl⟩ : ∃ f', f = f' + 1 := ⟨f - 1, by omega⟩
    simp only [fl_Rm_atom_102, fb_Rm_atom_102]
    rw [kg_pos (by omega), if_pos (by omega), findI, if_pos (by omega)]
  | succ m ih =>
    intro f k h1 h2 h3
    obtain ⟨f, rfl⟩ : ∃ f', f = f' + 1 := ⟨f - 1, by omega⟩
    simp only [fl_Rm_atom_102, fb_Rm_atom_102]
    rw [kg_pos (by omega), findI]
    by_cases hk : b ≤ k
    · rw [if_pos (by omega), if_pos hk]
    · have rk := gd_rng t4 k
      rw [if_neg (by omega), if_neg hk]
      unfold fb_Rm_atom_108
      rw [kbi_eq (R_seen (k := k) t1 t2 t3 rfl (by omega))]
      unfold fb_Rm_atom_114 fb_Rm_atom_119
      rw [kg_pos (by omega)]
      by_cases h5 : ks.getD k 0 = 93
      · rw [if_pos h5, if_pos h5]
      · rw [if_neg h5, if_neg h5]
        exact ih f (k + 1) (by omega) (by omega) (by omega)
theorem findI_le (ks : List Int) (v : Int) (b : Nat) : ∀ m q, q ≤ findI ks v b m q ∧ findI ks v b m q ≤ q + m := by
  intro m
  induction m with
  | zero => intro q; exact ⟨Nat.le_refl q, Nat.le_refl q⟩
  | succ m ih =>
    intro q
    unfold findI
    split
    · omega
    · split
      · omega
      · have := ih (q + 1)
        omega
theorem R_atom {f : Bool} {acc : List At} {k b : Nat} (hP : PRp ks σ f acc) (hn : acc.length < 8) (hb : b ≤ ks.length) (hk : k < b) : ∃ σ' y, f_Rm_atom (k : Int) (b : Int) σ = some (some y, σ') ∧ frQ σ σ' ∧ σ' 9 0 30 = σ 9 0 30 ∧ ((atomA ks k b = none ∧ y = -1) ∨ ∃ d nx, atomA ks k b = some (d, nx) ∧ nx ≤ b ∧ k < nx ∧ y = ((if isS ks nx b then nx + 1 else nx : Nat) : Int) ∧ PRp ks σ' f (acc ++ [(d, isS ks nx b)])) := by
  have hT := hP.1
  obtain ⟨t1, t2, t3, t4⟩ := hT
  have r0 := gd_rng t4 k
  have h28 := hP.2.2.1
  have h29 := hP.2.2.2.1
  unfold f_Rm_atom fb_Rm_atom_0
  rw [kbi_eq (R_seen (k := k) t1 t2 t3 rfl (by omega))]
  unfold fb_Rm_atom_5
  have e28 : ∀ v, kup σ 28 0 acc.length v 9 0 28 = acc.length := fun v => by
    rw [kup_k (by decide)]
    exact h28
  rw [h28, Int.toNat_natCast, e28, Int.toNat_natCast, kg_pos (by omega)]
  -- the state after the first two writes
  have f1 : frQ σ (kup (kup σ 28 0 acc.length 1) 29 0 acc.length (ks.getD k 0)) := (frQ.rfl.kup (by omega)).kup (by omega)
  have g28 : kup (kup σ 28 0 acc.length 1) 29 0 acc.length (ks.getD k 0) 28 0 acc.length = 1 := by rw [kup_k (by decide), kup_self]
  have g29 : kup (kup σ 28 0 acc.length 1) 29 0 acc.length (ks.getD k 0) 29 0 acc.length = ks.getD k 0 := kup_self _ _ _ _ _
  have go : ∀ q, 28 ≤ q → q ≤ 31 → ∀ i, i < acc.length → kup (kup σ 28 0 acc.length 1) 29 0 acc.length (ks.getD k 0) q 0 i = σ q 0 i := fun q _ _ i hi => by rw [kup_jj (by omega), kup_jj (by omega)]
  have g9 : ∀ c, kup (kup σ 28 0 acc.length 1) 29 0 acc.length (ks.getD k 0) 9 0 c = σ 9 0 c := fun c => by rw [kup_k (by decide), kup_k (by decide)]
  generalize kup (kup σ 28 0 acc.length 1) 29 0 acc.length (ks.getD k 0) = τ at f1 g28 g29 go g9
  have hTt := hP.1.frQ f1
  obtain ⟨u1, u2, u3, u4⟩ := hTt
  have c28 : τ 9 0 28 = acc.length := (g9 28).trans h28
  have c29 : τ 9 0 29 = b2 f := (g9 29).trans h29
  unfold atomA
  by_cases c1 : ks.getD k 0 = 42
  · rw [if_pos c1, if_pos c1]
    exact ⟨τ, -1, rfl, f1, g9 30, .inl ⟨rfl, rfl⟩⟩
  rw [if_neg c1, if_neg c1]
  unfold fb_Rm_atom_39
  rw [kg_pos (by omega)]
  by_cases c2 : ks.getD k 0 = 46
  · rw [if_pos c2, if_pos c2]
    unfold fb_Rm_atom_45 fb_Rm_atom_55 fb_Rm_atom_91
    rw [c28, kg_pos (by omega), Int.toNat_natCast, kg_pos (by omega), if_neg (by omega), kg_pos (by omega), if_neg (by omega)]
    obtain ⟨σ', e, z1, z2, z3⟩ := R_atomE (τ := kup τ 28 0 acc.length 0) (x1 := (k : Int)) (x3 := ks.getD k 0) (d := (0, 46, 0)) (nx := k + 1) hP hn (f1.kup (by omega)) (by rw [kup_k (by decide)]; exact c28) (by rw [kup_k (by decide)]; exact c29) hb (by omega) (fun q h1 h2 i hi => by rw [kup_jj (by omega)]; exact go q h1 h2 i hi) (kup_self _ _ _ _ _) (by rw [kup_k (by decide), g29]; exact c2) (fun h => absurd h (by decide)) (.inl rfl) ⟨by decide, by decide⟩ (fun h => absurd h (by decide))
    exact ⟨σ', _, e, z1, z3.trans ((kup_k (by decide)).trans (g9 30)), .inr ⟨_, k + 1, rfl, by omega, by omega, rfl, z2⟩⟩
  rw [if_neg c2, if_neg c2]
  unfold fb_Rm_atom_55
  rw [kg_pos (by omega)]
  by_cases c3 : ks.getD k 0 = 92
  · rw [if_pos c3, if_pos c3]
    unfold fb_Rm_atom_61
    rw [kg_pos (by omega)]
    by_cases hkb : b ≤ k + 1
    · rw [if_neg (by omega), if_pos hkb]
      exact ⟨τ, -1, rfl, f1, g9 30, .inl ⟨rfl, rfl⟩⟩
    · rw [if_pos (by omega), if_neg hkb]
      unfold fb_Rm_atom_70
      rw [kbi_eq (R_seen (k := k + 1) u1 u2 u3 (by omega) (by omega)), c28]
      unfold fb_Rm_atom_85 fb_Rm_atom_91
      rw [kg_pos (by omega), Int.toNat_natCast, kg_pos (by omega), if_neg (by omega)]
      have r1 := gd_rng t4 (k + 1)
      obtain ⟨σ', e, z1, z2, z3⟩ := R_atomE (τ := kup τ 29 0 acc.length (ks.getD (k + 1) 0)) (x1 := (k : Int)) (x3 := ks.getD k 0) (d := (1, ks.getD (k + 1) 0, 0)) (nx := k + 2) hP hn (f1.kup (by omega)) (by rw [kup_k (by decide)]; exact c28) (by rw [kup_k (by decide)]; exact c29) hb (by omega) (fun q h1 h2 i hi => by rw [kup_jj (by omega)]; exact go q h1 h2 i hi) (by rw [kup_k (by decide)]; exact g28) (kup_self _ _ _ _ _) (fun h => absurd h (show ¬ (1 : Int) = 2 by decide)) (.inr (.inl rfl)) r1 (fun h => absurd h (show ¬ (1 : Int) = 2 by decide))
      exact ⟨σ', _, e, z1, z3.trans ((kup_k (by decide)).trans (g9 30)), .inr ⟨_, k + 2, rfl, by omega, by omega, rfl, z2⟩⟩
  rw [if_neg c3, if_neg c3]
  unfold fb_Rm_atom_91
  rw [kg_pos (by omega)]
  by_cases c4 : ks.getD k 0 = 91
  · rw [if_pos c4, if_pos c4]
    unfold fb_Rm_atom_97
    have hfl := R_findL (x1 := (k : Int)) (x3 := ks.getD k 0) (x4 := (k : Int) + 1) (b := b) ⟨u1, u2, u3, u4⟩ hb 39 3000 (k + 2) (by omega) (by omega) (by omega)
    have e0 : fl_Rm_atom_102 3000 (k : Int) (b : Int) (ks.getD k 0) ((k : Int) + 1) ((k : Int) + 2) τ = fb_Rm_atom_125 (k : Int) (b : Int) (ks.getD k 0) ((k : Int) + 1) ((findI ks 93 b 40 (k + 2) : Nat) : Int) τ := hfl
    rw [e0]
    have hle := findI_le ks 93 b 40 (k + 2)
    generalize findI ks 93 b 40 (k + 2) = e at hle
    unfold fb_Rm_atom_125
    rw [kg_pos (by omega)]
    by_cases he : b ≤ e
    · rw [if_neg (by omega), if_pos he]
      exact ⟨τ, -1, rfl, f1, g9 30, .inl ⟨rfl, rfl⟩⟩
    · rw [if_pos (by omega), if_neg he]
      unfold fb_Rm_atom_133
      have w1 : kup τ 28 0 acc.length 2 9 0 28 = acc.length := by rw [kup_k (by decide)]; exact c28
      have w2 : kup (kup τ 28 0 acc.length 2) 29 0 acc.length ((k : Int) + 1) 9 0 28 = acc.length := by rw [kup_k (by decide)]; exact w1
      rw [c28, Int.toNat_natCast, w1, Int.toNat_natCast, w2, Int.toNat_natCast, kg_pos (by omega), show ((e : Int) + 1) = ((e + 1 : Nat) : Int) by omega]
      obtain ⟨σ', e1, z1, z2, z3⟩ := R_atomE (τ := kup (kup (kup τ 28 0 acc.length 2) 29 0 acc.length ((k : Int) + 1)) 30 0 acc.length (e : Int)) (x1 := (k : Int)) (x3 := ks.getD k 0) (d := (2, (k : Int) + 1, (e : Int))) (nx := e + 1) hP hn (((f1.kup (by omega)).kup (by omega)).kup (by omega)) (by rw [kup_k (by decide)]; exact w2) (by rw [kup_k (by decide), kup_k (by decide), kup_k (by decide)]; exact c29) hb (by omega) (fun q h1 h2 i hi => by rw [kup_jj (by omega), kup_jj (by omega), kup_jj (by omega)]; exact go q h1 h2 i hi) (by rw [kup_k (by decide), kup_k (by decide), kup_self]) (by rw [kup_k (by decide), kup_self]) (fun _ => kup_self _ _ _ _ _) (.inr (.inr rfl)) ⟨by dsimp only; omega, by dsimp only; omega⟩ (fun _ => ⟨by dsimp only; omega, by dsimp only; omega⟩)
      exact ⟨σ', _, e1, z1, z3.trans (((kup_k (by decide)).trans ((kup_k (by decide)).trans (kup_k (by decide)))).trans (g9 30)), .inr ⟨_, e + 1, rfl, by omega, by omega, rfl, z2⟩⟩
  rw [if_neg c4, if_neg c4]
  obtain ⟨σ', e, z1, z2, z3⟩ := R_atomE (τ := τ) (x1 := (k : Int)) (x3 := ks.getD k 0) (d := (1, ks.getD k 0, 0)) (nx := k + 1) hP hn f1 c28 c29 hb (by omega) go g28 g29 (fun h => absurd h (show ¬ (1 : Int) = 2 by decide)) (.inr (.inl rfl)) r0 (fun h => absurd h (show ¬ (1 : Int) = 2 by decide))
  exact ⟨σ', _, e, z1, z3.trans (g9 30), .inr ⟨_, k + 1, rfl, by omega, by omega, rfl, z2⟩⟩
theorem R_patL {f : Bool} {x1 : Int} {b : Nat} (hb : b ≤ ks.length) : ∀ (m n k : Nat) (acc : List At) (σ : kS), PRp ks σ f acc → σ 9 0 30 = 0 → b < k + m → k ≤ b → m < n → (f = true ∨ acc ≠ [] ∨ k < b) → ∃ σ' y, fl_Rm_pattern_51 n x1 (b : Int) (k : Int) σ = some (some y, σ') ∧ frQ σ σ' ∧ ((prs ks b m k acc = none ∧ y = 0) ∨ ∃ r, prs ks b m k acc = some r ∧ y = 1 ∧ PRt ks σ' (f, r.1, r.2)) := by
  intro m
  induction m with
  | zero =>
    intro n k acc σ hP h30 h1 h2 h3 h4
    exact absurd h1 (by omega)
  | succ m ih =>
    intro n k acc σ hP h30 h1 h2 h3 h4
    obtain ⟨n, rfl⟩ : ∃ n', n = n' + 1 := ⟨n - 1, by omega⟩
    obtain ⟨⟨t1, t2, t3, t4⟩, p1, p2, p3, p5⟩ := hP
    have hf01 := b2_01 f
    rw [prs]
    -- the end: all is read
    have hend : ∀ (x3 : Int) (l : Bool) (τ : kS), frQ σ τ → τ 9 0 28 = acc.length → τ 9 0 29 = b2 f → τ 9 0 30 = b2 l → (∀ q, 28 ≤ q → q ≤ 31 → τ q = σ q) → (f = true ∨ l = true ∨ acc ≠ []) → fb_Rm_pattern_115 x1 (b : Int) x3 τ = some (some 1, τ) ∧ PRt ks τ (f, l, acc) := by
      intro x3 l τ hf e1 e2 e3 e4 hne
      have hT : TyR ks τ := TyR.frQ ⟨t1, t2, t3, t4⟩ hf
      refine ⟨?_, hT, p1, e1, e2, e3, fun i hi => ?_⟩
      · unfold fb_Rm_pattern_115 fb_Rm_pattern_122 fb_Rm_pattern_129 fb_Rm_pattern_136 fb_Rm_pattern_140 fb_Rm_pattern_141
        have hl01 := b2_01 l
        rw [e1, e2, e3, kg_pos (by omega), kg_pos (by omega), kg_pos (by omega), kg_pos (by decide), kg_pos (by decide)]
        cases hf' : f with
        | true => rw [if_neg (show ¬ b2 true = 0 by decide)]
        | false =>
          rw [if_pos (show b2 false = 0 from rfl)]
          cases hl' : l with
          | true => rw [if_neg (show ¬ b2 true = 0 by decide)]
          | false =>
            rw [if_pos (show b2 false = 0 from rfl), if_neg]
            rw [hf', hl'] at hne
            have : acc ≠ [] := (hne.resolve_left (by decide)).resolve_left (by decide)
            have := List.length_pos_iff.mpr this
            omega
      · have h := p5 i hi
        unfold atD at h
        rw [e4 28 (by decide) (by decide), e4 29 (by decide) (by decide), e4 30 (by decide) (by decide), e4 31 (by decide) (by decide)]
        exact h
    simp only [fl_Rm_pattern_51, fb_Rm_pattern_51]
    rw [kg_pos (by omega)]
    by_cases hkb : b ≤ k
    · rw [if_pos hkb, if_pos (by omega)]
      obtain ⟨e1, e2⟩ := hend (k : Int) false σ frQ.rfl p2 p3 h30 (fun _ _ _ => rfl) (by
        rcases h4 with h | h | h
        · exact .inl h
        · exact .inr (.inr h)
        · omega)
      exact ⟨σ, 1, e1, frQ.rfl, .inr ⟨(false, acc), rfl, rfl, e2⟩⟩
    rw [if_neg hkb, if_neg (by omega)]
    have r0 := gd_rng t4 k
    unfold fb_Rm_pattern_56
    rw [h30, kg_pos (by decide), if_pos rfl]
    unfold fb_Rm_pattern_63
    rw [kbi_eq (R_seen (k := k) t1 t2 t3 rfl (by omega))]
    unfold fb_Rm_pattern_68
    rw [kg_pos (by omega)]
    by_cases hsg : ks.getD k 0 = 36 ∧ k + 1 = b
    · rw [if_pos hsg, if_pos hsg.1]
      unfold fb_Rm_pattern_73
      rw [kg_pos (by omega), if_pos (by omega)]
      unfold fb_Rm_pattern_80
      obtain ⟨e1, e2⟩ := hend ((k : Int) + 1) true (kup σ 9 0 30 1) (frQ.rfl.kup (by decide)) (by rw [kup_j (by decide)]; exact p2) (by rw [kup_j (by decide)]; exact p3) (kup_self _ _ _ _ _) (fun q h1 h2 => kup_kk (by omega)) (.inr (.inl rfl))
      refine ⟨_, 1, ?_, frQ.rfl.kup (by decide), .inr ⟨(true, acc), rfl, rfl, e2⟩⟩
      obtain ⟨n, rfl⟩ : ∃ n', n = n' + 1 := ⟨n - 1, by omega⟩
      simp only [fl_Rm_pattern_51, fb_Rm_pattern_51]
      rw [kg_pos (by omega), if_pos (by omega)]
      exact e1
    have e91 : (if ks.getD k 0 = 36 then fb_Rm_pattern_73 (fl_Rm_pattern_51 n) x1 (b : Int) (k : Int) σ else fb_Rm_pattern_91 (fl_Rm_pattern_51 n) x1 (b : Int) (k : Int) σ) = fb_Rm_pattern_91 (fl_Rm_pattern_51 n) x1 (b : Int) (k : Int) σ := by
      by_cases z : ks.getD k 0 = 36
      · rw [if_pos z]
        unfold fb_Rm_pattern_73
        rw [kg_pos (by omega), if_neg (by omega)]
      · rw [if_neg z]
    rw [if_neg hsg, e91]
    unfold fb_Rm_pattern_91
    rw [p2, kg_pos (by omega)]
    by_cases h8 : acc.length = 8
    · rw [if_pos h8, if_pos (by omega)]
      exact ⟨σ, 0, rfl, frQ.rfl, .inl ⟨rfl, rfl⟩⟩
    rw [if_neg h8, if_neg (by omega)]
    unfold fb_Rm_pattern_102
    obtain ⟨τ, y, ea, hfa, ha30, hA⟩ := R_atom (f := f) ⟨⟨t1, t2, t3, t4⟩, p1, p2, p3, p5⟩ (by omega) hb (k := k) (by omega)
    rw [kbi_eq ea]
    unfold fb_Rm_pattern_108
    rcases hA with ⟨hA1, hA2⟩ | ⟨d, nx, hA1, hA2, hA3, hA4, hA5⟩
    · rw [hA1, hA2, kg_pos (by decide), if_neg (by decide)]
      exact ⟨τ, 0, rfl, hfa, .inl ⟨rfl, rfl⟩⟩
    · rw [hA1, hA4]
      have hnb : (if isS ks nx b then nx + 1 else nx) ≤ b ∧ k < (if isS ks nx b then nx + 1 else nx) := by
        unfold isS
        by_cases z : nx < b ∧ ks.getD nx 0 = 42
        · rw [decide_eq_true z, if_pos rfl]
          omega
        · rw [decide_eq_false z]
          simp only [Bool.false_eq_true, if_false]
          omega
      rw [kg_pos (by omega), if_pos (by omega)]
      have h30' : τ 9 0 30 = 0 := ha30.trans h30
      obtain ⟨σ', y', e, g1, g2⟩ := ih n (if isS ks nx b then nx + 1 else nx) (acc ++ [(d, isS ks nx b)]) τ hA5 h30' (by omega) hnb.1 (by omega) (.inr (.inl (by simp)))
      exact ⟨σ', y', e, hfa.tr g1, g2⟩
theorem R_pattern {a b : Nat} {xa xb : Int} (hxa : xa = a) (hxb : xb = b) (hT : TyR ks σ) (hb : b ≤ ks.length) (haa : a ≤ 100) : ∃ σ' y, f_Rm_pattern xa xb σ = some (some y, σ') ∧ frQ σ σ' ∧ ((parA ks a b = none ∧ y = 0) ∨ ∃ P, parA ks a b = some P ∧ y = 1 ∧ PRt ks σ' P) := by
  subst hxa hxb
  obtain ⟨t1, t2, t3, t4⟩ := hT
  have f0 : frQ σ (kup (kup σ 9 0 28 0) 9 0 30 0) := (frQ.rfl.kup (by decide)).kup (by decide)
  have hT0 : TyR ks (kup (kup σ 9 0 28 0) 9 0 30 0) := TyR.frQ ⟨t1, t2, t3, t4⟩ f0
  unfold f_Rm_pattern fb_Rm_pattern_0 parA
  rw [kg_pos (by omega)]
  have c28 : kup (kup σ 9 0 28 0) 9 0 30 0 9 0 28 = 0 := rfl
  have c30 : kup (kup σ 9 0 28 0) 9 0 30 0 9 0 30 = 0 := rfl
  generalize kup (kup σ 9 0 28 0) 9 0 30 0 = τ at f0 hT0 c28 c30
  by_cases h : b ≤ a
  · rw [if_pos (by omega), if_pos h]
    refine ⟨kup τ 9 0 29 0, 0, ?_, f0.kup (by decide), .inl ⟨rfl, rfl⟩⟩
    have hl : ∀ n, fl_Rm_pattern_51 (n + 1) (a : Int) (b : Int) (a : Int) (kup τ 9 0 29 0) = some (some 0, kup τ 9 0 29 0) := fun n => by
      simp only [fl_Rm_pattern_51, fb_Rm_pattern_51]
      rw [kg_pos (by omega), if_pos (by omega)]
      unfold fb_Rm_pattern_115 fb_Rm_pattern_122 fb_Rm_pattern_129 fb_Rm_pattern_140 fb_Rm_pattern_141
      have d28 : kup τ 9 0 29 0 9 0 28 = 0 := c28
      have d30 : kup τ 9 0 29 0 9 0 30 = 0 := c30
      rw [kup_self, d28, d30, kg_pos (by decide), kg_pos (by decide), kg_pos (by decide), kg_pos (by decide)]
      rfl
    unfold fb_Rm_pattern_32 fb_Rm_pattern_33
    rw [kup_self, kg_pos (by decide), if_pos rfl]
    exact hl 2999
  · rw [if_neg (by omega), if_neg h]
    obtain ⟨u1, u2, u3, u4⟩ := hT0
    have r0 := gd_rng u4 a
    have h01 := b2_01 (isC ks a)
    unfold fb_Rm_pattern_18
    rw [kbi_eq (R_seen (k := a) u1 u2 u3 rfl (by omega))]
    unfold fb_Rm_pattern_23
    rw [kg_pos (by omega)]
    have e33 : (if ks.getD a 0 = 94 then fb_Rm_pattern_28 (a : Int) (b : Int) (a : Int) τ else fb_Rm_pattern_32 (a : Int) (b : Int) (a : Int) τ) = fb_Rm_pattern_33 (a : Int) (b : Int) (a : Int) (b2 (isC ks a)) τ := by
      unfold isC
      by_cases z : ks.getD a 0 = 94
      · rw [if_pos z, decide_eq_true z]
        rfl
      · rw [if_neg z, decide_eq_false z]
        rfl
    rw [e33]
    unfold fb_Rm_pattern_33
    rw [kup_self, kg_pos (by omega)]
    have e51 : (if b2 (isC ks a) = 0 then fb_Rm_pattern_49 (a : Int) (b : Int) (a : Int) (kup τ 9 0 29 (b2 (isC ks a))) else fb_Rm_pattern_43 (a : Int) (b : Int) (a : Int) (kup τ 9 0 29 (b2 (isC ks a)))) = fl_Rm_pattern_51 3000 (a : Int) (b : Int) ((if isC ks a then a + 1 else a : Nat) : Int) (kup τ 9 0 29 (b2 (isC ks a))) := by
      unfold fb_Rm_pattern_49 fb_Rm_pattern_43 fb_Rm_pattern_50
      cases isC ks a with
      | true => rw [if_neg (show ¬ b2 true = 0 by decide), if_pos rfl, show ((a : Int) + 1) = ((a + 1 : Nat) : Int) by omega]
      | false =>
        rw [if_pos (show b2 false = 0 from rfl)]
        simp only [Bool.false_eq_true, if_false]
    rw [e51]
    have hle : (if isC ks a then a + 1 else a) ≤ b ∧ a ≤ (if isC ks a then a + 1 else a) := by
      split <;> omega
    have f1 : frQ σ (kup τ 9 0 29 (b2 (isC ks a))) := f0.kup (by decide)
    obtain ⟨σ', y, e, g1, g2⟩ := R_patL (f := isC ks a) (x1 := (a : Int)) hb 40 3000 (if isC ks a then a + 1 else a) [] (kup τ 9 0 29 (b2 (isC ks a))) ⟨TyR.frQ ⟨t1, t2, t3, t4⟩ f1, by decide, c28, rfl, fun i hi => absurd hi (Nat.not_lt_zero i)⟩ c30 (by omega) hle.1 (by omega) (by
      cases hc : isC ks a with
      | true => exact .inl rfl
      | false =>
        simp only [Bool.false_eq_true, if_false]
        exact .inr (.inr (by omega)))
    refine ⟨σ', y, e, f1.tr g1, ?_⟩
    rcases g2 with ⟨z1, z2⟩ | ⟨r, z1, z2, z3⟩
    · exact .inl ⟨by rw [z1]; rfl, z2⟩
    · exact .inr ⟨(isC ks a, r.1, r.2), by rw [z1]; rfl, z2, z3⟩
end
