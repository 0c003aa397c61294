/-! Pure: reading a pattern, the class's side. -/
def findI (ks : List Int) (v : Int) (b : Nat) : Nat → Nat → Nat
  | 0, k => k
  | m + 1, k => if b ≤ k then k else if ks.getD k 0 = v then k else findI ks v b m (k + 1)
def atomA (ks : List Int) (k b : Nat) : Option ((Int × Int × Int) × Nat) :=
  if ks.getD k 0 = 42 then none
  else if ks.getD k 0 = 46 then some ((0, 46, 0), k + 1)
  else if ks.getD k 0 = 92 then (if b ≤ k + 1 then none else some ((1, ks.getD (k + 1) 0, 0), k + 2))
  else if ks.getD k 0 = 91 then (if b ≤ findI ks 93 b 40 (k + 2) then none else some ((2, (k : Int) + 1, (findI ks 93 b 40 (k + 2) : Int)), findI ks 93 b 40 (k + 2) + 1))
  else some ((1, ks.getD k 0, 0), k + 1)
def isS (ks : List Int) (k b : Nat) : Bool := decide (k < b ∧ ks.getD k 0 = 42)
def prs (ks : List Int) (b : Nat) : Nat → Nat → List At → Option (Bool × List At)
  | 0, _, _ => none
  | m + 1, k, acc => if b ≤ k then some (false, acc) else if ks.getD k 0 = 36 ∧ k + 1 = b then some (true, acc) else if acc.length = 8 then none
    else (atomA ks k b).elim none fun d => prs ks b m (if isS ks d.2 b then d.2 + 1 else d.2) (acc ++ [(d.1, isS ks d.2 b)])
def isC (ks : List Int) (a : Nat) : Bool := decide (ks.getD a 0 = 94)
def parA (ks : List Int) (a b : Nat) : Option Pt := if b ≤ a then none else (prs ks b 40 (if isC ks a then a + 1 else a) []).map fun r => (isC ks a, r.1, r.2)
/-- bits of the takers: those below n stand, n is in the making -/
def BT (F : Nat → Int) (n : Nat) (g : Nat → Int → Bool) (h : Int → Bool) : Prop := ∀ c : Nat, c < 127 → ∃ k : Nat, F c = k ∧ k < 2 ^ (n + 1) ∧ (c < 32 → k = 0) ∧ (∀ i, i < n → 32 ≤ c → k.testBit i = g i c) ∧ (32 ≤ c → k.testBit n = h c)
theorem pow_le8 {n : Nat} (h : n ≤ 8) : 2 ^ n ≤ 256 := by
  have : 2 ^ n ≤ 2 ^ 8 := Nat.pow_le_pow_right (by decide) h
  exact this
theorem BT.or {F : Nat → Int} {n : Nat} {g : Nat → Int → Bool} {h : Int → Bool} {c0 : Nat} (hB : BT F n g h) (hn : n ≤ 7) (h1 : 32 ≤ c0) (h2 : c0 ≤ 126) : BT (fun c => if c = c0 then kor (F c0) ((2 ^ n : Nat) : Int) else F c) n g (fun c => if c = c0 then true else h c) := by
  intro c hc
  have hp := pow_le8 (n := n + 1) (by omega)
  have hp' := pow_le8 (n := n) (by omega)
  have hpn : 2 ^ n < 2 ^ (n + 1) := Nat.pow_lt_pow_right (by decide) (by omega)
  by_cases h : c = c0
  · subst h
    obtain ⟨k, k1, k2, k3, k4, k5⟩ := hB c hc
    refine ⟨k ||| 2 ^ n, ?_, Nat.or_lt_two_pow k2 hpn, fun z => absurd z (by omega), fun i hi z => ?_, fun z => ?_⟩
    · dsimp only
      rw [if_pos rfl, k1, kor_n (by omega) (by omega)]
    · rw [Nat.testBit_or, Nat.testBit_two_pow, decide_eq_false (by omega), Bool.or_false]
      exact k4 i hi z
    · rw [Nat.testBit_or, Nat.testBit_two_pow, decide_eq_true rfl, Bool.or_true]
      dsimp only
      rw [if_pos rfl]
  · obtain ⟨k, k1, k2, k3, k4, k5⟩ := hB c hc
    refine ⟨k, ?_, k2, k3, k4, fun z => ?_⟩
    · dsimp only
      rw [if_neg h, k1]
    · dsimp only
      rw [if_neg (by omega)]
      exact k5 z
theorem BT.xor {F : Nat → Int} {n : Nat} {g : Nat → Int → Bool} {h : Int → Bool} {c0 : Nat} (hB : BT F n g h) (hn : n ≤ 7) (h1 : 32 ≤ c0) (h2 : c0 ≤ 126) : BT (fun c => if c = c0 then kxor (F c0) ((2 ^ n : Nat) : Int) else F c) n g (fun c => if c = c0 then !h c else h c) := by
  intro c hc
  have hp := pow_le8 (n := n + 1) (by omega)
  have hp' := pow_le8 (n := n) (by omega)
  have hpn : 2 ^ n < 2 ^ (n + 1) := Nat.pow_lt_pow_right (by decide) (by omega)
  by_cases h' : c = c0
  · subst h'
    obtain ⟨k, k1, k2, k3, k4, k5⟩ := hB c hc
    refine ⟨k ^^^ 2 ^ n, ?_, Nat.xor_lt_two_pow k2 hpn, fun z => absurd z (by omega), fun i hi z => ?_, fun z => ?_⟩
    · dsimp only
      rw [if_pos rfl, k1, kxor_n (by omega) (by omega)]
    · rw [Nat.testBit_xor, Nat.testBit_two_pow, decide_eq_false (by omega), Bool.xor_false]
      exact k4 i hi z
    · rw [Nat.testBit_xor, Nat.testBit_two_pow, decide_eq_true rfl, Bool.xor_true, k5 z]
      dsimp only
      rw [if_pos rfl]
  · obtain ⟨k, k1, k2, k3, k4, k5⟩ := hB c hc
    refine ⟨k, ?_, k2, k3, k4, fun z => ?_⟩
    · dsimp only
      rw [if_neg h', k1]
    · dsimp only
      rw [if_neg (by omega)]
      exact k5 z
theorem BT.ext {F : Nat → Int} {n : Nat} {g : Nat → Int → Bool} {h h' : Int → Bool} (hB : BT F n g h) (e : ∀ c : Int, 32 ≤ c → c ≤ 126 → h' c = h c) : BT F n g h' := by
  intro c hc
  obtain ⟨k, k1, k2, k3, k4, k5⟩ := hB c hc
  exact ⟨k, k1, k2, k3, k4, fun z => by rw [e c (by omega) (by omega)]; exact k5 z⟩
theorem kupA_w {σ : kS} {k t c : Nat} {F : Nat → Int} {x : Int} : kup (kupA σ k t F) k t c x = kupA σ k t (fun j => if j = c then x else F j) := by
  rw [kup_eqA]
  funext a b j
  simp only [kupA]
  split
  · simp only [and_self, if_true]
  · rfl
theorem kupA_self' {σ : kS} {k t c : Nat} {F : Nat → Int} : kupA σ k t F k t c = F c := by
  simp only [kupA, and_self, if_true]
theorem kupA_o {σ : kS} {k t a b c : Nat} {F : Nat → Int} (h : a ≠ k) : kupA σ k t F a b c = σ a b c := by
  rw [kupA_kk h]
section
variable {ks : List Int} {σ : kS} {t n : Nat} {g : Nat → Int → Bool}
theorem C_dotL {x2 x3 x5 : Int} (hn : n ≤ 7) : ∀ (m f k : Nat) (F : Nat → Int) (h : Int → Bool), k + m = 127 → 32 ≤ k → m < f → BT F n g h → ∃ F', fl_Pa_readSingle_47 f x2 x3 ((2 ^ n : Nat) : Int) x5 (k : Int) t (kupA σ 17 t F) = some (some (x2 + 1), kupA σ 17 t F') ∧ BT F' n g (fun c => if (k : Int) ≤ c then true else h c) := by
  intro m
  induction m with
  | zero =>
    intro f k F h h1 h2 h3 hB
    obtain ⟨f, rfl⟩ : ∃ f', f = f' + 1 := ⟨f - 1, by omega⟩
    refine ⟨F, ?_, hB.ext fun c c1 c2 => if_neg (by omega)⟩
    simp only [fl_Pa_readSingle_47, fb_Pa_readSingle_47, fb_Pa_readSingle_72]
    rw [kg_pos (by omega), if_pos (by omega)]
  | succ m ih =>
    intro f k F h h1 h2 h3 hB
    obtain ⟨f, rfl⟩ : ∃ f', f = f' + 1 := ⟨f - 1, by omega⟩
    obtain ⟨F', e, hB'⟩ := ih f (k + 1) _ _ (by omega) (by omega) (by omega) (hB.or (c0 := k) hn h2 (by omega))
    refine ⟨F', ?_, hB'.ext fun c c1 c2 => ?_⟩
    · simp only [fl_Pa_readSingle_47, fb_Pa_readSingle_47, fb_Pa_readSingle_54]
      rw [kg_pos (by omega), if_neg (by omega), kg_pos (by omega), Int.toNat_natCast, kupA_self', kupA_w]
      exact e
    · by_cases hk : (k : Int) ≤ c
      · rw [if_pos hk]
        by_cases hk2 : ((k + 1 : Nat) : Int) ≤ c
        · rw [if_pos hk2]
        · rw [if_neg hk2, if_pos (by omega)]
      · rw [if_neg hk, if_neg (by omega), if_neg (by omega)]
theorem C_spanL {k83 : Int → Int → Int → Int → Int → Int → Nat → kS → kRes} {x2 x3 x5 x6 x7 x8 : Int} {hi : Nat} (hn : n ≤ 7) (hhi : hi ≤ 126) : ∀ (m f k : Nat) (F : Nat → Int) (h : Int → Bool), hi + 1 ≤ k + m → k ≤ 127 → 32 ≤ k → m < f → BT F n g h → ∃ F' k', fl_Pa_readSet_143 k83 f x2 x3 ((2 ^ n : Nat) : Int) x5 x6 x7 x8 (hi : Int) (k : Int) t (kupA σ 17 t F) = fb_Pa_readSet_168 k83 x2 x3 ((2 ^ n : Nat) : Int) x5 x6 x7 x8 (hi : Int) k' t (kupA σ 17 t F') ∧ BT F' n g (fun c => if (k : Int) ≤ c ∧ c ≤ hi then true else h c) := by
  intro m
  induction m with
  | zero =>
    intro f k F h h1 hk h2 h3 hB
    obtain ⟨f, rfl⟩ : ∃ f', f = f' + 1 := ⟨f - 1, by omega⟩
    refine ⟨F, k, ?_, hB.ext fun c c1 c2 => if_neg (by omega)⟩
    simp only [fl_Pa_readSet_143, fb_Pa_readSet_143]
    rw [kg_pos (by omega), if_pos (by omega)]
  | succ m ih =>
    intro f k F h h1 hk h2 h3 hB
    by_cases hkh : hi < k
    · exact ih f k F h (by omega) hk h2 (by omega) hB
    obtain ⟨f, rfl⟩ : ∃ f', f = f' + 1 := ⟨f - 1, by omega⟩
    obtain ⟨F', k', e, hB'⟩ := ih f (k + 1) _ _ (by omega) (by omega) (by omega) (by omega) (hB.or (c0 := k) hn h2 (by omega))
    refine ⟨F', k', ?_, hB'.ext fun c c1 c2 => ?_⟩
    · simp only [fl_Pa_readSet_143, fb_Pa_readSet_143, fb_Pa_readSet_150]
      rw [kg_pos (by omega), if_neg (by omega), kg_pos (by omega), Int.toNat_natCast, kupA_self', kupA_w]
      exact e
    · by_cases hk : (k : Int) ≤ c ∧ c ≤ hi
      · rw [if_pos hk]
        by_cases hk2 : ((k + 1 : Nat) : Int) ≤ c ∧ c ≤ hi
        · rw [if_pos hk2]
        · rw [if_neg hk2, if_pos (by omega)]
      · rw [if_neg hk, if_neg (by omega), if_neg (by omega)]
theorem C_revL {x2 x3 x5 x7 : Int} (hn : n ≤ 7) : ∀ (m f k : Nat) (F : Nat → Int) (h : Int → Bool), k + m = 127 → 32 ≤ k → m < f → BT F n g h → ∃ F', fl_Pa_readSet_190 f x2 x3 ((2 ^ n : Nat) : Int) x5 1 x7 (k : Int) t (kupA σ 17 t F) = some (some (x5 + 1), kupA σ 17 t F') ∧ BT F' n g (fun c => if (k : Int) ≤ c then !h c else h c) := by
  intro m
  induction m with
  | zero =>
    intro f k F h h1 h2 h3 hB
    obtain ⟨f, rfl⟩ : ∃ f', f = f' + 1 := ⟨f - 1, by omega⟩
    refine ⟨F, ?_, hB.ext fun c c1 c2 => if_neg (by omega)⟩
    simp only [fl_Pa_readSet_190, fb_Pa_readSet_190, fb_Pa_readSet_195, fb_Pa_readSet_220]
    rw [kg_pos (by decide), if_neg (by decide), kg_pos (by omega), if_pos (by omega)]
  | succ m ih =>
    intro f k F h h1 h2 h3 hB
    obtain ⟨f, rfl⟩ : ∃ f', f = f' + 1 := ⟨f - 1, by omega⟩
    obtain ⟨F', e, hB'⟩ := ih f (k + 1) _ _ (by omega) (by omega) (by omega) (hB.xor (c0 := k) hn h2 (by omega))
    refine ⟨F', ?_, hB'.ext fun c c1 c2 => ?_⟩
    · simp only [fl_Pa_readSet_190, fb_Pa_readSet_190, fb_Pa_readSet_195, fb_Pa_readSet_202]
      rw [kg_pos (by decide), if_neg (by decide), kg_pos (by omega), if_neg (by omega), kg_pos (by omega), Int.toNat_natCast, kupA_self', kupA_w]
      exact e
    · by_cases hk : (k : Int) ≤ c
      · rw [if_pos hk]
        by_cases hk2 : ((k + 1 : Nat) : Int) ≤ c
        · rw [if_pos hk2, if_neg (by omega)]
        · rw [if_neg hk2, if_pos (by omega)]
      · rw [if_neg hk, if_neg (by omega), if_neg (by omega)]
theorem C_setL {x2 x3 x6 : Int} {e : Nat} (hn : n ≤ 7) (ha : kArr (σ 16 2) ks) (hl : ks.length ≤ 30) (hks : ∀ c ∈ ks, 32 ≤ c ∧ c ≤ 126) (he : e < ks.length) : ∀ (m f k : Nat) (F : Nat → Int) (h : Int → Bool), e ≤ k + m → k ≤ 60 → m < f → BT F n g h → ∃ F' k', fl_Pa_readSet_83 f x2 x3 ((2 ^ n : Nat) : Int) (e : Int) x6 (k : Int) t (kupA σ 17 t F) = fb_Pa_readSet_186 x2 x3 ((2 ^ n : Nat) : Int) (e : Int) x6 k' t (kupA σ 17 t F') ∧ BT F' n g (fun c => h c || setIn ks e c (m + 1) k) := by
  intro m
  induction m with
  | zero =>
    intro f k F h h1 hk h3 hB
    obtain ⟨f, rfl⟩ : ∃ f', f = f' + 1 := ⟨f - 1, by omega⟩
    refine ⟨F, k, ?_, hB.ext fun c c1 c2 => ?_⟩
    · simp only [fl_Pa_readSet_83, fb_Pa_readSet_83]
      rw [kg_pos (by omega), if_pos (by omega)]
    · rw [setIn, if_pos (by omega), Bool.or_false]
  | succ m ih =>
    intro f k F h h1 hk h3 hB
    obtain ⟨f, rfl⟩ : ∃ f', f = f' + 1 := ⟨f - 1, by omega⟩
    by_cases hke : e ≤ k
    · refine ⟨F, k, ?_, hB.ext fun c c1 c2 => ?_⟩
      · simp only [fl_Pa_readSet_83, fb_Pa_readSet_83]
        rw [kg_pos (by omega), if_pos (by omega)]
      · rw [setIn, if_pos hke, Bool.or_false]
    have hg : ∀ j, j < ks.length → kupA σ 17 t F 16 2 j = ks.getD j 0 := fun j hj => by
      rw [kupA_o (by decide)]
      exact ha j hj
    have hr : ∀ j, j < ks.length → 32 ≤ ks.getD j 0 ∧ ks.getD j 0 ≤ 126 := fun j hj => hks _ (gd_mem hj)
    have r0 := hr k (by omega)
    simp only [fl_Pa_readSet_83, fb_Pa_readSet_83]
    rw [kg_pos (by omega), if_neg (by omega)]
    have e115 : fb_Pa_readSet_90 (fl_Pa_readSet_83 f) x2 x3 ((2 ^ n : Nat) : Int) (e : Int) x6 (k : Int) t (kupA σ 17 t F) = fb_Pa_readSet_115 (fl_Pa_readSet_83 f) x2 x3 ((2 ^ n : Nat) : Int) (e : Int) x6 (k : Int) (if k + 2 < e ∧ ks.getD (k + 1) 0 = 45 then 1 else 0) t (kupA σ 17 t F) := by
      unfold fb_Pa_readSet_90 fb_Pa_readSet_114
      rw [kg_pos (by omega)]
      by_cases h4 : k + 2 < e
      · have r1 := hr (k + 1) (by omega)
        rw [if_neg (by omega)]
        unfold fb_Pa_readSet_99 fb_Pa_readSet_110 fb_Pa_readSet_114
        rw [show ((k : Int) + 1).toNat = k + 1 by omega, hg (k + 1) (by omega), kg_pos (by omega)]
        by_cases h5 : ks.getD (k + 1) 0 = 45
        · rw [if_pos h5, if_pos ⟨h4, h5⟩]
        · rw [if_neg h5, if_neg (fun z => h5 z.2)]
      · rw [if_pos (by omega), if_neg (fun z => h4 z.1)]
    rw [e115]
    by_cases hsp : k + 2 < e ∧ ks.getD (k + 1) 0 = 45
    · have r2 := hr (k + 2) (by omega)
      rw [if_pos hsp]
      obtain ⟨F1, k1, e1, hB1⟩ := C_spanL (σ := σ) (t := t) (k83 := fl_Pa_readSet_83 f) (x2 := x2) (x3 := x3) (x5 := (e : Int)) (x6 := x6) (x7 := (k : Int)) (x8 := 1) (hi := (ks.getD (k + 2) 0).toNat) hn (by omega) 127 3000 (ks.getD k 0).toNat F h (by omega) (by omega) (by omega) (by omega) hB
      obtain ⟨F', k', e2, hB'⟩ := ih f (k + 3) F1 _ (by omega) (by omega) (by omega) hB1
      refine ⟨F', k', ?_, hB'.ext fun c c1 c2 => ?_⟩
      · unfold fb_Pa_readSet_115 fb_Pa_readSet_122 fb_Pa_readSet_135
        rw [kg_pos (by decide), if_neg (by decide), kg_pos (by omega), show ((k : Int) + 2).toNat = k + 2 by omega, hg (k + 2) (by omega), kg_pos (by omega), Int.toNat_natCast, hg k (by omega)]
        rw [show (((ks.getD (k + 2) 0).toNat : Nat) : Int) = ks.getD (k + 2) 0 by omega, show (((ks.getD k 0).toNat : Nat) : Int) = ks.getD k 0 by omega] at e1
        rw [e1]
        unfold fb_Pa_readSet_168 fb_Pa_readSet_175 fb_Pa_readSet_180
        rw [kg_pos (by decide), if_neg (by decide)]
        exact e2
      · rw [setIn, if_neg hke, if_pos hsp, ← Bool.or_assoc]
        refine congrArg (fun b => b || setIn ks e c (m + 1) (k + 3)) ?_
        by_cases z : ks.getD k 0 ≤ c ∧ c ≤ ks.getD (k + 2) 0
        · rw [if_pos (by omega), decide_eq_true z, Bool.or_true]
        · rw [if_neg (by omega), decide_eq_false z, Bool.or_false]
    · rw [if_neg hsp]
      obtain ⟨F1, k1, e1, hB1⟩ := C_spanL (σ := σ) (t := t) (k83 := fl_Pa_readSet_83 f) (x2 := x2) (x3 := x3) (x5 := (e : Int)) (x6 := x6) (x7 := (k : Int)) (x8 := 0) (hi := (ks.getD k 0).toNat) hn (by omega) 127 3000 (ks.getD k 0).toNat F h (by omega) (by omega) (by omega) (by omega) hB
      obtain ⟨F', k', e2, hB'⟩ := ih f (k + 1) F1 _ (by omega) (by omega) (by omega) hB1
      refine ⟨F', k', ?_, hB'.ext fun c c1 c2 => ?_⟩
      · unfold fb_Pa_readSet_115 fb_Pa_readSet_131 fb_Pa_readSet_135
        rw [kg_pos (by decide), if_pos rfl, kg_pos (by omega), kg_pos (by omega), Int.toNat_natCast, hg k (by omega)]
        rw [show (((ks.getD k 0).toNat : Nat) : Int) = ks.getD k 0 by omega] at e1
        rw [e1]
        unfold fb_Pa_readSet_168 fb_Pa_readSet_179 fb_Pa_readSet_180
        rw [kg_pos (by decide), if_pos rfl]
        exact e2
      · rw [setIn, if_neg hke, if_neg hsp, ← Bool.or_assoc]
        refine congrArg (fun b => b || setIn ks e c (m + 1) (k + 1)) ?_
        by_cases z : c = ks.getD k 0
        · rw [if_pos (by omega), decide_eq_true z, Bool.or_true]
        · rw [if_neg (by omega), decide_eq_false z, Bool.or_false]
theorem C_findL {x2 x4 : Int} {F : Nat → Int} {b : Nat} (ha : kArr (σ 16 2) ks) (hl : ks.length ≤ 30) (hks : ∀ c ∈ ks, 32 ≤ c ∧ c ≤ 126) (hb : b ≤ ks.length) : ∀ (m f k : Nat), b ≤ k + m → k ≤ 60 → m < f → fl_Pa_readSet_13 f x2 (b : Int) x4 (k : Int) t (kupA σ 17 t F) = fb_Pa_readSet_34 x2 (b : Int) x4 ((findI ks 93 b (m + 1) k : Nat) : Int) t (kupA σ 17 t F) := by
  intro m
  induction m with
  | zero =>
    intro f k h1 h2 h3
    obtain ⟨f, rfl⟩ : ∃ f', f = f' + 1 := ⟨f - 1, by omega⟩
    simp only [fl_Pa_readSet_13, fb_Pa_readSet_13]
    rw [kg_pos (by omega), if_pos (by omega), findI, if_pos (by omega)]
  | succ m ih =>
    intro f k h1 h2 h3
    obtain ⟨f, rfl⟩ : ∃ f', f = f' + 1 := ⟨f - 1, by omega⟩
    simp only [fl_Pa_readSet_13, fb_Pa_readSet_13]
    rw [kg_pos (by omega), findI]
    by_cases hk : b ≤ k
    · rw [if_pos (by omega), if_pos hk]
    · have hg : kupA σ 17 t F 16 2 k = ks.getD k 0 := by
        rw [kupA_o (by decide)]
        exact ha k (by omega)
      have hr := hks _ (gd_mem (ks := ks) (k := k) (by omega))
      rw [if_neg (by omega), if_neg hk]
      unfold fb_Pa_readSet_19 fb_Pa_readSet_28
      rw [Int.toNat_natCast, hg, kg_pos (by omega)]
      by_cases h5 : ks.getD k 0 = 93
      · rw [if_pos h5, if_pos h5]
      · rw [if_neg h5, if_neg h5]
        exact ih f (k + 1) (by omega) (by omega) (by omega)
end
