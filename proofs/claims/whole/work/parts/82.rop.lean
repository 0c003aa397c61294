/-! Pure: the reference's operators. What a command answers: 0 it rings, 1 pending, 2 done, 3 a change. -/
def opLr (A : kEd) (i j : Nat) : Int × kEd :=
  if A.2.2.2.1.1 = 121 then (2, (A.1, A.2.1, ((j : Int) - i + 1, slc A.1.1 i (j + 1)), A.2.2.2))
  else if A.2.2.2.1.1 = 100 then (3, (dropX A.1.1 i j, A.2.1, ((j : Int) - i + 1, slc A.1.1 i (j + 1)), A.2.2.2))
  else (3, ((cut (A.1.1.set i []) (i + 1) (j + 1), (i : Int), 0), A.2.1, ((j : Int) - i + 1, slc A.1.1 i (j + 1)), A.2.2.2.1, (1, 0, 0, []), A.2.2.2.2.2))
def opCr (A : kEd) (i j : Nat) : Int × kEd :=
  if A.2.2.2.1.1 = 121 then (2, (A.1, A.2.1, (0, [slc (ln A.1.1 A.1.2.1.toNat) i j]), A.2.2.2))
  else if A.2.2.2.1.1 = 99 then (3, ((A.1.1.set A.1.2.1.toNat (cut (ln A.1.1 A.1.2.1.toNat) i j), A.1.2.1, (i : Int)), A.2.1, (0, [slc (ln A.1.1 A.1.2.1.toNat) i j]), A.2.2.2.1, (1, (i : Int), 0, []), A.2.2.2.2.2))
  else (3, ((A.1.1.set A.1.2.1.toNat (cut (ln A.1.1 A.1.2.1.toNat) i j), A.1.2.1, (i : Int)), A.2.1, (0, [slc (ln A.1.1 A.1.2.1.toNat) i j]), A.2.2.2))
theorem SR.empL {g : Int} {B : Option Tc} {o : Option Tc} {b : Int × Tx} {q : Qd} {s : Int × Int} {l : Int × List Int} {i j : Nat} (hj : j < 10) : ∀ (m n k : Nat) (T : Tx) (w : Int × Int), k + m = j + 1 → i + 1 + m ≤ T.length → m < n → T.length ≤ 10 → SR g B (fl_Rm_wholeLines_38 n (i : Int) (j : Int) (k : Int)) (some 3) ((T, w), o, b, q, (0, s.1, s.2, []), l) ((((cut T (i + 1) (i + 1 + m)).set i []), (i : Int), 0), o, b, q, (1, 0, 0, []), l) := by
  intro m
  induction m with
  | zero =>
    intro n k T w h1 h2 h3 hl
    obtain ⟨n, rfl⟩ : ∃ n', n = n' + 1 := ⟨n - 1, by omega⟩
    have ec : cut T (i + 1) (i + 1 + 0) = T := cut_nil T (i + 1)
    rw [ec]
    refine SR.cg (f := fun σ => kbu (some (none, kup σ 21 0 i 0)) fun σ => kbu (f_Rm_beginInsert i 0 σ) fun σ1 => fb_Rm_wholeLines_69 (i : Int) (j : Int) (k : Int) σ1) (SR.u (A1 := ((T.set i [], w), o, b, q, (0, s.1, s.2, []), l)) (SR.t0 (x := (T, w)) fun σ c => ?_) (SR.u (SR.bins (s := s)) SR.ret)) fun σ c => ?_
    · have hT : TR (σ 20 0) (σ 21 0) T := RT0.mp c.1.1.1
      refine ToR.mk' (F := σ 20 0) (G := fun p => if p = i then 0 else σ 21 0 p) ?_ ?_ ?_ ⟨fun _ _ => rfl, fun p hp => if_neg (by omega)⟩
      · have e := sM_w21 σ (σ 20 0) (σ 21 0) i 0
        rw [sM_id] at e
        rw [e]
      · rw [List.length_set]
        exact c.1.1.2.1
      · refine hT.set (by omega) (by decide) (fun q hq hne => ⟨if_neg hne, fun _ _ => rfl⟩) (if_pos rfl) (fun c hc => absurd hc (Nat.not_lt_zero c))
    · simp only [fl_Rm_wholeLines_38, fb_Rm_wholeLines_38, fb_Rm_wholeLines_56]
      rw [kg_pos (by omega), if_pos (by omega), kg_pos (by omega), Int.toNat_natCast]
      rfl
  | succ m ih =>
    intro n k T w h1 h2 h3 hl
    obtain ⟨n, rfl⟩ : ∃ n', n = n' + 1 := ⟨n - 1, by omega⟩
    have hcl : (cut T (i + 1) (i + 1 + 1)).length = T.length - 1 := by
      rw [cut_len (by omega) (by omega)]
      omega
    refine SR.cg (f := fun σ => kbu (f_Rm_closeLine ((i : Int) + 1) σ) fun σ1 => fl_Rm_wholeLines_38 n (i : Int) (j : Int) ((k + 1 : Nat) : Int) σ1) ?_ fun σ c => ?_
    · have := ih n (k + 1) (cut T (i + 1) (i + 1 + 1)) w (by omega) (by omega) (by omega) (by omega)
      rw [cut_cut (by omega)] at this
      exact SR.u (SR.closeLine (p := i + 1) (by omega) (show i + 1 < T.length by omega)) this
    · simp only [fl_Rm_wholeLines_38, fb_Rm_wholeLines_38, fb_Rm_wholeLines_43, fb_Rm_wholeLines_50]
      rw [kg_pos (by omega), if_neg (by omega)]
      rfl
theorem SR.opL {g : Int} {B : Option Tc} {x : Tc} {o : Option Tc} {b : Int × Tx} {q : Qd} {s : Int × Int} {l : Int × List Int} {i j : Nat} {xi xj : Int} (hi : xi = i) (hj : xj = j) (hij : i ≤ j) (hjl : j < x.1.length) (hl : x.1.length ≤ 10) (hop : isOp q.1) : SR g B (f_Rm_wholeLines xi xj) (some (opLr (x, o, b, q, (0, s.1, s.2, []), l) i j).1) (x, o, b, q, (0, s.1, s.2, []), l) (opLr (x, o, b, q, (0, s.1, s.2, []), l) i j).2 := by
  have ho : -1000 ≤ q.1 ∧ q.1 ≤ 1000 := by
    unfold isOp at hop
    omega
  unfold f_Rm_wholeLines fb_Rm_wholeLines_0
  refine SR.u (SR.hold hi hj hij hjl hl) ?_
  unfold opLr
  dsimp only
  by_cases h1 : q.1 = 121
  · rw [if_pos h1]
    refine SR.cg SR.ret fun σ c => ?_
    have : σ 9 0 8 = q.1 := c.1.2.2.2.1.1
    unfold fb_Rm_wholeLines_6 fb_Rm_wholeLines_15
    rw [this, kg_pos (by omega), if_pos h1]
  · rw [if_neg h1]
    by_cases h2 : q.1 = 100
    · rw [if_pos h2]
      refine SR.cg (f := fb_Rm_wholeLines_26 xi xj) ?_ fun σ c => ?_
      · unfold fb_Rm_wholeLines_26
        exact SR.u (SR.take hi hj hij hjl hl) SR.ret
      · have : σ 9 0 8 = q.1 := c.1.2.2.2.1.1
        unfold fb_Rm_wholeLines_6 fb_Rm_wholeLines_17
        rw [this, kg_pos (by omega), if_neg h1, kg_pos (by omega), if_pos h2]
    · rw [if_neg h2]
      subst hi hj
      refine SR.cg (f := fl_Rm_wholeLines_38 3000 i j ((i + 1 : Nat) : Int)) ?_ fun σ c => ?_
      · by_cases h3 : i = j
        · subst h3
          have := SR.empL (g := g) (B := B) (o := o) (b := ((i : Int) - i + 1, slc x.1 i (i + 1))) (q := q) (s := s) (l := l) (i := i) (j := i) (by omega) 0 3000 (i + 1) x.1 x.2 (by omega) (by omega) (by omega) hl
          rw [show i + 1 + 0 = i + 1 by omega, cut_nil] at this
          rw [cut_nil]
          exact this
        · have := SR.empL (g := g) (B := B) (o := o) (b := ((j : Int) - i + 1, slc x.1 i (j + 1))) (q := q) (s := s) (l := l) (i := i) (j := j) (by omega) (j - i) 3000 (i + 1) x.1 x.2 (by omega) (by omega) (by omega) hl
          rw [show i + 1 + (j - i) = j + 1 by omega, cut_set (by omega) hjl] at this
          exact this
      · have : σ 9 0 8 = q.1 := c.1.2.2.2.1.1
        unfold fb_Rm_wholeLines_6 fb_Rm_wholeLines_17 fb_Rm_wholeLines_34
        rw [this, kg_pos (by omega), if_neg h1, kg_pos (by omega), if_neg h2]
        rfl
/-- the loops of characters -/
theorem L_charC {σ : kS} {T : Tx} {r i j : Nat} (hT : RT σ 0 T) (hr : r < T.length) (hj : j ≤ (ln T r).length) : ∀ (m n k : Nat) (F : Nat → Int), k + m = j → i ≤ k → m < n → (∀ c, c < 200 → F c = σ 20 0 c) → fl_Rm_characters_32 n (i : Int) (j : Int) (r : Int) (k : Int) (kupA σ 20 0 F) = fb_Rm_characters_64 (i : Int) (j : Int) (r : Int) (j : Int) (kupA σ 20 0 (fun c => if 800 + (k - i) ≤ c ∧ c < 800 + (j - i) then F (20 * r + i + (c - 800)) else F c)) := by
  have hl := hT.1
  have h20 := (hT.2 r hr).2.1
  intro m
  induction m with
  | zero =>
    intro n k F h1 h2 h3 hF
    obtain ⟨n, rfl⟩ : ∃ n', n = n' + 1 := ⟨n - 1, by omega⟩
    simp only [fl_Rm_characters_32, fb_Rm_characters_32]
    rw [kg_pos (by omega), if_pos (by omega)]
    have e : (fun c => if 800 + (k - i) ≤ c ∧ c < 800 + (j - i) then F (20 * r + i + (c - 800)) else F c) = F := by
      funext c
      rw [if_neg (by omega)]
    rw [e, show k = j by omega]
  | succ m ih =>
    intro n k F h1 h2 h3 hF
    obtain ⟨n, rfl⟩ : ∃ n', n = n' + 1 := ⟨n - 1, by omega⟩
    simp only [fl_Rm_characters_32, fb_Rm_characters_32, fb_Rm_characters_38]
    have hat : f_Rm_at (r : Int) (k : Int) (kupA σ 20 0 F) = some (some (F (20 * r + k)), kupA σ 20 0 F) := by
      unfold f_Rm_at fb_Rm_at_0
      rw [kg_pos (by omega), kupA_f, if_pos (by decide), show (20 * (r : Int) + (k : Int)).toNat = 20 * r + k by omega]
    rw [kg_pos (by omega), if_neg (by omega), kbi_eq hat]
    unfold fb_Rm_characters_57
    have e2 : kup (kupA σ 20 0 F) 20 0 ((800 + (k : Int) - i).toNat) (F (20 * r + k)) = kupA σ 20 0 (fun c => if c = 800 + (k - i) then F (20 * r + k) else F c) := by
      rw [kup_eqA, show ((800 + (k : Int) - i).toNat) = 800 + (k - i) by omega]
      funext a b c
      simp only [kupA]
      split
      · rename_i h
        simp only [and_self, if_true]
      · rfl
    rw [kg_pos (by omega), e2, show ((k : Int) + 1) = ((k + 1 : Nat) : Int) by omega, ih n (k + 1) _ (by omega) (by omega) (by omega) (fun c hc => by rw [if_neg (by omega)]; exact hF c hc)]
    refine congrArg (fun F => fb_Rm_characters_64 (i : Int) (j : Int) (r : Int) (j : Int) (kupA σ 20 0 F)) (funext fun c => ?_)
    by_cases h : 800 + (k - i) ≤ c ∧ c < 800 + (j - i)
    · rw [if_pos h]
      by_cases h4 : c = 800 + (k - i)
      · rw [if_neg (by omega), if_pos h4]
        exact congrArg F (by omega)
      · rw [if_pos (by omega), if_neg (by omega)]
    · rw [if_neg h, if_neg (by omega), if_neg (by omega)]
theorem set_set {T : Tx} {p : Nat} {L M : List Int} : (T.set p L).set p M = T.set p M := List.set_set ..
theorem SR.remL {g : Int} {B : Option Tc} {o : Option Tc} {b : Int × Tx} {q : Qd} {s : Int × Int} {l : Int × List Int} {i j r : Nat} (hop : isOp q.1) : ∀ (m n k : Nat) (T : Tx) (w : Int × Int), k + m = j → j ≤ 20 → i + m ≤ (ln T r).length → r < T.length → m < n → T.length ≤ 10 → SR g B (fl_Rm_characters_78 n (i : Int) (j : Int) (r : Int) (k : Int)) (some 3) ((T, (r : Int), w.2), o, b, q, (0, s.1, s.2, []), l) ((T.set r (cut (ln T r) i (i + m)), (r : Int), (i : Int)), o, b, q, (if q.1 = 99 then (1, (i : Int), 0, []) else (0, s.1, s.2, [])), l) := by
  have ho : -1000 ≤ q.1 ∧ q.1 ≤ 1000 := by
    unfold isOp at hop
    omega
  intro m
  induction m with
  | zero =>
    intro n k T w h1 hj h2 hr h3 hl
    obtain ⟨n, rfl⟩ : ∃ n', n = n' + 1 := ⟨n - 1, by omega⟩
    have ec : T.set r (cut (ln T r) i (i + 0)) = T := by
      have : cut (ln T r) i (i + 0) = ln T r := cut_nil _ i
      rw [this]
      refine gd_ext [] (List.length_set ..) fun p hp => ?_
      rw [List.length_set] at hp
      rw [gd_set _ _ _ hr]
      split
      · rename_i h
        rw [h]
        rfl
      · rfl
    rw [ec]
    have h9 : ∀ {σ}, RE2 g B ((T, (r : Int), w.2), o, b, q, (0, s.1, s.2, []), l) σ → kup σ 24 0 0 (i : Int) 9 0 8 = q.1 := fun c => c.1.2.2.2.1.1
    have hcol : SR g B (fun σ => some (none, kup σ 24 0 0 (i : Int))) none ((T, (r : Int), w.2), o, b, q, (0, s.1, s.2, []), l) ((T, (r : Int), (i : Int)), o, b, q, (0, s.1, s.2, []), l) := by
      intro σ h
      obtain ⟨⟨c1, c2, c3, c4, c5, c6, c7⟩, c8⟩ := h
      refine ⟨_, rfl, ⟨⟨⟨c1.1, c1.2.1, c1.2.2.1, rfl⟩, ?_, c3, c4, c5, c6, c7⟩, c8⟩, frF.rfl.kup (by decide)⟩
      cases o with
      | none => exact c2
      | some y => exact c2
    by_cases h : q.1 = 99
    · rw [if_pos h]
      refine SR.cg (f := fun σ => kbu (some (none, kup σ 24 0 0 (i : Int))) fun σ => kbu (f_Rm_beginInsert r i σ) fun σ1 => fb_Rm_characters_118 (i : Int) (j : Int) (r : Int) (k : Int) σ1) (SR.u hcol (SR.u (SR.bins (s := s)) SR.ret)) fun σ c => ?_
      simp only [fl_Rm_characters_78, fb_Rm_characters_78, fb_Rm_characters_96, fb_Rm_characters_112]
      rw [kg_pos (by omega), if_pos (by omega), h9 c, kg_pos (by omega), if_pos h]
      rfl
    · rw [if_neg h]
      refine SR.cg (f := fun σ => kbu (some (none, kup σ 24 0 0 (i : Int))) fun σ => fb_Rm_characters_118 (i : Int) (j : Int) (r : Int) (k : Int) σ) (SR.u hcol SR.ret) fun σ c => ?_
      simp only [fl_Rm_characters_78, fb_Rm_characters_78, fb_Rm_characters_96]
      rw [kg_pos (by omega), if_pos (by omega), h9 c, kg_pos (by omega), if_neg h]
      rfl
  | succ m ih =>
    intro n k T w h1 hj h2 hr h3 hl
    obtain ⟨n, rfl⟩ : ∃ n', n = n' + 1 := ⟨n - 1, by omega⟩
    have hcl : (cut (ln T r) i (i + 1)).length = (ln T r).length - 1 := by
      rw [cut_len (by omega) (by omega)]
      omega
    refine SR.cg (f := fun σ => kbu (f_Rm_removeAt (r : Int) (i : Int) σ) fun σ1 => fl_Rm_characters_78 n (i : Int) (j : Int) (r : Int) ((k + 1 : Nat) : Int) σ1) ?_ fun σ c => ?_
    · have := ih n (k + 1) (T.set r (cut (ln T r) i (i + 1))) w (by omega) hj (by rw [ln_set hr, if_pos rfl]; omega) (by rw [List.length_set]; exact hr) (by omega) (by rw [List.length_set]; exact hl)
      rw [ln_set hr, if_pos rfl, cut_cut (by omega), set_set] at this
      exact SR.u (SR.t0 (x := (T, (r : Int), w.2)) fun σ c => R_removeAt (T := T) rfl rfl c.1.1.1 c.1.1.2.1 hr (by omega)) this
    · simp only [fl_Rm_characters_78, fb_Rm_characters_78, fb_Rm_characters_84, fb_Rm_characters_90]
      rw [kg_pos (by omega), if_neg (by omega)]
      rfl
theorem SR.opC {g : Int} {B : Option Tc} {x : Tc} {o : Option Tc} {b : Int × Tx} {q : Qd} {s : Int × Int} {l : Int × List Int} {i j : Nat} {xi xj : Int} (hi : xi = i) (hj : xj = j) (hij : i < j) (hx : wfX x) (hjl : j ≤ (ln x.1 x.2.1.toNat).length) (hop : isOp q.1) : SR g B (f_Rm_characters xi xj) (some (opCr (x, o, b, q, (0, s.1, s.2, []), l) i j).1) (x, o, b, q, (0, s.1, s.2, []), l) (opCr (x, o, b, q, (0, s.1, s.2, []), l) i j).2 := by
  have ho : -1000 ≤ q.1 ∧ q.1 ≤ 1000 := by
    unfold isOp at hop
    omega
  obtain ⟨w1, w2, w3, w4, w5, w6, w7, w8⟩ := hx.sz
  subst hi hj
  intro σ c
  have h23 : σ 23 0 0 = ((x.2.1.toNat : Nat) : Int) := (show σ 23 0 0 = x.2.1 from c.1.1.2.2.1).trans w8.symm
  obtain ⟨c1, f1⟩ := c.kind (v := 0)
  have hX : RT (kup σ 9 0 7 0) 0 x.1 := c.1.1.1
  unfold f_Rm_characters fb_Rm_characters_0
  rw [kg_pos (by omega), if_pos (by omega), h23]
  unfold fb_Rm_characters_14
  generalize kup σ 9 0 7 0 = τ at c1 f1 hX ⊢
  have hX2 : RT (kup τ 21 0 40 ((j : Int) - i)) 0 x.1 := hX.fr (fun _ _ _ => rfl) (fun p _ hp => kup_jj (by omega))
  have e := L_charC (σ := kup τ 21 0 40 ((j : Int) - i)) (T := x.1) (r := x.2.1.toNat) (i := i) (j := j) hX2 w2 hjl (j - i) 3000 i (τ 20 0) (by omega) (by omega) (by omega) (fun _ _ => rfl)
  have e0 : kupA (kup τ 21 0 40 ((j : Int) - i)) 20 0 (τ 20 0) = kup τ 21 0 40 ((j : Int) - i) := by
    funext a b c
    simp only [kupA, kup]
    split
    · rename_i h
      rw [if_neg (by omega), h.1, h.2]
    · rfl
  rw [e0] at e
  rw [e]
  have e3 : ∀ F, kupA (kup τ 21 0 40 ((j : Int) - i)) 20 0 F = sM τ F (fun p => if p = 40 then (j : Int) - i else τ 21 0 p) := by
    intro F
    unfold sM
    rw [kup_eqA, kupA_comm _ _ _ _ _ (by decide)]
  rw [e3]
  have hL : slc (ln x.1 x.2.1.toNat) i j = slc (ln x.1 x.2.1.toNat) i j := rfl
  have hsl := slc_len (X := ln x.1 x.2.1.toNat) (a := i) (b := j) hjl
  have hTR : TR (fun p => (fun c => if 800 + (i - i) ≤ c ∧ c < 800 + (j - i) then τ 20 0 (20 * x.2.1.toNat + i + (c - 800)) else τ 20 0 c) (800 + p)) (fun p => (fun p => if p = 40 then (j : Int) - i else τ 21 0 p) (40 + p)) [slc (ln x.1 x.2.1.toNat) i j] := by
    refine ⟨by rw [List.length_singleton]; decide, fun p hp => ?_⟩
    rw [List.length_singleton] at hp
    have hp0 : p = 0 := by omega
    subst hp0
    have hln : ln [slc (ln x.1 x.2.1.toNat) i j] 0 = slc (ln x.1 x.2.1.toNat) i j := rfl
    rw [hln, hsl]
    refine ⟨?_, by omega, fun c hc => ?_⟩
    · dsimp only
      rw [if_pos rfl]
      omega
    · dsimp only
      rw [if_pos (by omega), slc_gd 0 hc]
      have := (hX.2 _ w2).2.2 (i + c) (by omega)
      rw [← this]
      exact congrArg (τ 20 0) (by omega)
  obtain ⟨c2, f2⟩ := c1.t4 (F := fun c => if 800 + (i - i) ≤ c ∧ c < 800 + (j - i) then τ 20 0 (20 * x.2.1.toNat + i + (c - 800)) else τ 20 0 c) (G := fun p => if p = 40 then (j : Int) - i else τ 21 0 p) hTR (fun k hk => if_neg (by omega)) (fun k hk => if_neg (by omega))
  generalize sM τ (fun c => if 800 + (i - i) ≤ c ∧ c < 800 + (j - i) then τ 20 0 (20 * x.2.1.toNat + i + (c - 800)) else τ 20 0 c) (fun p => if p = 40 then (j : Int) - i else τ 21 0 p) = υ at c2 f2 ⊢
  have h8 : υ 9 0 8 = q.1 := c2.1.2.2.2.1.1
  unfold fb_Rm_characters_64 opCr
  dsimp only
  rw [h8, kg_pos (by omega)]
  by_cases h1 : q.1 = 121
  · rw [if_pos h1, if_pos h1]
    exact ⟨υ, rfl, c2, f1.tr f2⟩
  · rw [if_neg h1, if_neg h1]
    unfold fb_Rm_characters_75
    have hR := SR.remL (g := g) (B := B) (o := o) (b := (0, [slc (ln x.1 x.2.1.toNat) i j])) (q := q) (s := s) (l := l) (i := i) (j := j) (r := x.2.1.toNat) hop (j - i) 3000 i x.1 x.2 (by omega) (by omega) (by omega) w2 (by omega) w3
    rw [w8, show i + (j - i) = j by omega] at hR
    obtain ⟨σ', z1, z2, z3⟩ := hR υ c2
    rw [w8]
    by_cases h2 : q.1 = 99
    · rw [if_pos h2] at z2 ⊢
      exact ⟨σ', z1, z2, f1.tr (f2.tr z3)⟩
    · rw [if_neg h2] at z2 ⊢
      exact ⟨σ', z1, z2, f1.tr (f2.tr z3)⟩
theorem SR.opC0 {g : Int} {B : Option Tc} {A : kEd} {xi xj : Int} (h : xj ≤ xi) (h2 : -1000 ≤ xj) (h3 : xi ≤ 1000) : SR g B (f_Rm_characters xi xj) (some 0) A A := by
  refine SR.read fun σ c => ?_
  unfold f_Rm_characters fb_Rm_characters_0
  rw [kg_pos (by omega), if_neg (by omega)]
  rfl
