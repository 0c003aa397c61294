/-! Pure: s, the reference's side. -/
def frJ (σ σ' : kS) : Prop := frF σ σ' ∧ (∀ a, 25 ≤ a → a ≠ 33 → σ' a = σ a) ∧ ∀ c, c ≠ 31 → σ' 9 0 c = σ 9 0 c
theorem frJ.rfl {σ : kS} : frJ σ σ := ⟨frF.rfl, fun _ _ _ => Eq.refl _, fun _ _ => Eq.refl _⟩
theorem frJ.tr {σ σ' σ'' : kS} (h : frJ σ σ') (h2 : frJ σ' σ'') : frJ σ σ'' := ⟨h.1.tr h2.1, fun a ha hb => (h2.2.1 a ha hb).trans (h.2.1 a ha hb), fun c hc => (h2.2.2 c hc).trans (h.2.2 c hc)⟩
theorem frJ.PRt {ks : List Int} {σ σ' : kS} {P : Pt} (f : frJ σ σ') (h : PRt ks σ P) : PRt ks σ' P := by
  obtain ⟨⟨h1, h2, h3, h4⟩, h5, h6, h7, h8, h9⟩ := h
  refine ⟨⟨?_, ?_, h3, h4⟩, h5, ?_, ?_, ?_, ?_⟩
  · rw [f.2.2 20 (by decide)]
    exact h1
  · rw [f.2.1 27 (by decide) (by decide)]
    exact h2
  · rw [f.2.2 28 (by decide)]
    exact h6
  · rw [f.2.2 29 (by decide)]
    exact h7
  · rw [f.2.2 30 (by decide)]
    exact h8
  · rw [f.2.1 28 (by decide) (by decide), f.2.1 29 (by decide) (by decide), f.2.1 30 (by decide) (by decide), f.2.1 31 (by decide) (by decide)]
    exact h9
theorem frJ.RLs {ks : List Int} {σ σ' : kS} {k : Nat} (f : frJ σ σ') (h : RLs ks σ k) : RLs ks σ' k := by
  obtain ⟨⟨h1, h2, h3, h4⟩, h5, h6⟩ := h
  refine ⟨⟨?_, ?_, h3, h4⟩, ?_, ?_⟩
  · rw [f.2.2 20 (by decide)]
    exact h1
  · rw [f.2.1 27 (by decide) (by decide)]
    exact h2
  · rw [f.2.2 22 (by decide)]
    exact h5
  · rw [f.2.2 23 (by decide)]
    exact h6
theorem RE2.sN {g : Int} {B : Option Tc} {A : kEd} {σ : kS} {F : Nat → Int} (c : RE2 g B A σ) : RE2 g B A (sN σ F) ∧ frJ σ (sN σ F) := by
  refine ⟨⟨c.1.cg3 (fun i _ _ _ _ => congrFun (congrFun (sN_k (by decide)) 0) i) (fun k h1 h2 => sN_k (by omega)), fun y hy => (c.2 y hy).fr (fun j _ _ => congrFun (congrFun (sN_k (by decide)) 0) j) (fun j _ _ => congrFun (congrFun (sN_k (by decide)) 0) j) (fun k h1 h2 => congrFun (congrFun (sN_k (by omega)) 0) 2)⟩, ⟨fun a h1 h2 => sN_k (by omega), fun a h1 => sN_k (by omega), fun c hc => congrFun (congrFun (sN_k (by decide)) 0) c, fun j _ => congrFun (congrFun (sN_k (by decide)) 0) j, fun j _ => congrFun (congrFun (sN_k (by decide)) 0) j, fun k h1 h2 j _ => congrFun (congrFun (sN_k (by omega)) 0) j⟩, fun a h1 h2 => sN_k h2, fun c hc => congrFun (congrFun (sN_k (by decide)) 0) c⟩
section
variable {g : Int} {B : Option Tc} {o : Option Tc} {q : Qd} {md : Md} {l : Int × List Int} {ks : List Int} {bf : Int × Tx}
theorem R_putL {k135 : Int → Int → Int → Int → Int → Int → kS → kRes} {x1 x2 x3 x4 x5 : Int} {σ : kS} {p n : Nat} (hp : p < 10) (hn : n ≤ 20) : ∀ (m f k : Nat) (F : Nat → Int), k + m = n → m < f → fl_Rm_exchange_188 k135 f x1 x2 x3 x4 x5 (p : Int) (n : Int) (k : Int) (kupA σ 20 0 F) = k135 x1 x2 x3 x4 x5 ((p : Int) + 1) (kup (kupA σ 20 0 (fun j => if 20 * p + k ≤ j ∧ j < 20 * p + n then σ 33 0 (j - 20 * p) else F j)) 21 0 p (n : Int)) := by
  intro m
  induction m with
  | zero =>
    intro f k F h1 h2
    obtain ⟨f, rfl⟩ : ∃ f', f = f' + 1 := ⟨f - 1, by omega⟩
    simp only [fl_Rm_exchange_188, fb_Rm_exchange_188, fb_Rm_exchange_221, fb_Rm_exchange_230]
    rw [kg_pos (by omega), if_pos (by omega), kg_pos (by omega), Int.toNat_natCast]
    have : (fun j => if 20 * p + k ≤ j ∧ j < 20 * p + n then σ 33 0 (j - 20 * p) else F j) = F := by
      funext j
      rw [if_neg (by omega)]
    rw [this]
  | succ m ih =>
    intro f k F h1 h2
    obtain ⟨f, rfl⟩ : ∃ f', f = f' + 1 := ⟨f - 1, by omega⟩
    simp only [fl_Rm_exchange_188, fb_Rm_exchange_188, fb_Rm_exchange_195]
    rw [kg_pos (by omega), if_neg (by omega), kg_pos (by omega), kupA_k (by decide), kup_kupA, show (20 * (p : Int) + (k : Int)).toNat = 20 * p + k by omega, Int.toNat_natCast, show (k : Int) + 1 = ((k + 1 : Nat) : Int) by omega, ih f (k + 1) _ (by omega) (by omega)]
    have : (fun j => if 20 * p + (k + 1) ≤ j ∧ j < 20 * p + n then σ 33 0 (j - 20 * p) else (if j = 20 * p + k then σ 33 0 k else F j)) = (fun j => if 20 * p + k ≤ j ∧ j < 20 * p + n then σ 33 0 (j - 20 * p) else F j) := by
      funext j
      by_cases h : j = 20 * p + k
      · rw [if_neg (by omega), if_pos h, if_pos (by omega)]
        exact congrArg (σ 33 0) (by omega)
      · by_cases h3 : 20 * p + (k + 1) ≤ j ∧ j < 20 * p + n
        · rw [if_pos h3, if_pos (by omega)]
        · rw [if_neg h3, if_neg h, if_neg (by omega)]
    rw [this]
theorem R_putLine {k135 : Int → Int → Int → Int → Int → Int → kS → kRes} {x1 x2 x3 x4 x5 : Int} {σ : kS} {T : Tx} {cu : Int × Int} {p : Nat} {L : List Int} (c : RE2 g B ((T, cu), o, bf, q, md, l) σ) (hp : p < T.length) (hL : L.length ≤ 20) (hF : Bu (σ 33 0) L) : ∃ σ', fb_Rm_exchange_168 k135 x1 x2 x3 x4 x5 (p : Int) (L.length : Int) σ = k135 x1 x2 x3 x4 x5 ((p : Int) + 1) σ' ∧ RE2 g B ((T.set p L, ((p : Int), 0)), o, bf, q, md, l) σ' ∧ frJ σ σ' ∧ σ' 9 0 31 = σ 9 0 31 + 1 := by
  unfold fb_Rm_exchange_168
  obtain ⟨c1, f1⟩ := c.f9 (j := 31) (v := σ 9 0 31 + 1) (by decide)
  have g1 : frJ σ (kup σ 9 0 31 (σ 9 0 31 + 1)) := ⟨f1, fun a h1 _ => kup_kk (by omega), fun c hc => kup_j hc⟩
  have a31 : kup σ 9 0 31 (σ 9 0 31 + 1) 9 0 31 = σ 9 0 31 + 1 := kup_self _ _ _ _ _
  have a33 : kup σ 9 0 31 (σ 9 0 31 + 1) 33 = σ 33 := kup_kk (by decide)
  generalize kup σ 9 0 31 (σ 9 0 31 + 1) = φ at c1 f1 g1 a31 a33
  obtain ⟨τ, e2, c2, f2, m2⟩ := SK.place (r := (p : Int)) (c := 0) φ c1
  rw [kbu_eq e2]
  have g2 : frJ σ τ := g1.tr ⟨f2, fun a h1 _ => m2.1 a h1, fun c hc => by
    by_cases h7 : c = 7
    · subst h7
      cases e2
      rfl
    · exact m2.2 c h7⟩
  have b31 : τ 9 0 31 = σ 9 0 31 + 1 := (m2.2 31 (by decide)).trans a31
  unfold fb_Rm_exchange_185
  have hT : RT τ 0 T := c2.1.1.1
  have hT1 := hT.1
  have e := R_putL (k135 := k135) (x1 := x1) (x2 := x2) (x3 := x3) (x4 := x4) (x5 := x5) (σ := τ) (p := p) (n := L.length) (by omega) hL L.length 3000 0 (τ 20 0) (by omega) (by omega)
  rw [kupA_id] at e
  have t33 : τ 33 0 = σ 33 0 := congrFun ((m2.1 33 (by decide)).trans a33) 0
  have e21 : kupA τ 20 0 (fun j => if 20 * p + 0 ≤ j ∧ j < 20 * p + L.length then τ 33 0 (j - 20 * p) else τ 20 0 j) 21 0 = τ 21 0 := kupA_ii (by decide)
  rw [kup_eqA, e21] at e
  have hTR : TR (fun j => if 20 * p + 0 ≤ j ∧ j < 20 * p + L.length then τ 33 0 (j - 20 * p) else τ 20 0 j) (fun c => if c = p then (L.length : Int) else τ 21 0 c) (T.set p L) := by
    refine ⟨by rw [List.length_set]; exact hT1, fun i hi => ?_⟩
    rw [List.length_set] at hi
    obtain ⟨w1, w2, w3⟩ := (RT0.mp hT).2 i hi
    rw [ln_set hp]
    by_cases h : i = p
    · rw [if_pos h]
      refine ⟨if_pos h, hL, fun c hc => ?_⟩
      dsimp only
      rw [if_pos (by omega), t33, ← hF c hc (by omega)]
      exact congrArg (σ 33 0) (by omega)
    · rw [if_neg h]
      refine ⟨?_, w2, fun c hc => ?_⟩
      · dsimp only
        rw [if_neg h]
        exact w1
      · dsimp only
        rw [if_neg (by omega)]
        exact w3 c hc
  have hoF : oF τ (fun j => if 20 * p + 0 ≤ j ∧ j < 20 * p + L.length then τ 33 0 (j - 20 * p) else τ 20 0 j) (fun c => if c = p then (L.length : Int) else τ 21 0 c) := ⟨fun j hj => if_neg (by omega), fun c hc => if_neg (by omega)⟩
  obtain ⟨c3, f3⟩ := c2.t0 hTR hoF
  have hid : sR τ (fun j => if 20 * p + 0 ≤ j ∧ j < 20 * p + L.length then τ 33 0 (j - 20 * p) else τ 20 0 j) (fun c => if c = p then (L.length : Int) else τ 21 0 c) (T.set p L).length = sM τ (fun j => if 20 * p + 0 ≤ j ∧ j < 20 * p + L.length then τ 33 0 (j - 20 * p) else τ 20 0 j) (fun c => if c = p then (L.length : Int) else τ 21 0 c) := by
    unfold sR
    refine kup_id _ _ _ _ ?_
    rw [sM_o (by decide) (by decide), List.length_set]
    exact c2.1.1.2.1
  rw [hid] at c3 f3
  refine ⟨_, e, c3, g2.tr ⟨f3, fun a h1 _ => ?_, fun c _ => ?_⟩, ?_⟩
  · rw [kupA_kk (by omega), kupA_kk (by omega)]
  · rw [kupA_k (by decide), kupA_k (by decide)]
  · rw [kupA_k (by decide), kupA_k (by decide)]
    exact b31
/-- the lines of a range, the reference's side -/
theorem R_exL {x1 : Int} {cu0 : Int × Int} {n0 b bb e kk : Nat} {P : Pt} {G : Bool} (hbn : b < n0) (hn0 : n0 ≤ 10) (hbb : bb ≤ 30) (he : e < ks.length) (hks : ∀ c ∈ ks, 32 ≤ c ∧ c ≤ 126) : ∀ (m n p : Nat) (T : Tx) (ch : Option Nat) (τ : kS), p + m = b + 1 → m < n → T.length = n0 → wfText T → (∀ p, ch = some p → p < n0) → RE2 g B ((T, ch.elim cu0 fun p => ((p : Int), 0)), o, bf, q, md, l) τ → RLs ks τ kk → PRt ks τ P → ∃ σ' y, fl_Rm_exchange_135 n x1 (b : Int) (bb : Int) (e : Int) (b2 G) (p : Int) τ = some (some y, σ') ∧ frJ τ σ' ∧ ((exF (lnB ks P bb e G) (ntL (fun _ => true) p m) (T, ch) = none ∧ y = 0 ∧ ∃ T' cu', RE2 g B ((T', cu'), o, bf, q, md, l) σ') ∨ ∃ r, exF (lnB ks P bb e G) (ntL (fun _ => true) p m) (T, ch) = some r ∧ y = 1 ∧ RE2 g B ((r.1, r.2.elim cu0 fun p => ((p : Int), 0)), o, bf, q, md, l) σ' ∧ wfText r.1 ∧ r.1.length = n0 ∧ (∀ p, r.2 = some p → p < n0) ∧ ∃ d : Nat, σ' 9 0 31 = τ 9 0 31 + d ∧ d ≤ m ∧ (d = 0 → r.2 = ch) ∧ (d ≠ 0 → r.2 ≠ none)) := by
  intro m
  induction m with
  | zero =>
    intro n p T ch τ h1 h2 h3 h4 h5 c hR hP
    obtain ⟨n, rfl⟩ : ∃ n', n = n' + 1 := ⟨n - 1, by omega⟩
    refine ⟨τ, 1, ?_, frJ.rfl, .inr ⟨(T, ch), rfl, rfl, c, h4, h3, h5, 0, by omega, by omega, fun _ => rfl, fun h => absurd rfl h⟩⟩
    simp only [fl_Rm_exchange_135, fb_Rm_exchange_135, fb_Rm_exchange_236]
    rw [kg_pos (by omega), if_pos (by omega)]
  | succ m ih =>
    intro n p T ch τ h1 h2 h3 h4 h5 c hR hP
    obtain ⟨n, rfl⟩ : ∃ n', n = n' + 1 := ⟨n - 1, by omega⟩
    simp only [fl_Rm_exchange_135, fb_Rm_exchange_135]
    rw [kg_pos (by omega), if_neg (by omega)]
    unfold fb_Rm_exchange_141
    have hT : RT τ 0 T := c.1.1.1
    obtain ⟨F, z1, z2⟩ := R_rewrite (xr := (p : Int)) (xb := (bb : Int)) (xe := (e : Int)) (xg := b2 G) (r := p) (P := P) (b := bb) (e := e) (G := G) rfl rfl rfl rfl hP hT h4.2.2.1 (by omega) hbb he
    rw [kbi_eq z1]
    obtain ⟨c1, f1⟩ := c.sN (F := F)
    have R1 := f1.RLs hR
    have P1 := f1.PRt hP
    have hF33 : sN τ F 33 0 = F := kupA_self _ _ _ _
    have s31 : sN τ F 9 0 31 = τ 9 0 31 := congrFun (congrFun (sN_k (by decide)) 0) 31
    generalize sN τ F = υ at c1 f1 R1 P1 hF33 s31
    unfold ntL
    rw [if_pos rfl]
    unfold exF fb_Rm_exchange_152 fb_Rm_exchange_161 fb_Rm_exchange_163 fb_Rm_exchange_230
    dsimp only
    have hlnpr : ∀ c ∈ ln T p, 32 ≤ c ∧ c ≤ 126 := prL (h4.2.2.1 p (by omega))
    have hB := lnB_pr (P := P) (b := bb) (e := e) (G := G) hlnpr hks he
    generalize hV : lnB ks P bb e G (ln T p) = V at z2 hB ⊢
    obtain ⟨L, fd⟩ := V
    dsimp only at z2 hB ⊢
    cases fd with
    | false =>
      rw [show rwV false L = -1 from rfl, kg_pos (by decide), if_neg (by decide), kg_pos (by decide), if_pos (by decide), if_neg Bool.false_ne_true]
      obtain ⟨σ', y, y1, y2, y3⟩ := ih n (p + 1) T ch υ (by omega) (by omega) h3 h4 h5 c1 R1 P1
      refine ⟨σ', y, y1, f1.tr y2, ?_⟩
      rcases y3 with y3 | ⟨r, r1, r2, r3, r4, r5, r6, d, d1, d2, d3, d4⟩
      · exact .inl y3
      · exact .inr ⟨r, r1, r2, r3, r4, r5, r6, d, by rw [d1, s31], by omega, d3, d4⟩
    | true =>
      rw [if_pos rfl]
      by_cases h20 : 20 < L.length
      · rw [show rwV true L = -2 from if_pos h20, kg_pos (by decide), if_pos rfl, if_pos h20]
        exact ⟨υ, 0, rfl, f1, .inl ⟨rfl, rfl, T, _, c1⟩⟩
      · rw [show rwV true L = (L.length : Int) from if_neg h20, kg_pos (by omega), if_neg (by omega), kg_pos (by omega), if_neg (by omega), if_neg h20]
        obtain ⟨ω, v1, v2, v3, v4⟩ := R_putLine (k135 := fl_Rm_exchange_135 n) (x1 := x1) (x2 := (b : Int)) (x3 := (bb : Int)) (x4 := (e : Int)) (x5 := b2 G) (p := p) (L := L) c1 (by omega) (by omega) (by rw [hF33]; exact z2 rfl (by omega))
        rw [v1]
        have hwf : wfText (T.set p L) := by
          refine ⟨by rw [List.length_set]; exact h4.1, by rw [List.length_set]; exact h4.2.1, pr_set h4.2.2.1 hB (by omega), fun i hi => ?_⟩
          rw [List.length_set] at hi
          rw [ln_set (by omega)]
          split
          · omega
          · exact h4.2.2.2 i hi
        obtain ⟨σ', y, y1, y2, y3⟩ := ih n (p + 1) (T.set p L) (some p) ω (by omega) (by omega) (by rw [List.length_set]; exact h3) hwf (fun i hi => by cases hi; omega) v2 (v3.RLs R1) (v3.PRt P1)
        refine ⟨σ', y, y1, (f1.tr v3).tr y2, ?_⟩
        rcases y3 with y3 | ⟨r, r1, r2, r3, r4, r5, r6, d, d1, d2, d3, d4⟩
        · exact .inl y3
        · refine .inr ⟨r, r1, r2, r3, r4, r5, r6, d + 1, by rw [d1, v4, s31]; omega, by omega, fun h => absurd h (by omega), fun _ hn => ?_⟩
          by_cases hd : d = 0
          · rw [d3 hd] at hn
            exact nomatch hn
          · exact d4 hd hn
end
section
variable {ks : List Int} {σ : kS} {k : Nat}
theorem R_skL {x1 x2 x3 : Int} : ∀ (m f j : Nat) (σ : kS), TyR ks σ → σ 9 0 22 = j → ks.length ≤ j + m → j ≤ 100 → m < f → ∃ τ, fl_Rm_exchange_20 f x1 x2 x3 σ = fb_Rm_exchange_79 x1 x2 x3 τ ∧ τ 9 0 22 = ((skE ks (m + 1) j : Nat) : Int) ∧ (∀ i, i ≠ 22 → τ 9 0 i = σ 9 0 i) ∧ ∀ a, a ≠ 9 → τ a = σ a := by
  intro m
  induction m with
  | zero =>
    intro f j σ h h0 g1 g2 g3
    obtain ⟨f, rfl⟩ : ∃ f', f = f' + 1 := ⟨f - 1, by omega⟩
    have hl := h.2.2.1
    unfold skE
    rw [if_pos (by omega)]
    refine ⟨σ, ?_, h0, fun _ _ => rfl, fun _ _ => rfl⟩
    simp only [fl_Rm_exchange_20, fb_Rm_exchange_20]
    rw [h0, h.1, kg_pos (by omega), if_pos (by omega)]
  | succ m ih =>
    intro f j σ h h0 g1 g2 g3
    obtain ⟨f, rfl⟩ : ∃ f', f = f' + 1 := ⟨f - 1, by omega⟩
    have hl := h.2.2.1
    have hr := gd_rng h.2.2.2 j
    simp only [fl_Rm_exchange_20]
    unfold skE
    have hsee : f_Rm_seen (σ 9 0 22) σ = some (some (ks.getD j 0), σ) := R_seen h.1 h.2.1 hl h0 g2
    by_cases hk : ks.length ≤ j
    · rw [if_pos hk]
      refine ⟨σ, ?_, h0, fun _ _ => rfl, fun _ _ => rfl⟩
      unfold fb_Rm_exchange_20
      rw [h0, h.1, kg_pos (by omega), if_pos (by omega)]
    · rw [if_neg hk]
      have e31 : fb_Rm_exchange_20 (fl_Rm_exchange_20 f) x1 x2 x3 σ = fb_Rm_exchange_31 (fl_Rm_exchange_20 f) x1 x2 x3 σ := by
        unfold fb_Rm_exchange_20
        rw [h0, h.1, kg_pos (by omega), if_neg (by omega)]
      rw [e31]
      unfold fb_Rm_exchange_31
      rw [kbi_eq hsee]
      unfold fb_Rm_exchange_39
      rw [kg_pos (by omega)]
      by_cases h5 : ks.getD j 0 = 47
      · rw [if_pos h5, if_pos h5]
        exact ⟨σ, rfl, h0, fun _ _ => rfl, fun _ _ => rfl⟩
      · rw [if_neg h5, if_neg h5]
        unfold fb_Rm_exchange_44
        rw [kbi_eq hsee]
        unfold fb_Rm_exchange_53 fb_Rm_exchange_58 fb_Rm_exchange_67 fb_Rm_exchange_73
        rw [kg_pos (by omega), h0]
        have go : ∀ (d : Nat) (v : Int), v = ((j + d : Nat) : Int) → 1 ≤ d → d ≤ 2 → ∃ τ, fl_Rm_exchange_20 f x1 x2 x3 (kup σ 9 0 22 v) = fb_Rm_exchange_79 x1 x2 x3 τ ∧ τ 9 0 22 = ((skE ks (m + 1) (j + d) : Nat) : Int) ∧ (∀ i, i ≠ 22 → τ 9 0 i = σ 9 0 i) ∧ ∀ a, a ≠ 9 → τ a = σ a := by
          intro d v hv hd1 hd2
          obtain ⟨τ, z1, z2, z3, z4⟩ := ih f (j + d) (kup σ 9 0 22 v) (h.frZ (frZ.rfl.kup (by decide))) (by rw [kup_self, hv]) (by omega) (by omega) (by omega)
          exact ⟨τ, z1, z2, fun i hi => (z3 i hi).trans (kup_j hi), fun a ha => (z4 a ha).trans (kup_kk ha)⟩
        by_cases c3 : ks.getD j 0 = 92
        · rw [if_pos c3, if_pos c3]
          exact go 2 _ (by omega) (by omega) (by omega)
        · rw [if_neg c3, if_neg c3]
          exact go 1 _ (by omega) (by omega) (by omega)
theorem R_ended {b : Int} (hy : TyR ks σ) (h22 : σ 9 0 22 = k) (hk : k ≤ 100) (hb : σ 9 0 23 = b) (hb1 : b = 0 ∨ b = 1) : f_Rm_ended σ = some (some (if b = 0 ∧ k = ks.length then 1 else 0), σ) := by
  have hl := hy.2.2.1
  unfold f_Rm_ended fb_Rm_ended_0 fb_Rm_ended_7 fb_Rm_ended_18 fb_Rm_ended_22 fb_Rm_ended_23
  rw [hb, h22, hy.1, kg_pos (by omega)]
  by_cases h0 : b = 0
  · rw [if_pos h0, kg_pos (by omega)]
    by_cases h1 : k = ks.length
    · rw [if_pos (by omega), if_pos ⟨h0, h1⟩, kg_pos (by decide)]
    · rw [if_neg (by omega), if_neg (fun h => h1 h.2), kg_pos (by decide)]
  · rw [if_neg h0, if_neg (fun h => h0 h.1), kg_pos (by decide)]
/-- what s has behind it is read, the reference's side -/
theorem R_exP {xa xb : Int} (h : RLs ks σ k) (hk : k ≤ 31) : ∃ τ, frZ σ τ ∧ (((exP ks k).elim none (fun v => if v.2 = ks.length then some v.1 else none) = none ∧ f_Rm_exchange xa xb σ = some (some 0, τ)) ∨ ∃ v : Ex, (exP ks k).elim none (fun v => if v.2 = ks.length then some v.1 else none) = some v ∧ f_Rm_exchange xa xb σ = fl_Rm_exchange_135 3000 xa xb (v.2.1 : Int) (v.2.2.1 : Int) (b2 v.2.2.2) xa τ ∧ RLs ks τ ks.length ∧ PRt ks τ v.1 ∧ v.2.2.1 < ks.length ∧ v.2.1 ≤ 30) := by
  have hl := h.1.2.2.1
  unfold f_Rm_exchange fb_Rm_exchange_0
  obtain ⟨τ, e1, f1, o1, k1, h1⟩ := R_take (v := 47) h (by omega) (by decide)
  rw [kbi_eq e1]
  unfold fb_Rm_exchange_6 exP
  by_cases c47 : ks.getD k 0 = 47
  · rw [if_pos c47] at h1
    rw [if_pos c47, if_pos c47, kg_pos (by decide), if_neg (by decide)]
    unfold fb_Rm_exchange_11
    obtain ⟨υ, e2, f2, h2⟩ := R_delim h1 hk
    rw [kbu_eq e2]
    have f12 := f1.tr f2
    have yu : TyR ks υ := h.1.frZ f12
    unfold fb_Rm_exchange_15
    rcases h2 with ⟨hn, b1, j, h22, hj, hkj⟩ | ⟨P, j, hd, hR, hP, hj1, hj2⟩
    · rw [hn]
      obtain ⟨ω, z1, z2, z3, z4⟩ := R_skL (x1 := xa) (x2 := xb) (x3 := υ 9 0 22) 100 3000 j υ yu h22 (by omega) hj (by omega)
      rw [z1]
      refine ⟨ω, f12.tr ⟨fun a h9 _ => z4 a h9, fun c hc => z3 c (by omega)⟩, .inl ⟨rfl, ?_⟩⟩
      unfold fb_Rm_exchange_79 fb_Rm_exchange_103
      rw [z3 23 (by decide), b1, kg_pos (by decide), if_neg (by decide)]
    · rw [hd]
      obtain ⟨ω, z1, z2, z3, z4⟩ := R_skL (x1 := xa) (x2 := xb) (x3 := υ 9 0 22) 39 3000 j υ yu hR.2.1 (by omega) (by omega) (by omega)
      rw [z1]
      have f3 : frZ σ ω := f12.tr ⟨fun a h9 _ => z4 a h9, fun c hc => z3 c (by omega)⟩
      have yw : TyR ks ω := h.1.frZ f3
      have z2' : ω 9 0 22 = ((skE ks 40 j : Nat) : Int) := z2
      have hsle := skE_le hl 40 j (by omega)
      show ∃ τ, frZ σ τ ∧ ((Option.elim (if ks.length ≤ skE ks 40 j then none else some ((P, j, skE ks 40 j, decide (ks.getD (skE ks 40 j + 1) 0 = 103)), if ks.getD (skE ks 40 j + 1) 0 = 103 then skE ks 40 j + 2 else skE ks 40 j + 1) : Option (Ex × Nat)) none (fun v => if v.2 = ks.length then some v.1 else none) = none ∧ _) ∨ ∃ v : Ex, Option.elim (if ks.length ≤ skE ks 40 j then none else some ((P, j, skE ks 40 j, decide (ks.getD (skE ks 40 j + 1) 0 = 103)), if ks.getD (skE ks 40 j + 1) 0 = 103 then skE ks 40 j + 2 else skE ks 40 j + 1) : Option (Ex × Nat)) none (fun v => if v.2 = ks.length then some v.1 else none) = some v ∧ _)
      generalize skE ks 40 j = e at z2' hsle
      unfold fb_Rm_exchange_79
      rw [z3 23 (by decide), hR.2.2, kg_pos (by decide), if_pos rfl]
      unfold fb_Rm_exchange_92 fb_Rm_exchange_103
      rw [z2', yw.1, kg_pos (by omega)]
      by_cases c1 : ks.length ≤ e
      · rw [if_neg (show ¬ (e : Int) < (ks.length : Int) by omega), if_pos c1]
        exact ⟨ω, f3, .inl ⟨rfl, rfl⟩⟩
      · rw [if_pos (show (e : Int) < (ks.length : Int) by omega), if_neg c1]
        unfold fb_Rm_exchange_105
        rw [z2']
        have R4 : RLs ks (kup ω 9 0 22 ((e : Int) + 1)) (e + 1) := ⟨yw.frZ (frZ.rfl.kup (by decide)), by rw [kup_self]; omega, (kup_j (by decide)).trans ((z3 23 (by decide)).trans hR.2.2)⟩
        have f4 : frZ σ (kup ω 9 0 22 ((e : Int) + 1)) := f3.kup (by decide)
        have o4 : ∀ i, i ≠ 22 → kup ω 9 0 22 ((e : Int) + 1) 9 0 i = υ 9 0 i := fun i hi => (kup_j hi).trans (z3 i hi)
        have k4 : ∀ a, a ≠ 9 → kup ω 9 0 22 ((e : Int) + 1) a = υ a := fun a ha => (kup_kk ha).trans (z4 a ha)
        generalize kup ω 9 0 22 ((e : Int) + 1) = φ at R4 f4 o4 k4
        obtain ⟨ψ, e5, f5, o5, k5, R5⟩ := R_take (v := 103) R4 (by omega) (by decide)
        rw [kbi_eq e5]
        have f6 := f4.tr f5
        have P5 : PRt ks ψ P := by
          obtain ⟨q1, q2, q3, q4, q5, q6⟩ := hP
          refine ⟨h.1.frZ f6, q2, (o5 28 (by decide)).trans ((o4 28 (by decide)).trans q3), (o5 29 (by decide)).trans ((o4 29 (by decide)).trans q4), (o5 30 (by decide)).trans ((o4 30 (by decide)).trans q5), ?_⟩
          rw [k5 28 (by decide), k5 29 (by decide), k5 30 (by decide), k5 31 (by decide), k4 28 (by decide), k4 29 (by decide), k4 30 (by decide), k4 31 (by decide)]
          exact q6
        unfold fb_Rm_exchange_121
        have hjj : υ 9 0 22 = j := hR.2.1
        by_cases c2 : ks.getD (e + 1) 0 = 103
        · rw [if_pos c2] at R5
          rw [if_pos c2, if_pos c2, kbi_eq (R_ended R5.1 R5.2.1 (by omega) R5.2.2 (.inl rfl))]
          unfold fb_Rm_exchange_127 fb_Rm_exchange_130 fb_Rm_exchange_132
          by_cases c3 : e + 2 = ks.length
          · rw [if_pos ⟨rfl, c3⟩, kg_pos (by decide), if_neg (by decide), decide_eq_true c2, hjj]
            refine ⟨ψ, f6, .inr ⟨(P, j, e, true), if_pos c3, rfl, ?_, P5, by show e < ks.length; omega, by show j ≤ 30; omega⟩⟩
            rw [← c3]
            exact R5
          · rw [if_neg (fun h => c3 h.2), kg_pos (by decide), if_pos rfl]
            exact ⟨ψ, f6, .inl ⟨if_neg c3, rfl⟩⟩
        · rw [if_neg c2] at R5
          rw [if_neg c2, if_neg c2, kbi_eq (R_ended R5.1 R5.2.1 (by omega) R5.2.2 (.inl rfl))]
          unfold fb_Rm_exchange_127 fb_Rm_exchange_130 fb_Rm_exchange_132
          by_cases c3 : e + 1 = ks.length
          · rw [if_pos ⟨rfl, c3⟩, kg_pos (by decide), if_neg (by decide), decide_eq_false c2, hjj]
            refine ⟨ψ, f6, .inr ⟨(P, j, e, false), if_pos c3, rfl, ?_, P5, by show e < ks.length; omega, by show j ≤ 30; omega⟩⟩
            rw [← c3]
            exact R5
          · rw [if_neg (fun h => c3 h.2), kg_pos (by decide), if_pos rfl]
            exact ⟨ψ, f6, .inl ⟨if_neg c3, rfl⟩⟩
  · rw [if_neg c47, if_neg c47, kg_pos (by decide), if_pos rfl]
    exact ⟨τ, f1, .inl ⟨rfl, rfl⟩⟩
end
