/-! Pure: a line with its exchanges, the reference's side. -/
def sN (σ : kS) (F : Nat → Int) : kS := kupA σ 33 0 F
def n21 (l : List Int) : Int := ((min 21 l.length : Nat) : Int)
theorem sN_k {σ : kS} {F : Nat → Int} {k : Nat} (h : k ≠ 33) : sN σ F k = σ k := kupA_kk h
theorem sN_sN {σ : kS} {F F' : Nat → Int} : sN (sN σ F) F' = sN σ F' := kupA_kupA _ _ _ _ _
theorem RT.sN {σ : kS} {F : Nat → Int} {b : Nat} {T : Tx} (h : RT σ b T) : RT (sN σ F) b T := by
  unfold RT
  rw [sN_k (by decide), sN_k (by decide)]
  exact h
theorem PRt.sN {ks : List Int} {σ : kS} {F : Nat → Int} {P : Pt} (h : PRt ks σ P) : PRt ks (sN σ F) P := by
  unfold PRt
  rw [sN_k (k := 9) (by decide), sN_k (k := 27) (by decide), sN_k (k := 28) (by decide), sN_k (k := 29) (by decide), sN_k (k := 30) (by decide), sN_k (k := 31) (by decide)]
  exact h
section
variable {ks : List Int} {σ : kS} {T : Tx} {r : Nat}
theorem R_addc {F : Nat → Int} {l : List Int} {c : Int} : f_Rm_add (n21 l) c (sN σ F) = some (some (n21 (l ++ [c])), sN σ (adF F l.length c)) := by
  unfold f_Rm_add fb_Rm_add_0 fb_Rm_add_9 fb_Rm_add_6 n21 adF
  rw [List.length_append, List.length_singleton, kg_pos (by omega)]
  by_cases h : l.length < 20
  · rw [if_pos (by omega), if_pos h, kg_pos (by omega), show ((min 21 l.length : Nat) : Int).toNat = l.length by omega, show ((min 21 (l.length + 1) : Nat) : Int) = ((min 21 l.length : Nat) : Int) + 1 by omega]
    unfold sN
    rw [kup_kupA]
  · rw [if_neg (by omega), if_neg h, show ((min 21 (l.length + 1) : Nat) : Int) = 21 by omega]
theorem R_apL {x1 x3 : Int} {b : Nat} (hT : RT σ 0 T) (hr : r < T.length) (hb : b ≤ (ln T r).length) : ∀ (m n a : Nat) (F : Nat → Int) (l : List Int), a + m = b → m < n → Bu F l → ∃ F', fl_Rm_append_6 n x1 (r : Int) x3 (b : Int) (n21 l) (a : Int) (sN σ F) = some (some (n21 (l ++ slc (ln T r) a b)), sN σ F') ∧ Bu F' (l ++ slc (ln T r) a b) := by
  have hl := (hT.2 r hr).2.1
  intro m
  induction m with
  | zero =>
    intro n a F l h1 h2 h3
    obtain ⟨n, rfl⟩ : ∃ n', n = n' + 1 := ⟨n - 1, by omega⟩
    obtain rfl : a = b := by omega
    rw [slc_nil, List.append_nil]
    refine ⟨F, ?_, h3⟩
    simp only [fl_Rm_append_6, fb_Rm_append_6]
    rw [kg_pos (by omega), if_pos (by omega)]
    rfl
  | succ m ih =>
    intro n a F l h1 h2 h3
    obtain ⟨n, rfl⟩ : ∃ n', n = n' + 1 := ⟨n - 1, by omega⟩
    obtain ⟨F', z1, z2⟩ := ih n (a + 1) (adF F l.length ((ln T r).getD a 0)) (l ++ [(ln T r).getD a 0]) (by omega) (by omega) (h3.add _)
    rw [List.append_assoc, List.singleton_append, ← slc_cons (by omega) hb] at z1 z2
    refine ⟨F', ?_, z2⟩
    rw [← z1]
    simp only [fl_Rm_append_6, fb_Rm_append_6, fb_Rm_append_13, fb_Rm_append_23, fb_Rm_append_26]
    rw [kg_pos (by omega), if_neg (by omega), kbi_eq (Q_at (c := a) rfl rfl hT.sN hr (by omega)), kbi_eq R_addc]
    rfl
theorem R_append {x1 xr xa xb : Int} {a b : Nat} {F : Nat → Int} {l : List Int} (hx1 : x1 = n21 l) (hxr : xr = r) (hxa : xa = a) (hxb : xb = b) (hT : RT σ 0 T) (hr : r < T.length) (hab : a ≤ b) (hb : b ≤ (ln T r).length) (hF : Bu F l) : ∃ F', f_Rm_append x1 xr xa xb (sN σ F) = some (some (n21 (l ++ slc (ln T r) a b)), sN σ F') ∧ Bu F' (l ++ slc (ln T r) a b) := by
  subst hx1 hxr hxa hxb
  have hl2 := (hT.2 r hr).2.1
  unfold f_Rm_append fb_Rm_append_0
  exact R_apL hT hr hb (b - a) 3000 a F l (by omega) (by omega) hF
/-- the replacement, the reference's side -/
theorem R_replL {x1 x3 : Int} {p q e : Nat} (hT : RT σ 0 T) (hr : r < T.length) (hpq : p ≤ q) (hq : q ≤ (ln T r).length) (hy : TyR ks σ) (he : e < ks.length) : ∀ (m n k : Nat) (F : Nat → Int) (l : List Int), k ≤ 40 → e ≤ k + m → m < n → Bu F l → ∃ F', fl_Rm_replace_6 n x1 (r : Int) x3 (e : Int) (p : Int) (q : Int) (n21 l) (k : Int) (sN σ F) = some (some (n21 (l ++ rpA ks e (slc (ln T r) p q) m k)), sN σ F') ∧ Bu F' (l ++ rpA ks e (slc (ln T r) p q) m k) := by
  obtain ⟨y1, y2, y3, y4⟩ := hy
  have hsee : ∀ (F : Nat → Int) (x : Int) (k : Nat), x = k → k ≤ 100 → f_Rm_seen x (sN σ F) = some (some (ks.getD k 0), sN σ F) := fun F x k hx hk => R_seen (by rw [sN_k (by decide)]; exact y1) (by rw [sN_k (by decide)]; exact y2) y3 hx hk
  intro m
  induction m with
  | zero =>
    intro n k F l h0 h1 h2 h3
    obtain ⟨n, rfl⟩ : ∃ n', n = n' + 1 := ⟨n - 1, by omega⟩
    refine ⟨F, ?_, ?_⟩
    · simp only [fl_Rm_replace_6, fb_Rm_replace_6]
      rw [kg_pos (by omega), if_pos (by omega)]
      unfold rpA
      rw [List.append_nil]
      rfl
    · unfold rpA
      rw [List.append_nil]
      exact h3
  | succ m ih =>
    intro n k F l h0 h1 h2 h3
    obtain ⟨n, rfl⟩ : ∃ n', n = n' + 1 := ⟨n - 1, by omega⟩
    have hr0 := gd_rng y4 k
    simp only [fl_Rm_replace_6, fb_Rm_replace_6]
    unfold rpA
    rw [kg_pos (by omega)]
    by_cases hz : e ≤ k
    · rw [if_pos (by omega), if_pos hz, List.append_nil]
      exact ⟨F, rfl, h3⟩
    · rw [if_neg (by omega), if_neg hz]
      unfold fb_Rm_replace_13
      rw [kbi_eq (hsee F _ k rfl (by omega))]
      unfold fb_Rm_replace_19
      rw [kg_pos (by omega)]
      by_cases h38 : ks.getD k 0 = 38
      · rw [if_pos h38, if_pos h38]
        unfold fb_Rm_replace_28 fb_Rm_replace_39 fb_Rm_replace_76
        obtain ⟨F1, z1, z2⟩ := R_append (F := F) (l := l) (xr := (r : Int)) (xa := (p : Int)) (xb := (q : Int)) rfl rfl rfl rfl hT hr hpq hq h3
        rw [kbi_eq z1]
        obtain ⟨F2, w1, w2⟩ := ih n (k + 1) F1 (l ++ slc (ln T r) p q) (by omega) (by omega) (by omega) z2
        rw [List.append_assoc] at w1 w2
        exact ⟨F2, w1, w2⟩
      · rw [if_neg h38, if_neg h38]
        unfold fb_Rm_replace_44 fb_Rm_replace_51 fb_Rm_replace_58
        rw [kg_pos (by omega)]
        have h60 : ∀ (j : Nat) (x8 : Int), j ≤ 35 → e ≤ j + 1 + m → ∃ F', fb_Rm_replace_60 (fl_Rm_replace_6 n) x1 (r : Int) x3 (e : Int) (p : Int) (q : Int) (n21 l) x8 (ks.getD k 0) (j : Int) (sN σ F) = some (some (n21 (l ++ (ks.getD j 0 :: rpA ks e (slc (ln T r) p q) m (j + 1)))), sN σ F') ∧ Bu F' (l ++ (ks.getD j 0 :: rpA ks e (slc (ln T r) p q) m (j + 1))) := by
          intro j x8 hj hm3
          obtain ⟨F2, w1, w2⟩ := ih n (j + 1) (adF F l.length (ks.getD j 0)) (l ++ [ks.getD j 0]) (by omega) hm3 (by omega) (h3.add _)
          rw [List.append_assoc, List.singleton_append] at w1 w2
          refine ⟨F2, ?_, w2⟩
          unfold fb_Rm_replace_60 fb_Rm_replace_71 fb_Rm_replace_74 fb_Rm_replace_76
          rw [kbi_eq (hsee F _ j rfl (by omega)), kbi_eq R_addc]
          exact w1
        by_cases h92 : ks.getD k 0 = 92
        · rw [if_pos h92, if_pos h92]
          exact h60 (k + 1) _ (by omega) (by omega)
        · rw [if_neg h92, if_neg h92]
          exact h60 k _ (by omega) (by omega)
theorem bd_true {mt : Nat → Int} {rp : Nat → Nat → List Int} {G : Bool} {L : List Int} : ∀ m p d, (bdA mt rp G L m p d true).2 = true := by
  intro m
  induction m with
  | zero => intro p d; rfl
  | succ m ihm =>
    intro p d
    unfold bdA
    split
    · rfl
    · split
      · exact ihm _ _
      · split <;> rfl
/-- what rewrite answers -/
def rwV (f : Bool) (l : List Int) : Int := if f then (if 20 < l.length then -2 else (l.length : Int)) else -1
theorem R_rewrite {P : Pt} {b e : Nat} {G : Bool} {xr xb xe xg : Int} (hxr : xr = r) (hxb : xb = b) (hxe : xe = e) (hxg : xg = b2 G) (hP : PRt ks σ P) (hT : RT σ 0 T) (hpr : printable T) (hr : r < T.length) (hb : b ≤ 30) (he : e < ks.length) : ∃ F, f_Rm_rewrite xr xb xe xg σ = some (some (rwV (lnB ks P b e G (ln T r)).2 (lnB ks P b e G (ln T r)).1), sN σ F) ∧ ((lnB ks P b e G (ln T r)).2 = true → (lnB ks P b e G (ln T r)).1.length ≤ 20 → Bu F (lnB ks P b e G (ln T r)).1) := by
  subst hxr hxb hxe hxg
  have hy : TyR ks σ := hP.1
  have hks30 := hy.2.2.1
  have hl2 := (hT.2 r hr).2.1
  have hT1 := hT.1
  have hG01 := b2_01 G
  unfold f_Rm_rewrite fb_Rm_rewrite_0
  have hsz : ∀ F, sN σ F 21 0 (Int.toNat (r : Int)) = (ln T r).length := fun F => Q_sz rfl hT.sN hr
  -- the end, something was found
  have h121 : ∀ (d : Nat) (x8 : Int) (F : Nat → Int) (l : List Int), d ≤ (ln T r).length → Bu F l → ∃ F', fb_Rm_rewrite_121 (r : Int) (b : Int) (e : Int) (b2 G) (n21 l) (d : Int) (d : Int) x8 (sN σ F) = some (some (rwV true (l ++ slc (ln T r) d (ln T r).length)), sN σ F') ∧ Bu F' (l ++ slc (ln T r) d (ln T r).length) := by
    intro d x8 F l hd hF
    obtain ⟨F', z1, z2⟩ := R_append (x1 := n21 l) (xr := (r : Int)) (xa := (d : Int)) (xb := ((ln T r).length : Int)) (F := F) rfl rfl rfl rfl hT hr hd (Nat.le_refl _) hF
    refine ⟨F', ?_, z2⟩
    unfold fb_Rm_rewrite_121 fb_Rm_rewrite_128 fb_Rm_rewrite_143 fb_Rm_rewrite_157 fb_Rm_rewrite_152 fb_Rm_rewrite_159
    rw [kg_pos (by omega), if_pos (by omega), kg_pos (by omega), hsz, kbi_eq z1]
    unfold rwV n21
    rw [kg_pos (by omega), if_pos rfl]
    by_cases h : 20 < (l ++ slc (ln T r) d (ln T r).length).length
    · rw [if_neg (by omega), if_pos h]
    · rw [if_pos (by omega), if_neg h, show min 21 (l ++ slc (ln T r) d (ln T r).length).length = (l ++ slc (ln T r) d (ln T r).length).length by omega]
  -- not everywhere: after the first one
  have hrest : G = false → ∀ (m n p d : Nat) (F : Nat → Int) (l : List Int), (ln T r).length + 1 ≤ p + m → d ≤ (ln T r).length → p ≤ 100 → m < n → Bu F l → ∃ F', fl_Rm_rewrite_12 n (r : Int) (b : Int) (e : Int) (b2 G) (n21 l) (d : Int) (d : Int) (p : Int) (sN σ F) = some (some (rwV true (l ++ slc (ln T r) d (ln T r).length)), sN σ F') ∧ Bu F' (l ++ slc (ln T r) d (ln T r).length) := by
    intro hG m
    induction m with
    | zero =>
      intro n p d F l h1 h2 h3 h4 h5
      obtain ⟨n, rfl⟩ : ∃ n', n = n' + 1 := ⟨n - 1, by omega⟩
      simp only [fl_Rm_rewrite_12, fb_Rm_rewrite_12]
      rw [hsz, kg_pos (by omega), if_pos (by omega)]
      exact h121 d _ F l h2 h5
    | succ m ih =>
      intro n p d F l h1 h2 h3 h4 h5
      obtain ⟨n, rfl⟩ : ∃ n', n = n' + 1 := ⟨n - 1, by omega⟩
      simp only [fl_Rm_rewrite_12, fb_Rm_rewrite_12]
      rw [hsz, kg_pos (by omega)]
      by_cases hp : (ln T r).length < p
      · rw [if_pos (by omega)]
        exact h121 d _ F l h2 h5
      · rw [if_neg (by omega)]
        unfold fb_Rm_rewrite_23
        have hn : 0 ≤ n21 l ∧ n21 l ≤ 21 := by
          unfold n21
          omega
        rw [kg_pos (by omega)]
        by_cases h20 : 20 < n21 l
        · rw [if_pos h20]
          exact h121 d _ F l h2 h5
        · rw [if_neg h20]
          unfold fb_Rm_rewrite_30 fb_Rm_rewrite_35 fb_Rm_rewrite_50 fb_Rm_rewrite_51 fb_Rm_rewrite_72 fb_Rm_rewrite_118
          rw [kg_pos (by omega), if_neg (by omega), kg_pos (by omega), if_pos (show b2 G = 0 by rw [hG]; rfl), kg_pos (by decide), if_pos (by decide)]
          exact ih n (p + 1) d F l (by omega) h2 (by omega) (by omega) h5
  have hloop : ∀ (m n p d : Nat) (f : Bool) (F : Nat → Int) (l : List Int), (ln T r).length + 1 ≤ p + m → d ≤ p → d ≤ (ln T r).length → p ≤ 100 → 2 * m + 60 < n → (f = true → G = true) → (f = false → l = []) → Bu F l → ∃ F', fl_Rm_rewrite_12 n (r : Int) (b : Int) (e : Int) (b2 G) (n21 l) (d : Int) (if f then (d : Int) else -1) (p : Int) (sN σ F) = some (some (rwV (bdA (mtA ks P (ln T r)) (fun p q => rpA ks e (slc (ln T r) p q) 40 b) G (ln T r) m p d f).2 (l ++ (bdA (mtA ks P (ln T r)) (fun p q => rpA ks e (slc (ln T r) p q) 40 b) G (ln T r) m p d f).1)), sN σ F') ∧ ((bdA (mtA ks P (ln T r)) (fun p q => rpA ks e (slc (ln T r) p q) 40 b) G (ln T r) m p d f).2 = true → (l ++ (bdA (mtA ks P (ln T r)) (fun p q => rpA ks e (slc (ln T r) p q) 40 b) G (ln T r) m p d f).1).length ≤ 20 → Bu F' (l ++ (bdA (mtA ks P (ln T r)) (fun p q => rpA ks e (slc (ln T r) p q) 40 b) G (ln T r) m p d f).1)) := by
    intro m
    induction m with
    | zero =>
      intro n p d f F l h1 h2 h3 h4 h5 h6 h7 h8
      obtain ⟨n, rfl⟩ : ∃ n', n = n' + 1 := ⟨n - 1, by omega⟩
      simp only [fl_Rm_rewrite_12, fb_Rm_rewrite_12]
      rw [hsz, kg_pos (by omega), if_pos (by omega)]
      unfold bdA
      cases f with
      | true =>
        obtain ⟨F', z1, z2⟩ := h121 d (p : Int) F l h3 h8
        exact ⟨F', z1, fun _ _ => z2⟩
      | false =>
        refine ⟨F, ?_, fun h => nomatch h⟩
        unfold fb_Rm_rewrite_121 fb_Rm_rewrite_126
        rw [if_neg Bool.false_ne_true, kg_pos (by decide), if_neg (by decide)]
        rfl
    | succ m ih =>
      intro n p d f F l h1 h2 h3 h4 h5 h6 h7 h8
      obtain ⟨n, rfl⟩ : ∃ n', n = n' + 1 := ⟨n - 1, by omega⟩
      simp only [fl_Rm_rewrite_12, fb_Rm_rewrite_12]
      unfold bdA
      rw [hsz, kg_pos (by omega)]
      by_cases hp : (ln T r).length < p
      · rw [if_pos (by omega), if_pos hp]
        cases f with
        | true =>
          obtain ⟨F', z1, z2⟩ := h121 d (p : Int) F l h3 h8
          exact ⟨F', z1, fun _ _ => z2⟩
        | false =>
          refine ⟨F, ?_, fun h => nomatch h⟩
          unfold fb_Rm_rewrite_121 fb_Rm_rewrite_126
          rw [if_neg Bool.false_ne_true, kg_pos (by decide), if_neg (by decide)]
          rfl
      · rw [if_neg (by omega), if_neg hp]
        unfold fb_Rm_rewrite_23
        have hn : n21 l = ((min 21 l.length : Nat) : Int) := rfl
        rw [kg_pos (by omega)]
        by_cases h20 : 20 < n21 l
        · -- too long already
          rw [if_pos h20]
          obtain rfl : f = true := by
            cases f with
            | true => rfl
            | false =>
              exfalso
              rw [h7 rfl] at h20
              exact absurd h20 (by decide)
          obtain ⟨F', z1, z2⟩ := h121 d (p : Int) F l h3 h8
          have hbt := bd_true (mt := mtA ks P (ln T r)) (rp := fun p q => rpA ks e (slc (ln T r) p q) 40 b) (G := G) (L := ln T r) (m + 1) p d
          unfold bdA at hbt
          rw [if_neg hp] at hbt
          generalize (if mtA ks P (ln T r) p < 0 ∨ true = true ∧ mtA ks P (ln T r) p = (d : Int) then bdA (mtA ks P (ln T r)) (fun p q => rpA ks e (slc (ln T r) p q) 40 b) G (ln T r) m (p + 1) d true else if G = true then (slc (ln T r) d p ++ (rpA ks e (slc (ln T r) p (mtA ks P (ln T r) p).toNat) 40 b ++ (bdA (mtA ks P (ln T r)) (fun p q => rpA ks e (slc (ln T r) p q) 40 b) G (ln T r) m (max (p + 1) (mtA ks P (ln T r) p).toNat) (mtA ks P (ln T r) p).toNat true).1), true) else (slc (ln T r) d p ++ (rpA ks e (slc (ln T r) p (mtA ks P (ln T r) p).toNat) 40 b ++ slc (ln T r) (mtA ks P (ln T r) p).toNat (ln T r).length), true)) = R at hbt ⊢
          have hlen : ∀ X : List Int, 20 < (l ++ X).length := fun X => by
            rw [List.length_append]
            omega
          refine ⟨F', ?_, fun _ h => absurd (hlen R.1) (by omega)⟩
          rw [if_pos rfl, z1, hbt]
          unfold rwV
          rw [if_pos rfl, if_pos (hlen _), if_pos rfl, if_pos (hlen _)]
        · rw [if_neg h20]
          have hmr := mtA_rng ks P (ln T r) p
          -- the match is tried
          have e40 : fb_Rm_rewrite_30 (fl_Rm_rewrite_12 n) (r : Int) (b : Int) (e : Int) (b2 G) (n21 l) (d : Int) (if f then (d : Int) else -1) (p : Int) (sN σ F) = fb_Rm_rewrite_51 (fl_Rm_rewrite_12 n) (r : Int) (b : Int) (e : Int) (b2 G) (n21 l) (d : Int) (if f then (d : Int) else -1) (p : Int) (mtA ks P (ln T r) p) (sN σ F) := by
            unfold fb_Rm_rewrite_30 fb_Rm_rewrite_35 fb_Rm_rewrite_40 fb_Rm_rewrite_47
            cases f with
            | true =>
              rw [if_pos rfl, kg_pos (by omega), if_neg (by omega), kg_pos (by omega), if_neg (show ¬ b2 G = 0 by rw [h6 rfl]; decide), kbi_eq (R_match hP.sN hT.sN hpr rfl rfl hr (by omega))]
            | false =>
              rw [if_neg Bool.false_ne_true, kg_pos (by decide), if_pos (by decide), kbi_eq (R_match hP.sN hT.sN hpr rfl rfl hr (by omega))]
          rw [e40]
          have hgo := ih n (p + 1) d f F l (by omega) (by omega) h3 (by omega) (by omega) h6 h7 h8
          unfold fb_Rm_rewrite_51
          rw [kg_pos (by omega)]
          by_cases hm0 : mtA ks P (ln T r) p < 0
          · rw [if_pos hm0, if_pos (show mtA ks P (ln T r) p < 0 ∨ f = true ∧ mtA ks P (ln T r) p = (d : Int) from .inl hm0)]
            exact hgo
          · rw [if_neg hm0]
            obtain ⟨q, hq⟩ : ∃ q : Nat, mtA ks P (ln T r) p = (q : Int) := ⟨(mtA ks P (ln T r) p).toNat, by omega⟩
            rw [hq] at hmr hm0 ⊢
            rw [Int.toNat_natCast]
            have hpq : p ≤ q := by omega
            have hql : q ≤ (ln T r).length := by omega
            -- is it an empty one where the one before ended
            have e58 : fb_Rm_rewrite_58 (fl_Rm_rewrite_12 n) (r : Int) (b : Int) (e : Int) (b2 G) (n21 l) (d : Int) (if f then (d : Int) else -1) (p : Int) (q : Int) (sN σ F) = if f = true ∧ (q : Int) = (d : Int) then fb_Rm_rewrite_72 (fl_Rm_rewrite_12 n) (r : Int) (b : Int) (e : Int) (b2 G) (n21 l) (d : Int) (if f then (d : Int) else -1) (p : Int) (q : Int) (sN σ F) else fb_Rm_rewrite_78 (fl_Rm_rewrite_12 n) (r : Int) (b : Int) (e : Int) (b2 G) (n21 l) (d : Int) (if f then (d : Int) else -1) (p : Int) (q : Int) (sN σ F) := by
              unfold fb_Rm_rewrite_58 fb_Rm_rewrite_65
              rw [kg_pos (by omega)]
              cases f with
              | true =>
                rw [if_pos rfl]
                by_cases h9 : q = p
                · rw [if_pos (by omega), kg_pos (by omega)]
                  by_cases h10 : p = d
                  · rw [if_pos (by omega), if_pos ⟨rfl, by omega⟩]
                  · rw [if_neg (by omega), if_neg (by omega)]
                · rw [if_neg (by omega), if_neg (by omega)]
              | false =>
                rw [if_neg Bool.false_ne_true, kg_pos (by omega), if_neg (show ¬ (p : Int) = -1 by omega), ite_self, if_neg (fun h => Bool.noConfusion h.1)]
            rw [e58]
            by_cases hd : f = true ∧ (q : Int) = (d : Int)
            · rw [if_pos hd, if_pos (show (q : Int) < 0 ∨ f = true ∧ (q : Int) = (d : Int) from .inr hd)]
              exact hgo
            · rw [if_neg hd, if_neg (show ¬ ((q : Int) < 0 ∨ f = true ∧ (q : Int) = (d : Int)) from fun h => h.elim hm0 hd)]
              obtain ⟨F1, z1, z2⟩ := R_append (x1 := n21 l) (xr := (r : Int)) (xa := (d : Int)) (xb := (p : Int)) (F := F) rfl rfl rfl rfl hT hr h2 (by omega) h8
              obtain ⟨F2, y1, y2⟩ := R_replL (x1 := n21 (l ++ slc (ln T r) d p)) (x3 := (b : Int)) (p := p) (q := q) (e := e) hT hr hpq hql hy he 40 3000 b F1 (l ++ slc (ln T r) d p) (by omega) (by omega) (by decide) z2
              unfold fb_Rm_rewrite_78
              rw [kbi_eq z1]
              unfold fb_Rm_rewrite_89
              have e89 : f_Rm_replace (n21 (l ++ slc (ln T r) d p)) (r : Int) (b : Int) (e : Int) (p : Int) (q : Int) (sN σ F1) = some (some (n21 ((l ++ slc (ln T r) d p) ++ rpA ks e (slc (ln T r) p q) 40 b)), sN σ F2) := y1
              rw [kbi_eq e89]
              unfold fb_Rm_rewrite_104 fb_Rm_rewrite_118
              have hass : ∀ X, ((l ++ slc (ln T r) d p) ++ rpA ks e (slc (ln T r) p q) 40 b) ++ X = l ++ (slc (ln T r) d p ++ (rpA ks e (slc (ln T r) p q) 40 b ++ X)) := fun X => by rw [List.append_assoc, List.append_assoc]
              generalize (l ++ slc (ln T r) d p) ++ rpA ks e (slc (ln T r) p q) 40 b = l2 at y2 hass
              cases hGv : G with
              | false =>
                rw [if_neg Bool.false_ne_true]
                obtain ⟨F3, v1, v2⟩ := hrest hGv 40 n q q F2 l2 (by omega) hql (by omega) (by omega) y2
                rw [hass] at v1 v2
                rw [hGv] at v1
                exact ⟨F3, v1, fun _ _ => v2⟩
              | true =>
                rw [if_pos rfl]
                have hbt := bd_true (mt := mtA ks P (ln T r)) (rp := fun p q => rpA ks e (slc (ln T r) p q) 40 b) (G := true) (L := ln T r) m (max (p + 1) q) q
                by_cases h9 : q = p
                · -- one turn more at the same place
                  subst h9
                  rw [show max (q + 1) q = q + 1 by omega] at hbt ⊢
                  obtain ⟨n, rfl⟩ : ∃ n', n = n' + 1 := ⟨n - 1, by omega⟩
                  simp only [fl_Rm_rewrite_12, fb_Rm_rewrite_12]
                  rw [hsz, kg_pos (by omega), if_neg (by omega)]
                  unfold fb_Rm_rewrite_23
                  have hn2 : n21 l2 = ((min 21 l2.length : Nat) : Int) := rfl
                  rw [kg_pos (by omega)]
                  by_cases h21 : 20 < n21 l2
                  · rw [if_pos h21]
                    obtain ⟨F', w1, w2⟩ := h121 q (q : Int) F2 l2 hql y2
                    rw [hGv] at w1
                    have hlen : ∀ X : List Int, 20 < (l2 ++ X).length := fun X => by
                      rw [List.length_append]
                      omega
                    refine ⟨F', ?_, fun _ h => ?_⟩
                    · rw [w1]
                      unfold rwV
                      rw [if_pos rfl, if_pos (hlen _), if_pos rfl, ← hass, if_pos (hlen _)]
                    · refine absurd (Nat.lt_of_lt_of_le (hlen (bdA (mtA ks P (ln T r)) (fun p q => rpA ks e (slc (ln T r) p q) 40 b) true (ln T r) m (q + 1) q true).1) ?_) (Nat.lt_irrefl 20)
                      rw [hass]
                      exact h
                  · rw [if_neg h21]
                    obtain ⟨F3, v1, v2⟩ := ih n (q + 1) q true F2 l2 (by omega) (by omega) hql (by omega) (by omega) (fun _ => hGv) (fun h => nomatch h) y2
                    rw [hGv, hbt, hass] at v1
                    rw [hGv, hass] at v2
                    refine ⟨F3, ?_, fun _ h => v2 hbt h⟩
                    unfold fb_Rm_rewrite_30 fb_Rm_rewrite_35 fb_Rm_rewrite_40 fb_Rm_rewrite_47
                    rw [kg_pos (by omega), if_neg (by omega), kg_pos (by decide), if_neg (by decide), kbi_eq (R_match hP.sN hT.sN hpr rfl rfl hr (by omega)), hq]
                    unfold fb_Rm_rewrite_51 fb_Rm_rewrite_58 fb_Rm_rewrite_65 fb_Rm_rewrite_72 fb_Rm_rewrite_118
                    rw [kg_pos (by omega), if_neg (by omega), kg_pos (by omega), if_pos rfl, kg_pos (by omega), if_pos rfl]
                    exact v1
                · rw [show max (p + 1) q = q by omega] at hbt ⊢
                  obtain ⟨F3, v1, v2⟩ := ih n q q true F2 l2 (by omega) (by omega) hql (by omega) (by omega) (fun _ => hGv) (fun h => nomatch h) y2
                  rw [hGv, hbt, hass] at v1
                  rw [hGv, hass] at v2
                  exact ⟨F3, v1, fun _ h => v2 hbt h⟩
  obtain ⟨F', z1, z2⟩ := hloop ((ln T r).length + 1) 3000 0 0 false (σ 33 0) [] (by omega) (by omega) (by omega) (by omega) (by omega) (fun h => nomatch h) (fun _ => rfl) (fun i hi => absurd hi (by simp))
  rw [List.nil_append] at z1 z2
  refine ⟨F', ?_, z2⟩
  have hid : sN σ (σ 33 0) = σ := kupA_id _ _ _
  rw [hid] at z1
  exact z1
end
