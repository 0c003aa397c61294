/-! Pure: a line with its exchanges. -/
/-- the end of the replacement that begins at k -/
def skE (ks : List Int) : Nat → Nat → Nat
  | 0, k => k
  | m + 1, k => if ks.length ≤ k then k else if ks.getD k 0 = 47 then k else skE ks m (if ks.getD k 0 = 92 then k + 2 else k + 1)
theorem skE_ge (ks : List Int) : ∀ m k, k ≤ skE ks m k := by
  intro m
  induction m with
  | zero => intro k; exact Nat.le_refl k
  | succ m ih =>
    intro k
    unfold skE
    split
    · exact Nat.le_refl k
    · split
      · exact Nat.le_refl k
      · by_cases h : ks.getD k 0 = 92
        · rw [if_pos h]
          exact Nat.le_trans (by omega) (ih (k + 2))
        · rw [if_neg h]
          exact Nat.le_trans (by omega) (ih (k + 1))
/-- the replacement from k to e, M: what the pattern took -/
def rpA (ks : List Int) (e : Nat) (M : List Int) : Nat → Nat → List Int
  | 0, _ => []
  | m + 1, k => if e ≤ k then [] else if ks.getD k 0 = 38 then M ++ rpA ks e M m (k + 1) else if ks.getD k 0 = 92 then ks.getD (k + 1) 0 :: rpA ks e M m (k + 2) else ks.getD k 0 :: rpA ks e M m (k + 1)
theorem rpA_len {ks : List Int} {e : Nat} {M : List Int} (hM : M.length ≤ 20) : ∀ m k, (rpA ks e M m k).length ≤ 20 * m := by
  intro m
  induction m with
  | zero => intro k; exact Nat.le_refl _
  | succ m ih =>
    intro k
    have h1 := ih (k + 1)
    have h2 := ih (k + 2)
    unfold rpA
    split
    · exact Nat.zero_le _
    · split
      · rw [List.length_append]
        omega
      · split <;> rw [List.length_cons] <;> omega
/-- a line with its exchanges, from place p on; d: up to where it is taken over; f: is anything found -/
def bdA (mt : Nat → Int) (rp : Nat → Nat → List Int) (G : Bool) (L : List Int) : Nat → Nat → Nat → Bool → List Int × Bool
  | 0, _, d, f => (slc L d L.length, f)
  | m + 1, p, d, f => if L.length < p then (slc L d L.length, f) else if mt p < 0 ∨ f = true ∧ mt p = (d : Int) then bdA mt rp G L m (p + 1) d f else if G then (slc L d p ++ (rp p (mt p).toNat ++ (bdA mt rp G L m (max (p + 1) (mt p).toNat) (mt p).toNat true).1), true) else (slc L d p ++ (rp p (mt p).toNat ++ slc L (mt p).toNat L.length), true)
/-- the same for a pattern and a replacement -/
def lnB (ks : List Int) (P : Pt) (b e : Nat) (G : Bool) (L : List Int) : List Int × Bool := bdA (mtA ks P L) (fun p q => rpA ks e (slc L p q) 40 b) G L (L.length + 1) 0 0 false
/-- what is built so far -/
def Bu (F : Nat → Int) (l : List Int) : Prop := ∀ i, i < l.length → i < 20 → F i = l.getD i 0
def adF (F : Nat → Int) (n : Nat) (c : Int) : Nat → Int := if n < 20 then (fun j => if j = n then c else F j) else F
theorem Bu.add {F : Nat → Int} {l : List Int} (h : Bu F l) (c : Int) : Bu (adF F l.length c) (l ++ [c]) := by
  intro i h1 h2
  rw [List.length_append, List.length_singleton] at h1
  unfold adF
  rw [gd_snoc]
  by_cases h3 : i < l.length
  · rw [if_pos h3, ← h i h3 h2]
    split
    · dsimp only
      rw [if_neg (by omega)]
    · rfl
  · rw [if_neg h3, if_pos (by omega), if_pos (by omega), if_pos (by omega)]
theorem slc_nil {α : Type} (X : List α) (a : Nat) : slc X a a = [] := by
  unfold slc
  rw [Nat.sub_self, List.take_zero]
theorem slc_cons {X : List Int} {a b : Nat} (h : a < b) (hb : b ≤ X.length) : slc X a b = X.getD a 0 :: slc X (a + 1) b := by
  refine gd_ext 0 ?_ fun p hp => ?_
  · rw [slc_len hb, List.length_cons, slc_len hb]
    omega
  · rw [slc_len hb] at hp
    rw [slc_gd 0 hp]
    cases p with
    | zero => rfl
    | succ p =>
      rw [show (X.getD a 0 :: slc X (a + 1) b).getD (p + 1) 0 = (slc X (a + 1) b).getD p 0 from rfl, slc_gd 0 (by omega)]
      exact congrArg (fun z => X.getD z 0) (by omega)
def sB (σ : kS) (F : Nat → Int) (n : Int) : kS := kup (kupA σ 18 0 F) 7 0 6 n
section
variable {σ : kS} {F : Nat → Int} {n : Int}
theorem sB_k {k : Nat} (h7 : k ≠ 7) (h18 : k ≠ 18) : sB σ F n k = σ k := by
  unfold sB
  rw [kup_kk h7, kupA_kk h18]
theorem sB_7 {j : Nat} (hj : j ≠ 6) : sB σ F n 7 0 j = σ 7 0 j := by
  unfold sB
  rw [kup_j hj, kupA_k (by decide)]
theorem sB_6 : sB σ F n 7 0 6 = n := kup_self _ _ _ _ _
theorem sB_w {m : Int} : kup (sB σ F n) 7 0 6 m = sB σ F m := kup_kup _ _ _ _ _ _
theorem sB_a {i : Nat} {v m : Int} : kup (kup (sB σ F n) 18 0 i v) 7 0 6 m = sB σ (fun j => if j = i then v else F j) m := by
  unfold sB
  rw [← kup_kupA σ 18 0 i F v, kup_eqA _ 7 0 6, kup_eqA (kupA σ 18 0 F) 7 0 6 n, kup_eqA _ 18 0 i v, kup_eqA _ 7 0 6 m, kup_eqA _ 18 0 i v]
  funext a b c
  unfold kupA
  by_cases h1 : a = 7 ∧ b = 0
  · by_cases h3 : c = 6 <;> simp [h1, h3]
  · by_cases h2 : a = 18 ∧ b = 0
    · simp [h2]
    · simp [h1, h2]
theorem sB_fr : frX σ (sB σ F n) := fun a h7 _ _ h18 => sB_k h7 h18
theorem sB_sB {F' : Nat → Int} {n' : Int} : sB (sB σ F n) F' n' = sB σ F' n' := by
  unfold sB
  funext a b c
  unfold kup kupA
  by_cases h1 : a = 7 ∧ b = 0 ∧ c = 6
  · simp [h1]
  · by_cases h2 : a = 18 ∧ b = 0
    · simp [h2]
    · simp [h1, h2]
theorem PCt.sB {ks : List Int} {t : Nat} {P : Pt} (h : PCt ks σ t P) : PCt ks (sB σ F n) t P := by
  unfold PCt
  rw [sB_k (k := 8) (by decide) (by decide), sB_k (k := 17) (by decide) (by decide)]
  exact h
theorem CT.sB {t : Nat} {T : Tx} (h : CT σ t T) : CT (sB σ F n) t T := by
  unfold CT
  rw [sB_k (k := 10) (by decide) (by decide), sB_k (k := 11) (by decide) (by decide)]
  exact h
end
section
variable {ks : List Int} {σ : kS} {T : Tx} {r : Nat}
theorem C_apL {x2 : Int} {b : Nat} (hT : CT σ 0 T) (hr : r < T.length) (hb : b ≤ (ln T r).length) : ∀ (m n a : Nat) (F : Nat → Int) (l : List Int), a + m = b → m < n → Bu F l → l.length + m ≤ 100000 → ∃ F', fl_Cl_append_3 n x2 ((20 * r + b : Nat) : Int) ((20 * r + a : Nat) : Int) (sB σ F l.length) = some (none, sB σ F' (l ++ slc (ln T r) a b).length) ∧ Bu F' (l ++ slc (ln T r) a b) := by
  intro m
  induction m with
  | zero =>
    intro n a F l h1 h2 h3 h4
    obtain ⟨n, rfl⟩ : ∃ n', n = n' + 1 := ⟨n - 1, by omega⟩
    have hl := (hT.2 r hr).2.1
    have := hT.1
    obtain rfl : a = b := by omega
    rw [slc_nil, List.append_nil]
    refine ⟨F, ?_, h3⟩
    simp only [fl_Cl_append_3, fb_Cl_append_3]
    rw [kg_pos (by omega), if_pos (by omega)]
    rfl
  | succ m ih =>
    intro n a F l h1 h2 h3 h4
    obtain ⟨n, rfl⟩ : ∃ n', n = n' + 1 := ⟨n - 1, by omega⟩
    have hl := (hT.2 r hr).2.1
    have := hT.1
    obtain ⟨F', z1, z2⟩ := ih n (a + 1) (adF F l.length ((ln T r).getD a 0)) (l ++ [(ln T r).getD a 0]) (by omega) (by omega) (h3.add _) (by rw [List.length_append, List.length_singleton]; omega)
    rw [List.append_assoc, List.singleton_append, ← slc_cons (by omega) hb] at z1 z2
    refine ⟨F', ?_, z2⟩
    rw [← z1]
    simp only [fl_Cl_append_3, fb_Cl_append_3, fb_Cl_append_9, fb_Cl_append_18, fb_Cl_append_31]
    rw [kg_pos (by omega), if_neg (by omega), sB_6, kg_pos (by omega)]
    have e1 : (((l ++ [(ln T r).getD a 0]).length : Nat) : Int) = (l.length : Int) + 1 := by
      rw [List.length_append, List.length_singleton]
      omega
    have e2 : ((20 * r + a : Nat) : Int) + 1 = ((20 * r + (a + 1) : Nat) : Int) := by omega
    have e3 : sB σ F l.length 10 0 (Int.toNat ((20 * r + a : Nat) : Int)) = (ln T r).getD a 0 := by
      rw [sB_k (by decide) (by decide), Int.toNat_natCast]
      exact (hT.2 r hr).2.2 a (by omega)
    rw [e1, e2]
    by_cases hn : (20 : Int) ≤ l.length
    · rw [if_pos hn, sB_w]
      unfold adF
      rw [if_neg (by omega)]
    · rw [if_neg hn, kg_pos (by omega), e3, Int.toNat_natCast, kup_k (by decide), sB_6, sB_a]
      unfold adF
      rw [if_pos (by omega)]
theorem C_append {xa xb : Int} {a b : Nat} {F : Nat → Int} {l : List Int} (hxa : xa = ((20 * r + a : Nat) : Int)) (hxb : xb = ((20 * r + b : Nat) : Int)) (hT : CT σ 0 T) (hr : r < T.length) (hab : a ≤ b) (hb : b ≤ (ln T r).length) (hF : Bu F l) (hl : l.length ≤ 90000) : ∃ F', f_Cl_append xa xb (sB σ F l.length) = some (none, sB σ F' (l ++ slc (ln T r) a b).length) ∧ Bu F' (l ++ slc (ln T r) a b) := by
  subst hxa hxb
  have hl2 := (hT.2 r hr).2.1
  unfold f_Cl_append fb_Cl_append_0
  exact C_apL hT hr hb (b - a) 3000 a F l (by omega) (by omega) hF (by omega)
theorem C_append1 {k : Nat} {F : Nat → Int} {l : List Int} (h : kArr (σ 16 2) ks) (hl : ks.length ≤ 30) (hk : k < ks.length) (hF : Bu F l) (hn : l.length ≤ 90000) : f2_Cl_append (k : Int) ((k : Int) + 1) (sB σ F l.length) = some (none, sB σ (adF F l.length (ks.getD k 0)) (l ++ [ks.getD k 0]).length) := by
  have e1 : (((l ++ [ks.getD k 0]).length : Nat) : Int) = (l.length : Int) + 1 := by
    rw [List.length_append, List.length_singleton]
    omega
  have e3 : sB σ F l.length 16 2 (Int.toNat (k : Int)) = ks.getD k 0 := by
    rw [sB_k (by decide) (by decide), Int.toNat_natCast]
    exact h k hk
  have : ∀ n, fl2_Cl_append_3 (n + 2) (k : Int) ((k : Int) + 1) (k : Int) (sB σ F l.length) = some (none, sB σ (adF F l.length (ks.getD k 0)) (l ++ [ks.getD k 0]).length) := by
    intro n
    simp only [fl2_Cl_append_3, fb2_Cl_append_3, fb2_Cl_append_9, fb2_Cl_append_18, fb2_Cl_append_31, fb2_Cl_append_47]
    rw [kg_pos (by omega), if_neg (by omega), sB_6, kg_pos (by omega)]
    rw [e1]
    by_cases hn : (20 : Int) ≤ l.length
    · rw [if_pos hn, sB_w, kg_pos (by omega), if_pos (by omega)]
      unfold adF
      rw [if_neg (by omega)]
    · rw [if_neg hn, kg_pos (by omega), e3, Int.toNat_natCast, kup_k (by decide), sB_6, sB_a, kg_pos (by omega), if_pos (by omega)]
      unfold adF
      rw [if_pos (by omega)]
  exact this 2998
/-- the replacement, the class's side -/
theorem C_apNew {x1 x2 : Int} {p q e : Nat} (hx1 : x1 = ((20 * r + p : Nat) : Int)) (hx2 : x2 = ((20 * r + q : Nat) : Int)) (hT : CT σ 0 T) (hr : r < T.length) (hpq : p ≤ q) (hq : q ≤ (ln T r).length) (h7 : σ 7 0 7 = 1) (h17 : σ 7 0 17 = e) (ha : kArr (σ 16 2) ks) (hl : ks.length ≤ 30) (hks : ∀ c ∈ ks, 32 ≤ c ∧ c ≤ 126) (he : e < ks.length) : ∀ (m n k w : Nat) (F : Nat → Int) (l : List Int), skE ks w k = e → e ≤ k + m → m < n → Bu F l → l.length + 20 * m ≤ 90000 → ∃ F', fl_Cl_appendNew_5 n x1 x2 (k : Int) (sB σ F l.length) = some (none, sB σ F' (l ++ rpA ks e (slc (ln T r) p q) m k).length) ∧ Bu F' (l ++ rpA ks e (slc (ln T r) p q) m k) := by
  have hl2 := (hT.2 r hr).2.1
  have hsl : (slc (ln T r) p q).length ≤ 20 := by
    rw [slc_len hq]
    omega
  intro m
  induction m with
  | zero =>
    intro n k w F l hw h1 h2 h3 h4
    obtain ⟨n, rfl⟩ : ∃ n', n = n' + 1 := ⟨n - 1, by omega⟩
    have hk := skE_ge ks w k
    refine ⟨F, ?_, ?_⟩
    · simp only [fl_Cl_appendNew_5, fb_Cl_appendNew_5]
      rw [sB_7 (by decide), h17, kg_pos (by omega), if_pos (by omega)]
      unfold rpA
      rw [List.append_nil]
      rfl
    · unfold rpA
      rw [List.append_nil]
      exact h3
  | succ m ih =>
    intro n k w F l hw h1 h2 h3 h4
    obtain ⟨n, rfl⟩ : ∃ n', n = n' + 1 := ⟨n - 1, by omega⟩
    have hk := skE_ge ks w k
    have hr0 := gd_rng hks k
    simp only [fl_Cl_appendNew_5, fb_Cl_appendNew_5]
    unfold rpA
    rw [sB_7 (by decide), h17, kg_pos (by omega)]
    by_cases hz : e ≤ k
    · rw [if_pos (by omega), if_pos hz, List.append_nil]
      exact ⟨F, rfl, h3⟩
    · rw [if_neg (by omega), if_neg hz]
      unfold fb_Cl_appendNew_13
      have e16 : sB σ F l.length 16 2 (Int.toNat (k : Int)) = ks.getD k 0 := by
        rw [sB_k (by decide) (by decide), Int.toNat_natCast]
        exact ha k (by omega)
      -- the scan has gone on from k
      obtain ⟨w, rfl⟩ : ∃ w', w = w' + 1 := by
        cases w with
        | zero => exact absurd hw (by unfold skE; omega)
        | succ w => exact ⟨w, rfl⟩
      have hw' : ks.getD k 0 ≠ 47 ∧ skE ks w (if ks.getD k 0 = 92 then k + 2 else k + 1) = e := by
        unfold skE at hw
        rw [if_neg (by omega)] at hw
        by_cases h47 : ks.getD k 0 = 47
        · rw [if_pos h47] at hw
          omega
        · rw [if_neg h47] at hw
          exact ⟨h47, hw⟩
      rw [sB_7 (by decide), h7, e16, kg_pos ⟨rfl, by omega, by omega⟩]
      by_cases h38 : ks.getD k 0 = 38
      · rw [if_pos h38, if_pos h38]
        have hw2 := hw'.2
        rw [if_neg (by omega)] at hw2
        unfold fb_Cl_appendNew_24 fb_Cl_appendNew_37 fb_Cl_appendNew_76
        obtain ⟨F1, z1, z2⟩ := C_append (F := F) hx1 hx2 hT hr hpq hq h3 (by omega)
        rw [kbu_eq z1]
        obtain ⟨F2, y1, y2⟩ := ih n (k + 1) w F1 (l ++ slc (ln T r) p q) hw2 (by omega) (by omega) z2 (by rw [List.length_append]; omega)
        rw [List.append_assoc] at y1 y2
        exact ⟨F2, y1, y2⟩
      · rw [if_neg h38, if_neg h38]
        unfold fb_Cl_appendNew_40
        rw [sB_7 (by decide), h7, e16, kg_pos ⟨rfl, by omega, by omega⟩]
        have h64 : ∀ j : Nat, j < ks.length → ∀ w', skE ks w' (j + 1) = e → e ≤ j + 1 + m → ∃ F', fb_Cl_appendNew_64 (fl_Cl_appendNew_5 n) x1 x2 (j : Int) (sB σ F l.length) = some (none, sB σ F' (l ++ (ks.getD j 0 :: rpA ks e (slc (ln T r) p q) m (j + 1))).length) ∧ Bu F' (l ++ (ks.getD j 0 :: rpA ks e (slc (ln T r) p q) m (j + 1))) := by
          intro j hj w' hw3 hm3
          obtain ⟨F2, y1, y2⟩ := ih n (j + 1) w' (adF F l.length (ks.getD j 0)) (l ++ [ks.getD j 0]) hw3 hm3 (by omega) (h3.add _) (by rw [List.length_append, List.length_singleton]; omega)
          rw [List.append_assoc, List.singleton_append] at y1 y2
          refine ⟨F2, ?_, y2⟩
          unfold fb_Cl_appendNew_64 fb_Cl_appendNew_76
          rw [sB_7 (by decide), h7, kg_pos rfl, kbu_eq (C_append1 ha hl hj h3 (by omega))]
          exact y1
        by_cases h92 : ks.getD k 0 = 92
        · rw [if_pos h92, if_pos h92]
          have hw2 := hw'.2
          rw [if_pos h92] at hw2
          have hk2 := skE_ge ks w (k + 2)
          unfold fb_Cl_appendNew_51
          rw [sB_7 (by decide), h17, kg_pos (by omega), if_neg (by omega)]
          exact h64 (k + 1) (by omega) w hw2 (by omega)
        · rw [if_neg h92, if_neg h92]
          have hw2 := hw'.2
          rw [if_neg h92] at hw2
          exact h64 k (by omega) w hw2 (by omega)
set_option maxRecDepth 4000 in
/-- a line is built, the class's side -/
theorem C_build {P : Pt} {b e w : Nat} {G : Bool} {xr : Int} (hxr : xr = r) (hP : PCt ks σ 0 P) (hT : CT σ 0 T) (hc : σ 2 0 2 = T.length) (hpr : printable T) (hr : r < T.length) (h7 : σ 7 0 7 = 1) (h15 : σ 7 0 15 = b2 G) (h16 : σ 7 0 16 = b) (h17 : σ 7 0 17 = e) (ha : kArr (σ 16 2) ks) (hl : ks.length ≤ 30) (hks : ∀ c ∈ ks, 32 ≤ c ∧ c ≤ 126) (he : e < ks.length) (hw : skE ks w b = e) : ∃ F, f_Cl_build xr σ = some (some (b2 (lnB ks P b e G (ln T r)).2), sB σ F (lnB ks P b e G (ln T r)).1.length) ∧ Bu F (lnB ks P b e G (ln T r)).1 ∧ (lnB ks P b e G (ln T r)).1.length ≤ 90000 := by
  subst hxr
  have hl2 := (hT.2 r hr).2.1
  have hT1 := hT.1
  have hbe := skE_ge ks w b
  rw [hw] at hbe
  unfold f_Cl_build fb_Cl_build_0
  rw [kbi_eq (P_sizeOf hT hc (by omega)), szo_in hr]
  unfold fb_Cl_build_8
  -- the end
  have h144 : ∀ (d : Nat) (f : Bool) (x6 : Int) (F : Nat → Int) (l : List Int), d ≤ (ln T r).length → Bu F l → l.length ≤ 90000 → ∃ F', fb_Cl_build_144 (r : Int) ((ln T r).length : Int) ((r : Int) * 20) (d : Int) (b2 f) x6 (sB σ F l.length) = some (some (b2 f), sB σ F' (l ++ slc (ln T r) d (ln T r).length).length) ∧ Bu F' (l ++ slc (ln T r) d (ln T r).length) := by
    intro d f x6 F l hd hF hn
    obtain ⟨F', z1, z2⟩ := C_append (xa := (r : Int) * 20 + d) (xb := (r : Int) * 20 + ((ln T r).length : Int)) (a := d) (b := (ln T r).length) (by omega) (by omega) hT hr hd (Nat.le_refl _) hF hn
    refine ⟨F', ?_, z2⟩
    unfold fb_Cl_build_144 fb_Cl_build_162
    rw [kbu_eq z1, kg_pos (b2_01 f)]
  have hloop : ∀ (m n p d : Nat) (f : Bool) (F : Nat → Int) (l : List Int), (ln T r).length + 1 ≤ p + m → d ≤ p → d ≤ (ln T r).length → p ≤ 100 → m < n → m ≤ 30 → Bu F l → l.length + 900 * m ≤ 80000 → ∃ F', fl_Cl_build_28 n (r : Int) ((ln T r).length : Int) ((r : Int) * 20) (d : Int) (b2 f) (p : Int) (sB σ F l.length) = some (some (b2 (bdA (mtA ks P (ln T r)) (fun p q => rpA ks e (slc (ln T r) p q) 40 b) G (ln T r) m p d f).2), sB σ F' (l ++ (bdA (mtA ks P (ln T r)) (fun p q => rpA ks e (slc (ln T r) p q) 40 b) G (ln T r) m p d f).1).length) ∧ Bu F' (l ++ (bdA (mtA ks P (ln T r)) (fun p q => rpA ks e (slc (ln T r) p q) 40 b) G (ln T r) m p d f).1) ∧ (l ++ (bdA (mtA ks P (ln T r)) (fun p q => rpA ks e (slc (ln T r) p q) 40 b) G (ln T r) m p d f).1).length ≤ 90000 := by
    intro m
    induction m with
    | zero =>
      intro n p d f F l h1 h2 h3 h4 h5 h6 h8 h9
      obtain ⟨n, rfl⟩ : ∃ n', n = n' + 1 := ⟨n - 1, by omega⟩
      obtain ⟨F', z1, z2⟩ := h144 d f (p : Int) F l h3 h8 (by omega)
      refine ⟨F', ?_, z2, ?_⟩
      · simp only [fl_Cl_build_28, fb_Cl_build_28]
        rw [kg_pos (by omega), if_pos (by omega)]
        exact z1
      · show (l ++ slc (ln T r) d (ln T r).length).length ≤ 90000
        rw [List.length_append, slc_len (Nat.le_refl _)]
        omega
    | succ m ih =>
      intro n p d f F l h1 h2 h3 h4 h5 h6 h8 h9
      obtain ⟨n, rfl⟩ : ∃ n', n = n' + 1 := ⟨n - 1, by omega⟩
      simp only [fl_Cl_build_28, fb_Cl_build_28]
      unfold bdA
      rw [kg_pos (by omega)]
      by_cases hp : (ln T r).length < p
      · rw [if_pos (by omega), if_pos hp]
        obtain ⟨F', z1, z2⟩ := h144 d f (p : Int) F l h3 h8 (by omega)
        refine ⟨F', z1, z2, ?_⟩
        show (l ++ slc (ln T r) d (ln T r).length).length ≤ 90000
        rw [List.length_append, slc_len (Nat.le_refl _)]
        omega
      · rw [if_neg (by omega), if_neg hp]
        unfold fb_Cl_build_34
        have hmr := mtA_rng ks P (ln T r) p
        rw [kbi_eq (C_endOf hP.sB hT.sB (by rw [sB_k (by decide) (by decide)]; exact hc) hpr hr (by omega))]
        have hgo := ih n (p + 1) d f F l (by omega) (by omega) h3 (by omega) (by omega) (by omega) h8 (by omega)
        have e138 : ∀ x7 x8 : Int, fb_Cl_build_138 (fl_Cl_build_28 n) (r : Int) ((ln T r).length : Int) ((r : Int) * 20) (d : Int) (b2 f) (p : Int) x7 x8 (sB σ F l.length) = fl_Cl_build_28 n (r : Int) ((ln T r).length : Int) ((r : Int) * 20) (d : Int) (b2 f) ((p + 1 : Nat) : Int) (sB σ F l.length) := fun _ _ => rfl
        unfold fb_Cl_build_48
        have hf01 := b2_01 f
        rw [kg_pos (show -2147483648 ≤ b2 f ∧ b2 f < 2147483648 by omega)]
        -- is it an empty match at the end of the one before
        have e67 : (if b2 f = 0 then fb_Cl_build_66 (fl_Cl_build_28 n) (r : Int) ((ln T r).length : Int) ((r : Int) * 20) (d : Int) (b2 f) (p : Int) (mtA ks P (ln T r) p) (sB σ F l.length) else fb_Cl_build_55 (fl_Cl_build_28 n) (r : Int) ((ln T r).length : Int) ((r : Int) * 20) (d : Int) (b2 f) (p : Int) (mtA ks P (ln T r) p) (sB σ F l.length)) = fb_Cl_build_67 (fl_Cl_build_28 n) (r : Int) ((ln T r).length : Int) ((r : Int) * 20) (d : Int) (b2 f) (p : Int) (mtA ks P (ln T r) p) (if f = true ∧ mtA ks P (ln T r) p = (d : Int) then 1 else 0) (sB σ F l.length) := by
          cases f with
          | false =>
            rw [if_pos (show b2 false = 0 from rfl), if_neg (fun h => Bool.noConfusion h.1)]
            rfl
          | true =>
            rw [if_neg (show ¬ b2 true = 0 by decide)]
            unfold fb_Cl_build_55 fb_Cl_build_62 fb_Cl_build_66
            rw [kg_pos (by omega)]
            by_cases hd : mtA ks P (ln T r) p = (d : Int)
            · rw [if_pos hd, if_pos ⟨rfl, hd⟩]
            · rw [if_neg hd, if_neg (fun h => hd h.2)]
        rw [e67]
        unfold fb_Cl_build_67
        rw [kg_pos (by omega)]
        by_cases hm0 : mtA ks P (ln T r) p < 0
        · rw [if_pos hm0, if_pos (show mtA ks P (ln T r) p < 0 ∨ f = true ∧ mtA ks P (ln T r) p = (d : Int) from .inl hm0), e138]
          exact hgo
        · rw [if_neg hm0]
          unfold fb_Cl_build_74
          by_cases hd : f = true ∧ mtA ks P (ln T r) p = (d : Int)
          · rw [if_pos (c := f = true ∧ mtA ks P (ln T r) p = (d : Int)) hd, kg_pos (by decide), if_neg (by decide), if_pos (.inr hd), e138]
            exact hgo
          · rw [if_neg (c := f = true ∧ mtA ks P (ln T r) p = (d : Int)) hd, kg_pos (by decide), if_pos rfl, if_neg (fun h => h.elim hm0 hd)]
            -- the match is taken
            obtain ⟨q, hq⟩ : ∃ q : Nat, mtA ks P (ln T r) p = (q : Int) := ⟨(mtA ks P (ln T r) p).toNat, by omega⟩
            rw [hq] at hmr ⊢
            rw [Int.toNat_natCast]
            have hpq : p ≤ q := by omega
            have hql : q ≤ (ln T r).length := by omega
            obtain ⟨F1, z1, z2⟩ := C_append (F := F) (xa := (r : Int) * 20 + d) (xb := (r : Int) * 20 + p) (a := d) (b := p) (by omega) (by omega) hT hr h2 (by omega) h8 (by omega)
            have hA3 : l.length + 820 ≤ 90000 := by omega
            have hA4 : l.length + 820 + 900 * m ≤ 80000 := by omega
            have hA6 : l.length + 840 ≤ 90000 := by omega
            have hA1 : l.length + 20 + 20 * 40 ≤ 90000 := Nat.le_trans (Nat.le_of_eq (Nat.add_assoc _ _ _)) hA3
            have hA2 : l.length + 20 + 20 * 40 ≤ l.length + 820 := Nat.le_of_eq (Nat.add_assoc _ _ _)
            have hA5 : l.length + 820 + 20 ≤ 90000 := Nat.le_trans (Nat.le_of_eq (Nat.add_assoc _ _ _)) hA6
            have hb40 : e ≤ b + 40 := by omega
            have hl1 : (l ++ slc (ln T r) d p).length ≤ l.length + 20 := by
              rw [List.length_append, slc_len (by omega)]
              omega
            have hq1 : (l ++ slc (ln T r) d p).length + 20 * 40 ≤ 90000 := Nat.le_trans (Nat.add_le_add_right hl1 _) hA1
            obtain ⟨F2, y1, y2⟩ := C_apNew (x1 := (r : Int) * 20 + p) (x2 := (r : Int) * 20 + q) (p := p) (q := q) (e := e) (by omega) (by omega) hT hr hpq hql h7 h17 ha hl hks he 40 3000 b w F1 (l ++ slc (ln T r) d p) hw hb40 (by decide) z2 hq1
            have hl3 : ((l ++ slc (ln T r) d p) ++ rpA ks e (slc (ln T r) p q) 40 b).length ≤ l.length + 820 := by
              rw [List.length_append]
              exact Nat.le_trans (Nat.add_le_add hl1 (rpA_len (by rw [slc_len hql]; omega) 40 b)) hA2
            unfold fb_Cl_build_79 fb_Cl_build_98
            rw [kbu_eq z1]
            have e98 : f_Cl_appendNew ((r : Int) * 20 + p) ((r : Int) * 20 + q) (sB σ F1 (l ++ slc (ln T r) d p).length) = some (none, sB σ F2 ((l ++ slc (ln T r) d p) ++ rpA ks e (slc (ln T r) p q) 40 b).length) := by
              unfold f_Cl_appendNew fb_Cl_appendNew_0
              rw [sB_7 (by decide), h16]
              exact y1
            rw [kbu_eq e98]
            unfold fb_Cl_build_110
            have hG01 := b2_01 G
            rw [sB_7 (by decide), h15, kg_pos (by omega)]
            have hass : ∀ X, ((l ++ slc (ln T r) d p) ++ rpA ks e (slc (ln T r) p q) 40 b) ++ X = l ++ (slc (ln T r) d p ++ (rpA ks e (slc (ln T r) p q) 40 b ++ X)) := fun X => by rw [List.append_assoc, List.append_assoc]
            cases G with
            | false =>
              rw [if_pos (show b2 false = 0 from rfl), if_neg Bool.false_ne_true]
              obtain ⟨F3, v1, v2⟩ := h144 q true (p : Int) F2 ((l ++ slc (ln T r) d p) ++ rpA ks e (slc (ln T r) p q) 40 b) hql y2 (Nat.le_trans hl3 hA3)
              rw [hass] at v1 v2
              refine ⟨F3, v1, v2, ?_⟩
              show (l ++ (slc (ln T r) d p ++ (rpA ks e (slc (ln T r) p q) 40 b ++ slc (ln T r) q (ln T r).length))).length ≤ 90000
              rw [← hass, List.length_append, slc_len (Nat.le_refl _)]
              exact Nat.le_trans (Nat.add_le_add hl3 (Nat.le_trans (Nat.sub_le _ _) hl2)) hA5
            | true =>
              rw [if_neg (show ¬ b2 true = 0 by decide), if_pos rfl]
              unfold fb_Cl_build_127 fb_Cl_build_138
              rw [kg_pos (by omega), show max (p : Int) ((q : Int) - 1) + 1 = ((max (p + 1) q : Nat) : Int) by omega]
              obtain ⟨F3, v1, v2, v3⟩ := ih n (max (p + 1) q) q true F2 ((l ++ slc (ln T r) d p) ++ rpA ks e (slc (ln T r) p q) 40 b) (by omega) (by omega) hql (by omega) (by omega) (by omega) y2 (Nat.le_trans (Nat.add_le_add_right hl3 _) hA4)
              rw [hass] at v1 v2 v3
              have e2t : ∀ m p d, (bdA (mtA ks P (ln T r)) (fun p q => rpA ks e (slc (ln T r) p q) 40 b) true (ln T r) m p d true).2 = true := by
                intro m
                induction m with
                | zero => intro p d; rfl
                | succ m ihm =>
                  intro p d
                  unfold bdA
                  split
                  · rfl
                  · split
                    · exact ihm _ _
                    · split <;> rfl
              rw [e2t] at v1
              exact ⟨F3, v1, v2, v3⟩
  have h0 : kup σ 7 0 6 0 = sB σ (σ 18 0) (([] : List Int).length : Int) := by
    unfold sB
    rw [kupA_id]
    rfl
  rw [h0]
  obtain ⟨F', z1, z2, z3⟩ := hloop ((ln T r).length + 1) 3000 0 0 false (σ 18 0) [] (by omega) (by omega) (by omega) (by omega) (by omega) (by omega) (fun i hi => absurd hi (by simp)) (by show 0 + 900 * ((ln T r).length + 1) ≤ 80000; omega)
  rw [List.nil_append] at z1 z2 z3
  exact ⟨F', z1, z2, z3⟩
end
