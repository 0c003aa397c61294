/-! Pure: a job for the disk. -/
def joA (D : kDk) (fs : Int) (T : Tx) (a b : Nat) : kDk := (D.1, D.2.1, D.2.2 ++ [(fs, (b : Int) - a + 2, slc T a (b + 1))])
theorem gd_job (D : kDk) (j : Int × Int × Tx) (k : Nat) : (D.2.2 ++ [j]).getD k (0, 0, []) = if k < D.2.2.length then jb D k else if k = D.2.2.length then j else (0, 0, []) := gd_snoc _ _ _ _
theorem C_job {g : Int} {x : Tc} {o : Option Tc} {bb : Int × Tx} {q : Qd} {m : Md} {l : Int × List Int} {D : kDk} {σ : kS} {fs : Int} {a b : Nat} {xa xb : Int} (hxa : xa = a) (hxb : xb = b) (c : CE g (x, o, bb, q, m, l) σ) (d : CD D σ) (hD : D.2.2.length ≤ 3) (hfs : fs = 0 ∨ fs = 1) (hab : a ≤ b) (hb : b < x.1.length) (hx : x.1.length ≤ 10) : ∃ σ', f_Di_addJob fs xa xb 0 σ = some (some (if D.2.2.length < 3 then 1 else 0), σ') ∧ CE g (x, o, bb, q, m, l) σ' ∧ CD (if D.2.2.length < 3 then joA D fs x.1 a b else D) σ' ∧ ∀ k, k = 4 ∨ k = 9 ∨ k = 15 ∨ 20 ≤ k → σ' k = σ k := by
  subst hxa hxb
  obtain ⟨d1, d2, d3, w, hw, d4, d5⟩ := d
  unfold f_Di_addJob fb_Di_addJob_0
  rw [d3, kg_pos (by omega)]
  by_cases h3 : D.2.2.length < 3
  · rw [if_pos (by omega), if_pos h3, if_pos h3]
    have hmod : kmod (σ 3 0 5 + σ 3 0 6) 3 = (((w + D.2.2.length) % 3 : Nat) : Int) := by
      rw [d3, d4, k_mod (by omega) (by decide), Int.natCast_emod, Int.natCast_add]
      rfl
    have hlt : (w + D.2.2.length) % 3 < 3 := Nat.mod_lt _ (by decide)
    unfold fb_Di_addJob_10
    rw [hmod, Int.toNat_natCast, kg_pos (by omega)]
    obtain ⟨F, G, e, hT⟩ := C_copyLines (σ := σ) (t := 6 + (w + D.2.2.length) % 3) (u := 0) (T := x.1) (a := a) (b := b) c.1.1 c.1.2.1 (by omega) hab hb
    rw [kbu_eq e]
    unfold fb_Di_addJob_37
    rw [kg_pos ⟨by omega, hfs⟩, Int.toNat_natCast]
    have hkk : ∀ j, j < D.2.2.length → (w + j) % 3 ≠ (w + D.2.2.length) % 3 := fun j hj => by omega
    generalize hJ : (w + D.2.2.length) % 3 = J at hlt hmod e hT hkk
    -- the state
    have s3 : kup (kup (sT σ (6 + J) F G (slc x.1 a (b + 1)).length) 13 0 J fs) 14 0 J ((b : Int) - a + 2) 3 0 6 = D.2.2.length := d3
    rw [s3]
    refine ⟨_, rfl, ?_, ?_, ?_⟩
    · have q2 : ∀ t, t < 6 → ∀ v, kup (kup (kup (sT σ (6 + J) F G (slc x.1 a (b + 1)).length) 13 0 J fs) 14 0 J ((b : Int) - a + 2)) 3 0 6 v 2 t = σ 2 t := fun t ht v => by
        rw [kup_ii (by omega), kup_ii (by omega), kup_ii (by omega)]
        unfold sT
        rw [kup_ii (by omega), kupA_ii (by omega), kupA_ii (by omega)]
      have q10 : ∀ t, t < 6 → ∀ v, kup (kup (kup (sT σ (6 + J) F G (slc x.1 a (b + 1)).length) 13 0 J fs) 14 0 J ((b : Int) - a + 2)) 3 0 6 v 10 t = σ 10 t := fun t ht v => by
        rw [kup_ii (by omega), kup_ii (by omega), kup_ii (by omega)]
        unfold sT
        rw [kup_ii (by omega), kupA_ii (by omega), kupA_ii (by omega)]
      have q11 : ∀ t, t < 6 → ∀ v, kup (kup (kup (sT σ (6 + J) F G (slc x.1 a (b + 1)).length) 13 0 J fs) 14 0 J ((b : Int) - a + 2)) 3 0 6 v 11 t = σ 11 t := fun t ht v => by
        rw [kup_ii (by omega), kup_ii (by omega), kup_ii (by omega)]
        unfold sT
        rw [kup_ii (by omega), kupA_ii (by omega), kupA_ii (by omega)]
      obtain ⟨c1, c2, c3, c4, c5, c6, c7⟩ := c
      refine ⟨?_, ?_, ?_, c4, c5, c6, c7⟩
      · unfold CX CT
        rw [q2 0 (by decide), q10 0 (by decide), q11 0 (by decide)]
        exact c1
      · cases o with
        | none => exact c2
        | some y =>
          refine ⟨c2.1, ?_⟩
          unfold CX CT
          rw [q2 1 (by decide), q10 1 (by decide), q11 1 (by decide)]
          exact c2.2
      · unfold CB CT
        rw [q2 3 (by decide), q10 3 (by decide), q11 3 (by decide)]
        exact c3
    · have z : ∀ t, t ≠ 6 + J → ∀ v, kup (kup (kup (sT σ (6 + J) F G (slc x.1 a (b + 1)).length) 13 0 J fs) 14 0 J ((b : Int) - a + 2)) 3 0 6 v 2 t = σ 2 t ∧ kup (kup (kup (sT σ (6 + J) F G (slc x.1 a (b + 1)).length) 13 0 J fs) 14 0 J ((b : Int) - a + 2)) 3 0 6 v 10 t = σ 10 t ∧ kup (kup (kup (sT σ (6 + J) F G (slc x.1 a (b + 1)).length) 13 0 J fs) 14 0 J ((b : Int) - a + 2)) 3 0 6 v 11 t = σ 11 t := fun t ht v => by
        unfold sT
        refine ⟨?_, ?_, ?_⟩
        · rw [kup_ii (by omega), kup_ii (by omega), kup_ii (by omega), kup_ii (by omega), kupA_ii (by omega), kupA_ii (by omega)]
        · rw [kup_ii (by omega), kup_ii (by omega), kup_ii (by omega), kup_ii (by omega), kupA_ii (by omega), kupA_ii (by omega)]
        · rw [kup_ii (by omega), kup_ii (by omega), kup_ii (by omega), kup_ii (by omega), kupA_ii (by omega), kupA_ii (by omega)]
      have zT : ∀ t U v, t ≠ 6 + J → CT σ t U → CT (kup (kup (kup (sT σ (6 + J) F G (slc x.1 a (b + 1)).length) 13 0 J fs) 14 0 J ((b : Int) - a + 2)) 3 0 6 v) t U := fun t U v ht h => by
        unfold CT
        rw [(z t ht v).2.1, (z t ht v).2.2]
        exact h
      refine ⟨⟨zT 4 _ _ (by omega) d1.1, by rw [(z 4 (by omega) _).1]; exact d1.2⟩, ⟨zT 5 _ _ (by omega) d2.1, by rw [(z 5 (by omega) _).1]; exact d2.2⟩, ?_, w, hw, ?_, fun k hk => ?_⟩
      · rw [kup_self]
        show (D.2.2.length : Int) + 1 = ((D.2.2 ++ [_]).length : Nat)
        rw [List.length_append, List.length_singleton]
        rfl
      · rw [kup_j (by decide), kup_k (by decide), kup_k (by decide)]
        exact d4
      · have hk' : k < D.2.2.length + 1 := by
          have : k < (D.2.2 ++ [(fs, (b : Int) - a + 2, slc x.1 a (b + 1))]).length := hk
          rw [List.length_append, List.length_singleton] at this
          exact this
        have hjb : jb (joA D fs x.1 a b) k = if k < D.2.2.length then jb D k else if k = D.2.2.length then (fs, (b : Int) - a + 2, slc x.1 a (b + 1)) else (0, 0, []) := gd_job D _ k
        rw [hjb]
        by_cases z1 : k < D.2.2.length
        · rw [if_pos z1]
          obtain ⟨e1, e2, e3, e4⟩ := d5 k z1
          have hne := hkk k z1
          refine ⟨?_, ?_, zT _ _ _ (by omega) e3, by rw [(z _ (by omega) _).1]; exact e4⟩
          · rw [kup_k (by decide), kup_k (by decide), kup_j hne]
            exact e1
          · rw [kup_k (by decide), kup_j hne, kup_k (by decide)]
            exact e2
        · have z2 : k = D.2.2.length := by omega
          rw [if_neg z1, if_pos z2, z2, hJ]
          refine ⟨?_, ?_, ?_, ?_⟩
          · rw [kup_k (by decide), kup_k (by decide), kup_self]
          · rw [kup_k (by decide), kup_self]
          · unfold CT sT
            rw [kup_ii (by omega), kup_ii (by omega), kup_ii (by omega), kup_ii (by omega), kupA_ii (by omega), kupA_f, if_pos ⟨rfl, rfl⟩, kup_ii (by omega), kup_ii (by omega), kup_ii (by omega), kup_ii (by omega), kupA_f, if_pos ⟨rfl, rfl⟩]
            exact hT
          · rw [kup_k (by decide), kup_k (by decide), kup_k (by decide)]
            exact kup_self _ _ _ _ _
    · intro k hk
      rw [kup_kk (by omega), kup_kk (by omega), kup_kk (by omega)]
      unfold sT
      rw [kup_kk (by omega), kupA_kk (by omega), kupA_kk (by omega)]
  · rw [if_neg (by omega), if_neg h3, if_neg h3]
    exact ⟨σ, rfl, c, ⟨d1, d2, d3, w, hw, d4, d5⟩, fun _ _ => rfl⟩
theorem L_jobR {σ : kS} {a b w : Nat} {x1 : Int} (hb : b < 10) (hw : w ≤ 2) (h34 : σ 9 0 34 = w) : ∀ (m n k : Nat) (F G : Nat → Int), k + m = b + 1 → a ≤ k → m < n → fl_Rm_job_13 n x1 (a : Int) (b : Int) (k : Int) (sM σ F G) = fb_Rm_job_43 x1 (a : Int) (b : Int) ((b : Int) + 1) (sM σ (fun j => if 1400 + 200 * w + 20 * (k - a) ≤ j ∧ j < 1400 + 200 * w + 20 * (b + 1 - a) then F (20 * a + (j - (1400 + 200 * w))) else F j) (fun i => if 70 + 10 * w + (k - a) ≤ i ∧ i < 70 + 10 * w + (b + 1 - a) then G (a + (i - (70 + 10 * w))) else G i)) := by
  intro m
  induction m with
  | zero =>
    intro n k F G h1 h2 h3
    obtain ⟨n, rfl⟩ : ∃ n', n = n' + 1 := ⟨n - 1, by omega⟩
    simp only [fl_Rm_job_13, fb_Rm_job_13]
    rw [kg_pos (by omega), if_pos (by omega)]
    have e1 : (fun j => if 1400 + 200 * w + 20 * (k - a) ≤ j ∧ j < 1400 + 200 * w + 20 * (b + 1 - a) then F (20 * a + (j - (1400 + 200 * w))) else F j) = F := by
      funext j
      rw [if_neg (by omega)]
    have e2 : (fun i => if 70 + 10 * w + (k - a) ≤ i ∧ i < 70 + 10 * w + (b + 1 - a) then G (a + (i - (70 + 10 * w))) else G i) = G := by
      funext i
      rw [if_neg (by omega)]
    rw [e1, e2, show (k : Int) = (b : Int) + 1 by omega]
  | succ m ih =>
    intro n k F G h1 h2 h3
    obtain ⟨n, rfl⟩ : ∃ n', n = n' + 1 := ⟨n - 1, by omega⟩
    have h34' : sM σ F G 9 0 34 = w := by
      rw [sM_o (by decide) (by decide)]
      exact h34
    simp only [fl_Rm_job_13, fb_Rm_job_13, fb_Rm_job_19, fb_Rm_job_37]
    rw [kg_pos (by omega), if_neg (by omega), h34', kbu_eq (R_copyLine (xa := 0) (a := 0) (p := k) (b := 7 + w) (q := k - a) F G rfl rfl (by omega) (by omega) (by omega) (by omega) (by omega))]
    have e := ih n (k + 1) (cpF F (10 * 0 + k) (10 * (7 + w) + (k - a)) 0) (cpG G (10 * 0 + k) (10 * (7 + w) + (k - a))) (by omega) (by omega) (by omega)
    rw [show ((k : Int) + 1) = ((k + 1 : Nat) : Int) by omega, e]
    refine congrArg (fb_Rm_job_43 x1 (a : Int) (b : Int) ((b : Int) + 1)) ?_
    have e1 : (fun j => if 1400 + 200 * w + 20 * (k + 1 - a) ≤ j ∧ j < 1400 + 200 * w + 20 * (b + 1 - a) then cpF F (10 * 0 + k) (10 * (7 + w) + (k - a)) 0 (20 * a + (j - (1400 + 200 * w))) else cpF F (10 * 0 + k) (10 * (7 + w) + (k - a)) 0 j) = (fun j => if 1400 + 200 * w + 20 * (k - a) ≤ j ∧ j < 1400 + 200 * w + 20 * (b + 1 - a) then F (20 * a + (j - (1400 + 200 * w))) else F j) := by
      funext j
      unfold cpF
      by_cases h : 1400 + 200 * w + 20 * (k - a) ≤ j ∧ j < 1400 + 200 * w + 20 * (b + 1 - a)
      · rw [if_pos h]
        by_cases h4 : j < 1400 + 200 * w + 20 * (k - a) + 20
        · rw [if_neg (by omega), if_pos (by omega)]
          exact congrArg F (by omega)
        · rw [if_pos (by omega), if_neg (by omega)]
      · rw [if_neg h, if_neg (by omega), if_neg (by omega)]
    have e2 : (fun i => if 70 + 10 * w + (k + 1 - a) ≤ i ∧ i < 70 + 10 * w + (b + 1 - a) then cpG G (10 * 0 + k) (10 * (7 + w) + (k - a)) (a + (i - (70 + 10 * w))) else cpG G (10 * 0 + k) (10 * (7 + w) + (k - a)) i) = (fun i => if 70 + 10 * w + (k - a) ≤ i ∧ i < 70 + 10 * w + (b + 1 - a) then G (a + (i - (70 + 10 * w))) else G i) := by
      funext i
      unfold cpG
      by_cases h : 70 + 10 * w + (k - a) ≤ i ∧ i < 70 + 10 * w + (b + 1 - a)
      · rw [if_pos h]
        by_cases h4 : i = 10 * (7 + w) + (k - a)
        · rw [if_neg (by omega), if_pos h4]
          exact congrArg G (by omega)
        · rw [if_pos (by omega), if_neg (by omega)]
      · rw [if_neg h, if_neg (by omega), if_neg (by omega)]
    rw [e1, e2]
theorem R_job {g : Int} {B : Option Tc} {x : Tc} {o : Option Tc} {bb : Int × Tx} {q : Qd} {m : Md} {l : Int × List Int} {D : kDk} {σ : kS} {fs : Int} {a b : Nat} {xw xa xb : Int} (hxw : xw = 5 + fs) (hxa : xa = a) (hxb : xb = b) (c : RE2 g B (x, o, bb, q, m, l) σ) (d : RD D σ) (hD : D.2.2.length ≤ 3) (hab : a ≤ b) (hb : b < x.1.length) (hx : x.1.length ≤ 10) : ∃ σ', f_Rm_job xw xa xb σ = some (some (if D.2.2.length < 3 then 1 else 0), σ') ∧ RE2 g B (x, o, bb, q, m, l) σ' ∧ RD (if D.2.2.length < 3 then joA D fs x.1 a b else D) σ' ∧ (∀ k, k < 20 → k ≠ 9 → σ' k = σ k) ∧ (∀ c, c ≠ 34 → σ' 9 0 c = σ 9 0 c) ∧ σ' 36 = σ 36 := by
  subst hxa hxb hxw
  obtain ⟨d1, d2, d3, d4⟩ := d
  unfold f_Rm_job fb_Rm_job_0
  rw [d3, kg_pos (by omega)]
  by_cases h3 : D.2.2.length < 3
  · rw [if_neg (by omega), if_pos h3, if_pos h3]
    unfold fb_Rm_job_10
    have e := L_jobR (σ := σ) (a := a) (b := b) (w := D.2.2.length) (x1 := 5 + fs) (by omega) (by omega) d3 (b + 1 - a) 3000 a (σ 20 0) (σ 21 0) (by omega) (by omega) (by omega)
    rw [sM_id] at e
    rw [e]
    have hX : RT σ 0 x.1 := c.1.1.1
    -- the text is copied
    have m20 : ∀ j, j < 1400 + 200 * D.2.2.length → sM σ (fun j => if 1400 + 200 * D.2.2.length + 20 * (a - a) ≤ j ∧ j < 1400 + 200 * D.2.2.length + 20 * (b + 1 - a) then σ 20 0 (20 * a + (j - (1400 + 200 * D.2.2.length))) else σ 20 0 j) (fun i => if 70 + 10 * D.2.2.length + (a - a) ≤ i ∧ i < 70 + 10 * D.2.2.length + (b + 1 - a) then σ 21 0 (a + (i - (70 + 10 * D.2.2.length))) else σ 21 0 i) 20 0 j = σ 20 0 j := fun j hj => by
      rw [sM_20]
      exact if_neg (by omega)
    have m21 : ∀ j, j < 70 + 10 * D.2.2.length → sM σ (fun j => if 1400 + 200 * D.2.2.length + 20 * (a - a) ≤ j ∧ j < 1400 + 200 * D.2.2.length + 20 * (b + 1 - a) then σ 20 0 (20 * a + (j - (1400 + 200 * D.2.2.length))) else σ 20 0 j) (fun i => if 70 + 10 * D.2.2.length + (a - a) ≤ i ∧ i < 70 + 10 * D.2.2.length + (b + 1 - a) then σ 21 0 (a + (i - (70 + 10 * D.2.2.length))) else σ 21 0 i) 21 0 j = σ 21 0 j := fun j hj => by
      rw [sM_21]
      exact if_neg (by omega)
    have mT : RT (sM σ (fun j => if 1400 + 200 * D.2.2.length + 20 * (a - a) ≤ j ∧ j < 1400 + 200 * D.2.2.length + 20 * (b + 1 - a) then σ 20 0 (20 * a + (j - (1400 + 200 * D.2.2.length))) else σ 20 0 j) (fun i => if 70 + 10 * D.2.2.length + (a - a) ≤ i ∧ i < 70 + 10 * D.2.2.length + (b + 1 - a) then σ 21 0 (a + (i - (70 + 10 * D.2.2.length))) else σ 21 0 i)) (7 + D.2.2.length) (slc x.1 a (b + 1)) := by
      have hs := slc_len (X := x.1) (a := a) (b := b + 1) (by omega)
      unfold RT
      rw [sM_20, sM_21]
      refine ⟨by omega, fun p hp => ?_⟩
      have hg : ln (slc x.1 a (b + 1)) p = ln x.1 (a + p) := slc_gd [] (by omega)
      obtain ⟨t1, t2, t3⟩ := hX.2 (a + p) (by omega)
      rw [hg]
      refine ⟨?_, t2, fun c hc => ?_⟩
      · dsimp only
        rw [if_pos (by omega), ← t1]
        exact congrArg (σ 21 0) (by omega)
      · dsimp only
        rw [if_pos (by omega), ← t3 c hc]
        exact congrArg (σ 20 0) (by omega)
    have mo : ∀ k, k ≠ 20 → k ≠ 21 → sM σ (fun j => if 1400 + 200 * D.2.2.length + 20 * (a - a) ≤ j ∧ j < 1400 + 200 * D.2.2.length + 20 * (b + 1 - a) then σ 20 0 (20 * a + (j - (1400 + 200 * D.2.2.length))) else σ 20 0 j) (fun i => if 70 + 10 * D.2.2.length + (a - a) ≤ i ∧ i < 70 + 10 * D.2.2.length + (b + 1 - a) then σ 21 0 (a + (i - (70 + 10 * D.2.2.length))) else σ 21 0 i) k = σ k := fun k h1 h2 => by
      unfold sM
      rw [kupA_kk h2, kupA_kk h1]
    generalize sM σ (fun j => if 1400 + 200 * D.2.2.length + 20 * (a - a) ≤ j ∧ j < 1400 + 200 * D.2.2.length + 20 * (b + 1 - a) then σ 20 0 (20 * a + (j - (1400 + 200 * D.2.2.length))) else σ 20 0 j) (fun i => if 70 + 10 * D.2.2.length + (a - a) ≤ i ∧ i < 70 + 10 * D.2.2.length + (b + 1 - a) then σ 21 0 (a + (i - (70 + 10 * D.2.2.length))) else σ 21 0 i) = τ at m20 m21 mT mo
    have t34 : τ 9 0 34 = D.2.2.length := by
      rw [mo 9 (by decide) (by decide)]
      exact d3
    unfold fb_Rm_job_43
    have u1 : ∀ i v, kup τ 22 0 i v 9 0 34 = D.2.2.length := fun i v => by rw [kup_k (by decide)]; exact t34
    have u2 : ∀ i v j y, kup (kup τ 22 0 i v) 34 0 j y 9 0 34 = D.2.2.length := fun i v j y => by rw [kup_k (by decide)]; exact u1 i v
    have u3 : ∀ i v j y k z, kup (kup (kup τ 22 0 i v) 34 0 j y) 35 0 k z 9 0 34 = D.2.2.length := fun i v j y k z => by rw [kup_k (by decide)]; exact u2 i v j y
    rw [t34, u1, u2, u3, show (7 + (D.2.2.length : Int)).toNat = 7 + D.2.2.length by omega, Int.toNat_natCast, kg_pos (by omega)]
    have v9 : ∀ c, c ≠ 34 → kup (kup (kup (kup τ 22 0 (7 + D.2.2.length) ((b : Int) - a + 1)) 34 0 D.2.2.length (5 + fs)) 35 0 D.2.2.length ((b : Int) - a + 2)) 9 0 34 ((D.2.2.length : Int) + 1) 9 0 c = σ 9 0 c := fun c hc => by
      rw [kup_j hc, kup_k (by decide), kup_k (by decide), kup_k (by decide), mo 9 (by decide) (by decide)]
    have v20 : ∀ k, k = 20 ∨ k = 21 → ∀ j, kup (kup (kup (kup τ 22 0 (7 + D.2.2.length) ((b : Int) - a + 1)) 34 0 D.2.2.length (5 + fs)) 35 0 D.2.2.length ((b : Int) - a + 2)) 9 0 34 ((D.2.2.length : Int) + 1) k 0 j = τ k 0 j := fun k hk j => by
      rw [kup_k (by omega), kup_k (by omega), kup_k (by omega), kup_k (by omega)]
    have v22 : ∀ k, 22 ≤ k → k ≤ 24 → ∀ j, j ≠ 7 + D.2.2.length → kup (kup (kup (kup τ 22 0 (7 + D.2.2.length) ((b : Int) - a + 1)) 34 0 D.2.2.length (5 + fs)) 35 0 D.2.2.length ((b : Int) - a + 2)) 9 0 34 ((D.2.2.length : Int) + 1) k 0 j = σ k 0 j := fun k h1 h2 j hj => by
      rw [kup_k (by omega), kup_k (by omega), kup_k (by omega), kup_jj (by omega), mo k (by omega) (by omega)]
    have vk : ∀ k, k ≠ 9 → k ≠ 20 → k ≠ 21 → k ≠ 22 → k ≠ 34 → k ≠ 35 → kup (kup (kup (kup τ 22 0 (7 + D.2.2.length) ((b : Int) - a + 1)) 34 0 D.2.2.length (5 + fs)) 35 0 D.2.2.length ((b : Int) - a + 2)) 9 0 34 ((D.2.2.length : Int) + 1) k = σ k := fun k h1 h2 h3 h4 h5 h6 => by
      rw [kup_kk h1, kup_kk h6, kup_kk h5, kup_kk h4, mo k h2 h3]
    have x34 : ∀ i, kup (kup (kup (kup τ 22 0 (7 + D.2.2.length) ((b : Int) - a + 1)) 34 0 D.2.2.length (5 + fs)) 35 0 D.2.2.length ((b : Int) - a + 2)) 9 0 34 ((D.2.2.length : Int) + 1) 34 0 i = if i = D.2.2.length then 5 + fs else σ 34 0 i := fun i => by
      rw [kup_k (by decide), kup_k (by decide)]
      by_cases h : i = D.2.2.length
      · rw [if_pos h, h, kup_self]
      · rw [if_neg h, kup_j h, kup_k (by decide), mo 34 (by decide) (by decide)]
    have x35 : ∀ i, kup (kup (kup (kup τ 22 0 (7 + D.2.2.length) ((b : Int) - a + 1)) 34 0 D.2.2.length (5 + fs)) 35 0 D.2.2.length ((b : Int) - a + 2)) 9 0 34 ((D.2.2.length : Int) + 1) 35 0 i = if i = D.2.2.length then (b : Int) - a + 2 else σ 35 0 i := fun i => by
      rw [kup_k (by decide)]
      by_cases h : i = D.2.2.length
      · rw [if_pos h, h, kup_self]
      · rw [if_neg h, kup_j h, kup_k (by decide), kup_k (by decide), mo 35 (by decide) (by decide)]
    have x22 : kup (kup (kup (kup τ 22 0 (7 + D.2.2.length) ((b : Int) - a + 1)) 34 0 D.2.2.length (5 + fs)) 35 0 D.2.2.length ((b : Int) - a + 2)) 9 0 34 ((D.2.2.length : Int) + 1) 22 0 (7 + D.2.2.length) = (b : Int) - a + 1 := by
      rw [kup_k (by decide), kup_k (by decide), kup_k (by decide), kup_self]
    have x934 : kup (kup (kup (kup τ 22 0 (7 + D.2.2.length) ((b : Int) - a + 1)) 34 0 D.2.2.length (5 + fs)) 35 0 D.2.2.length ((b : Int) - a + 2)) 9 0 34 ((D.2.2.length : Int) + 1) 9 0 34 = (D.2.2.length : Int) + 1 := kup_self _ _ _ _ _
    generalize kup (kup (kup (kup τ 22 0 (7 + D.2.2.length) ((b : Int) - a + 1)) 34 0 D.2.2.length (5 + fs)) 35 0 D.2.2.length ((b : Int) - a + 2)) 9 0 34 ((D.2.2.length : Int) + 1) = υ at v9 v20 v22 vk x34 x35 x22 x934
    have hT : ∀ b', b' < 7 + D.2.2.length → ∀ U, RT σ b' U → RT υ b' U := fun b' hb' U hU => hU.fr (fun j h1 h2 => (v20 20 (.inl rfl) j).trans (m20 j (by omega))) (fun j h1 h2 => (v20 21 (.inr rfl) j).trans (m21 j (by omega)))
    refine ⟨υ, rfl, ⟨c.1.fr2 (fun i hi => v9 i (by omega)) (fun j hj => (v20 20 (.inl rfl) j).trans (m20 j (by omega))) (fun j hj => (v20 21 (.inr rfl) j).trans (m21 j (by omega))) (fun k h1 h2 j hj => v22 k h1 h2 j (by omega)) (vk 25 (by decide) (by decide) (by decide) (by decide) (by decide) (by decide)) (vk 26 (by decide) (by decide) (by decide) (by decide) (by decide) (by decide)) (vk 27 (by decide) (by decide) (by decide) (by decide) (by decide) (by decide)), fun y hy => (c.2 y hy).fr (fun j h1 h2 => (v20 20 (.inl rfl) j).trans (m20 j (by omega))) (fun j h1 h2 => (v20 21 (.inr rfl) j).trans (m21 j (by omega))) (fun k h1 h2 => v22 k h1 h2 2 (by omega))⟩, ?_, fun k h1 h2 => vk k h2 (by omega) (by omega) (by omega) (by omega) (by omega), v9, vk 36 (by decide) (by decide) (by decide) (by decide) (by decide) (by decide)⟩
    refine ⟨⟨hT 5 (by omega) _ d1.1, (v22 22 (by decide) (by decide) 5 (by omega)).trans d1.2⟩, ⟨hT 6 (by omega) _ d2.1, (v22 22 (by decide) (by decide) 6 (by omega)).trans d2.2⟩, ?_, fun k hk => ?_⟩
    · rw [x934]
      show (D.2.2.length : Int) + 1 = ((D.2.2 ++ [_]).length : Nat)
      rw [List.length_append, List.length_singleton]
      rfl
    · have hk' : k < D.2.2.length + 1 := by
        have : k < (D.2.2 ++ [(fs, (b : Int) - a + 2, slc x.1 a (b + 1))]).length := hk
        rw [List.length_append, List.length_singleton] at this
        exact this
      have hjb : jb (joA D fs x.1 a b) k = if k < D.2.2.length then jb D k else if k = D.2.2.length then (fs, (b : Int) - a + 2, slc x.1 a (b + 1)) else (0, 0, []) := gd_job D _ k
      rw [hjb, x34, x35]
      by_cases z1 : k < D.2.2.length
      · obtain ⟨e1, e2, e3, e4⟩ := d4 k z1
        rw [if_pos z1, if_neg (by omega), if_neg (by omega)]
        exact ⟨e1, e2, hT _ (by omega) _ e3, (v22 22 (by decide) (by decide) _ (by omega)).trans e4⟩
      · have z2 : k = D.2.2.length := by omega
        rw [if_neg z1, if_pos z2, if_pos z2, if_pos z2, z2]
        refine ⟨rfl, rfl, mT.fr (fun j _ _ => v20 20 (.inl rfl) j) (fun j _ _ => v20 21 (.inr rfl) j), ?_⟩
        rw [x22]
        show (b : Int) - a + 1 = ((slc x.1 a (b + 1)).length : Int)
        rw [slc_len (by omega)]
        omega
  · rw [if_pos (by omega), if_neg h3, if_neg h3]
    exact ⟨σ, rfl, c, ⟨d1, d2, d3, d4⟩, fun _ _ _ => rfl, fun _ _ => rfl, rfl⟩
