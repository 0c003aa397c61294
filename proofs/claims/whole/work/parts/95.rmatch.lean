/-! Pure: the reference's matching. -/
def PRt (ks : List Int) (σ : kS) (P : Pt) : Prop := (σ 9 0 20 = ks.length ∧ kArr (σ 27 0) ks ∧ ks.length ≤ 30 ∧ ∀ c ∈ ks, 32 ≤ c ∧ c ≤ 126) ∧ P.2.2.length ≤ 8 ∧ σ 9 0 28 = P.2.2.length ∧ σ 9 0 29 = b2 P.1 ∧ σ 9 0 30 = b2 P.2.1 ∧ ∀ i, i < P.2.2.length → σ 28 0 i = (atm P i).1.1 ∧ σ 29 0 i = (atm P i).1.2.1 ∧ ((atm P i).1.1 = 2 → σ 30 0 i = (atm P i).1.2.2) ∧ σ 31 0 i = b2 (atm P i).2 ∧ ((atm P i).1.1 = 0 ∨ (atm P i).1.1 = 1 ∨ (atm P i).1.1 = 2) ∧ (0 ≤ (atm P i).1.2.1 ∧ (atm P i).1.2.1 ≤ 126) ∧ ((atm P i).1.1 = 2 → (atm P i).1.2.1 < (atm P i).1.2.2 ∧ (atm P i).1.2.2 < ks.length)
theorem gd_mem {ks : List Int} {k : Nat} (h : k < ks.length) : ks.getD k 0 ∈ ks := by
  rw [List.getD_eq_getElem?_getD, List.getElem?_eq_getElem h]
  exact List.getElem_mem h
theorem R_seen {ks : List Int} {σ : kS} {x : Int} {k : Nat} (h20 : σ 9 0 20 = ks.length) (ha : kArr (σ 27 0) ks) (hl : ks.length ≤ 30) (hx : x = k) (hk : k ≤ 100) : f_Rm_seen x σ = some (some (ks.getD k 0), σ) := by
  subst hx
  unfold f_Rm_seen fb_Rm_seen_0 fb_Rm_seen_17 fb_Rm_seen_8 fb_Rm_seen_18
  rw [h20, kg_pos (by omega)]
  by_cases h : k < ks.length
  · rw [if_neg (by omega), kg_pos (by omega), Int.toNat_natCast, ha k h]
  · rw [if_pos (by omega), gd_ge ks 0 (by omega)]
theorem gd_rng {ks : List Int} (h : ∀ c ∈ ks, 32 ≤ c ∧ c ≤ 126) (k : Nat) : 0 ≤ ks.getD k 0 ∧ ks.getD k 0 ≤ 126 := by
  by_cases hk : k < ks.length
  · have := h _ (gd_mem hk)
    omega
  · rw [gd_ge ks 0 (by omega)]
    decide
theorem R_setL {ks : List Int} {σ : kS} {x1 c x3 : Int} {e : Nat} {none : Bool} (h20 : σ 9 0 20 = ks.length) (ha : kArr (σ 27 0) ks) (hl : ks.length ≤ 30) (hks : ∀ c ∈ ks, 32 ≤ c ∧ c ≤ 126) (he : e ≤ 30) (hc : 0 ≤ c ∧ c ≤ 126) : ∀ (m n k : Nat) (inn : Bool), e ≤ k + m → k ≤ 40 → m < n → fl_Rm_takes_92 n x1 c x3 (e : Int) (b2 none) (k : Int) (b2 inn) σ = some (some (b2 ((inn || setIn ks e c (m + 1) k) != none)), σ) := by
  have hend : ∀ (k : Nat) (i : Bool), fb_Rm_takes_201 x1 c x3 (e : Int) (b2 none) (k : Int) (b2 i) σ = some (some (b2 (i != none)), σ) := by
    intro k i
    unfold fb_Rm_takes_201 fb_Rm_takes_212 fb_Rm_takes_208 fb_Rm_takes_213
    cases i <;> cases none <;> rfl
  intro m
  induction m with
  | zero =>
    intro n k inn h1 h2 h3
    obtain ⟨n, rfl⟩ : ∃ n', n = n' + 1 := ⟨n - 1, by omega⟩
    simp only [fl_Rm_takes_92, fb_Rm_takes_92]
    rw [kg_pos (by omega), if_pos (by omega), hend]
    unfold setIn
    rw [if_pos (by omega), Bool.or_false]
  | succ m ih =>
    intro n k inn h1 h2 h3
    obtain ⟨n, rfl⟩ : ∃ n', n = n' + 1 := ⟨n - 1, by omega⟩
    have hi01 := b2_01 inn
    simp only [fl_Rm_takes_92, fb_Rm_takes_92]
    rw [kg_pos (by omega)]
    rw [setIn]
    by_cases hk : e ≤ k
    · rw [if_pos (by omega), hend, if_pos hk, Bool.or_false]
    · rw [if_neg (by omega), if_neg hk]
      have g0 := gd_rng hks k
      have g1 := gd_rng hks (k + 1)
      have g2 := gd_rng hks (k + 2)
      -- what is one step: a span or a single code
      have e126 : fb_Rm_takes_99 (fl_Rm_takes_92 n) x1 c x3 (e : Int) (b2 none) (k : Int) (b2 inn) σ = fb_Rm_takes_126 (fl_Rm_takes_92 n) x1 c x3 (e : Int) (b2 none) (k : Int) (b2 inn) (if k + 2 < e ∧ ks.getD (k + 1) 0 = 45 then 1 else 0) σ := by
        unfold fb_Rm_takes_99 fb_Rm_takes_108 fb_Rm_takes_125
        rw [kg_pos (by omega)]
        by_cases h4 : k + 2 < e
        · rw [if_neg (by omega), kbi_eq (R_seen (k := k + 1) h20 ha hl (by omega) (by omega))]
          unfold fb_Rm_takes_116 fb_Rm_takes_121 fb_Rm_takes_125
          rw [kg_pos (by omega)]
          by_cases h5 : ks.getD (k + 1) 0 = 45
          · rw [if_pos h5, if_pos ⟨h4, h5⟩]
          · rw [if_neg h5, if_neg (fun z => h5 z.2)]
        · rw [if_pos (by omega), if_neg (fun z => h4 z.1)]
      rw [e126]
      have e178 : ∀ (s i : Bool), fb_Rm_takes_178 (fl_Rm_takes_92 n) x1 c x3 (e : Int) (b2 none) (k : Int) (b2 inn) (b2 s) (b2 i) σ = fl_Rm_takes_92 n x1 c x3 (e : Int) (b2 none) ((if s then k + 3 else k + 1 : Nat) : Int) (b2 i) σ := by
        intro s i
        unfold fb_Rm_takes_178 fb_Rm_takes_192 fb_Rm_takes_185 fb_Rm_takes_196
        cases s <;> rfl
      by_cases hsp : k + 2 < e ∧ ks.getD (k + 1) 0 = 45
      · rw [if_pos hsp, if_pos hsp]
        have e1 : fb_Rm_takes_126 (fl_Rm_takes_92 n) x1 c x3 (e : Int) (b2 none) (k : Int) (b2 inn) 1 σ = fb_Rm_takes_178 (fl_Rm_takes_92 n) x1 c x3 (e : Int) (b2 none) (k : Int) (b2 inn) (b2 true) (b2 (inn || decide (ks.getD k 0 ≤ c ∧ c ≤ ks.getD (k + 2) 0))) σ := by
          unfold fb_Rm_takes_126
          rw [kg_pos (by omega)]
          cases inn with
          | true =>
            rw [if_neg (by decide), Bool.true_or]
            rfl
          | false =>
            rw [if_pos (show b2 false = 0 from rfl), Bool.false_or]
            unfold fb_Rm_takes_133
            rw [kg_pos (by decide), if_neg (by decide)]
            unfold fb_Rm_takes_138
            rw [kbi_eq (R_seen (k := k) h20 ha hl rfl (by omega))]
            unfold fb_Rm_takes_145 fb_Rm_takes_177
            rw [kg_pos (by omega)]
            by_cases h6 : ks.getD k 0 ≤ c
            · rw [if_neg (by omega)]
              unfold fb_Rm_takes_148
              rw [kbi_eq (R_seen (k := k + 2) h20 ha hl (by omega) (by omega))]
              unfold fb_Rm_takes_157 fb_Rm_takes_177 fb_Rm_takes_160 fb_Rm_takes_173
              rw [kg_pos (by omega)]
              by_cases h7 : c ≤ ks.getD (k + 2) 0
              · rw [if_neg (by omega), decide_eq_true ⟨h6, h7⟩]
                rfl
              · rw [if_pos (by omega), decide_eq_false (fun z => h7 z.2)]
                rfl
            · rw [if_pos (by omega), decide_eq_false (fun z => h6 z.1)]
              rfl
        rw [e1, e178, ← Bool.or_assoc]
        have hi := ih n (k + 3) (inn || decide (ks.getD k 0 ≤ c ∧ c ≤ ks.getD (k + 2) 0)) (by omega) (by omega) (by omega)
        exact hi
      · rw [if_neg hsp, if_neg hsp]
        have e1 : fb_Rm_takes_126 (fl_Rm_takes_92 n) x1 c x3 (e : Int) (b2 none) (k : Int) (b2 inn) 0 σ = fb_Rm_takes_178 (fl_Rm_takes_92 n) x1 c x3 (e : Int) (b2 none) (k : Int) (b2 inn) (b2 false) (b2 (inn || decide (c = ks.getD k 0))) σ := by
          unfold fb_Rm_takes_126
          rw [kg_pos (by omega)]
          cases inn with
          | true =>
            rw [if_neg (by decide), Bool.true_or]
            rfl
          | false =>
            rw [if_pos (show b2 false = 0 from rfl), Bool.false_or]
            unfold fb_Rm_takes_133
            rw [kg_pos (by decide), if_pos rfl]
            unfold fb_Rm_takes_163
            rw [kbi_eq (R_seen (k := k) h20 ha hl rfl (by omega))]
            unfold fb_Rm_takes_170 fb_Rm_takes_177 fb_Rm_takes_173
            rw [kg_pos (by omega)]
            by_cases h6 : c = ks.getD k 0
            · rw [if_pos h6, decide_eq_true h6]
              rfl
            · rw [if_neg h6, decide_eq_false h6]
              rfl
        rw [e1, e178, ← Bool.or_assoc]
        exact ih n (k + 1) (inn || decide (c = ks.getD k 0)) (by omega) (by omega) (by omega)
theorem R_takes {ks : List Int} {σ : kS} {P : Pt} {i : Nat} {c : Int} (hP : PRt ks σ P) (hi : i < P.2.2.length) (hc : 0 ≤ c ∧ c ≤ 126) : f_Rm_takes (i : Int) c σ = some (some (b2 (tkD ks (atm P i).1 c)), σ) := by
  obtain ⟨⟨h20, ha, hl, hks⟩, p1, p2, p3, p4, p5⟩ := hP
  obtain ⟨a1, a2, a3, a4, a5, a6, a7⟩ := p5 i hi
  generalize atm P i = A at a1 a2 a3 a4 a5 a6 a7
  obtain ⟨⟨kd, fr, tt⟩, s⟩ := A
  dsimp only at a1 a2 a3 a4 a5 a6 a7 ⊢
  unfold f_Rm_takes fb_Rm_takes_0 tkD
  rw [Int.toNat_natCast, a1, kg_pos (by omega)]
  dsimp only
  by_cases h2 : kd = 2
  · rw [if_pos (by omega), if_neg (by omega), if_neg (by omega)]
    obtain ⟨b1, b2'⟩ := a7 h2
    have a3' := a3 h2
    unfold fb_Rm_takes_35
    have g0 := gd_rng hks fr.toNat
    rw [Int.toNat_natCast, a2, a3', kg_pos (by omega), kbi_eq (R_seen (k := fr.toNat) h20 ha hl (by omega) (by omega))]
    unfold fb_Rm_takes_55
    rw [kg_pos (by omega)]
    have hfr : ((fr.toNat : Nat) : Int) = fr := by omega
    have htt : ((tt.toNat : Nat) : Int) = tt := by omega
    by_cases h3 : ks.getD fr.toNat 0 = 94 ∧ fr + 1 < tt
    · rw [if_pos h3.1, if_pos h3]
      unfold fb_Rm_takes_60 fb_Rm_takes_68 fb_Rm_takes_73 fb_Rm_takes_80 fb_Rm_takes_87
      rw [kg_pos (by omega), if_neg (by omega), kg_pos (by decide), if_neg (by decide)]
      have := R_setL (x1 := (i : Int)) (x3 := fr) (none := true) h20 ha hl hks (e := tt.toNat) (by omega) hc 39 3000 (fr.toNat + 1) false (by omega) (by omega) (by omega)
      rw [htt, show ((fr.toNat + 1 : Nat) : Int) = fr + 1 by omega, Bool.false_or] at this
      have e : fl_Rm_takes_92 3000 (i : Int) c fr tt 1 (fr + 1) 0 σ = _ := this
      rw [e]
      cases setIn ks tt.toNat c (39 + 1) (fr.toNat + 1) <;> rfl
    · rw [if_neg h3]
      have e72 : (if ks.getD fr.toNat 0 = 94 then fb_Rm_takes_60 (i : Int) c fr tt σ else fb_Rm_takes_72 (i : Int) c fr tt σ) = fb_Rm_takes_72 (i : Int) c fr tt σ := by
        by_cases h4 : ks.getD fr.toNat 0 = 94
        · rw [if_pos h4]
          unfold fb_Rm_takes_60
          rw [kg_pos (by omega), if_pos (by omega)]
        · rw [if_neg h4]
      rw [e72]
      unfold fb_Rm_takes_72 fb_Rm_takes_73 fb_Rm_takes_86 fb_Rm_takes_87
      rw [kg_pos (by decide), if_pos rfl]
      have := R_setL (x1 := (i : Int)) (x3 := fr) (none := false) h20 ha hl hks (e := tt.toNat) (by omega) hc 39 3000 fr.toNat false (by omega) (by omega) (by omega)
      rw [htt, hfr, Bool.false_or] at this
      have e : fl_Rm_takes_92 3000 (i : Int) c fr tt 0 fr 0 σ = _ := this
      rw [e]
      cases setIn ks tt.toNat c (39 + 1) fr.toNat <;> rfl
  · rw [if_neg (by omega)]
    unfold fb_Rm_takes_10
    rw [Int.toNat_natCast, a1, kg_pos (by omega)]
    by_cases h0 : kd = 0
    · rw [if_pos h0, if_pos h0]
      rfl
    · rw [if_neg h0, if_neg h0, if_pos (by omega)]
      unfold fb_Rm_takes_19 fb_Rm_takes_29 fb_Rm_takes_33 fb_Rm_takes_34
      rw [Int.toNat_natCast, a2, kg_pos (by omega), kg_pos (by decide), kg_pos (by decide)]
      by_cases h3 : fr = c
      · rw [if_pos h3, decide_eq_true h3]
        rfl
      · rw [if_neg h3, decide_eq_false h3]
        rfl
theorem RR_p {st : Nat → Bool} {tk : Nat → Nat → Bool} {bs : Nat → Bool} {p a : Nat} (h : ∀ q, q < p → bs q = false) : RR st tk bs (a + 1) p = (st a && RR st tk bs a p) := by
  cases p with
  | zero => exact RR_z
  | succ p =>
    rw [RR_s, RR_lo h (a + 1) p (by omega), RR_lo h a p (by omega), Bool.false_and, Bool.or_false]
    cases st a <;> rfl
theorem RR_sub {st : Nat → Bool} {tk : Nat → Nat → Bool} {bs : Nat → Bool} {a q : Nat} (hs : st a = true) (h : RR st tk bs a q = true) : RR st tk bs (a + 1) q = true := by
  cases q with
  | zero => rw [RR_z, hs, h]; rfl
  | succ q => rw [RR_s, if_pos hs, h, Bool.true_or]
theorem R_match {ks : List Int} {σ : kS} {P : Pt} {T : Tx} {r p : Nat} {xr xp : Int} (hP : PRt ks σ P) (hT : RT σ 0 T) (hpr : printable T) (hxr : xr = r) (hxp : xp = p) (hr : r < T.length) (hp : p ≤ (ln T r).length) : f_Rm_match xr xp σ = some (some (mtA ks P (ln T r) p), σ) := by
  subst hxr hxp
  have hl := hT.1
  have h20 := (hT.2 r hr).2.1
  have hP' := hP
  obtain ⟨-, p1, p2, p3, p4, p5⟩ := hP'
  have hsz : σ 21 0 r = (ln T r).length := by
    have := Q_sz (xp := (r : Int)) rfl hT hr
    rw [Int.toNat_natCast] at this
    exact this
  have hpw : 2 ^ ((ln T r).length + 1) ≤ 2097152 := by
    have : 2 ^ ((ln T r).length + 1) ≤ 2 ^ 21 := Nat.pow_le_pow_right (by decide) (by omega)
    exact this
  have hlo : ∀ q, q < p → (fun z => decide (z = p)) q = false := fun q hq => decide_eq_false (by omega)
  -- the end
  have hend : ∀ (s : Nat) (x5 : Int), s < 2 ^ ((ln T r).length + 1) → (∀ q, q ≤ (ln T r).length → s.testBit q = RR (stF P) (tkF ks P (ln T r)) (fun z => decide (z = p)) P.2.2.length q) → fb_Rm_match_151 (r : Int) (p : Int) ((ln T r).length : Int) (s : Int) x5 σ = some (some (gr (ovF P (ln T r) fun q => RR (stF P) (tkF ks P (ln T r)) (fun z => decide (z = p)) P.2.2.length q) p ((ln T r).length - p)), σ) := by
    intro s x5 hs hb
    have hov : ∀ q, ovF P (ln T r) (fun q => RR (stF P) (tkF ks P (ln T r)) (fun z => decide (z = p)) P.2.2.length q) q = (RR (stF P) (tkF ks P (ln T r)) (fun z => decide (z = p)) P.2.2.length q && (!P.2.1 || decide (q = (ln T r).length))) := fun q => rfl
    unfold fb_Rm_match_151
    have h01 := b2_01 P.2.1
    rw [p4, kg_pos (by omega)]
    cases hP2 : P.2.1 with
    | false =>
      rw [if_pos (show b2 false = 0 from rfl)]
      unfold fb_Rm_match_174
      have hdown : ∀ (d n : Nat), p + d ≤ (ln T r).length → d + 1 < n → fl_Rm_match_177 n (r : Int) (p : Int) ((ln T r).length : Int) (s : Int) ((p + d : Nat) : Int) σ = some (some (gr (ovF P (ln T r) fun q => RR (stF P) (tkF ks P (ln T r)) (fun z => decide (z = p)) P.2.2.length q) p d), σ) := by
        intro d
        induction d with
        | zero =>
          intro n h1 h2
          obtain ⟨n, rfl⟩ : ∃ n', n = n' + 1 := ⟨n - 1, by omega⟩
          simp only [fl_Rm_match_177, fb_Rm_match_177, fb_Rm_match_183, fb_Rm_match_194, fb_Rm_match_197]
          rw [kg_pos (by omega), if_neg (by omega), kbit (by omega) (by omega), hb (p + 0) (by omega), gr]
          have e := hov p
          rw [hP2, Bool.not_false, Bool.true_or, Bool.and_true] at e
          rw [e]
          cases hz : RR (stF P) (tkF ks P (ln T r)) (fun z => decide (z = p)) P.2.2.length p with
          | true =>
            rw [if_pos rfl, kg_pos (by decide), if_pos rfl, if_pos rfl]
            rfl
          | false =>
            simp only [Bool.false_eq_true, if_false]
            rw [kg_pos (by decide), if_neg (by decide)]
            obtain ⟨n, rfl⟩ : ∃ n', n = n' + 1 := ⟨n - 1, by omega⟩
            simp only [fl_Rm_match_177, fb_Rm_match_177, fb_Rm_match_203]
            rw [kg_pos (by omega), if_pos (by omega)]
        | succ d ih =>
          intro n h1 h2
          obtain ⟨n, rfl⟩ : ∃ n', n = n' + 1 := ⟨n - 1, by omega⟩
          simp only [fl_Rm_match_177, fb_Rm_match_177, fb_Rm_match_183, fb_Rm_match_194, fb_Rm_match_197]
          rw [kg_pos (by omega), if_neg (by omega), kbit (by omega) (by omega), hb (p + (d + 1)) (by omega), gr]
          have e := hov (p + d + 1)
          rw [hP2, Bool.not_false, Bool.true_or, Bool.and_true] at e
          rw [e, show p + (d + 1) = p + d + 1 by omega]
          cases hz : RR (stF P) (tkF ks P (ln T r)) (fun z => decide (z = p)) P.2.2.length (p + d + 1) with
          | true =>
            rw [if_pos rfl, kg_pos (by decide), if_pos rfl, if_pos rfl]
          | false =>
            simp only [Bool.false_eq_true, if_false]
            rw [kg_pos (by decide), if_neg (by decide), show ((p + d + 1 : Nat) : Int) + -1 = ((p + d : Nat) : Int) by omega]
            exact ih n (by omega) (by omega)
      have := hdown ((ln T r).length - p) 3000 (by omega) (by omega)
      rw [show p + ((ln T r).length - p) = (ln T r).length by omega] at this
      exact this
    | true =>
      rw [if_neg (show ¬ b2 true = 0 by decide)]
      unfold fb_Rm_match_158 fb_Rm_match_168 fb_Rm_match_172 fb_Rm_match_173
      rw [kbit (by omega) (by omega), hb _ (Nat.le_refl _)]
      have hfalse : ∀ q, q ≠ (ln T r).length → ovF P (ln T r) (fun q => RR (stF P) (tkF ks P (ln T r)) (fun z => decide (z = p)) P.2.2.length q) q = false := fun q hq => by
        rw [hov q, hP2, decide_eq_false hq]
        exact Bool.and_false _
      have htop : ovF P (ln T r) (fun q => RR (stF P) (tkF ks P (ln T r)) (fun z => decide (z = p)) P.2.2.length q) (ln T r).length = RR (stF P) (tkF ks P (ln T r)) (fun z => decide (z = p)) P.2.2.length (ln T r).length := by
        rw [hov, decide_eq_true rfl, Bool.or_true, Bool.and_true]
      have hgr : gr (ovF P (ln T r) fun q => RR (stF P) (tkF ks P (ln T r)) (fun z => decide (z = p)) P.2.2.length q) p ((ln T r).length - p) = if RR (stF P) (tkF ks P (ln T r)) (fun z => decide (z = p)) P.2.2.length (ln T r).length = true then ((ln T r).length : Int) else -1 := by
        rcases Nat.eq_zero_or_pos ((ln T r).length - p) with h0 | h0
        · have hpe : p = (ln T r).length := by omega
          rw [h0, gr]
          have : ovF P (ln T r) (fun q => RR (stF P) (tkF ks P (ln T r)) (fun z => decide (z = p)) P.2.2.length q) p = RR (stF P) (tkF ks P (ln T r)) (fun z => decide (z = p)) P.2.2.length (ln T r).length := by
            rw [← htop]
            exact congrArg _ hpe
          rw [this]
          split
          · omega
          · rfl
        · obtain ⟨d, hd⟩ : ∃ d, (ln T r).length - p = d + 1 := ⟨(ln T r).length - p - 1, by omega⟩
          rw [hd, gr, show p + d + 1 = (ln T r).length by omega, htop]
          split
          · rfl
          · have h1 : gr (ovF P (ln T r) fun q => RR (stF P) (tkF ks P (ln T r)) (fun z => decide (z = p)) P.2.2.length q) p d < 0 := (gr_neg d).mpr fun q h2 h3 => hfalse q (by omega)
            rcases gr_rng (ovF P (ln T r) fun q => RR (stF P) (tkF ks P (ln T r)) (fun z => decide (z = p)) P.2.2.length q) p d with h2 | h2
            · exact h2
            · omega
      rw [hgr]
      cases hz : RR (stF P) (tkF ks P (ln T r)) (fun z => decide (z = p)) P.2.2.length (ln T r).length with
      | true => rw [if_pos rfl, kg_pos (by decide), if_pos rfl, if_pos rfl]
      | false =>
        simp only [Bool.false_eq_true, if_false]
        rw [kg_pos (by decide), if_neg (by decide)]
  -- an atom
  have hinner : ∀ (a : Nat) (s : Nat) (k28 : Int → Int → Int → Int → Int → kS → kRes), a < P.2.2.length → s < 2 ^ ((ln T r).length + 1) → (∀ q, q ≤ (ln T r).length → s.testBit q = RR (stF P) (tkF ks P (ln T r)) (fun z => decide (z = p)) a q) → ∀ (m n q y : Nat), q + m = (ln T r).length → p ≤ q → m < n → y < 2 ^ ((ln T r).length + 1) → (∀ j, j ≤ (ln T r).length → y.testBit j = if j ≤ q then RR (stF P) (tkF ks P (ln T r)) (fun z => decide (z = p)) (a + 1) j else (stF P a && RR (stF P) (tkF ks P (ln T r)) (fun z => decide (z = p)) a j)) → ∃ s' : Nat, fl_Rm_match_58 k28 n (r : Int) (p : Int) ((ln T r).length : Int) (s : Int) (a : Int) (y : Int) (q : Int) σ = k28 (r : Int) (p : Int) ((ln T r).length : Int) (s' : Int) ((a + 1 : Nat) : Int) σ ∧ s' < 2 ^ ((ln T r).length + 1) ∧ ∀ j, j ≤ (ln T r).length → s'.testBit j = RR (stF P) (tkF ks P (ln T r)) (fun z => decide (z = p)) (a + 1) j := by
    intro a s k28 ha hs hsb m
    induction m with
    | zero =>
      intro n q y h1 h2 h3 h4 h5
      obtain ⟨n, rfl⟩ : ∃ n', n = n' + 1 := ⟨n - 1, by omega⟩
      refine ⟨y, ?_, h4, fun j hj => by rw [h5 j hj, if_pos (by omega)]⟩
      simp only [fl_Rm_match_58, fb_Rm_match_58, fb_Rm_match_141]
      rw [kg_pos (by omega), if_pos (by omega)]
      rfl
    | succ m ih =>
      intro n q y h1 h2 h3 h4 h5
      obtain ⟨n, rfl⟩ : ∃ n', n = n' + 1 := ⟨n - 1, by omega⟩
      have hk := hpr r hr q (by omega)
      have a4 := (p5 a ha).2.2.2.1
      have hst : b2 (atm P a).2 = b2 (stF P a) := rfl
      -- here
      have hhere : fb_Rm_match_64 (fl_Rm_match_58 k28 n) (r : Int) (p : Int) ((ln T r).length : Int) (s : Int) (a : Int) (y : Int) (q : Int) σ = fb_Rm_match_101 (fl_Rm_match_58 k28 n) (r : Int) (p : Int) ((ln T r).length : Int) (s : Int) (a : Int) (y : Int) (q : Int) (b2 (if stF P a then RR (stF P) (tkF ks P (ln T r)) (fun z => decide (z = p)) (a + 1) q else RR (stF P) (tkF ks P (ln T r)) (fun z => decide (z = p)) a q)) σ := by
        unfold fb_Rm_match_64 fb_Rm_match_96
        rw [kbit (by omega) (by omega), hsb q (by omega)]
        cases hz : RR (stF P) (tkF ks P (ln T r)) (fun z => decide (z = p)) a q with
        | true =>
          rw [if_pos rfl, kg_pos (by decide), if_pos rfl]
          cases hs2 : stF P a with
          | true => rw [if_pos rfl, RR_sub hs2 hz]; rfl
          | false => rfl
        | false =>
          simp only [Bool.false_eq_true, if_false]
          rw [kg_pos (by decide), if_neg (by decide)]
          unfold fb_Rm_match_75 fb_Rm_match_100
          have h01 := b2_01 (atm P a).2
          rw [Int.toNat_natCast, a4, kg_pos (by omega), hst]
          cases hs2 : stF P a with
          | true =>
            rw [if_neg (show ¬ b2 true = 0 by decide), if_pos rfl]
            unfold fb_Rm_match_85 fb_Rm_match_96 fb_Rm_match_100
            rw [kbit (by omega) (by omega), h5 q (by omega), if_pos (Nat.le_refl q)]
            cases RR (stF P) (tkF ks P (ln T r)) (fun z => decide (z = p)) (a + 1) q with
            | true =>
              rw [if_pos rfl, kg_pos (by decide), if_pos rfl]
              rfl
            | false =>
              simp only [Bool.false_eq_true, if_false]
              rw [kg_pos (by decide), if_neg (by decide)]
              rfl
          | false =>
            rw [if_pos (show b2 false = 0 from rfl)]
            rfl
      simp only [fl_Rm_match_58, fb_Rm_match_58]
      rw [kg_pos (by omega), if_neg (by omega), hhere]
      have hq1 : RR (stF P) (tkF ks P (ln T r)) (fun z => decide (z = p)) (a + 1) (q + 1) = ((stF P a && RR (stF P) (tkF ks P (ln T r)) (fun z => decide (z = p)) a (q + 1)) || ((if stF P a then RR (stF P) (tkF ks P (ln T r)) (fun z => decide (z = p)) (a + 1) q else RR (stF P) (tkF ks P (ln T r)) (fun z => decide (z = p)) a q) && tkF ks P (ln T r) a q)) := by
        rw [RR_s]
        cases stF P a <;> simp
      generalize (if stF P a then RR (stF P) (tkF ks P (ln T r)) (fun z => decide (z = p)) (a + 1) q else RR (stF P) (tkF ks P (ln T r)) (fun z => decide (z = p)) a q) = here at hq1
      have hnext : ∀ (y' : Nat), y' < 2 ^ ((ln T r).length + 1) → (∀ j, y'.testBit j = (y.testBit j || (decide (j = q + 1) && (here && tkF ks P (ln T r) a q)))) → ∃ s' : Nat, fb_Rm_match_135 (fl_Rm_match_58 k28 n) (r : Int) (p : Int) ((ln T r).length : Int) (s : Int) (a : Int) (y' : Int) (q : Int) (b2 here) σ = k28 (r : Int) (p : Int) ((ln T r).length : Int) (s' : Int) ((a + 1 : Nat) : Int) σ ∧ s' < 2 ^ ((ln T r).length + 1) ∧ ∀ j, j ≤ (ln T r).length → s'.testBit j = RR (stF P) (tkF ks P (ln T r)) (fun z => decide (z = p)) (a + 1) j := by
        intro y' hy' hb'
        refine ih n (q + 1) y' (by omega) (by omega) (by omega) hy' fun j hj => ?_
        rw [hb' j, h5 j hj]
        by_cases hjq : j = q + 1
        · subst hjq
          rw [decide_eq_true rfl, Bool.true_and, if_neg (by omega), if_pos (by omega), hq1]
        · rw [decide_eq_false hjq, Bool.false_and, Bool.or_false]
          by_cases hj2 : j ≤ q
          · rw [if_pos hj2, if_pos (by omega)]
          · rw [if_neg hj2, if_neg (by omega)]
      unfold fb_Rm_match_101
      have hh01 := b2_01 here
      rw [kg_pos (by omega)]
      cases here with
      | false =>
        rw [if_pos (show b2 false = 0 from rfl)]
        exact hnext y h4 fun j => by rw [Bool.false_and, Bool.and_false, Bool.or_false]
      | true =>
        rw [if_neg (show ¬ b2 true = 0 by decide)]
        unfold fb_Rm_match_108
        rw [kbi_eq (Q_at rfl rfl hT hr (by omega))]
        unfold fb_Rm_match_118
        rw [kbi_eq (R_takes hP ha (by omega))]
        unfold fb_Rm_match_121
        have ht01 := b2_01 (tkD ks (atm P a).1 ((ln T r).getD q 0))
        have htk : tkF ks P (ln T r) a q = tkD ks (atm P a).1 ((ln T r).getD q 0) := rfl
        rw [kg_pos (by omega), ← htk]
        cases htt : tkF ks P (ln T r) a q with
        | false =>
          rw [if_pos (show b2 false = 0 from rfl)]
          refine hnext y h4 fun j => ?_
          rw [htt, Bool.and_false, Bool.and_false, Bool.or_false]
        | true =>
          rw [if_neg (show ¬ b2 true = 0 by decide)]
          unfold fb_Rm_match_124
          have hp2 : 2 ^ (q + 1) < 2 ^ ((ln T r).length + 1) := Nat.pow_lt_pow_right (by decide) (by omega)
          rw [show (1 : Int) = ((1 : Nat) : Int) from rfl, show ((q : Int) + ((1 : Nat) : Int)) = ((q + 1 : Nat) : Int) by omega, kshl_n (a := 1) (i := q + 1) (by omega) (by omega), Nat.one_mul, kor_n (by omega) (by omega)]
          refine hnext (y ||| 2 ^ (q + 1)) (Nat.or_lt_two_pow h4 hp2) fun j => ?_
          rw [Nat.testBit_or, Nat.testBit_two_pow, htt]
          by_cases hjq : j = q + 1
          · rw [decide_eq_true hjq, decide_eq_true hjq.symm]
            rfl
          · rw [decide_eq_false hjq, decide_eq_false (fun z => hjq z.symm)]
            rfl
  -- all atoms
  have houter : ∀ (m n a s : Nat), a + m = P.2.2.length → m < n → s < 2 ^ ((ln T r).length + 1) → (∀ q, q ≤ (ln T r).length → s.testBit q = RR (stF P) (tkF ks P (ln T r)) (fun z => decide (z = p)) a q) → fl_Rm_match_28 n (r : Int) (p : Int) ((ln T r).length : Int) (s : Int) (a : Int) σ = some (some (gr (ovF P (ln T r) fun q => RR (stF P) (tkF ks P (ln T r)) (fun z => decide (z = p)) P.2.2.length q) p ((ln T r).length - p)), σ) := by
    intro m
    induction m with
    | zero =>
      intro n a s h1 h2 h3 h4
      obtain ⟨n, rfl⟩ : ∃ n', n = n' + 1 := ⟨n - 1, by omega⟩
      have ha : a = P.2.2.length := by omega
      subst ha
      simp only [fl_Rm_match_28, fb_Rm_match_28]
      rw [p2, kg_pos (by omega), if_pos (by omega)]
      exact hend s _ h3 h4
    | succ m ih =>
      intro n a s h1 h2 h3 h4
      obtain ⟨n, rfl⟩ : ∃ n', n = n' + 1 := ⟨n - 1, by omega⟩
      have ha : a < P.2.2.length := by omega
      have a4 := (p5 a ha).2.2.2.1
      have h01 := b2_01 (atm P a).2
      have hst : b2 (atm P a).2 = b2 (stF P a) := rfl
      have hgo : ∀ y : Nat, y < 2 ^ ((ln T r).length + 1) → (∀ j, j ≤ (ln T r).length → y.testBit j = (stF P a && RR (stF P) (tkF ks P (ln T r)) (fun z => decide (z = p)) a j)) → fl_Rm_match_58 (fl_Rm_match_28 n) 3000 (r : Int) (p : Int) ((ln T r).length : Int) (s : Int) (a : Int) (y : Int) (p : Int) σ = some (some (gr (ovF P (ln T r) fun q => RR (stF P) (tkF ks P (ln T r)) (fun z => decide (z = p)) P.2.2.length q) p ((ln T r).length - p)), σ) := by
        intro y hy hyb
        obtain ⟨s', e, hs1, hs2⟩ := hinner a s (fl_Rm_match_28 n) ha h3 h4 ((ln T r).length - p) 3000 p y (by omega) (Nat.le_refl p) (by omega) hy fun j hj => by
          rw [hyb j hj]
          by_cases hjp : j ≤ p
          · rw [if_pos hjp]
            rcases Nat.lt_or_ge j p with h | h
            · rw [RR_lo hlo _ _ h, RR_lo hlo _ _ h, Bool.and_false]
            · rw [show j = p by omega, RR_p hlo]
          · rw [if_neg hjp]
        rw [e]
        exact ih n (a + 1) s' (by omega) (by omega) hs1 hs2
      simp only [fl_Rm_match_28, fb_Rm_match_28, fb_Rm_match_37, fb_Rm_match_52, fb_Rm_match_47, fb_Rm_match_53]
      rw [p2, Int.toNat_natCast, a4, kg_pos (by omega), if_neg (by omega), kg_pos (by omega), hst]
      cases hs2 : stF P a with
      | false =>
        rw [if_pos (show b2 false = 0 from rfl)]
        exact hgo 0 (Nat.two_pow_pos _) fun j hj => by rw [Nat.zero_testBit, hs2, Bool.false_and]
      | true =>
        rw [if_neg (show ¬ b2 true = 0 by decide)]
        exact hgo s h3 fun j hj => by rw [h4 j hj, hs2, Bool.true_and]
  have e13 : fb_Rm_match_13 (r : Int) (p : Int) σ = some (some (gr (ovF P (ln T r) fun q => RR (stF P) (tkF ks P (ln T r)) (fun z => decide (z = p)) P.2.2.length q) p ((ln T r).length - p)), σ) := by
    unfold fb_Rm_match_13
    have hp2 : 2 ^ p < 2 ^ ((ln T r).length + 1) := Nat.pow_lt_pow_right (by decide) (by omega)
    rw [kg_pos (by omega), Int.toNat_natCast, hsz, show (1 : Int) = ((1 : Nat) : Int) from rfl, kshl_n (a := 1) (i := p) (by omega) (by omega), Nat.one_mul]
    exact houter P.2.2.length 3000 0 (2 ^ p) (by omega) (by omega) hp2 fun q hq => by
      rw [RR, Nat.testBit_two_pow]
      by_cases h : p = q
      · rw [decide_eq_true h, decide_eq_true h.symm]
      · rw [decide_eq_false h, decide_eq_false (fun z => h z.symm)]
  have h01 := b2_01 P.1
  unfold f_Rm_match fb_Rm_match_0 mtA
  rw [p3, kg_pos (by omega)]
  cases hP1 : P.1 with
  | false => rw [if_pos (show b2 false = 0 from rfl), if_neg (by simp), e13]
  | true =>
    rw [if_neg (show ¬ b2 true = 0 by decide)]
    unfold fb_Rm_match_7 fb_Rm_match_11
    rw [kg_pos (by omega)]
    by_cases h0 : p = 0
    · rw [if_pos (by omega), if_neg (by simp [h0]), e13]
    · rw [if_neg (by omega), if_pos ⟨rfl, h0⟩]
theorem R_some {ks : List Int} {σ : kS} {P : Pt} {T : Tx} {r : Nat} {xr : Int} (hP : PRt ks σ P) (hT : RT σ 0 T) (hpr : printable T) (hxr : xr = r) (hr : r < T.length) : f_Rm_somewhere xr σ = some (some (b2 (innA ks P (ln T r))), σ) := by
  subst hxr
  have hl := hT.1
  have h20 := (hT.2 r hr).2.1
  have hsz : σ 21 0 r = (ln T r).length := by
    have := Q_sz (xp := (r : Int)) rfl hT hr
    rw [Int.toNat_natCast] at this
    exact this
  have hloop : ∀ (m n p : Nat) (y : Bool), p + m = (ln T r).length + 1 → m < n → fl_Rm_somewhere_4 n (r : Int) (b2 y) (p : Int) σ = some (some (b2 (y || anyF (fun p => decide (0 ≤ mtA ks P (ln T r) p)) p m)), σ) := by
    intro m
    induction m with
    | zero =>
      intro n p y h1 h2
      obtain ⟨n, rfl⟩ : ∃ n', n = n' + 1 := ⟨n - 1, by omega⟩
      simp only [fl_Rm_somewhere_4, fb_Rm_somewhere_4, fb_Rm_somewhere_39]
      rw [Int.toNat_natCast, hsz, kg_pos (by omega), if_pos (by omega), kg_pos (b2_01 y), anyF, Bool.or_false]
    | succ m ih =>
      intro n p y h1 h2
      obtain ⟨n, rfl⟩ : ∃ n', n = n' + 1 := ⟨n - 1, by omega⟩
      have h01 := b2_01 y
      simp only [fl_Rm_somewhere_4, fb_Rm_somewhere_4, fb_Rm_somewhere_14]
      rw [Int.toNat_natCast, hsz, kg_pos (by omega), if_neg (by omega), kg_pos (by omega), anyF]
      cases y with
      | true =>
        rw [if_neg (show ¬ b2 true = 0 by decide)]
        have := ih n (p + 1) true (by omega) (by omega)
        rw [Bool.true_or] at this ⊢
        exact this
      | false =>
        rw [if_pos (show b2 false = 0 from rfl)]
        unfold fb_Rm_somewhere_18
        have hm : -1 ≤ mtA ks P (ln T r) p ∧ mtA ks P (ln T r) p ≤ 100 := by
          unfold mtA
          split
          · omega
          · have := gr_rng (ovF P (ln T r) fun q => RR (stF P) (tkF ks P (ln T r)) (fun z => decide (z = p)) P.2.2.length q) p ((ln T r).length - p)
            omega
        rw [kbi_eq (R_match hP hT hpr rfl rfl hr (by omega))]
        unfold fb_Rm_somewhere_24 fb_Rm_somewhere_31 fb_Rm_somewhere_27 fb_Rm_somewhere_32
        rw [kg_pos (by omega), Bool.false_or]
        by_cases h : mtA ks P (ln T r) p < 0
        · rw [if_pos h, decide_eq_false (by omega)]
          exact ih n (p + 1) false (by omega) (by omega)
        · rw [if_neg h, decide_eq_true (by omega)]
          exact ih n (p + 1) true (by omega) (by omega)
  have := hloop ((ln T r).length + 1) 3000 0 false (by omega) (by omega)
  rw [Bool.false_or] at this
  exact this
