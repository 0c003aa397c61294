/-! Pure: the class's endOfMatch and isIn. -/
theorem ov_b2 {a : Bool} {P : Pt} {q z : Nat} {e : Int} (he : e = if q = z then 1 else 0) : b2 (a && (!P.2.1 || decide (e = 1))) = b2 (a && (!P.2.1 || decide (q = z))) := by
  by_cases h : q = z
  · rw [he, if_pos h, decide_eq_true h]
    rfl
  · rw [he, if_neg h, decide_eq_false h]
    rfl
theorem VV_step {ks : List Int} {P : Pt} {L : List Int} {bs : Nat → Bool} {q v : Nat} (hb : bs (q + 1) = false)
    (h0 : v.testBit 0 = (decide (0 < P.2.2.length) && XX (stF P) (tkF ks P L) bs P.2.2.length 0 q && tkD ks (atm P 0).1 (L.getD q 0) && stF P 0))
    (h1 : ∀ i, i < P.2.2.length → v.testBit (i + 1) = ((decide (i + 1 < P.2.2.length) && XX (stF P) (tkF ks P L) bs P.2.2.length (i + 1) q && tkD ks (atm P (i + 1)).1 (L.getD q 0) && stF P (i + 1)) || (decide (i < P.2.2.length) && XX (stF P) (tkF ks P L) bs P.2.2.length i q && tkD ks (atm P i).1 (L.getD q 0) && !stF P i))) :
    ∀ i, i ≤ P.2.2.length → v.testBit i = VV (stF P) (tkF ks P L) bs P.2.2.length i (q + 1) := by
  intro i hi
  cases i with
  | zero =>
    rw [VV, hb, Bool.false_or, h0]
    rfl
  | succ i =>
    rw [VV, h1 i (by omega)]
    rfl
theorem chr_at {T : Tx} {r q : Nat} (hr : r < T.length) (hpr : printable T) (hq : q ≤ (ln T r).length) : chr T r q = (if q = (ln T r).length then 0 else (ln T r).getD q 0) ∧ (chr T r q = 0 ↔ q = (ln T r).length) ∧ (chr T r q = 0 ∨ 32 ≤ chr T r q ∧ chr T r q ≤ 126) := by
  by_cases h : q = (ln T r).length
  · have : chr T r q = 0 := by
      unfold chr
      rw [if_neg (by rw [Int.toNat_natCast]; omega)]
    rw [this, if_pos h]
    exact ⟨rfl, ⟨fun _ => h, fun _ => rfl⟩, .inl rfl⟩
  · have hk := hpr r hr q (by omega)
    rw [chr_in hr (by omega), if_neg h]
    exact ⟨rfl, ⟨fun z => by omega, fun z => absurd z h⟩, .inr hk⟩
theorem C_endOf {ks : List Int} {σ : kS} {t : Nat} {P : Pt} {T : Tx} {r p : Nat} (hP : PCt ks σ t P) (hT : CT σ 0 T) (hc : σ 2 0 2 = T.length) (hpr : printable T) (hr : r < T.length) (hp : p ≤ (ln T r).length) : f_Pa_endOfMatch (r : Int) (p : Int) t σ = some (some (mtA ks P (ln T r) p), σ) := by
  have hl := hT.1
  have h20 := (hT.2 r hr).2.1
  have hP' := hP
  obtain ⟨p1, p2, p3, p4, -, -⟩ := hP'
  have hpw := pow_le9 (n := P.2.2.length + 1) (by omega)
  have e13 : fb_Pa_endOfMatch_13 (r : Int) (p : Int) t σ = some (some (gr (ovF P (ln T r) fun q => RR (stF P) (tkF ks P (ln T r)) (fun z => decide (z = p)) P.2.2.length q) p ((ln T r).length - p)), σ) := by
    unfold fb_Pa_endOfMatch_13
    rw [kbi_eq (P_sizeOf hT hc (by omega)), szo_in hr]
    unfold fb_Pa_endOfMatch_18
    -- the loop
    have hloop : ∀ (m n d v : Nat), p + d + m = (ln T r).length + 1 → m < n → v < 2 ^ (P.2.2.length + 1) → (∀ i, i ≤ P.2.2.length → v.testBit i = VV (stF P) (tkF ks P (ln T r)) (fun z => decide (z = p)) P.2.2.length i (p + d)) → ∀ en : Int, (d = 0 → en = -1) → (∀ d', d = d' + 1 → en = gr (ovF P (ln T r) fun q => RR (stF P) (tkF ks P (ln T r)) (fun z => decide (z = p)) P.2.2.length q) p d') → (0 < d ∨ 0 < m) → fl_Pa_endOfMatch_29 n (r : Int) (p : Int) ((ln T r).length : Int) (v : Int) en ((p + d : Nat) : Int) t σ = some (some (gr (ovF P (ln T r) fun q => RR (stF P) (tkF ks P (ln T r)) (fun z => decide (z = p)) P.2.2.length q) p ((ln T r).length - p)), σ) := by
      intro m
      induction m with
      | zero =>
        intro n d v h1 h2 h3 h4 en h5 h6 h7
        obtain ⟨n, rfl⟩ : ∃ n', n = n' + 1 := ⟨n - 1, by omega⟩
        have hd : d = ((ln T r).length - p) + 1 := by omega
        simp only [fl_Pa_endOfMatch_29, fb_Pa_endOfMatch_29, fb_Pa_endOfMatch_95]
        rw [kg_pos (by omega), if_pos (by omega), h6 _ hd]
      | succ m ih =>
        intro n d v h1 h2 h3 h4 en h5 h6 h7
        obtain ⟨n, rfl⟩ : ∃ n', n = n' + 1 := ⟨n - 1, by omega⟩
        simp only [fl_Pa_endOfMatch_29, fb_Pa_endOfMatch_29]
        rw [kg_pos (by omega), if_neg (by omega)]
        unfold fb_Pa_endOfMatch_36
        rw [kg_pos (by omega)]
        by_cases hv0 : v = 0
        · -- no state is left
          rw [if_pos (by omega)]
          have hV0 : ∀ i, i ≤ P.2.2.length → VV (stF P) (tkF ks P (ln T r)) (fun z => decide (z = p)) P.2.2.length i (p + d) = false := fun i hi => by
            rw [← h4 i hi, hv0]
            exact Nat.zero_testBit i
          have hd : 0 < d := by
            rcases Nat.eq_zero_or_pos d with h | h
            · subst h
              have hh := VV_p (st := stF P) (tk := tkF ks P (ln T r)) (bs := fun z => decide (z = p)) (n := P.2.2.length) (p := p) (fun q hq => decide_eq_false (by omega)) (decide_eq_true rfl) 0
              have h2 : VV (stF P) (tkF ks P (ln T r)) (fun z => decide (z = p)) P.2.2.length 0 p = false := hV0 0 (by omega)
              rw [hh] at h2
              exact absurd h2 (by decide)
            · exact h
          obtain ⟨d', rfl⟩ : ∃ d', d = d' + 1 := ⟨d - 1, by omega⟩
          have hX : ∀ k, ∀ i, i ≤ P.2.2.length → XX (stF P) (tkF ks P (ln T r)) (fun z => decide (z = p)) P.2.2.length i (p + (d' + 1) + k) = false := by
            intro k
            induction k with
            | zero => exact XX_dead hV0
            | succ k ihk => exact XX_dead (VV_dead ihk (show decide (p + (d' + 1) + k + 1 = p) = false from decide_eq_false (by omega)))
          have hR : ∀ q, p + d' < q → ovF P (ln T r) (fun q => RR (stF P) (tkF ks P (ln T r)) (fun z => decide (z = p)) P.2.2.length q) q = false := by
            intro q hq
            have := hX (q - (p + (d' + 1))) P.2.2.length (Nat.le_refl _)
            rw [show p + (d' + 1) + (q - (p + (d' + 1))) = q by omega] at this
            unfold XX at this
            rw [if_neg (by omega)] at this
            show (RR (stF P) (tkF ks P (ln T r)) (fun z => decide (z = p)) P.2.2.length q && _) = false
            rw [this, Bool.false_and]
          have hgr : ∀ k, gr (ovF P (ln T r) fun q => RR (stF P) (tkF ks P (ln T r)) (fun z => decide (z = p)) P.2.2.length q) p (d' + k) = gr (ovF P (ln T r) fun q => RR (stF P) (tkF ks P (ln T r)) (fun z => decide (z = p)) P.2.2.length q) p d' := by
            intro k
            induction k with
            | zero => rfl
            | succ k ihk =>
              rw [← Nat.add_assoc, gr, hR _ (by omega)]
              simp only [Bool.false_eq_true, if_false]
              exact ihk
          unfold fb_Pa_endOfMatch_95
          rw [h6 d' rfl, ← hgr ((ln T r).length - p - d'), show d' + ((ln T r).length - p - d') = (ln T r).length - p by omega]
        · rw [if_neg (by omega)]
          unfold fb_Pa_endOfMatch_41
          obtain ⟨x, ex, hx, hX⟩ := C_pass (X := fun i => XX (stF P) (tkF ks P (ln T r)) (fun z => decide (z = p)) P.2.2.length i (p + d)) hP (XX_0 _ _ _ _ _) (fun i hi => XX_s _ _ _ _ _ _ hi) h3 h4
          rw [kbi_eq ex]
          unfold fb_Pa_endOfMatch_47 fb_Pa_endOfMatch_59 fb_Pa_endOfMatch_63
          rw [kg_pos (by omega)]
          have e64 : (if ((p + d : Nat) : Int) = ((ln T r).length : Int) then fb_Pa_endOfMatch_64 (fl_Pa_endOfMatch_29 n) (r : Int) (p : Int) ((ln T r).length : Int) (x : Int) en ((p + d : Nat) : Int) 1 (x : Int) t σ else fb_Pa_endOfMatch_64 (fl_Pa_endOfMatch_29 n) (r : Int) (p : Int) ((ln T r).length : Int) (x : Int) en ((p + d : Nat) : Int) 0 (x : Int) t σ) = fb_Pa_endOfMatch_64 (fl_Pa_endOfMatch_29 n) (r : Int) (p : Int) ((ln T r).length : Int) (x : Int) en ((p + d : Nat) : Int) (if p + d = (ln T r).length then 1 else 0) (x : Int) t σ := by
            by_cases h : p + d = (ln T r).length
            · rw [if_pos (by omega), if_pos h]
            · rw [if_neg (by omega), if_neg h]
          rw [e64]
          unfold fb_Pa_endOfMatch_64
          have hXN : x.testBit P.2.2.length = RR (stF P) (tkF ks P (ln T r)) (fun z => decide (z = p)) P.2.2.length (p + d) := by
            rw [hX P.2.2.length (Nat.le_refl _)]
            unfold XX
            rw [if_neg (by omega)]
          rw [kbi_eq (C_over hP hx hXN (by split; exact .inr rfl; exact .inl rfl)), ov_b2 rfl]
          -- what is found so far
          have e74 : fb_Pa_endOfMatch_67 (fl_Pa_endOfMatch_29 n) (r : Int) (p : Int) ((ln T r).length : Int) (x : Int) en ((p + d : Nat) : Int) (b2 (RR (stF P) (tkF ks P (ln T r)) (fun z => decide (z = p)) P.2.2.length (p + d) && (!P.2.1 || decide (p + d = (ln T r).length)))) t σ = fb_Pa_endOfMatch_74 (fl_Pa_endOfMatch_29 n) (r : Int) (p : Int) ((ln T r).length : Int) (x : Int) (gr (ovF P (ln T r) fun q => RR (stF P) (tkF ks P (ln T r)) (fun z => decide (z = p)) P.2.2.length q) p d) ((p + d : Nat) : Int) t σ := by
            unfold fb_Pa_endOfMatch_67 fb_Pa_endOfMatch_70
            have h01 := b2_01 (RR (stF P) (tkF ks P (ln T r)) (fun z => decide (z = p)) P.2.2.length (p + d) && (!P.2.1 || decide (p + d = (ln T r).length)))
            rw [kg_pos (by omega)]
            have hov : ovF P (ln T r) (fun q => RR (stF P) (tkF ks P (ln T r)) (fun z => decide (z = p)) P.2.2.length q) (p + d) = (RR (stF P) (tkF ks P (ln T r)) (fun z => decide (z = p)) P.2.2.length (p + d) && (!P.2.1 || decide (p + d = (ln T r).length))) := rfl
            rw [← hov]
            cases d with
            | zero =>
              have hen := h5 rfl
              rw [gr]
              cases ho : ovF P (ln T r) (fun q => RR (stF P) (tkF ks P (ln T r)) (fun z => decide (z = p)) P.2.2.length q) (p + 0) with
              | true =>
                rw [if_neg (show ¬ b2 true = 0 by decide), if_pos rfl]
                rfl
              | false =>
                rw [if_pos (show b2 false = 0 from rfl), hen]
                rfl
            | succ d' =>
              have hen := h6 d' rfl
              rw [gr]
              have hq : p + d' + 1 = p + (d' + 1) := by omega
              rw [hq]
              cases ho : ovF P (ln T r) (fun q => RR (stF P) (tkF ks P (ln T r)) (fun z => decide (z = p)) P.2.2.length q) (p + (d' + 1)) with
              | true => rw [if_neg (show ¬ b2 true = 0 by decide), if_pos rfl]
              | false =>
                rw [if_pos (show b2 false = 0 from rfl), hen]
                rfl
          rw [e74]
          unfold fb_Pa_endOfMatch_74
          obtain ⟨q1, q2, q3⟩ := chr_at (q := p + d) hr hpr (by omega)
          rw [kbi_eq (P_codeAt hT hc (by omega) (by omega))]
          unfold fb_Pa_endOfMatch_84
          obtain ⟨v', ev, hv1, hv2, hv3⟩ := C_step (X := fun i => XX (stF P) (tkF ks P (ln T r)) (fun z => decide (z = p)) P.2.2.length i (p + d)) hP hx hX q3
          rw [kbi_eq ev]
          unfold fb_Pa_endOfMatch_87
          by_cases hend : p + d = (ln T r).length
          · -- behind the last character
            have hm : m = 0 := by omega
            subst hm
            have hz : v' = 0 := hv2 (q2.mpr hend)
            obtain ⟨n, rfl⟩ : ∃ n', n = n' + 1 := ⟨n - 1, by omega⟩
            simp only [fl_Pa_endOfMatch_29, fb_Pa_endOfMatch_29, fb_Pa_endOfMatch_95]
            rw [kg_pos (by omega), if_pos (by omega), show d = (ln T r).length - p by omega]
          · have hne : chr T r ((p + d : Nat) : Int) ≠ 0 := fun z => hend (q2.mp z)
            obtain ⟨z0, z1⟩ := hv3 hne
            rw [q1, if_neg hend] at z0 z1
            exact ih n (d + 1) v' (by omega) (by omega) hv1 (VV_step (q := p + d) (decide_eq_false (by omega)) z0 z1) _ (fun h => absurd h (by omega)) (fun d'' hd'' => by rw [show d'' = d by omega]) (.inl (by omega))
    exact hloop ((ln T r).length + 1 - p) 3000 0 1 (by omega) (by omega) (Nat.one_lt_two_pow (by omega)) (fun i hi => by
      show Nat.testBit 1 i = VV (stF P) (tkF ks P (ln T r)) (fun z => decide (z = p)) P.2.2.length i p
      rw [VV_p (bs := fun z => decide (z = p)) (p := p) (fun q hq => decide_eq_false (by omega)) (decide_eq_true rfl)]
      cases i with
      | zero => rfl
      | succ i =>
        rw [Nat.testBit_succ]
        show Nat.testBit 0 i = _
        rw [Nat.zero_testBit]
        rfl) (-1) (fun _ => rfl) (fun d' h => absurd h (by omega)) (.inr (by omega))
  unfold f_Pa_endOfMatch fb_Pa_endOfMatch_0 mtA
  rw [p3, kg_pos (by have := b2_01 P.1; omega)]
  cases hP1 : P.1 with
  | false =>
    rw [if_pos (show b2 false = 0 from rfl), if_neg (by simp), e13]
  | true =>
    rw [if_neg (show ¬ b2 true = 0 by decide)]
    unfold fb_Pa_endOfMatch_7 fb_Pa_endOfMatch_11
    rw [kg_pos (by omega)]
    by_cases h0 : p = 0
    · rw [if_pos (by omega), if_neg (by simp [h0]), e13]
    · rw [if_neg (by omega), if_pos ⟨rfl, h0⟩]
theorem anyF_iff {f : Nat → Bool} : ∀ (m q : Nat), anyF f q m = true ↔ ∃ j, q ≤ j ∧ j < q + m ∧ f j = true := by
  intro m
  induction m with
  | zero =>
    intro q
    unfold anyF
    exact ⟨fun h => absurd h (by decide), fun ⟨j, h1, h2, _⟩ => absurd h2 (by omega)⟩
  | succ m ih =>
    intro q
    unfold anyF
    rw [Bool.or_eq_true, ih]
    constructor
    · rintro (h | ⟨j, h1, h2, h3⟩)
      · exact ⟨q, Nat.le_refl q, by omega, h⟩
      · exact ⟨j, by omega, by omega, h3⟩
    · rintro ⟨j, h1, h2, h3⟩
      by_cases h : j = q
      · subst h
        exact .inl h3
      · exact .inr ⟨j, by omega, by omega, h3⟩
theorem inn_eq (ks : List Int) (P : Pt) (L : List Int) : anyF (ovF P L fun q => RR (stF P) (tkF ks P L) (fun r => !P.1 || decide (r = 0)) P.2.2.length q) 0 (L.length + 1) = innA ks P L := by
  rw [Bool.eq_iff_iff, anyF_iff]
  unfold innA
  rw [anyF_iff]
  constructor
  · rintro ⟨q, -, h2, h3⟩
    have h3' : (RR (stF P) (tkF ks P L) (fun r => !P.1 || decide (r = 0)) P.2.2.length q && (!P.2.1 || decide (q = L.length))) = true := h3
    rw [Bool.and_eq_true] at h3'
    obtain ⟨p, p1, p2, p3⟩ := (RR_or _ _).mp h3'.1
    refine ⟨p, by omega, by omega, ?_⟩
    have hb : ¬ (P.1 = true ∧ p ≠ 0) := by
      rintro ⟨z1, z2⟩
      rw [z1, decide_eq_false z2] at p2
      exact absurd p2 (by decide)
    refine decide_eq_true ?_
    unfold mtA
    rw [if_neg hb]
    by_cases h : gr (ovF P L fun q => RR (stF P) (tkF ks P L) (fun r => decide (r = p)) P.2.2.length q) p (L.length - p) < 0
    · have := (gr_neg _).mp h q p1 (by omega)
      have e : ovF P L (fun q => RR (stF P) (tkF ks P L) (fun r => decide (r = p)) P.2.2.length q) q = true := by
        show (RR (stF P) (tkF ks P L) (fun r => decide (r = p)) P.2.2.length q && (!P.2.1 || decide (q = L.length))) = true
        rw [p3, h3'.2]
        rfl
      rw [e] at this
      exact absurd this (by decide)
    · omega
  · rintro ⟨p, -, h2, h3⟩
    have h3' := of_decide_eq_true h3
    unfold mtA at h3'
    by_cases hb : P.1 = true ∧ p ≠ 0
    · rw [if_pos hb] at h3'
      exact absurd h3' (by decide)
    rw [if_neg hb] at h3'
    have hn : ¬ ∀ q, p ≤ q → q ≤ p + (L.length - p) → ovF P L (fun q => RR (stF P) (tkF ks P L) (fun r => decide (r = p)) P.2.2.length q) q = false := fun z => by
      have := (gr_neg _).mpr z
      omega
    have hex : ∃ q, p ≤ q ∧ q ≤ p + (L.length - p) ∧ ovF P L (fun q => RR (stF P) (tkF ks P L) (fun r => decide (r = p)) P.2.2.length q) q = true := by
      rcases Classical.em (∃ q, p ≤ q ∧ q ≤ p + (L.length - p) ∧ ovF P L (fun q => RR (stF P) (tkF ks P L) (fun r => decide (r = p)) P.2.2.length q) q = true) with z | z
      · exact z
      · refine absurd (fun q h4 h5 => ?_) hn
        cases hq : ovF P L (fun q => RR (stF P) (tkF ks P L) (fun r => decide (r = p)) P.2.2.length q) q with
        | true => exact absurd ⟨q, h4, h5, hq⟩ z
        | false => rfl
    obtain ⟨q, h4, h5, h6⟩ := hex
    have h6' : (RR (stF P) (tkF ks P L) (fun r => decide (r = p)) P.2.2.length q && (!P.2.1 || decide (q = L.length))) = true := h6
    rw [Bool.and_eq_true] at h6'
    refine ⟨q, by omega, by omega, ?_⟩
    show (RR (stF P) (tkF ks P L) (fun r => !P.1 || decide (r = 0)) P.2.2.length q && (!P.2.1 || decide (q = L.length))) = true
    have hb' : (!P.1 || decide (p = 0)) = true := by
      by_cases z : p = 0
      · rw [decide_eq_true z, Bool.or_true]
      · cases hp : P.1 with
        | true => exact absurd ⟨hp, z⟩ hb
        | false => rfl
    rw [(RR_or P.2.2.length q).mpr ⟨p, h4, hb', h6'.1⟩, h6'.2]
    rfl
theorem or1_bit {v i : Nat} : (v ||| 1).testBit i = (v.testBit i || decide (i = 0)) := by
  rw [Nat.testBit_or]
  cases i with
  | zero => rfl
  | succ i =>
    rw [Nat.testBit_succ 1]
    show (v.testBit (i + 1) || Nat.testBit 0 i) = _
    rw [Nat.zero_testBit]
    rfl
theorem C_isIn {ks : List Int} {σ : kS} {t : Nat} {P : Pt} {T : Tx} {r : Nat} (hP : PCt ks σ t P) (hT : CT σ 0 T) (hc : σ 2 0 2 = T.length) (hpr : printable T) (hr : r < T.length) : f_Pa_isIn (r : Int) t σ = some (some (b2 (innA ks P (ln T r))), σ) := by
  have hl := hT.1
  have h20 := (hT.2 r hr).2.1
  have hP' := hP
  obtain ⟨p1, p2, p3, p4, -, -⟩ := hP'
  have hpw := pow_le9 (n := P.2.2.length + 1) (by omega)
  have hb01 := b2_01 P.1
  unfold f_Pa_isIn fb_Pa_isIn_0
  rw [kbi_eq (P_sizeOf hT hc (by omega)), szo_in hr, ← inn_eq]
  unfold fb_Pa_isIn_5
  have hloop : ∀ (m n q v : Nat), q + m = (ln T r).length + 1 → m < n → v < 2 ^ (P.2.2.length + 1) → (∀ i, i ≤ P.2.2.length → VV (stF P) (tkF ks P (ln T r)) (fun r => !P.1 || decide (r = 0)) P.2.2.length i q = ((decide (i = 0) && (!P.1 || decide (q = 0))) || v.testBit i)) → fl_Pa_isIn_12 n (r : Int) ((ln T r).length : Int) (v : Int) (q : Int) t σ = some (some (b2 (anyF (ovF P (ln T r) fun q => RR (stF P) (tkF ks P (ln T r)) (fun r => !P.1 || decide (r = 0)) P.2.2.length q) q m)), σ) := by
    intro m
    induction m with
    | zero =>
      intro n q v h1 h2 h3 h4
      obtain ⟨n, rfl⟩ : ∃ n', n = n' + 1 := ⟨n - 1, by omega⟩
      simp only [fl_Pa_isIn_12, fb_Pa_isIn_12, fb_Pa_isIn_88]
      rw [kg_pos (by omega), if_pos (by omega)]
      rfl
    | succ m ih =>
      intro n q v h1 h2 h3 h4
      obtain ⟨n, rfl⟩ : ∃ n', n = n' + 1 := ⟨n - 1, by omega⟩
      simp only [fl_Pa_isIn_12, fb_Pa_isIn_12]
      rw [kg_pos (by omega), if_neg (by omega)]
      -- with or without a beginning here
      obtain ⟨w, ew, hw1, hw2⟩ : ∃ w : Nat, fb_Pa_isIn_18 (fl_Pa_isIn_12 n) (r : Int) ((ln T r).length : Int) (v : Int) (q : Int) t σ = fb_Pa_isIn_40 (fl_Pa_isIn_12 n) (r : Int) ((ln T r).length : Int) (v : Int) (q : Int) (w : Int) t σ ∧ w < 2 ^ (P.2.2.length + 1) ∧ ∀ i, i ≤ P.2.2.length → w.testBit i = VV (stF P) (tkF ks P (ln T r)) (fun r => !P.1 || decide (r = 0)) P.2.2.length i q := by
        have h1lt : (1 : Nat) < 2 ^ (P.2.2.length + 1) := Nat.one_lt_two_pow (by omega)
        have hor : v ||| 1 < 2 ^ (P.2.2.length + 1) := Nat.or_lt_two_pow h3 h1lt
        unfold fb_Pa_isIn_18 fb_Pa_isIn_26 fb_Pa_isIn_36 fb_Pa_isIn_31
        rw [p3, kg_pos (by omega), kg_pos (by omega)]
        by_cases hbs : (!P.1 || decide (q = 0)) = true
        · refine ⟨v ||| 1, ?_, hor, fun i hi => ?_⟩
          · rw [show (1 : Int) = ((1 : Nat) : Int) from rfl, kor_n (by omega) (by decide)]
            cases hp : P.1 with
            | false => rw [if_pos (show b2 false = 0 from rfl)]
            | true =>
              rw [if_neg (show ¬ b2 true = 0 by decide)]
              rw [hp] at hbs
              have : q = 0 := of_decide_eq_true hbs
              rw [if_pos (by omega)]
          · rw [or1_bit, h4 i hi, hbs, Bool.and_true, Bool.or_comm]
        · refine ⟨v, ?_, h3, fun i hi => ?_⟩
          · cases hp : P.1 with
            | false => exact absurd (by rw [hp]; rfl) hbs
            | true =>
              rw [if_neg (show ¬ b2 true = 0 by decide)]
              rw [hp] at hbs
              have : q ≠ 0 := fun z => hbs (by rw [decide_eq_true z]; rfl)
              rw [if_neg (by omega)]
          · rw [h4 i hi]
            have : (!P.1 || decide (q = 0)) = false := by
              cases hz : (!P.1 || decide (q = 0)) with
              | true => exact absurd hz hbs
              | false => rfl
            rw [this, Bool.and_false, Bool.false_or]
      rw [ew]
      unfold fb_Pa_isIn_40
      obtain ⟨x, ex, hx, hX⟩ := C_pass (X := fun i => XX (stF P) (tkF ks P (ln T r)) (fun r => !P.1 || decide (r = 0)) P.2.2.length i q) hP (XX_0 _ _ _ _ _) (fun i hi => XX_s _ _ _ _ _ _ hi) hw1 hw2
      rw [kbi_eq ex]
      unfold fb_Pa_isIn_43 fb_Pa_isIn_54 fb_Pa_isIn_58
      rw [kg_pos (by omega)]
      have e59 : (if (q : Int) = ((ln T r).length : Int) then fb_Pa_isIn_59 (fl_Pa_isIn_12 n) (r : Int) ((ln T r).length : Int) (x : Int) (q : Int) 1 (x : Int) t σ else fb_Pa_isIn_59 (fl_Pa_isIn_12 n) (r : Int) ((ln T r).length : Int) (x : Int) (q : Int) 0 (x : Int) t σ) = fb_Pa_isIn_59 (fl_Pa_isIn_12 n) (r : Int) ((ln T r).length : Int) (x : Int) (q : Int) (if q = (ln T r).length then 1 else 0) (x : Int) t σ := by
        by_cases h : q = (ln T r).length
        · rw [if_pos (by omega), if_pos h]
        · rw [if_neg (by omega), if_neg h]
      rw [e59]
      unfold fb_Pa_isIn_59
      have hXN : x.testBit P.2.2.length = RR (stF P) (tkF ks P (ln T r)) (fun r => !P.1 || decide (r = 0)) P.2.2.length q := by
        rw [hX P.2.2.length (Nat.le_refl _)]
        unfold XX
        rw [if_neg (by omega)]
      rw [kbi_eq (C_over hP hx hXN (by split; exact .inr rfl; exact .inl rfl)), ov_b2 rfl]
      have hov : ovF P (ln T r) (fun q => RR (stF P) (tkF ks P (ln T r)) (fun r => !P.1 || decide (r = 0)) P.2.2.length q) q = (RR (stF P) (tkF ks P (ln T r)) (fun r => !P.1 || decide (r = 0)) P.2.2.length q && (!P.2.1 || decide (q = (ln T r).length))) := rfl
      rw [← hov]
      unfold fb_Pa_isIn_62
      rw [anyF]
      cases ho : ovF P (ln T r) (fun q => RR (stF P) (tkF ks P (ln T r)) (fun r => !P.1 || decide (r = 0)) P.2.2.length q) q with
      | true =>
        rw [kg_pos (by decide), if_neg (by decide)]
        rfl
      | false =>
        rw [kg_pos (by decide), if_pos (show b2 false = 0 from rfl), Bool.false_or]
        unfold fb_Pa_isIn_67
        obtain ⟨q1, q2, q3⟩ := chr_at (q := q) hr hpr (by omega)
        rw [kbi_eq (P_codeAt hT hc (by omega) (by omega))]
        unfold fb_Pa_isIn_77
        obtain ⟨v', ev, hv1, hv2, hv3⟩ := C_step (X := fun i => XX (stF P) (tkF ks P (ln T r)) (fun r => !P.1 || decide (r = 0)) P.2.2.length i q) hP hx hX q3
        rw [kbi_eq ev]
        unfold fb_Pa_isIn_80
        by_cases hend : q = (ln T r).length
        · have hm : m = 0 := by omega
          subst hm
          obtain ⟨n, rfl⟩ : ∃ n', n = n' + 1 := ⟨n - 1, by omega⟩
          simp only [fl_Pa_isIn_12, fb_Pa_isIn_12, fb_Pa_isIn_88]
          rw [kg_pos (by omega), if_pos (by omega)]
          rfl
        · have hne : chr T r (q : Int) ≠ 0 := fun z => hend (q2.mp z)
          obtain ⟨z0, z1⟩ := hv3 hne
          rw [q1, if_neg hend] at z0 z1
          refine ih n (q + 1) v' (by omega) (by omega) hv1 fun i hi => ?_
          cases i with
          | zero =>
            rw [VV, z0, decide_eq_true rfl, Bool.true_and]
            rfl
          | succ i =>
            rw [VV, z1 i (by omega), decide_eq_false (show ¬ i + 1 = 0 by omega), Bool.false_and, Bool.false_or]
            rfl
  exact hloop ((ln T r).length + 1) 3000 0 0 (by omega) (by omega) (Nat.two_pow_pos _) fun i hi => by
    rw [Nat.zero_testBit, Bool.or_false]
    cases i with
    | zero =>
      rw [VV]
      rfl
    | succ i =>
      rw [VV]
      rfl
