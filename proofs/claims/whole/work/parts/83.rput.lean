/-! Pure: the reference puts the buffer, opens a line, exchanges the text for the OTHER. -/
theorem ins_take {α : Type} (d : α) {L Y : List α} {c k : Nat} (hc : c ≤ L.length) (hk : k < Y.length) : ins (ins L c (Y.take k)) (c + k) [Y.getD k d] = ins L c (Y.take (k + 1)) := by
  unfold ins
  have h2 : (L.take c).length = c := by
    rw [List.length_take]
    omega
  have h3 : (Y.take k).length = k := by
    rw [List.length_take]
    omega
  have h4 : Y.take (k + 1) = Y.take k ++ [Y.getD k d] := by
    rw [List.take_succ_eq_append_getElem hk, List.getD_eq_getElem?_getD, List.getElem?_eq_getElem hk]
    rfl
  have h5 : (L.take c ++ (Y.take k ++ L.drop c)).take (c + k) = L.take c ++ Y.take k := by
    rw [← List.append_assoc, List.take_append_of_le_length (by rw [List.length_append]; omega), List.take_of_length_le (by rw [List.length_append]; omega)]
  have h6 : (L.take c ++ (Y.take k ++ L.drop c)).drop (c + k) = L.drop c := by
    rw [← List.append_assoc, List.drop_append, List.drop_of_length_le (by rw [List.length_append]; omega), List.nil_append, List.length_append, h2, h3, Nat.sub_self, List.drop_zero]
  rw [h5, h6, h4, List.append_assoc, List.append_assoc]
theorem ins_nil' {α : Type} (L : List α) (c : Nat) : ins L c [] = L := by
  unfold ins
  rw [List.nil_append, List.take_append_drop]
theorem SR.insertAt {g : Int} {B : Option Tc} {x : Tc} {o : Option Tc} {b : Int × Tx} {q : Qd} {m : Md} {l : Int × List Int} {p a : Nat} {xp xa v : Int} (hxp : xp = p) (hxa : xa = a) (hp : p < x.1.length) (ha : a ≤ (ln x.1 p).length) (hs : (ln x.1 p).length < 20) : SR g B (f_Rm_insertAt xp xa v) none (x, o, b, q, m, l) ((x.1.set p (ins (ln x.1 p) a [v]), x.2), o, b, q, m, l) :=
  SR.t0 fun _ c => R_insertAt (T := x.1) hxp hxa c.1.1.1 c.1.1.2.1 hp ha hs
/-- copyLine from the buffer into the text -/
theorem SR.copyB {g : Int} {B : Option Tc} {x : Tc} {o : Option Tc} {b : Int × Tx} {q : Qd} {m : Md} {l : Int × List Int} {p r : Nat} {xp xr : Int} (hxp : xp = p) (hxr : xr = r) (hp : p < b.2.length) (hr : r < x.1.length) : SR g B (f_Rm_copyLine 4 xp 0 xr) none (x, o, b, q, m, l) ((x.1.set r (ln b.2 p), x.2), o, b, q, m, l) := by
  refine SR.t0 fun σ c => ?_
  have hT : TR (σ 20 0) (σ 21 0) x.1 := RT0.mp c.1.1.1
  have hB : RT σ 4 b.2 := c.1.2.2.1.2
  have hl := hT.1
  have hl4 := hB.1
  obtain ⟨b1, b2, b3⟩ := hB.2 p hp
  have e := R_copyLine (σ := σ) (xa := 4) (xb := 0) (a := 4) (p := p) (b := 0) (q := r) (σ 20 0) (σ 21 0) rfl hxp rfl hxr (by omega) (by omega) (by omega)
  rw [sM_id] at e
  refine ToR.mk' e (by rw [List.length_set]; exact c.1.1.2.1) ?_ ⟨fun j hj => ?_, fun j hj => ?_⟩
  · refine hT.set hr b2 (fun k hk hne => ⟨?_, fun i hi => ?_⟩) ?_ (fun i hi => ?_)
    · unfold cpG
      rw [if_neg (by omega)]
    · unfold cpF
      rw [if_neg (by omega)]
    · unfold cpG
      rw [if_pos (by omega), ← b1]
    · unfold cpF
      rw [if_pos (by omega), ← b3 i hi]
      exact congrArg (σ 20 0) (by omega)
  · unfold cpF
    rw [if_neg (by omega)]
  · unfold cpG
    rw [if_neg (by omega)]
theorem SR.putLL {g : Int} {B : Option Tc} {o : Option Tc} {b : Int × Tx} {q : Qd} {mm : Md} {l : Int × List Int} {p : Nat} (hb1 : (b.2.length : Int) = b.1) : ∀ (m n k : Nat) (T : Tx) (w : Int × Int), k + m = b.2.length → p ≤ T.length → T.length + b.2.length ≤ 10 → m < n → SR g B (fl_Rm_putLines_27 n (p : Int) (k : Int)) (some 3) ((ins T p (b.2.take k), w), o, b, q, mm, l) ((ins T p b.2, (p : Int), 0), o, b, q, mm, l) := by
  intro m
  induction m with
  | zero =>
    intro n k T w h1 h2 h3 h4
    obtain ⟨n, rfl⟩ : ∃ n', n = n' + 1 := ⟨n - 1, by omega⟩
    rw [List.take_of_length_le (by omega)]
    refine SR.cg (f := fb_Rm_putLines_58 (p : Int) (k : Int)) ?_ fun σ c => ?_
    · unfold fb_Rm_putLines_58
      exact SR.u SR.place SR.ret
    · have : σ 9 0 7 = b.1 := c.1.2.2.1.1
      simp only [fl_Rm_putLines_27, fb_Rm_putLines_27]
      rw [this, kg_pos (by omega), if_pos (by omega)]
  | succ m ih =>
    intro n k T w h1 h2 h3 h4
    obtain ⟨n, rfl⟩ : ∃ n', n = n' + 1 := ⟨n - 1, by omega⟩
    have e1 : (b.2.take k).length = k := by
      rw [List.length_take]
      omega
    have e3 : (ins T p (b.2.take k)).length = T.length + k := by
      rw [ins_len h2, e1]
    have e4 : (ins (ins T p (b.2.take k)) (p + k) [([] : List Int)]).set (p + k) (ln b.2 k) = ins T p (b.2.take (k + 1)) := by
      rw [ins_set (by omega)]
      exact ins_take [] h2 (by omega)
    refine SR.cg (f := fun σ => kbu (f_Rm_openLine ((p : Int) + k) σ) fun σ1 => kbu (f_Rm_copyLine 4 (k : Int) 0 ((p : Int) + k) σ1) fun σ2 => fl_Rm_putLines_27 n (p : Int) ((k + 1 : Nat) : Int) σ2) ?_ fun σ c => ?_
    · have hi := ih n (k + 1) T w (by omega) h2 h3 (by omega)
      rw [← e4] at hi
      refine SR.u (SR.openLine (p := p + k) (by omega) (show p + k ≤ (ins T p (b.2.take k)).length by omega) (show (ins T p (b.2.take k)).length < 10 by omega)) ?_
      exact SR.u (SR.copyB (x := (ins (ins T p (b.2.take k)) (p + k) [[]], w)) (r := p + k) rfl (by omega) (by omega) (show p + k < (ins (ins T p (b.2.take k)) (p + k) [[]]).length by rw [ins_len (by omega), e3, List.length_singleton]; omega)) hi
    · have : σ 9 0 7 = b.1 := c.1.2.2.1.1
      simp only [fl_Rm_putLines_27, fb_Rm_putLines_27, fb_Rm_putLines_35, fb_Rm_putLines_42, fb_Rm_putLines_52]
      rw [this, kg_pos (by omega), if_neg (by omega)]
      rfl
theorem SR.putCL {g : Int} {B : Option Tc} {o : Option Tc} {b : Int × Tx} {q : Qd} {mm : Md} {l : Int × List Int} {r a : Nat} (hb : b.2.length = 1) : ∀ (m n k : Nat) (T : Tx) (w : Int), k + m = (ln b.2 0).length → r < T.length → T.length ≤ 10 → a ≤ (ln T r).length → (ln T r).length + (ln b.2 0).length ≤ 20 → m < n → SR g B (fl_Rm_putCharacters_33 n (a : Int) (r : Int) ((ln b.2 0).length : Int) (k : Int)) (some 3) ((T.set r (ins (ln T r) a ((ln b.2 0).take k)), (r : Int), w), o, b, q, mm, l) ((T.set r (ins (ln T r) a (ln b.2 0)), (r : Int), (a : Int) + (ln b.2 0).length - 1), o, b, q, mm, l) := by
  intro m
  induction m with
  | zero =>
    intro n k T w h1 hr hl ha hs h4
    obtain ⟨n, rfl⟩ : ∃ n', n = n' + 1 := ⟨n - 1, by omega⟩
    rw [List.take_of_length_le (by omega)]
    refine SR.cg (f := fun σ => some (some 3, kup σ 24 0 0 ((a : Int) + (ln b.2 0).length - 1))) ?_ fun σ c => ?_
    · intro σ h
      obtain ⟨⟨c1, c2, c3, c4, c5, c6, c7⟩, c8⟩ := h
      refine ⟨_, rfl, ⟨⟨⟨c1.1, c1.2.1, c1.2.2.1, rfl⟩, ?_, c3, c4, c5, c6, c7⟩, c8⟩, frF.rfl.kup (by decide)⟩
      cases o with
      | none => exact c2
      | some y => exact c2
    · simp only [fl_Rm_putCharacters_33, fb_Rm_putCharacters_33, fb_Rm_putCharacters_65]
      rw [kg_pos (by omega), if_pos (by omega)]
  | succ m ih =>
    intro n k T w h1 hr hl ha hs h4
    obtain ⟨n, rfl⟩ : ∃ n', n = n' + 1 := ⟨n - 1, by omega⟩
    have e1 : ((ln b.2 0).take k).length = k := by
      rw [List.length_take]
      omega
    have e3 : (ins (ln T r) a ((ln b.2 0).take k)).length = (ln T r).length + k := by
      rw [ins_len ha, e1]
    have hi := ih n (k + 1) T w (by omega) hr hl ha hs (by omega)
    have e5 : ln (T.set r (ins (ln T r) a ((ln b.2 0).take k))) r = ins (ln T r) a ((ln b.2 0).take k) := by
      rw [ln_set hr, if_pos rfl]
    refine SR.cg (f := fun σ => kbu (f_Rm_insertAt (r : Int) ((a : Int) + k) ((ln b.2 0).getD k 0) σ) fun σ1 => fl_Rm_putCharacters_33 n (a : Int) (r : Int) ((ln b.2 0).length : Int) ((k + 1 : Nat) : Int) σ1) ?_ fun σ c => ?_
    · have hx := SR.insertAt (g := g) (B := B) (x := (T.set r (ins (ln T r) a ((ln b.2 0).take k)), (r : Int), w)) (o := o) (b := b) (q := q) (m := mm) (l := l) (p := r) (a := a + k) (xp := r) (xa := (a : Int) + k) (v := (ln b.2 0).getD k 0) rfl (by omega) (by rw [List.length_set]; exact hr) (by dsimp only; rw [e5]; omega) (by dsimp only; rw [e5]; omega)
      dsimp only at hx
      rw [e5, set_set, ins_take 0 ha (by omega)] at hx
      exact SR.u hx hi
    · have hB : RT σ 4 b.2 := c.1.2.2.1.2
      have h8 : σ 20 0 (800 + k) = (ln b.2 0).getD k 0 := by
        have := (hB.2 0 (by omega)).2.2 k (by omega)
        rw [← this]
        exact congrArg (σ 20 0) (by omega)
      simp only [fl_Rm_putCharacters_33, fb_Rm_putCharacters_33, fb_Rm_putCharacters_39, fb_Rm_putCharacters_59]
      rw [kg_pos (by omega), if_neg (by omega), kg_pos (by omega), show (800 + (k : Int)).toNat = 800 + k by omega, h8]
      rfl
theorem SR.putL {g : Int} {B : Option Tc} {x : Tc} {o : Option Tc} {b : Int × Tx} {q : Qd} {m : Md} {l : Int × List Int} {p : Nat} {xp : Int} (hxp : xp = p) (hx : wfX x) (hb : wfB b) (h0 : b.1 ≠ 0) (hp : p ≤ x.1.length) : SR g B (f_Rm_putLines xp) (some (if canP x b = 1 then 3 else 0)) (x, o, b, q, m, l) (if canP x b = 1 then ((ins x.1 p b.2, (p : Int), 0), o, b, q, m, l) else (x, o, b, q, m, l)) := by
  subst hxp
  have hb1 := hb.1
  have hb2 := hb.2.1
  obtain ⟨w1, w2, w3, w4, w5, w6, w7, w8⟩ := hx.sz
  unfold canP
  rw [if_neg h0]
  by_cases h : 0 < b.1 ∧ (x.1.length : Int) + b.1 ≤ 10
  · rw [if_pos h, if_pos rfl, if_pos rfl]
    obtain ⟨b1, b2⟩ := hb.p h.1
    have hL := SR.putLL (g := g) (B := B) (o := o) (b := b) (q := q) (mm := m) (l := l) (p := p) b1 b.2.length 3000 0 x.1 x.2 (by omega) hp (by omega) (by omega)
    rw [List.take_zero, ins_nil'] at hL
    refine SR.cg hL fun σ c => ?_
    have h7 : σ 9 0 7 = b.1 := c.1.2.2.1.1
    have h22 : σ 22 0 0 = x.1.length := c.1.1.2.1
    unfold f_Rm_putLines fb_Rm_putLines_0 fb_Rm_putLines_7 fb_Rm_putLines_25
    rw [h7, h22, kg_pos (by omega), if_neg (by omega), kg_pos (by omega), if_pos (by omega)]
    rfl
  · rw [if_neg h, if_neg (by decide), if_neg (by decide)]
    refine SR.read fun σ c => ?_
    have h7 : σ 9 0 7 = b.1 := c.1.2.2.1.1
    have h22 : σ 22 0 0 = x.1.length := c.1.1.2.1
    unfold f_Rm_putLines fb_Rm_putLines_0 fb_Rm_putLines_7 fb_Rm_putLines_23
    rw [h7, h22, kg_pos (by omega), kg_pos (by omega)]
    split
    · rfl
    · rw [if_neg (by omega)]
theorem SR.putC {g : Int} {B : Option Tc} {x : Tc} {o : Option Tc} {b : Int × Tx} {q : Qd} {m : Md} {l : Int × List Int} {k : Nat} {xk : Int} (hxk : xk = k) (hx : wfX x) (hb : wfB b) (h0 : b.1 = 0) (hk : k ≤ (ln x.1 x.2.1.toNat).length) : SR g B (f_Rm_putCharacters xk) (some (if canP x b = 1 then 3 else 0)) (x, o, b, q, m, l) (if canP x b = 1 then ((x.1.set x.2.1.toNat (ins (ln x.1 x.2.1.toNat) k (ln b.2 0)), x.2.1, (k : Int) + (ln b.2 0).length - 1), o, b, q, m, l) else (x, o, b, q, m, l)) := by
  subst hxk
  obtain ⟨b1, b2, b3⟩ := hb.z h0
  obtain ⟨w1, w2, w3, w4, w5, w6, w7, w8⟩ := hx.sz
  unfold canP
  rw [if_pos h0]
  have h40 : ∀ {σ}, RE2 g B (x, o, b, q, m, l) σ → σ 21 0 40 = (ln b.2 0).length := fun c => (c.1.2.2.1.2.2 0 (show 0 < b.2.length by omega)).1
  have hsz : ∀ {σ}, RE2 g B (x, o, b, q, m, l) σ → σ 21 0 x.2.1.toNat = (ln x.1 x.2.1.toNat).length := fun c => Q_sz (T := x.1) w8.symm c.1.1.1 w2
  by_cases h : (ln x.1 x.2.1.toNat).length + (ln b.2 0).length ≤ 20
  · rw [if_pos h, if_pos rfl, if_pos rfl]
    have hL := SR.putCL (g := g) (B := B) (o := o) (b := b) (q := q) (mm := m) (l := l) (r := x.2.1.toNat) (a := k) b1 (ln b.2 0).length 3000 0 x.1 x.2.2 (by omega) w2 w3 hk h (by omega)
    have e0 : x.1.set x.2.1.toNat (ln x.1 x.2.1.toNat) = x.1 := by
      refine gd_ext [] (List.length_set ..) fun p hp => ?_
      rw [gd_set _ _ _ w2]
      split
      · rename_i hh
        rw [hh]
        rfl
      · rfl
    rw [List.take_zero, ins_nil', e0, w8] at hL
    refine SR.cg hL fun σ c => ?_
    have h23 : σ 23 0 0 = x.2.1 := c.1.1.2.2.1
    unfold f_Rm_putCharacters fb_Rm_putCharacters_0 fb_Rm_putCharacters_30
    rw [h23, h40 c, hsz c, kg_pos (by omega), if_pos (by omega)]
    rfl
  · rw [if_neg h, if_neg (by decide), if_neg (by decide)]
    refine SR.read fun σ c => ?_
    have h23 : σ 23 0 0 = x.2.1 := c.1.1.2.2.1
    unfold f_Rm_putCharacters fb_Rm_putCharacters_0 fb_Rm_putCharacters_28
    rw [h23, h40 c, hsz c, kg_pos (by omega), if_neg (by omega)]
theorem rep_take {n k : Nat} (h : k ≤ n) : (List.replicate n (32 : Int)).take k = List.replicate k 32 := by
  rw [List.take_replicate]
  congr 1
  omega
theorem SR.blankL {g : Int} {B : Option Tc} {o : Option Tc} {b : Int × Tx} {q : Qd} {s : Int × Int} {l : Int × List Int} {p d : Nat} {x1 x2 x3 : Int} (hd : d ≤ 20) : ∀ (m n k : Nat) (T : Tx) (w : Int × Int), k + m = d → p ≤ T.length → T.length < 10 → m < n → SR g B (fl_Rm_simple_284 n x1 x2 x3 (d : Int) (p : Int) (k : Int)) (some 3) ((ins T p [List.replicate k 32], w), o, b, q, (0, s.1, s.2, []), l) ((ins T p [List.replicate d 32], (p : Int), (d : Int)), o, b, q, (1, (d : Int), 0, []), l) := by
  intro m
  induction m with
  | zero =>
    intro n k T w h1 h2 h3 h4
    obtain ⟨n, rfl⟩ : ∃ n', n = n' + 1 := ⟨n - 1, by omega⟩
    have hk : k = d := by omega
    subst hk
    refine SR.cg (f := fb_Rm_simple_307 x1 x2 x3 (k : Int) (p : Int) (k : Int)) ?_ fun σ c => ?_
    · unfold fb_Rm_simple_307
      exact SR.u (SR.bins (s := s)) SR.ret
    · simp only [fl_Rm_simple_284, fb_Rm_simple_284]
      rw [kg_pos (by omega), if_pos (by omega)]
  | succ m ih =>
    intro n k T w h1 h2 h3 h4
    obtain ⟨n, rfl⟩ : ∃ n', n = n' + 1 := ⟨n - 1, by omega⟩
    have hi := ih n (k + 1) T w (by omega) h2 h3 (by omega)
    have e3 : (ins T p [List.replicate k (32 : Int)]).length = T.length + 1 := ins_len h2
    have e5 : ln (ins T p [List.replicate k (32 : Int)]) p = List.replicate k 32 := by
      have : ln (ins T p [List.replicate k (32 : Int)]) p = _ := ins_gd [] h2 p
      rw [this, if_neg (by omega), if_pos (by rw [List.length_singleton]; omega), Nat.sub_self]
      rfl
    have e6 : ins (List.replicate k (32 : Int)) k [32] = List.replicate (k + 1) 32 := by
      unfold ins
      rw [List.take_of_length_le (by rw [List.length_replicate]; omega), List.drop_of_length_le (by rw [List.length_replicate]; omega), List.append_nil, List.replicate_succ']
    refine SR.cg (f := fun σ => kbu (f_Rm_insertAt (p : Int) (k : Int) 32 σ) fun σ1 => fl_Rm_simple_284 n x1 x2 x3 (d : Int) (p : Int) ((k + 1 : Nat) : Int) σ1) ?_ fun σ c => ?_
    · have hx := SR.insertAt (g := g) (B := B) (x := (ins T p [List.replicate k (32 : Int)], w)) (o := o) (b := b) (q := q) (m := (0, s.1, s.2, [])) (l := l) (p := p) (a := k) (xp := p) (xa := k) (v := 32) rfl rfl (by dsimp only; omega) (by dsimp only; rw [e5, List.length_replicate]; omega) (by dsimp only; rw [e5, List.length_replicate]; omega)
      dsimp only at hx
      rw [e5, e6, ins_set h2] at hx
      exact SR.u hx hi
    · simp only [fl_Rm_simple_284, fb_Rm_simple_284, fb_Rm_simple_291, fb_Rm_simple_301]
      rw [kg_pos (by omega), if_neg (by omega)]
      rfl
theorem SR.undA1 {g : Int} {B : Option Tc} {x : Tc} {o : Option Tc} {b : Int × Tx} {q : Qd} {m : Md} {l : Int × List Int} {x1 x2 x3 : Int} : SR g B (fb_Rm_simple_155 x1 x2 x3) (some (if o.isSome then 2 else 0)) (x, o, b, q, m, l) (undA (x, o, b, q, m, l)) := by
  cases o with
  | none =>
    refine SR.read fun σ c => ?_
    have : σ 9 0 6 = 0 := c.1.2.1
    unfold fb_Rm_simple_155
    rw [this, kg_pos (by decide), if_pos rfl]
    rfl
  | some y =>
    intro σ c
    obtain ⟨⟨c1, ⟨c2, c2'⟩, c3, c4, c5, c6, c7⟩, c8⟩ := c
    have h6 : σ 9 0 6 = 1 := c2
    have hx0 : RX σ 0 x := c1
    have hx1 : RX σ 1 y := c2'
    have hB : RT σ 4 b.2 := c3.2
    unfold fb_Rm_simple_155
    rw [h6, kg_pos (by decide), if_neg (by decide)]
    unfold fb_Rm_simple_164
    rw [kbu_eq (R_copyText (a := 1) (b := 3) (xa := 1) (xb := 3) rfl rfl (by decide) (by decide) (by decide))]
    unfold fb_Rm_simple_170
    rw [kbu_eq (R_copyText (a := 0) (b := 1) (xa := 0) (xb := 1) rfl rfl (by decide) (by decide) (by decide))]
    unfold fb_Rm_simple_176
    rw [kbu_eq (R_copyText (a := 3) (b := 0) (xa := 3) (xb := 0) rfl rfl (by decide) (by decide) (by decide))]
    have t3 : RX (sX σ 1 3) 3 y := sX_b hx1
    have t0 : RX (sX σ 1 3) 0 x := sX_x hx0 (by decide)
    have u1 : RX (sX (sX σ 1 3) 0 1) 1 x := sX_b t0
    have u3 : RX (sX (sX σ 1 3) 0 1) 3 y := sX_x t3 (by decide)
    have v0 : RX (sX (sX (sX σ 1 3) 0 1) 3 0) 0 y := sX_b u3
    have v1 : RX (sX (sX (sX σ 1 3) 0 1) 3 0) 1 x := sX_x u1 (by decide)
    have v2 : ∀ z, B = some z → RX (sX (sX (sX σ 1 3) 0 1) 3 0) 2 z := fun z hz => sX_x (sX_x (sX_x (c8 z hz) (by decide)) (by decide)) (by decide)
    have v4 : RT (sX (sX (sX σ 1 3) 0 1) 3 0) 4 b.2 := sX_T (sX_T (sX_T hB (by decide)) (by decide)) (by decide)
    have vf : frF σ (sX (sX (sX σ 1 3) 0 1) 3 0) := ((frF.rfl.sX (by decide)).sX (by decide)).sX (by decide)
    have vo : ∀ k, (k < 20 ∨ 24 < k) → ∀ i, sX (sX (sX σ 1 3) 0 1) 3 0 k i = σ k i := fun k hk i => by
      rw [sX_o _ _ _ hk, sX_o _ _ _ hk, sX_o _ _ _ hk]
    generalize sX (sX (sX σ 1 3) 0 1) 3 0 = τ at v0 v1 v2 v4 vf vo ⊢
    refine ⟨τ, rfl, ⟨⟨v0, ⟨?_, v1⟩, ⟨?_, v4⟩, ?_, ?_, ?_, ?_⟩, v2⟩, vf⟩
    · rw [vo 9 (.inl (by decide))]
      exact h6
    · rw [vo 9 (.inl (by decide))]
      exact c3.1
    · unfold RQ
      rw [vo 9 (.inl (by decide)), vo 25 (.inr (by decide))]
      exact c4
    · unfold RM
      rw [vo 9 (.inl (by decide)), vo 27 (.inr (by decide))]
      exact c5
    · unfold RL
      rw [vo 9 (.inl (by decide)), vo 26 (.inr (by decide))]
      exact c6
    · rw [vo 9 (.inl (by decide))]
      exact c7
