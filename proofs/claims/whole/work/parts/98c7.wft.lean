/-! Pure: texts stay as they must be: what the command line leaves. -/
def okL (L : List Int) : Prop := L.length ≤ 20 ∧ ∀ c ∈ L, 32 ≤ c ∧ c ≤ 126
theorem gdm {α : Type} {X : List α} {d : α} {k : Nat} (h : k < X.length) : X.getD k d ∈ X := by
  rw [List.getD_eq_getElem?_getD, List.getElem?_eq_getElem h]
  exact List.getElem_mem h
theorem gall {α : Type} {Q : α → Prop} {d : α} : ∀ {X : List α}, (∀ i, i < X.length → Q (X.getD i d)) → ∀ c ∈ X, Q c := by
  intro X
  induction X with
  | nil => intro _ c hc; exact nomatch hc
  | cons a X ih =>
    intro h c hc
    rcases List.mem_cons.1 hc with rfl | hc
    · exact h 0 (by simp)
    · exact ih (fun i hi => h (i + 1) (by rw [List.length_cons]; omega)) c hc
theorem okT_iff {T : Tx} : (printable T ∧ ∀ p, p < T.length → (ln T p).length ≤ 20) ↔ ∀ L ∈ T, okL L := by
  constructor
  · intro h
    exact gall (d := []) fun i hi => ⟨h.2 i hi, gall (d := 0) fun c hc => h.1 i hi c hc⟩
  · intro h
    exact ⟨fun p hp c hc => (h _ (gdm (d := []) hp)).2 _ (gdm hc), fun p hp => (h _ (gdm (d := []) hp)).1⟩
theorem wfT_iff {T : Tx} : wfText T ↔ 0 < T.length ∧ T.length ≤ 10 ∧ ∀ L ∈ T, okL L := ⟨fun h => ⟨h.1, h.2.1, okT_iff.1 ⟨h.2.2.1, h.2.2.2⟩⟩, fun h => ⟨h.1, h.2.1, (okT_iff.2 h.2.2).1, (okT_iff.2 h.2.2).2⟩⟩
theorem wfT.ok {T : Tx} (h : wfText T) : ∀ L ∈ T, okL L := (wfT_iff.1 h).2.2
theorem okL_ln {T : Tx} (h : wfText T) (p : Nat) : okL (ln T p) := by
  by_cases hp : p < T.length
  · exact wfT.ok h _ (gdm (d := []) hp)
  · have : ln T p = [] := gd_ge T [] (by omega)
    rw [this]
    exact ⟨Nat.zero_le _, fun c hc => nomatch hc⟩
theorem slc_mem' {α : Type} {X : List α} {a b : Nat} {c : α} (h : c ∈ slc X a b) : c ∈ X := List.mem_of_mem_drop (List.mem_of_mem_take h)
theorem cut_mem {α : Type} {X : List α} {a b : Nat} {c : α} (h : c ∈ cut X a b) : c ∈ X := by
  unfold cut at h
  rcases List.mem_append.1 h with h | h
  · exact List.mem_of_mem_take h
  · exact List.mem_of_mem_drop h
theorem ins_mem {α : Type} {X Y : List α} {a : Nat} {c : α} (h : c ∈ ins X a Y) : c ∈ X ∨ c ∈ Y := by
  unfold ins at h
  rcases List.mem_append.1 h with h | h
  · exact .inl (List.mem_of_mem_take h)
  · rcases List.mem_append.1 h with h | h
    · exact .inr h
    · exact .inl (List.mem_of_mem_drop h)
theorem set_mem {α : Type} {X : List α} {i : Nat} {y c : α} (h : c ∈ X.set i y) : c ∈ X ∨ c = y := List.mem_or_eq_of_mem_set h
theorem wfT_set {T : Tx} {i : Nat} {L : List Int} (h : wfText T) (hL : okL L) : wfText (T.set i L) := by
  obtain ⟨h1, h2, h3⟩ := wfT_iff.1 h
  refine wfT_iff.2 ⟨by rw [List.length_set]; exact h1, by rw [List.length_set]; exact h2, fun M hM => ?_⟩
  rcases set_mem hM with h | rfl
  · exact h3 M h
  · exact hL
theorem dropX_wf {T : Tx} {i j : Nat} (h : wfText T) (hij : i ≤ j) (hj : j < T.length) : wfX (dropX T i j) ∧ onC (dropX T i j) := by
  obtain ⟨l1, l2⟩ := dropX_len hij hj
  have hw : wfText (dropT T i j) := by
    refine wfT_iff.2 ⟨l1, by have := h.2.1; omega, fun L hL => ?_⟩
    unfold dropT orE at hL
    split at hL
    · rw [List.mem_singleton.1 hL]
      exact ⟨Nat.zero_le _, fun c hc => nomatch hc⟩
    · exact wfT.ok h L (cut_mem hL)
  unfold dropX
  refine ⟨⟨hw, ?_, ?_, Int.le_refl 0, Int.natCast_nonneg _⟩, .inr rfl⟩
  · unfold cl
    dsimp only
    omega
  · unfold cl
    dsimp only
    omega
theorem wfB_ln {T : Tx} {i j : Nat} (h : wfText T) (hij : i ≤ j) (hj : j < T.length) : wfB ((j : Int) - i + 1, slc T i (j + 1)) := by
  have hs := slc_len (X := T) (a := i) (b := j + 1) (by omega)
  have hok := okT_iff.2 (fun L hL => wfT.ok h L (slc_mem' (X := T) (a := i) (b := j + 1) hL))
  have := h.2.1
  refine ⟨by dsimp only; omega, by dsimp only; omega, ?_, hok.1, hok.2, fun h0 => ?_⟩
  · dsimp only
    rw [if_neg (by omega), hs]
    omega
  · dsimp only at h0
    omega
theorem exF_wf {f : List Int → List Int × Bool} (hf : ∀ L, okL L → ∀ c ∈ (f L).1, 32 ≤ c ∧ c ≤ 126) : ∀ (N : List Nat) (T : Tx) (ch : Option Nat) (r : Tx × Option Nat), wfText T → (∀ p ∈ N, p < T.length) → exF f N (T, ch) = some r → wfText r.1 ∧ r.1.length = T.length ∧ (r = (T, ch) ∨ ∃ p, r.2 = some p ∧ p < T.length) := by
  intro N
  induction N with
  | nil =>
    intro T ch r h1 h2 h3
    cases h3
    exact ⟨h1, rfl, .inl rfl⟩
  | cons p N ih =>
    intro T ch r h1 h2 h3
    unfold exF at h3
    dsimp only at h3
    have hp := h2 p (List.mem_cons_self ..)
    split at h3
    · split at h3
      · exact nomatch h3
      · have := ih (T.set p (f (ln T p)).1) (some p) r (wfT_set h1 ⟨by omega, hf _ (okL_ln h1 p)⟩) (fun i hi => by rw [List.length_set]; exact h2 i (List.mem_cons_of_mem _ hi)) h3
        rw [List.length_set] at this
        refine ⟨this.1, this.2.1, .inr ?_⟩
        rcases this.2.2 with h | h
        · exact ⟨p, by rw [h], hp⟩
        · exact h
    · exact ih T ch r h1 (fun i hi => h2 i (List.mem_cons_of_mem _ hi)) h3
theorem dlF_wf {n0 : Nat} : ∀ (N : List Nat) (k : Nat) (s : Tc × Int × Tx), (∀ i, i < N.length → k + i ≤ N.getD i 0 ∧ N.getD i 0 < n0) → wfX s.1 ∧ onC s.1 → wfB s.2 → (k < n0 → s.1.1.length = n0 - k) → (wfX (dlF N k s).1 ∧ onC (dlF N k s).1) ∧ wfB (dlF N k s).2 := by
  intro N
  induction N with
  | nil => intro k s _ h1 h2 _; exact ⟨h1, h2⟩
  | cons p N ih =>
    intro k s hN h1 h2 h3
    obtain ⟨q1, q2⟩ : k + 0 ≤ p ∧ p < n0 := hN 0 (by rw [List.length_cons]; omega)
    have hl := h3 (by omega)
    unfold dlF
    have hdl := dropX_n1 (T := s.1.1) (i := p - k) (by omega)
    refine ih (k + 1) _ (fun i hi => ?_) (dropX_wf h1.1.1 (Nat.le_refl _) (by omega)) (wfB_ln h1.1.1 (Nat.le_refl _) (by omega)) (fun h => by dsimp only; omega)
    have : k + (i + 1) ≤ N.getD i 0 ∧ N.getD i 0 < n0 := hN (i + 1) (by rw [List.length_cons]; omega)
    omega
/-- what a change leaves -/
theorem chgA_wf {ks : List Int} {gl : Option Pt} {e : Option Ex} {a b : Nat} {x : Tc} {bf : Int × Tx} {r : Tc × Int × Tx} (hks : ∀ c ∈ ks, 32 ≤ c ∧ c ≤ 126) (he : ∀ v, e = some v → v.2.2.1 < ks.length) (hx : wfX x) (hon : onC x) (hbf : wfB bf) (hab : a ≤ b) (hb : b < x.1.length) (h : chgA ks gl e a b x bf = some r) : (wfX r.1 ∧ onC r.1) ∧ wfB r.2 := by
  have hge : ∀ i, i < (nts ks gl x.1 a b).length → a + i ≤ (nts ks gl x.1 a b).getD i 0 ∧ (nts ks gl x.1 a b).getD i 0 < a + (b + 1 - a) := fun i hi => ntL_ge _ _ _ hi
  have hin : ∀ p ∈ nts ks gl x.1 a b, p < x.1.length := fun p hp => by
    have := ntL_in _ _ _ hp
    omega
  unfold chgA at h
  split at h
  · exact nomatch h
  · cases e with
    | none =>
      have h' : some (gl.elim (dropX x.1 a b, ((b : Int) - a + 1, slc x.1 a (b + 1))) fun _ => dlF (nts ks gl x.1 a b) 0 (x, bf)) = some r := h
      cases h'
      cases gl with
      | none => exact ⟨dropX_wf hx.1 hab hb, wfB_ln hx.1 hab hb⟩
      | some P => exact dlF_wf (n0 := x.1.length) _ 0 (x, bf) (fun i hi => by have := hge i hi; omega) ⟨hx, hon⟩ hbf (fun _ => by dsimp only; omega)
    | some v =>
      have hev := he v rfl
      have h' : ((exF (lnB ks v.1 v.2.1 v.2.2.1 v.2.2.2) (nts ks gl x.1 a b) (x.1, none)).elim none fun r => if r.2.isNone && gl.isNone then none else some ((r.1, r.2.elim x.2 fun p => ((p : Int), 0)), bf)) = some r := h
      cases hE : exF (lnB ks v.1 v.2.1 v.2.2.1 v.2.2.2) (nts ks gl x.1 a b) (x.1, none) with
      | none =>
        rw [hE] at h'
        exact nomatch h'
      | some u =>
        rw [hE] at h'
        have h'' : (if u.2.isNone && gl.isNone then none else some ((u.1, u.2.elim x.2 fun p => ((p : Int), 0)), bf)) = some r := h'
        obtain ⟨u1, u2, u3⟩ := exF_wf (fun L hL => lnB_pr hL.2 hks hev) _ _ _ _ hx.1 hin hE
        split at h''
        · exact nomatch h''
        · cases h''
          refine ⟨?_, hbf⟩
          rcases u3 with rfl | ⟨p, hp, hpl⟩
          · exact ⟨hx, hon⟩
          · rw [hp]
            show wfX (u.1, (p : Int), 0) ∧ onC (u.1, (p : Int), 0)
            refine ⟨⟨u1, Int.natCast_nonneg _, ?_, Int.le_refl 0, Int.natCast_nonneg _⟩, .inr rfl⟩
            dsimp only
            omega
theorem wfD_jo {D : kDk} {fs : Int} {T : Tx} {a b : Nat} (hD : wfD D) (hT : wfText T) (hfs : fs = 0 ∨ fs = 1) (hab : a ≤ b) (hb : b < T.length) (h3 : D.2.2.length < 3) : wfD (joA D fs T a b) := by
  obtain ⟨d1, d2, d3, d4⟩ := hD
  have hl : (joA D fs T a b).2.2.length = D.2.2.length + 1 := by
    show (D.2.2 ++ [_]).length = _
    rw [List.length_append, List.length_singleton]
  refine ⟨d1, d2, by omega, fun k hk => ?_⟩
  rw [hl] at hk
  have hjb : jb (joA D fs T a b) k = if k < D.2.2.length then jb D k else if k = D.2.2.length then (fs, (b : Int) - a + 2, slc T a (b + 1)) else (0, 0, []) := gd_job D _ k
  rw [hjb]
  by_cases z1 : k < D.2.2.length
  · rw [if_pos z1]
    exact d4 k z1
  · rw [if_neg z1, if_pos (by omega)]
    have hs := slc_len (X := T) (a := a) (b := b + 1) (by omega)
    have := hT.2.1
    refine ⟨hfs, by dsimp only; omega, by dsimp only; omega, wfT_iff.2 ⟨by dsimp only; omega, by dsimp only; omega, fun L hL => wfT.ok hT L (slc_mem' hL)⟩⟩
theorem ccP_e {ks : List Int} {k : Nat} {v : Ex} (h : ccP ks k = some (some v)) : v.2.2.1 < ks.length := by
  unfold ccP at h
  split at h
  · split at h
    · exact nomatch h
    · exact nomatch h
  · split at h
    · cases hee : exP ks (k + 1) with
      | none =>
        rw [hee] at h
        exact nomatch h
      | some u =>
        rw [hee] at h
        have h' : (if u.2 = ks.length then some (some u.1) else none) = some (some v) := h
        split at h'
        · cases h'
          unfold exP at hee
          split at hee
          · cases hd : dlA ks (k + 1) with
            | none =>
              rw [hd] at hee
              exact nomatch hee
            | some d =>
              rw [hd] at hee
              have hee' : (if ks.length ≤ skE ks 40 d.2 then none else some ((d.1, d.2, skE ks 40 d.2, decide (ks.getD (skE ks 40 d.2 + 1) 0 = 103)), if ks.getD (skE ks 40 d.2 + 1) 0 = 103 then skE ks 40 d.2 + 2 else skE ks 40 d.2 + 1)) = some u := hee
              split at hee'
              · exact nomatch hee'
              · cases hee'
                dsimp only
                omega
          · exact nomatch hee
        · exact nomatch h'
    · exact nomatch h
theorem chP_e {ks : List Int} {k : Nat} {u : Option Pt × Option Ex} (h : chP ks k = some u) : ∀ v, u.2 = some v → v.2.2.1 < ks.length := by
  intro v hv
  unfold chP at h
  split at h
  · split at h
    · cases hd : dlA ks (k + 1) with
      | none =>
        rw [hd] at h
        exact nomatch h
      | some d =>
        rw [hd] at h
        have h' : (ccP ks d.2).map (fun c => (some d.1, c)) = some u := h
        cases hc : ccP ks d.2 with
        | none =>
          rw [hc] at h'
          exact nomatch h'
        | some c =>
          rw [hc] at h'
          cases h'
          dsimp only at hv
          subst hv
          exact ccP_e hc
    · exact nomatch h
  · cases hc : ccP ks k with
    | none =>
      rw [hc] at h
      exact nomatch h
    | some c =>
      rw [hc] at h
      cases h
      dsimp only at hv
      subst hv
      exact ccP_e hc
theorem adrA_in {ks : List Int} {T : Tx} {r k : Nat} {a : Nat × Nat} (hT : 0 < T.length) (hr : r < T.length) (h : adrA ks T r k = some a) : a.1 < T.length := by
  unfold adrA at h
  split at h
  · cases hd : dlA ks k with
    | none =>
      rw [hd] at h
      exact nomatch h
    | some d =>
      rw [hd] at h
      have h' : (nxA ks d.1 T r).map (fun n => (n, d.2)) = some a := h
      cases hn : nxA ks d.1 T r with
      | none =>
        rw [hn] at h'
        exact nomatch h'
      | some n =>
        rw [hn] at h'
        cases h'
        unfold nxA at hn
        cases hf : firstF (fun k => innA ks d.1 (ln T ((r + k) % T.length))) 1 T.length with
        | none =>
          rw [hf] at hn
          exact nomatch hn
        | some q =>
          rw [hf] at hn
          cases hn
          exact Nat.mod_lt _ hT
  · split at h
    · cases h
      exact hr
    · split at h
      · cases h
        dsimp only
        omega
      · split at h
        · split at h
          · split at h
            · cases h
              dsimp only
              omega
            · exact nomatch h
          · split at h
            · cases h
              dsimp only
              omega
            · exact nomatch h
        · exact nomatch h
theorem rgA_in {ks : List Int} {T : Tx} {r : Nat} {v : Bool × Nat × Nat × Nat} (hT : 0 < T.length) (hr : r < T.length) (h : rgA ks T r = some v) : v.2.1 ≤ v.2.2.1 ∧ v.2.2.1 < T.length := by
  unfold rgA at h
  split at h
  · cases h
    dsimp only
    omega
  · split at h
    · cases ha : adrA ks T r 0 with
      | none =>
        rw [ha] at h
        exact nomatch h
      | some a =>
        have hle := adrA_in hT hr ha
        rw [ha] at h
        have h' : (if ks.getD a.2 0 = 44 then (adrA ks T r (a.2 + 1)).elim none fun b => if a.1 ≤ b.1 then some (true, a.1, b.1, b.2) else none else some (true, a.1, a.1, a.2)) = some v := h
        split at h'
        · cases hb : adrA ks T r (a.2 + 1) with
          | none =>
            rw [hb] at h'
            exact nomatch h'
          | some b =>
            have hle2 := adrA_in hT hr hb
            rw [hb] at h'
            have h'' : (if a.1 ≤ b.1 then some (true, a.1, b.1, b.2) else none) = some v := h'
            split at h''
            · cases h''
              dsimp only
              omega
            · exact nomatch h''
        · cases h'
          dsimp only
          omega
    · cases h
      dsimp only
      omega
/-- what a COMMAND line leaves -/
theorem caA_wf {ks : List Int} {x : Tc} {o : Option Tc} {bf : Int × Tx} {D : kDk} {r : (Tc × Option Tc × Int × Tx) × kDk} (hks : ∀ c ∈ ks, 32 ≤ c ∧ c ≤ 126) (hx : wfX x) (hon : onC x) (ho : wfO o) (hbf : wfB bf) (hD : wfD D) (h : caA ks x o bf D = some r) : (wfX r.1.1 ∧ onC r.1.1) ∧ wfO r.1.2.1 ∧ wfB r.1.2.2 ∧ wfD r.2 := by
  obtain ⟨w1, w2, w3, w4, w5, w6, w7, w8⟩ := hx.sz
  rw [caA_eq] at h
  split at h
  · cases h
    exact ⟨⟨hx, hon⟩, ho, hbf, hD⟩
  · cases hv : rgA ks x.1 x.2.1.toNat with
    | none =>
      rw [hv] at h
      exact nomatch h
    | some v =>
      obtain ⟨v1, v2⟩ := rgA_in w4 w2 hv
      rw [hv] at h
      have h' : (if ks.getD v.2.2.2 0 = 0 then some (((x.1, (v.2.2.1 : Int), 0), o, bf), D) else cbA ks v x o bf D) = some r := h
      split at h'
      · cases h'
        refine ⟨⟨⟨hx.1, Int.natCast_nonneg _, ?_, Int.le_refl 0, Int.natCast_nonneg _⟩, .inr rfl⟩, ho, hbf, hD⟩
        dsimp only
        omega
      · unfold cbA at h'
        split at h'
        · split at h'
          · rename_i hz
            cases h'
            have hgr := gA_rng (n := x.1.length) true v1 v2
            exact ⟨⟨hx, hon⟩, ho, hbf, wfD_jo hD hx.1 (.inl rfl) hgr.1 hgr.2 hz.2⟩
          · exact nomatch h'
        · split at h'
          · split at h'
            · rename_i hz
              cases h'
              exact ⟨⟨hx, hon⟩, ho, hbf, wfD_jo hD hx.1 (.inr rfl) (by omega) (by omega) hz.2.2.2⟩
            · exact nomatch h'
          · cases hu : chP ks v.2.2.2 with
            | none =>
              rw [hu] at h'
              exact nomatch h'
            | some u =>
              rw [hu] at h'
              have h'' : (chgA ks u.1 u.2 (gA1 v u.1.isSome) (gA2 v u.1.isSome x.1.length) x bf).map (fun r => (((r.1, some x, r.2), D) : (Tc × Option Tc × Int × Tx) × kDk)) = some r := h'
              cases hc : chgA ks u.1 u.2 (gA1 v u.1.isSome) (gA2 v u.1.isSome x.1.length) x bf with
              | none =>
                rw [hc] at h''
                exact nomatch h''
              | some z =>
                rw [hc] at h''
                cases h''
                have hgr := gA_rng (n := x.1.length) u.1.isSome v1 v2
                obtain ⟨z1, z2⟩ := chgA_wf hks (chP_e hu) hx hon hbf hgr.1 hgr.2 hc
                exact ⟨z1, ⟨hx, hon⟩, z2, hD⟩
/-- what SEARCH leaves -/
theorem srcA_wf {ks : List Int} {x y : Tc} (hx : wfX x) (h : srcA ks x = some y) : wfX y ∧ onC y := by
  unfold srcA at h
  cases hp : parA ks 0 ks.length with
  | none =>
    rw [hp] at h
    exact nomatch h
  | some P =>
    rw [hp] at h
    have h' : (srF ks P x 0 (x.1.length + 1)).map (fun y => clipX (x.1, (y.1 : Int), (y.2 : Int))) = some y := h
    have hsr : ∀ m k z, srF ks P x k m = some z → z.1 < x.1.length := by
      intro m
      induction m with
      | zero => intro k z hz; exact nomatch hz
      | succ m ih =>
        intro k z hz
        unfold srF at hz
        cases ht : srT ks P x k with
        | none =>
          rw [ht] at hz
          exact ih (k + 1) z hz
        | some p =>
          rw [ht] at hz
          cases hz
          exact srL_lt hx k
    cases hs : srF ks P x 0 (x.1.length + 1) with
    | none =>
      rw [hs] at h'
      exact nomatch h'
    | some z =>
      rw [hs] at h'
      cases h'
      have hz := hsr _ _ _ hs
      unfold clipX
      dsimp only
      refine ⟨⟨hx.1, Int.natCast_nonneg _, ?_, ?_, ?_⟩, ?_⟩
      · dsimp only
        omega
      · dsimp only
        split <;> omega
      · dsimp only
        split <;> omega
      · unfold onC
        dsimp only
        split <;> omega
