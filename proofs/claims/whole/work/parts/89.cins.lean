/-! Pure: a key in INSERT, the class's side. -/
theorem ins_set_lo {T Y : Tx} {p r : Nat} {N : List Int} (hp : p ≤ T.length) (hr : r < p) : (ins T p Y).set r N = ins (T.set r N) p Y := by
  have h1 : (ins T p Y).length = T.length + Y.length := ins_len hp
  have h2 : (ins (T.set r N) p Y).length = T.length + Y.length := by
    rw [ins_len (by rw [List.length_set]; exact hp), List.length_set]
  refine gd_ext [] (by rw [List.length_set, h1, h2]) fun k hk => ?_
  rw [gd_set _ _ _ (by omega), ins_gd _ hp, ins_gd _ (by rw [List.length_set]; exact hp), gd_set _ _ _ (by omega), gd_set _ _ _ (by omega)]
  by_cases h : k = r
  · rw [if_pos h, if_pos (by omega), if_pos h]
  · rw [if_neg h, if_neg h]
    by_cases h3 : k < p
    · rw [if_pos h3, if_pos h3]
    · rw [if_neg h3, if_neg h3]
      by_cases h4 : k < p + Y.length
      · rw [if_pos h4, if_pos h4]
      · rw [if_neg h4, if_neg h4, if_neg (by omega)]
def mkL (n : Nat) (f : Nat → Int) : List Int := (List.range n).map f
theorem mkL_len (n : Nat) (f : Nat → Int) : (mkL n f).length = n := by
  unfold mkL
  rw [List.length_map, List.length_range]
theorem mkL_gd {n : Nat} {f : Nat → Int} {j : Nat} (h : j < n) : (mkL n f).getD j 0 = f j := by
  unfold mkL
  rw [List.getD_eq_getElem?_getD, List.getElem?_map, List.getElem?_range h]
  rfl
theorem mkL_ext {n : Nat} {f : Nat → Int} {L : List Int} (h : L.length = n) (h2 : ∀ j, j < n → L.getD j 0 = f j) : L = mkL n f := by
  refine gd_ext 0 (by rw [h, mkL_len]) fun j hj => ?_
  rw [h2 j (by omega), mkL_gd (by omega)]
theorem mkL_set {n : Nat} {f : Nat → Int} {p : Nat} {v : Int} (h : p < n) : (mkL n f).set p v = mkL n (fun j => if j = p then v else f j) := by
  refine mkL_ext (by rw [List.length_set, mkL_len]) fun j hj => ?_
  rw [gd_set _ _ _ (by rw [mkL_len]; exact h), mkL_gd hj]
theorem rep_gd {n : Nat} {v : Int} {j : Nat} (h : j < n) : (List.replicate n v).getD j 0 = v := by
  rw [List.getD_eq_getElem?_getD, List.getElem?_replicate, if_pos h]
  rfl
/-- ENTER -/
def ledA (x : Tc) : Nat := min (ind (ln x.1 x.2.1.toNat)) x.2.2.toNat
def partX (x : Tc) : Tc := (ins (x.1.set x.2.1.toNat ((ln x.1 x.2.1.toNat).take x.2.2.toNat)) (x.2.1.toNat + 1) [List.replicate (ledA x) 32 ++ (ln x.1 x.2.1.toNat).drop x.2.2.toNat], x.2.1 + 1, (ledA x : Int))
def partA (A : kEd) : Int × kEd := if A.1.1.length < 10 then (1, (partX A.1, A.2.1, A.2.2.1, A.2.2.2.1, (1, (ledA A.1 : Int), 0, []), A.2.2.2.2.2)) else (0, A)
theorem SC.partL {g : Int} {o : Option Tc} {b : Int × Tx} {q : Qd} {m : Md} {l : Int × List Int} {T1 : Tx} {w : Int × Int} {r k d z : Nat} {L : List Int} {s0 : Int} {A' : kEd} (hT : T1.length ≤ 10) (hr : r + 1 < T1.length) (hL : ln T1 r = L) (hz : z = L.length) (hkz : k ≤ z) (hd : d ≤ k) (hz2 : z ≤ 20)
    (hend : SC g (fb_Kb_partLine_115 (r : Int) (k : Int) (d : Int) (z : Int) (z : Int)) (some s0) ((T1.set (r + 1) (mkL (d + z - k) (fun j => if d ≤ j then L.getD (k + (j - d)) 0 else 32)), w), o, b, q, m, l) A') :
    ∀ (mm n i : Nat), i + mm = z → k ≤ i → mm < n → SC g (fl_Kb_partLine_76 n (r : Int) (k : Int) (d : Int) (z : Int) (i : Int)) (some s0) ((T1.set (r + 1) (mkL (d + z - k) (fun j => if d ≤ j ∧ j < d + (i - k) then L.getD (k + (j - d)) 0 else 32)), w), o, b, q, m, l) A' := by
  intro mm
  induction mm with
  | zero =>
    intro n i h1 h2 h3
    obtain ⟨n, rfl⟩ : ∃ n', n = n' + 1 := ⟨n - 1, by omega⟩
    have hi : i = z := by omega
    rw [hi]
    have e : mkL (d + z - k) (fun j => if d ≤ j ∧ j < d + (z - k) then L.getD (k + (j - d)) 0 else 32) = mkL (d + z - k) (fun j => if d ≤ j then L.getD (k + (j - d)) 0 else 32) := by
      refine mkL_ext (mkL_len _ _) fun j hj => ?_
      rw [mkL_gd hj]
      by_cases h : d ≤ j
      · rw [if_pos h, if_pos (by omega)]
      · rw [if_neg h, if_neg (by omega)]
    rw [e]
    refine SC.cg hend fun σ c => ?_
    simp only [fl_Kb_partLine_76, fb_Kb_partLine_76]
    rw [kg_pos (by omega), if_pos (by omega)]
  | succ mm ih =>
    intro n i h1 h2 h3
    obtain ⟨n, rfl⟩ : ∃ n', n = n' + 1 := ⟨n - 1, by omega⟩
    have hn := ih n (i + 1) (by omega) (by omega) (by omega)
    have hlr : ∀ M : List Int, ln (T1.set (r + 1) M) r = L := fun M => by
      rw [ln_set hr, if_neg (by omega), hL]
    have hlr1 : ∀ M : List Int, ln (T1.set (r + 1) M) (r + 1) = M := fun M => by
      rw [ln_set hr, if_pos rfl]
    refine SC.cg (f := fun σ => kbu (f_Te_write ((r : Int) + 1) ((d : Int) + i - k) (L.getD i 0) 0 σ) fun σ1 => fl_Kb_partLine_76 n (r : Int) (k : Int) (d : Int) (z : Int) ((i + 1 : Nat) : Int) σ1) ?_ fun σ c => ?_
    · refine SC.u (A1 := ((T1.set (r + 1) (mkL (d + z - k) (fun j => if d ≤ j ∧ j < d + (i + 1 - k) then L.getD (k + (j - d)) 0 else 32)), w), o, b, q, m, l)) ?_ hn
      refine SC.t0 (x := (T1.set (r + 1) (mkL (d + z - k) (fun j => if d ≤ j ∧ j < d + (i - k) then L.getD (k + (j - d)) 0 else 32)), w)) fun σ c => ?_
      have hw := C_write (σ := σ) (t := 0) (T := T1.set (r + 1) (mkL (d + z - k) (fun j => if d ≤ j ∧ j < d + (i - k) then L.getD (k + (j - d)) 0 else 32))) (p := r + 1) (a := d + i - k) (v := L.getD i 0) c.1.1 c.1.2.1 (by rw [List.length_set]; exact hr) (by rw [hlr1, mkL_len]; omega)
      rw [hlr1, set_set, mkL_set (by omega)] at hw
      have e : (fun j => if j = d + i - k then L.getD i 0 else if d ≤ j ∧ j < d + (i - k) then L.getD (k + (j - d)) 0 else 32) = (fun j => if d ≤ j ∧ j < d + (i + 1 - k) then L.getD (k + (j - d)) 0 else 32) := by
        funext j
        by_cases h : j = d + i - k
        · rw [if_pos h, if_pos (by omega)]
          exact congrArg (fun p => L.getD p 0) (by omega)
        · rw [if_neg h]
          by_cases h4 : d ≤ j ∧ j < d + (i - k)
          · rw [if_pos h4, if_pos (by omega)]
          · rw [if_neg h4, if_neg (by omega)]
      rw [e] at hw
      rw [show ((r : Int) + 1) = ((r + 1 : Nat) : Int) by omega, show ((d : Int) + i - k) = ((d + i - k : Nat) : Int) by omega]
      exact hw
    · simp only [fl_Kb_partLine_76, fb_Kb_partLine_76, fb_Kb_partLine_83]
      have hca := P_codeAt (σ := σ) (t := 0) (T := T1.set (r + 1) (mkL (d + z - k) (fun j => if d ≤ j ∧ j < d + (i - k) then L.getD (k + (j - d)) 0 else 32))) (x := (r : Int)) (y := (i : Int)) c.1.1 c.1.2.1 (by omega) (by omega)
      rw [chr_in (by rw [List.length_set]; omega) (by rw [hlr]; omega), hlr] at hca
      rw [kg_pos (by omega), if_neg (by omega), kbi_eq hca]
      rfl
theorem SC.part {g : Int} {x : Tc} {o : Option Tc} {b : Int × Tx} {q : Qd} {s : Int × Int} {l : Int × List Int} (hx : wfX x) : SC g f_Kb_partLine (some (partA (x, o, b, q, (1, s.1, s.2, []), l)).1) (x, o, b, q, (1, s.1, s.2, []), l) (partA (x, o, b, q, (1, s.1, s.2, []), l)).2 := by
  obtain ⟨w1, w2, w3, w4, w5, w6, w7, w8⟩ := hx.sz
  have hi := ind_le (ln x.1 x.2.1.toNat)
  have hk : ((x.2.2.toNat : Nat) : Int) = x.2.2 := by omega
  -- down to openLines
  refine SC.cg (f := fb_Kb_partLine_37 x.2.1 x.2.2 (ledA x : Int) (ln x.1 x.2.1.toNat).length) ?_ fun σ c => ?_
  rotate_left
  · have h3 : σ 2 0 3 = x.2.1 := c.1.2.2.1
    have h4 : σ 2 0 4 = x.2.2 := c.1.2.2.2
    have hin := C_indentOf (σ := σ) (t := 0) (T := x.1) (p := x.2.1.toNat) c.1.1 c.1.2.1 w2 hx.1.2.2.1
    have hsz := SC.sizeRow hx c
    rw [w8] at hin
    rw [h3] at hsz
    unfold f_Kb_partLine fb_Kb_partLine_0
    rw [h3, h4, kbi_eq hin]
    unfold fb_Kb_partLine_24
    rw [kg_pos (by omega), kbi_eq hsz]
    unfold ledA
    rw [show ((min (ind (ln x.1 x.2.1.toNat)) x.2.2.toNat : Nat) : Int) = min (ind (ln x.1 x.2.1.toNat) : Int) x.2.2 by omega]
  have hled : ledA x ≤ x.2.2.toNat := Nat.min_le_right _ _
  unfold partA
  dsimp only
  unfold fb_Kb_partLine_37
  by_cases h10 : x.1.length < 10
  · rw [if_pos h10]
    refine SC.i (y := 1) (SC.t0 (T := ins x.1 (x.2.1.toNat + 1) [[]]) fun σ c => ?_) ?_
    · have := C_openLines (σ := σ) (t := 0) (T := x.1) (a := x.2.1.toNat + 1) (m := 1) c.1.1 c.1.2.1 (by omega) (by omega)
      rw [show ((x.2.1.toNat + 1 : Nat) : Int) = x.2.1 + 1 by omega] at this
      exact this
    have hil : (ins x.1 (x.2.1.toNat + 1) [([] : List Int)]).length = x.1.length + 1 := ins_len (by omega)
    have hln1 : ln (ins x.1 (x.2.1.toNat + 1) [([] : List Int)]) (x.2.1.toNat + 1) = [] := by
      have : ln (ins x.1 (x.2.1.toNat + 1) [([] : List Int)]) (x.2.1.toNat + 1) = _ := ins_gd [] (by omega) (x.2.1.toNat + 1)
      rw [this, if_neg (by omega), if_pos (by rw [List.length_singleton]; omega), Nat.sub_self]
      rfl
    have hln0 : ln (ins x.1 (x.2.1.toNat + 1) [([] : List Int)]) x.2.1.toNat = ln x.1 x.2.1.toNat := by
      have : ln (ins x.1 (x.2.1.toNat + 1) [([] : List Int)]) x.2.1.toNat = _ := ins_gd [] (by omega) x.2.1.toNat
      rw [this, if_pos (by omega)]
      rfl
    have hrp : ∀ n, List.replicate n (32 : Int) = mkL n (fun _ => 32) := fun n => mkL_ext (List.length_replicate ..) fun j hj => rep_gd hj
    refine SC.cg (f := fb_Kb_partLine_55 x.2.1 x.2.2 (ledA x : Int) (ln x.1 x.2.1.toNat).length) ?_ fun σ c => by
      unfold fb_Kb_partLine_50
      rw [kg_pos (by decide), if_neg (by decide)]
    unfold fb_Kb_partLine_55
    refine SC.i (y := 1) (A1 := ((ins x.1 (x.2.1.toNat + 1) [mkL (ledA x + (ln x.1 x.2.1.toNat).length - x.2.2.toNat) (fun _ => 32)], x.2), o, b, q, (1, s.1, s.2, []), l)) (SC.t0 (x := (ins x.1 (x.2.1.toNat + 1) [[]], x.2)) fun σ c => ?_) ?_
    · have := C_openLetters (σ := σ) (t := 0) (T := ins x.1 (x.2.1.toNat + 1) [[]]) (p := x.2.1.toNat + 1) (a := 0) (m := ledA x + (ln x.1 x.2.1.toNat).length - x.2.2.toNat) c.1.1 c.1.2.1 (by omega) (by omega) (by rw [hln1, List.length_nil]; omega)
      rw [hln1, ins_nil, ins_set (by omega), hrp, show ((x.2.1.toNat + 1 : Nat) : Int) = x.2.1 + 1 by omega, show ((ledA x + (ln x.1 x.2.1.toNat).length - x.2.2.toNat : Nat) : Int) = (ledA x : Int) + (ln x.1 x.2.1.toNat).length - x.2.2 by omega] at this
      exact this
    -- the loop
    have hset : ∀ M, (ins x.1 (x.2.1.toNat + 1) [([] : List Int)]).set (x.2.1.toNat + 1) M = ins x.1 (x.2.1.toNat + 1) [M] := fun M => ins_set (by omega)
    have hloop := SC.partL (g := g) (o := o) (b := b) (q := q) (m := (1, s.1, s.2, [])) (l := l) (T1 := ins x.1 (x.2.1.toNat + 1) [[]]) (w := x.2) (r := x.2.1.toNat) (k := x.2.2.toNat) (d := ledA x) (z := (ln x.1 x.2.1.toNat).length) (L := ln x.1 x.2.1.toNat) (s0 := 1) (A' := (partX x, o, b, q, (1, (ledA x : Int), 0, []), l)) (by omega) (by omega) hln0 rfl (by omega) hled w1 ?_ ((ln x.1 x.2.1.toNat).length - x.2.2.toNat) 3000 x.2.2.toNat (by omega) (by omega) (by omega)
    · rw [hset, w8, hk] at hloop
      have e : mkL (ledA x + (ln x.1 x.2.1.toNat).length - x.2.2.toNat) (fun j => if ledA x ≤ j ∧ j < ledA x + (x.2.2.toNat - x.2.2.toNat) then (ln x.1 x.2.1.toNat).getD (x.2.2.toNat + (j - ledA x)) 0 else 32) = mkL (ledA x + (ln x.1 x.2.1.toNat).length - x.2.2.toNat) (fun _ => 32) := by
        refine mkL_ext (mkL_len _ _) fun j hj => ?_
        rw [mkL_gd hj, if_neg (by omega)]
      rw [e] at hloop
      exact hloop
    · rw [hset]
      have e2 : mkL (ledA x + (ln x.1 x.2.1.toNat).length - x.2.2.toNat) (fun j => if ledA x ≤ j then (ln x.1 x.2.1.toNat).getD (x.2.2.toNat + (j - ledA x)) 0 else 32) = List.replicate (ledA x) 32 ++ (ln x.1 x.2.1.toNat).drop x.2.2.toNat := by
        refine (mkL_ext ?_ fun j hj => ?_).symm
        · rw [List.length_append, List.length_replicate, List.length_drop]
          omega
        · rw [gd_app, List.length_replicate]
          by_cases h : ledA x ≤ j
          · rw [if_neg (by omega), if_pos h, gd_drop]
          · rw [if_pos (by omega), if_neg h, rep_gd (by omega)]
      rw [e2]
      unfold fb_Kb_partLine_115
      have hp1 : (ins x.1 (x.2.1.toNat + 1) [List.replicate (ledA x) (32 : Int) ++ (ln x.1 x.2.1.toNat).drop x.2.2.toNat]).length = x.1.length + 1 := ins_len (by omega)
      have hln2 : ln (ins x.1 (x.2.1.toNat + 1) [List.replicate (ledA x) (32 : Int) ++ (ln x.1 x.2.1.toNat).drop x.2.2.toNat]) x.2.1.toNat = ln x.1 x.2.1.toNat := by
        have : ln (ins x.1 (x.2.1.toNat + 1) [List.replicate (ledA x) (32 : Int) ++ (ln x.1 x.2.1.toNat).drop x.2.2.toNat]) x.2.1.toNat = _ := ins_gd [] (by omega) x.2.1.toNat
        rw [this, if_pos (by omega)]
        rfl
      have hcut : cut (ln x.1 x.2.1.toNat) x.2.2.toNat (ln x.1 x.2.1.toNat).length = (ln x.1 x.2.1.toNat).take x.2.2.toNat := by
        unfold cut
        rw [List.drop_length, List.append_nil]
      refine SC.u (A1 := (((partX x).1, x.2), o, b, q, (1, s.1, s.2, []), l)) (SC.t0 (x := (ins x.1 (x.2.1.toNat + 1) [List.replicate (ledA x) 32 ++ (ln x.1 x.2.1.toNat).drop x.2.2.toNat], x.2)) fun σ c => ?_) ?_
      · have := C_closeLetters (σ := σ) (t := 0) (T := ins x.1 (x.2.1.toNat + 1) [List.replicate (ledA x) 32 ++ (ln x.1 x.2.1.toNat).drop x.2.2.toNat]) (p := x.2.1.toNat) (a := x.2.2.toNat) (b := (ln x.1 x.2.1.toNat).length) c.1.1 c.1.2.1 (by omega) (by omega) (by rw [hln2]; omega)
        rw [hln2, hcut, ins_set_lo (by omega) (by omega)] at this
        exact this
      · intro σ h
        obtain ⟨c1, c2, c3, c4, c5, c6, c7⟩ := h
        unfold fb_Kb_partLine_126
        refine ⟨_, rfl, ⟨⟨c1.1, c1.2.1, ?_, rfl⟩, ?_, c3, c4, ⟨c5.1, fun _ => rfl, fun h => absurd h (show ¬ (1 : Int) = 2 by decide), c5.2.2.2.1, kArr_0⟩, c6, c7⟩, ((frE.rfl.kup (by decide)).kup (by decide)).kup (by decide)⟩
        · show ((x.2.1.toNat : Nat) : Int) + 1 = x.2.1 + 1
          omega
        · cases o with
          | none => exact c2
          | some y => exact c2
  · rw [if_neg h10]
    refine SC.i (y := 0) (SC.read fun σ c => ?_) (SC.read fun σ c => ?_)
    · have := C_openLines0 (σ := σ) (t := 0) (T := x.1) (a := x.2.1.toNat + 1) (m := 1) c.1.2.1 w3 (by decide) (by omega) (by omega)
      rw [show ((x.2.1.toNat + 1 : Nat) : Int) = x.2.1 + 1 by omega] at this
      exact this
    · unfold fb_Kb_partLine_50
      rw [kg_pos (by decide), if_pos rfl]
      rfl
/-- a key in INSERT (1: taken, 0: it rings) -/
def edA (A : kEd) (c : Int) : Int × kEd :=
  if c = 8 then (if A.2.2.2.2.1.2.1 < A.1.2.2 then (1, ((A.1.1.set A.1.2.1.toNat (cut (ln A.1.1 A.1.2.1.toNat) (A.1.2.2.toNat - 1) A.1.2.2.toNat), A.1.2.1, A.1.2.2 - 1), A.2)) else (0, A))
  else if c = 10 then partA A
  else if c = 27 then (1, ((A.1.1, A.1.2.1, max 0 (A.1.2.2 - 1)), A.2.1, A.2.2.1, A.2.2.2.1, (0, 0, 0, []), A.2.2.2.2.2))
  else if (ln A.1.1 A.1.2.1.toNat).length < 20 then (1, ((A.1.1.set A.1.2.1.toNat (ins (ln A.1.1 A.1.2.1.toNat) A.1.2.2.toNat [c]), A.1.2.1, A.1.2.2 + 1), A.2)) else (0, A)
def insA (g : Int) (A : kEd) (c : Int) : Int × kEd := ((edA A c).1, if (edA A c).1 = 0 then (edA A c).2 else ((edA A c).2.1, (edA A c).2.2.1, (edA A c).2.2.2.1, (edA A c).2.2.2.2.1, (edA A c).2.2.2.2.2.1, keepL g (edA A c).2.2.2.2.2.2 c))
theorem edA_01 (A : kEd) (c : Int) : (edA A c).1 = 0 ∨ (edA A c).1 = 1 := by
  unfold edA partA
  repeat' split
  all_goals first | exact .inl rfl | exact .inr rfl
theorem SC.edit {g : Int} {x : Tc} {o : Option Tc} {b : Int × Tx} {q : Qd} {s : Int × Int} {l : Int × List Int} {c : Int} (hc : 0 ≤ c ∧ c ≤ 126) (hx : wfX x) (hs : 0 ≤ s.1 ∧ s.1 ≤ x.2.2) : SC g (f_Kb_edit c) (some (edA (x, o, b, q, (1, s.1, s.2, []), l) c).1) (x, o, b, q, (1, s.1, s.2, []), l) (edA (x, o, b, q, (1, s.1, s.2, []), l) c).2 := by
  obtain ⟨w1, w2, w3, w4, w5, w6, w7, w8⟩ := hx.sz
  have hk : ((x.2.2.toNat : Nat) : Int) = x.2.2 := by omega
  have h3 : ∀ {σ}, CE g (x, o, b, q, (1, s.1, s.2, []), l) σ → σ 2 0 3 = x.2.1 := fun k => k.1.2.2.1
  have h4 : ∀ {σ}, CE g (x, o, b, q, (1, s.1, s.2, []), l) σ → σ 2 0 4 = x.2.2 := fun k => k.1.2.2.2
  have h10 : ∀ {σ}, CE g (x, o, b, q, (1, s.1, s.2, []), l) σ → σ 5 0 10 = s.1 := fun k => k.2.2.2.2.1.2.1 rfl
  have e0 : ∀ σ, f_Kb_edit c σ = if c = 8 then fb_Kb_edit_68 c σ else if c = 10 then fb_Kb_edit_63 c σ else if c = 27 then fb_Kb_edit_36 c σ else fb_Kb_edit_129 c σ := fun σ => by
    unfold f_Kb_edit fb_Kb_edit_0
    rw [kg_pos (by omega)]
  unfold edA
  dsimp only
  by_cases c1 : c = 8
  · rw [if_pos c1]
    by_cases hlt : s.1 < x.2.2
    · rw [if_pos hlt]
      intro σ k
      have z3 := h3 k
      have z4 := h4 k
      have z10 := h10 k
      obtain ⟨k1, f1⟩ := SC.col (v := x.2.2 - 1) k
      have hC := C_closeLetters (σ := kup σ 2 0 4 (x.2.2 - 1)) (t := 0) (T := x.1) (p := x.2.1.toNat) (a := x.2.2.toNat - 1) (b := x.2.2.toNat) k1.1.1 k1.1.2.1 w2 (by omega) (by omega)
      obtain ⟨F, G, e, hT⟩ := hC
      have hS := SC.t0 (g := g) (f := fun σ => f_Te_closeLetters ((x.2.1.toNat : Nat) : Int) ((x.2.2.toNat - 1 : Nat) : Int) ((x.2.2.toNat : Nat) : Int) 0 σ) (r := none) (x := (x.1, x.2.1, x.2.2 - 1)) (o := o) (b := b) (q := q) (m := (1, s.1, s.2, [])) (l := l) (T := x.1.set x.2.1.toNat (cut (ln x.1 x.2.1.toNat) (x.2.2.toNat - 1) x.2.2.toNat)) (fun σ k => C_closeLetters (T := x.1) k.1.1 k.1.2.1 w2 (by omega) (by omega))
      obtain ⟨σ2, e2, k2, f2⟩ := hS _ k1
      refine ⟨σ2, ?_, k2, f1.tr f2⟩
      rw [e0, if_pos c1]
      unfold fb_Kb_edit_68
      rw [z4, z10, kg_pos (by omega), if_pos hlt]
      unfold fb_Kb_edit_84
      have y3 : kup σ 2 0 4 (x.2.2 - 1) 2 0 3 = ((x.2.1.toNat : Nat) : Int) := z3.trans w8.symm
      have y4 : kup σ 2 0 4 (x.2.2 - 1) 2 0 4 = ((x.2.2.toNat - 1 : Nat) : Int) := by
        rw [kup_self]
        omega
      rw [z4, y3, y4, show ((x.2.2.toNat - 1 : Nat) : Int) + 1 = ((x.2.2.toNat : Nat) : Int) by omega, kbu_eq e2]
      rfl
    · rw [if_neg hlt]
      refine SC.read fun σ k => ?_
      rw [e0, if_pos c1]
      unfold fb_Kb_edit_68
      rw [h4 k, h10 k, kg_pos (by omega), if_neg hlt]
      rfl
  rw [if_neg c1]
  by_cases c2 : c = 10
  · rw [if_pos c2]
    refine SC.cg (f := fb_Kb_edit_63 c) ?_ fun σ k => by rw [e0, if_neg c1, if_pos c2]
    unfold fb_Kb_edit_63
    refine SC.i (SC.part hx) (SC.bool ?_)
    unfold partA
    split
    · exact .inr rfl
    · exact .inl rfl
  rw [if_neg c2]
  by_cases c3 : c = 27
  · rw [if_pos c3]
    intro σ k
    have z4 := h4 k
    obtain ⟨k1, k2, k3, k4, k5, k6, k7⟩ := k
    have y4 : kup σ 5 0 6 0 2 0 4 = x.2.2 := z4
    refine ⟨kup (kup σ 5 0 6 0) 2 0 4 (max 0 (x.2.2 - 1)), ?_, ⟨⟨k1.1, k1.2.1, k1.2.2.1, rfl⟩, ?_, k3, k4, ⟨rfl, fun h => absurd h (show ¬ (0 : Int) = 1 by decide), fun h => absurd h (show ¬ (0 : Int) = 2 by decide), k5.2.2.2.1, kArr_0⟩, k6, k7⟩, (frE.rfl.kup (by decide)).kup (by decide)⟩
    · rw [e0, if_neg c1, if_neg c2, if_pos c3]
      unfold fb_Kb_edit_36
      rw [y4, kg_pos (by omega)]
    · cases o with
      | none => exact k2
      | some y => exact k2
  rw [if_neg c3]
  refine SC.cg (f := fun σ => kbi (f_Te_openLetters ((x.2.1.toNat : Nat) : Int) ((x.2.2.toNat : Nat) : Int) ((1 : Nat) : Int) 0 σ) fun y σ1 => fb_Kb_edit_151 c y σ1) ?_ fun σ k => by
    rw [e0, if_neg c1, if_neg c2, if_neg c3]
    unfold fb_Kb_edit_129
    rw [h3 k, h4 k, w8, hk]
    rfl
  by_cases h20 : (ln x.1 x.2.1.toNat).length < 20
  · rw [if_pos h20]
    have hlen : (ins (ln x.1 x.2.1.toNat) x.2.2.toNat (List.replicate 1 (32 : Int))).length = (ln x.1 x.2.1.toNat).length + 1 := by
      rw [ins_len (by omega), List.length_replicate]
    refine SC.i (y := 1) (SC.t0 fun σ k => C_openLetters (T := x.1) (m := 1) k.1.1 k.1.2.1 w2 (by omega) (by omega)) ?_
    refine SC.cg (f := fun σ => kbu (f_Te_write ((x.2.1.toNat : Nat) : Int) ((x.2.2.toNat : Nat) : Int) c 0 σ) fun σ1 => fb_Kb_edit_178 c σ1) ?_ fun σ k => by
      have z3 : σ 2 0 3 = x.2.1 := k.1.2.2.1
      have z4 : σ 2 0 4 = x.2.2 := k.1.2.2.2
      unfold fb_Kb_edit_151 fb_Kb_edit_156
      rw [kg_pos (by decide), if_neg (by decide), z3, z4, w8, hk]
    have hset : (x.1.set x.2.1.toNat (ins (ln x.1 x.2.1.toNat) x.2.2.toNat (List.replicate 1 (32 : Int)))).set x.2.1.toNat ((ins (ln x.1 x.2.1.toNat) x.2.2.toNat (List.replicate 1 (32 : Int))).set x.2.2.toNat c) = x.1.set x.2.1.toNat (ins (ln x.1 x.2.1.toNat) x.2.2.toNat [c]) := by
      rw [set_set]
      congr 1
      have hlen2 : (ins (ln x.1 x.2.1.toNat) x.2.2.toNat [c]).length = (ln x.1 x.2.1.toNat).length + 1 := by
        rw [ins_len (by omega), List.length_singleton]
      refine gd_ext 0 (by rw [List.length_set, hlen, hlen2]) fun j hj => ?_
      rw [gd_set _ _ _ (by omega), ins_gd 0 (by omega), ins_gd 0 (by omega), List.length_replicate, List.length_singleton]
      by_cases h : j = x.2.2.toNat
      · rw [if_pos h, if_neg (by omega), if_pos (by omega), h, Nat.sub_self]
        rfl
      · rw [if_neg h]
        by_cases h5 : j < x.2.2.toNat
        · rw [if_pos h5, if_pos h5]
        · rw [if_neg h5, if_neg h5, if_neg (by omega), if_neg (by omega)]
    refine SC.u (A1 := ((x.1.set x.2.1.toNat (ins (ln x.1 x.2.1.toNat) x.2.2.toNat [c]), x.2), o, b, q, (1, s.1, s.2, []), l)) (SC.t0 (x := (x.1.set x.2.1.toNat (ins (ln x.1 x.2.1.toNat) x.2.2.toNat (List.replicate 1 32)), x.2)) fun σ k => ?_) ?_
    · have hl2 : ln (x.1.set x.2.1.toNat (ins (ln x.1 x.2.1.toNat) x.2.2.toNat (List.replicate 1 (32 : Int)))) x.2.1.toNat = ins (ln x.1 x.2.1.toNat) x.2.2.toNat (List.replicate 1 32) := by
        rw [ln_set w2, if_pos rfl]
      have := C_write (σ := σ) (t := 0) (T := x.1.set x.2.1.toNat (ins (ln x.1 x.2.1.toNat) x.2.2.toNat (List.replicate 1 32))) (p := x.2.1.toNat) (a := x.2.2.toNat) (v := c) k.1.1 k.1.2.1 (by rw [List.length_set]; exact w2) (by rw [hl2, hlen]; omega)
      rw [hl2, hset] at this
      exact this
    · intro σ k
      have z4 : σ 2 0 4 = x.2.2 := k.1.2.2.2
      obtain ⟨k1, f1⟩ := SC.col (v := x.2.2 + 1) k
      refine ⟨_, ?_, k1, f1⟩
      show fb_Kb_edit_178 c σ = _
      unfold fb_Kb_edit_178
      rw [z4]
  · rw [if_neg h20]
    refine SC.i (y := 0) (SC.read fun σ k => C_openLetters0 (T := x.1) (m := 1) k.1.1 k.1.2.1 w2 (by omega) (by decide) (by omega)) (SC.read fun σ k => ?_)
    unfold fb_Kb_edit_151
    rw [kg_pos (by decide), if_pos rfl]
    rfl
theorem SC.addL {g : Int} {x : Tc} {o : Option Tc} {b : Int × Tx} {q : Qd} {m : Md} {l : Int × List Int} {c : Int} (hl : 0 ≤ l.1 ∧ l.1 ≤ 9) (hl2 : (l.2.length : Int) = min 8 l.1) : SC g (f_Ke_add c 1) none (x, o, b, q, m, l) (x, o, b, q, m, keepL 0 l c) := by
  intro σ h
  obtain ⟨c1, c2, c3, c4, c5, c6, c7⟩ := h
  have h6 : σ 6 1 1 = l.1 := c6.1
  have ka : kArr (σ 16 1) l.2 := c6.2
  unfold keepL
  rw [if_pos rfl]
  by_cases h8 : l.1 < 8
  · rw [if_pos h8]
    refine ⟨kup (kup σ 16 1 l.2.length c) 6 1 1 (min 9 (l.1 + 1)), ?_, ⟨c1, ?_, c3, c4, c5, ⟨rfl, ?_⟩, c7⟩, (frE.rfl.kup (by decide)).kup (by decide)⟩
    · unfold f_Ke_add fb_Ke_add_0 fb_Ke_add_12 fb_Ke_add_22
      have q6 : ∀ j, kup σ 16 1 j c 6 1 1 = l.1 := fun j => h6
      rw [h6, if_neg (show ¬ (1 : Nat) = 0 by decide), if_pos (show (1 : Nat) = 1 from rfl), kg_pos (by omega), if_neg (by omega), kg_pos (by omega), q6, kg_pos (by omega), show l.1.toNat = l.2.length by omega, show min (l.1 + 1) (((8 : Nat) : Int) + 1) = min 9 (l.1 + 1) by omega]
    · cases o with
      | none => exact c2
      | some y => exact c2
    · have e : kup (kup σ 16 1 l.2.length c) 6 1 1 (min 9 (l.1 + 1)) 16 1 = fun j => if j = l.2.length then c else σ 16 1 j := by
        rw [kup_ii (by decide), kup_f, if_pos (by decide)]
      show kArr (kup (kup σ 16 1 l.2.length c) 6 1 1 (min 9 (l.1 + 1)) 16 1) (l.2 ++ [c])
      rw [e]
      exact kArr_add ka
  · rw [if_neg h8]
    refine ⟨kup σ 6 1 1 (min 9 (l.1 + 1)), ?_, ⟨c1, ?_, c3, c4, c5, ⟨rfl, ka⟩, c7⟩, frE.rfl.kup (by decide)⟩
    · unfold f_Ke_add fb_Ke_add_0 fb_Ke_add_22
      rw [h6, if_neg (show ¬ (1 : Nat) = 0 by decide), if_pos (show (1 : Nat) = 1 from rfl), kg_pos (by omega), if_pos (by omega), kg_pos (by omega), show min (l.1 + 1) (((8 : Nat) : Int) + 1) = min 9 (l.1 + 1) by omega]
    · cases o with
      | none => exact c2
      | some y => exact c2
theorem edA_l (A : kEd) (c : Int) : (edA A c).2.2.2.2.2.2 = A.2.2.2.2.2 := by
  unfold edA partA
  repeat' split
  all_goals rfl
theorem SC.inser {g : Int} {x : Tc} {o : Option Tc} {b : Int × Tx} {q : Qd} {s : Int × Int} {l : Int × List Int} {c : Int} (hg : g = 0 ∨ g = 1) (hc : 0 ≤ c ∧ c ≤ 126) (hx : wfX x) (hs : 0 ≤ s.1 ∧ s.1 ≤ x.2.2) (hl : 0 ≤ l.1 ∧ l.1 ≤ 9) (hl2 : (l.2.length : Int) = min 8 l.1) : SC g (f_Kb_insert c) (some (insA g (x, o, b, q, (1, s.1, s.2, []), l) c).1) (x, o, b, q, (1, s.1, s.2, []), l) (insA g (x, o, b, q, (1, s.1, s.2, []), l) c).2 := by
  unfold f_Kb_insert fb_Kb_insert_0
  refine SC.i (SC.edit hc hx hs) ?_
  unfold insA
  dsimp only
  have h01 := edA_01 (x, o, b, q, (1, s.1, s.2, []), l) c
  have hL := edA_l (x, o, b, q, (1, s.1, s.2, []), l) c
  generalize edA (x, o, b, q, (1, s.1, s.2, []), l) c = E at h01 hL
  obtain ⟨y, x', o', b', q', m', l'⟩ := E
  have hL' : l' = l := hL
  subst hL'
  have h01' : y = 0 ∨ y = 1 := h01
  show SC g (fb_Kb_insert_5 c y) (some y) (x', o', b', q', m', l') (if y = 0 then (x', o', b', q', m', l') else (x', o', b', q', m', keepL g l' c))
  rcases h01' with h | h
  · rw [if_pos h]
    refine SC.read fun σ k => ?_
    unfold fb_Kb_insert_5 fb_Kb_insert_25
    rw [kg_pos (by omega), if_pos h, kg_pos (by omega)]
  · rw [if_neg (by omega)]
    rcases hg with h0 | h0
    · refine SC.cg (f := fb_Kb_insert_17 c y) ?_ fun σ k => ?_
      · unfold fb_Kb_insert_17
        rw [h0]
        refine SC.u (SC.addL hl hl2) (SC.read fun σ k => ?_)
        unfold fb_Kb_insert_25
        rw [kg_pos (by omega)]
      · have h12 : σ 5 0 12 = g := k.2.2.2.2.2.2
        unfold fb_Kb_insert_5 fb_Kb_insert_10
        rw [kg_pos (by omega), if_neg (by omega), h12, kg_pos (by omega), if_pos h0]
    · have hkp : keepL g l' c = l' := by
        unfold keepL
        rw [if_neg (by omega)]
      rw [hkp]
      refine SC.read fun σ k => ?_
      have h12 : σ 5 0 12 = g := k.2.2.2.2.2.2
      unfold fb_Kb_insert_5 fb_Kb_insert_10 fb_Kb_insert_25
      rw [kg_pos (by omega), if_neg (by omega), h12, kg_pos (by omega), if_neg (by omega), kg_pos (by omega)]
