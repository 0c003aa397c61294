/-! Pure: a key in INSERT, the reference's side. -/
theorem ins_end {α : Type} {X Y : List α} {n : Nat} (h : X.length = n) : ins X n Y = X ++ Y := by
  unfold ins
  rw [List.take_of_length_le (by omega), List.drop_of_length_le (by omega), List.append_nil]
theorem SR.partB {g : Int} {B : Option Tc} {o : Option Tc} {b : Int × Tx} {q : Qd} {m : Md} {l : Int × List Int} {p d : Nat} {x1 x2 : Int} {r : Option Int} {A' : kEd} {T : Tx} {w : Int × Int} (hx1 : x1 + 1 = p) (hd : d ≤ 20) (hp : p ≤ T.length) (hT : T.length < 10) (hend : SR g B (fb_Rm_part_65 x1 x2 (d : Int) (d : Int)) r ((ins T p [List.replicate d 32], w), o, b, q, m, l) A') : ∀ (mm n k : Nat), k + mm = d → mm < n → SR g B (fl_Rm_part_42 n x1 x2 (d : Int) (k : Int)) r ((ins T p [List.replicate k 32], w), o, b, q, m, l) A' := by
  intro mm
  induction mm with
  | zero =>
    intro n k h1 h4
    obtain ⟨n, rfl⟩ : ∃ n', n = n' + 1 := ⟨n - 1, by omega⟩
    have hk : k = d := by omega
    subst hk
    refine SR.cg hend fun σ c => ?_
    simp only [fl_Rm_part_42, fb_Rm_part_42]
    rw [kg_pos (by omega), if_pos (by omega)]
  | succ mm ih =>
    intro n k h1 h4
    obtain ⟨n, rfl⟩ : ∃ n', n = n' + 1 := ⟨n - 1, by omega⟩
    have hi := ih n (k + 1) (by omega) (by omega)
    have e3 : (ins T p [List.replicate k (32 : Int)]).length = T.length + 1 := ins_len hp
    have e5 : ln (ins T p [List.replicate k (32 : Int)]) p = List.replicate k 32 := by
      have : ln (ins T p [List.replicate k (32 : Int)]) p = _ := ins_gd [] hp p
      rw [this, if_neg (by omega), if_pos (by rw [List.length_singleton]; omega), Nat.sub_self]
      rfl
    have e6 : ins (List.replicate k (32 : Int)) k [32] = List.replicate (k + 1) 32 := by
      unfold ins
      rw [List.take_of_length_le (by rw [List.length_replicate]; omega), List.drop_of_length_le (by rw [List.length_replicate]; omega), List.append_nil, List.replicate_succ']
    refine SR.cg (f := fun σ => kbu (f_Rm_insertAt (p : Int) (k : Int) 32 σ) fun σ1 => fl_Rm_part_42 n x1 x2 (d : Int) ((k + 1 : Nat) : Int) σ1) ?_ fun σ c => ?_
    · have hx := SR.insertAt (g := g) (B := B) (x := (ins T p [List.replicate k (32 : Int)], w)) (o := o) (b := b) (q := q) (m := m) (l := l) (p := p) (a := k) (xp := p) (xa := k) (v := 32) rfl rfl (by dsimp only; omega) (by dsimp only; rw [e5, List.length_replicate]; omega) (by dsimp only; rw [e5, List.length_replicate]; omega)
      dsimp only at hx
      rw [e5, e6, ins_set hp] at hx
      exact SR.u hx hi
    · simp only [fl_Rm_part_42, fb_Rm_part_42, fb_Rm_part_48, fb_Rm_part_59]
      rw [kg_pos (by omega), if_neg (by omega), hx1]
      rfl
theorem SR.partL {g : Int} {B : Option Tc} {o : Option Tc} {b : Int × Tx} {q : Qd} {m : Md} {l : Int × List Int} {T : Tx} {w : Int × Int} {r k d : Nat} {L : List Int} {ro : Option Int} {A' : kEd} (hT : T.length < 10) (hr : r < T.length) (hL : ln T r = L) (hkz : k ≤ L.length) (hd : d ≤ k) (hz : L.length ≤ 20)
    (hend : SR g B (fb_Rm_part_105 (r : Int) (k : Int) (d : Int) (L.length : Int)) ro ((ins T (r + 1) [List.replicate d 32 ++ L.drop k], w), o, b, q, m, l) A') :
    ∀ (mm n i : Nat), i + mm = L.length → k ≤ i → mm < n → SR g B (fl_Rm_part_68 n (r : Int) (k : Int) (d : Int) (i : Int)) ro ((ins T (r + 1) [List.replicate d 32 ++ (L.drop k).take (i - k)], w), o, b, q, m, l) A' := by
  have hln : ∀ M : List Int, ln (ins T (r + 1) [M]) r = L := fun M => by
    have : ln (ins T (r + 1) [M]) r = _ := ins_gd [] (by omega) r
    rw [this, if_pos (by omega)]
    exact hL
  have hln1 : ∀ M : List Int, ln (ins T (r + 1) [M]) (r + 1) = M := fun M => by
    have : ln (ins T (r + 1) [M]) (r + 1) = _ := ins_gd [] (by omega) (r + 1)
    rw [this, if_neg (by omega), if_pos (by rw [List.length_singleton]; omega), Nat.sub_self]
    rfl
  have hlen : ∀ M : List Int, (ins T (r + 1) [M]).length = T.length + 1 := fun M => ins_len (by omega)
  have hsz : ∀ {σ : kS} (M : List Int), RE2 g B ((ins T (r + 1) [M], w), o, b, q, m, l) σ → σ 21 0 r = (L.length : Int) := fun {σ} M c => by
    have := Q_sz (σ := σ) (T := ins T (r + 1) [M]) (p := r) (xp := (r : Int)) rfl c.1.1.1 (by rw [hlen]; omega)
    rw [Int.toNat_natCast, hln] at this
    exact this
  intro mm
  induction mm with
  | zero =>
    intro n i h1 h2 h3
    obtain ⟨n, rfl⟩ : ∃ n', n = n' + 1 := ⟨n - 1, by omega⟩
    have hi : i = L.length := by omega
    have ht : (L.drop k).take (i - k) = L.drop k := List.take_of_length_le (by rw [List.length_drop]; omega)
    rw [ht]
    refine SR.cg hend fun σ c => ?_
    simp only [fl_Rm_part_68, fb_Rm_part_68]
    rw [Int.toNat_natCast, hsz _ c, kg_pos (by omega), if_pos (by omega), hi]
  | succ mm ih =>
    intro n i h1 h2 h3
    obtain ⟨n, rfl⟩ : ∃ n', n = n' + 1 := ⟨n - 1, by omega⟩
    have hn := ih n (i + 1) (by omega) (by omega) (by omega)
    have hx := SR.insertAt (g := g) (B := B) (x := (ins T (r + 1) [List.replicate d (32 : Int) ++ (L.drop k).take (i - k)], w)) (o := o) (b := b) (q := q) (m := m) (l := l) (p := r + 1) (a := d + i - k) (xp := (r : Int) + 1) (xa := (d : Int) + i - k) (v := L.getD i 0) (by omega) (by omega) (by dsimp only; rw [hlen]; omega) (by dsimp only; rw [hln1, List.length_append, List.length_replicate, List.length_take, List.length_drop]; omega) (by dsimp only; rw [hln1, List.length_append, List.length_replicate, List.length_take, List.length_drop]; omega)
    dsimp only at hx
    have e1 : ins (List.replicate d (32 : Int) ++ (L.drop k).take (i - k)) (d + i - k) [L.getD i 0] = List.replicate d 32 ++ (L.drop k).take (i + 1 - k) := by
      have hle : (List.replicate d (32 : Int) ++ (L.drop k).take (i - k)).length = d + i - k := by
        rw [List.length_append, List.length_replicate, List.length_take, List.length_drop]
        omega
      rw [ins_end hle, List.append_assoc]
      congr 1
      rw [show i + 1 - k = (i - k) + 1 by omega, List.take_succ_eq_append_getElem (by rw [List.length_drop]; omega), List.getElem_drop, List.getD_eq_getElem?_getD, List.getElem?_eq_getElem (by omega)]
      congr 2
      rw [Option.getD_some]
      congr 1
      omega
    rw [hln1, e1, ins_set (by omega)] at hx
    refine SR.cg (f := fun σ => kbu (f_Rm_insertAt ((r : Int) + 1) ((d : Int) + i - k) (L.getD i 0) σ) fun σ1 => fl_Rm_part_68 n (r : Int) (k : Int) (d : Int) ((i + 1 : Nat) : Int) σ1) (SR.u hx hn) fun σ c => ?_
    have hat := Q_at (σ := σ) (T := ins T (r + 1) [List.replicate d (32 : Int) ++ (L.drop k).take (i - k)]) (p := r) (c := i) (xp := (r : Int)) (xc := (i : Int)) rfl rfl c.1.1.1 (by rw [hlen]; omega) (by rw [hln]; omega)
    rw [hln] at hat
    simp only [fl_Rm_part_68, fb_Rm_part_68, fb_Rm_part_79]
    rw [Int.toNat_natCast, hsz _ c, kg_pos (by omega), if_neg (by omega), kbi_eq hat]
    rfl
theorem SR.part {g : Int} {B : Option Tc} {x : Tc} {o : Option Tc} {b : Int × Tx} {q : Qd} {s : Int × Int} {l : Int × List Int} (hx : wfX x) : SR g B (f_Rm_part x.2.1 x.2.2) (some (partA (x, o, b, q, (1, s.1, s.2, []), l)).1) (x, o, b, q, (1, s.1, s.2, []), l) (partA (x, o, b, q, (1, s.1, s.2, []), l)).2 := by
  obtain ⟨w1, w2, w3, w4, w5, w6, w7, w8⟩ := hx.sz
  have hi := ind_le (ln x.1 x.2.1.toNat)
  have hk : ((x.2.2.toNat : Nat) : Int) = x.2.2 := by omega
  have hled : ledA x ≤ x.2.2.toNat := Nat.min_le_right _ _
  have g22 : ∀ {σ}, RE2 g B (x, o, b, q, (1, s.1, s.2, []), l) σ → σ 22 0 0 = x.1.length := fun k => k.1.1.2.1
  unfold partA
  dsimp only
  by_cases h10 : x.1.length < 10
  · rw [if_pos h10]
    refine SR.cg (f := fb_Rm_part_31 x.2.1 x.2.2 (ledA x : Int)) ?_ fun σ c => ?_
    · unfold fb_Rm_part_31
      refine SR.u (SR.openLine (p := x.2.1.toNat + 1) (by omega) (by omega) h10) ?_
      unfold fb_Rm_part_39
      have hB := SR.partB (g := g) (B := B) (o := o) (b := b) (q := q) (m := (1, s.1, s.2, [])) (l := l) (p := x.2.1.toNat + 1) (d := ledA x) (x1 := x.2.1) (x2 := x.2.2) (r := some 1) (A' := (partX x, o, b, q, (1, (ledA x : Int), 0, []), l)) (T := x.1) (w := x.2) (by omega) (by omega) (by omega) h10 ?_ (ledA x) 3000 0 (by omega) (by omega)
      · exact hB
      · unfold fb_Rm_part_65
        have hL := SR.partL (g := g) (B := B) (o := o) (b := b) (q := q) (m := (1, s.1, s.2, [])) (l := l) (T := x.1) (w := x.2) (r := x.2.1.toNat) (k := x.2.2.toNat) (d := ledA x) (L := ln x.1 x.2.1.toNat) (ro := some 1) (A' := (partX x, o, b, q, (1, (ledA x : Int), 0, []), l)) h10 w2 rfl (by omega) hled w1 ?_ ((ln x.1 x.2.1.toNat).length - x.2.2.toNat) 3000 x.2.2.toNat (by omega) (by omega) (by omega)
        · rw [w8, hk, Nat.sub_self, List.take_zero, List.append_nil] at hL
          exact hL
        · -- the end
          have hlen : (ins x.1 (x.2.1.toNat + 1) [List.replicate (ledA x) (32 : Int) ++ (ln x.1 x.2.1.toNat).drop x.2.2.toNat]).length = x.1.length + 1 := ins_len (by omega)
          refine SR.cg (f := fun σ => kbu (some (none, kup σ 21 0 x.2.1.toNat x.2.2)) fun σ => kbu (f_Rm_place (x.2.1 + 1) (ledA x : Int) σ) fun σ1 => fb_Rm_part_120 x.2.1 x.2.2 (ledA x : Int) (ln x.1 x.2.1.toNat).length σ1) ?_ fun σ c => ?_
          · refine SR.u (A1 := (((partX x).1, x.2), o, b, q, (1, s.1, s.2, []), l)) (SR.t0 (x := (ins x.1 (x.2.1.toNat + 1) [List.replicate (ledA x) 32 ++ (ln x.1 x.2.1.toNat).drop x.2.2.toNat], x.2)) fun σ c => ?_) (SR.u SR.place ?_)
            · have hT : TR (σ 20 0) (σ 21 0) (ins x.1 (x.2.1.toNat + 1) [List.replicate (ledA x) 32 ++ (ln x.1 x.2.1.toNat).drop x.2.2.toNat]) := RT0.mp c.1.1.1
              have hln : ln (ins x.1 (x.2.1.toNat + 1) [List.replicate (ledA x) (32 : Int) ++ (ln x.1 x.2.1.toNat).drop x.2.2.toNat]) x.2.1.toNat = ln x.1 x.2.1.toNat := by
                have : ln (ins x.1 (x.2.1.toNat + 1) [List.replicate (ledA x) (32 : Int) ++ (ln x.1 x.2.1.toNat).drop x.2.2.toNat]) x.2.1.toNat = _ := ins_gd [] (by omega) x.2.1.toNat
                rw [this, if_pos (by omega)]
                rfl
              have ep : (partX x).1 = (ins x.1 (x.2.1.toNat + 1) [List.replicate (ledA x) 32 ++ (ln x.1 x.2.1.toNat).drop x.2.2.toNat]).set x.2.1.toNat ((ln x.1 x.2.1.toNat).take x.2.2.toNat) := by
                rw [ins_set_lo (by omega) (by omega)]
                rfl
              have htl : ((ln x.1 x.2.1.toNat).take x.2.2.toNat).length = x.2.2.toNat := by
                rw [List.length_take]
                omega
              rw [ep]
              refine ToR.mk' (F := σ 20 0) (G := fun p => if p = x.2.1.toNat then x.2.2 else σ 21 0 p) ?_ ?_ ?_ ⟨fun _ _ => rfl, fun p hp => if_neg (by omega)⟩
              · have e := sM_w21 σ (σ 20 0) (σ 21 0) x.2.1.toNat x.2.2
                rw [sM_id] at e
                rw [e]
              · rw [List.length_set]
                exact c.1.1.2.1
              · refine hT.set (by omega) (by omega) (fun q hq hne => ⟨if_neg hne, fun _ _ => rfl⟩) ?_ (fun j hj => ?_)
                · (try dsimp only)
                  rw [if_pos rfl, htl, hk]
                · have := (hT.2 x.2.1.toNat (by omega)).2.2 j (by rw [hln]; omega)
                  rw [this, hln, gd_take _ _ (by omega)]
            · intro σ h
              obtain ⟨⟨c1, c2, c3, c4, c5, c6, c7⟩, c8⟩ := h
              unfold fb_Rm_part_120
              refine ⟨_, rfl, ⟨⟨c1, ?_, c3, c4, ⟨c5.1, fun _ => rfl, fun h => absurd h (show ¬ (1 : Int) = 2 by decide)⟩, c6, c7⟩, c8⟩, frF.rfl.kup (by decide)⟩
              cases o with
              | none => exact c2
              | some y => exact c2
          · unfold fb_Rm_part_105
            rw [kg_pos (by omega), Int.toNat_natCast, w8, hk]
            rfl
    · have hbl := R_blanks (σ := σ) (T := x.1) (p := x.2.1.toNat) c.1.1.1 w2 hx.1.2.2.1
      rw [w8] at hbl
      unfold f_Rm_part fb_Rm_part_0
      rw [g22 c, kg_pos (by omega), if_neg (by omega)]
      unfold fb_Rm_part_13
      rw [kbi_eq hbl]
      unfold fb_Rm_part_18 fb_Rm_part_30 fb_Rm_part_22
      rw [kg_pos (by omega), kbi_eq hbl]
      unfold fb_Rm_part_27 ledA
      split
      · rw [show ((min (ind (ln x.1 x.2.1.toNat)) x.2.2.toNat : Nat) : Int) = x.2.2 by omega]
      · rw [show ((min (ind (ln x.1 x.2.1.toNat)) x.2.2.toNat : Nat) : Int) = (ind (ln x.1 x.2.1.toNat) : Int) by omega]
  · rw [if_neg h10]
    refine SR.read fun σ c => ?_
    unfold f_Rm_part fb_Rm_part_0
    rw [g22 c, kg_pos (by omega), if_pos (by omega)]
    rfl
theorem SR.edit {g : Int} {B : Option Tc} {x : Tc} {o : Option Tc} {b : Int × Tx} {q : Qd} {s : Int × Int} {l : Int × List Int} {c : Int} (hc : 0 ≤ c ∧ c ≤ 126) (hx : wfX x) (hs : 0 ≤ s.1 ∧ s.1 ≤ x.2.2) : SR g B (f_Rm_insert c) (some (edA (x, o, b, q, (1, s.1, s.2, []), l) c).1) (x, o, b, q, (1, s.1, s.2, []), l) (edA (x, o, b, q, (1, s.1, s.2, []), l) c).2 := by
  obtain ⟨w1, w2, w3, w4, w5, w6, w7, w8⟩ := hx.sz
  have hk : ((x.2.2.toNat : Nat) : Int) = x.2.2 := by omega
  have g23 : ∀ {σ}, RE2 g B (x, o, b, q, (1, s.1, s.2, []), l) σ → σ 23 0 0 = x.2.1 := fun k => k.1.1.2.2.1
  have g24 : ∀ {σ}, RE2 g B (x, o, b, q, (1, s.1, s.2, []), l) σ → σ 24 0 0 = x.2.2 := fun k => k.1.1.2.2.2
  have g18 : ∀ {σ}, RE2 g B (x, o, b, q, (1, s.1, s.2, []), l) σ → σ 9 0 18 = s.1 := fun k => k.1.2.2.2.2.1.2.1 rfl
  have g21 : ∀ {σ}, RE2 g B (x, o, b, q, (1, s.1, s.2, []), l) σ → σ 21 0 x.2.1.toNat = (ln x.1 x.2.1.toNat).length := fun k => Q_sz (T := x.1) w8.symm k.1.1.1 w2
  have hI : -2147483648 ≤ c ∧ c < 2147483648 := by omega
  have e0 : ∀ {σ}, RE2 g B (x, o, b, q, (1, s.1, s.2, []), l) σ → f_Rm_insert c σ = if c = 8 then fb_Rm_insert_50 c x.2.1 x.2.2 σ else if c = 10 then fb_Rm_insert_86 c x.2.1 x.2.2 σ else if c = 27 then fb_Rm_insert_20 c x.2.1 x.2.2 σ else fb_Rm_insert_93 c x.2.1 x.2.2 σ := fun {σ} k => by
    unfold f_Rm_insert fb_Rm_insert_0 fb_Rm_insert_44 fb_Rm_insert_80
    rw [g23 k, g24 k]
    simp only [kg_pos hI]
    repeat' split
    all_goals first | rfl | (exfalso; omega)
  have hcol : ∀ (v : Int) (T : Tx) (w : Int × Int), SR g B (fun σ => some (some 1, kup σ 24 0 0 v)) (some 1) ((T, w), o, b, q, (1, s.1, s.2, []), l) ((T, w.1, v), o, b, q, (1, s.1, s.2, []), l) := by
    intro v T w σ h
    obtain ⟨⟨c1, c2, c3, c4, c5, c6, c7⟩, c8⟩ := h
    refine ⟨_, rfl, ⟨⟨⟨c1.1, c1.2.1, c1.2.2.1, rfl⟩, ?_, c3, c4, c5, c6, c7⟩, c8⟩, frF.rfl.kup (by decide)⟩
    cases o with
    | none => exact c2
    | some y => exact c2
  unfold edA
  dsimp only
  by_cases c1 : c = 8
  · rw [if_pos c1]
    by_cases hlt : s.1 < x.2.2
    · rw [if_pos hlt]
      refine SR.cg (f := fun σ => kbu (f_Rm_removeAt x.2.1 (x.2.2 - 1) σ) fun σ1 => fb_Rm_insert_68 c x.2.1 x.2.2 σ1) ?_ fun σ k => ?_
      · refine SR.u (A1 := ((x.1.set x.2.1.toNat (cut (ln x.1 x.2.1.toNat) (x.2.2.toNat - 1) x.2.2.toNat), x.2), o, b, q, (1, s.1, s.2, []), l)) (SR.t0 fun σ k => ?_) (SR.cg (hcol (x.2.2 - 1) _ x.2) fun σ k => ?_)
        · have := R_removeAt (σ := σ) (T := x.1) (p := x.2.1.toNat) (a := x.2.2.toNat - 1) (xp := x.2.1) (xa := x.2.2 - 1) w8.symm (by omega) k.1.1.1 k.1.1.2.1 w2 (by omega)
          rw [show x.2.2.toNat - 1 + 1 = x.2.2.toNat by omega] at this
          exact this
        · have z4 : σ 24 0 0 = x.2.2 := k.1.1.2.2.2
          unfold fb_Rm_insert_68
          rw [z4]
      · rw [e0 k, if_pos c1]
        unfold fb_Rm_insert_50
        rw [g18 k, kg_pos (by omega), if_neg (by omega)]
        rfl
    · rw [if_neg hlt]
      refine SR.read fun σ k => ?_
      rw [e0 k, if_pos c1]
      unfold fb_Rm_insert_50
      rw [g18 k, kg_pos (by omega), if_pos (by omega)]
      rfl
  rw [if_neg c1]
  by_cases c2 : c = 10
  · rw [if_pos c2]
    refine SR.cg (f := fb_Rm_insert_86 c x.2.1 x.2.2) ?_ fun σ k => by rw [e0 k, if_neg c1, if_pos c2]
    unfold fb_Rm_insert_86
    refine SR.i (SR.part hx) (SR.read fun σ k => ?_)
    unfold fb_Rm_insert_92
    rw [kg_pos]
    unfold partA
    split
    · exact .inr rfl
    · exact .inl rfl
  rw [if_neg c2]
  by_cases c3 : c = 27
  · rw [if_pos c3]
    intro σ k
    have z := e0 k
    obtain ⟨⟨k1, k2, k3, k4, k5, k6, k7⟩, k8⟩ := k
    refine ⟨kup (kup σ 9 0 5 0) 24 0 0 (max 0 (x.2.2 - 1)), ?_, ⟨⟨⟨k1.1, k1.2.1, k1.2.2.1, rfl⟩, ?_, k3, k4, ⟨rfl, fun h => absurd h (show ¬ (0 : Int) = 1 by decide), fun h => absurd h (show ¬ (0 : Int) = 2 by decide)⟩, k6, k7⟩, k8⟩, (frF.rfl.kup (by decide)).kup (by decide)⟩
    · rw [z, if_neg c1, if_neg c2, if_pos c3]
      unfold fb_Rm_insert_20 fb_Rm_insert_34 fb_Rm_insert_40 fb_Rm_insert_41
      rw [kg_pos (by omega), kg_pos (by decide), kg_pos (by decide)]
      split
      · rw [show max 0 (x.2.2 - 1) = 0 by omega]
        rfl
      · rw [show max 0 (x.2.2 - 1) = x.2.2 - 1 by omega]
        rfl
    · cases o with
      | none => exact k2
      | some y => exact k2
  rw [if_neg c3]
  by_cases h20 : (ln x.1 x.2.1.toNat).length < 20
  · rw [if_pos h20]
    refine SR.cg (f := fun σ => kbu (f_Rm_insertAt x.2.1 x.2.2 c σ) fun σ1 => fb_Rm_insert_113 c x.2.1 x.2.2 σ1) ?_ fun σ k => ?_
    · refine SR.u (SR.insertAt w8.symm hk.symm w2 (by omega) h20) (SR.cg (hcol (x.2.2 + 1) _ x.2) fun σ k => ?_)
      have z4 : σ 24 0 0 = x.2.2 := k.1.1.2.2.2
      unfold fb_Rm_insert_113
      rw [z4]
    · rw [e0 k, if_neg c1, if_neg c2, if_neg c3]
      unfold fb_Rm_insert_93
      rw [g21 k, kg_pos (by omega), if_neg (by omega)]
      rfl
  · rw [if_neg h20]
    refine SR.read fun σ k => ?_
    rw [e0 k, if_neg c1, if_neg c2, if_neg c3]
    unfold fb_Rm_insert_93
    rw [g21 k, kg_pos (by omega), if_pos (by omega)]
    rfl
theorem RE2.none {g : Int} {A : kEd} {σ : kS} (h : RE g A σ) : RE2 g none A σ := ⟨h, fun y hy => nomatch hy⟩
theorem SW.inser {g : Int} {x : Tc} {o : Option Tc} {b : Int × Tx} {q : Qd} {s : Int × Int} {l : Int × List Int} {c : Int} (hg : g = 0 ∨ g = 1) (hc : 0 ≤ c ∧ c ≤ 126) (hx : wfX x) (hs : 0 ≤ s.1 ∧ s.1 ≤ x.2.2) (hl : 0 ≤ l.1 ∧ l.1 ≤ 9) (hl2 : (l.2.length : Int) = min 8 l.1) : SW g (f_Rm_work c) (some (1 - (insA g (x, o, b, q, (1, s.1, s.2, []), l) c).1)) (x, o, b, q, (1, s.1, s.2, []), l) (insA g (x, o, b, q, (1, s.1, s.2, []), l) c).2 := by
  intro σ k
  have h5 : σ 9 0 5 = 1 := k.2.2.2.2.1.1
  have e22 : f_Rm_work c σ = fb_Rm_work_22 c σ := by
    unfold f_Rm_work fb_Rm_work_0 fb_Rm_work_14
    rw [h5, kg_pos (by decide), if_neg (by decide), kg_pos (by decide), if_pos rfl]
  rw [e22]
  obtain ⟨τ, et, kt, ft⟩ := SR.edit (g := g) (B := none) (x := x) (o := o) (b := b) (q := q) (s := s) (l := l) (c := c) hc hx hs σ (RE2.none k)
  unfold fb_Rm_work_22
  rw [kbi_eq et]
  unfold insA
  dsimp only
  have h01 := edA_01 (x, o, b, q, (1, s.1, s.2, []), l) c
  have hL := edA_l (x, o, b, q, (1, s.1, s.2, []), l) c
  generalize edA (x, o, b, q, (1, s.1, s.2, []), l) c = E at h01 hL et kt
  obtain ⟨y, x', o', b', q', m', l'⟩ := E
  have hL' : l' = l := hL
  subst hL'
  have h01' : y = 0 ∨ y = 1 := h01
  show ∃ σ', fb_Rm_work_27 c y τ = some (some (1 - y), σ') ∧ RE g (if y = 0 then (x', o', b', q', m', l') else (x', o', b', q', m', keepL g l' c)) σ' ∧ frF σ σ'
  unfold fb_Rm_work_27
  rw [kg_pos (by omega)]
  rcases h01' with h | h
  · rw [if_pos h, if_pos h]
    refine ⟨τ, ?_, kt.1, ft⟩
    unfold fb_Rm_work_37 fb_Rm_work_45 fb_Rm_work_46
    rw [kg_pos (by omega), if_pos h, h]
    rfl
  · rw [if_neg (by omega), if_neg (by omega)]
    obtain ⟨υ, eu, ku, fu⟩ := SR.keep (g := g) (B := none) (x := x') (o := o') (b := b') (q := q') (m := m') (l := l') (c := c) hg hl hl2 τ kt
    refine ⟨υ, ?_, ku.1, ft.tr fu⟩
    unfold fb_Rm_work_32
    rw [kbu_eq eu]
    unfold fb_Rm_work_37 fb_Rm_work_41 fb_Rm_work_46
    rw [kg_pos (by omega), if_neg (by omega), h]
    rfl
