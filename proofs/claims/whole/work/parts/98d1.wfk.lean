/-! Pure: what a key leaves. -/
theorem pends_snoc {c : Int} : ∀ (ks : List Int) (q : Int × Int × Int), pends q (ks ++ [c]) = (pends q ks).bind fun q' => pend q' c := by
  intro ks
  induction ks with
  | nil =>
    intro q
    show (pend q c).bind (fun q' => pends q' []) = pend q c
    cases pend q c <;> rfl
  | cons a ks ih =>
    intro q
    show (pend q a).bind (fun q' => pends q' (ks ++ [c])) = ((pend q a).bind fun q' => pends q' ks).bind fun q' => pend q' c
    cases pend q a with
    | none => rfl
    | some q' => exact ih q'
/-- nothing is pending -/
theorem wfC.e {A : kEd} (h : wfC A) : wfE (dropQ A) := ⟨h.1, h.2.1, h.2.2.1, h.2.2.2.1, wfQ_0, fun _ => rfl, rfl, fun c hc => (nomatch hc), h.2.2.2.2⟩
theorem lead_c {x : Tc} {c n : Int} (h : 0 ≤ lead x c n) : c = 36 ∨ c = 48 ∨ c = 71 ∨ c = 98 ∨ c = 104 ∨ c = 106 ∨ c = 107 ∨ c = 108 ∨ c = 119 := by
  by_cases hc : c = 36 ∨ c = 48 ∨ c = 71 ∨ c = 98 ∨ c = 104 ∨ c = 106 ∨ c = 107 ∨ c = 108 ∨ c = 119
  · exact hc
  · exfalso
    unfold lead at h
    rw [if_neg (by omega), if_neg (by omega), if_neg (by omega), if_neg (by omega), if_neg (by omega), if_neg (by omega), if_neg (by omega), if_neg (by omega), if_neg (by omega)] at h
    exact absurd h (by decide)
section
variable {g : Int} {x : Tc} {o : Option Tc} {b : Int × Tx} {q : Qd} {s : Int × Int} {l : Int × List Int} {c : Int}
/-- the change that a command notes -/
def ntC (g : Int) (l : Int × List Int) (ks : List Int) : Int × List Int := if g = 0 then ((ks.length : Int), ks) else l
/-- what is known of a key in COMMAND -/
def CK (g : Int) (A : kEd) (c : Int) (r : Int × kEd) : Prop := wfE r.2 ∧ (r.2.2.2.2.2.1.1 = 2 → A.2.2.2.1.1 = 0 ∧ (c = 47 ∨ c = 58)) ∧ ((∃ q', pend (A.2.2.2.1.1, A.2.2.2.1.2.1, A.2.2.2.1.2.2.1) c = some q' ∧ r = (1, (A.1, A.2.1, A.2.2.1, (q'.1, q'.2.1, q'.2.2, A.2.2.2.1.2.2.2 ++ [c]), A.2.2.2.2))) ∨ pend (A.2.2.2.1.1, A.2.2.2.1.2.1, A.2.2.2.1.2.2.1) c = none ∧ (r.1 = 0 ∧ r.2.2.2.2.2.2 = A.2.2.2.2.2 ∧ r.2.2.2.2.2.1.1 = 0 ∨ r.1 = 1 ∧ (¬ insK (A.2.2.2.1.1, A.2.2.2.1.2.1, A.2.2.2.1.2.2.1) c ∨ c = 27) ∧ r.2.2.2.2.2.2 = A.2.2.2.2.2 ∧ r.2.2.2.2.2.1.1 ≠ 1 ∨ r.1 = 1 ∧ c ≠ 27 ∧ (A.2.2.2.1.1 = 0 → c ≠ 58 ∧ c ≠ 47) ∧ r.2.2.2.2.2.2 = ntC g A.2.2.2.2.2 (A.2.2.2.1.2.2.2 ++ [c]) ∧ (insK (A.2.2.2.1.1, A.2.2.2.1.2.1, A.2.2.2.1.2.2.1) c ∧ r.2.2.2.2.2.1.1 = 1 ∨ ¬ insK (A.2.2.2.1.1, A.2.2.2.1.2.1, A.2.2.2.1.2.2.1) c ∧ r.2.2.2.2.2.1.1 = 0)))
theorem CK_of {K : Prop} {op : Int} {r : Int × kEd} (hpn : pend (q.1, q.2.1, q.2.2.1) c = none) (h27 : c ≠ 27) (hK : K ↔ insK (q.1, q.2.1, q.2.2.1) c) (h : CR g (addK (x, o, b, q, (0, s.1, s.2, []), l) op c) r K) (h2 : r.2.2.2.2.2.1.1 = 2 → q.1 = 0 ∧ (c = 47 ∨ c = 58)) (h0 : q.1 = 0 → (c = 58 ∨ c = 47) → r.2.2.2.2.2.1.1 = 2) : CK g (x, o, b, q, (0, s.1, s.2, []), l) c (r.1, dropQ r.2) := by
  obtain ⟨hw, hr⟩ := h
  refine ⟨hw.e, h2, .inr ⟨hpn, ?_⟩⟩
  rcases hr with ⟨a1, a2⟩ | ⟨a1, a2, a3, a4⟩ | ⟨a1, a2, a3⟩
  · refine .inl ⟨a1, ?_, ?_⟩
    · show (dropQ r.2).2.2.2.2.2 = l
      rw [a2]
      rfl
    · show (dropQ r.2).2.2.2.2.1.1 = 0
      rw [a2]
      rfl
  · exact .inr (.inl ⟨a1, .inl fun h => a2 (hK.2 h), a3, a4⟩)
  · refine .inr (.inr ⟨a1, h27, fun hq0 => ?_, a2, ?_⟩)
    · have : ¬ (c = 58 ∨ c = 47) := fun hc => by
        have e2 := h0 hq0 hc
        rcases a3 with ⟨-, e⟩ | ⟨-, e⟩
        · rw [e2] at e
          exact absurd e (by decide)
        · rw [e2] at e
          exact absurd e (by decide)
      exact ⟨fun h => this (.inl h), fun h => this (.inr h)⟩
    · rcases a3 with ⟨k1, k2⟩ | ⟨k1, k2⟩
      · exact .inl ⟨hK.1 k1, k2⟩
      · exact .inr ⟨fun h => k1 (hK.2 h), k2⟩
theorem opr_m {A : kEd} {c p : Int} (h : A.2.2.2.2.1.1 = 0) : (opr g A c p).2.2.2.2.2.1.1 ≠ 2 := by
  have hC : ∀ i j, (opC g A i j).2.2.2.2.1.1 ≠ 2 := by
    intro i j
    unfold opC
    split
    · rw [h]
      decide
    · split
      · show A.2.2.2.2.1.1 ≠ 2
        rw [h]
        decide
      · show (1 : Int) ≠ 2
        decide
  have hL : ∀ i j, (opL g A i j).2.2.2.2.1.1 ≠ 2 := by
    intro i j
    unfold opL
    split
    · rw [h]
      decide
    · split
      · show A.2.2.2.2.1.1 ≠ 2
        rw [h]
        decide
      · show (1 : Int) ≠ 2
        decide
  have h0 : A.2.2.2.2.1.1 ≠ 2 := by
    rw [h]
    decide
  have hc : ∀ i j, (chA g A i j).2.2.2.2.2.1.1 ≠ 2 := by
    intro i j
    unfold chA
    split
    · exact hC _ _
    · exact h0
  have hl : ∀ i j, (lnA g A i j).2.2.2.2.2.1.1 ≠ 2 := fun i j => hL _ _
  unfold opr
  split
  · split
    · exact h0
    · exact hc _ _
  split
  · split
    · exact h0
    · exact hc _ _
  split
  · split
    · exact h0
    · exact hl _ _
  split
  · split
    · exact hc _ _
    · exact h0
  split
  · exact hc _ _
  split
  · exact hc _ _
  split
  · exact hc _ _
  split
  · exact hl _ _
  · exact h0
theorem cmdA_wf (hx : wfX x) (hon : onC x) (ho : wfO o) (hb : wfB b) (hq : wfQ q) (hpd : pends (0, 0, 0) q.2.2.2 = some (q.1, q.2.1, q.2.2.1)) (hkk : ∀ c ∈ q.2.2.2, kKey c) (hc : kKey c) : CK g (x, o, b, q, (0, s.1, s.2, []), l) c (cmdA g (x, o, b, q, (0, s.1, s.2, []), l) c) := by
  obtain ⟨w1, w2, w3, w4, w5, w6, w7, w8⟩ := hx.sz
  have hq' := hq
  obtain ⟨q1, q2, q3, q4, q5, q6, q7, q8⟩ := hq'
  unfold cmdA
  dsimp only
  cases hpn : pend (q.1, q.2.1, q.2.2.1) c with
  | some q' =>
    refine ⟨⟨hx, fun _ => hon, ho, hb, ?_, fun h => absurd rfl h, ?_, ?_, wfMz⟩, fun h => absurd h (show ¬ (0 : Int) = 2 by decide), .inl ⟨q', hpn, rfl⟩⟩
    · unfold pend at hpn
      dsimp only at hpn
      show wfQ (q'.1, q'.2.1, q'.2.2, q.2.2.2 ++ [c])
      have hlen : ((q.2.2.2 ++ [c]).length : Int) = (q.2.2.2.length : Int) + 1 := by
        rw [List.length_append, List.length_singleton]
        omega
      split at hpn
      · rename_i hz
        cases hpn
        rw [if_pos hz.1] at q8
        refine ⟨?_, ?_, ?_, ?_, ?_, ?_, .inl rfl, ?_⟩ <;> dsimp only
        · omega
        · omega
        · omega
        · omega
        · omega
        · omega
        · rw [if_pos rfl]
          omega
      · split at hpn
        · rename_i hz
          cases hpn
          rw [if_pos hz.1] at q8
          refine ⟨q1, q2, q3, q4, q5, q6, .inr ?_, ?_⟩ <;> dsimp only
          · unfold isOp
            exact hz.2
          · rw [if_neg (by omega)]
            omega
        · exact nomatch hpn
    · show pends (0, 0, 0) (q.2.2.2 ++ [c]) = some (q'.1, q'.2.1, q'.2.2)
      rw [pends_snoc, hpd]
      exact hpn
    · intro d hd
      rcases List.mem_append.1 hd with h | h
      · exact hkk d h
      · rw [List.mem_singleton.1 h]
        exact hc
  | none =>
    show CK g (x, o, b, q, (0, s.1, s.2, []), l) c (if c = 27 then _ else _)
    have hq29 : 0 ≤ q.2.1 ∧ q.2.1 ≤ 99 := by omega
    by_cases h27 : c = 27
    · rw [if_pos h27]
      exact ⟨wfC.e (A := (x, o, b, q, (0, s.1, s.2, []), l)) ⟨hx, fun _ => hon, ho, hb, wfMz⟩, fun h => absurd h (show ¬ (0 : Int) = 2 by decide), .inr ⟨hpn, .inr (.inl ⟨rfl, .inr h27, rfl, (by decide : (0 : Int) ≠ 1)⟩)⟩⟩
    rw [if_neg h27]
    have hlr := lead_r (c := c) hx hq29
    have hwb : c = 119 ∨ c = 98 → 0 ≤ lead x c q.2.1 → lead x c q.2.1 / 32 = x.2.1 → lead x c q.2.1 % 32 ≤ (ln x.1 x.2.1.toNat).length := by
      intro hcc h0 hrow
      have := lead_wb (x := x) (n := q.2.1) hcc h0
      rw [hrow] at this
      omega
    by_cases hop : q.1 = 0
    · rw [if_neg (show ¬ q.1 ≠ 0 from fun h => h hop)]
      by_cases h120 : c = 120
      · rw [if_pos h120]
        refine CK_of (op := 100) (K := (100 : Int) = 99) hpn h27 ?_ (CR_opr (q := (100, q.2.1, q.2.2.1, q.2.2.2 ++ [c])) hx hon ho hb (.inl rfl) hq29 hlr (fun h => absurd h (by decide))) (fun h => absurd h (opr_m rfl)) (fun _ h => absurd h (by omega))
        unfold insK
        dsimp only
        constructor
        · intro h
          exact absurd h (by decide)
        · intro h
          omega
      · rw [if_neg h120]
        by_cases hld : 0 ≤ lead x c q.2.1
        · rw [if_pos hld]
          have hcc := lead_c hld
          have hcl : (0 : Int) ≤ cl (lead x c q.2.1 / 32) ((x.1.length : Int) - 1) ∧ cl (lead x c q.2.1 / 32) ((x.1.length : Int) - 1) < x.1.length := by
            unfold cl
            omega
          have hw : wfC ((x.1, cl (lead x c q.2.1 / 32) ((x.1.length : Int) - 1), cl (lead x c q.2.1 % 32) (((ln x.1 (cl (lead x c q.2.1 / 32) ((x.1.length : Int) - 1)).toNat).length : Int) - 1)), o, b, q, (0, s.1, s.2, []), l) := by
            refine ⟨⟨hx.1, hcl.1, hcl.2, ?_, ?_⟩, fun _ => ?_, ho, hb, wfMz⟩
            · unfold cl
              dsimp only
              omega
            · dsimp only
              rw [show ∀ n : Int, cl (lead x c q.2.1 % 32) n = max 0 (min (lead x c q.2.1 % 32) n) from fun n => rfl]
              omega
            · unfold onC
              dsimp only
              rw [show ∀ n : Int, cl (lead x c q.2.1 % 32) n = max 0 (min (lead x c q.2.1 % 32) n) from fun n => rfl]
              omega
          refine ⟨hw.e, fun h => absurd h (show ¬ (0 : Int) = 2 by decide), .inr ⟨hpn, .inr (.inl ⟨rfl, .inl ?_, rfl, (by decide : (0 : Int) ≠ 1)⟩)⟩⟩
          unfold insK
          dsimp only
          omega
        · rw [if_neg hld]
          by_cases hdg : q.2.2.1 = 0
          · rw [if_pos hdg]
            have hpl := CR_pln (g := g) (x := x) (o := o) (b := b) (q := (0, q.2.1, q.2.2.1, q.2.2.2 ++ [c])) (s := s) (l := l) (c := c) hx hon ho hb
            refine CK_of (op := 0) (K := plK c) hpn h27 ?_ hpl.1 (fun h => ⟨hop, hpl.2 h⟩) (fun _ h => ?_)
            · unfold plK insK
              dsimp only
              omega
            · show (plnA g (x, o, b, (0, q.2.1, q.2.2.1, q.2.2.2 ++ [c]), (0, s.1, s.2, []), l) c).2.2.2.2.2.1.1 = 2
              unfold plnA
              rw [if_pos (by omega)]
          · rw [if_neg hdg]
            exact ⟨wfC.e (A := (x, o, b, q, (0, s.1, s.2, []), l)) ⟨hx, fun _ => hon, ho, hb, wfMz⟩, fun h => absurd h (show ¬ (0 : Int) = 2 by decide), .inr ⟨hpn, .inl ⟨rfl, rfl, rfl⟩⟩⟩
    · rw [if_pos hop]
      refine CK_of (op := q.1) (K := q.1 = 99) hpn h27 ?_ (CR_opr (q := (q.1, q.2.1, q.2.2.1, q.2.2.2 ++ [c])) hx hon ho hb (q7.resolve_left hop) hq29 hlr hwb) (fun h => absurd h (opr_m rfl)) (fun h => absurd h hop)
      unfold insK
      dsimp only
      omega
/-- what a key in INSERT leaves -/
theorem edA_wf (hx : wfX x) (hs : 0 ≤ s.1 ∧ s.1 ≤ x.2.2) (ho : wfO o) (hb : wfB b) (hc : kKey c) : wfE (edA (x, o, b, (0, 0, 0, []), (1, s.1, s.2, []), l) c).2 ∧ (edA (x, o, b, (0, 0, 0, []), (1, s.1, s.2, []), l) c).2.2.2.2.2.1.1 = (if c = 27 then 0 else 1) ∧ (edA (x, o, b, (0, 0, 0, []), (1, s.1, s.2, []), l) c).2.2.2.2.2.2 = l ∧ (c = 27 → (edA (x, o, b, (0, 0, 0, []), (1, s.1, s.2, []), l) c).1 = 1) := by
  obtain ⟨w1, w2, w3, w4, w5, w6, w7, w8⟩ := hx.sz
  have hokL := okL_ln hx.1 x.2.1.toNat
  unfold kKey at hc
  -- the state as it was
  have h0 : wfE (x, o, b, (0, 0, 0, []), (1, s.1, s.2, []), l) := ⟨hx, fun h => absurd rfl h, ho, hb, wfQ_0, fun _ => rfl, rfl, fun c hc => (nomatch hc), wfM_1 hs.1 hs.2⟩
  unfold edA
  dsimp only
  by_cases c8 : c = 8
  · rw [if_pos c8, if_neg (show ¬ c = 27 by omega)]
    split
    · rename_i hlt
      have hln : ln (x.1.set x.2.1.toNat (cut (ln x.1 x.2.1.toNat) (x.2.2.toNat - 1) x.2.2.toNat)) x.2.1.toNat = cut (ln x.1 x.2.1.toNat) (x.2.2.toNat - 1) x.2.2.toNat := by rw [ln_set w2, if_pos rfl]
      have hcl := cut_len (X := ln x.1 x.2.1.toNat) (a := x.2.2.toNat - 1) (b := x.2.2.toNat) (by omega) (by omega)
      refine ⟨⟨⟨wfT_set hx.1 (okL_cut hokL (by omega) (by omega)), w5, ?_, ?_, ?_⟩, fun h => absurd rfl h, ho, hb, wfQ_0, fun _ => rfl, rfl, fun c hc => (nomatch hc), wfM_1 hs.1 ?_⟩, rfl, rfl, fun h => absurd h (by omega)⟩
      · dsimp only
        rw [List.length_set]
        omega
      · dsimp only
        omega
      · dsimp only
        rw [hln]
        omega
      · dsimp only
        omega
    · exact ⟨h0, rfl, rfl, fun h => absurd h (by omega)⟩
  rw [if_neg c8]
  by_cases c10 : c = 10
  · rw [if_pos c10, if_neg (show ¬ c = 27 by omega)]
    unfold partA
    dsimp only
    split
    · rename_i hlt
      have hind := ind_le (ln x.1 x.2.1.toNat)
      have hled : ledA x ≤ x.2.2.toNat := by
        unfold ledA
        omega
      have hN : okL (List.replicate (ledA x) (32 : Int) ++ (ln x.1 x.2.1.toNat).drop x.2.2.toNat) := by
        refine ⟨?_, fun c hc => ?_⟩
        · rw [List.length_append, List.length_replicate, List.length_drop]
          omega
        · rcases List.mem_append.1 hc with h | h
          · rw [(List.mem_replicate.1 h).2]
            decide
          · exact hokL.2 c (List.mem_of_mem_drop h)
      have hS : wfText (x.1.set x.2.1.toNat ((ln x.1 x.2.1.toNat).take x.2.2.toNat)) := wfT_set hx.1 ⟨by rw [List.length_take]; omega, fun c hc => hokL.2 c (List.mem_of_mem_take hc)⟩
      have hil := ins_len (X := x.1.set x.2.1.toNat ((ln x.1 x.2.1.toNat).take x.2.2.toNat)) (Y := [List.replicate (ledA x) (32 : Int) ++ (ln x.1 x.2.1.toNat).drop x.2.2.toNat]) (a := x.2.1.toNat + 1) (by rw [List.length_set]; omega)
      rw [List.length_set, List.length_singleton] at hil
      have hW : wfText (ins (x.1.set x.2.1.toNat ((ln x.1 x.2.1.toNat).take x.2.2.toNat)) (x.2.1.toNat + 1) [List.replicate (ledA x) (32 : Int) ++ (ln x.1 x.2.1.toNat).drop x.2.2.toNat]) := by
        refine wfT_iff.2 ⟨by omega, by omega, fun L hL => ?_⟩
        rcases ins_mem hL with h | h
        · exact wfT.ok hS L h
        · rw [List.mem_singleton.1 h]
          exact hN
      have hln : ln (ins (x.1.set x.2.1.toNat ((ln x.1 x.2.1.toNat).take x.2.2.toNat)) (x.2.1.toNat + 1) [List.replicate (ledA x) (32 : Int) ++ (ln x.1 x.2.1.toNat).drop x.2.2.toNat]) (x.2.1.toNat + 1) = List.replicate (ledA x) (32 : Int) ++ (ln x.1 x.2.1.toNat).drop x.2.2.toNat := by
        have := ins_gd (X := x.1.set x.2.1.toNat ((ln x.1 x.2.1.toNat).take x.2.2.toNat)) (Y := [List.replicate (ledA x) (32 : Int) ++ (ln x.1 x.2.1.toNat).drop x.2.2.toNat]) (a := x.2.1.toNat + 1) [] (by rw [List.length_set]; omega) (x.2.1.toNat + 1)
        rw [if_neg (Nat.lt_irrefl _), List.length_singleton, if_pos (by omega), Nat.sub_self] at this
        exact this
      refine ⟨⟨⟨hW, ?_, ?_, Int.natCast_nonneg _, ?_⟩, fun h => absurd rfl h, ho, hb, wfQ_0, fun _ => rfl, rfl, fun c hc => (nomatch hc), wfM_1 (Int.natCast_nonneg _) (Int.le_refl _)⟩, rfl, rfl, fun h => absurd h (by omega)⟩
      · show 0 ≤ x.2.1 + 1
        omega
      · show x.2.1 + 1 < ((ins _ _ _).length : Int)
        rw [hil]
        omega
      · show ((ledA x : Nat) : Int) ≤ ((ln (ins _ _ _) (x.2.1 + 1).toNat).length : Int)
        rw [show (x.2.1 + 1).toNat = x.2.1.toNat + 1 by omega, hln, List.length_append, List.length_replicate]
        omega
    · exact ⟨h0, rfl, rfl, fun h => absurd h (by omega)⟩
  rw [if_neg c10]
  by_cases c27 : c = 27
  · rw [if_pos c27, if_pos c27]
    refine ⟨⟨⟨hx.1, w5, hx.2.2.1, ?_, ?_⟩, fun _ => ?_, ho, hb, wfQ_0, fun _ => rfl, rfl, fun c hc => (nomatch hc), wfMz⟩, rfl, rfl, fun _ => rfl⟩
    · dsimp only
      omega
    · dsimp only
      omega
    · unfold onC
      dsimp only
      omega
  · rw [if_neg c27, if_neg c27]
    split
    · rename_i hlt
      have hil := ins_len (X := ln x.1 x.2.1.toNat) (Y := [c]) (a := x.2.2.toNat) (by omega)
      rw [List.length_singleton] at hil
      have hln : ln (x.1.set x.2.1.toNat (ins (ln x.1 x.2.1.toNat) x.2.2.toNat [c])) x.2.1.toNat = ins (ln x.1 x.2.1.toNat) x.2.2.toNat [c] := by rw [ln_set w2, if_pos rfl]
      refine ⟨⟨⟨wfT_set hx.1 ⟨by omega, fun d hd => ?_⟩, w5, ?_, ?_, ?_⟩, fun h => absurd rfl h, ho, hb, wfQ_0, fun _ => rfl, rfl, fun c hc => (nomatch hc), wfM_1 hs.1 ?_⟩, rfl, rfl, fun h => absurd h c27⟩
      · rcases ins_mem hd with h | h
        · exact hokL.2 d h
        · rw [List.mem_singleton.1 h]
          omega
      · dsimp only
        rw [List.length_set]
        omega
      · dsimp only
        omega
      · dsimp only
        rw [hln]
        omega
      · dsimp only
        omega
    · exact ⟨h0, rfl, rfl, fun h => absurd h c27⟩
/-- what a key in PROMPT leaves -/
theorem askA_wf {D : kDk} {s1 sr : Int} {ks : List Int} (hx : wfX x) (hon : onC x) (ho : wfO o) (hb : wfB b) (hD : wfD D) (hl : ks.length ≤ 30) (hks : ∀ c ∈ ks, 32 ≤ c ∧ c ≤ 126) (hsr : sr = 0 ∨ sr = 1) (hc : kKey c) : wfE (askA (x, o, b, (0, 0, 0, []), (2, s1, sr, ks), l) D c).2.1 ∧ wfD (askA (x, o, b, (0, 0, 0, []), (2, s1, sr, ks), l) D c).2.2 ∧ (askA (x, o, b, (0, 0, 0, []), (2, s1, sr, ks), l) D c).2.1.2.2.2.2.1.1 ≠ 1 ∧ (askA (x, o, b, (0, 0, 0, []), (2, s1, sr, ks), l) D c).2.1.2.2.2.2.2 = l := by
  have hmk : ∀ ks' : List Int, ks'.length ≤ 30 → (∀ c ∈ ks', 32 ≤ c ∧ c ≤ 126) → wfE (x, o, b, (0, 0, 0, []), (2, s1, sr, ks'), l) := fun ks' h1 h2 => ⟨hx, fun _ => hon, ho, hb, wfQ_0, fun _ => rfl, rfl, fun c hc => (nomatch hc), .inr (.inr rfl), fun h => absurd h (show ¬ (2 : Int) = 1 by decide), fun _ => hsr, h1, h2, fun h => absurd rfl h⟩
  have hle : ∀ (x' : Tc) (o' : Option Tc) (b' : Int × Tx), wfX x' ∧ onC x' → wfO o' → wfB b' → wfE (x', o', b', (0, 0, 0, []), (0, 0, 0, []), l) := fun x' o' b' h1 h2 h3 => ⟨h1.1, fun _ => h1.2, h2, h3, wfQ_0, fun _ => rfl, rfl, fun c hc => (nomatch hc), wfMz⟩
  have n0 : (0 : Int) ≠ 1 := by decide
  have n2 : (2 : Int) ≠ 1 := by decide
  unfold kKey at hc
  unfold askA
  dsimp only
  split
  · split
    · rename_i h1 h2
      refine ⟨hmk _ ?_ ?_, hD, n2, rfl⟩
      · rw [List.length_append, List.length_singleton]
        omega
      · intro d hd
        rcases List.mem_append.1 hd with h | h
        · exact hks d h
        · rw [List.mem_singleton.1 h]
          omega
    · exact ⟨hmk _ hl hks, hD, n2, rfl⟩
  split
  · refine ⟨hmk _ ?_ ?_, hD, n2, rfl⟩
    · rw [List.length_dropLast]
      omega
    · exact fun d hd => hks d (List.dropLast_subset ks hd)
  split
  · split
    · cases hs : srcA ks x with
      | none => exact ⟨hle _ _ _ ⟨hx, hon⟩ ho hb, hD, n0, rfl⟩
      | some y => exact ⟨hle _ _ _ (srcA_wf hx hs) ho hb, hD, n0, rfl⟩
    · cases hs : caA ks x o b D with
      | none => exact ⟨hle _ _ _ ⟨hx, hon⟩ ho hb, hD, n0, rfl⟩
      | some r =>
        obtain ⟨r1, r2, r3, r4⟩ := caA_wf hks hx hon ho hb hD hs
        exact ⟨hle _ _ _ r1 r2 r3, r4, n0, rfl⟩
  · exact ⟨hle _ _ _ ⟨hx, hon⟩ ho hb, hD, n0, rfl⟩
end
