/-! Pure: what a key in COMMAND leaves. -/
def wfC (A : kEd) : Prop := wfX A.1 ∧ (A.2.2.2.2.1.1 ≠ 1 → onC A.1) ∧ wfO A.2.1 ∧ wfB A.2.2.1 ∧ wfM A.1 A.2.2.2.2.1
/-- the answer and state r of a command; K: does it begin INSERT when it is taken -/
def CR (g : Int) (A : kEd) (r : Int × kEd) (K : Prop) : Prop := wfC r.2 ∧ (r.1 = 0 ∧ r.2 = A ∨ r.1 = 1 ∧ ¬ K ∧ r.2.2.2.2.2.2 = A.2.2.2.2.2 ∧ r.2.2.2.2.2.1.1 ≠ 1 ∨ r.1 = 1 ∧ r.2.2.2.2.2.2 = chL g A ∧ (K ∧ r.2.2.2.2.2.1.1 = 1 ∨ ¬ K ∧ r.2.2.2.2.2.1.1 = 0))
theorem okL_nil : okL [] := ⟨Nat.zero_le _, fun c hc => nomatch hc⟩
theorem okL_cut {L : List Int} {i j : Nat} (h : okL L) (hij : i ≤ j) (hj : j ≤ L.length) : okL (cut L i j) := ⟨by rw [cut_len hij hj]; have := h.1; omega, fun c hc => h.2 c (cut_mem hc)⟩
theorem wfMz {x : Tc} {a b : Int} : wfM x (0, a, b, []) := ⟨.inl rfl, fun h => absurd h (show ¬ (0 : Int) = 1 by decide), fun h => absurd h (show ¬ (0 : Int) = 2 by decide), Nat.zero_le _, fun c hc => (nomatch hc), fun _ => rfl⟩
theorem wfM_1 {x : Tc} {a b : Int} (h0 : 0 ≤ a) (h1 : a ≤ x.2.2) : wfM x (1, a, b, []) := ⟨.inr (.inl rfl), fun _ => ⟨h0, h1⟩, fun h => absurd h (show ¬ (1 : Int) = 2 by decide), Nat.zero_le _, fun c hc => (nomatch hc), fun _ => rfl⟩
theorem wfB_sl {L : List Int} {i j : Nat} (h : okL L) (hij : i < j) (hj : j ≤ L.length) : wfB (0, [slc L i j]) := by
  have hs := slc_len (X := L) (a := i) (b := j) hj
  have hok : ∀ M ∈ [slc L i j], okL M := fun M hM => by
    rw [List.mem_singleton.1 hM]
    exact ⟨by rw [hs]; have := h.1; omega, fun c hc => h.2 c (slc_mem' hc)⟩
  refine ⟨(by decide : (-1 : Int) ≤ 0), (by decide : (0 : Int) ≤ 10), rfl, (okT_iff.2 hok).1, (okT_iff.2 hok).2, fun _ => ?_⟩
  show 0 < (slc L i j).length
  omega
section
variable {g : Int} {x : Tc} {o : Option Tc} {b : Int × Tx} {q : Qd} {s : Int × Int} {l : Int × List Int}
theorem CR_ring {K : Prop} (hx : wfX x) (hon : onC x) (ho : wfO o) (hb : wfB b) : CR g (x, o, b, q, (0, s.1, s.2, []), l) (0, (x, o, b, q, (0, s.1, s.2, []), l)) K := ⟨⟨hx, fun _ => hon, ho, hb, wfMz⟩, .inl ⟨rfl, rfl⟩⟩
theorem CR_opL {i j : Nat} (hx : wfX x) (hon : onC x) (ho : wfO o) (hop : isOp q.1) (hij : i ≤ j) (hj : j < x.1.length) : CR g (x, o, b, q, (0, s.1, s.2, []), l) (1, opL g (x, o, b, q, (0, s.1, s.2, []), l) i j) (q.1 = 99) := by
  have hbb := wfB_ln hx.1 hij hj
  unfold isOp at hop
  unfold opL
  dsimp only
  by_cases h121 : q.1 = 121
  · rw [if_pos h121]
    exact ⟨⟨hx, fun _ => hon, ho, hbb, wfMz⟩, .inr (.inl ⟨rfl, by omega, rfl, (by decide : (0 : Int) ≠ 1)⟩)⟩
  · rw [if_neg h121]
    by_cases h100 : q.1 = 100
    · rw [if_pos h100]
      obtain ⟨d1, d2⟩ := dropX_wf hx.1 hij hj
      exact ⟨⟨d1, fun _ => d2, ⟨hx, hon⟩, hbb, wfMz⟩, .inr (.inr ⟨rfl, rfl, .inr ⟨by omega, rfl⟩⟩)⟩
    · rw [if_neg h100]
      have hl : (cut (x.1.set i []) (i + 1) (j + 1)).length = x.1.length - (j + 1 - (i + 1)) := by
        rw [cut_len (by omega) (by rw [List.length_set]; omega), List.length_set]
      have hw : wfText (cut (x.1.set i []) (i + 1) (j + 1)) := by
        refine wfT_iff.2 ⟨by omega, by have := hx.1.2.1; omega, fun L hL => wfT.ok (wfT_set hx.1 okL_nil) L (cut_mem hL)⟩
      refine ⟨⟨⟨hw, Int.natCast_nonneg _, ?_, Int.le_refl 0, Int.natCast_nonneg _⟩, fun _ => .inr rfl, ⟨hx, hon⟩, hbb, wfM_1 (Int.le_refl 0) (Int.le_refl 0)⟩, .inr (.inr ⟨rfl, rfl, .inl ⟨by omega, rfl⟩⟩)⟩
      dsimp only
      omega
theorem CR_opC {i j : Nat} (hx : wfX x) (hon : onC x) (ho : wfO o) (hop : isOp q.1) (hij : i < j) (hj : j ≤ (ln x.1 x.2.1.toNat).length) : CR g (x, o, b, q, (0, s.1, s.2, []), l) (1, opC g (x, o, b, q, (0, s.1, s.2, []), l) i j) (q.1 = 99) := by
  obtain ⟨w1, w2, w3, w4, w5, w6, w7, w8⟩ := hx.sz
  have hokL := okL_ln hx.1 x.2.1.toNat
  have hbb := wfB_sl hokL hij hj
  have hcl := cut_len (X := ln x.1 x.2.1.toNat) (a := i) (b := j) (by omega) hj
  have hw := wfT_set (i := x.2.1.toNat) hx.1 (okL_cut (i := i) (j := j) hokL (by omega) hj)
  have hln : ln (x.1.set x.2.1.toNat (cut (ln x.1 x.2.1.toNat) i j)) x.2.1.toNat = cut (ln x.1 x.2.1.toNat) i j := by rw [ln_set w2, if_pos rfl]
  unfold isOp at hop
  unfold opC
  dsimp only
  by_cases h121 : q.1 = 121
  · rw [if_pos h121]
    exact ⟨⟨hx, fun _ => hon, ho, hbb, wfMz⟩, .inr (.inl ⟨rfl, by omega, rfl, (by decide : (0 : Int) ≠ 1)⟩)⟩
  · rw [if_neg h121]
    by_cases h100 : q.1 = 100
    · rw [if_pos h100]
      refine ⟨⟨⟨hw, w5, ?_, ?_, ?_⟩, fun _ => ?_, ⟨hx, hon⟩, hbb, wfMz⟩, .inr (.inr ⟨rfl, rfl, .inr ⟨by omega, rfl⟩⟩)⟩
      · dsimp only
        rw [List.length_set]
        omega
      · unfold cl
        dsimp only
        omega
      · dsimp only
        rw [hln]
        unfold cl
        omega
      · unfold onC
        dsimp only
        rw [hln]
        unfold cl
        omega
    · rw [if_neg h100]
      refine ⟨⟨⟨hw, w5, ?_, Int.natCast_nonneg _, ?_⟩, fun h => absurd rfl h, ⟨hx, hon⟩, hbb, wfM_1 (Int.natCast_nonneg _) (Int.le_refl _)⟩, .inr (.inr ⟨rfl, rfl, .inl ⟨by omega, rfl⟩⟩)⟩
      · dsimp only
        rw [List.length_set]
        omega
      · dsimp only
        rw [hln]
        omega
theorem CR_chA {i j : Int} (hx : wfX x) (hon : onC x) (ho : wfO o) (hb : wfB b) (hop : isOp q.1) (hi : 0 ≤ i) (hj : j ≤ (ln x.1 x.2.1.toNat).length) : CR g (x, o, b, q, (0, s.1, s.2, []), l) (chA g (x, o, b, q, (0, s.1, s.2, []), l) i j) (q.1 = 99) := by
  unfold chA
  by_cases h : i < j
  · rw [if_pos h]
    exact CR_opC hx hon ho hop (by omega) (by omega)
  · rw [if_neg h]
    exact CR_ring hx hon ho hb
theorem CR_lnA {i j : Int} (hx : wfX x) (hon : onC x) (ho : wfO o) (hop : isOp q.1) (hi : 0 ≤ i) (hij : i ≤ j) (hj : j < x.1.length) : CR g (x, o, b, q, (0, s.1, s.2, []), l) (lnA g (x, o, b, q, (0, s.1, s.2, []), l) i j) (q.1 = 99) := CR_opL hx hon ho hop (by omega) (by omega)
theorem CR_opr {c p : Int} (hx : wfX x) (hon : onC x) (ho : wfO o) (hb : wfB b) (hop : isOp q.1) (hn : 0 ≤ q.2.1 ∧ q.2.1 ≤ 99) (hp : p = -1 ∨ 0 ≤ p ∧ p / 32 < x.1.length) (hp2 : c = 119 ∨ c = 98 → 0 ≤ p → p / 32 = x.2.1 → p % 32 ≤ (ln x.1 x.2.1.toNat).length) : CR g (x, o, b, q, (0, s.1, s.2, []), l) (opr g (x, o, b, q, (0, s.1, s.2, []), l) c p) (q.1 = 99) := by
  obtain ⟨w1, w2, w3, w4, w5, w6, w7, w8⟩ := hx.sz
  have hr : CR g (x, o, b, q, (0, s.1, s.2, []), l) (0, (x, o, b, q, (0, s.1, s.2, []), l)) (q.1 = 99) := CR_ring hx hon ho hb
  have hc : ∀ i j : Int, 0 ≤ i → j ≤ (ln x.1 x.2.1.toNat).length → CR g (x, o, b, q, (0, s.1, s.2, []), l) (chA g (x, o, b, q, (0, s.1, s.2, []), l) i j) (q.1 = 99) := fun i j hi hj => CR_chA hx hon ho hb hop hi hj
  have hl : ∀ i j : Int, 0 ≤ i → i ≤ j → j < x.1.length → CR g (x, o, b, q, (0, s.1, s.2, []), l) (lnA g (x, o, b, q, (0, s.1, s.2, []), l) i j) (q.1 = 99) := fun i j hi hij hj => CR_lnA hx hon ho hop hi hij hj
  unfold opr
  dsimp only
  split
  · split
    · exact hr
    · exact hc _ _ w6 (Int.le_refl _)
  split
  · split
    · exact hr
    · exact hc _ _ (Int.le_refl 0) w7
  split
  · split
    · exact hr
    · exact hl _ _ (by omega) (by omega) (by omega)
  split
  · split
    · exact hc _ _ (by omega) w7
    · exact hr
  split
  · exact hc _ _ (by omega) w7
  split
  · exact hc _ _ w6 (by omega)
  split
  · rename_i h119
    refine hc _ _ w6 ?_
    split
    · rename_i hpp
      exact hp2 (.inl h119) hpp.1 hpp.2
    · exact Int.le_refl _
  split
  · exact hl _ _ (by omega) (by omega) (by omega)
  · exact hr
theorem CR_insF {k : Int} {K : Prop} (hx : wfX x) (hon : onC x) (hb : wfB b) (hk : 0 ≤ k) (hk2 : k ≤ (ln x.1 x.2.1.toNat).length) (hK : K) : CR g (x, o, b, q, (0, s.1, s.2, []), l) (1, insF g (x, o, b, q, (0, s.1, s.2, []), l) k) K := ⟨⟨⟨hx.1, hx.2.1, hx.2.2.1, hk, hk2⟩, fun h => absurd rfl h, ⟨hx, hon⟩, hb, wfM_1 hk (Int.le_refl _)⟩, .inr (.inr ⟨rfl, rfl, .inl ⟨hK, rfl⟩⟩)⟩
theorem CR_opn {p : Nat} {K : Prop} (hx : wfX x) (hon : onC x) (ho : wfO o) (hb : wfB b) (hp : p ≤ x.1.length) (hK : K) : CR g (x, o, b, q, (0, s.1, s.2, []), l) (if x.1.length < 10 then 1 else 0, opnA g (x, o, b, q, (0, s.1, s.2, []), l) p) K := by
  obtain ⟨w1, w2, w3, w4, w5, w6, w7, w8⟩ := hx.sz
  have hind := ind_le (ln x.1 x.2.1.toNat)
  unfold opnA
  dsimp only
  by_cases h : x.1.length < 10
  · rw [if_pos h, if_pos h]
    have hil := ins_len (X := x.1) (Y := [List.replicate (ind (ln x.1 x.2.1.toNat)) (32 : Int)]) (a := p) hp
    rw [List.length_singleton] at hil
    have hok : okL (List.replicate (ind (ln x.1 x.2.1.toNat)) (32 : Int)) := ⟨by rw [List.length_replicate]; omega, fun c hc => by rw [(List.mem_replicate.1 hc).2]; decide⟩
    have hw : wfText (ins x.1 p [List.replicate (ind (ln x.1 x.2.1.toNat)) (32 : Int)]) := by
      refine wfT_iff.2 ⟨by omega, by omega, fun L hL => ?_⟩
      rcases ins_mem hL with h | h
      · exact wfT.ok hx.1 L h
      · rw [List.mem_singleton.1 h]
        exact hok
    have hln : ln (ins x.1 p [List.replicate (ind (ln x.1 x.2.1.toNat)) (32 : Int)]) p = List.replicate (ind (ln x.1 x.2.1.toNat)) (32 : Int) := by
      have := ins_gd (X := x.1) (Y := [List.replicate (ind (ln x.1 x.2.1.toNat)) (32 : Int)]) (a := p) [] hp p
      rw [if_neg (Nat.lt_irrefl p), List.length_singleton, if_pos (by omega), Nat.sub_self] at this
      exact this
    refine ⟨⟨⟨hw, Int.natCast_nonneg _, ?_, Int.natCast_nonneg _, ?_⟩, fun h => absurd rfl h, ⟨hx, hon⟩, hb, wfM_1 (Int.natCast_nonneg _) (Int.le_refl _)⟩, .inr (.inr ⟨rfl, rfl, .inl ⟨hK, rfl⟩⟩)⟩
    · dsimp only
      omega
    · dsimp only
      rw [Int.toNat_natCast, hln, List.length_replicate]
      exact Int.le_refl _
  · rw [if_neg h, if_neg h]
    exact CR_ring hx hon ho hb
theorem CR_put {p k : Nat} {K : Prop} (hx : wfX x) (hon : onC x) (ho : wfO o) (hb : wfB b) (hp : p ≤ x.1.length) (hk : k ≤ (ln x.1 x.2.1.toNat).length) (hK : ¬ K) : CR g (x, o, b, q, (0, s.1, s.2, []), l) (canP x b, putA g (x, o, b, q, (0, s.1, s.2, []), l) p k) K := by
  obtain ⟨w1, w2, w3, w4, w5, w6, w7, w8⟩ := hx.sz
  have hb' := hb
  obtain ⟨b1, b2, b3, b4, b5, b6⟩ := hb'
  have hbok := okT_iff.1 ⟨b4, b5⟩
  unfold putA
  dsimp only
  rcases canP_01 x b with h0 | h1
  · rw [h0, if_neg (by decide)]
    exact CR_ring hx hon ho hb
  · rw [h1, if_pos rfl]
    have hfin : wfX (putX x b p k) ∧ onC (putX x b p k) := by
      unfold canP at h1
      unfold putX
      by_cases hb0 : b.1 = 0
      · rw [if_pos hb0] at h1
        have hsz : (ln x.1 x.2.1.toNat).length + (ln b.2 0).length ≤ 20 := by
          split at h1
          · assumption
          · exact absurd h1 (by decide)
        rw [if_neg (by omega)]
        have h6 := b6 hb0
        rw [if_pos hb0] at b3
        have hil := ins_len (X := ln x.1 x.2.1.toNat) (Y := ln b.2 0) (a := k) hk
        have hokB : okL (ln b.2 0) := hbok _ (gdm (d := []) (by omega))
        have hokL := okL_ln hx.1 x.2.1.toNat
        have hw := wfT_set (i := x.2.1.toNat) (L := ins (ln x.1 x.2.1.toNat) k (ln b.2 0)) hx.1 ⟨by omega, fun c hc => (ins_mem hc).elim (hokL.2 c) (hokB.2 c)⟩
        have hln : ln (x.1.set x.2.1.toNat (ins (ln x.1 x.2.1.toNat) k (ln b.2 0))) x.2.1.toNat = ins (ln x.1 x.2.1.toNat) k (ln b.2 0) := by rw [ln_set w2, if_pos rfl]
        refine ⟨⟨hw, w5, ?_, ?_, ?_⟩, ?_⟩
        · dsimp only
          rw [List.length_set]
          omega
        · dsimp only
          omega
        · dsimp only
          rw [hln]
          omega
        · unfold onC
          dsimp only
          rw [hln]
          omega
      · rw [if_neg hb0] at h1
        have hsz : 0 < b.1 ∧ (x.1.length : Int) + b.1 ≤ 10 := by
          split at h1
          · assumption
          · exact absurd h1 (by decide)
        rw [if_pos hsz.1]
        rw [if_neg hb0] at b3
        have hil := ins_len (X := x.1) (Y := b.2) (a := p) hp
        have hw : wfText (ins x.1 p b.2) := by
          refine wfT_iff.2 ⟨by omega, by omega, fun L hL => ?_⟩
          rcases ins_mem hL with h | h
          · exact wfT.ok hx.1 L h
          · exact hbok L h
        refine ⟨⟨hw, Int.natCast_nonneg _, ?_, Int.le_refl 0, Int.natCast_nonneg _⟩, .inr rfl⟩
        dsimp only
        omega
    exact ⟨⟨hfin.1, fun _ => hfin.2, ⟨hx, hon⟩, hb, wfMz⟩, .inr (.inr ⟨rfl, rfl, .inr ⟨hK, rfl⟩⟩)⟩
def plK (c : Int) : Prop := c = 105 ∨ c = 97 ∨ c = 73 ∨ c = 65 ∨ c = 111 ∨ c = 79
theorem CR_pln {c : Int} (hx : wfX x) (hon : onC x) (ho : wfO o) (hb : wfB b) : CR g (x, o, b, q, (0, s.1, s.2, []), l) (plnA g (x, o, b, q, (0, s.1, s.2, []), l) c) (plK c) ∧ ((plnA g (x, o, b, q, (0, s.1, s.2, []), l) c).2.2.2.2.2.1.1 = 2 → c = 47 ∨ c = 58) := by
  obtain ⟨w1, w2, w3, w4, w5, w6, w7, w8⟩ := hx.sz
  have hind := ind_le (ln x.1 x.2.1.toNat)
  -- no prompt
  have hno : ∀ r : Int × kEd, CR g (x, o, b, q, (0, s.1, s.2, []), l) r (plK c) → (r.2.2.2.2.2.1.1 = 0 ∨ r.2.2.2.2.2.1.1 = 1) → CR g (x, o, b, q, (0, s.1, s.2, []), l) r (plK c) ∧ (r.2.2.2.2.2.1.1 = 2 → c = 47 ∨ c = 58) := fun r h1 h2 => ⟨h1, fun h => absurd h (by omega)⟩
  unfold plnA
  dsimp only
  split
  · rename_i h
    refine ⟨⟨⟨hx, fun _ => hon, ho, hb, .inr (.inr rfl), fun h => absurd h (show ¬ (2 : Int) = 1 by decide), fun _ => ?_, Nat.zero_le _, fun c hc => (nomatch hc), fun _ => rfl⟩, .inr (.inl ⟨rfl, ?_, rfl, (by decide : (2 : Int) ≠ 1)⟩)⟩, fun _ => h⟩
    · dsimp only
      split
      · exact .inr rfl
      · exact .inl rfl
    · unfold plK
      omega
  split
  · exact hno _ (CR_insF hx hon hb (Int.natCast_nonneg _) (Int.le_refl _) (by unfold plK; omega)) (.inr rfl)
  split
  · exact hno _ (CR_insF hx hon hb (Int.natCast_nonneg _) (by omega) (by unfold plK; omega)) (.inr rfl)
  split
  · refine hno _ (CR_opn hx hon ho hb (by omega) (by unfold plK; omega)) ?_
    unfold opnA
    dsimp only
    split
    · exact .inr rfl
    · exact .inl rfl
  split
  · refine hno _ (CR_put hx hon ho hb (by omega) (by omega) (by unfold plK; omega)) ?_
    unfold putA
    dsimp only
    split
    · exact .inl rfl
    · exact .inl rfl
  split
  · exact hno _ (CR_insF hx hon hb (by omega) (by omega) (by unfold plK; omega)) (.inr rfl)
  split
  · exact hno _ (CR_insF hx hon hb w6 w7 (by unfold plK; omega)) (.inr rfl)
  split
  · refine hno _ (CR_opn hx hon ho hb (by omega) (by unfold plK; omega)) ?_
    unfold opnA
    dsimp only
    split
    · exact .inr rfl
    · exact .inl rfl
  split
  · refine hno _ (CR_put hx hon ho hb (by omega) (by omega) (by unfold plK; omega)) ?_
    unfold putA
    dsimp only
    split
    · exact .inl rfl
    · exact .inl rfl
  split
  · unfold undA
    cases o with
    | none => exact hno _ (CR_ring hx hon ho hb) (.inl rfl)
    | some y =>
      refine hno _ ⟨⟨ho.1, fun _ => ho.2, ⟨hx, hon⟩, hb, wfMz⟩, .inr (.inl ⟨rfl, by unfold plK; omega, rfl, (by decide : (0 : Int) ≠ 1)⟩)⟩ (.inl rfl)
  · exact hno _ (CR_ring hx hon ho hb) (.inl rfl)
end
