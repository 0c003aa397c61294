/-! Pure: sync -/
def sumB : List (Int × Int × Tx) → Int
  | [] => 0
  | j :: js => j.2.1 + sumB js
theorem jdrop {js : List (Int × Int × Tx)} {k : Nat} (h : k < js.length) : js.drop k = js.getD k (0, 0, []) :: js.drop (k + 1) := by
  rw [List.drop_eq_getElem_cons h, List.getD_eq_getElem?_getD, List.getElem?_eq_getElem h]
  rfl
theorem L_sumC {σ : kS} {js : List (Int × Int × Tx)} {o : Nat} (ho : o < 3) (h5 : σ 3 0 5 = o) (h6 : σ 3 0 6 = js.length) (hl : js.length ≤ 3) (hj : ∀ k, k < js.length → σ 14 0 ((o + k) % 3) = (js.getD k (0, 0, [])).2.1) : ∀ (m n i : Nat) (acc : Int), i + m = js.length → m < n → fl_Di_writeBlock_97 n acc (i : Int) σ = some (some (acc + sumB (js.drop i)), σ) := by
  intro m
  induction m with
  | zero =>
    intro n i acc h1 h2
    obtain ⟨n, rfl⟩ : ∃ n', n = n' + 1 := ⟨n - 1, by omega⟩
    simp only [fl_Di_writeBlock_97, fb_Di_writeBlock_97, fb_Di_writeBlock_127]
    rw [h6, kg_pos (by omega), if_pos (by omega), List.drop_eq_nil_of_le (by omega)]
    show _ = some (some (acc + 0), σ)
    rw [Int.add_zero]
  | succ m ih =>
    intro n i acc h1 h2
    obtain ⟨n, rfl⟩ : ∃ n', n = n' + 1 := ⟨n - 1, by omega⟩
    simp only [fl_Di_writeBlock_97, fb_Di_writeBlock_97, fb_Di_writeBlock_105]
    have e1 : kmod ((o : Int) + i) 3 = (((o + i) % 3 : Nat) : Int) := by
      rw [k_mod (by omega) (by omega)]
      omega
    have e3 : (i : Int) + 1 = ((i + 1 : Nat) : Int) := by omega
    rw [h6, h5, e1, kg_pos (by omega), if_neg (by omega), kg_pos (by omega), Int.toNat_natCast, hj i (by omega), e3, ih n (i + 1) _ (by omega) (by omega), jdrop (k := i) (by omega)]
    show _ = some (some (acc + ((js.getD i (0, 0, [])).2.1 + sumB (js.drop (i + 1)))), σ)
    rw [Int.add_assoc]
theorem L_sumR {σ : kS} {js : List (Int × Int × Tx)} (h6 : σ 9 0 34 = js.length) (hl : js.length ≤ 3) (hj : ∀ k, k < js.length → σ 35 0 k = (js.getD k (0, 0, [])).2.1) : ∀ (m n i : Nat) (acc : Int), i + m = js.length → m < n → fl_Rm_sync_112 n acc (i : Int) σ = some (some (acc + sumB (js.drop i)), σ) := by
  intro m
  induction m with
  | zero =>
    intro n i acc h1 h2
    obtain ⟨n, rfl⟩ : ∃ n', n = n' + 1 := ⟨n - 1, by omega⟩
    simp only [fl_Rm_sync_112, fb_Rm_sync_112, fb_Rm_sync_135]
    rw [h6, kg_pos (by omega), if_pos (by omega), List.drop_eq_nil_of_le (by omega)]
    show _ = some (some (acc + 0), σ)
    rw [Int.add_zero]
  | succ m ih =>
    intro n i acc h1 h2
    obtain ⟨n, rfl⟩ : ∃ n', n = n' + 1 := ⟨n - 1, by omega⟩
    simp only [fl_Rm_sync_112, fb_Rm_sync_112, fb_Rm_sync_120]
    have e3 : (i : Int) + 1 = ((i + 1 : Nat) : Int) := by omega
    rw [h6, kg_pos (by omega), if_neg (by omega), kg_pos (by omega), Int.toNat_natCast, hj i (by omega), e3, ih n (i + 1) _ (by omega) (by omega), jdrop (k := i) (by omega)]
    show _ = some (some (acc + ((js.getD i (0, 0, [])).2.1 + sumB (js.drop (i + 1)))), σ)
    rw [Int.add_assoc]
def syD (f s : Tx) (j : Int × Int × Tx) (js : List (Int × Int × Tx)) : kDk := if j.2.1 - 1 = 0 then ((if j.1 = 0 then j.2.2 else f), (if j.1 = 0 then s else j.2.2), js) else (f, s, (j.1, j.2.1 - 1, j.2.2) :: js)
theorem syncC {A : kEd} {f s : Tx} {j : Int × Int × Tx} {js : List (Int × Int × Tx)} {W : kWn} (hl : js.length ≤ 2) (hj : (j.1 = 0 ∨ j.1 = 1) ∧ 1 ≤ j.2.1 ∧ j.2.1 ≤ 12) : Cc f_Ks_sync (some (sumB (syD f s j js).2.2)) A (f, s, j :: js) W A (syD f s j js) W := by
  intro σ c
  obtain ⟨c1, ⟨d1, d2, d3, o, d4, d5, d6⟩, cw⟩ := c
  have d3' : σ 3 0 6 = ((js.length + 1 : Nat) : Int) := d3
  obtain ⟨k1, k2, k3, k4⟩ := d6 0 (Nat.succ_pos _)
  have ko : (o + 0) % 3 = o := by omega
  rw [ko] at k1 k2 k3 k4
  have k1 : σ 13 0 o = j.1 := k1
  have k2 : σ 14 0 o = j.2.1 := k2
  have k3 : CT σ (6 + o) j.2.2 := k3
  have k4 : σ 2 (6 + o) 2 = j.2.2.length := k4
  have k6 : ∀ k, k < js.length → σ 13 0 ((o + (k + 1)) % 3) = (js.getD k (0, 0, [])).1 ∧ σ 14 0 ((o + (k + 1)) % 3) = (js.getD k (0, 0, [])).2.1 ∧ CT σ (6 + (o + (k + 1)) % 3) (js.getD k (0, 0, [])).2.2 ∧ σ 2 (6 + (o + (k + 1)) % 3) 2 = (js.getD k (0, 0, [])).2.2.length := fun k hk => d6 (k + 1) (Nat.succ_lt_succ hk)
  have ea : kup σ 14 0 o (j.2.1 - 1) 14 0 o = j.2.1 - 1 := kup_self _ _ _ _ _
  have ea2 : ∀ i, i ≠ o → kup σ 14 0 o (j.2.1 - 1) 14 0 i = σ 14 0 i := fun i hi => kup_j hi
  have e0 : f_Ks_sync σ = kbi (if j.2.1 - 1 = 0 then fb_Di_writeBlock_34 (kup σ 14 0 o (j.2.1 - 1)) else fb_Di_writeBlock_93 (kup σ 14 0 o (j.2.1 - 1))) fun y σ1 => some (some y, σ1) := by
    unfold f_Ks_sync fb_Ks_sync_0 fb_Ks_sync_7 f_Di_writeBlock fb_Di_writeBlock_0 fb_Di_writeBlock_9
    rw [d3', kg_pos (by omega), if_neg (by omega), d5, Int.toNat_natCast, k2, kup_k (by decide), d5, Int.toNat_natCast, ea, kg_pos (by omega)]
  rw [e0]
  unfold syD
  by_cases hz : j.2.1 - 1 = 0
  · rw [if_pos hz, if_pos hz]
    generalize hσa : kup σ 14 0 o (j.2.1 - 1) = σa at ea ea2
    have a13 : σa 13 0 o = j.1 := by rw [← hσa, kup_k (by decide)]; exact k1
    have a5 : σa 3 0 5 = o := by rw [← hσa, kup_k (by decide)]; exact d5
    have a6 : σa 3 0 6 = ((js.length + 1 : Nat) : Int) := by rw [← hσa, kup_k (by decide)]; exact d3'
    have a2 : σa 2 = σ 2 := by rw [← hσa]; exact kup_kk (by decide)
    have a10 : σa 10 = σ 10 := by rw [← hσa]; exact kup_kk (by decide)
    have a11 : σa 11 = σ 11 := by rw [← hσa]; exact kup_kk (by decide)
    have a13' : σa 13 = σ 13 := by rw [← hσa]; exact kup_kk (by decide)
    have fa : frC σ σa := by rw [← hσa]; exact frC.rfl.kup (by decide) (by decide)
    have cx : CX σa (6 + o) (j.2.2, σa 2 (6 + o) 3, σa 2 (6 + o) 4) := ⟨by unfold CT; rw [a10, a11]; exact k3, by rw [a2]; exact k4, rfl, rfl⟩
    have ca : CE 0 A σa := by rw [← hσa]; exact c1
    have cwa : CW W σa := by rw [← hσa]; exact cw
    have cf : CT σa 4 f ∧ σa 2 4 2 = f.length := by unfold CT; rw [a10, a11, a2]; exact d1
    have cs : CT σa 5 s ∧ σa 2 5 2 = s.length := by unfold CT; rw [a10, a11, a2]; exact d2
    have hm : kmod ((o : Int) + 1) 3 = (((o + 1) % 3 : Nat) : Int) := by
      rw [k_mod (by omega) (by omega)]
      omega
    have hn : ((js.length + 1 : Nat) : Int) - 1 = (js.length : Int) := by omega
    have ca' : ∀ k, k < js.length → CT σa (6 + ((o + 1) % 3 + k) % 3) (js.getD k (0, 0, [])).2.2 ∧ σa 2 (6 + ((o + 1) % 3 + k) % 3) 2 = (js.getD k (0, 0, [])).2.2.length ∧ σa 13 0 (((o + 1) % 3 + k) % 3) = (js.getD k (0, 0, [])).1 ∧ σa 14 0 (((o + 1) % 3 + k) % 3) = (js.getD k (0, 0, [])).2.1 := by
      intro k hk
      have ek : ((o + 1) % 3 + k) % 3 = (o + (k + 1)) % 3 := by omega
      rw [ek]
      unfold CT
      rw [a10, a11, a2, a13', ea2 _ (by omega)]
      have := k6 k hk
      exact ⟨this.2.2.1, this.2.2.2, this.1, this.2.1⟩
    rcases hj.1 with h0 | h0
    · obtain ⟨F, G, z1, z2⟩ := C_copy (t := 4) cx (by omega)
      rw [h0, if_pos rfl, if_pos rfl]
      refine ⟨kup (kup (kup (kup (sT σa 4 F G j.2.2.length) 2 4 3 (σa 2 (6 + o) 3)) 2 4 4 (σa 2 (6 + o) 4)) 3 0 5 (((o + 1) % 3 : Nat) : Int)) 3 0 6 (js.length : Int), ?_, ⟨ca, ⟨⟨z2, rfl⟩, cs, rfl, (o + 1) % 3, by omega, rfl, fun k hk => ?_⟩, cwa⟩, ?_⟩
      · unfold fb_Di_writeBlock_34 fb_Di_writeBlock_53 fb_Di_writeBlock_57 fb_Di_writeBlock_71 fb_Di_writeBlock_93
        rw [a5, Int.toNat_natCast, a13, h0, kg_pos (by omega), if_pos rfl, kg_pos (by omega), kbu_eq z1]
        show kbi (fl_Di_writeBlock_97 3000 0 0 (kup (kup (kup (kup (sT σa 4 F G j.2.2.length) 2 4 3 (σa 2 (6 + o) 3)) 2 4 4 (σa 2 (6 + o) 4)) 3 0 5 (kmod (σa 3 0 5 + 1) 3)) 3 0 6 (σa 3 0 6 - 1))) _ = _
        rw [a5, hm, a6, hn]
        have z := L_sumC (σ := kup (kup (kup (kup (sT σa 4 F G j.2.2.length) 2 4 3 (σa 2 (6 + o) 3)) 2 4 4 (σa 2 (6 + o) 4)) 3 0 5 (((o + 1) % 3 : Nat) : Int)) 3 0 6 (js.length : Int)) (js := js) (o := (o + 1) % 3) (by omega) rfl rfl (by omega) (fun k hk => (ca' k hk).2.2.2) js.length 3000 0 0 (by omega) (by omega)
        rw [List.drop_zero, Int.zero_add] at z
        exact kbi_eq z
      · have q := ca' k hk
        have ne : ∀ i, 6 + i ≠ 4 := fun i => by omega
        refine ⟨q.2.2.1, q.2.2.2, ?_, ?_⟩
        · refine q.1.of (fun c => ?_) (fun c => ?_)
          · show (sT σa 4 F G j.2.2.length) 10 _ c = _
            unfold sT
            rw [kup_k (by decide), kupA_k (by decide), kupA_i (ne _)]
          · show (sT σa 4 F G j.2.2.length) 11 _ c = _
            unfold sT
            rw [kup_k (by decide), kupA_i (ne _), kupA_k (by decide)]
        · refine Eq.trans ?_ q.2.1
          rw [kup_k (by decide), kup_k (by decide), kup_f, if_neg (fun z => ne _ z.2), kup_f, if_neg (fun z => ne _ z.2)]
          unfold sT
          rw [kup_f, if_neg (fun z => ne _ z.2), kupA_k (by decide), kupA_k (by decide)]
      · exact ((((fa.sT).kup (by decide) (by decide)).kup (by decide) (by decide)).kup (by decide) (by decide)).kup (by decide) (by decide)
    · obtain ⟨F, G, z1, z2⟩ := C_copy (t := 5) cx (by omega)
      rw [h0, if_neg (by decide), if_neg (by decide)]
      refine ⟨kup (kup (kup (kup (sT σa 5 F G j.2.2.length) 2 5 3 (σa 2 (6 + o) 3)) 2 5 4 (σa 2 (6 + o) 4)) 3 0 5 (((o + 1) % 3 : Nat) : Int)) 3 0 6 (js.length : Int), ?_, ⟨ca, ⟨cf, ⟨z2, rfl⟩, rfl, (o + 1) % 3, by omega, rfl, fun k hk => ?_⟩, cwa⟩, ?_⟩
      · unfold fb_Di_writeBlock_34 fb_Di_writeBlock_46 fb_Di_writeBlock_57 fb_Di_writeBlock_71 fb_Di_writeBlock_93
        rw [a5, Int.toNat_natCast, a13, h0, kg_pos (by omega), if_neg (by decide), kg_pos (by omega), kbu_eq z1]
        show kbi (fl_Di_writeBlock_97 3000 0 0 (kup (kup (kup (kup (sT σa 5 F G j.2.2.length) 2 5 3 (σa 2 (6 + o) 3)) 2 5 4 (σa 2 (6 + o) 4)) 3 0 5 (kmod (σa 3 0 5 + 1) 3)) 3 0 6 (σa 3 0 6 - 1))) _ = _
        rw [a5, hm, a6, hn]
        have z := L_sumC (σ := kup (kup (kup (kup (sT σa 5 F G j.2.2.length) 2 5 3 (σa 2 (6 + o) 3)) 2 5 4 (σa 2 (6 + o) 4)) 3 0 5 (((o + 1) % 3 : Nat) : Int)) 3 0 6 (js.length : Int)) (js := js) (o := (o + 1) % 3) (by omega) rfl rfl (by omega) (fun k hk => (ca' k hk).2.2.2) js.length 3000 0 0 (by omega) (by omega)
        rw [List.drop_zero, Int.zero_add] at z
        exact kbi_eq z
      · have q := ca' k hk
        have ne : ∀ i, 6 + i ≠ 5 := fun i => by omega
        refine ⟨q.2.2.1, q.2.2.2, ?_, ?_⟩
        · refine q.1.of (fun c => ?_) (fun c => ?_)
          · show (sT σa 5 F G j.2.2.length) 10 _ c = _
            unfold sT
            rw [kup_k (by decide), kupA_k (by decide), kupA_i (ne _)]
          · show (sT σa 5 F G j.2.2.length) 11 _ c = _
            unfold sT
            rw [kup_k (by decide), kupA_i (ne _), kupA_k (by decide)]
        · refine Eq.trans ?_ q.2.1
          rw [kup_k (by decide), kup_k (by decide), kup_f, if_neg (fun z => ne _ z.2), kup_f, if_neg (fun z => ne _ z.2)]
          unfold sT
          rw [kup_f, if_neg (fun z => ne _ z.2), kupA_k (by decide), kupA_k (by decide)]
      · exact ((((fa.sT).kup (by decide) (by decide)).kup (by decide) (by decide)).kup (by decide) (by decide)).kup (by decide) (by decide)
  · rw [if_neg hz, if_neg hz]
    refine ⟨kup σ 14 0 o (j.2.1 - 1), ?_, ⟨c1, ⟨d1, d2, d3', o, d4, d5, fun k hk => ?_⟩, cw⟩, frC.rfl.kup (by decide) (by decide)⟩
    · unfold fb_Di_writeBlock_93
      have z := L_sumC (σ := kup σ 14 0 o (j.2.1 - 1)) (js := (j.1, j.2.1 - 1, j.2.2) :: js) (o := o) d4 d5 d3' (by rw [List.length_cons]; omega) (fun k hk => ?_) (js.length + 1) 3000 0 0 (by rw [List.length_cons]; omega) (by omega)
      · rw [List.drop_zero, Int.zero_add] at z
        exact kbi_eq z
      · cases k with
        | zero => rw [ko]; exact ea
        | succ k =>
          rw [ea2 _ (by rw [List.length_cons] at hk; omega)]
          exact (k6 k (by rw [List.length_cons] at hk; omega)).2.1
    · have hk' : k < js.length + 1 := hk
      cases k with
      | zero => rw [ko]; exact ⟨k1, ea, k3, k4⟩
      | succ k =>
        have q := k6 k (by omega)
        exact ⟨q.1, (ea2 _ (by omega)).trans q.2.1, q.2.2.1, q.2.2.2⟩
