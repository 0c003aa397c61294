/-! Pure: the window is brought up to date: show and draw -/
theorem lineF_rng {T : Tx} {p o : Nat} {f : Nat → Int} (hp : p < T.length) (hT : printable T) (hf : ∀ i, i < 100 → 32 ≤ f i ∧ f i ≤ 126) : ∀ i, i < 100 → 32 ≤ lineF (ln T p) o f i ∧ lineF (ln T p) o f i ≤ 126 := by
  intro i hi
  unfold lineF
  by_cases h : o ≤ i ∧ i < o + (ln T p).length
  · rw [if_pos h]
    exact hT p hp (i - o) (by omega)
  · rw [if_neg h]
    exact hf i hi
theorem signF_rng {w r : Nat} {s : Int} {f : Nat → Int} (hs : 32 ≤ s ∧ s ≤ 126) (hf : ∀ i, i < 100 → 32 ≤ f i ∧ f i ≤ 126) : ∀ i, i < 100 → 32 ≤ signF w s r f i ∧ signF w s r f i ≤ 126 := by
  intro i hi
  unfold signF
  split
  · exact hs
  · exact hf i hi
theorem paintF_rng {T : Tx} {w : Nat} (hT : printable T) : ∀ (m p r : Nat) (f : Nat → Int), p + m = T.length → (∀ i, i < 100 → 32 ≤ f i ∧ f i ≤ 126) → ∀ i, i < 100 → 32 ≤ paintF T w m p r f i ∧ paintF T w m p r f i ≤ 126 := by
  intro m
  induction m with
  | zero =>
    intro p r f _ hf i hi
    simp only [paintF]
    exact signF_rng (by decide) hf i hi
  | succ m ih =>
    intro p r f h hf i hi
    simp only [paintF]
    split
    · exact ih (p + 1) _ _ (by omega) (lineF_rng (by omega) hT hf) i hi
    · exact signF_rng (by decide) hf i hi
theorem lt_100 {w r c : Nat} (hw : w ≤ 20) (hr : r < 5) (hc : c < w) : r * w + c < 5 * w ∧ r * w + c < 100 := by
  have h1 := Nat.mul_le_mul_right w (show r + 1 ≤ 5 by omega)
  rw [Nat.add_mul, Nat.one_mul] at h1
  omega
def f32 : Nat → Int := fun i => if i < 100 then 32 else 0
/-- paintF looks at no more than the first hundred places -/
theorem paintF_cong {T : Tx} {w : Nat} : ∀ (m p r : Nat) (f g : Nat → Int), (∀ i, i < 100 → f i = g i) → ∀ i, i < 100 → paintF T w m p r f i = paintF T w m p r g i := by
  intro m
  induction m with
  | zero =>
    intro p r f g h i hi
    simp only [paintF, signF]
    split
    · rfl
    · exact h i hi
  | succ m ih =>
    intro p r f g h i hi
    simp only [paintF]
    split
    · refine ih _ _ _ _ (fun j hj => ?_) i hi
      unfold lineF
      split
      · rfl
      · exact h j hj
    · simp only [signF]
      split
      · rfl
      · exact h i hi
/-- what the window should show: from line t on -/
def wantF (T : Tx) (w t : Nat) : Nat → Int := paintF T w (T.length - t) t 0 f32
def newTop (T : Tx) (w r t : Nat) : Nat := topF T w (r - min t r) (min t r)
theorem newTop_le (T : Tx) (w r t : Nat) : newTop T w r t ≤ r := by
  unfold newTop
  have := topF_le T w (r - min t r) (min t r)
  omega
theorem P_show {σ : kS} {T : Tx} {w r t : Nat} {D : Nat → Nat → Bool} (hT : CT σ 0 T) (hc : σ 2 0 2 = T.length) (hpr : printable T) (hr : σ 2 0 3 = r) (hrl : r < T.length) (hw : σ 4 0 2 = w) (hw2 : 5 ≤ w ∧ w ≤ 20) (ht : σ 4 0 3 = t) (ht2 : t < 10)
    (hs : ∀ r c, r < 5 → c < w → -2147483648 ≤ σ 15 0 (r * w + c) ∧ σ 15 0 (r * w + c) < 2147483648) (hD : ∀ r' c, r' < 5 → c < w → (D r' c = true ↔ ¬ σ 15 0 (r' * w + c) = wantF T w (newTop T w r t) (r' * w + c))) :
    ∃ W1, (∀ i, i < 100 → W1 i = wantF T w (newTop T w r t) i) ∧ f_Wi_show σ = some (none, Sx (kupA (kup σ 4 0 3 (newTop T w r t)) 15 1 W1) 15 (fun i => if 0 * w ≤ i ∧ i < 5 * w then W1 i else σ 15 0 i) 4 4 (σ 4 0 4 + tot D w 5 0)) := by
  have hl := hT.1
  have hnt := newTop_le T w r t
  have hfol := P_follow hT hc hr hrl (by omega) ht ht2
  rw [hw] at hfol
  have hfol : f_Wi_follow σ = some (none, kup σ 4 0 3 (newTop T w r t)) := hfol
  have hT1 : CT (kup σ 4 0 3 (newTop T w r t)) 0 T := hT.of (fun j => kup_k (by decide)) (fun j => kup_k (by decide))
  obtain ⟨f0, hf0, hp⟩ := P_paint (w := w) (t := newTop T w r t) hT1 (by rw [kup_k (by decide)]; exact hc) (by rw [kup_j (by decide)]; exact hw) hw2 (by rw [kup_self]) (by omega)
  have hW : ∀ i, i < 100 → paintF T w (T.length - newTop T w r t) (newTop T w r t) 0 f0 i = wantF T w (newTop T w r t) i := paintF_cong _ _ _ _ _ (fun i hi => by rw [hf0 i hi]; unfold f32; rw [if_pos hi])
  refine ⟨_, hW, ?_⟩
  unfold f_Wi_show fb_Wi_show_0 fb_Wi_show_5 fb_Wi_show_10 fb_Wi_show_14
  rw [kbu_eq hfol, kbu_eq hp]
  generalize hσ2 : kupA (kup σ 4 0 3 (newTop T w r t)) 15 1 (paintF T w (T.length - newTop T w r t) (newTop T w r t) 0 f0) = σ2
  have a1 : ∀ i, σ2 15 1 i = paintF T w (T.length - newTop T w r t) (newTop T w r t) 0 f0 i := fun i => by rw [← hσ2, kupA_self]
  have a2 : ∀ i, σ2 15 0 i = σ 15 0 i := fun i => by rw [← hσ2, kupA_i (by decide), kup_k (by decide)]
  have a3 : σ2 4 0 2 = w := by rw [← hσ2, kupA_k (by decide), kup_j (by decide)]; exact hw
  have a4 : σ2 4 0 4 = σ 4 0 4 := by rw [← hσ2, kupA_k (by decide), kup_j (by decide)]
  have hsend : f_Wi_send σ2 = some (none, Sx σ2 15 (fun i => if 0 * w ≤ i ∧ i < 5 * w then σ2 15 1 i else σ2 15 0 i) 4 4 (σ2 4 0 4 + tot D w 5 0)) := by
    unfold f_Wi_send fb_Wi_send_0
    have z := L_rowsC (σ := σ2) (D := D) a3 hw2 (fun r' c h1 h2 => by
        have := lt_100 hw2.2 h1 h2
        have := paintF_rng (w := w) hpr (T.length - newTop T w r t) (newTop T w r t) 0 f0 (by omega) (fun i hi => by rw [hf0 i hi]; decide) (r' * w + c) this.2
        rw [a1]
        omega) 5 3000 0 (σ2 4 0 4) (σ2 15 0) (by omega) (by omega) (fun r' c _ h1 h2 => by
        rw [a1, a2, hW _ (lt_100 hw2.2 h1 h2).2]
        exact hD r' c h1 h2) (fun r' c _ h1 h2 => by
        rw [a2]
        exact hs r' c h1 h2)
    rw [Sx_id σ2 15 4 4 (by decide)] at z
    exact z
  rw [kbu_eq hsend, a4]
  have a5 : (fun i => if 0 * w ≤ i ∧ i < 5 * w then σ2 15 1 i else σ2 15 0 i) = (fun i => if 0 * w ≤ i ∧ i < 5 * w then paintF T w (T.length - newTop T w r t) (newTop T w r t) 0 f0 i else σ 15 0 i) := by
    funext i
    rw [a1, a2]
  rw [a5]
theorem P_draw {σ : kS} {T : Tx} {w r t : Nat} {D : Nat → Nat → Bool} (hT : RT σ 0 T) (hc : σ 22 0 0 = T.length) (hpr : printable T) (hr : σ 23 0 0 = r) (hrl : r < T.length) (hw : σ 9 0 37 = w) (hw2 : 5 ≤ w ∧ w ≤ 20) (ht : σ 9 0 38 = t) (ht2 : t < 10)
    (hs : ∀ r c, r < 5 → c < w → -2147483648 ≤ σ 36 0 (20 * r + c) ∧ σ 36 0 (20 * r + c) < 2147483648) (hD : ∀ r' c, r' < 5 → c < w → (D r' c = true ↔ ¬ σ 36 0 (20 * r' + c) = wantF T w (newTop T w r t) (r' * w + c))) :
    ∃ g, WR w g (wantF T w (newTop T w r t)) ∧ f_Rm_draw σ = some (none, Sx (kupA (kup σ 9 0 38 (newTop T w r t)) 37 0 g) 36 (fun i => if 0 ≤ i / 20 ∧ i / 20 < 5 ∧ i % 20 < w then g i else σ 36 0 i) 9 39 (σ 9 0 39 + tot D w 5 0)) := by
  have hl := hT.1
  have hnt := newTop_le T w r t
  have htop := P_topR hT hr hrl (by omega) ht ht2
  rw [hw] at htop
  have htop : f_Rm_draw σ = fb_Rm_draw_51 (kup σ 9 0 38 (newTop T w r t)) := htop
  generalize hσ1 : kup σ 9 0 38 ((newTop T w r t : Nat) : Int) = σ1 at htop ⊢
  have hT1 : RT σ1 0 T := by rw [← hσ1]; exact hT.of (fun j => kup_k (by decide)) (fun j => kup_k (by decide))
  have b1 : σ1 22 0 0 = T.length := by rw [← hσ1, kup_k (by decide)]; exact hc
  have b2 : σ1 9 0 37 = w := by rw [← hσ1, kup_j (by decide)]; exact hw
  have b3 : σ1 9 0 38 = (newTop T w r t : Nat) := by rw [← hσ1, kup_self]
  have b4 : σ1 9 0 39 = σ 9 0 39 := by rw [← hσ1, kup_j (by decide)]
  have b5 : ∀ i, σ1 36 0 i = σ 36 0 i := fun i => by rw [← hσ1, kup_k (by decide)]
  have hfill := L_fillR (σ := σ1) 100 3000 0 (σ1 37 0) (by omega) (by omega)
  rw [kupA_id] at hfill
  have hwr0 : WR w (fun i => if 0 ≤ i ∧ i < 100 then 32 else σ1 37 0 i) f32 := by
    intro r' c h1 h2
    have := lt_100 hw2.2 h1 h2
    show (if 0 ≤ 20 * r' + c ∧ 20 * r' + c < 100 then 32 else σ1 37 0 (20 * r' + c)) = f32 (r' * w + c)
    unfold f32
    rw [if_pos (by omega), if_pos this.2]
  obtain ⟨g, x1, hp, hg⟩ := L_paintR (w := w) hT1 b1 b2 hw2 (T.length - newTop T w r t) 3000 (newTop T w r t) 0 _ _ (by omega) (by omega) (by omega) hwr0
  have hg : WR w g (wantF T w (newTop T w r t)) := hg
  refine ⟨g, hg, ?_⟩
  generalize hσ2 : kupA σ1 37 0 g = σ2 at hp ⊢
  have c1 : ∀ i, σ2 37 0 i = g i := fun i => by rw [← hσ2, kupA_self]
  have c2 : ∀ i, σ2 36 0 i = σ 36 0 i := fun i => by rw [← hσ2, kupA_k (by decide), b5]
  have c3 : σ2 9 0 37 = w := by rw [← hσ2, kupA_k (by decide)]; exact b2
  have c4 : σ2 9 0 39 = σ 9 0 39 := by rw [← hσ2, kupA_k (by decide)]; exact b4
  have hrows := L_rowsR (σ := σ2) (D := D) x1 c3 hw2 (fun r' c h1 h2 => by
      have := lt_100 hw2.2 h1 h2
      have := paintF_rng (w := w) hpr (T.length - newTop T w r t) (newTop T w r t) 0 f32 (by omega) (fun i hi => by unfold f32; rw [if_pos hi]; decide) (r' * w + c) this.2
      rw [c1, hg r' c h1 h2]
      unfold wantF
      omega) 5 3000 0 (σ2 9 0 39) (σ2 36 0) (by omega) (by omega) (fun r' c _ h1 h2 => by
      rw [c1, c2, hg r' c h1 h2, hD r' c h1 h2]
      exact ⟨fun z q => z q.symm, fun z q => z q.symm⟩) (fun r' c _ h1 h2 => by
      rw [c2]
      exact hs r' c h1 h2)
  rw [Sx_id σ2 36 9 39 (by decide)] at hrows
  rw [htop]
  unfold fb_Rm_draw_51
  have hfill' : fl_Rm_draw_53 3000 0 σ1 = _ := hfill
  rw [hfill']
  unfold fb_Rm_draw_73
  rw [kupA_k (by decide), b3]
  have hp' : fl_Rm_draw_80 3000 0 ((newTop T w r t : Nat) : Int) (kupA σ1 37 0 (fun i => if 0 ≤ i ∧ i < 100 then 32 else σ1 37 0 i)) = _ := hp
  have hrows' : fl_Rm_draw_249 3000 x1 0 σ2 = _ := hrows
  rw [hp', hrows', c4]
  have a5 : (fun i => if 0 ≤ i / 20 ∧ i / 20 < 5 ∧ i % 20 < w then σ2 37 0 i else σ2 36 0 i) = (fun i => if 0 ≤ i / 20 ∧ i / 20 < 5 ∧ i % 20 < w then g i else σ 36 0 i) := by
    funext i
    rw [c1, c2]
  rw [a5]
