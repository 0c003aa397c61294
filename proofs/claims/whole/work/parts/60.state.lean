/-! Pure: the abstract state, and how each side holds it.
Texts: 0 the text, 1 the OTHER, 2 the buffer, 3 the file, 4 the safe text, 5 6 7 the jobs, the oldest first.
Numbers: 0 1 the cursor, 2 3 the OTHER's cursor, 4 is there an OTHER, 5 the buffer's kind, 6 the mode, 7 the operator, 8 the count, 9 its digits, 10 where INSERT began, 11 is the prompt a search, 12 how many keys the change has, 13 the jobs, 14 the width, 15 TOP, 16 sent, 17 18 19 is the job for safety, 20 21 22 its blocks.
Lists: 0 the command's keys, 1 the change's, 2 the prompt's. The window: row, column. -/
abbrev kAb : Type := (Nat → Tx) × (Nat → Int) × (Nat → List Int) × (Nat → Nat → Int)
abbrev aT (A : kAb) : Nat → Tx := A.1
abbrev aN (A : kAb) : Nat → Int := A.2.1
abbrev aL (A : kAb) : Nat → List Int := A.2.2.1
abbrev aW (A : kAb) : Nat → Nat → Int := A.2.2.2
def PC (A : kAb) (σ : kS) : Prop :=
  (CT σ 0 (aT A 0) ∧ σ 2 0 2 = (aT A 0).length ∧ σ 2 0 3 = aN A 0 ∧ σ 2 0 4 = aN A 1) ∧
  (σ 1 0 5 = aN A 4 ∧ (aN A 4 = 1 → CT σ 1 (aT A 1) ∧ σ 2 1 2 = (aT A 1).length ∧ σ 2 1 3 = aN A 2 ∧ σ 2 1 4 = aN A 3)) ∧
  (σ 1 0 4 = aN A 5 ∧ CT σ 3 (aT A 2) ∧ σ 2 3 2 = (aT A 2).length) ∧
  (CT σ 4 (aT A 3) ∧ σ 2 4 2 = (aT A 3).length) ∧ (CT σ 5 (aT A 4) ∧ σ 2 5 2 = (aT A 4).length) ∧
  (σ 3 0 6 = aN A 13 ∧ ∃ o : Nat, o < 3 ∧ σ 3 0 5 = o ∧ ∀ k : Nat, (k : Int) < aN A 13 → σ 13 0 ((o + k) % 3) = aN A (17 + k) ∧ σ 14 0 ((o + k) % 3) = aN A (20 + k) ∧ CT σ (6 + (o + k) % 3) (aT A (5 + k)) ∧ σ 2 (6 + (o + k) % 3) 2 = (aT A (5 + k)).length) ∧
  (σ 4 0 2 = aN A 14 ∧ σ 4 0 3 = aN A 15 ∧ σ 4 0 4 = aN A 16 ∧ ∀ r c : Nat, r < 5 → (c : Int) < aN A 14 → σ 15 0 (r * (aN A 14).toNat + c) = aW A r c) ∧
  (σ 5 0 6 = aN A 6 ∧ σ 5 0 7 = aN A 8 ∧ σ 5 0 8 = aN A 9 ∧ σ 5 0 9 = aN A 7 ∧ (aN A 6 = 1 → σ 5 0 10 = aN A 10) ∧ (aN A 6 = 2 → σ 5 0 11 = aN A 11) ∧ σ 5 0 12 = 0) ∧
  (σ 6 0 1 = (aL A 0).length ∧ ∀ i, i < (aL A 0).length → σ 16 0 i = (aL A 0).getD i 0) ∧
  (σ 6 1 1 = aN A 12 ∧ ∀ i, i < (aL A 1).length → σ 16 1 i = (aL A 1).getD i 0) ∧
  (σ 6 2 1 = (aL A 2).length ∧ ∀ i, i < (aL A 2).length → σ 16 2 i = (aL A 2).getD i 0)
/-- a text that was never put down has -1 lines in the reference -/
def cnt1 (T : Tx) : Int := if T.length = 0 then -1 else (T.length : Int)
def PR (A : kAb) (σ : kS) : Prop :=
  (RT σ 0 (aT A 0) ∧ σ 22 0 0 = (aT A 0).length ∧ σ 23 0 0 = aN A 0 ∧ σ 24 0 0 = aN A 1) ∧
  (σ 9 0 6 = aN A 4 ∧ (aN A 4 = 1 → RT σ 1 (aT A 1) ∧ σ 22 0 1 = (aT A 1).length ∧ σ 23 0 1 = aN A 2 ∧ σ 24 0 1 = aN A 3)) ∧
  (σ 9 0 7 = aN A 5 ∧ RT σ 4 (aT A 2)) ∧
  (RT σ 5 (aT A 3) ∧ σ 22 0 5 = cnt1 (aT A 3)) ∧ (RT σ 6 (aT A 4) ∧ σ 22 0 6 = cnt1 (aT A 4)) ∧
  (σ 9 0 34 = aN A 13 ∧ ∀ k : Nat, (k : Int) < aN A 13 → σ 34 0 k = 5 + aN A (17 + k) ∧ σ 35 0 k = aN A (20 + k) ∧ RT σ (7 + k) (aT A (5 + k)) ∧ σ 22 0 (7 + k) = (aT A (5 + k)).length) ∧
  (σ 9 0 37 = aN A 14 ∧ σ 9 0 38 = aN A 15 ∧ σ 9 0 39 = aN A 16 ∧ ∀ r c : Nat, r < 5 → (c : Int) < aN A 14 → σ 36 0 (20 * r + c) = aW A r c) ∧
  (σ 9 0 5 = aN A 6 ∧ σ 9 0 9 = aN A 8 ∧ σ 9 0 10 = aN A 9 ∧ σ 9 0 8 = aN A 7 ∧ (aN A 6 = 1 → σ 9 0 18 = aN A 10) ∧ (aN A 6 = 2 → σ 9 0 21 = (if aN A 11 = 1 then 47 else 58)) ∧ σ 9 0 15 = 0) ∧
  (σ 9 0 12 = (aL A 0).length ∧ ∀ i, i < (aL A 0).length → σ 25 0 i = (aL A 0).getD i 0) ∧
  (σ 9 0 14 = aN A 12 ∧ ∀ i, i < (aL A 1).length → σ 26 0 i = (aL A 1).getD i 0) ∧
  (aN A 6 = 2 → σ 9 0 20 = (aL A 2).length ∧ ∀ i, i < (aL A 2).length → σ 27 0 i = (aL A 2).getD i 0)
def wfText (T : Tx) : Prop := 0 < T.length ∧ T.length ≤ 10 ∧ printable T ∧ ∀ p, p < T.length → (ln T p).length ≤ 20
/-- what holds of every abstract state, n calls after the start -/
def WF (n : Nat) (A : kAb) : Prop :=
  (wfText (aT A 0) ∧ 0 ≤ aN A 0 ∧ aN A 0 < (aT A 0).length ∧ 0 ≤ aN A 1 ∧ aN A 1 ≤ (ln (aT A 0) (aN A 0).toNat).length ∧ (aN A 6 ≠ 1 → aN A 1 < (ln (aT A 0) (aN A 0).toNat).length ∨ aN A 1 = 0)) ∧
  ((aN A 4 = 0 ∨ aN A 4 = 1) ∧ (aN A 4 = 1 → wfText (aT A 1) ∧ 0 ≤ aN A 2 ∧ aN A 2 < (aT A 1).length ∧ 0 ≤ aN A 3 ∧ (aN A 3 < (ln (aT A 1) (aN A 2).toNat).length ∨ aN A 3 = 0))) ∧
  (-1 ≤ aN A 5 ∧ aN A 5 ≤ 10 ∧ ((aT A 2).length : Int) = (if aN A 5 = 0 then 1 else max 0 (aN A 5)) ∧ printable (aT A 2) ∧ (aN A 5 = 0 → 0 < (ln (aT A 2) 0).length)) ∧
  (printable (aT A 3) ∧ printable (aT A 4)) ∧
  (0 ≤ aN A 13 ∧ aN A 13 ≤ 3 ∧ ∀ k : Nat, (k : Int) < aN A 13 → (aN A (17 + k) = 0 ∨ aN A (17 + k) = 1) ∧ 1 ≤ aN A (20 + k) ∧ aN A (20 + k) ≤ 12 ∧ wfText (aT A (5 + k))) ∧
  (5 ≤ aN A 14 ∧ aN A 14 ≤ 20 ∧ 0 ≤ aN A 15 ∧ aN A 15 < 10 ∧ 0 ≤ aN A 16 ∧ aN A 16 ≤ 115 * n ∧ ∀ r c : Nat, r < 5 → (c : Int) < aN A 14 → 0 ≤ aW A r c ∧ aW A r c ≤ 126) ∧
  (aN A 6 = 0 ∨ aN A 6 = 1 ∨ aN A 6 = 2)
def J (n : Nat) (σ : kS) : Prop := ∃ A, WF n A ∧ PC A σ ∧ PR A σ
theorem WF.up {n : Nat} {A : kAb} (h : WF n A) : WF (n + 1) A := by
  obtain ⟨h1, h2, h3, h4, h5, ⟨a1, a2, a3, a4, a5, a6, a7⟩, h7⟩ := h
  exact ⟨h1, h2, h3, h4, h5, ⟨a1, a2, a3, a4, a5, by omega, a7⟩, h7⟩
theorem JText.of {n : Nat} {A : kAb} {σ : kS} (w : WF n A) (c : PC A σ) (r : PR A σ) : JText σ (aT A 0) := ⟨c.1.1, c.1.2.1, r.1.1, r.1.2.1, w.1.1.1, w.1.1.2.2.1⟩
theorem JMode.of {n : Nat} {A : kAb} {σ : kS} (w : WF n A) (c : PC A σ) (r : PR A σ) : JMode σ := by
  have h1 := c.2.2.2.2.2.2.2.1.1
  have h2 := r.2.2.2.2.2.2.2.1.1
  have h3 := w.2.2.2.2.2.2
  exact ⟨h1.trans h2.symm, by rw [h2]; exact h3⟩
theorem JCur.of {n : Nat} {A : kAb} {σ : kS} (w : WF n A) (c : PC A σ) (r : PR A σ) : JCur σ (aT A 0) := by
  obtain ⟨-, w1, w2, w3, w4, w5⟩ := w.1
  have h2 := r.2.2.2.2.2.2.2.1.1
  unfold JCur
  rw [c.1.2.2.1, c.1.2.2.2, r.1.2.2.1, r.1.2.2.2, h2]
  exact ⟨rfl, rfl, w1, w2, w3, w4, w5⟩
theorem JBuf.of {n : Nat} {A : kAb} {σ : kS} (w : WF n A) (c : PC A σ) (r : PR A σ) : JBuf σ (aT A 2) := by
  obtain ⟨w1, w2, w3, w4, w5⟩ := w.2.2.1
  unfold JBuf
  rw [r.2.2.1.1, c.2.2.1.1]
  exact ⟨rfl, w1, w2, c.2.2.1.2.1, c.2.2.1.2.2, r.2.2.1.2, w3, w4, w5⟩
theorem JPut.of {n : Nat} {A : kAb} {σ : kS} (w : WF n A) (c : PC A σ) (r : PR A σ) : JPut σ 4 5 (aT A 3) := ⟨c.2.2.2.1.2, c.2.2.2.1.1, r.2.2.2.1.1, r.2.2.2.1.2, w.2.2.2.1.1⟩
theorem JWin.of {n : Nat} {A : kAb} {σ : kS} (w : WF n A) (c : PC A σ) (r : PR A σ) : JWin n σ := by
  obtain ⟨w1, w2, w3, w4, w5, w6, w7⟩ := w.2.2.2.2.2.1
  obtain ⟨c1, c2, c3, c4⟩ := c.2.2.2.2.2.2.1
  obtain ⟨r1, r2, r3, r4⟩ := r.2.2.2.2.2.2.1
  unfold JWin
  rw [c1, c2, c3, r1, r2, r3]
  refine ⟨rfl, w1, w2, rfl, w3, w4, rfl, w5, w6, fun a b h1 h2 => ?_⟩
  rw [c4 a b h1 h2, r4 a b h1 h2]
  exact ⟨rfl, w7 a b h1 h2⟩
/-- calls that only read -/
theorem kSame.read {n : Nat} {σ : kS} {f g : kS → kRes} (hJ : J n σ) (h : ∃ y, f σ = some (some y, σ) ∧ g σ = some (some y, σ)) : kSame (J (n + 1)) f g σ := by
  obtain ⟨A, w, c, r⟩ := hJ
  obtain ⟨y, h1, h2⟩ := h
  exact ⟨y, σ, σ, h1, h2, A, w.up, c, r⟩
theorem st_mode {n : Nat} {σ : kS} (hJ : J n σ) : kSame (J (n + 1)) f_Ks_mode f_Rm_mode σ := kSame.read hJ (by obtain ⟨A, w, c, r⟩ := hJ; exact ⟨_, S_mode (JMode.of w c r)⟩)
theorem st_lines {n : Nat} {σ : kS} (hJ : J n σ) : kSame (J (n + 1)) f_Ks_lines f_Rm_lines σ := kSame.read hJ (by obtain ⟨A, w, c, r⟩ := hJ; exact ⟨_, S_lines (JText.of w c r)⟩)
theorem st_length {n : Nat} {σ : kS} (hJ : J n σ) (x : Int) (hx : -2147483648 ≤ x ∧ x < 2147483648) : kSame (J (n + 1)) (f_Ks_length x) (f_Rm_length x) σ := kSame.read hJ (by obtain ⟨A, w, c, r⟩ := hJ; exact ⟨_, S_length (JText.of w c r) hx⟩)
theorem st_letter {n : Nat} {σ : kS} (hJ : J n σ) (x y : Int) (hx : -2147483648 ≤ x ∧ x < 2147483648) (hy : -2147483648 ≤ y ∧ y < 2147483648) : kSame (J (n + 1)) (f_Ks_letter x y) (f_Rm_letter x y) σ := kSame.read hJ (by obtain ⟨A, w, c, r⟩ := hJ; exact ⟨_, S_letter (JText.of w c r) hx hy⟩)
theorem st_cursor {n : Nat} {σ : kS} (hJ : J n σ) : kSame (J (n + 1)) f_Ks_cursor f_Rm_cursor σ := kSame.read hJ (by obtain ⟨A, w, c, r⟩ := hJ; exact ⟨_, S_cursor (JCur.of w c r)⟩)
theorem st_buffer {n : Nat} {σ : kS} (hJ : J n σ) : kSame (J (n + 1)) f_Ks_buffer f_Rm_buffer σ := kSame.read hJ (by obtain ⟨A, w, c, r⟩ := hJ; exact ⟨_, S_buffer (JBuf.of w c r)⟩)
theorem st_held {n : Nat} {σ : kS} (hJ : J n σ) (x y : Int) (hx : -2147483648 ≤ x ∧ x < 2147483648) (hy : -2147483648 ≤ y ∧ y < 2147483648) : kSame (J (n + 1)) (f_Ks_held x y) (f_Rm_held x y) σ := kSame.read hJ (by obtain ⟨A, w, c, r⟩ := hJ; exact ⟨_, S_held (JBuf.of w c r) hx hy⟩)
theorem st_file {n : Nat} {σ : kS} (hJ : J n σ) : kSame (J (n + 1)) f_Ks_file f_Rm_file σ := kSame.read hJ (by obtain ⟨A, w, c, r⟩ := hJ; exact ⟨_, S_file (JPut.of w c r)⟩)
theorem st_stored {n : Nat} {σ : kS} (hJ : J n σ) (x y : Int) (hx : -2147483648 ≤ x ∧ x < 2147483648) (hy : -2147483648 ≤ y ∧ y < 2147483648) : kSame (J (n + 1)) (f_Ks_stored x y) (f_Rm_stored x y) σ := kSame.read hJ (by obtain ⟨A, w, c, r⟩ := hJ; exact ⟨_, S_stored (JPut.of w c r) hx hy⟩)
theorem st_cell {n : Nat} {σ : kS} (hJ : J n σ) (x y : Int) (hx : -2147483648 ≤ x ∧ x < 2147483648) (hy : -2147483648 ≤ y ∧ y < 2147483648) : kSame (J (n + 1)) (f_Ks_cell x y) (f_Rm_cell x y) σ := kSame.read hJ (by obtain ⟨A, w, c, r⟩ := hJ; exact S_cell (JWin.of w c r) hx hy)
theorem st_top {n : Nat} {σ : kS} (hJ : J n σ) : kSame (J (n + 1)) f_Ks_top f_Rm_top σ := kSame.read hJ (by obtain ⟨A, w, c, r⟩ := hJ; exact ⟨_, S_top (JWin.of w c r)⟩)
theorem st_sent {n : Nat} {σ : kS} (hJ : J n σ) : kSame (J (n + 1)) f_Ks_sent f_Rm_sent σ := kSame.read hJ (by obtain ⟨A, w, c, r⟩ := hJ; exact ⟨_, S_sent (JWin.of w c r)⟩)
