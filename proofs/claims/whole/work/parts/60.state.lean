/-! Pure: the abstract state, and how each side holds it.
Groups: a text with its cursor; the OTHER; the buffer (its kind, its text); what is pending of a command (operator, count, digits, keys); the mode (mode, where INSERT began, is the prompt a search, what was typed in it); the change (how many keys, the keys). The disk: file, safe text, jobs, the oldest first (for safety?, blocks, text). The window: width, TOP, sent, cells. -/
abbrev Tc : Type := Tx × Int × Int
abbrev Qd : Type := Int × Int × Int × List Int
abbrev Md : Type := Int × Int × Int × List Int
abbrev kEd : Type := Tc × Option Tc × (Int × Tx) × Qd × Md × (Int × List Int)
abbrev kDk : Type := Tx × Tx × List (Int × Int × Tx)
abbrev kWn : Type := Int × Int × Int × (Nat → Nat → Int)
def CX (σ : kS) (t : Nat) (x : Tc) : Prop := CT σ t x.1 ∧ σ 2 t 2 = x.1.length ∧ σ 2 t 3 = x.2.1 ∧ σ 2 t 4 = x.2.2
def RX (σ : kS) (b : Nat) (x : Tc) : Prop := RT σ b x.1 ∧ σ 22 0 b = x.1.length ∧ σ 23 0 b = x.2.1 ∧ σ 24 0 b = x.2.2
def CO (σ : kS) (o : Option Tc) : Prop := o.elim (σ 1 0 5 = 0) (fun x => σ 1 0 5 = 1 ∧ CX σ 1 x)
def RO (σ : kS) (o : Option Tc) : Prop := o.elim (σ 9 0 6 = 0) (fun x => σ 9 0 6 = 1 ∧ RX σ 1 x)
def CB (σ : kS) (b : Int × Tx) : Prop := σ 1 0 4 = b.1 ∧ CT σ 3 b.2 ∧ σ 2 3 2 = b.2.length
def RB (σ : kS) (b : Int × Tx) : Prop := σ 9 0 7 = b.1 ∧ RT σ 4 b.2
def kArr (f : Nat → Int) (ks : List Int) : Prop := ∀ i, i < ks.length → f i = ks.getD i 0
def CQ (σ : kS) (q : Qd) : Prop := σ 5 0 9 = q.1 ∧ σ 5 0 7 = q.2.1 ∧ σ 5 0 8 = q.2.2.1 ∧ σ 6 0 1 = q.2.2.2.length ∧ kArr (σ 16 0) q.2.2.2
def RQ (σ : kS) (q : Qd) : Prop := σ 9 0 8 = q.1 ∧ σ 9 0 9 = q.2.1 ∧ σ 9 0 10 = q.2.2.1 ∧ σ 9 0 12 = q.2.2.2.length ∧ kArr (σ 25 0) q.2.2.2
def CM (σ : kS) (m : Md) : Prop := σ 5 0 6 = m.1 ∧ (m.1 = 1 → σ 5 0 10 = m.2.1) ∧ (m.1 = 2 → σ 5 0 11 = m.2.2.1) ∧ σ 6 2 1 = m.2.2.2.length ∧ kArr (σ 16 2) m.2.2.2
def RM (σ : kS) (m : Md) : Prop := σ 9 0 5 = m.1 ∧ (m.1 = 1 → σ 9 0 18 = m.2.1) ∧ (m.1 = 2 → σ 9 0 21 = (if m.2.2.1 = 1 then 47 else 58) ∧ σ 9 0 20 = m.2.2.2.length ∧ kArr (σ 27 0) m.2.2.2)
def CL (σ : kS) (l : Int × List Int) : Prop := σ 6 1 1 = l.1 ∧ kArr (σ 16 1) l.2
def RL (σ : kS) (l : Int × List Int) : Prop := σ 9 0 14 = l.1 ∧ kArr (σ 26 0) l.2
/-- the editor in the class and in the reference; g: is a change being repeated -/
def CE (g : Int) (A : kEd) (σ : kS) : Prop := CX σ 0 A.1 ∧ CO σ A.2.1 ∧ CB σ A.2.2.1 ∧ CQ σ A.2.2.2.1 ∧ CM σ A.2.2.2.2.1 ∧ CL σ A.2.2.2.2.2 ∧ σ 5 0 12 = g
def RE (g : Int) (A : kEd) (σ : kS) : Prop := RX σ 0 A.1 ∧ RO σ A.2.1 ∧ RB σ A.2.2.1 ∧ RQ σ A.2.2.2.1 ∧ RM σ A.2.2.2.2.1 ∧ RL σ A.2.2.2.2.2 ∧ σ 9 0 15 = g
/-- a text that was never put down has -1 lines in the reference -/
def cnt1 (T : Tx) : Int := if T.length = 0 then -1 else (T.length : Int)
abbrev jb (D : kDk) (k : Nat) : Int × Int × Tx := D.2.2.getD k (0, 0, [])
def CD (D : kDk) (σ : kS) : Prop := (CT σ 4 D.1 ∧ σ 2 4 2 = D.1.length) ∧ (CT σ 5 D.2.1 ∧ σ 2 5 2 = D.2.1.length) ∧ σ 3 0 6 = D.2.2.length ∧ ∃ o : Nat, o < 3 ∧ σ 3 0 5 = o ∧ ∀ k : Nat, k < D.2.2.length → σ 13 0 ((o + k) % 3) = (jb D k).1 ∧ σ 14 0 ((o + k) % 3) = (jb D k).2.1 ∧ CT σ (6 + (o + k) % 3) (jb D k).2.2 ∧ σ 2 (6 + (o + k) % 3) 2 = (jb D k).2.2.length
def RD (D : kDk) (σ : kS) : Prop := (RT σ 5 D.1 ∧ σ 22 0 5 = cnt1 D.1) ∧ (RT σ 6 D.2.1 ∧ σ 22 0 6 = cnt1 D.2.1) ∧ σ 9 0 34 = D.2.2.length ∧ ∀ k : Nat, k < D.2.2.length → σ 34 0 k = 5 + (jb D k).1 ∧ σ 35 0 k = (jb D k).2.1 ∧ RT σ (7 + k) (jb D k).2.2 ∧ σ 22 0 (7 + k) = (jb D k).2.2.length
def CW (W : kWn) (σ : kS) : Prop := σ 4 0 2 = W.1 ∧ σ 4 0 3 = W.2.1 ∧ σ 4 0 4 = W.2.2.1 ∧ ∀ r c : Nat, r < 5 → (c : Int) < W.1 → σ 15 0 (r * W.1.toNat + c) = W.2.2.2 r c
def RW (W : kWn) (σ : kS) : Prop := σ 9 0 37 = W.1 ∧ σ 9 0 38 = W.2.1 ∧ σ 9 0 39 = W.2.2.1 ∧ ∀ r c : Nat, r < 5 → (c : Int) < W.1 → σ 36 0 (20 * r + c) = W.2.2.2 r c
def wfText (T : Tx) : Prop := 0 < T.length ∧ T.length ≤ 10 ∧ printable T ∧ ∀ p, p < T.length → (ln T p).length ≤ 20
def wfX (x : Tc) : Prop := wfText x.1 ∧ 0 ≤ x.2.1 ∧ x.2.1 < x.1.length ∧ 0 ≤ x.2.2 ∧ x.2.2 ≤ (ln x.1 x.2.1.toNat).length
/-- the cursor stands on a character, or the line is empty -/
def onC (x : Tc) : Prop := x.2.2 < (ln x.1 x.2.1.toNat).length ∨ x.2.2 = 0
def wfB (b : Int × Tx) : Prop := -1 ≤ b.1 ∧ b.1 ≤ 10 ∧ (b.2.length : Int) = (if b.1 = 0 then 1 else max 0 b.1) ∧ printable b.2 ∧ (∀ p, p < b.2.length → (ln b.2 p).length ≤ 20) ∧ (b.1 = 0 → 0 < (ln b.2 0).length)
def isOp (c : Int) : Prop := c = 100 ∨ c = 99 ∨ c = 121
/-- what is pending: digits, then perhaps an operator -/
def wfQ (q : Qd) : Prop := 0 ≤ q.2.2.1 ∧ q.2.2.1 ≤ 2 ∧ 0 ≤ q.2.1 ∧ (q.2.2.1 = 0 → q.2.1 = 0) ∧ (q.2.2.1 = 1 → 1 ≤ q.2.1 ∧ q.2.1 ≤ 9) ∧ (q.2.2.1 = 2 → 10 ≤ q.2.1 ∧ q.2.1 ≤ 99) ∧ (q.1 = 0 ∨ isOp q.1) ∧ (q.2.2.2.length : Int) = q.2.2.1 + (if q.1 = 0 then 0 else 1)
def kKey (c : Int) : Prop := 32 ≤ c ∧ c ≤ 126 ∨ c = 27 ∨ c = 10 ∨ c = 8
/-- what the keys of a command leave pending, one after the other; none: a key that ends it -/
def pend (q : Int × Int × Int) (c : Int) : Option (Int × Int × Int) :=
  if q.1 = 0 ∧ (q.2.2 = 1 ∧ 48 ≤ c ∧ c ≤ 57 ∨ q.2.2 = 0 ∧ 49 ≤ c ∧ c ≤ 57) then some (0, 10 * q.2.1 + c - 48, q.2.2 + 1)
  else if q.1 = 0 ∧ (c = 100 ∨ c = 99 ∨ c = 121) then some (c, q.2.1, q.2.2) else none
def pends : (Int × Int × Int) → List Int → Option (Int × Int × Int)
  | q, [] => some q
  | q, c :: cs => (pend q c).bind fun q' => pends q' cs
/-- the key that ends a command that begins INSERT -/
def insK (q : Int × Int × Int) (c : Int) : Prop := q.1 = 99 ∨ q.1 = 0 ∧ (c = 105 ∨ c = 97 ∨ c = 73 ∨ c = 65 ∨ c = 111 ∨ c = 79)
/-- a change: the keys of a command, and what was typed in INSERT (done: to its ESC) -/
def chOk (done : Bool) (ch : List Int) : Prop := ∃ ks k q is, ch = ks ++ k :: is ∧ pends (0, 0, 0) ks = some q ∧ pend q k = none ∧ k ≠ 27 ∧ (q.1 = 0 → k ≠ 58 ∧ k ≠ 47) ∧ (∀ c ∈ ch, kKey c) ∧
  ((¬ insK q k ∧ is = [] ∧ done = true) ∨ (insK q k ∧ ∃ js, (∀ c ∈ js, c ≠ 27) ∧ (if done then is = js ++ [27] else is = js)))
def wfM (x : Tc) (m : Md) : Prop := (m.1 = 0 ∨ m.1 = 1 ∨ m.1 = 2) ∧ (m.1 = 1 → 0 ≤ m.2.1 ∧ m.2.1 ≤ x.2.2) ∧ (m.1 = 2 → m.2.2.1 = 0 ∨ m.2.2.1 = 1) ∧ m.2.2.2.length ≤ 30 ∧ (∀ c ∈ m.2.2.2, 32 ≤ c ∧ c ≤ 126) ∧ (m.1 ≠ 2 → m.2.2.2 = [])
/-- of the change; mode 1: INSERT is not over -/
def wfL (done : Bool) (l : Int × List Int) : Prop := 0 ≤ l.1 ∧ l.1 ≤ 9 ∧ (l.2.length : Int) = min 8 l.1 ∧ (0 < l.1 → l.1 ≤ 8 → chOk done l.2) ∧ (done = false → 0 < l.1)
def wfO (o : Option Tc) : Prop := o.elim True (fun x => wfX x ∧ onC x)
def wfE (A : kEd) : Prop := wfX A.1 ∧ (A.2.2.2.2.1.1 ≠ 1 → onC A.1) ∧ wfO A.2.1 ∧ wfB A.2.2.1 ∧ wfQ A.2.2.2.1 ∧ (A.2.2.2.2.1.1 ≠ 0 → A.2.2.2.1 = (0, 0, 0, [])) ∧ pends (0, 0, 0) A.2.2.2.1.2.2.2 = some (A.2.2.2.1.1, A.2.2.2.1.2.1, A.2.2.2.1.2.2.1) ∧ (∀ c ∈ A.2.2.2.1.2.2.2, kKey c) ∧ wfM A.1 A.2.2.2.2.1
def wfD (D : kDk) : Prop := printable D.1 ∧ (D.2.1.length = 0 ∨ wfText D.2.1) ∧ D.2.2.length ≤ 3 ∧ ∀ k : Nat, k < D.2.2.length → ((jb D k).1 = 0 ∨ (jb D k).1 = 1) ∧ 1 ≤ (jb D k).2.1 ∧ (jb D k).2.1 ≤ 12 ∧ wfText (jb D k).2.2
def wfW (n : Nat) (W : kWn) : Prop := 5 ≤ W.1 ∧ W.1 ≤ 20 ∧ 0 ≤ W.2.1 ∧ W.2.1 < 10 ∧ 0 ≤ W.2.2.1 ∧ W.2.2.1 ≤ 115 * n ∧ ∀ r c : Nat, r < 5 → (c : Int) < W.1 → 0 ≤ W.2.2.2 r c ∧ W.2.2.2 r c ≤ 126
def WF (n : Nat) (A : kEd) (D : kDk) (W : kWn) : Prop := wfE A ∧ wfL (decide (A.2.2.2.2.1.1 ≠ 1)) A.2.2.2.2.2 ∧ wfD D ∧ wfW n W
def PC (A : kEd) (D : kDk) (W : kWn) (σ : kS) : Prop := CE 0 A σ ∧ CD D σ ∧ CW W σ
def PR (A : kEd) (D : kDk) (W : kWn) (σ : kS) : Prop := RE 0 A σ ∧ RD D σ ∧ RW W σ
def J (n : Nat) (σ : kS) : Prop := ∃ A D W, WF n A D W ∧ PC A D W σ ∧ PR A D W σ
theorem wfW.up {n : Nat} {W : kWn} (h : wfW n W) : wfW (n + 1) W := by
  obtain ⟨a1, a2, a3, a4, a5, a6, a7⟩ := h
  exact ⟨a1, a2, a3, a4, a5, by omega, a7⟩
theorem WF.up {n : Nat} {A : kEd} {D : kDk} {W : kWn} (h : WF n A D W) : WF (n + 1) A D W := ⟨h.1, h.2.1, h.2.2.1, h.2.2.2.up⟩
theorem JText.of {n : Nat} {A : kEd} {D : kDk} {W : kWn} {σ : kS} (w : WF n A D W) (c : PC A D W σ) (r : PR A D W σ) : JText σ A.1.1 := ⟨c.1.1.1, c.1.1.2.1, r.1.1.1, r.1.1.2.1, w.1.1.1.1, w.1.1.1.2.2.1⟩
theorem JMode.of {n : Nat} {A : kEd} {D : kDk} {W : kWn} {σ : kS} (w : WF n A D W) (c : PC A D W σ) (r : PR A D W σ) : JMode σ := by
  have h1 := c.1.2.2.2.2.1.1
  have h2 := r.1.2.2.2.2.1.1
  have h3 := w.1.2.2.2.2.2.2.2.2.1
  exact ⟨h1.trans h2.symm, by rw [h2]; exact h3⟩
theorem JCur.of {n : Nat} {A : kEd} {D : kDk} {W : kWn} {σ : kS} (w : WF n A D W) (c : PC A D W σ) (r : PR A D W σ) : JCur σ A.1.1 := by
  obtain ⟨-, w1, w2, w3, w4⟩ := w.1.1
  have w5 := w.1.2.1
  have h2 := r.1.2.2.2.2.1.1
  unfold JCur
  rw [c.1.1.2.2.1, c.1.1.2.2.2, r.1.1.2.2.1, r.1.1.2.2.2, h2]
  exact ⟨rfl, rfl, w1, w2, w3, w4, w5⟩
theorem JBuf.of {n : Nat} {A : kEd} {D : kDk} {W : kWn} {σ : kS} (w : WF n A D W) (c : PC A D W σ) (r : PR A D W σ) : JBuf σ A.2.2.1.2 := by
  obtain ⟨w1, w2, w3, w4, -, w5⟩ := w.1.2.2.2.1
  unfold JBuf
  rw [r.1.2.2.1.1, c.1.2.2.1.1]
  exact ⟨rfl, w1, w2, c.1.2.2.1.2.1, c.1.2.2.1.2.2, r.1.2.2.1.2, w3, w4, w5⟩
theorem JPut.of {n : Nat} {A : kEd} {D : kDk} {W : kWn} {σ : kS} (w : WF n A D W) (c : PC A D W σ) (r : PR A D W σ) : JPut σ 4 5 D.1 := ⟨c.2.1.1.2, c.2.1.1.1, r.2.1.1.1, r.2.1.1.2, w.2.2.1.1⟩
theorem JWin.of {n : Nat} {A : kEd} {D : kDk} {W : kWn} {σ : kS} (w : WF n A D W) (c : PC A D W σ) (r : PR A D W σ) : JWin n σ := by
  obtain ⟨w1, w2, w3, w4, w5, w6, w7⟩ := w.2.2.2
  obtain ⟨c1, c2, c3, c4⟩ := c.2.2
  obtain ⟨r1, r2, r3, r4⟩ := r.2.2
  unfold JWin
  rw [c1, c2, c3, r1, r2, r3]
  refine ⟨rfl, w1, w2, rfl, w3, w4, rfl, w5, w6, fun a b h1 h2 => ?_⟩
  rw [c4 a b h1 h2, r4 a b h1 h2]
  exact ⟨rfl, w7 a b h1 h2⟩
/-- calls that only read -/
theorem kSame.read {n : Nat} {σ : kS} {f g : kS → kRes} (hJ : J n σ) (h : ∃ y, f σ = some (some y, σ) ∧ g σ = some (some y, σ)) : kSame (J (n + 1)) f g σ := by
  obtain ⟨A, D, W, w, c, r⟩ := hJ
  obtain ⟨y, h1, h2⟩ := h
  exact ⟨y, σ, σ, h1, h2, A, D, W, w.up, c, r⟩
theorem st_mode {n : Nat} {σ : kS} (hJ : J n σ) : kSame (J (n + 1)) f_Ks_mode f_Rm_mode σ := kSame.read hJ (by obtain ⟨A, D, W, w, c, r⟩ := hJ; exact ⟨_, S_mode (JMode.of w c r)⟩)
theorem st_lines {n : Nat} {σ : kS} (hJ : J n σ) : kSame (J (n + 1)) f_Ks_lines f_Rm_lines σ := kSame.read hJ (by obtain ⟨A, D, W, w, c, r⟩ := hJ; exact ⟨_, S_lines (JText.of w c r)⟩)
theorem st_length {n : Nat} {σ : kS} (hJ : J n σ) (x : Int) (hx : -2147483648 ≤ x ∧ x < 2147483648) : kSame (J (n + 1)) (f_Ks_length x) (f_Rm_length x) σ := kSame.read hJ (by obtain ⟨A, D, W, w, c, r⟩ := hJ; exact ⟨_, S_length (JText.of w c r) hx⟩)
theorem st_letter {n : Nat} {σ : kS} (hJ : J n σ) (x y : Int) (hx : -2147483648 ≤ x ∧ x < 2147483648) (hy : -2147483648 ≤ y ∧ y < 2147483648) : kSame (J (n + 1)) (f_Ks_letter x y) (f_Rm_letter x y) σ := kSame.read hJ (by obtain ⟨A, D, W, w, c, r⟩ := hJ; exact ⟨_, S_letter (JText.of w c r) hx hy⟩)
theorem st_cursor {n : Nat} {σ : kS} (hJ : J n σ) : kSame (J (n + 1)) f_Ks_cursor f_Rm_cursor σ := kSame.read hJ (by obtain ⟨A, D, W, w, c, r⟩ := hJ; exact ⟨_, S_cursor (JCur.of w c r)⟩)
theorem st_buffer {n : Nat} {σ : kS} (hJ : J n σ) : kSame (J (n + 1)) f_Ks_buffer f_Rm_buffer σ := kSame.read hJ (by obtain ⟨A, D, W, w, c, r⟩ := hJ; exact ⟨_, S_buffer (JBuf.of w c r)⟩)
theorem st_held {n : Nat} {σ : kS} (hJ : J n σ) (x y : Int) (hx : -2147483648 ≤ x ∧ x < 2147483648) (hy : -2147483648 ≤ y ∧ y < 2147483648) : kSame (J (n + 1)) (f_Ks_held x y) (f_Rm_held x y) σ := kSame.read hJ (by obtain ⟨A, D, W, w, c, r⟩ := hJ; exact ⟨_, S_held (JBuf.of w c r) hx hy⟩)
theorem st_file {n : Nat} {σ : kS} (hJ : J n σ) : kSame (J (n + 1)) f_Ks_file f_Rm_file σ := kSame.read hJ (by obtain ⟨A, D, W, w, c, r⟩ := hJ; exact ⟨_, S_file (JPut.of w c r)⟩)
theorem st_stored {n : Nat} {σ : kS} (hJ : J n σ) (x y : Int) (hx : -2147483648 ≤ x ∧ x < 2147483648) (hy : -2147483648 ≤ y ∧ y < 2147483648) : kSame (J (n + 1)) (f_Ks_stored x y) (f_Rm_stored x y) σ := kSame.read hJ (by obtain ⟨A, D, W, w, c, r⟩ := hJ; exact ⟨_, S_stored (JPut.of w c r) hx hy⟩)
theorem st_cell {n : Nat} {σ : kS} (hJ : J n σ) (x y : Int) (hx : -2147483648 ≤ x ∧ x < 2147483648) (hy : -2147483648 ≤ y ∧ y < 2147483648) : kSame (J (n + 1)) (f_Ks_cell x y) (f_Rm_cell x y) σ := kSame.read hJ (by obtain ⟨A, D, W, w, c, r⟩ := hJ; exact S_cell (JWin.of w c r) hx hy)
theorem st_top {n : Nat} {σ : kS} (hJ : J n σ) : kSame (J (n + 1)) f_Ks_top f_Rm_top σ := kSame.read hJ (by obtain ⟨A, D, W, w, c, r⟩ := hJ; exact ⟨_, S_top (JWin.of w c r)⟩)
theorem st_sent {n : Nat} {σ : kS} (hJ : J n σ) : kSame (J (n + 1)) f_Ks_sent f_Rm_sent σ := kSame.read hJ (by obtain ⟨A, D, W, w, c, r⟩ := hJ; exact ⟨_, S_sent (JWin.of w c r)⟩)
