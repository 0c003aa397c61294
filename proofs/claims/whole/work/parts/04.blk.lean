/-! A stretch of instructions in one go: what must hold, and what comes behind it -/
def kldi (L : kL) (k : Nat) (st : List kV) (σ : kS) : Option (List Prop × kL × List kV × kS) := match L[k]? with
  | some (some (.inl x)) => some ([], L, .inl x :: st, σ)
  | _ => none
def klda (L : kL) (k : Nat) (st : List kV) (σ : kS) : Option (List Prop × kL × List kV × kS) := match L[k]? with
  | some (some (.inr x)) => some ([], L, .inr x :: st, σ)
  | _ => none
def ksti (n : Nat) (L : kL) (k : Nat) (st : List kV) (σ : kS) : Option (List Prop × kL × List kV × kS) := match st with
  | .inl x :: r => if k < n then some ([], L.set k (some (.inl x)), r, σ) else none
  | _ => none
def ksta (n : Nat) (L : kL) (k : Nat) (st : List kV) (σ : kS) : Option (List Prop × kL × List kV × kS) := match st with
  | .inr x :: r => if k < n then some ([], L.set k (some (.inr x)), r, σ) else none
  | _ => none
def kbin (f : Int → Int → Int) (L : kL) (st : List kV) (σ : kS) : Option (List Prop × kL × List kV × kS) := match st with
  | .inl y :: .inl x :: r => some ([], L, .inl (f x y) :: r, σ)
  | _ => none
def kbinG (f : Int → Int → Int) (L : kL) (st : List kV) (σ : kS) : Option (List Prop × kL × List kV × kS) := match st with
  | .inl y :: .inl x :: r => some ([¬ Int32.ofInt y = 0], L, .inl (f x y) :: r, σ)
  | _ => none
def kald (t : Nat) (L : kL) (st : List kV) (σ : kS) : Option (List Prop × kL × List kV × kS) := match st with
  | .inl x :: .inr (k, i) :: r => if (ksh k i).1 = t then some ([0 ≤ x ∧ x < ((ksh k i).2 : Nat)], L, .inl (σ k i x.toNat) :: r, σ) else none
  | _ => none
def kaldq (L : kL) (st : List kV) (σ : kS) : Option (List Prop × kL × List kV × kS) := match st with
  | .inl x :: .inr (k, i) :: r => if (ksh k i).1 = 2 then some ([0 ≤ x ∧ x < ((ksh k i).2 : Nat)], L, .inr (krf k i x.toNat) :: r, σ) else none
  | _ => none
def kasti (L : kL) (st : List kV) (σ : kS) : Option (List Prop × kL × List kV × kS) := match st with
  | .inl v :: .inl x :: .inr (k, i) :: r => if (ksh k i).1 = 0 then some ([0 ≤ x ∧ x < ((ksh k i).2 : Nat)], L, r, kup σ k i x.toNat v) else none
  | _ => none
def kastz (L : kL) (st : List kV) (σ : kS) : Option (List Prop × kL × List kV × kS) := match st with
  | .inl v :: .inl x :: .inr (k, i) :: r => if (ksh k i).1 = 1 then some ([0 ≤ x ∧ x < ((ksh k i).2 : Nat), v = 0 ∨ v = 1], L, r, kup σ k i x.toNat v) else none
  | _ => none
def kalen (L : kL) (st : List kV) (σ : kS) : Option (List Prop × kL × List kV × kS) := match st with
  | .inr (k, i) :: r => if (ksh k i).1 < 3 then some ([], L, .inl ((ksh k i).2 : Nat) :: r, σ) else none
  | _ => none
def kgetf (F : Nat → Option (Nat × Nat)) (idx : Nat) (L : kL) (st : List kV) (σ : kS) : Option (List Prop × kL × List kV × kS) := match F idx, st with
  | some (k, j), .inr (k', i) :: r => if k' = k then some ([], L, kget σ k' i j :: r, σ) else none
  | _, _ => none
def kputf (F : Nat → Option (Nat × Nat)) (idx : Nat) (L : kL) (st : List kV) (σ : kS) : Option (List Prop × kL × List kV × kS) := match F idx, st with
  | some (k, j), .inl x :: .inr (k', i) :: r => if k' = k then (if kty k j = 0 then some ([], L, r, kup σ k' i j x) else if kty k j = 1 then some ([x = 0 ∨ x = 1], L, r, kup σ k' i j x) else none) else none
  | some (k, j), .inr c :: .inr (k', i) :: r => if k' = k then (if kty k j = 3 then some ([kdy (kenc c) = c], L, r, kup σ k' i j (kenc c)) else none) else none
  | _, _ => none
def kst (F : Nat → Option (Nat × Nat)) (n : Nat) (i : Instr) (L : kL) (st : List kV) (σ : kS) : Option (List Prop × kL × List kV × kS) := match i with
  | .iconst x => some ([], L, .inl x :: st, σ)
  | .bipush x => if -128 ≤ x ∧ x < 128 then some ([], L, .inl x :: st, σ) else none
  | .sipush x => if -32768 ≤ x ∧ x < 32768 then some ([], L, .inl x :: st, σ) else none
  | .iload_n k => kldi L k.val st σ
  | .iload k => kldi L k st σ
  | .aload_n k => klda L k.val st σ
  | .aload k => klda L k st σ
  | .istore_n k => ksti n L k.val st σ
  | .istore k => ksti n L k st σ
  | .astore_n k => ksta n L k.val st σ
  | .astore k => ksta n L k st σ
  | .iinc k x => match L[k]? with
    | some (some (.inl y)) => if k < n then some ([], L.set k (some (.inl (y + x))), st, σ) else none
    | _ => none
  | .iadd => kbin (fun x y => x + y) L st σ
  | .isub => kbin (fun x y => x - y) L st σ
  | .imul => kbin (fun x y => x * y) L st σ
  | .iand => kbin kand L st σ
  | .ior => kbin kor L st σ
  | .ixor => kbin kxor L st σ
  | .ishl => kbin kshl L st σ
  | .ishr => kbin kshr L st σ
  | .idiv => kbinG kdiv L st σ
  | .irem => kbinG kmod L st σ
  | .ineg => match st with
    | .inl x :: r => some ([], L, .inl (-x) :: r, σ)
    | _ => none
  | .dup => match st with
    | a :: r => some ([], L, a :: a :: r, σ)
    | _ => none
  | .pop => match st with
    | _ :: r => some ([], L, r, σ)
    | _ => none
  | .dup_x1 => match st with
    | a :: b :: r => some ([], L, a :: b :: a :: r, σ)
    | _ => none
  | .dup2 => match st with
    | a :: b :: r => some ([], L, a :: b :: a :: b :: r, σ)
    | _ => none
  | .iaload => kald 0 L st σ
  | .baload => kald 1 L st σ
  | .aaload => kaldq L st σ
  | .iastore => kasti L st σ
  | .bastore => kastz L st σ
  | .arraylength => kalen L st σ
  | .getfield idx => kgetf F idx L st σ
  | .putfield idx => kputf F idx L st σ
  | _ => none
def kwid (i : Instr) : Nat := match i with
  | .bipush _ | .iload _ | .istore _ | .aload _ | .astore _ => 2
  | .sipush _ | .iinc _ _ | .getfield _ | .putfield _ => 3
  | _ => 1
def kblk (F : Nat → Option (Nat × Nat)) (n : Nat) : List Instr → Nat → kL → List kV → kS → Option (List Prop × Nat × kL × List kV × kS)
  | [], pc, L, st, σ => some ([], pc, L, st, σ)
  | i :: r, pc, L, st, σ => match kst F n i L st σ with
    | none => none
    | some (g, L', st', σ') => match kblk F n r (pc + kwid i) L' st' σ' with
      | none => none
      | some (gs, z) => some (g ++ gs, z)
def kchk (cc : ByteArray) : Nat → List Instr → Bool
  | _, [] => true
  | pc, i :: r => decide (decode cc pc = .ok (i, kwid i)) && kchk cc (pc + kwid i) r
def kFok (own : String) (F : Nat → Option (Nat × Nat)) : Prop := ∀ idx k j, F idx = some (k, j) → ∃ N ty, kFL own idx k j N ty ∧ (∀ i, ksh k i = (3, N)) ∧
  (kty k j = 0 → ty = .int ∧ kFP k j) ∧ (kty k j = 1 → ty = .boolean ∧ kFP k j) ∧ (kty k j = 3 → ty = .array .int ∧ kFP k j)
def kall : List Prop → Prop
  | [] => True
  | g :: r => g ∧ kall r
theorem kall_mem : ∀ {gs : List Prop}, kall gs → ∀ g ∈ gs, g
  | [], _, g, h => by cases h
  | a :: r, k, g, h => by
    rcases List.mem_cons.mp h with rfl | h
    · exact k.1
    · exact kall_mem k.2 g h
section KB
variable {l : Launch} {G : kG} {d : Nat × Nat} {M : kM} {Q : Option Int → kS → Prop} {pc : Nat} {L L' : kL} {st st' : List kV} {σ σ' : kS} {gs : List Prop} {F : Nat → Option (Nat × Nat)}
theorem kst_ok {i : Instr} (h : kst F M.2.2.1 i L st σ = some (gs, L', st', σ')) (hd : decode M.2.1 pc = .ok (i, kwid i)) (hF : kFok M.1 F) (hg : ∀ g ∈ gs, g) (k : Rn l G d M Q (pc + kwid i) L' st' σ') : Rn l G d M Q pc L st σ := by
  cases i with
  | iconst x => simp only [kst, Option.some.injEq, Prod.mk.injEq] at h; obtain ⟨rfl, rfl, rfl, rfl⟩ := h; exact Rn.iconst hd k
  | bipush x =>
    simp only [kst] at h
    split at h
    · simp only [Option.some.injEq, Prod.mk.injEq] at h; obtain ⟨rfl, rfl, rfl, rfl⟩ := h; rename_i q; exact Rn.bipush q.1 q.2 hd k
    · cases h
  | sipush x =>
    simp only [kst] at h
    split at h
    · simp only [Option.some.injEq, Prod.mk.injEq] at h; obtain ⟨rfl, rfl, rfl, rfl⟩ := h; rename_i q; exact Rn.sipush q.1 q.2 hd k
    · cases h
  | iload_n q =>
    simp only [kst, kldi] at h
    split at h
    · rename_i x hx; simp only [Option.some.injEq, Prod.mk.injEq] at h; obtain ⟨rfl, rfl, rfl, rfl⟩ := h; exact Rn.iload_n hd hx k
    · cases h
  | iload q =>
    simp only [kst, kldi] at h
    split at h
    · rename_i x hx; simp only [Option.some.injEq, Prod.mk.injEq] at h; obtain ⟨rfl, rfl, rfl, rfl⟩ := h; exact Rn.iload hd hx k
    · cases h
  | aload_n q =>
    simp only [kst, klda] at h
    split at h
    · rename_i x hx; simp only [Option.some.injEq, Prod.mk.injEq] at h; obtain ⟨rfl, rfl, rfl, rfl⟩ := h; exact Rn.aload_n hd hx k
    · cases h
  | aload q =>
    simp only [kst, klda] at h
    split at h
    · rename_i x hx; simp only [Option.some.injEq, Prod.mk.injEq] at h; obtain ⟨rfl, rfl, rfl, rfl⟩ := h; exact Rn.aload hd hx k
    · cases h
  | istore_n q =>
    simp only [kst, ksti] at h
    split at h
    · split at h
      · rename_i hx; simp only [Option.some.injEq, Prod.mk.injEq] at h; obtain ⟨rfl, rfl, rfl, rfl⟩ := h; exact Rn.istore_n hd hx k
      · cases h
    · cases h
  | istore q =>
    simp only [kst, ksti] at h
    split at h
    · split at h
      · rename_i hx; simp only [Option.some.injEq, Prod.mk.injEq] at h; obtain ⟨rfl, rfl, rfl, rfl⟩ := h; exact Rn.istore hd hx k
      · cases h
    · cases h
  | astore_n q =>
    simp only [kst, ksta] at h
    split at h
    · split at h
      · rename_i hx; simp only [Option.some.injEq, Prod.mk.injEq] at h; obtain ⟨rfl, rfl, rfl, rfl⟩ := h; exact Rn.astore_n hd hx k
      · cases h
    · cases h
  | astore q =>
    simp only [kst, ksta] at h
    split at h
    · split at h
      · rename_i hx; simp only [Option.some.injEq, Prod.mk.injEq] at h; obtain ⟨rfl, rfl, rfl, rfl⟩ := h; exact Rn.astore hd hx k
      · cases h
    · cases h
  | iinc q x =>
    simp only [kst] at h
    split at h
    · rename_i y hy
      split at h
      · rename_i hx; simp only [Option.some.injEq, Prod.mk.injEq] at h; obtain ⟨rfl, rfl, rfl, rfl⟩ := h; exact Rn.iinc hd hy hx k
      · cases h
    · cases h
  | iadd =>
    simp only [kst, kbin] at h
    split at h
    · simp only [Option.some.injEq, Prod.mk.injEq] at h; obtain ⟨rfl, rfl, rfl, rfl⟩ := h; exact Rn.iadd hd k
    · cases h
  | isub =>
    simp only [kst, kbin] at h
    split at h
    · simp only [Option.some.injEq, Prod.mk.injEq] at h; obtain ⟨rfl, rfl, rfl, rfl⟩ := h; exact Rn.isub hd k
    · cases h
  | imul =>
    simp only [kst, kbin] at h
    split at h
    · simp only [Option.some.injEq, Prod.mk.injEq] at h; obtain ⟨rfl, rfl, rfl, rfl⟩ := h; exact Rn.imul hd k
    · cases h
  | iand =>
    simp only [kst, kbin] at h
    split at h
    · simp only [Option.some.injEq, Prod.mk.injEq] at h; obtain ⟨rfl, rfl, rfl, rfl⟩ := h; exact Rn.iand hd k
    · cases h
  | ior =>
    simp only [kst, kbin] at h
    split at h
    · simp only [Option.some.injEq, Prod.mk.injEq] at h; obtain ⟨rfl, rfl, rfl, rfl⟩ := h; exact Rn.ior hd k
    · cases h
  | ixor =>
    simp only [kst, kbin] at h
    split at h
    · simp only [Option.some.injEq, Prod.mk.injEq] at h; obtain ⟨rfl, rfl, rfl, rfl⟩ := h; exact Rn.ixor hd k
    · cases h
  | ishl =>
    simp only [kst, kbin] at h
    split at h
    · simp only [Option.some.injEq, Prod.mk.injEq] at h; obtain ⟨rfl, rfl, rfl, rfl⟩ := h; exact Rn.ishl hd k
    · cases h
  | ishr =>
    simp only [kst, kbin] at h
    split at h
    · simp only [Option.some.injEq, Prod.mk.injEq] at h; obtain ⟨rfl, rfl, rfl, rfl⟩ := h; exact Rn.ishr hd k
    · cases h
  | idiv =>
    simp only [kst, kbinG] at h
    split at h
    · simp only [Option.some.injEq, Prod.mk.injEq] at h; obtain ⟨rfl, rfl, rfl, rfl⟩ := h; exact Rn.idiv (hg _ (by simp)) hd k
    · cases h
  | irem =>
    simp only [kst, kbinG] at h
    split at h
    · simp only [Option.some.injEq, Prod.mk.injEq] at h; obtain ⟨rfl, rfl, rfl, rfl⟩ := h; exact Rn.irem (hg _ (by simp)) hd k
    · cases h
  | ineg =>
    simp only [kst] at h
    split at h
    · simp only [Option.some.injEq, Prod.mk.injEq] at h; obtain ⟨rfl, rfl, rfl, rfl⟩ := h; exact Rn.ineg hd k
    · cases h
  | dup =>
    simp only [kst] at h
    split at h
    · simp only [Option.some.injEq, Prod.mk.injEq] at h; obtain ⟨rfl, rfl, rfl, rfl⟩ := h; exact Rn.dup hd k
    · cases h
  | pop =>
    simp only [kst] at h
    split at h
    · simp only [Option.some.injEq, Prod.mk.injEq] at h; obtain ⟨rfl, rfl, rfl, rfl⟩ := h; exact Rn.pop hd k
    · cases h
  | dup_x1 =>
    simp only [kst] at h
    split at h
    · simp only [Option.some.injEq, Prod.mk.injEq] at h; obtain ⟨rfl, rfl, rfl, rfl⟩ := h; exact Rn.dup_x1 hd k
    · cases h
  | dup2 =>
    simp only [kst] at h
    split at h
    · simp only [Option.some.injEq, Prod.mk.injEq] at h; obtain ⟨rfl, rfl, rfl, rfl⟩ := h; exact Rn.dup2 hd k
    · cases h
  | iaload =>
    simp only [kst, kald] at h
    split at h
    · rename_i k0 i0 r0
      split at h
      · rename_i hx; simp only [Option.some.injEq, Prod.mk.injEq] at h; obtain ⟨rfl, rfl, rfl, rfl⟩ := h; exact Rn.iaload (n := (ksh k0 i0).2) (Prod.ext hx rfl) (ksh_n k0 i0) (hg _ (by simp)) hd k
      · cases h
    · cases h
  | baload =>
    simp only [kst, kald] at h
    split at h
    · rename_i k0 i0 r0
      split at h
      · rename_i hx; simp only [Option.some.injEq, Prod.mk.injEq] at h; obtain ⟨rfl, rfl, rfl, rfl⟩ := h; exact Rn.baload (n := (ksh k0 i0).2) (Prod.ext hx rfl) (ksh_n k0 i0) (hg _ (by simp)) hd k
      · cases h
    · cases h
  | aaload =>
    simp only [kst, kaldq] at h
    split at h
    · rename_i k0 i0 r0
      split at h
      · rename_i hx; simp only [Option.some.injEq, Prod.mk.injEq] at h; obtain ⟨rfl, rfl, rfl, rfl⟩ := h; exact Rn.aaload (n := (ksh k0 i0).2) (Prod.ext hx rfl) (ksh_n k0 i0) (hg _ (by simp)) hd k
      · cases h
    · cases h
  | iastore =>
    simp only [kst, kasti] at h
    split at h
    · rename_i k0 i0 r0
      split at h
      · rename_i hx; simp only [Option.some.injEq, Prod.mk.injEq] at h; obtain ⟨rfl, rfl, rfl, rfl⟩ := h; exact Rn.iastore (n := (ksh k0 i0).2) (Prod.ext hx rfl) (ksh_n k0 i0) (hg _ (by simp)) hd k
      · cases h
    · cases h
  | bastore =>
    simp only [kst, kastz] at h
    split at h
    · rename_i k0 i0 r0
      split at h
      · rename_i hx; simp only [Option.some.injEq, Prod.mk.injEq] at h; obtain ⟨rfl, rfl, rfl, rfl⟩ := h; exact Rn.bastore (n := (ksh k0 i0).2) (Prod.ext hx rfl) (ksh_n k0 i0) (hg _ (by simp)) (hg _ (by simp)) hd k
      · cases h
    · cases h
  | arraylength =>
    simp only [kst, kalen] at h
    split at h
    · rename_i k0 i0 r0
      split at h
      · rename_i hx; simp only [Option.some.injEq, Prod.mk.injEq] at h; obtain ⟨rfl, rfl, rfl, rfl⟩ := h; exact Rn.alen (n := (ksh k0 i0).2) (t := (ksh k0 i0).1) rfl hx hd k
      · cases h
    · cases h
  | getfield idx =>
    simp only [kst, kgetf] at h
    split at h
    · rename_i k0 j0 k1 i0 r0 hF0
      split at h
      · rename_i hx; subst hx; simp only [Option.some.injEq, Prod.mk.injEq] at h; obtain ⟨rfl, rfl, rfl, rfl⟩ := h
        obtain ⟨N, ty, h1, h2, -⟩ := hF _ _ _ hF0
        exact Rn.get h1 (h2 _) rfl hd k
      · cases h
    · cases h
  | putfield idx =>
    simp only [kst, kputf] at h
    split at h
    · rename_i k0 j0 x0 k1 i0 r0 hF0
      obtain ⟨N, ty, h1, h2, h3, h4, h5⟩ := hF _ _ _ hF0
      split at h
      · rename_i hx; subst hx
        split at h
        · rename_i hy; simp only [Option.some.injEq, Prod.mk.injEq] at h; obtain ⟨rfl, rfl, rfl, rfl⟩ := h
          obtain ⟨rfl, h6⟩ := h3 hy
          exact Rn.puti h1 h6 hy (h2 _) hd k
        · split at h
          · rename_i hy; simp only [Option.some.injEq, Prod.mk.injEq] at h; obtain ⟨rfl, rfl, rfl, rfl⟩ := h
            obtain ⟨rfl, h6⟩ := h4 hy
            exact Rn.putz (hg _ (by simp)) h1 h6 hy (h2 _) hd k
          · cases h
      · cases h
    · rename_i k0 j0 c0 k1 i0 r0 hF0
      obtain ⟨N, ty, h1, h2, h3, h4, h5⟩ := hF _ _ _ hF0
      split at h
      · rename_i hx; subst hx
        split at h
        · rename_i hy; simp only [Option.some.injEq, Prod.mk.injEq] at h; obtain ⟨rfl, rfl, rfl, rfl⟩ := h
          obtain ⟨rfl, h6⟩ := h5 hy
          exact Rn.puta (hg _ (by simp)) h1 (fun _ => ⟨rfl, rfl⟩) h6 hy (h2 _) hd k
        · cases h
      · cases h
    · cases h
  | _ => simp [kst] at h
theorem kblk_ok' {is : List Instr} {pc' : Nat} (hc : kchk M.2.1 pc is = true) (h : kblk F M.2.2.1 is pc L st σ = some (gs, pc', L', st', σ')) (hF : kFok M.1 F) (hg : ∀ g ∈ gs, g) (k : Rn l G d M Q pc' L' st' σ') : Rn l G d M Q pc L st σ := by
  induction is generalizing pc L st σ gs with
  | nil => simp only [kblk, Option.some.injEq, Prod.mk.injEq] at h; obtain ⟨-, rfl, rfl, rfl, rfl⟩ := h; exact k
  | cons i r ih =>
    simp only [kchk, Bool.and_eq_true, decide_eq_true_eq] at hc
    simp only [kblk] at h
    split at h
    · cases h
    · rename_i g1 L1 st1 σ1 h1
      split at h
      · cases h
      · rename_i gs1 z h2
        simp only [Option.some.injEq, Prod.mk.injEq] at h
        obtain ⟨rfl, rfl⟩ := h
        exact kst_ok h1 hc.1 hF (fun g hg' => hg g (List.mem_append_left _ hg')) (ih hc.2 h2 (fun g hg' => hg g (List.mem_append_right _ hg')))
theorem kblk_ok (is : List Instr) (pc' : Nat) (L' : kL) (st' : List kV) (σ' : kS) (hF : kFok M.1 F) (hc : kchk M.2.1 pc is = true) (h : kblk F M.2.2.1 is pc L st σ = some (gs, pc', L', st', σ')) (hg : kall gs) (k : Rn l G d M Q pc' L' st' σ') : Rn l G d M Q pc L st σ := kblk_ok' hc h hF (kall_mem hg) k
end KB

