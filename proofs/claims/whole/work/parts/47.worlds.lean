/-! The law's entry. Written by wip/gen/mk_start.py. -/
def kCid : List (Nat × Nat) := [(0, 0), (2, 0), (10, 0), (11, 0), (2, 1), (10, 1), (11, 1), (2, 2), (10, 2), (11, 2), (2, 3), (10, 3), (11, 3), (3, 0), (2, 4), (10, 4), (11, 4), (2, 5), (10, 5), (11, 5), (12, 0), (13, 0), (14, 0), (2, 6), (10, 6), (11, 6), (2, 7), (10, 7), (11, 7), (2, 8), (10, 8), (11, 8), (4, 0), (15, 1), (15, 0), (7, 0), (8, 0), (17, 0), (8, 1), (17, 1), (18, 0), (5, 0), (1, 0), (6, 0), (16, 0), (6, 1), (16, 1), (6, 2), (16, 2)]
def adC (h0 : Nat) (u : Nat → Nat) : Nat → Nat → Nat := fun k i => match k with
  | 0 => h0
  | 1 => u 41
  | 2 => ([u 0, u 3, u 6, u 9, u 13, u 16, u 22, u 25, u 28] : List Nat).getD i 0
  | 3 => u 12
  | 4 => u 31
  | 5 => u 40
  | 6 => ([u 42, u 44, u 46] : List Nat).getD i 0
  | 7 => u 34
  | 8 => ([u 35, u 37] : List Nat).getD i 0
  | 10 => ([u 1, u 4, u 7, u 10, u 14, u 17, u 23, u 26, u 29] : List Nat).getD i 0
  | 11 => ([u 2, u 5, u 8, u 11, u 15, u 18, u 24, u 27, u 30] : List Nat).getD i 0
  | 12 => u 19
  | 13 => u 20
  | 14 => u 21
  | 15 => ([u 33, u 32] : List Nat).getD i 0
  | 16 => ([u 43, u 45, u 47] : List Nat).getD i 0
  | 17 => ([u 36, u 38] : List Nat).getD i 0
  | 18 => u 39
  | _ => 0
/-- the class's state when it is new, with the width v -/
def sgC (v : Int) : kS := fun a b c => if a = 15 ∧ b = 0 ∧ c < 100 then 32 else kup (kup (kup (fun _ _ _ => 0) 2 0 2 1) 1 0 4 (-1)) 4 0 2 v a b c
def kAid : List (Nat × Nat) := kCid ++ kRid
def adA (b h0 h1 : Nat) (u1 u2 : Nat → Nat) : Nat → Nat → Nat := fun k i => if k = 99 then b else if k = 9 ∨ 20 ≤ k then adR h1 u2 k i else adC h0 u1 k i
def sgA (v : Int) : kS := fun a b c => if a = 9 ∨ 20 ≤ a then sgR v a b c else sgC v a b c
theorem c_cong {D : va_G} {ws : va_W} {H : Heap} {k a n : Nat} {cA : ClassId} {f g : Nat → Option Nat} (hP : va_P D vwCl ws H) (hk : ws[k]? = some (a, .inl (cA, n, .inr (.inr (.inr (.inr f)))))) (hfg : ∀ j, j < n → f j = g j) : va_P D vwCl (ws.set k (a, .inl (cA, n, .inr (.inr (.inr (.inr g)))))) H := by
  intro i q hi
  rw [List.getElem?_set] at hi
  by_cases e : k = i
  · subst e
    rw [if_pos rfl, if_pos (List.getElem?_eq_some_iff.mp hk).1] at hi
    cases hi
    have z : H[a]? = some (vp_cell cA (n, .inr (.inr (.inr (.inr f))))) := hP k _ hk
    show H[a]? = some (vp_cell cA (n, .inr (.inr (.inr (.inr g)))))
    rw [z, vp_cell_q, vp_cell_q]
    unfold arrV
    congr 3
    funext j
    show va_rf (f j.val) = va_rf (g j.val)
    rw [hfg j.val j.isLt]
  · rw [if_neg e] at hi
    exact hP i q hi
theorem va_D.addr {A : Nat → Prop} {ws ws' : va_W} (h : va_D A ws) (e : ws.map Prod.fst = ws'.map Prod.fst) : va_D A ws' := by
  have key : ∀ (k : Nat) (q : Nat × va_E), ws'[k]? = some q → ∃ r, ws[k]? = some r ∧ r.1 = q.1 := by
    intro k q hk
    have h1 : (ws'.map Prod.fst)[k]? = some q.1 := by rw [List.getElem?_map, hk]; rfl
    rw [← e, List.getElem?_map] at h1
    cases hr : ws[k]? with
    | none => rw [hr] at h1; cases h1
    | some r => rw [hr] at h1; exact ⟨r, rfl, Option.some.inj h1⟩
  refine ⟨fun i j p q hp hq hpq => ?_, fun k q hk => ?_⟩
  · obtain ⟨r1, a1, b1⟩ := key i p hp
    obtain ⟨r2, a2, b2⟩ := key j q hq
    exact h.1 i j r1 r2 a1 a2 (by rw [b1, b2, hpq])
  · obtain ⟨r, a1, b1⟩ := key k q hk
    rw [← b1]
    exact h.2 k r a1
set_option maxRecDepth 100000 in
set_option maxHeartbeats 4000000 in
theorem kwA_R (D : va_G) (t : ClassId × ClassId × ClassId) (b h0 h1 : Nat) (u1 u2 : Nat → Nat) (v : Int) : (kRid.map fun c => (kad (D, t, adA b h0 h1 u1 u2, kAid) c, kE (D, t, adA b h0 h1 u1 u2, kAid) (sgA v) c)) = kw (D, t, adR h1 u2, kRid) (sgR v) := by
  apply List.map_congr_left
  intro c hc
  simp only [kRid, List.mem_cons, List.not_mem_nil, or_false] at hc
  rcases hc with rfl | rfl | rfl | rfl | rfl | rfl | rfl | rfl | rfl | rfl | rfl | rfl | rfl | rfl | rfl | rfl | rfl | rfl | rfl <;> rfl
set_option maxRecDepth 100000 in
set_option maxHeartbeats 4000000 in
theorem kwA_C (D : va_G) (t : ClassId × ClassId × ClassId) (b h0 h1 : Nat) (u1 u2 : Nat → Nat) (v : Int) : (W_Ks_init t h0 v u1).set 20 (u1 19, .inl (t.2.2, 3, .inr (.inr (.inr (.inr fun j => some (adA b h0 h1 u1 u2 2 (6 + j))))))) = kCid.map fun c => (kad (D, t, adA b h0 h1 u1 u2, kAid) c, kE (D, t, adA b h0 h1 u1 u2, kAid) (sgA v) c) := rfl
set_option maxRecDepth 100000 in
theorem kwA_P {D : va_G} {t : ClassId × ClassId × ClassId} {b h0 h1 : Nat} {u1 u2 : Nat → Nat} {v : Int} {H : Heap} (hP : va_P D vwCl (W_Ks_init t h0 v u1 ++ kw (D, t, adR h1 u2, kRid) (sgR v)) H) : va_P D vwCl (kw (D, t, adA b h0 h1 u1 u2, kAid) (sgA v)) H := by
  have e : kw (D, t, adA b h0 h1 u1 u2, kAid) (sgA v) = (W_Ks_init t h0 v u1).set 20 (u1 19, .inl (t.2.2, 3, .inr (.inr (.inr (.inr fun j => some (adA b h0 h1 u1 u2 2 (6 + j))))))) ++ kw (D, t, adR h1 u2, kRid) (sgR v) := by
    rw [kwA_C D t b h0 h1 u1 u2 v, ← kwA_R D t b h0 h1 u1 u2 v]
    exact List.map_append
  rw [e]
  refine va_P.app (c_cong (k := 20) (fun k q hk => hP k q (by rw [List.getElem?_append_left (List.getElem?_eq_some_iff.mp hk).1]; exact hk)) rfl (fun j hj => ?_)) (fun k q hk => hP ((W_Ks_init t h0 v u1).length + k) q (by rw [List.getElem?_append_right (by omega), Nat.add_sub_cancel_left]; exact hk))
  rcases (show j = 0 ∨ j = 1 ∨ j = 2 by omega) with rfl | rfl | rfl <;> rfl
set_option maxRecDepth 100000 in
theorem kwA_D {A : Nat → Prop} {D : va_G} {t : ClassId × ClassId × ClassId} {b h0 h1 : Nat} {u1 u2 : Nat → Nat} {v : Int} (h : va_D A (W_Ks_init t h0 v u1 ++ kw (D, t, adR h1 u2, kRid) (sgR v))) : va_D A (kw (D, t, adA b h0 h1 u1 u2, kAid) (sgA v)) := h.addr rfl
theorem kA_chk : kchkI kAid = true := by decide +kernel
