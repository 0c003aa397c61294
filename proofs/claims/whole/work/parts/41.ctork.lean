/-! Constructors that call methods: the methods' cells are some of the world's. Written by wip/gen/mk_ctor2.py. -/
section CK
variable {l : Launch} {D : va_G} {t : ClassId × ClassId × ClassId} {R : Room} {M : kM} {Qw : va_W → Prop} {mc ms pc nc ns : Nat} {lv : List (Nat × Value)} {st : List Value} {ws : va_W} {ad : Nat → Nat → Nat} {ids : List (Nat × Nat)} {σ : kS}
theorem kA_in {q H : Nat} (h : kA (D, t, ad, ids) q) : va_A (kw (D, t, ad, ids) σ) H q := by
  obtain ⟨c, hc, rfl⟩ := h
  obtain ⟨k, -, hk⟩ := kw_at (G := (D, t, ad, ids)) hc
  exact Or.inl ⟨k, _, hk σ⟩
theorem Cn.ofRunK {p : Program} {e : Env} {s : State} {m : MethodId} {args : Array Value} {below : List Frame} {meth : Method} {c : Code} {A : Nat → Prop} {ls : Array Slot} {H : Heap} {locs : List Loc} {st0 : List Value} {a : Array Value} {wr : va_W} {Q1 : Option Int → kS → Prop} {isC isR : List Nat}
    (C : cC D t M p s m args meth c A) (hok : kOK (D, t, ad, ids)) (hL : lv_has ls M.2.2.1 lv) (hP : va_P D vwCl ws H) (hD : va_D A ws) (hS : va_S A s.heap H locs) (hC : isC.map (fun i => ws[i]?) = (kw (D, t, ad, ids) σ).map some) (hR : isR.map (fun i => ws[i]?) = wr.map some) (hn : va_nd isR = true) (hdis : ∀ i ∈ isR, i ∉ isC)
    (hr : va_Run p l e R s m args below meth c H locs nc ns 0 0 (F0 m pc ls st0) st (kQ (D, t, ad, ids) Q1 a) (kA (D, t, ad, ids)))
    (kk : ∀ (r : Option Int) (σ' : kS), Q1 r σ' → Cn l D t R M Qw mc ms (pc + 3) lv ((r.map kri).toList ++ st) (wr ++ kw (D, t, ad, ids) σ') nc ns) : W p l e R s m args below meth c H locs nc ns (MQ below (cQ D t A Qw) args s mc ms A) (F0 m pc ls st0) := by
  have hF := va_free (wc := kw (D, t, ad, ids) σ) hD hS C.2.2.2.2.2.2 isC hC
  intro T hT X
  obtain ⟨v, st₀, U, T', Lc, h0, X', hLc, e1, e2, ⟨⟨r, σ', hv, hq, hP1, hK1⟩, hz, hk⟩, stp⟩ := hr T hT X
  rw [h0] at hz hk
  have hv' : v = r.map kri := by cases hv; rfl
  subst hv'
  rw [← e1] at hz hP1
  have hk' : ∀ q : Nat, q < H.size → ¬ va_A (kw (D, t, ad, ids) σ) H.size q → T'.heap[q]? = H[q]? := fun q h1 h2 => by rw [e1]; exact hk q h1 (fun z => h2 (kA_in z))
  obtain ⟨hPj, hDj⟩ := va_join (wr := wr) (w1 := kw (D, t, ad, ids) σ') hP hD isC isR hC hR hn hdis hk' hF hP1 ((kD hok σ').weaken (fun _ _ _ h => kA_in h))
  have hS' : va_S A s.heap T'.heap (locs ++ Lc) := ⟨Nat.le_trans hS.1 hz, fun q h1 h2 => by rw [hk' q (Nat.lt_of_lt_of_le h1 hS.1) (fun z => h2 (hF q z))]; exact hS.2.1 q h1 h2, fun q hq => by
      rcases List.mem_append.mp hq with h | h
      · exact hS.2.2 q h
      · exact hF _ (kA_in (hLc q h))⟩
  obtain ⟨t2, a1, b1⟩ := kk r σ' hq p e s m args below meth c A C ls T'.heap (locs ++ Lc) hL hPj hDj hS' T' rfl X'
  exact ⟨t2, stp t2 a1, b1⟩
theorem Cn.kcallS {idx n : Nat} {d' : Nat × Nat} {y : MethodName} {M' : kM} (As : List kV) {wr : va_W} {Q1 : Option Int → kS → Prop} (isC isR : List Nat) (hok : kOK (D, t, ad, ids)) (has : ∀ v ∈ As, kOkV (D, t, ad, ids) v) (hc : Call l (D, t, ad, ids) d' y M' As σ Q1) (hw : kCS M.1 idx y M' n) (hlen : As.length = n)
    (hC : isC.map (fun i => ws[i]?) = (kw (D, t, ad, ids) σ).map some) (hR : isR.map (fun i => ws[i]?) = wr.map some) (hn : va_nd isR = true) (hdis : ∀ i ∈ isR, i ∉ isC) (hdd : d'.1 + 1 ≤ R.frames ∧ 8 + (M'.2.2.1 + 11) + d'.2 ≤ R.locals) (hst : (st.map fun v => v.category).sum ≤ 8) (hf : nc ≤ R.cells ∧ ns ≤ R.slots) (hd : decode M.2.1 pc = .ok (.invokestatic idx, 3))
    (kk : ∀ (r : Option Int) (σ' : kS), Q1 r σ' → Cn l D t R M Qw mc ms (pc + 3) lv ((r.map kri).toList ++ st) (wr ++ kw (D, t, ad, ids) σ') nc ns) : Cn l D t R M Qw mc ms pc lv ((As.map (kv (D, t, ad, ids))).reverse ++ st) ws nc ns := by
  intro p e s m args below meth c A C ls H locs hL hP hD hS
  obtain ⟨⟨h1, h2, h3, h5⟩, h6⟩ := hw
  refine Cn.ofRunK (Q1 := Q1) C hok hL hP hD hS hC hR hn hdis (va_runS (As := As.map (kv (D, t, ad, ids))) (rest := st) C.1 (hc hok has) (va_cwS n C.1.2.2.2.2 (k_good (extra := [.methodLink M.1 idx y, .static y, .initialized y.cls]) h1 ?_) rfl rfl rfl h6 hdd) ⟨fun a U g mk h => k_pre g mk a h, fun U hU hW => ⟨rfl, by rw [hU]; exact c_sub hP hC, va_K.moved hW.alike C.2.1⟩⟩ rfl (by rw [List.length_map]; exact hlen) hL.1 rfl (lv_room hst) hd hf) kk
  intro w h
  simp only [List.mem_cons, List.not_mem_nil, or_false] at h
  rcases h with rfl | rfl | rfl <;> assumption
theorem Cn.kcallV {idx n k i : Nat} {d' : Nat × Nat} {y : MethodName} {M' : kM} (As : List kV) {wr : va_W} {Q1 : Option Int → kS → Prop} (isC isR : List Nat) (hok : kOK (D, t, ad, ids)) (hi : (k, i) ∈ ids) (has : ∀ v ∈ As, kOkV (D, t, ad, ids) v) (hc : Call l (D, t, ad, ids) d' y M' (.inr (k, i) :: As) σ Q1) (hw : kCV M.1 idx y M' k n) (hlen : As.length = n)
    (hC : isC.map (fun i => ws[i]?) = (kw (D, t, ad, ids) σ).map some) (hR : isR.map (fun i => ws[i]?) = wr.map some) (hn : va_nd isR = true) (hdis : ∀ i ∈ isR, i ∉ isC) (hdd : d'.1 + 1 ≤ R.frames ∧ 8 + (M'.2.2.1 + 11) + d'.2 ≤ R.locals) (hst : (st.map fun v => v.category).sum ≤ 8) (hf : nc ≤ R.cells ∧ ns ≤ R.slots) (hd : decode M.2.1 pc = .ok (.invokevirtual idx, 3))
    (kk : ∀ (r : Option Int) (σ' : kS), Q1 r σ' → Cn l D t R M Qw mc ms (pc + 3) lv ((r.map kri).toList ++ st) (wr ++ kw (D, t, ad, ids) σ') nc ns) : Cn l D t R M Qw mc ms pc lv ((As.map (kv (D, t, ad, ids))).reverse ++ .ref (ad k i) :: st) ws nc ns := by
  intro p e s m args below meth c A C ls H locs hL hP hD hS
  obtain ⟨⟨h1, h2, h3, h4, h5⟩, h6, ⟨T, N, h7, h8⟩⟩ := hw
  obtain ⟨q, hq, hwq⟩ := kw_at (G := (D, t, ad, ids)) hi
  have he := hwq σ
  rw [kE_o (h8 i)] at he
  have hPs := c_sub hP hC
  refine Cn.ofRunK (Q1 := Q1) C hok hL hP hD hS hC hR hn hdis (va_runV (C := y.cls) (b := ad k i) (As := As.map (kv (D, t, ad, ids))) (rest := st) C.1 (hc hok (kokR hi has)) (cwV n C.1.2.2.2.2 (k_good (extra := [.methodLink M.1 idx y, .instanceMethod y, .selects y.cls y y, .initialized y.cls]) h1 ?_) rfl rfl rfl ⟨rfl, h6⟩ hdd) ⟨fun a U g mk h => k_pre g mk a h, va_recv C.2.1 hPs h7 he, fun U hU hW => ⟨by simp [kv], by rw [hU]; exact hPs, va_K.moved hW.alike C.2.1⟩⟩ rfl (by rw [List.length_map]; exact hlen) hL.1 rfl (lv_room hst) hd hf) kk
  intro w h
  simp only [List.mem_cons, List.not_mem_nil, or_false] at h
  rcases h with rfl | rfl | rfl | rfl <;> assumption
end CK
/-- Arrays.fill over a whole array -/
theorem L_fill2 (x : Int) (t : Nat) : ∀ (m n : Nat) (k : Int) (σ : kS), 0 ≤ k → k + m = 100 → m < n → fl_Ar_fill2_5 n x k 100 t σ = some (none, fun a b c => if a = 15 ∧ b = t ∧ k.toNat ≤ c ∧ c < 100 then x else σ a b c) := by
  intro m
  induction m with
  | zero =>
    intro n k σ h0 h1 h2
    obtain ⟨n, rfl⟩ : ∃ n', n = n' + 1 := ⟨n - 1, by omega⟩
    simp only [fl_Ar_fill2_5, fb_Ar_fill2_5, fb_Ar_fill2_20]
    rw [kg_pos (by omega), if_pos (by omega)]
    congr 2
    funext a b c
    rw [if_neg]
    omega
  | succ m ih =>
    intro n k σ h0 h1 h2
    obtain ⟨n, rfl⟩ : ∃ n', n = n' + 1 := ⟨n - 1, by omega⟩
    simp only [fl_Ar_fill2_5, fb_Ar_fill2_5, fb_Ar_fill2_10]
    rw [kg_pos (by omega), if_neg (by omega), kg_pos (by omega), ih n (k + 1) _ (by omega) (by omega) (by omega)]
    congr 2
    funext a b c
    simp only [kup]
    by_cases h : a = 15 ∧ b = t ∧ k.toNat ≤ c ∧ c < 100
    · rw [if_pos h]
      by_cases hc : c = k.toNat
      · rw [if_neg (by omega), if_pos ⟨h.1, h.2.1, hc⟩]
      · rw [if_pos (by omega)]
    · rw [if_neg h, if_neg (by omega), if_neg (by omega)]
theorem P_fill2 (x : Int) (t : Nat) (σ : kS) : f_Ar_fill2 x t σ = some (none, fun a b c => if a = 15 ∧ b = t ∧ c < 100 then x else σ a b c) := by
  unfold f_Ar_fill2 fb_Ar_fill2_0
  rw [L_fill2 x t 100 3000 0 σ (by omega) (by omega) (by omega)]
  simp

