/-! What the later constructors need besides. Written by wip/gen/mk_ctor3.py. -/
section CV
variable {l : Launch} {D : va_G} {t : ClassId × ClassId × ClassId} {R : Room} {M : kM} {Qw : va_W → Prop} {mc ms pc nc ns : Nat} {lv : List (Nat × Value)} {st : List Value} {ws ws' : va_W}
theorem Cn.eqw (h : ws = ws') (k : Cn l D t R M Qw mc ms pc lv st ws' nc ns) : Cn l D t R M Qw mc ms pc lv st ws nc ns := h ▸ k
theorem Cn.monoQ {Qv : va_W → Prop} (h : ∀ w, Qv w → Qw w) (k : Cn l D t R M Qv mc ms pc lv st ws nc ns) : Cn l D t R M Qw mc ms pc lv st ws nc ns := by
  intro p e s m args below meth c A C ls H locs hL hP hD hS T hT X
  obtain ⟨U, a, o, b1, b2, ⟨⟨w1, c1, c2, c3⟩, c4⟩, b4⟩ := k p e s m args below meth c A C ls H locs hL hP hD hS T hT X
  exact ⟨U, a, o, b1, b2, ⟨⟨w1, c1, h _ c2, c3⟩, c4⟩, b4⟩
end CV
def kchkI (ids : List (Nat × Nat)) : Bool := ((List.range ids.length).all fun i => (List.range ids.length).all fun j => decide (i = j) || !decide (ids[i]? = ids[j]?)) &&
  ids.all fun c => (List.range (ksh c.1 c.2).2).all fun j => (!decide (kty c.1 j = 2) || decide (krf c.1 c.2 j ∈ ids)) && (!decide (kty c.1 j = 3) || (decide ((16, 2) ∈ ids) && decide ((18, 0) ∈ ids))) && (!decide ((ksh c.1 c.2).1 = 2) || decide (krf c.1 c.2 j ∈ ids))
theorem kOK_of {D : va_G} {t : ClassId × ClassId × ClassId} {ad : Nat → Nat → Nat} {ids : List (Nat × Nat)} (h : kchkI ids = true) (hinj : ∀ c ∈ ids, ∀ d ∈ ids, ad c.1 c.2 = ad d.1 d.2 → c = d) : kOK (D, t, ad, ids) := by
  unfold kchkI at h
  rw [Bool.and_eq_true, List.all_eq_true, List.all_eq_true] at h
  obtain ⟨h1, h2⟩ := h
  have key : ∀ c ∈ ids, ∀ j, j < (ksh c.1 c.2).2 → ((kty c.1 j = 2 → krf c.1 c.2 j ∈ ids) ∧ (kty c.1 j = 3 → (16, 2) ∈ ids ∧ (18, 0) ∈ ids)) ∧ ((ksh c.1 c.2).1 = 2 → krf c.1 c.2 j ∈ ids) := by
    intro c hc j hj
    have z := List.all_eq_true.mp (h2 c hc) j (List.mem_range.mpr hj)
    simp only [Bool.and_eq_true, Bool.or_eq_true, Bool.not_eq_true', decide_eq_false_iff_not, decide_eq_true_eq] at z
    exact ⟨⟨fun e => z.1.1.resolve_left (fun q => q e), fun e => z.1.2.resolve_left (fun q => q e)⟩, fun e => z.2.resolve_left (fun q => q e)⟩
  refine ⟨fun i j c hi hj => ?_, hinj, fun c hc j hj hk => (key c hc j hj).1.1 hk, fun c hc j v hj hk => ?_, fun c hc hk j hj => (key c hc j hj).2 hk⟩
  · have hi' : ids[i]? = some c := hi
    have hj' : ids[j]? = some c := hj
    have z := List.all_eq_true.mp (h1 i (List.mem_range.mpr (List.getElem?_eq_some_iff.mp hi').1)) j (List.mem_range.mpr (List.getElem?_eq_some_iff.mp hj').1)
    simp only [Bool.or_eq_true, Bool.not_eq_true', decide_eq_false_iff_not, decide_eq_true_eq] at z
    rcases z with z | z
    · exact z
    · exact absurd (hi'.trans hj'.symm) z
  · have z := (key c hc j hj).1.2 hk
    show kdy v ∈ ids
    unfold kdy
    split
    · exact z.1
    · exact z.2
theorem kOK0 (D : va_G) (t : ClassId × ClassId × ClassId) (ad : Nat → Nat → Nat) : kOK (D, t, ad, []) := kOK_of rfl (fun c h => absurd h List.not_mem_nil)
theorem kOK1 (D : va_G) (t : ClassId × ClassId × ClassId) (ad : Nat → Nat → Nat) : kOK (D, t, ad, [(15, 0)]) := kOK_of (by decide +kernel) (fun c hc d hd _ => by rw [List.mem_singleton.mp hc, List.mem_singleton.mp hd])
/-- the width that is taken -/
def kwid0 (x : Int) : Int := if 5 ≤ x ∧ x ≤ 20 then x else 10
theorem P_isWidth {x : Int} (hx : -2147483648 ≤ x ∧ x < 2147483648) (σ : kS) : f_Ks_isWidth x σ = some (some (if 5 ≤ x ∧ x ≤ 20 then 1 else 0), σ) := by
  unfold f_Ks_isWidth fb_Ks_isWidth_0 fb_Ks_isWidth_5 fb_Ks_isWidth_15 fb_Ks_isWidth_11 fb_Ks_isWidth_16
  rw [kg_pos hx]
  by_cases h1 : x < 5
  · rw [if_pos h1, kg_pos (Or.inl rfl), if_neg (by omega)]
  · rw [if_neg h1, kg_pos hx]
    by_cases h2 : 20 < x
    · rw [if_pos h2, kg_pos (Or.inl rfl), if_neg (by omega)]
    · rw [if_neg h2, kg_pos (Or.inr rfl), if_pos (by omega)]
theorem L_blank : ∀ (m n : Nat) (k : Int) (σ : kS), 0 ≤ k → k + m = 100 → m < n → fl_Rm_blank_2 n k σ = some (none, fun a b c => if a = 36 ∧ b = 0 ∧ k.toNat ≤ c ∧ c < 100 then 32 else σ a b c) := by
  intro m
  induction m with
  | zero =>
    intro n k σ h0 h1 h2
    obtain ⟨n, rfl⟩ : ∃ n', n = n' + 1 := ⟨n - 1, by omega⟩
    simp only [fl_Rm_blank_2, fb_Rm_blank_2, fb_Rm_blank_22]
    rw [kg_pos (by omega), if_pos (by omega)]
    congr 2
    funext a b c
    rw [if_neg]
    omega
  | succ m ih =>
    intro n k σ h0 h1 h2
    obtain ⟨n, rfl⟩ : ∃ n', n = n' + 1 := ⟨n - 1, by omega⟩
    simp only [fl_Rm_blank_2, fb_Rm_blank_2, fb_Rm_blank_8]
    rw [kg_pos (by omega), if_neg (by omega), kg_pos (by omega), ih n (k + 1) _ (by omega) (by omega) (by omega)]
    congr 2
    funext a b c
    simp only [kup]
    by_cases h : a = 36 ∧ b = 0 ∧ k.toNat ≤ c ∧ c < 100
    · rw [if_pos h]
      by_cases hc : c = k.toNat
      · rw [if_neg (by omega), if_pos ⟨h.1, h.2.1, hc⟩]
      · rw [if_pos (by omega)]
    · rw [if_neg h, if_neg (by omega), if_neg (by omega)]
theorem P_blank (σ : kS) : f_Rm_blank σ = some (none, fun a b c => if a = 36 ∧ b = 0 ∧ c < 100 then 32 else σ a b c) := by
  unfold f_Rm_blank fb_Rm_blank_0
  rw [L_blank 100 3000 0 σ (by omega) (by omega) (by omega)]
  simp

