/-! Pure: every call answers alike. -/
theorem main_pure : ∃ J : Nat → kS → Prop, (∀ v : Int, 5 ≤ v → v ≤ 20 → J 0 (sgA v)) ∧ ∀ n σ, n < 512 → J n σ → kStep (J (n + 1)) σ :=
  ⟨J, fun _ h1 h2 => J_init h1 h2, fun _ _ _ h => ⟨st_key h, st_resize h, st_sync h, st_crash h, st_mode h, st_lines h, st_length h, fun x y hx hy => st_letter h x y hx hy, st_cursor h, st_buffer h, fun x y hx hy => st_held h x y hx hy, st_file h, fun x y hx hy => st_stored h x y hx hy, fun x y hx hy => st_cell h x y hx hy, st_top h, st_sent h⟩⟩
