theorem e_hairOf {h : AH} (b l : Nat) (x : Int) (hb : b < 8) (hl : l < 40) (hx : hia h 198 b = w32 x) : f_X12_hairOf (w32 b) (w32 l) h = some (w32 (if l % 2 = 1 then x else 0)) := by
  unfold f_X12_hairOf
  simp (disch := omega) only [wl_2, wl_1, wl_0, w_divP, w_mul, w_sub, w_eq, w_ibN, w_clN, hx, gd_t hb]
  by_cases hp : l % 2 = 1
  · rw [if_pos (by omega), if_pos hp]
  · rw [if_neg (by omega), if_neg hp]
theorem e_bareLow {h : AH} (b l : Nat) (x y z : Int) (hb : b < 8) (hl : l < 40) (hx : hia h 198 b = w32 x) (hy : hia h 208 (40 * b + l) = w32 y) (hz : hia h 205 (40 * b + l) = w32 z) (h1 : 0 ≤ x ∧ x ≤ 100) (h2 : -1 ≤ y ∧ y ≤ 2000000) (h3 : 0 ≤ z ∧ z ≤ 200) : f_X12_bareLow (w32 b) (w32 l) h = some (w32 (max 0 (y - z - (if l % 2 = 1 then x else 0)))) := by
  unfold f_X12_bareLow
  simp (disch := (try split) <;> omega) only [e_at, w_ibN, w_clN, gd_t, e_hairOf b l x hb hl hx, bnd_s, hy, hz, w_sub, wl_0, e_max]
