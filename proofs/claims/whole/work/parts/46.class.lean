/-! the class's own reading of a book -/
def adOK (B g r : Nat) : Prop := (B = 6 ∨ (67 ≤ B ∧ B ≤ 157)) ∧ (g = B + 7 ∨ g = B + 10 ∨ g = 63) ∧ (r = 5 ∨ r = 27)
def CK (h : AH) (B g r : Nat) (β : BV) (γ : GV) (a : LV) : Prop := BC h B β ∧ GC h g (vL β) γ ∧ LC h r a ∧ okB β ∧ okG (vL β) γ ∧ okL a
theorem BC.fr {W : Nat → Prop} {h h' : AH} {B : Nat} {β : BV} (hB : BC h B β) (hF : Fr W h h') (hd : ∀ c, B ≤ c → c ≤ B + 17 → ¬ W c) : BC h' B β := by
  obtain ⟨e1, e2, e3, e4, e5, e6, e7, e8⟩ := hB
  have f0 := (hF B (hd B (by omega) (by omega))).1
  have fi : ∀ k, k ≤ 17 → hia h' (B + k) = hia h (B + k) := fun k hk => (hF (B + k) (hd _ (by omega) (by omega))).2.2.1
  refine ⟨by rw [f0]; exact e1, by rw [f0]; exact e2, by rw [f0]; exact e3, by rw [f0]; exact e4, by rw [f0]; exact e5, fun l hl => ?_, fun w hw => ?_, fun r hr => ?_⟩
  · rw [fi 1 (by omega), fi 2 (by omega), fi 3 (by omega), fi 4 (by omega), fi 5 (by omega), fi 6 (by omega)]; exact e6 l hl
  · rw [fi 13 (by omega), fi 14 (by omega)]; exact e7 w hw
  · rw [fi 15 (by omega), fi 16 (by omega), fi 17 (by omega)]; exact e8 r hr
theorem GC.fr {W : Nat → Prop} {h h' : AH} {g n : Nat} {γ : GV} (hG : GC h g n γ) (hF : Fr W h h') (h1 : ¬ W (g + 1)) (h2 : ¬ W (g + 2)) : GC h' g n γ := by
  intro l hl
  rw [(hF _ h1).2.2.1, (hF _ h2).2.2.1]
  exact hG l hl
theorem LC.fr {W : Nat → Prop} {h h' : AH} {r : Nat} {a : LV} (hL : LC h r a) (hF : Fr W h h') (h1 : ¬ W r) : LC h' r a := by
  unfold LC
  rw [(hF _ h1).1]
  exact hL
theorem CK.fr {W : Nat → Prop} {h h' : AH} {B g r : Nat} {β : BV} {γ : GV} {a : LV} (hC : CK h B g r β γ a) (hF : Fr W h h') (hd : ∀ c, B ≤ c → c ≤ B + 17 → ¬ W c) (h1 : ¬ W (g + 1)) (h2 : ¬ W (g + 2)) (h3 : ¬ W r) : CK h' B g r β γ a :=
  ⟨hC.1.fr hF hd, hC.2.1.fr hF h1 h2, hC.2.2.1.fr hF h3, hC.2.2.2⟩
theorem e_fdL (a b : Int) (h1 : -9000000000000000000 ≤ a) (h2 : a ≤ 9000000000000000000) (h3 : 1 ≤ b) (h4 : b ≤ 9223372036854775807) : f_J9_floorDiv_f86c9 (w64 a) (w64 b) = some (w64 (a / b)) := by
  unfold f_J9_floorDiv_f86c9
  rw [gd_t (by rw [vl_0, v_eq _ _ (by omega) (by omega) (by omega) (by omega)]; omega)]
  have hx := xor64 (w64 a) (w64 b)
  rw [w64_toInt a (by omega) (by omega), w64_toInt b (by omega) h4, ← lg_cmp_ge] at hx
  have hq := tdiv_floor a b h3
  have e := Int.tdiv_mul_add_tmod a b
  have hm2 : -9223372036854775808 ≤ a.tdiv b * b ∧ a.tdiv b * b ≤ 9223372036854775807 := by
    by_cases h : 0 ≤ a
    · have h6 := Int.tmod_nonneg b h
      have h7 : 0 ≤ a.tdiv b * b := Int.mul_nonneg (Int.tdiv_nonneg h (by omega)) (by omega)
      omega
    · have h6 : a.tmod b ≤ 0 := by
        have : a.tmod b = -((-a).tmod b) := by rw [show a = -(-a) by omega, Int.neg_tmod, Int.neg_neg]
        have := Int.tmod_nonneg b (show 0 ≤ -a by omega)
        omega
      have h7 : a.tdiv b * b ≤ 0 := by
        have : a.tdiv b = -((-a).tdiv b) := by rw [show a = -(-a) by omega, Int.neg_tdiv, Int.neg_neg]
        rw [this, Int.neg_mul]
        have := Int.mul_nonneg (Int.tdiv_nonneg (show 0 ≤ -a by omega) (show 0 ≤ b by omega)) (show 0 ≤ b by omega)
        omega
      omega
  simp (disch := omega) only [v_div, v_mul, c_eq, vl_1, v_sub]
  by_cases h : 0 ≤ a
  · rw [if_pos (hx.mpr (by omega)), hq, if_neg (by omega)]
  · rw [if_neg (fun q => absurd (hx.mp q) (by omega)), hq]
    by_cases h5 : a.tdiv b * b = a
    · rw [if_pos h5, if_neg (by omega)]
    · rw [if_neg h5, if_pos ⟨by omega, h5⟩]
theorem e_cutDown (a b : Int) (h1 : -2000000000 ≤ a) (h2 : a ≤ 2000000000) (h3 : 1 ≤ b) (h4 : b ≤ 2147483647) : f_X11_cutDown (w64 a) (w64 b) = some (w32 (a / b)) := by
  unfold f_X11_cutDown
  simp (disch := omega) only [vl_1, c_ge]
  rw [if_pos h3, e_fdL _ _ (by omega) (by omega) h3 (by omega), bnd_s]
  have r : -2000000000 ≤ a / b ∧ a / b ≤ 2000000000 := by
    constructor
    · exact Int.le_ediv_of_mul_le (by omega) (by have : (-2000000000 : Int) * b ≤ -2000000000 * 1 := Int.mul_le_mul_of_nonpos_left (by omega) (by omega)
                                                 omega)
    · have : a / b < 2000000001 := Int.ediv_lt_of_lt_mul (by omega) (by have : (2000000001 : Int) * 1 ≤ 2000000001 * b := Int.mul_le_mul_of_nonneg_left (by omega) (by omega)
                                                                        omega)
      omega
  rw [v_i _ (by omega) (by omega)]
theorem ceil_eq (a b : Int) (hb : 1 ≤ b) : -((-a) / b) = (a + b - 1) / b := by
  symm
  rw [Int.ediv_eq_iff_of_pos (by omega)]
  have h2 := Int.mul_ediv_add_emod (-a) b
  have h3 := Int.emod_nonneg (-a) (show b ≠ 0 by omega)
  have h4 := Int.emod_lt_of_pos (-a) (show 0 < b by omega)
  have h5 : -(-a / b) * b = -(b * (-a / b)) := by rw [Int.neg_mul, Int.mul_comm]
  have h6 : b * (-(-a / b) + 1) = -(b * (-a / b)) + b := by rw [Int.mul_add, Int.mul_neg]; omega
  constructor <;> omega
theorem e_cutUp (a b : Int) (h1 : -2000000000 ≤ a) (h2 : a ≤ 2000000000) (h3 : 1 ≤ b) (h4 : b ≤ 2147483647) : f_X11_cutUp (w64 a) (w64 b) = some (w32 ((a + b - 1) / b)) := by
  unfold f_X11_cutUp
  simp (disch := omega) only [vl_1, c_ge, v_neg]
  rw [if_pos h3, e_fdL _ _ (by omega) (by omega) h3 (by omega), bnd_s, v_neg, ceil_eq a b h3]
  have r : -2000000000 ≤ -((-a) / b) ∧ -((-a) / b) ≤ 2000000000 := by
    have : -2000000000 ≤ (-a) / b := Int.le_ediv_of_mul_le (by omega) (by have : (-2000000000 : Int) * b ≤ -2000000000 * 1 := Int.mul_le_mul_of_nonpos_left (by omega) (by omega)
                                                                          omega)
    have : (-a) / b < 2000000001 := Int.ediv_lt_of_lt_mul (by omega) (by have : (2000000001 : Int) * 1 ≤ 2000000001 * b := Int.mul_le_mul_of_nonneg_left (by omega) (by omega)
                                                                         omega)
    omega
  rw [ceil_eq a b h3] at r
  rw [v_i _ (by omega) (by omega)]
section CLS
variable {h : AH} {B g r : Nat} {β : BV} {γ : GV} {a : LV} {l : Nat}
theorem k_bare (hB : BC h B β) (oB : okB β) (hl : l < vL β) : f_X0_bare B (w32 l) h = some (w32 (sBare β l)) := by
  have hl4 : l < 40 := Nat.lt_of_lt_of_le hl oB.1
  obtain ⟨-, -, -, e4, -, -⟩ := hB.2.2.2.2.2.1 l hl
  have e3 := hB.2.2.1
  unfold f_X0_bare
  simp (disch := omega) only [w_ibN, gd_t, w_clN, e4, e3, wl_2, wl_1, wl_0, w_divP, w_mul, w_sub, w_eq, w_add]
  unfold sBare
  by_cases hp : l % 2 = 1
  · rw [if_pos (by omega), if_pos hp]
  · rw [if_neg (by omega), if_neg hp]
theorem k_bareLow (hC : CK h B g r β γ a) (hl : l < vL β) (hr : rd γ l) : f_X0_bareLow B g (w32 l) h = some (w32 (sBL β γ l)) := by
  obtain ⟨hB, hG, -, oB, oG, -⟩ := hC
  have hl4 : l < 40 := Nat.lt_of_lt_of_le hl oB.1
  have e5 := (hG l hl).1
  have r1 := okG_rd oG hl hr
  have r2 := sBare_rg oB hl
  unfold f_X0_bareLow
  simp (disch := omega) only [w_ibN, gd_t, w_clN, k_bare hB oB hl, bnd_s, e5, w_sub, wl_0, e_max]
  rfl
theorem k_bareHigh (hC : CK h B g r β γ a) (hl : l < vL β) (hr : rd γ l) : f_X0_bareHigh B g (w32 l) h = some (w32 (sBH β γ l)) := by
  obtain ⟨hB, hG, -, oB, oG, -⟩ := hC
  have hl4 : l < 40 := Nat.lt_of_lt_of_le hl oB.1
  have e5 := (hG l hl).2 hr
  have r1 := okG_rd oG hl hr
  have r2 := sBare_rg oB hl
  unfold f_X0_bareHigh
  simp (disch := omega) only [w_ibN, gd_t, w_clN, k_bare hB oB hl, bnd_s, e5, w_sub, wl_0, e_max]
  rfl
theorem k_through (hL : LC h r a) (oL : okL a) {v : Int} (h1 : 0 ≤ v) (h2 : v ≤ 2000000000) : f_X5_through r (w32 v) h = some (w32 (sTh a v)) := by
  have e1 := hL.2.1
  have rr := sTh_rg oL h1
  have r2 := mul_rg h1 h2 (show (0 : Int) ≤ (lg a : Int) by omega) (show (lg a : Int) ≤ 90 by have := oL.2.2.1; omega)
  have r3 := oL.2.2.1
  unfold f_X5_through
  rw [e1]
  simp (disch := omega) only [w_l, v_mul, vl_100, v_divP]
  rw [v_i _ (by unfold sTh at rr; omega) (by unfold sTh at rr; omega)]
  rfl
/-! leaf by leaf: what is had where a leaf and the one ahead were read, else nothing -/
def rdy (γ : GV) (l : Nat) : Bool := decide (γ.1 l ≠ -1) && (decide (l = 0) || decide (γ.1 (l - 1) ≠ -1))
theorem rdy_iff (γ : GV) (l : Nat) : rdy γ l = true ↔ rd γ l ∧ (l ≠ 0 → rd γ (l - 1)) := by
  unfold rdy rd
  by_cases h0 : l = 0 <;> simp [h0]
def uL (β : BV) (γ : GV) (a : LV) (l : Nat) : Int := if rdy γ l = true then sUL β γ a l (prv l) else 0
def uH (β : BV) (γ : GV) (a : LV) (l : Nat) : Int := if rdy γ l = true then sUH β γ a l (prv l) else 0
def uTL (β : BV) (γ : GV) (a : LV) (l : Nat) : Int := (max 0 (uL β γ a l) + ld a - 1) / ld a
def uTH (β : BV) (γ : GV) (a : LV) (l : Nat) : Int := uH β γ a l / ld a
def uM (β : BV) (γ : GV) (a : LV) (l : Nat) : Int := if uTL β γ a l > uTH β γ a l then 0 else uTL β γ a l + uTH β γ a l
theorem uL_rg (oB : okB β) (oG : okG (vL β) γ) (oL : okL a) (hl : l < vL β) : -1001048 ≤ uL β γ a l ∧ uL β γ a l ≤ 1000049 ∧ -1001048 ≤ uH β γ a l ∧ uH β γ a l ≤ 1000049 := by
  unfold uL uH
  by_cases q : rdy γ l = true
  · rw [if_pos q, if_pos q]
    obtain ⟨q1, q2⟩ := (rdy_iff γ l).mp q
    exact sUL_rg oB oG oL hl q1 (prv l) (prv_ok hl q2)
  · rw [if_neg q, if_neg q]; omega
theorem div_rg {x d : Int} (hd : 1 ≤ d) (h1 : -1001048 ≤ x) (h2 : x ≤ 1000049) : -1001048 ≤ x / d ∧ x / d ≤ 1000049 ∧ (0 ≤ x → 0 ≤ (x + d - 1) / d) ∧ (x + d - 1) / d ≤ 1000049 := by
  refine ⟨?_, ?_, ?_, ?_⟩
  · exact Int.le_ediv_of_mul_le (by omega) (by have : (-1001048 : Int) * d ≤ (-1001048) * 1 := Int.mul_le_mul_of_nonpos_left (by omega) (by omega)
                                               omega)
  · have : x / d < 1000050 := Int.ediv_lt_of_lt_mul (by omega) (by have : (1000050 : Int) * 1 ≤ 1000050 * d := Int.mul_le_mul_of_nonneg_left (by omega) (by omega)
                                                                   omega)
    omega
  · intro h; exact Int.ediv_nonneg (by omega) (by omega)
  · have : (x + d - 1) / d < 1000050 := Int.ediv_lt_of_lt_mul (by omega) (by have : (1000049 : Int) * d ≥ 1000049 * 1 := Int.mul_le_mul_of_nonneg_left (by omega) (by omega)
                                                                             have : (1000050 : Int) * d = 1000049 * d + d := by omega
                                                                             omega)
    omega
theorem uTL_rg (oB : okB β) (oG : okG (vL β) γ) (oL : okL a) (hl : l < vL β) : 0 ≤ uTL β γ a l ∧ uTL β γ a l ≤ 1000049 ∧ -1001048 ≤ uTH β γ a l ∧ uTH β γ a l ≤ 1000049 := by
  have rr := uL_rg oB oG oL hl
  have o1 := oL.1
  have d1 := div_rg (x := max 0 (uL β γ a l)) (d := ld a) (by omega) (by omega) (by omega)
  have d2 := div_rg (x := uH β γ a l) (d := ld a) (by omega) (by omega) (by omega)
  exact ⟨d1.2.2.1 (by omega), d1.2.2.2, d2.1, d2.2.1⟩
theorem uM_rg (oB : okB β) (oG : okG (vL β) γ) (oL : okL a) (hl : l < vL β) : 0 ≤ uM β γ a l ∧ uM β γ a l ≤ 2000098 := by
  have rr := uTL_rg oB oG oL hl
  unfold uM
  split <;> omega
theorem u_s (hr : rd γ l) (hp : l ≠ 0 → rd γ (l - 1)) : uL β γ a l = sUL β γ a l (prv l) ∧ uH β γ a l = sUH β γ a l (prv l) ∧ uTL β γ a l = sTL β γ a l ∧ uTH β γ a l = sTH β γ a l ∧ uM β γ a l = sMid β γ a l := by
  have q := (rdy_iff γ l).mpr ⟨hr, hp⟩
  have e1 : uL β γ a l = sUL β γ a l (prv l) := if_pos q
  have e2 : uH β γ a l = sUH β γ a l (prv l) := if_pos q
  have e3 : uTL β γ a l = sTL β γ a l := by unfold uTL sTL; rw [e1]
  have e4 : uTH β γ a l = sTH β γ a l := by unfold uTH sTH; rw [e2]
  exact ⟨e1, e2, e3, e4, by unfold uM sMid; rw [e3, e4]⟩
end CLS
