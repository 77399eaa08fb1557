theorem neg_msb32 (x : Int32) : x.toBitVec.msb = decide (x.toInt < 0) := BitVec.msb_eq_toInt
theorem neg_msb64 (x : Int64) : x.toBitVec.msb = decide (x.toInt < 0) := BitVec.msb_eq_toInt
theorem xor32 (x y : Int32) : (0 ≤ x ^^^ y) ↔ (x.toInt < 0 ↔ y.toInt < 0) := by
  have h : (x ^^^ y).toBitVec.msb = (x.toBitVec.msb ^^ y.toBitVec.msb) := by rw [Int32.toBitVec_xor, BitVec.msb_xor]
  rw [neg_msb32, neg_msb32, neg_msb32] at h
  rw [Int32.le_iff_toInt_le, show Int32.toInt 0 = 0 from by decide]
  by_cases h1 : x.toInt < 0 <;> by_cases h2 : y.toInt < 0 <;> simp [h1, h2] at h ⊢ <;> omega
theorem xor64 (x y : Int64) : (0 ≤ x ^^^ y) ↔ (x.toInt < 0 ↔ y.toInt < 0) := by
  have h : (x ^^^ y).toBitVec.msb = (x.toBitVec.msb ^^ y.toBitVec.msb) := by rw [Int64.toBitVec_xor, BitVec.msb_xor]
  rw [neg_msb64, neg_msb64, neg_msb64] at h
  rw [Int64.le_iff_toInt_le, show Int64.toInt 0 = 0 from by decide]
  by_cases h1 : x.toInt < 0 <;> by_cases h2 : y.toInt < 0 <;> simp [h1, h2] at h ⊢ <;> omega
theorem v_lt (a b : Int) (h1 : -9223372036854775808 ≤ a) (h2 : a ≤ 9223372036854775807) (h3 : -9223372036854775808 ≤ b) (h4 : b ≤ 9223372036854775807) : (w64 a < w64 b) = (a < b) := by
  rw [Int64.lt_iff_toInt_lt, w64_toInt a h1 h2, w64_toInt b h3 h4]
theorem v_le (a b : Int) (h1 : -9223372036854775808 ≤ a) (h2 : a ≤ 9223372036854775807) (h3 : -9223372036854775808 ≤ b) (h4 : b ≤ 9223372036854775807) : (w64 a ≤ w64 b) = (a ≤ b) := by
  rw [Int64.le_iff_toInt_le, w64_toInt a h1 h2, w64_toInt b h3 h4]
theorem v_eq (a b : Int) (h1 : -9223372036854775808 ≤ a) (h2 : a ≤ 9223372036854775807) (h3 : -9223372036854775808 ≤ b) (h4 : b ≤ 9223372036854775807) : (w64 a = w64 b) = (a = b) := by
  rw [← Int64.toInt_inj, w64_toInt a h1 h2, w64_toInt b h3 h4]
theorem c_ge (a b : Int) (h1 : -9223372036854775808 ≤ a) (h2 : a ≤ 9223372036854775807) (h3 : -9223372036854775808 ≤ b) (h4 : b ≤ 9223372036854775807) : (0 ≤ lg_cmp (w64 a) (w64 b)) = (b ≤ a) := by
  rw [lg_cmp_ge, v_le b a h3 h4 h1 h2]
theorem c_le (a b : Int) (h1 : -9223372036854775808 ≤ a) (h2 : a ≤ 9223372036854775807) (h3 : -9223372036854775808 ≤ b) (h4 : b ≤ 9223372036854775807) : (lg_cmp (w64 a) (w64 b) ≤ 0) = (a ≤ b) := by
  rw [lg_cmp_le, v_le a b h1 h2 h3 h4]
theorem c_eq (a b : Int) (h1 : -9223372036854775808 ≤ a) (h2 : a ≤ 9223372036854775807) (h3 : -9223372036854775808 ≤ b) (h4 : b ≤ 9223372036854775807) : (lg_cmp (w64 a) (w64 b) = 0) = (a = b) := by
  have e1 := lg_cmp_ge (w64 a) (w64 b)
  have e2 := lg_cmp_le (w64 a) (w64 b)
  rw [v_le _ _ h3 h4 h1 h2] at e1
  rw [v_le _ _ h1 h2 h3 h4] at e2
  apply propext
  constructor
  · intro e; rw [e] at e1 e2; have := e1.mp (Int32.le_refl 0); have := e2.mp (Int32.le_refl 0); omega
  · intro e; exact Int32.le_antisymm (e2.mpr (by omega)) (e1.mpr (by omega))
theorem c_lt (a b : Int) (h1 : -9223372036854775808 ≤ a) (h2 : a ≤ 9223372036854775807) (h3 : -9223372036854775808 ≤ b) (h4 : b ≤ 9223372036854775807) : (lg_cmp (w64 a) (w64 b) < 0) = (a < b) := by
  have e1 := lg_cmp_ge (w64 a) (w64 b)
  rw [v_le _ _ h3 h4 h1 h2] at e1
  apply propext
  rw [← Int32.not_le, e1]
  omega
theorem c_gt (a b : Int) (h1 : -9223372036854775808 ≤ a) (h2 : a ≤ 9223372036854775807) (h3 : -9223372036854775808 ≤ b) (h4 : b ≤ 9223372036854775807) : (0 < lg_cmp (w64 a) (w64 b)) = (b < a) := by
  have e1 := lg_cmp_le (w64 a) (w64 b)
  rw [v_le _ _ h1 h2 h3 h4] at e1
  apply propext
  rw [← Int32.not_le, e1]
  omega
theorem tdiv_floor (a b : Int) (hb : 1 ≤ b) : a / b = if a < 0 ∧ ¬ a.tdiv b * b = a then a.tdiv b - 1 else a.tdiv b := by
  by_cases h : 0 ≤ a
  · rw [if_neg (by omega), Int.tdiv_eq_ediv_of_nonneg h]
  · have h1 : a.tdiv b = -((-a) / b) := by
      have : a.tdiv b = -((-a).tdiv b) := by rw [show a = -(-a) by omega, Int.neg_tdiv, Int.neg_neg]
      rw [this, Int.tdiv_eq_ediv_of_nonneg (by omega)]
    have h2 := Int.mul_ediv_add_emod (-a) b
    have h3 := Int.emod_nonneg (-a) (show b ≠ 0 by omega)
    have h4 := Int.emod_lt_of_pos (-a) (show 0 < b by omega)
    have e : a.tdiv b * b = -(b * ((-a) / b)) := by rw [h1, Int.neg_mul, Int.mul_comm]
    rw [e, h1]
    by_cases h5 : (-a) % b = 0
    · rw [if_neg (by omega)]
      apply Int.ediv_eq_of_eq_mul_right (by omega)
      rw [Int.mul_neg]; omega
    · rw [if_pos (by omega)]
      have : a / b = -((-a) / b) - 1 := by
        rw [Int.ediv_eq_iff_of_pos (by omega)]
        have h6 : b * (-(-a / b) - 1) = -(b * (-a / b)) - b := by rw [Int.mul_sub, Int.mul_neg]; omega
        have h7 : b * (-(-a / b) - 1 + 1) = -(b * (-a / b)) := by rw [show (-(-a / b) - 1 + 1 : Int) = -(-a/b) by omega, Int.mul_neg]
        have h8 : (-(-a / b) - 1) * b = b * (-(-a / b) - 1) := Int.mul_comm _ _
        constructor <;> omega
      exact this
theorem e_fd (a b : Int) (h1 : -2147483648 ≤ a) (h2 : a ≤ 2147483647) (h3 : 1 ≤ b) (h4 : b ≤ 2147483647) : f_J9_floorDiv_7cf53 (w32 a) (w32 b) = some (w32 (a / b)) := by
  unfold f_J9_floorDiv_7cf53
  rw [gd_t (by rw [wl_0, w_eq _ _ (by omega) (by omega) (by omega) (by omega)]; omega)]
  have hx := xor32 (w32 a) (w32 b)
  rw [w32_toInt a h1 h2, w32_toInt b (by omega) h4] at hx
  have hq := tdiv_floor a b h3
  have hm : a.tdiv b * b = a ∨ -2147483648 ≤ a.tdiv b * b ∧ a.tdiv b * b ≤ 2147483647 := by
    right
    have e := Int.tdiv_mul_add_tmod a b
    have := Int.natAbs_tdiv_le_natAbs a b
    by_cases h : 0 ≤ a
    · have h6 := Int.tmod_nonneg b h
      have h7 : 0 ≤ a.tdiv b * b := Int.mul_nonneg (Int.tdiv_nonneg h (by omega)) (by omega)
      omega
    · have h6 : a.tmod b ≤ 0 := by
        have : a.tmod b = -((-a).tmod b) := by rw [show a = -(-a) by omega, Int.neg_tmod, Int.neg_neg]
        have := Int.tmod_nonneg b (show 0 ≤ -a by omega)
        omega
      have h7 : a.tdiv b * b ≤ 0 := by
        have : a.tdiv b = -((-a).tdiv b) := by rw [show a = -(-a) by omega, Int.neg_tdiv, Int.neg_neg]
        rw [this, Int.neg_mul]
        have := Int.mul_nonneg (Int.tdiv_nonneg (show 0 ≤ -a by omega) (show 0 ≤ b by omega)) (show 0 ≤ b by omega)
        omega
      omega
  have hm2 : -2147483648 ≤ a.tdiv b * b ∧ a.tdiv b * b ≤ 2147483647 := by omega
  simp (disch := omega) only [w_div, w_mul, w_eq, wl_1, w_sub]
  by_cases h : 0 ≤ a
  · rw [if_pos (hx.mpr (by omega)), hq, if_neg (by omega)]
  · rw [if_neg (fun q => absurd (hx.mp q) (by omega)), hq]
    by_cases h5 : a.tdiv b * b = a
    · rw [if_pos h5, if_neg (by omega)]
    · rw [if_neg h5, if_pos ⟨by omega, h5⟩]
section MOD2
variable {h : AH} {b : Nat} {β : BV} {γ : GV} {a : LV} {l : Nat}
theorem m_TL (hM : MK h b β γ a) (hl : l < vL β) (hr : rd γ l) (hp : l ≠ 0 → rd γ (l - 1)) : f_X12_turnsLow (w32 b) (w32 l) h = some (w32 (sTL β γ a l)) := by
  have hM0 := hM
  obtain ⟨hB, hG, hL, oB, oG, oL, hb⟩ := hM
  have hl4 : l < 40 := Nat.lt_of_lt_of_le hl oB.1
  have e1 := hL.1
  have r := sUL_rg oB oG oL hl hr (prv l) (prv_ok hl hp)
  have o1 := oL.1
  have o2 := oL.2.1
  have hu := m_uL hM0 hl hr (prv l) (prv_ok hl hp)
  rw [pI_prv] at hu
  unfold f_X12_turnsLow
  rw [show w32 (l : Int) - 1 = w32 ((l : Int) - 1) from w_sub _ 1, hu, bnd_s, gd_t (by decide), gd_t (by decide)]
  simp only [show cl 0 = 0 from by decide, e1]
  rw [gd_t (by rw [wl_0, w_eq _ _ (by omega) (by omega) (by omega) (by omega)]; omega)]
  simp (disch := omega) only [wl_0, wl_1, e_max, w_add, w_sub, w_divP]
  rfl
theorem m_TH (hM : MK h b β γ a) (hl : l < vL β) (hr : rd γ l) (hp : l ≠ 0 → rd γ (l - 1)) : f_X12_turnsHigh (w32 b) (w32 l) h = some (w32 (sTH β γ a l)) := by
  have hM0 := hM
  obtain ⟨hB, hG, hL, oB, oG, oL, hb⟩ := hM
  have e1 := hL.1
  have r := sUL_rg oB oG oL hl hr (prv l) (prv_ok hl hp)
  have o1 := oL.1
  have o2 := oL.2.1
  have hu := m_uH hM0 hl hr (prv l) (prv_ok hl hp)
  rw [pI_prv] at hu
  unfold f_X12_turnsHigh
  rw [show w32 (l : Int) - 1 = w32 ((l : Int) - 1) from w_sub _ 1, hu, bnd_s, gd_t (by decide)]
  simp only [show cl 0 = 0 from by decide, e1]
  rw [e_fd _ _ (by omega) (by omega) (by omega) (by omega), bnd_s]
  rfl
theorem m_strange (hM : MK h b β γ a) (hl : l < vL β) (hr : rd γ l) (hp : l ≠ 0 → rd γ (l - 1)) : f_X12_isStrange (w32 b) (w32 l) h = some (decide (sTH β γ a l < sTL β γ a l)) := by
  obtain ⟨hB, hG, hL, oB, oG, oL, hb⟩ := id hM
  have r := sTL_rg oB oG oL hl hr hp
  unfold f_X12_isStrange
  simp (disch := omega) only [m_TL hM hl hr hp, m_TH hM hl hr hp, bnd_s, w_le]
  split
  · rw [decide_eq_false (by omega)]
  · rw [decide_eq_true (by omega)]
theorem m_mid (hM : MK h b β γ a) (hl : l < vL β) (hr : rd γ l) (hp : l ≠ 0 → rd γ (l - 1)) : f_X12_midst (w32 b) (w32 l) h = some (w32 (sMid β γ a l)) := by
  unfold f_X12_midst
  simp only [m_strange hM hl hr hp, m_TL hM hl hr hp, m_TH hM hl hr hp, bnd_s, decide_eq_true_eq, wl_0, w_add]
  unfold sMid
  by_cases e : sTH β γ a l < sTL β γ a l
  · rw [if_pos e, if_pos e]
  · rw [if_neg e, if_neg e]
/-- all leaves read, and one at least -/
def kn (β : BV) (γ : GV) : Prop := 0 < vL β ∧ ∀ l, l < vL β → rd γ l
theorem kn_l {l : Nat} (hk : kn β γ) (hl : l < vL β) : rd γ l ∧ (l ≠ 0 → rd γ (l - 1)) := ⟨hk.2 l hl, fun e => hk.2 (l - 1) (by omega)⟩
theorem sMid_rg (oB : okB β) (oG : okG (vL β) γ) (oL : okL a) (hl : l < vL β) (hr : rd γ l) (hp : l ≠ 0 → rd γ (l - 1)) : 0 ≤ sMid β γ a l ∧ sMid β γ a l ≤ 2000098 := by
  have r := sTL_rg oB oG oL hl hr hp
  unfold sMid
  split <;> omega
end MOD2
