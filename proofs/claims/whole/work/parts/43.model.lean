/-! the reference's own reading of a book -/
def MK (h : AH) (b : Nat) (β : BV) (γ : GV) (a : LV) : Prop := BM h b β ∧ GM h b (vL β) γ ∧ LM h a ∧ okB β ∧ okG (vL β) γ ∧ okL a ∧ b < 8
def pI (p : Option Nat) : Int := match p with | none => -1 | some q => q
theorem pI_prv (l : Nat) : pI (prv l) = (l : Int) - 1 := by
  unfold prv
  split
  · rename_i e; subst e; rfl
  · show ((l - 1 : Nat) : Int) = _; omega
theorem sBare_rg {β : BV} {l : Nat} (oB : okB β) (hl : l < vL β) : 0 ≤ sBare β l ∧ sBare β l ≤ 300 := by
  have := oB.2.2.2.2.2.1 l hl
  have := oB.2.2.1
  unfold sBare
  split <;> omega
theorem okG_rd {n : Nat} {γ : GV} {l : Nat} (oG : okG n γ) (hl : l < n) (hr : rd γ l) : 0 ≤ γ.1 l ∧ γ.1 l ≤ γ.2 l ∧ γ.2 l ≤ 1000049 := by
  rcases oG l hl with e | e
  · exact absurd e hr
  · exact e
theorem sBL_rg {β : BV} {γ : GV} {l : Nat} (oB : okB β) (oG : okG (vL β) γ) (hl : l < vL β) (hr : rd γ l) : 0 ≤ sBL β γ l ∧ sBL β γ l ≤ sBH β γ l ∧ sBH β γ l ≤ 1000049 := by
  have := okG_rd oG hl hr
  have := sBare_rg oB hl
  unfold sBL sBH
  omega
theorem sTh_rg {a : LV} {v : Int} (oL : okL a) (h1 : 0 ≤ v) : 0 ≤ sTh a v ∧ sTh a v ≤ v := by
  unfold sTh
  have h2 : v * (lg a : Int) ≤ v * 100 := Int.mul_le_mul_of_nonneg_left (by have := oL.2.2.1; omega) h1
  have h3 : 0 ≤ v * (lg a : Int) := Int.mul_nonneg h1 (by omega)
  omega
theorem mul_rg {a b A B : Int} (h1 : 0 ≤ a) (h2 : a ≤ A) (h3 : 0 ≤ b) (h4 : b ≤ B) : 0 ≤ a * b ∧ a * b ≤ A * B := ⟨Int.mul_nonneg h1 h3, Int.mul_le_mul h2 h4 h3 (by omega)⟩
section MOD
variable {h : AH} {b : Nat} {β : BV} {γ : GV} {a : LV} {l : Nat}
theorem m_hair (hM : MK h b β γ a) (hl : l < 40) : f_X12_hairOf (w32 b) (w32 l) h = some (w32 (if l % 2 = 1 then (vH β : Int) else 0)) := by
  obtain ⟨hB, -, -, -, -, -, hb⟩ := hM
  have hx := hB.2.2.1
  unfold f_X12_hairOf
  simp (disch := omega) only [wl_2, wl_1, wl_0, w_divP, w_mul, w_sub, w_eq, w_ibN, w_clN, hx, gd_t hb]
  by_cases hp : l % 2 = 1
  · rw [if_pos (by omega), if_pos hp]
  · rw [if_neg (by omega), if_neg hp]
theorem m_bareLow (hM : MK h b β γ a) (hl : l < vL β) (hr : rd γ l) : f_X12_bareLow (w32 b) (w32 l) h = some (w32 (sBL β γ l)) := by
  have hM0 := hM
  obtain ⟨hB, hG, -, oB, oG, -, hb⟩ := hM
  have hl4 : l < 40 := Nat.lt_of_lt_of_le hl oB.1
  obtain ⟨-, -, -, e4, -, -⟩ := hB.2.2.2.2.2.1 l hl
  have e5 := (hG l hl).1
  have r1 := okG_rd oG hl hr
  have r2 := oB.2.2.2.2.2.1 l hl
  have r3 := oB.2.2.1
  unfold f_X12_bareLow
  simp (disch := (try split) <;> omega) only [e_at, w_ibN, w_clN, gd_t, m_hair hM0 hl4, bnd_s, e4, e5, w_sub, wl_0, e_max]
  refine sw ?_
  unfold sBL sBare
  split <;> omega
theorem m_bareHigh (hM : MK h b β γ a) (hl : l < vL β) (hr : rd γ l) : f_X12_bareHigh (w32 b) (w32 l) h = some (w32 (sBH β γ l)) := by
  have hM0 := hM
  obtain ⟨hB, hG, -, oB, oG, -, hb⟩ := hM
  have hl4 : l < 40 := Nat.lt_of_lt_of_le hl oB.1
  obtain ⟨-, -, -, e4, -, -⟩ := hB.2.2.2.2.2.1 l hl
  have e5 := (hG l hl).2 hr
  have r1 := okG_rd oG hl hr
  have r2 := oB.2.2.2.2.2.1 l hl
  have r3 := oB.2.2.1
  unfold f_X12_bareHigh
  simp (disch := (try split) <;> omega) only [e_at, w_ibN, w_clN, gd_t, m_hair hM0 hl4, bnd_s, e4, e5, w_sub, wl_0, e_max]
  refine sw ?_
  unfold sBH sBare
  split <;> omega
theorem m_through (hL : LM h a) (oL : okL a) {v : Int} (h1 : 0 ≤ v) (h2 : v ≤ 2000000000) : f_X12_through (w32 v) h = some (w32 (sTh a v)) := by
  have e1 := hL.2.1
  have r := sTh_rg oL h1
  have r2 := mul_rg h1 h2 (show (0 : Int) ≤ (lg a : Int) by omega) (show (lg a : Int) ≤ 90 by have := oL.2.2.1; omega)
  unfold f_X12_through
  rw [gd_t (by decide)]
  simp only [show cl 1 = 1 from by decide, e1]
  have r3 := oL.2.2.1
  simp (disch := omega) only [w_l, v_mul, vl_100, v_divP]
  rw [v_i _ (by unfold sTh at r; omega) (by unfold sTh at r; omega)]
  rfl
theorem m_uL (hM : MK h b β γ a) (hl : l < vL β) (hr : rd γ l) (p : Option Nat) (hp : ∀ q, p = some q → q < vL β ∧ rd γ q) : f_X12_undoneLow (w32 b) (w32 l) (w32 (pI p)) h = some (w32 (sUL β γ a l p)) := by
  have hM0 := hM
  obtain ⟨hB, hG, hL, oB, oG, oL, hb⟩ := hM
  have hl4 : l < 40 := Nat.lt_of_lt_of_le hl oB.1
  obtain ⟨-, -, -, -, -, e6⟩ := hB.2.2.2.2.2.1 l hl
  unfold f_X12_undoneLow
  cases p with
  | none =>
    simp (disch := omega) only [m_bareLow hM0 hl hr, bnd_s, pI, wl_1, w_neg, wl_0, w_eq, if_true, e_at, w_ibN, gd_t, w_clN, e6, w_sub]
    rfl
  | some q =>
    obtain ⟨hq, hrq⟩ := hp q rfl
    have r1 := sBL_rg oB oG hq hrq
    have hq4 : q < 40 := Nat.lt_of_lt_of_le hq oB.1
    simp (disch := omega) only [m_bareLow hM0 hl hr, bnd_s, pI, wl_1, w_neg, w_eq, m_bareHigh hM0 hq hrq, m_through hL oL, e_at, w_ibN, gd_t, w_clN, e6, w_sub]
    rw [if_neg (by omega)]
    rfl
theorem m_uH (hM : MK h b β γ a) (hl : l < vL β) (hr : rd γ l) (p : Option Nat) (hp : ∀ q, p = some q → q < vL β ∧ rd γ q) : f_X12_undoneHigh (w32 b) (w32 l) (w32 (pI p)) h = some (w32 (sUH β γ a l p)) := by
  have hM0 := hM
  obtain ⟨hB, hG, hL, oB, oG, oL, hb⟩ := hM
  have hl4 : l < 40 := Nat.lt_of_lt_of_le hl oB.1
  obtain ⟨-, -, -, -, -, e6⟩ := hB.2.2.2.2.2.1 l hl
  unfold f_X12_undoneHigh
  cases p with
  | none =>
    simp (disch := omega) only [m_bareHigh hM0 hl hr, bnd_s, pI, wl_1, w_neg, wl_0, w_eq, if_true, e_at, w_ibN, gd_t, w_clN, e6, w_sub]
    rfl
  | some q =>
    obtain ⟨hq, hrq⟩ := hp q rfl
    have r1 := sBL_rg oB oG hq hrq
    have hq4 : q < 40 := Nat.lt_of_lt_of_le hq oB.1
    simp (disch := omega) only [m_bareHigh hM0 hl hr, bnd_s, pI, wl_1, w_neg, w_eq, m_bareLow hM0 hq hrq, m_through hL oL, e_at, w_ibN, gd_t, w_clN, e6, w_sub]
    rw [if_neg (by omega)]
    rfl
theorem sUL_rg (oB : okB β) (oG : okG (vL β) γ) (oL : okL a) (hl : l < vL β) (hr : rd γ l) (p : Option Nat) (hp : ∀ q, p = some q → q < vL β ∧ rd γ q) : -1001048 ≤ sUL β γ a l p ∧ sUL β γ a l p ≤ 1000049 ∧ -1001048 ≤ sUH β γ a l p ∧ sUH β γ a l p ≤ 1000049 := by
  have r1 := sBL_rg oB oG hl hr
  have r2 := oB.2.2.2.2.2.1 l hl
  unfold sUL sUH
  cases p with
  | none => simp only []; omega
  | some q =>
    obtain ⟨hq, hrq⟩ := hp q rfl
    have r3 := sBL_rg oB oG hq hrq
    have r4 := sTh_rg (v := sBH β γ q) oL (by omega)
    have r5 := sTh_rg (v := sBL β γ q) oL (by omega)
    simp only []
    omega
theorem prv_ok (hl : l < vL β) (hp : l ≠ 0 → rd γ (l - 1)) : ∀ q, prv l = some q → q < vL β ∧ rd γ q := by
  intro q e
  unfold prv at e
  split at e
  · cases e
  · rename_i e0; cases e; exact ⟨by omega, hp e0⟩
theorem sTL_rg (oB : okB β) (oG : okG (vL β) γ) (oL : okL a) (hl : l < vL β) (hr : rd γ l) (hp : l ≠ 0 → rd γ (l - 1)) : 0 ≤ sTL β γ a l ∧ sTL β γ a l ≤ 1000049 ∧ -1001048 ≤ sTH β γ a l ∧ sTH β γ a l ≤ 1000049 := by
  have r := sUL_rg oB oG oL hl hr (prv l) (prv_ok hl hp)
  have o1 := oL.1
  unfold sTL sTH
  have hd : (0 : Int) < (ld a : Int) := by omega
  refine ⟨Int.ediv_nonneg (by omega) (by omega), ?_, ?_, ?_⟩
  · have : (max 0 (sUL β γ a l (prv l)) + (ld a : Int) - 1) / (ld a : Int) < 1000050 := Int.ediv_lt_of_lt_mul hd (by have : (1000050 : Int) * 1 ≤ 1000050 * (ld a : Int) := Int.mul_le_mul_of_nonneg_left (by omega) (by omega)
                                                                                                                     have : (1000049 : Int) * (ld a : Int) ≥ 1000049 * 1 := Int.mul_le_mul_of_nonneg_left (by omega) (by omega)
                                                                                                                     omega)
    omega
  · exact Int.le_ediv_of_mul_le hd (by have : (-1001048 : Int) * (ld a : Int) ≤ (-1001048) * 1 := Int.mul_le_mul_of_nonpos_left (by omega) (by omega)
                                       omega)
  · have : sUH β γ a l (prv l) / (ld a : Int) < 1000050 := Int.ediv_lt_of_lt_mul hd (by have : (1000050 : Int) * 1 ≤ 1000050 * (ld a : Int) := Int.mul_le_mul_of_nonneg_left (by omega) (by omega)
                                                                                        omega)
    omega
end MOD
