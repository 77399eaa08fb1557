/-! dirt -/
def rmx (β : BV) (l r : Nat) : Nat := max (vy β l) (vrf β r)
def cnt (β : BV) (l r n : Nat) : Int := max 0 (min (n : Int) ((vrt β r : Int) + 1) - (rmx β l r : Int))
def ty (β : BV) (ω : WV) (l r : Nat) : Int := (yr ω (vrw β r) (vk β l) (vp β l) : Int)
def tIr (β : BV) (ω : WV) (l y r : Nat) : Int := if rmx β l r ≤ y ∧ y ≤ vrt β r then ty β ω l r else 0
def tI' (β : BV) (ω : WV) (l y : Nat) : Int := sm (tIr β ω l y) (vR β)
def tAr (β : BV) (ω : WV) (l n r : Nat) : Int := cnt β l r n * ty β ω l r
def tA (β : BV) (ω : WV) (l n : Nat) : Int := sm (tAr β ω l n) (vR β)
def tDr (β : BV) (ω : WV) (l f t r : Nat) : Int := if min t (vrt β r) < max f (rmx β l r) then 0 else ((min t (vrt β r) : Nat) - (max f (rmx β l r) : Nat) + 1 : Int) * ty β ω l r
/-- washed in the year y, the first n told -/
def wS (β : BV) (y : Nat) (v : Int) : Nat → Int
  | 0 => v
  | w + 1 => if vwy β w = y then wS β y v w * (100 - vwo β w) / 100 else wS β y v w
def oW' (β : BV) (ω : WV) (a : LV) (l : Nat) : Nat → Int
  | 0 => 0
  | y + 1 => wS β y (oW' β ω a l y + ld a * tI' β ω l y) (vW β)
def own (β : BV) (ω : WV) (a : LV) (l : Nat) : Int := oW' β ω a l 501
/-- all that lies on the leaf ahead of l -/
def al (β : BV) (ω : WV) (a : LV) : Nat → Int
  | 0 => 0
  | l + 1 => own β ω a l + vs β l + sTh a (al β ω a l)
def fw (β : BV) (w : Nat) : Nat := if w = 0 then 0 else vwy β (w - 1) + 1
section DRT
variable {β : BV} {ω : WV} {a : LV} {l : Nat}
theorem ty_rg (oB : okB β) (oW : okW ω) (hl : l < vL β) {r : Nat} (hr : r < vR β) : 0 ≤ ty β ω l r ∧ ty β ω l r ≤ 99 := by
  have := yr_le (ω := ω) (w := vrw β r) (k := vk β l) (vp β l) (oW _ (oB.2.2.2.2.2.2.2.2.1 r hr).1 _ (oB.2.2.2.2.2.1 l hl).1).1
  unfold ty
  omega
theorem cnt_rg {r : Nat} (oB : okB β) (hr : r < vR β) (n : Nat) : 0 ≤ cnt β l r n ∧ cnt β l r n ≤ 501 := by
  have := oB.2.2.2.2.2.2.2.2.1 r hr
  unfold cnt
  omega
theorem tA_0 : tA β ω l 0 = 0 := sm_0s (fun r _ => by
  have : cnt β l r 0 = 0 := by unfold cnt; omega
  unfold tAr
  rw [this, Int.zero_mul])
theorem tA_s (n : Nat) : tA β ω l (n + 1) = tA β ω l n + tI' β ω l n := by
  unfold tA tI'
  rw [← sm_add]
  refine sm_congr (fun r _ => ?_)
  unfold tAr tIr
  by_cases q : rmx β l r ≤ n ∧ n ≤ vrt β r
  · rw [if_pos q, show cnt β l r (n + 1) = cnt β l r n + 1 by unfold cnt; omega, Int.add_mul, Int.one_mul]
  · rw [if_neg q, show cnt β l r (n + 1) = cnt β l r n by unfold cnt; omega, Int.add_zero]
theorem tA_rg (oB : okB β) (oW : okW ω) (hl : l < vL β) (n : Nat) : 0 ≤ tA β ω l n ∧ tA β ω l n ≤ 396792 := by
  have := sm_rg (f := tAr β ω l n) (n := vR β) (a := 0) (b := 49599) (fun r hr => by
    have r1 := ty_rg oB oW hl hr
    have r2 := cnt_rg (l := l) oB hr n
    have := mul_rg r2.1 r2.2 r1.1 r1.2
    unfold tAr
    omega)
  have := oB.2.2.2.2.1
  unfold tA
  omega
theorem tI_rg (oB : okB β) (oW : okW ω) (hl : l < vL β) (n : Nat) : 0 ≤ tI' β ω l n ∧ tI' β ω l n ≤ 792 := by
  have := sm_rg (f := tIr β ω l n) (n := vR β) (a := 0) (b := 99) (fun r hr => by
    have r1 := ty_rg oB oW hl hr
    unfold tIr
    split <;> omega)
  have := oB.2.2.2.2.1
  unfold tI'
  omega
theorem tDr_eq {f t : Nat} (hf : f ≤ t + 1) (r : Nat) : tDr β ω l f t r = tAr β ω l (t + 1) r - tAr β ω l f r := by
  unfold tDr tAr
  rw [← Int.sub_mul]
  by_cases q : min t (vrt β r) < max f (rmx β l r)
  · rw [if_pos q, show cnt β l r (t + 1) - cnt β l r f = 0 by unfold cnt; omega, Int.zero_mul]
  · rw [if_neg q]
    congr 1
    unfold cnt
    omega
theorem sm_sub (f g : Nat → Int) (n : Nat) : sm (fun i => f i - g i) n = sm f n - sm g n := by
  induction n with
  | zero => rfl
  | succ n ih => rw [sm_s, sm_s, sm_s, ih]; omega
theorem tD_eq {f t : Nat} (hf : f ≤ t + 1) : sm (tDr β ω l f t) (vR β) = tA β ω l (t + 1) - tA β ω l f := by
  unfold tA
  rw [← sm_sub]
  exact sm_congr (fun r _ => tDr_eq hf r)
theorem wS_s (y : Nat) (v : Int) (w : Nat) : wS β y v (w + 1) = if vwy β w = y then wS β y v w * (100 - vwo β w) / 100 else wS β y v w := rfl
theorem wash_rg {v : Int} {o : Nat} (hv : 0 ≤ v) (ho : o ≤ 100) : 0 ≤ v * (100 - o) / 100 ∧ v * (100 - o) / 100 ≤ v := by
  have h1 : 0 ≤ v * (100 - (o : Int)) := Int.mul_nonneg hv (by omega)
  have h2 : v * (100 - (o : Int)) ≤ v * 100 := Int.mul_le_mul_of_nonneg_left (by omega) hv
  omega
theorem wS_rg (oB : okB β) (y : Nat) {v : Int} (hv : 0 ≤ v) (n : Nat) (hn : n ≤ vW β) : 0 ≤ wS β y v n ∧ wS β y v n ≤ v := by
  induction n with
  | zero => exact ⟨hv, Int.le_refl _⟩
  | succ n ih =>
    have i := ih (by omega)
    rw [wS_s]
    split
    · have o := oB.2.2.2.2.2.2.1 n (by omega)
      have := wash_rg (o := vwo β n) i.1 (by omega)
      omega
    · exact i
theorem wS_no (y : Nat) (v : Int) (n : Nat) (h : ∀ w, w < n → vwy β w ≠ y) : wS β y v n = v := by
  induction n with
  | zero => rfl
  | succ n ih => rw [wS_s, if_neg (h n (by omega)), ih (fun w hw => h w (by omega))]
theorem wS_one (y : Nat) (v : Int) (n w0 : Nat) (h0 : w0 < n) (h1 : vwy β w0 = y) (h : ∀ w, w < n → w ≠ w0 → vwy β w ≠ y) : wS β y v n = v * (100 - vwo β w0) / 100 := by
  induction n with
  | zero => omega
  | succ n ih =>
    rw [wS_s]
    by_cases q : n = w0
    · subst q
      rw [if_pos h1, wS_no y v n (fun w hw => h w (by omega) (by omega))]
    · rw [if_neg (h n (by omega) q), ih (by omega) (fun w hw => h w (by omega))]
theorem oW_rg (oB : okB β) (oW : okW ω) (hl : l < vL β) (y : Nat) : 0 ≤ oW' β ω a l y ∧ oW' β ω a l y ≤ ld a * tA β ω l y := by
  induction y with
  | zero =>
    have : tA β ω l 0 = 0 := tA_0
    rw [this]
    exact ⟨Int.le_refl _, by rw [Int.mul_zero]; exact Int.le_refl _⟩
  | succ y ih =>
    have t := tI_rg oB oW hl y
    have h1 : 0 ≤ (ld a : Int) * tI' β ω l y := Int.mul_nonneg (by omega) t.1
    have := wS_rg oB y (v := oW' β ω a l y + ld a * tI' β ω l y) (by omega) (vW β) (Nat.le_refl _)
    show 0 ≤ wS β y _ (vW β) ∧ wS β y _ (vW β) ≤ _
    rw [tA_s, Int.mul_add]
    omega
theorem oW_rg2 (oB : okB β) (oW : okW ω) (oL : okL a) (hl : l < vL β) (y : Nat) : 0 ≤ oW' β ω a l y ∧ oW' β ω a l y ≤ 19839600 := by
  have r1 := oW_rg (a := a) oB oW hl y
  have r2 := tA_rg oB oW hl y
  have := mul_rg (a := (ld a : Int)) (A := 50) (b := tA β ω l y) (B := 396792) (by omega) (by have := oL.2.1; omega) r2.1 r2.2
  omega
theorem oW_gap {p q : Nat} (hpq : p ≤ q) (h : ∀ y, p ≤ y → y < q → ∀ w, w < vW β → vwy β w ≠ y) : oW' β ω a l q = oW' β ω a l p + ld a * (tA β ω l q - tA β ω l p) := by
  induction q with
  | zero =>
    rw [show p = 0 by omega, Int.sub_self, Int.mul_zero, Int.add_zero]
  | succ q ih =>
    by_cases e : p = q + 1
    · rw [e, Int.sub_self, Int.mul_zero, Int.add_zero]
    · have i := ih (by omega) (fun y h1 h2 => h y h1 (by omega))
      show wS β q (oW' β ω a l q + ld a * tI' β ω l q) (vW β) = _
      rw [wS_no _ _ _ (h q (by omega) (by omega)), i, tA_s]
      rw [show tA β ω l q + tI' β ω l q - tA β ω l p = (tA β ω l q - tA β ω l p) + tI' β ω l q by omega, Int.mul_add]
      omega
theorem fw_le (oB : okB β) {w : Nat} (hw : w < vW β) : fw β w ≤ vwy β w := by
  unfold fw
  split
  · omega
  · have := oB.2.2.2.2.2.2.2.1 (w - 1) w (by omega) hw; omega
theorem fw_le2 (oB : okB β) {w : Nat} (hw : w ≤ vW β) : fw β w ≤ 501 := by
  unfold fw
  split
  · omega
  · have := oB.2.2.2.2.2.2.1 (w - 1) (by omega); omega
theorem fw_bef (oB : okB β) {w v : Nat} (hw : w ≤ vW β) (hv : v < w) : vwy β v < fw β w := by
  unfold fw
  rw [if_neg (by omega)]
  by_cases q : v = w - 1
  · subst q; omega
  · have := oB.2.2.2.2.2.2.2.1 v (w - 1) (by omega) (by omega); omega
theorem oW_wash (oB : okB β) {w : Nat} (hw : w < vW β) : oW' β ω a l (fw β (w + 1)) = (oW' β ω a l (fw β w) + ld a * (tA β ω l (vwy β w + 1) - tA β ω l (fw β w))) * (100 - vwo β w) / 100 := by
  have e : fw β (w + 1) = vwy β w + 1 := by unfold fw; rw [if_neg (by omega)]; rfl
  have g := oW_gap (β := β) (ω := ω) (a := a) (l := l) (fw_le oB hw) (fun y h1 h2 v hv q => by
    by_cases c : v < w
    · have := fw_bef oB (Nat.le_of_lt hw) c; omega
    · by_cases c2 : v = w
      · subst c2; omega
      · have := oB.2.2.2.2.2.2.2.1 w v (by omega) hv; omega)
  rw [e]
  show wS β (vwy β w) (oW' β ω a l (vwy β w) + ld a * tI' β ω l (vwy β w)) (vW β) = _
  rw [wS_one _ _ _ w hw rfl (fun v hv hne q => by
    by_cases c : v < w
    · have := oB.2.2.2.2.2.2.2.1 v w c hw; omega
    · have := oB.2.2.2.2.2.2.2.1 w v (by omega) hv; omega), g, tA_s]
  rw [show tA β ω l (vwy β w) + tI' β ω l (vwy β w) - tA β ω l (fw β w) = (tA β ω l (vwy β w) - tA β ω l (fw β w)) + tI' β ω l (vwy β w) by omega, Int.mul_add, Int.add_assoc]
theorem own_eq (oB : okB β) : own β ω a l = oW' β ω a l (fw β (vW β)) + ld a * (tA β ω l 501 - tA β ω l (fw β (vW β))) := by
  unfold own
  exact oW_gap (fw_le2 oB (Nat.le_refl _)) (fun y h1 h2 v hv q => by have := fw_bef oB (Nat.le_refl _) hv; omega)
theorem own_rg (oB : okB β) (oW : okW ω) (oL : okL a) (hl : l < vL β) : 0 ≤ own β ω a l ∧ own β ω a l ≤ 19839600 := oW_rg2 oB oW oL hl 501
theorem sTh_90 (oL : okL a) {v : Int} (h1 : 0 ≤ v) : sTh a v ≤ v * 90 / 100 := by
  unfold sTh
  have h2 : v * (lg a : Int) ≤ v * 90 := Int.mul_le_mul_of_nonneg_left (by have := oL.2.2.1; omega) h1
  omega
theorem al_s (l : Nat) : al β ω a (l + 1) = own β ω a l + vs β l + sTh a (al β ω a l) := rfl
theorem al_rg (oB : okB β) (oW : okW ω) (oL : okL a) (n : Nat) (hn : n ≤ vL β) : 0 ≤ al β ω a n ∧ al β ω a n ≤ 198405990 := by
  induction n with
  | zero => exact ⟨Int.le_refl _, by show (0 : Int) ≤ _; omega⟩
  | succ n ih =>
    have i := ih (by omega)
    have r1 := own_rg oB oW oL (show n < vL β by omega)
    have r2 := (oB.2.2.2.2.2.1 n (by omega)).2.2.2.2.2
    have r3 := sTh_rg oL i.1
    have r4 := sTh_90 oL i.1
    rw [al_s]
    omega
theorem e_wash {v : Int} {o : Nat} (h1 : 0 ≤ v) (h2 : v ≤ 2000000000) (h3 : o ≤ 100) : Int64.toInt32 (((w32 v).toInt64 * ((100 - w32 (o : Int)).toInt64)) / 100) = w32 (v * (100 - o) / 100) := by
  have r := wash_rg (o := o) h1 h3
  have r2 := mul_rg h1 h2 (show (0 : Int) ≤ 100 - (o : Int) by omega) (show (100 : Int) - (o : Int) ≤ 100 by omega)
  rw [wl_100, w_sub, w_l _ (by omega) (by omega), w_l _ (by omega) (by omega), v_mul, vl_100, v_divP _ _ (by omega) (by omega) (by omega) (by omega), v_i _ (by omega) (by omega)]
end DRT
section DRC
variable {h : AH} {B r0 : Nat} {β : BV} {ω : WV} {a : LV} {l : Nat}
def WAY (h : AH) (ω : WV) : Prop := WC h ω ∧ ∀ w, w < 6 → SH (hra h 4 w) = (10, 0)
theorem k_turned (hB : BC h B β) (hW : WAY h ω) (oB : okB β) (oW : okW ω) (hl : l < vL β) {f t : Nat} (hf : f ≤ t + 1) (ht : t ≤ 500) : f_X0_turned B 4 (w32 l) (w32 f) (w32 t) h = some (w32 (tA β ω l (t + 1) - tA β ω l f)) := by
  have o1 := oB.1
  have oR := oB.2.2.2.2.1
  obtain ⟨k1, -, k3, -, k5, -⟩ := hB.2.2.2.2.2.1 l hl
  have ok := oB.2.2.2.2.2.1 l hl
  have eR := hB.2.2.2.2.1
  unfold f_X0_turned
  rw [gd_t (by rw [w_ibN _ _ (by omega)]; omega), w_clN _ (by omega), k5, e_max _ _ (by omega) (by omega) (by omega) (by omega)]
  have lp : f_X0_turned_l18 B 4 (w32 l) (w32 t) (w32 (max (f : Int) (vy β l : Int))) h FU 0 0 = some (w32 (sm (tDr β ω l f t) (vR β))) := loopN (fun n (s : Int32 × Int32) => f_X0_turned_l18 B 4 (w32 l) (w32 t) (w32 (max (f : Int) (vy β l : Int))) h n s.1 s.2) (fun i => (w32 (sm (tDr β ω l f t) i), w32 (i : Nat))) (vR β) _ (fun i n hi => by
      obtain ⟨d1, d2, d3⟩ := hB.2.2.2.2.2.2.2 i hi
      obtain ⟨q1, q2, q3⟩ := oB.2.2.2.2.2.2.2.2.1 i hi
      have sW := hW.2 (vrw β i) q1
      have kt := k_turn (hW.1 (vrw β i) q1) ok.1 ok.2.2.1 (oW _ q1 _ ok.1).1 (oW _ q1 _ ok.1).2
      show f_X0_turned_l18 B 4 (w32 l) (w32 t) (w32 (max (f : Int) (vy β l : Int))) h (n + 1) (w32 (sm _ i)) (w32 i) = f_X0_turned_l18 B 4 (w32 l) (w32 t) (w32 (max (f : Int) (vy β l : Int))) h n (w32 (sm _ (i + 1))) (w32 (i + 1 : Nat))
      rw [f_X0_turned_l18]
      simp (disch := omega) only [eR, w_le, w_ibN, gd_t, w_clN, d1, d2, d3, e_min, e_max, w_lt, k1, k3, sW, kt, bnd_s, w_sub, wl_1, w_add, w_mul, w_s, sm_s]
      rw [if_neg (by omega)]
      unfold tDr
      by_cases q : min t (vrt β i) < max f (rmx β l i)
      · rw [if_pos (by unfold rmx at q; omega), if_pos q, Int.add_zero]
      · rw [if_neg (by unfold rmx at q; omega), if_neg q]
        congr 2
        rw [show (min (t : Int) (vrt β i : Int) - max (max (f : Int) (vy β l : Int)) (vrf β i : Int) + 1) = ((min t (vrt β i) : Nat) - (max f (rmx β l i) : Nat) + 1 : Int) by unfold rmx; omega]
        rfl) (fun n => by
      show f_X0_turned_l18 B 4 (w32 l) (w32 t) _ h (n + 1) _ (w32 (vR β)) = _
      rw [f_X0_turned_l18, eR, if_pos (Int32.le_refl _)]) FU (by unfold FU; omega)
  rw [lp, bnd_s, tD_eq hf]
theorem k_own (hB : BC h B β) (hW : WAY h ω) (hL : LC h r0 a) (oB : okB β) (oW : okW ω) (oL : okL a) (hl : l < vL β) : f_X0_ownDirt B 4 r0 (w32 l) h = some (w32 (own β ω a l)) := by
  have eW := hB.2.2.2.1
  have o4 := oB.2.2.2.1
  have eD := hL.1
  have lp : f_X0_ownDirt_l9 B 4 r0 (w32 l) h FU 0 0 0 = some (w32 (oW' β ω a l (fw β (vW β))), w32 (fw β (vW β) : Nat)) := loopN (fun n (s : Int32 × Int32 × Int32) => f_X0_ownDirt_l9 B 4 r0 (w32 l) h n s.1 s.2.1 s.2.2) (fun i => (w32 (oW' β ω a l (fw β i)), w32 (fw β i : Nat), w32 (i : Nat))) (vW β) _ (fun i n hi => by
      obtain ⟨d1, d2⟩ := hB.2.2.2.2.2.2.1 i hi
      obtain ⟨q1, q2, q3⟩ := oB.2.2.2.2.2.2.1 i hi
      have f1 := fw_le oB hi
      have r1 := oW_rg (a := a) oB oW hl (fw β i)
      have r1' := oW_rg2 oB oW oL hl (fw β i)
      have r2 := tA_rg oB oW hl (vwy β i + 1)
      have r3 := tA_rg oB oW hl (fw β i)
      have g := oW_gap (β := β) (ω := ω) (a := a) (l := l) f1 (fun y h1 h2 v hv q => by
        by_cases c : v < i
        · have := fw_bef oB (Nat.le_of_lt hi) c; omega
        · by_cases c2 : v = i
          · subst c2; omega
          · have := oB.2.2.2.2.2.2.2.1 i v (by omega) hv; omega)
      have g2 := oW_rg2 oB oW oL hl (vwy β i)
      have ti := tI_rg oB oW hl (vwy β i)
      have hv : 0 ≤ oW' β ω a l (fw β i) + ld a * (tA β ω l (vwy β i + 1) - tA β ω l (fw β i)) ∧ oW' β ω a l (fw β i) + ld a * (tA β ω l (vwy β i + 1) - tA β ω l (fw β i)) ≤ 2000000000 := by
        have m := mul_rg (a := (ld a : Int)) (A := 50) (b := tI' β ω l (vwy β i)) (B := 792) (by omega) (by have := oL.2.1; omega) ti.1 ti.2
        rw [tA_s, show tA β ω l (vwy β i) + tI' β ω l (vwy β i) - tA β ω l (fw β i) = (tA β ω l (vwy β i) - tA β ω l (fw β i)) + tI' β ω l (vwy β i) by omega, Int.mul_add]
        omega
      show f_X0_ownDirt_l9 B 4 r0 (w32 l) h (n + 1) (w32 (oW' β ω a l (fw β i))) (w32 (fw β i : Nat)) (w32 i) = f_X0_ownDirt_l9 B 4 r0 (w32 l) h n (w32 (oW' β ω a l (fw β (i + 1)))) (w32 (fw β (i + 1) : Nat)) (w32 (i + 1 : Nat))
      rw [f_X0_ownDirt_l9, eW, if_neg (by rw [w_le _ _ (by omega) (by omega) (by omega) (by omega)]; omega), gd_t (by rw [w_ibN _ _ (by omega)]; omega), w_clN _ (by omega), d1, k_turned hB hW oB oW hl (by omega) q1, bnd_s, gd_t (by rw [w_ibN _ _ (by omega)]; omega), gd_t (by rw [w_ibN _ _ (by omega)]; omega), eD, d2, w_mul, w_add, e_wash hv.1 hv.2 (by omega), ← oW_wash oB hi, wl_1, w_add, w_add, w_s, w_s, show vwy β i + 1 = fw β (i + 1) from by unfold fw; rw [if_neg (by omega)]; rfl]) (fun n => by
      show f_X0_ownDirt_l9 B 4 r0 (w32 l) h (n + 1) _ _ (w32 (vW β)) = _
      rw [f_X0_ownDirt_l9, eW, if_pos (Int32.le_refl _)]) FU (by unfold FU; omega)
  have f2 := fw_le2 oB (Nat.le_refl (vW β))
  unfold f_X0_ownDirt
  rw [lp, bnd_s]
  dsimp only
  rw [show (500 : Int32) = w32 (500 : Nat) from rfl, k_turned hB hW oB oW hl (by omega) (by omega), bnd_s, eD, w_mul, w_add, own_eq oB]
theorem WAY.fr {W : Nat → Prop} {h' : AH} (hW : WAY h ω) (hF : Fr W h h') (h4 : ¬ W 4) (hd : ∀ w, w < 6 → ¬ W (hra h 4 w + 1) ∧ ¬ W (hra h 4 w + 2)) : WAY h' ω := by
  have e : hra h' 4 = hra h 4 := (hF 4 h4).2.2.2.2
  refine ⟨fun w hw => ?_, fun w hw => by rw [e]; exact hW.2 w hw⟩
  rw [e]
  exact (hW.1 w hw).fr hF (hd w hw).1 (hd w hw).2
/-- the class's row of all that is on each leaf -/
theorem k_fillAll (hB : BC h B β) (hX : isB B) (hW : WAY h ω) (hWy : ∀ w, w < 6 → isWy (hra h 4 w)) (hL : LC h r0 a) (hr : isLw r0) (oB : okB β) (oW : okW ω) (oL : okL a) : ∃ h1, f_X0_fillAll B 66 40 4 r0 h = some h1 ∧ Fr (fun c => c = 66) h h1 ∧ ∀ i, i < vL β → hia h1 66 i = w32 (al β ω a (i + 1)) := by
  have o1 := oB.1
  unfold isB at hX
  unfold isLw at hr
  obtain ⟨h1, e, q⟩ := loopR (fun n (s : Int32 × Int32 × AH) => f_X0_fillAll_l6 B 66 4 r0 40 n s.1 s.2.1 s.2.2) (fun i s => s.1 = w32 (al β ω a i) ∧ s.2.1 = w32 (i : Nat) ∧ Fr (fun c => c = 66) h s.2.2 ∧ ∀ j, j < i → hia s.2.2 66 j = w32 (al β ω a (j + 1))) (fun h1 => Fr (fun c => c = 66) h h1 ∧ ∀ i, i < vL β → hia h1 66 i = w32 (al β ω a (i + 1))) (vL β) (fun i n s hi hP => by
      obtain ⟨v4, v5, hh⟩ := s
      obtain ⟨p1, p2, p3, p4⟩ := hP
      dsimp only at p1 p2 p3 p4
      subst p1 p2
      have hB2 := hB.fr p3 (fun c h1 h2 => by omega)
      have hW2 := hW.fr p3 (by omega) (fun w hw => by have := hWy w hw; unfold isWy at this; omega)
      have hL2 := hL.fr p3 (by omega)
      have d1 := hB2.1
      have d6 := (hB2.2.2.2.2.2.1 i hi).2.2.2.2.2
      have ra := al_rg oB oW oL i (by omega)
      refine ⟨(w32 (al β ω a (i + 1)), w32 (i + 1 : Nat), sia hh 66 i (w32 (al β ω a (i + 1)))), ⟨rfl, rfl, p3.tr (Fr.sia _ _ _ _ rfl), fun j hj => ?_⟩, ?_⟩
      · show hia (sia hh 66 _ _) 66 j = _
        rw [ia_sia]
        by_cases q : j = i
        · rw [if_pos q, q]
        · rw [if_neg q]; exact p4 j (by omega)
      · show f_X0_fillAll_l6 B 66 4 r0 40 (n + 1) (w32 (al β ω a i)) (w32 i) hh = f_X0_fillAll_l6 B 66 4 r0 40 n _ _ _
        rw [f_X0_fillAll_l6, d1, if_neg (by rw [w_le _ _ (by omega) (by omega) (by omega) (by omega)]; omega), if_neg (by rw [show Int32.ofNat 40 = w32 (40 : Nat) from rfl, w_le _ _ (by omega) (by omega) (by omega) (by omega)]; omega), k_own hB2 hW2 hL2 oB oW oL hi, bnd_s, gd_t (by rw [w_ibN _ _ (by omega)]; omega), k_through hL2 oL ra.1 (by omega), bnd_s, gd_t (by rw [w_ibN _ _ (by omega)]; omega), lt_b, w_clN _ (by omega), d6, w_add, w_add, ← al_s, wl_1, w_add, w_s]) (fun n s hP => by
      obtain ⟨v4, v5, hh⟩ := s
      obtain ⟨p1, p2, p3, p4⟩ := hP
      dsimp only at p1 p2 p3 p4
      subst p1 p2
      have d1 := (hB.fr p3 (fun c h1 h2 => by omega)).1
      refine ⟨hh, ?_, p3, p4⟩
      show f_X0_fillAll_l6 B 66 4 r0 40 (n + 1) _ (w32 (vL β)) hh = _
      rw [f_X0_fillAll_l6, d1, if_pos (Int32.le_refl _)]) FU (by unfold FU; omega) (0, 0, h) ⟨rfl, rfl, Fr.rf, fun j hj => by omega⟩
  refine ⟨h1, ?_, q⟩
  unfold f_X0_fillAll
  rw [show f_X0_fillAll_l6 B 66 4 r0 40 FU 0 0 h = _ from e, bnd_s]
/-- the shades -/
def shd (β : BV) (ω : WV) (a : LV) (l : Nat) : Int := sBare β l + al β ω a (l + 1)
theorem shd_rg (oB : okB β) (oW : okW ω) (oL : okL a) (hl : l < vL β) : 0 ≤ shd β ω a l ∧ shd β ω a l ≤ 198406290 := by
  have := al_rg oB oW oL (l + 1) (by omega)
  have := sBare_rg oB hl
  unfold shd
  omega
theorem k_shades (hB : BC h B β) (hX : isB B) (hW : WAY h ω) (hWy : ∀ w, w < 6 → isWy (hra h 4 w)) (hL : LC h (hra h 0 3) a) (hr : isLw (hra h 0 3)) (oB : okB β) (oW : okW ω) (oL : okL a) : ∃ h1, f_X11_fillShades B h = some h1 ∧ Fr (fun c => c = 66) h h1 ∧ ∀ i, i < vL β → hia h1 66 i = w32 (shd β ω a i) := by
  have o1 := oB.1
  obtain ⟨h1, e1, f1, z1⟩ := k_fillAll hB hX hW hWy hL hr oB oW oL
  unfold isB at hX
  obtain ⟨h2, e2, q⟩ := loopR (fun n (s : Int32 × AH) => f_X11_fillShades_l18 B n s.1 s.2) (fun i s => s.1 = w32 (i : Nat) ∧ Fr (fun c => c = 66) h s.2 ∧ (∀ j, j < i → hia s.2 66 j = w32 (shd β ω a j)) ∧ ∀ j, i ≤ j → j < vL β → hia s.2 66 j = w32 (al β ω a (j + 1))) (fun h1 => Fr (fun c => c = 66) h h1 ∧ ∀ i, i < vL β → hia h1 66 i = w32 (shd β ω a i)) (vL β) (fun i n s hi hP => by
      obtain ⟨v5, hh⟩ := s
      obtain ⟨p1, p2, p3, p4⟩ := hP
      dsimp only at p1 p2 p3 p4
      subst p1
      have hB2 := hB.fr p2 (fun c h1 h2 => by omega)
      have d1 := hB2.1
      have d6 := p4 i (Nat.le_refl _) hi
      refine ⟨(w32 (i + 1 : Nat), sia hh 66 i (w32 (shd β ω a i))), ⟨rfl, p2.tr (Fr.sia _ _ _ _ rfl), fun j hj => ?_, fun j hj hj2 => ?_⟩, ?_⟩
      · show hia (sia hh 66 _ _) 66 j = _
        rw [ia_sia]
        by_cases q : j = i
        · rw [if_pos q, q]
        · rw [if_neg q]; exact p3 j (by omega)
      · show hia (sia hh 66 _ _) 66 j = _
        rw [ia_sia, if_neg (by omega)]; exact p4 j (by omega) hj2
      · show f_X11_fillShades_l18 B (n + 1) (w32 i) hh = f_X11_fillShades_l18 B n _ _
        rw [f_X11_fillShades_l18, d1, if_neg (by rw [w_le _ _ (by omega) (by omega) (by omega) (by omega)]; omega), gd_t (by rw [w_ibN _ _ (by omega)]; omega), k_bare hB2 oB hi, bnd_s, gd_t (by rw [w_ibN _ _ (by omega)]; omega), lt_b, w_clN _ (by omega), d6, w_add, show al β ω a (i + 1) + sBare β i = shd β ω a i from by unfold shd; omega, wl_1, w_add, w_s]) (fun n s hP => by
      obtain ⟨v5, hh⟩ := s
      obtain ⟨p1, p2, p3, p4⟩ := hP
      dsimp only at p1 p2 p3 p4
      subst p1
      have d1 := (hB.fr p2 (fun c h1 h2 => by omega)).1
      refine ⟨hh, ?_, p2, p3⟩
      show f_X11_fillShades_l18 B (n + 1) (w32 (vL β)) hh = _
      rw [f_X11_fillShades_l18, d1, if_pos (Int32.le_refl _)]) FU (by unfold FU; omega) (0, h1) ⟨rfl, f1, fun j hj => by omega, fun j _ hj => z1 j hj⟩
  refine ⟨h2, ?_, q⟩
  unfold f_X11_fillShades
  rw [gd_t (isLw_sh hr), e1, bnd_s, show f_X11_fillShades_l18 B FU 0 h1 = _ from e2, bnd_s]
end DRC
