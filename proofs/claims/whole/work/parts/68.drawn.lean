/-! readings that are drawn -/
theorem sh16 (v : Int32) : ((Int32.toUInt32 v >>> (Int32.toUInt32 16 &&& Int32.toUInt32 31)).toInt32) &&& 32767 = (v >>> ((16 : Int32) &&& 31)) &&& 32767 := by
  apply Int32.toBitVec_inj.mp
  rw [show ((16 : Int32) &&& 31) = 16 from by decide, show (Int32.toUInt32 16 &&& Int32.toUInt32 31) = 16 from by decide]
  have e1 : ((Int32.toUInt32 v >>> (16 : UInt32)).toInt32 &&& 32767).toBitVec = (v.toBitVec >>> (16 : Nat)) &&& 32767#32 := rfl
  have e2 : ((v >>> (16 : Int32)) &&& 32767).toBitVec = (v.toBitVec.sshiftRight 16) &&& 32767#32 := rfl
  rw [e1, e2]
  apply BitVec.eq_of_getLsbD_eq
  intro i hi
  rw [BitVec.getLsbD_and, BitVec.getLsbD_and, BitVec.getLsbD_ushiftRight, BitVec.getLsbD_sshiftRight]
  by_cases q : i < 15
  · rw [show decide (32 ≤ i) = false from decide_eq_false (by omega), if_pos (by omega)]
    simp
  · have : (32767#32).getLsbD i = false := by
      have h : ∀ j : Fin 32, ¬ j.val < 15 → (32767#32).getLsbD j.val = false := by decide
      exact h ⟨i, hi⟩ q
    rw [this, Bool.and_false, Bool.and_false]
def bt (v : Int32) : Nat := ((v >>> ((16 : Int32) &&& 31)) &&& 32767).toBitVec.toNat
theorem bt_eq (v : Int32) : (v >>> ((16 : Int32) &&& 31)) &&& 32767 = w32 (bt v : Int) ∧ bt v ≤ 32767 := by
  have h1 : bt v ≤ 32767 := by
    show ((v >>> ((16 : Int32) &&& 31)).toBitVec &&& 32767#32).toNat ≤ 32767
    rw [BitVec.toNat_and]
    exact Nat.and_le_right
  refine ⟨?_, h1⟩
  apply Int32.toInt_inj.mp
  rw [w32_toInt _ (by omega) (by omega)]
  exact BitVec.toInt_eq_toNat_of_lt (by show 2 * bt v < _; omega)
def dd (s : Nat) (v : Int32) : Int := (bt v : Int) - (bt v : Int) / (2 * s + 1) * (2 * s + 1)
theorem dd_rg (s : Nat) (v : Int32) : 0 ≤ dd s v ∧ dd s v ≤ 2 * s := by
  have h := Int.emod_def (bt v : Int) (2 * s + 1)
  have h1 := Int.emod_nonneg (bt v : Int) (show (2 * (s : Int) + 1) ≠ 0 by omega)
  have h2 := Int.emod_lt_of_pos (bt v : Int) (show 0 < (2 * (s : Int) + 1) by omega)
  have e : (bt v : Int) / (2 * s + 1) * (2 * s + 1) = (2 * s + 1) * ((bt v : Int) / (2 * s + 1)) := Int.mul_comm _ _
  unfold dd
  omega
def rdg (x : Int) (s : Nat) (v : Int32) : Int := max 0 (x + dd s v - s)
def stp (v : Int32) : Int32 := v * 1103515245 + 12345
noncomputable def dS (x : Nat → Int) (s : Nat) (γ : GV) (s0 : Int32) : Nat → Int32 × Nat × GV
  | 0 => (s0, 0, γ)
  | l + 1 => (stp (dS x s γ s0 l).1, @ite Nat (tkP (dS x s γ s0 l).2.2 s l (rdg (x l) s (stp (dS x s γ s0 l).1))) (Classical.propDecidable _) (dS x s γ s0 l).2.1 ((dS x s γ s0 l).2.1 + 1), tk (dS x s γ s0 l).2.2 s l (rdg (x l) s (stp (dS x s γ s0 l).1)))
section DRA
variable {h : AH} {g b n s l B : Nat} {γ : GV} {x : Nat → Int} {s0 : Int32}
theorem dS_1 (q : tkP (dS x s γ s0 l).2.2 s l (rdg (x l) s (stp (dS x s γ s0 l).1))) : dS x s γ s0 (l + 1) = (stp (dS x s γ s0 l).1, (dS x s γ s0 l).2.1, tkG (dS x s γ s0 l).2.2 l (tkF (dS x s γ s0 l).2.2 s l (rdg (x l) s (stp (dS x s γ s0 l).1))) (tkT (dS x s γ s0 l).2.2 s l (rdg (x l) s (stp (dS x s γ s0 l).1)))) := by
  rw [dS, tk_1 q, @if_pos _ (Classical.propDecidable _) q]
theorem dS_0 (q : ¬ tkP (dS x s γ s0 l).2.2 s l (rdg (x l) s (stp (dS x s γ s0 l).1))) : dS x s γ s0 (l + 1) = (stp (dS x s γ s0 l).1, (dS x s γ s0 l).2.1 + 1, (dS x s γ s0 l).2.2) := by
  rw [dS, tk_0 q, @if_neg _ (Classical.propDecidable _) q]
theorem dS_ok (oG : okG n γ) (hs : s ≤ 50) (i : Nat) (hi : i ≤ n) : okG n (dS x s γ s0 i).2.2 ∧ (dS x s γ s0 i).2.1 ≤ i := by
  induction i with
  | zero => exact ⟨oG, Nat.le_refl _⟩
  | succ i ih =>
    obtain ⟨a1, a2⟩ := ih (by omega)
    rcases Classical.em (tkP (dS x s γ s0 i).2.2 s i (rdg (x i) s (stp (dS x s γ s0 i).1))) with q | q
    · rw [dS_1 q]; exact ⟨tkG_ok a1 (by omega) hs q, by dsimp only; omega⟩
    · rw [dS_0 q]; exact ⟨a1, by dsimp only; omega⟩
/-- the class: seed and shade make a reading -/
theorem k_reading {r : Nat} (hL : hfi h r 2 = w32 s) (hr : hra h 0 3 = r) (sL : SH r = (5, 0)) (hl : l < 40) (hs : s ≤ 50) (hx : hia h 66 l = w32 (x l)) (rx : 0 ≤ x l ∧ x l ≤ 1000000000) (v : Int32) : f_X11_reading (w32 l) v h = some (w32 (rdg (x l) s v)) ∧ 0 ≤ rdg (x l) s v ∧ rdg (x l) s v ≤ 2000000000 := by
  obtain ⟨b1, b2⟩ := bt_eq v
  have rd := dd_rg s v
  refine ⟨?_, by unfold rdg; omega, by unfold rdg; omega⟩
  unfold f_X11_reading
  rw [hr, gd_t sL, gd_t (by rw [w_ibN _ _ (by omega)]; omega), hL, show (2 : Int32) * w32 s + 1 = w32 (2 * (s : Int) + 1) from by rw [wl_2, w_mul, wl_1, w_add], if_pos (by rw [wl_1, w_le _ _ (by omega) (by omega) (by omega) (by omega)]; omega), sh16, b1]
  have fm : f_J9_floorMod_7cf53 (w32 (bt v : Int)) (w32 (2 * (s : Int) + 1)) = some (w32 (dd s v)) := by
    have hx := xor32 (w32 (bt v : Int)) (w32 (2 * (s : Int) + 1))
    rw [w32_toInt _ (by omega) (by omega), w32_toInt _ (by omega) (by omega)] at hx
    unfold f_J9_floorMod_7cf53
    rw [gd_t (by rw [wl_0, w_eq _ _ (by omega) (by omega) (by omega) (by omega)]; omega), if_pos (hx.mpr (by omega)), w_divP _ _ (by omega) (by omega) (by omega) (by omega), w_mul, w_sub]
    rfl
  rw [fm, bnd_s, gd_t sL, w_clN _ (by omega), hx, w_add, w_sub, wl_0, e_max _ _ (by omega) (by omega) (by omega) (by omega)]
  rfl
/-- the reference -/
theorem m_draw (es : hia h 215 2 = w32 s) (hs : s ≤ 50) : f_X12_draw ((2 * (hia h 215 2)) + 1) h = some (w32 (dd s (stp (hfi h 193 40))), sfi h 193 40 (stp (hfi h 193 40))) := by
  obtain ⟨b1, b2⟩ := bt_eq (stp (hfi h 193 40))
  unfold f_X12_draw
  rw [lt_b, fi_sfi_eq, es, show (2 : Int32) * w32 s + 1 = w32 (2 * (s : Int) + 1) from by rw [wl_2, w_mul, wl_1, w_add], gd_t (by rw [wl_0, w_eq _ _ (by omega) (by omega) (by omega) (by omega)]; omega), show hfi h 193 40 * 1103515245 + 12345 = stp (hfi h 193 40) from rfl, b1, w_divP _ _ (by omega) (by omega) (by omega) (by omega), w_mul, w_sub]
  rfl
def W3 (c : Nat) : Prop := c = 193 ∨ c = 208 ∨ c = 209
theorem m_drawAll {β : BV} {a : LV} (hB : BM h b β) (hb : b < 8) (hG : GM h b (vL β) γ) (hL : LM h a) (oB : okB β) (oG : okG (vL β) γ) (oL : okL a) (hx : ∀ i, i < vL β → hia h 222 i = w32 (x i)) (rx : ∀ i, i < vL β → 0 ≤ x i ∧ x i ≤ 1000000000) : ∃ h1, f_X12_drawAll (w32 b) h = some (w32 ((dS x (ls a) γ (hfi h 193 40) (vL β)).2.1 : Int), h1) ∧ Fr W3 h h1 ∧ FrN b h h1 ∧ (∀ k, k ≠ 40 → hfi h1 193 k = hfi h 193 k) ∧ hfi h1 193 40 = (dS x (ls a) γ (hfi h 193 40) (vL β)).1 ∧ GM h1 b (vL β) (dS x (ls a) γ (hfi h 193 40) (vL β)).2.2 := by
  have o1 := oB.1
  have hs := oL.2.2.2
  have g26 : ib 2 6 = true := by decide
  have cl2 : cl 2 = 2 := by decide
  generalize hs0 : hfi h 193 40 = s0
  obtain ⟨⟨r1, h1⟩, e, q⟩ := loopR (fun n (t : Int32 × Int32 × AH) => f_X12_drawAll_l4 (w32 b) n t.1 t.2.1 t.2.2) (fun i t => t.1 = w32 ((dS x (ls a) γ s0 i).2.1 : Int) ∧ t.2.1 = w32 (i : Nat) ∧ Fr W3 h t.2.2 ∧ FrN b h t.2.2 ∧ (∀ k, k ≠ 40 → hfi t.2.2 193 k = hfi h 193 k) ∧ hfi t.2.2 193 40 = (dS x (ls a) γ s0 i).1 ∧ GM t.2.2 b (vL β) (dS x (ls a) γ s0 i).2.2) (fun t => t.1 = w32 ((dS x (ls a) γ s0 (vL β)).2.1 : Int) ∧ Fr W3 h t.2 ∧ FrN b h t.2 ∧ (∀ k, k ≠ 40 → hfi t.2 193 k = hfi h 193 k) ∧ hfi t.2 193 40 = (dS x (ls a) γ s0 (vL β)).1 ∧ GM t.2 b (vL β) (dS x (ls a) γ s0 (vL β)).2.2) (vL β) (fun i n t hi hP => by
      obtain ⟨v2, v3, hh⟩ := t
      obtain ⟨p1, p2, p3, p4, p5, p6, p7⟩ := hP
      dsimp only at p1 p2 p3 p4 p5 p6 p7
      subst p1 p2
      have d1 := (hB.fr p3 (fun c h1 h2 h3 => by unfold W3; omega)).1
      have es : hia hh 215 2 = w32 (ls a) := (hL.fr p3 (by unfold W3; omega)).2.2
      have x1 : hia hh 222 i = w32 (x i) := by rw [(p3 222 (by unfold W3; omega)).2.2.1]; exact hx i hi
      have rxi := rx i hi
      have oGi := dS_ok (x := x) (s0 := s0) oG hs i (by omega)
      have md := m_draw (h := hh) es hs
      rw [p6] at md
      have rd := dd_rg (ls a) (stp (dS x (ls a) γ s0 i).1)
      have F1 : FrN b hh (sfi hh 193 40 (stp (dS x (ls a) γ s0 i).1)) := FrN.fl _ _ _ _ (by omega)
      have F1' : Fr W3 hh (sfi hh 193 40 (stp (dS x (ls a) γ s0 i).1)) := Fr.sfi _ _ _ _ (by unfold W3; omega)
      have gm1 : GM (sfi hh 193 40 (stp (dS x (ls a) γ s0 i).1)) b (vL β) (dS x (ls a) γ s0 i).2.2 := p7
      have rv : 0 ≤ rdg (x i) (ls a) (stp (dS x (ls a) γ s0 i).1) ∧ rdg (x i) (ls a) (stp (dS x (ls a) γ s0 i).1) ≤ 2000000000 := by unfold rdg; omega
      have mr := m_reads (v := rdg (x i) (ls a) (stp (dS x (ls a) γ s0 i).1)) gm1 oGi.1 o1 hb hi hs es (by omega) (by omega)
      have hd : f_X12_drawAll_l4 (w32 b) (n + 1) (w32 ((dS x (ls a) γ s0 i).2.1 : Int)) (w32 i) hh = bnd (f_X12_reads (w32 b) (w32 i) (w32 (rdg (x i) (ls a) (stp (dS x (ls a) γ s0 i).1))) (sfi hh 193 40 (stp (dS x (ls a) γ s0 i).1))) (fun q7 => if q7.1 = true then f_X12_drawAll_l4 (w32 b) n (w32 ((dS x (ls a) γ s0 i).2.1 : Int) + 0) (w32 i + 1) q7.2 else f_X12_drawAll_l4 (w32 b) n (w32 ((dS x (ls a) γ s0 i).2.1 : Int) + 1) (w32 i + 1) q7.2) := by
        rw [f_X12_drawAll_l4, gd_t (by rw [w_ibN _ _ (by omega)]; omega), w_clN _ (by omega), d1, if_neg (by rw [w_le _ _ (by omega) (by omega) (by omega) (by omega)]; omega), gd_t (by rw [w_ibN _ _ (by omega)]; omega), gd_t g26, cl2, md, bnd_s, gd_t g26]
        dsimp only
        rw [w_clN _ (by omega), x1, w_add, show hia (sfi hh 193 40 (stp (dS x (ls a) γ s0 i).1)) 215 2 = w32 (ls a) from es, w_sub, wl_0, e_max _ _ (by omega) (by omega) (by omega) (by omega)]
        rfl
      rcases Classical.em (tkP (dS x (ls a) γ s0 i).2.2 (ls a) i (rdg (x i) (ls a) (stp (dS x (ls a) γ s0 i).1))) with q | q
      · rw [mr.1 q, bnd_s] at hd
        dsimp only at hd
        rw [if_pos rfl, wl_0, w_add, Int.add_zero, wl_1, w_add, w_s] at hd
        refine ⟨(_, _, _), ⟨?_, rfl, ?_, ?_, ?_, ?_, ?_⟩, hd⟩
        · rw [dS_1 q] <;> rfl
        · exact ((p3.tr F1').tr (Fr.sia _ _ _ _ (by unfold W3; omega))).tr (Fr.sia _ _ _ _ (by unfold W3; omega))
        · exact ((p4.tr F1).tr (FrN.w _ _ _ _ _ (by omega))).tr (FrN.w _ _ _ _ _ (by omega))
        · intro k hk
          show hfi (sfi hh 193 40 _) 193 k = _
          rw [fi_sfi_nk _ _ _ _ _ hk]; exact p5 k hk
        · show hfi (sfi hh 193 40 _) 193 40 = _
          rw [fi_sfi_eq, dS_1 q] <;> rfl
        · rw [dS_1 q]
          exact GM.tk gm1 _ _
      · rw [mr.2 q, bnd_s] at hd
        dsimp only at hd
        rw [if_neg (by decide), wl_1, w_add, w_add, w_s, w_s] at hd
        refine ⟨(_, _, _), ⟨?_, rfl, ?_, ?_, ?_, ?_, ?_⟩, hd⟩
        · rw [dS_0 q] <;> rfl
        · exact p3.tr F1'
        · exact p4.tr F1
        · intro k hk
          show hfi (sfi hh 193 40 _) 193 k = _
          rw [fi_sfi_nk _ _ _ _ _ hk]; exact p5 k hk
        · show hfi (sfi hh 193 40 _) 193 40 = _
          rw [fi_sfi_eq, dS_0 q] <;> rfl
        · rw [dS_0 q]
          exact gm1) (fun n t hP => by
      obtain ⟨v2, v3, hh⟩ := t
      obtain ⟨p1, p2, p3, p4, p5, p6, p7⟩ := hP
      dsimp only at p1 p2 p3 p4 p5 p6 p7
      subst p1 p2
      have d1 := (hB.fr p3 (fun c h1 h2 h3 => by unfold W3; omega)).1
      refine ⟨(w32 ((dS x (ls a) γ s0 (vL β)).2.1 : Int), hh), ?_, rfl, p3, p4, p5, p6, p7⟩
      show f_X12_drawAll_l4 (w32 b) (n + 1) _ (w32 (vL β)) hh = _
      rw [f_X12_drawAll_l4, gd_t (by rw [w_ibN _ _ (by omega)]; omega), w_clN _ (by omega), d1, if_pos (Int32.le_refl _)]) FU (by unfold FU; omega) (0, 0, h) ⟨rfl, rfl, Fr.rf, FrN.rf, fun _ _ => rfl, hs0, hG⟩
  obtain ⟨q1, q2⟩ := q
  dsimp only at q1 q2
  subst q1
  refine ⟨h1, ?_, q2⟩
  unfold f_X12_drawAll
  rw [show f_X12_drawAll_l4 (w32 b) FU 0 0 h = _ from e, bnd_s]
end DRA
section DRW
variable {h : AH} {S : SV} {T : Nat}
theorem k_drawn20 {β : BV} {a : LV} {γ : GV} {B : Nat} {x : Nat → Int} (hB : BC h B β) (hX : isB B) (hL : LC h (hra h 0 3) a) (hr : isLw (hra h 0 3)) (hG : GC h (B + 7) (vL β) γ) (oB : okB β) (oG : okG (vL β) γ) (oL : okL a) (hx : ∀ i, i < vL β → hia h 66 i = w32 (x i)) (rx : ∀ i, i < vL β → 0 ≤ x i ∧ x i ≤ 1000000000) (s0 : Int32) : ∃ h1, f_X11_drawn_l20 B FU s0 0 0 h = some (w32 ((dS x (ls a) γ s0 (vL β)).2.1 : Int), h1) ∧ Fr (fun c => c = B + 8 ∨ c = B + 9) h h1 ∧ GC h1 (B + 7) (vL β) (dS x (ls a) γ s0 (vL β)).2.2 := by
  have o1 := oB.1
  have hs := oL.2.2.2
  have sL := isLw_sh hr
  unfold isB at hX
  unfold isLw at hr
  obtain ⟨⟨r1, h1⟩, e, q⟩ := loopR (fun n (t : Int32 × Int32 × Int32 × AH) => f_X11_drawn_l20 B n t.1 t.2.1 t.2.2.1 t.2.2.2) (fun i t => t.1 = (dS x (ls a) γ s0 i).1 ∧ t.2.1 = w32 ((dS x (ls a) γ s0 i).2.1 : Int) ∧ t.2.2.1 = w32 (i : Nat) ∧ Fr (fun c => c = B + 8 ∨ c = B + 9) h t.2.2.2 ∧ GC t.2.2.2 (B + 7) (vL β) (dS x (ls a) γ s0 i).2.2) (fun t => t.1 = w32 ((dS x (ls a) γ s0 (vL β)).2.1 : Int) ∧ Fr (fun c => c = B + 8 ∨ c = B + 9) h t.2 ∧ GC t.2 (B + 7) (vL β) (dS x (ls a) γ s0 (vL β)).2.2) (vL β) (fun i n t hi hP => by
      obtain ⟨v4, v5, v6, hh⟩ := t
      obtain ⟨p1, p2, p3, p4, p5⟩ := hP
      dsimp only at p1 p2 p3 p4 p5
      subst p1 p2 p3
      have d1 : hfi hh B 0 = w32 (vL β) := by rw [(p4 B (by omega)).1]; exact hB.1
      have r3 : hra hh 0 = hra h 0 := (p4 0 (by omega)).2.2.2.2
      have es : hfi hh (hra h 0 3) 2 = w32 (ls a) := by rw [(p4 _ (by omega)).1]; exact hL.2.2
      have x1 : hia hh 66 i = w32 (x i) := by rw [(p4 66 (by omega)).2.2.1]; exact hx i hi
      have oGi := dS_ok (x := x) (s0 := s0) oG hs i (by omega)
      obtain ⟨kr, kr1, kr2⟩ := k_reading (h := hh) es (by rw [r3]) sL (show i < 40 by omega) hs x1 (rx i hi) (stp (dS x (ls a) γ s0 i).1)
      have kt := k_take (v := rdg (x i) (ls a) (stp (dS x (ls a) γ s0 i).1)) p5 oGi.1 o1 hi hs (by omega) (by omega)
      have hd : f_X11_drawn_l20 B (n + 1) (dS x (ls a) γ s0 i).1 (w32 ((dS x (ls a) γ s0 i).2.1 : Int)) (w32 i) hh = bnd (f_X3_take (B + 7) (w32 i) (w32 (rdg (x i) (ls a) (stp (dS x (ls a) γ s0 i).1))) (w32 (ls a)) hh) (fun q7 => if q7.1 = true then f_X11_drawn_l20 B n (stp (dS x (ls a) γ s0 i).1) (w32 ((dS x (ls a) γ s0 i).2.1 : Int)) (w32 i + 1) q7.2 else f_X11_drawn_l20 B n (stp (dS x (ls a) γ s0 i).1) (w32 ((dS x (ls a) γ s0 i).2.1 : Int) + 1) (w32 i + 1) q7.2) := by
        rw [f_X11_drawn_l20, d1, if_neg (by rw [w_le _ _ (by omega) (by omega) (by omega) (by omega)]; omega), show f_X11_stepped (dS x (ls a) γ s0 i).1 = stp (dS x (ls a) γ s0 i).1 from rfl, kr, bnd_s, r3, gd_t sL, es]
      rcases Classical.em (tkP (dS x (ls a) γ s0 i).2.2 (ls a) i (rdg (x i) (ls a) (stp (dS x (ls a) γ s0 i).1))) with q | q
      · rw [kt.1 q, bnd_s] at hd
        dsimp only at hd
        rw [if_pos rfl, wl_1, w_add, w_s] at hd
        refine ⟨(_, _, _, _), ⟨?_, ?_, rfl, ?_, ?_⟩, hd⟩
        · rw [dS_1 q] <;> rfl
        · rw [dS_1 q] <;> rfl
        · exact (p4.tr (Fr.sia _ _ _ _ (by omega))).tr (Fr.sia _ _ _ _ (by omega))
        · rw [dS_1 q]
          exact GC.tk p5 _ _
      · rw [kt.2 q, bnd_s] at hd
        dsimp only at hd
        rw [if_neg (by decide), wl_1, w_add, w_add, w_s, w_s] at hd
        refine ⟨(_, _, _, _), ⟨?_, ?_, rfl, p4, ?_⟩, hd⟩
        · rw [dS_0 q] <;> rfl
        · rw [dS_0 q] <;> rfl
        · rw [dS_0 q]
          exact p5) (fun n t hP => by
      obtain ⟨v4, v5, v6, hh⟩ := t
      obtain ⟨p1, p2, p3, p4, p5⟩ := hP
      dsimp only at p1 p2 p3 p4 p5
      subst p1 p2 p3
      have d1 : hfi hh B 0 = w32 (vL β) := by rw [(p4 B (by omega)).1]; exact hB.1
      refine ⟨(w32 ((dS x (ls a) γ s0 (vL β)).2.1 : Int), hh), ?_, rfl, p4, p5⟩
      show f_X11_drawn_l20 B (n + 1) _ _ (w32 (vL β)) hh = _
      rw [f_X11_drawn_l20, d1, if_pos (Int32.le_refl _)]) FU (by unfold FU; omega) (s0, 0, 0, h) ⟨rfl, rfl, rfl, Fr.rf, hG⟩
  obtain ⟨q1, q2⟩ := q
  dsimp only at q1 q2
  subst q1
  exact ⟨h1, e, q2⟩
theorem t_drawn (x y : Int32) (hI : CI h S) (oS : okS S) (hM : MI2 h S T) : TK (f_L_drawn x y h) (f_X12_drawn x y) T := by
  unfold f_L_drawn
  have g14 : ib 1 4 = true := by decide
  have cl1 : cl 1 = 1 := by decide
  obtain ⟨z, rfl, r1, r2⟩ := w_ex x
  by_cases q : 0 ≤ z ∧ z ≤ 5
  · obtain ⟨b, rfl, hb⟩ := nat_of (n := 5) q
    have hb : b < 6 := by omega
    obtain ⟨c1, c2, c3, c4⟩ := hI.2.1 b hb
    have o := oS.1 b hb
    have o1 := o.1.1
    have isX := (hI.1.1 b hb).1
    have sX := isB_sh isX
    have oL := oS.2.1
    have oW := oS.2.2.1
    have hs := oL.2.2.2
    have hr := hI.1.2.2.2.2.1
    obtain ⟨hW, hWy⟩ := hI.way
    obtain ⟨h1, e1, f1, z1⟩ := k_shades c1 isX hW hWy hI.2.2.1 hr o.1 oW oL
    have hI1 := hI.fr (f1.mono (fun c q => by unfold WS; omega))
    have r31 : hra h1 3 = hra h 3 := (f1 3 (by omega)).2.2.2.2
    obtain ⟨k1, k2, k3, k4⟩ := hI1.2.1 b hb
    rw [r31] at k1 k2 k3 k4
    have rx : ∀ i, i < vL (xb S b) → 0 ≤ shd (xb S b) (xw S) (xa S) i ∧ shd (xb S b) (xw S) (xa S) i ≤ 1000000000 := fun i hi => by have := shd_rg o.1 oW oL hi; omega
    obtain ⟨h2, e2, f2, z2⟩ := k_drawn20 (x := shd (xb S b) (xw S) (xa S)) k1 isX hI1.2.2.1 hI1.1.2.2.2.2.1 k2 o.1 o.2.1 oL z1 rx y
    generalize hN : (dS (shd (xb S b) (xw S) (xa S)) (ls (xa S)) (xg S b) y (vL (xb S b))).2.1 = N at e2
    generalize hΓ : (dS (shd (xb S b) (xw S) (xa S)) (ls (xa S)) (xg S b) y (vL (xb S b))).2.2 = Γ at z2
    have okΓ : okG (vL (xb S b)) Γ := by rw [← hΓ]; exact (dS_ok o.2.1 hs _ (Nat.le_refl _)).1
    have isX' := isX
    unfold isB at isX'
    have s31 : hia h2 31 1 = xs4 S 1 := by rw [(f2 31 (by omega)).2.2.1]; exact hI1.2.2.2.2.2.2.2.2.1 1 (by omega)
    have cls : f_X11_drawn (w32 b) y h = some (.inl (w32 N, sia h2 31 1 (xs4 S 1 + w32 N))) := by
      unfold f_X11_drawn
      rw [c_bookIn hI.1 hb, bnd_s]
      simp only [Sum.elim_inl]
      rw [gd_t sX, e1, bnd_s, e2, bnd_s]
      dsimp only
      rw [gd_t g14, gd_t g14, lt_b, cl1, s31]
    refine TK_v (S' := sB S b (xb S b) Γ (fun k => if k = 1 then xs4 S 1 + w32 N else xs4 S k)) (okS_sB oS o.1 okΓ rfl) hM ⟨_, ?_, hI1.upd hb (show hra h1 3 b = hra h 3 b by rw [r31]) ?_ ?_ ?_ ?_ rfl ?_, cls⟩ (fun h' hM' => ?_)
    · exact ((f1.mono (fun c q => by omega)).tr (f2.mono (fun c q => by omega))).tr (Fr.sia _ _ _ _ (by omega))
    · exact (f2.mono (fun c q => by omega)).tr (Fr.sia _ _ _ _ (by omega))
    · have F : Fr (fun c => c = hra h 3 b + 8 ∨ c = hra h 3 b + 9 ∨ c = 31) h1 (sia h2 31 1 (xs4 S 1 + w32 N)) := (f2.mono (fun c q => by omega)).tr (Fr.sia _ _ _ _ (by omega))
      obtain ⟨d1, d2, d3, d4, d5, d6, d7, d8⟩ := k1
      have fi := (F (hra h 3 b) (by omega)).1
      have fa : ∀ k, (1 ≤ k ∧ k ≤ 17 ∧ k ≠ 8 ∧ k ≠ 9) → hia (sia h2 31 1 (xs4 S 1 + w32 N)) (hra h 3 b + k) = hia h1 (hra h 3 b + k) := fun k hk => (F _ (by omega)).2.2.1
      refine ⟨by rw [fi]; exact d1, by rw [fi]; exact d2, by rw [fi]; exact d3, by rw [fi]; exact d4, by rw [fi]; exact d5, fun l hl => ?_, fun i hi => ?_, fun i hi => ?_⟩
      · rw [fa 1 (by omega), fa 2 (by omega), fa 3 (by omega), fa 4 (by omega), fa 5 (by omega), fa 6 (by omega)]; exact d6 l hl
      · rw [fa 13 (by omega), fa 14 (by omega)]; exact d7 i hi
      · rw [fa 15 (by omega), fa 16 (by omega), fa 17 (by omega)]; exact d8 i hi
    · exact z2.fr (W := fun c => c = 31) (Fr.sia _ _ _ _ rfl) (by omega) (by omega)
    · show hfi h2 (hra h 3 b) 2 = _
      rw [(f2 _ (by omega)).1]; exact k4
    · intro k hk
      have hk31 : ∀ k, k < 4 → hia h2 31 k = xs4 S k := fun k hk => by rw [(f2 31 (by omega)).2.2.1]; exact hI1.2.2.2.2.2.2.2.2.1 k hk
      exact xs_upd (h := h2) 1 (w32 N) (xs4 S) 31 hk31 (by omega) k hk
    · have hM1 := (hM'.fr (code0 h').1.m).fr (FrQ.code (sfi h' 193 2 0) 40 y (by omega)).m
      have mB := (hM1.1 b hb).1
      obtain ⟨m1, g1, fr1, w1⟩ := m_tell (S := S) mB (by omega) hM1.2.2.1 hM1.2.1 o.1 oW oL
      have hM2 := hM1.fr (W20.q fr1).m
      have f193 := (fr1 193 (by unfold W20; omega)).1
      have sd : hfi m1 193 40 = y := by rw [f193, fi_sfi_eq]
      obtain ⟨m2, g2, fr2, fn2, fk2, -, gm2⟩ := m_drawAll (x := shd (xb S b) (xw S) (xa S)) (hM2.1 b hb).1 (by omega) (hM2.1 b hb).2 hM2.2.1 o.1 o.2.1 oL (fun i hi => (w1 i hi).2.2) rx
      rw [sd, hN] at g2
      rw [sd, hΓ] at gm2
      have ms1 : ∀ k, k < 4 → hia m2 218 k = xs4 S k := fun k hk => by rw [(fr2 218 (by unfold W3; omega)).2.2.1]; exact hM2.2.2.2.2.2.2.1 k hk
      have m : f_X12_drawn (w32 b) y h' = some (w32 N, sia m2 218 1 (xs4 S 1 + w32 N)) := by
        unfold f_X12_drawn
        rw [lt_b, m_isBookN hb, if_pos rfl, lt_b, g1, bnd_s, g2, bnd_s]
        dsimp only
        rw [gd_t g14, gd_t g14, lt_b, cl1, ms1 1 (by omega)]
      refine ⟨_, ((((Fr.sfi _ _ _ _ (by omega)).tr (Fr.sfi _ _ _ _ (by omega))).tr (fr1.mono (fun c q => by unfold W20 at q; omega))).tr (fr2.mono (fun c q => by unfold W3 at q; omega))).tr (Fr.sia _ _ _ _ (by omega)), (hM2.updB (β := xb S b) (γ := Γ) (f := fun k => if k = 1 then xs4 S 1 + w32 N else xs4 S k) oS (fn2.tr (FrN.w _ _ _ _ _ (by omega))) ?_ ?_ rfl ?_).le (by omega), m, ?_⟩
      · exact ((hM2.1 b hb).1.fr fr2 (fun c h1 h2 h3 => by unfold W3; omega)).fr (W := fun c => c = 218) (Fr.sia _ _ _ _ rfl) (fun c h1 h2 h3 => by omega)
      · intro j hj
        rw [ia_sia_ne _ _ _ _ 208 (by omega), ia_sia_ne _ _ _ _ 209 (by omega)]
        exact gm2 j hj
      · exact xs_upd (h := m2) 1 (w32 N) (xs4 S) 218 ms1 (by omega)
      · show hfi m2 193 2 = 0
        rw [fk2 2 (by omega), f193, fi_sfi_nk _ _ _ _ _ (by omega)]
        exact (code0 h').2
  · refine TK_x (c := 1) oS hM (XCx_id (d := 0) hI ?_) (fun h1 => by rw [gd_t rfl]) (by decide) (fun h' hM' => XM_fail 1 h' hM' ?_)
    · unfold f_X11_drawn
      rw [c_bookOut r1 r2 q, bnd_s]
      rfl
    · unfold f_X12_drawn
      rw [lt_b, m_isBook r1 r2, decide_eq_false q, if_neg (by decide), m_fail, bnd_s]
end DRW
