/-! whose it was -/
def mkP (β : BV) (ω : WV) (w k l : Nat) : Int := if vk β l = k then (yr ω w (vk β l) (vp β l) : Int) else 0
def sMa (β : BV) (ω : WV) (w k : Nat) : Int := if sLo β k = 0 then 0 else sm (mkP β ω w k) (vL β) / sLo β k
def apI (β : BV) (γ : GV) (a : LV) (ω : WV) (w k : Nat) : Int := ((LI β γ a k * sm (sMa β ω w) 12 - sMa β ω w k * sm (LI β γ a) 12).natAbs : Int)
def apS (β : BV) (γ : GV) (a : LV) (ω : WV) (w : Nat) : Int := sm (apI β γ a ω w) 12
def tls (ω : WV) (w : Nat) : Prop := ∃ k, k < 12 ∧ ω.1 w k ≠ 0
noncomputable def whS (β : BV) (γ : GV) (a : LV) (ω : WV) : Nat → Int × Int
  | 0 => (-1, 0)
  | w + 1 => @ite (Int × Int) (tls ω w ∧ ((whS β γ a ω w).1 = -1 ∨ apS β γ a ω w < (whS β γ a ω w).2)) (Classical.propDecidable _) ((w : Int), apS β γ a ω w) (whS β γ a ω w)
section WHO
variable {h : AH} {S : SV} {T b B : Nat} {β : BV} {γ : GV} {a : LV} {ω : WV}
theorem whS_1 {w : Nat} (q : tls ω w ∧ ((whS β γ a ω w).1 = -1 ∨ apS β γ a ω w < (whS β γ a ω w).2)) : whS β γ a ω (w + 1) = ((w : Int), apS β γ a ω w) := @if_pos _ (Classical.propDecidable _) q _ _ _
theorem whS_0 {w : Nat} (q : ¬ (tls ω w ∧ ((whS β γ a ω w).1 = -1 ∨ apS β γ a ω w < (whS β γ a ω w).2))) : whS β γ a ω (w + 1) = whS β γ a ω w := @if_neg _ (Classical.propDecidable _) q _ _ _
theorem mkP_rg (oB : okB β) (oW : okW ω) {w : Nat} (hw : w < 6) (k : Nat) {n : Nat} (hn : n ≤ vL β) : 0 ≤ sm (mkP β ω w k) n ∧ sm (mkP β ω w k) n ≤ 3960 := by
  have := sm_rg (f := mkP β ω w k) (n := n) (a := 0) (b := 99) (fun i hi => by
    have := yr_le (ω := ω) (w := w) (k := vk β i) (vp β i) (oW w hw _ (oB.2.2.2.2.2.1 i (by omega)).1).1
    unfold mkP
    split <;> omega)
  have := oB.1
  omega
theorem sMa_rg (oB : okB β) (oW : okW ω) {w : Nat} (hw : w < 6) (k : Nat) : 0 ≤ sMa β ω w k ∧ sMa β ω w k ≤ 3960 := by
  unfold sMa
  split
  · omega
  · have p2 := sLo_rg oB k
    have r4 := mkP_rg oB oW hw k (Nat.le_refl _)
    exact ⟨Int.ediv_nonneg r4.1 (by omega), Int.le_trans (Int.ediv_le_self _ r4.1) (by omega)⟩
theorem sMaS_rg (oB : okB β) (oW : okW ω) {w : Nat} (hw : w < 6) (n : Nat) (hn : n ≤ 12) : 0 ≤ sm (sMa β ω w) n ∧ sm (sMa β ω w) n ≤ 47520 := by
  have := sm_rg (f := sMa β ω w) (n := n) (a := 0) (b := 3960) (fun i _ => sMa_rg oB oW hw i)
  omega
theorem LIS_rg (oB : okB β) (oG : okG (vL β) γ) (oL : okL a) (hk : kn β γ) (n : Nat) (hn : n ≤ 12) : 0 ≤ sm (LI β γ a) n ∧ sm (LI β γ a) n ≤ 960047040 := by
  have := sm_rg (f := LI β γ a) (n := n) (a := 0) (b := 80003920) (fun i _ => LI_rg oB oG oL hk i)
  omega
theorem apD_rg (oB : okB β) (oG : okG (vL β) γ) (oL : okL a) (hk : kn β γ) (oW : okW ω) {w : Nat} (hw : w < 6) (k : Nat) : 0 ≤ LI β γ a k * sm (sMa β ω w) 12 ∧ LI β γ a k * sm (sMa β ω w) 12 ≤ 4000000000000 ∧ 0 ≤ sMa β ω w k * sm (LI β γ a) 12 ∧ sMa β ω w k * sm (LI β γ a) 12 ≤ 4000000000000 := by
  have r1 := LI_rg oB oG oL hk k
  have r2 := sMaS_rg oB oW hw 12 (Nat.le_refl _)
  have r3 := sMa_rg oB oW hw k
  have r4 := LIS_rg oB oG oL hk 12 (Nat.le_refl _)
  have p1 := mul_rg r1.1 r1.2 r2.1 r2.2
  have p2 := mul_rg r3.1 r3.2 r4.1 r4.2
  omega
theorem apI_rg (oB : okB β) (oG : okG (vL β) γ) (oL : okL a) (hk : kn β γ) (oW : okW ω) {w : Nat} (hw : w < 6) (k : Nat) : 0 ≤ apI β γ a ω w k ∧ apI β γ a ω w k ≤ 4000000000000 := by
  have := apD_rg oB oG oL hk oW hw k
  unfold apI
  omega
theorem apS_rg (oB : okB β) (oG : okG (vL β) γ) (oL : okL a) (hk : kn β γ) (oW : okW ω) {w : Nat} (hw : w < 6) (n : Nat) (hn : n ≤ 12) : 0 ≤ sm (apI β γ a ω w) n ∧ sm (apI β γ a ω w) n ≤ 48000000000000 := by
  have := sm_rg (f := apI β γ a ω w) (n := n) (a := 0) (b := 4000000000000) (fun i _ => apI_rg oB oG oL hk oW hw i)
  omega
theorem whS_rg (oB : okB β) (oG : okG (vL β) γ) (oL : okL a) (hk : kn β γ) (oW : okW ω) (w : Nat) (hw : w ≤ 6) : -1 ≤ (whS β γ a ω w).1 ∧ (whS β γ a ω w).1 ≤ 6 ∧ 0 ≤ (whS β γ a ω w).2 ∧ (whS β γ a ω w).2 ≤ 48000000000000 := by
  induction w with
  | zero => show -1 ≤ (-1 : Int) ∧ (-1 : Int) ≤ 6 ∧ 0 ≤ (0 : Int) ∧ (0 : Int) ≤ 48000000000000; omega
  | succ w ih =>
    rcases Classical.em (tls ω w ∧ ((whS β γ a ω w).1 = -1 ∨ apS β γ a ω w < (whS β γ a ω w).2)) with q | q
    · rw [whS_1 q]
      have := apS_rg oB oG oL hk oW (show w < 6 by omega) 12 (Nat.le_refl _)
      dsimp only
      unfold apS
      omega
    · rw [whS_0 q]; exact ih (by omega)
theorem e_absL (z : Int) (h1 : -9000000000000000000 ≤ z) (h2 : z ≤ 9000000000000000000) : f_J9_abs_067f4 (w64 z) = w64 (z.natAbs : Int) := by
  unfold f_J9_abs_067f4
  simp (disch := omega) only [vl_0, c_ge, v_neg]
  by_cases q : 0 ≤ z
  · rw [if_pos q]; congr 1; omega
  · rw [if_neg q]; congr 1; omega
theorem e_cut0 (x : Int64) : f_X11_cutDown x (w64 0) = some (w32 0) := by
  unfold f_X11_cutDown
  rw [if_neg (by rw [vl_1, c_ge _ _ (by omega) (by omega) (by omega) (by omega)]; omega)]
  rfl
/-! the reference -/
theorem m_tells (hW : WM h ω) (oW : okW ω) {w : Nat} (hw : w < 6) : (tls ω w → f_X12_tells (w32 w) h = some true) ∧ (¬ tls ω w → f_X12_tells (w32 w) h = some false) := by
  have ei : ∀ k : Nat, w32 (12 * (w : Int) + (k : Int)) = w32 ((12 * w + k : Nat) : Int) := fun k => ww (by omega)
  have sc := scan (fun n (v : Int32) => f_X12_tells_l2 (w32 w) h n v) (fun i => w32 (i : Nat)) 12 (fun k => ω.1 w k = 0) (.inl ()) (fun _ => .inr true) (fun i n hi hP => by
      have e1 := (hW w hw i hi).1
      rw [if_pos hP] at e1
      show f_X12_tells_l2 (w32 w) h (n + 1) (w32 i) = f_X12_tells_l2 (w32 w) h n (w32 (i + 1 : Nat))
      rw [f_X12_tells_l2]
      simp (disch := omega) only [wl_12, w_le, w_mul, w_add, ei, w_ibN, gd_t, w_clN, e1, wl_1, w_neg, if_true, w_s]
      rw [if_neg (show ¬ ((12 : Int) ≤ (i : Int)) by omega)]) (fun i n hi hP => by
      have e1 := (hW w hw i hi).1
      have o1 := (oW w hw i hi).1
      rw [if_neg hP] at e1
      show f_X12_tells_l2 (w32 w) h (n + 1) (w32 i) = _
      rw [f_X12_tells_l2]
      simp (disch := omega) only [wl_12, w_le, w_mul, w_add, ei, w_ibN, gd_t, w_clN, e1, wl_1, w_neg, w_eq]
      rw [if_neg (show ¬ ((12 : Int) ≤ (i : Int)) by omega), if_neg (by omega)]) (fun n => by
      show f_X12_tells_l2 (w32 w) h (n + 1) (w32 (12 : Nat)) = _
      rw [f_X12_tells_l2, if_pos (by decide)]) FU (by decide)
  unfold f_X12_tells
  rw [show (0 : Int32) = w32 (0 : Nat) from rfl]
  constructor
  · intro q
    rcases first_of (fun k => ω.1 w k = 0) 12 with hall | ⟨j, hj, hn, hbef⟩
    · obtain ⟨k, h1, h2⟩ := q; exact absurd (hall k h1) h2
    · rw [show f_X12_tells_l2 (w32 w) h FU (w32 (0 : Nat)) = _ from sc.2 j hj hn hbef, bnd_s]; rfl
  · intro q
    rw [show f_X12_tells_l2 (w32 w) h FU (w32 (0 : Nat)) = _ from sc.1 (fun i hi => Classical.not_not.mp (fun z => q ⟨i, hi, z⟩)), bnd_s]; rfl
theorem m_makes (hM : MK h b β γ a) (hW : WM h (xw S)) (oW : okW (xw S)) {w k : Nat} (hw : w < 6) (hk : k < 12) (q : 1 ≤ sLo β k) : f_X12_makes (w32 w) (w32 b) (w32 k) h = some (w32 (sMa β (xw S) w k)) := by
  obtain ⟨hB, hG, hL, oB, oG, oL, hb⟩ := id hM
  have e1 := hB.1
  have o1 := oB.1
  have hl : f_X12_makes_l6 (w32 w) (w32 b) (w32 k) h FU (w32 (sm (mkP β (xw S) w k) 0)) (w32 (0 : Nat)) = some (w32 (sm (mkP β (xw S) w k) (vL β))) := loopN (fun n (s : Int32 × Int32) => f_X12_makes_l6 (w32 w) (w32 b) (w32 k) h n s.1 s.2) (fun i => (w32 (sm (mkP β (xw S) w k) i), w32 (i : Nat))) (vL β) _ (fun i n hi => by
      obtain ⟨f1, -, f3, -⟩ := hB.2.2.2.2.2.1 i hi
      have k1 := oB.2.2.2.2.2.1 i hi
      have mt := m_turn hW oW hw hk k1.2.2.1
      show f_X12_makes_l6 (w32 w) (w32 b) (w32 k) h (n + 1) (w32 (sm _ i)) (w32 i) = f_X12_makes_l6 (w32 w) (w32 b) (w32 k) h n (w32 (sm _ (i + 1))) (w32 (i + 1 : Nat))
      rw [f_X12_makes_l6]
      simp (disch := omega) only [w_ibN, w_clN, gd_t, e1, w_le, e_at, f1, f3, w_eq, wl_0, wl_1, w_add, w_s, sm_s, mt, bnd_s]
      rw [if_neg (show ¬ ((vL β : Int) ≤ (i : Int)) by omega)]
      by_cases q2 : vk β i = k
      · rw [if_pos (show ((vk β i : Nat) : Int) = (k : Int) by omega), show mkP β (xw S) w k i = (yr (xw S) w k (vp β i) : Int) from by unfold mkP; rw [if_pos q2, q2]]
      · rw [if_neg (show ¬ ((vk β i : Nat) : Int) = (k : Int) by omega), show mkP β (xw S) w k i = 0 from by unfold mkP; rw [if_neg q2]]) (fun n => by
      show f_X12_makes_l6 (w32 w) (w32 b) (w32 k) h (n + 1) (w32 (sm _ (vL β))) (w32 (vL β)) = _
      rw [f_X12_makes_l6]
      simp (disch := omega) only [w_ibN, w_clN, gd_t, e1, w_le]
      rw [if_pos (by omega)]) FU (by unfold FU; omega)
  have r1 := mkP_rg oB oW hw k (Nat.le_refl _)
  have r2 := sLo_rg oB k
  unfold f_X12_makes
  rw [show (f_X12_makes_l6 (w32 w) (w32 b) (w32 k) h FU 0 0) = _ from hl, bnd_s, m_leavesOf hM hk, bnd_s, gd_t (by rw [wl_0, w_eq _ _ (by omega) (by omega) (by omega) (by omega)]; omega), w_divP _ _ (by omega) (by omega) (by omega) (by omega)]
  unfold sMa
  rw [if_neg (by omega)]
theorem m_whose (hM : MK h b β γ a) (hW : WM h (xw S)) (oW : okW (xw S)) (hk : kn β γ) : f_X12_whoseOf (w32 b) h = some (w32 (whS β γ a (xw S) 6).1) := by
  obtain ⟨hB, hG, hL, oB, oG, oL, hb⟩ := id hM
  have z1 : ∀ k, ¬ 1 ≤ sLo β k → LI β γ a k = 0 := fun k q => by have := sLo_rg oB k; unfold LI; rw [if_pos (by omega)]
  have z2 : ∀ w k, ¬ 1 ≤ sLo β k → sMa β (xw S) w k = 0 := fun w k q => by have := sLo_rg oB k; unfold sMa; rw [if_pos (by omega)]
  have hl : f_X12_whoseOf_l5 (w32 b) h FU (w64 (sm (LI β γ a) 0)) (w32 (0 : Nat)) = some (w64 (sm (LI β γ a) 12)) := loopN (fun n (s : Int64 × Int32) => f_X12_whoseOf_l5 (w32 b) h n s.1 s.2) (fun i => (w64 (sm (LI β γ a) i), w32 (i : Nat))) 12 _ (fun i n hi => by
      have r := LI_rg oB oG oL hk i
      show f_X12_whoseOf_l5 (w32 b) h (n + 1) (w64 (sm _ i)) (w32 i) = f_X12_whoseOf_l5 (w32 b) h n (w64 (sm _ (i + 1))) (w32 (i + 1 : Nat))
      rw [f_X12_whoseOf_l5, if_neg (by rw [wl_12, w_le _ _ (by omega) (by omega) (by omega) (by omega)]; omega), m_hasB hM hi, bnd_s]
      by_cases q : 1 ≤ sLo β i
      · rw [decide_eq_true q, if_pos rfl, m_LI hM hk hi q, bnd_s, w_l _ (by omega) (by omega), v_add, wl_1, w_add, w_s, sm_s]
      · rw [decide_eq_false q, if_neg (by decide), vl_0, v_add, wl_1, w_add, w_s, sm_s, z1 i q]) (fun n => by
      show f_X12_whoseOf_l5 (w32 b) h (n + 1) _ (w32 (12 : Nat)) = _
      rw [f_X12_whoseOf_l5, if_pos (by decide)]) FU (by decide)
  have h77 : ∀ w : Nat, w < 6 → f_X12_whoseOf_l77 (w32 b) (w32 w) h FU 0 0 = some (w64 (sm (sMa β (xw S) w) 12)) := fun w hw => loopN (fun n (s : Int64 × Int32) => f_X12_whoseOf_l77 (w32 b) (w32 w) h n s.1 s.2) (fun i => (w64 (sm (sMa β (xw S) w) i), w32 (i : Nat))) 12 _ (fun i n hi => by
      have r := sMa_rg oB oW hw i
      show f_X12_whoseOf_l77 (w32 b) (w32 w) h (n + 1) (w64 (sm _ i)) (w32 i) = f_X12_whoseOf_l77 (w32 b) (w32 w) h n (w64 (sm _ (i + 1))) (w32 (i + 1 : Nat))
      rw [f_X12_whoseOf_l77, if_neg (by rw [wl_12, w_le _ _ (by omega) (by omega) (by omega) (by omega)]; omega), m_hasB hM hi, bnd_s]
      by_cases q : 1 ≤ sLo β i
      · rw [decide_eq_true q, if_pos rfl, m_makes hM hW oW hw hi q, bnd_s, w_l _ (by omega) (by omega), v_add, wl_1, w_add, w_s, sm_s]
      · rw [decide_eq_false q, if_neg (by decide), vl_0, v_add, wl_1, w_add, w_s, sm_s, z2 w i q]) (fun n => by
      show f_X12_whoseOf_l77 (w32 b) (w32 w) h (n + 1) _ (w32 (12 : Nat)) = _
      rw [f_X12_whoseOf_l77, if_pos (by decide)]) FU (by decide)
  have h125 : ∀ w : Nat, w < 6 → f_X12_whoseOf_l125 (w32 b) (w64 (sm (LI β γ a) 12)) (w32 w) (w64 (sm (sMa β (xw S) w) 12)) h FU 0 0 = some (w64 (apS β γ a (xw S) w)) := fun w hw => loopN (fun n (s : Int64 × Int32) => f_X12_whoseOf_l125 (w32 b) (w64 (sm (LI β γ a) 12)) (w32 w) (w64 (sm (sMa β (xw S) w) 12)) h n s.1 s.2) (fun i => (w64 (sm (apI β γ a (xw S) w) i), w32 (i : Nat))) 12 _ (fun i n hi => by
      have r := sMa_rg oB oW hw i
      have r2 := LI_rg oB oG oL hk i
      have r3 := apD_rg oB oG oL hk oW hw i
      show f_X12_whoseOf_l125 (w32 b) _ (w32 w) _ h (n + 1) (w64 (sm _ i)) (w32 i) = f_X12_whoseOf_l125 (w32 b) _ (w32 w) _ h n (w64 (sm _ (i + 1))) (w32 (i + 1 : Nat))
      rw [f_X12_whoseOf_l125, if_neg (by rw [wl_12, w_le _ _ (by omega) (by omega) (by omega) (by omega)]; omega), m_hasB hM hi, bnd_s]
      by_cases q : 1 ≤ sLo β i
      · rw [decide_eq_true q, if_pos rfl, m_LI hM hk hi q, bnd_s, m_makes hM hW oW hw hi q, bnd_s, w_l _ (by omega) (by omega), w_l _ (by omega) (by omega), v_mul, v_mul, v_sub, e_absL _ (by omega) (by omega), v_add, wl_1, w_add, w_s, sm_s]
        rfl
      · have : apI β γ a (xw S) w i = 0 := by unfold apI; rw [z1 i q, z2 w i q, Int.zero_mul, Int.zero_mul]; rfl
        rw [decide_eq_false q, if_neg (by decide), vl_0, v_add, wl_1, w_add, w_s, sm_s, this]) (fun n => by
      show f_X12_whoseOf_l125 (w32 b) _ (w32 w) _ h (n + 1) _ (w32 (12 : Nat)) = _
      rw [f_X12_whoseOf_l125, if_pos (by decide)]
      rfl) FU (by decide)
  have h52 : f_X12_whoseOf_l52 (w32 b) (w64 (sm (LI β γ a) 12)) h FU (-1) 0 0 = some (w32 (whS β γ a (xw S) 6).1) := loopN (fun n (s : Int32 × Int64 × Int32) => f_X12_whoseOf_l52 (w32 b) (w64 (sm (LI β γ a) 12)) h n s.1 s.2.1 s.2.2) (fun i => (w32 (whS β γ a (xw S) i).1, w64 (whS β γ a (xw S) i).2, w32 (i : Nat))) 6 _ (fun i n hi => by
      have rr := whS_rg oB oG oL hk oW i (by omega)
      have ra := apS_rg oB oG oL hk oW hi 12 (Nat.le_refl _)
      have ra : 0 ≤ apS β γ a (xw S) i ∧ apS β γ a (xw S) i ≤ 48000000000000 := ra
      have tt := m_tells hW oW hi
      show f_X12_whoseOf_l52 (w32 b) _ h (n + 1) (w32 (whS β γ a (xw S) i).1) (w64 (whS β γ a (xw S) i).2) (w32 i) = f_X12_whoseOf_l52 (w32 b) _ h n (w32 (whS β γ a (xw S) (i + 1)).1) (w64 (whS β γ a (xw S) (i + 1)).2) (w32 (i + 1 : Nat))
      rw [f_X12_whoseOf_l52, if_neg (by rw [wl_6, w_le _ _ (by omega) (by omega) (by omega) (by omega)]; omega)]
      rcases Classical.em (tls (xw S) i) with q | q
      · rw [tt.1 q, bnd_s, if_pos rfl, h77 i hi, bnd_s, h125 i hi, bnd_s]
        simp (disch := omega) only [wl_1, w_neg, w_eq, c_lt, w_add, w_s]
        by_cases q1 : (whS β γ a (xw S) i).1 = -1
        · rw [if_pos q1, whS_1 ⟨q, Or.inl q1⟩]
        · rw [if_neg q1]
          by_cases q2 : apS β γ a (xw S) i < (whS β γ a (xw S) i).2
          · rw [if_pos q2, whS_1 ⟨q, Or.inr q2⟩]
          · rw [if_neg q2, whS_0 (fun z => by rcases z.2 with e | e; exact q1 e; exact q2 e)]
      · rw [tt.2 q, bnd_s, if_neg (by decide), whS_0 (fun z => q z.1), wl_1, w_add, w_s]) (fun n => by
      show f_X12_whoseOf_l52 (w32 b) _ h (n + 1) _ _ (w32 (6 : Nat)) = _
      rw [f_X12_whoseOf_l52, if_pos (by decide)]) FU (by decide)
  unfold f_X12_whoseOf
  rw [show (f_X12_whoseOf_l5 (w32 b) h FU 0 0) = _ from hl, bnd_s, h52, bnd_s]
/-! the class -/
end WHO
