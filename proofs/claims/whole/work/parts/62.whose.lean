/-! whose it was -/
def mkP (β : BV) (ω : WV) (w k l : Nat) : Int := if vk β l = k then (yr ω w (vk β l) (vp β l) : Int) else 0
def sMa (β : BV) (ω : WV) (w k : Nat) : Int := if sLo β k = 0 then 0 else sm (mkP β ω w k) (vL β) / sLo β k
def apI (β : BV) (γ : GV) (a : LV) (ω : WV) (w k : Nat) : Int := ((LI β γ a k * sm (sMa β ω w) 12 - sMa β ω w k * sm (LI β γ a) 12).natAbs : Int)
def apS (β : BV) (γ : GV) (a : LV) (ω : WV) (w : Nat) : Int := sm (apI β γ a ω w) 12
def tls (ω : WV) (w : Nat) : Prop := ∃ k, k < 12 ∧ ω.1 w k ≠ 0
noncomputable def whS (β : BV) (γ : GV) (a : LV) (ω : WV) : Nat → Int × Int
  | 0 => (-1, 0)
  | w + 1 => @ite (Int × Int) (tls ω w ∧ ((whS β γ a ω w).1 = -1 ∨ apS β γ a ω w < (whS β γ a ω w).2)) (Classical.propDecidable _) ((w : Int), apS β γ a ω w) (whS β γ a ω w)
section WHO
variable {h : AH} {S : SV} {T b B : Nat} {β : BV} {γ : GV} {a : LV} {ω : WV}
theorem whS_1 {w : Nat} (q : tls ω w ∧ ((whS β γ a ω w).1 = -1 ∨ apS β γ a ω w < (whS β γ a ω w).2)) : whS β γ a ω (w + 1) = ((w : Int), apS β γ a ω w) := @if_pos _ (Classical.propDecidable _) q _ _ _
theorem whS_0 {w : Nat} (q : ¬ (tls ω w ∧ ((whS β γ a ω w).1 = -1 ∨ apS β γ a ω w < (whS β γ a ω w).2))) : whS β γ a ω (w + 1) = whS β γ a ω w := @if_neg _ (Classical.propDecidable _) q _ _ _
theorem mkP_rg (oB : okB β) (oW : okW ω) {w : Nat} (hw : w < 6) (k : Nat) {n : Nat} (hn : n ≤ vL β) : 0 ≤ sm (mkP β ω w k) n ∧ sm (mkP β ω w k) n ≤ 3960 := by
  have := sm_rg (f := mkP β ω w k) (n := n) (a := 0) (b := 99) (fun i hi => by
    have := yr_le (ω := ω) (w := w) (k := vk β i) (vp β i) (oW w hw _ (oB.2.2.2.2.2.1 i (by omega)).1).1
    unfold mkP
    split <;> omega)
  have := oB.1
  omega
theorem sMa_rg (oB : okB β) (oW : okW ω) {w : Nat} (hw : w < 6) (k : Nat) : 0 ≤ sMa β ω w k ∧ sMa β ω w k ≤ 3960 := by
  unfold sMa
  split
  · omega
  · have p2 := sLo_rg oB k
    have r4 := mkP_rg oB oW hw k (Nat.le_refl _)
    exact ⟨Int.ediv_nonneg r4.1 (by omega), Int.le_trans (Int.ediv_le_self _ r4.1) (by omega)⟩
theorem sMaS_rg (oB : okB β) (oW : okW ω) {w : Nat} (hw : w < 6) (n : Nat) (hn : n ≤ 12) : 0 ≤ sm (sMa β ω w) n ∧ sm (sMa β ω w) n ≤ 47520 := by
  have := sm_rg (f := sMa β ω w) (n := n) (a := 0) (b := 3960) (fun i _ => sMa_rg oB oW hw i)
  omega
theorem LIS_rg (oB : okB β) (oG : okG (vL β) γ) (oL : okL a) (hk : kn β γ) (n : Nat) (hn : n ≤ 12) : 0 ≤ sm (LI β γ a) n ∧ sm (LI β γ a) n ≤ 960047040 := by
  have := sm_rg (f := LI β γ a) (n := n) (a := 0) (b := 80003920) (fun i _ => LI_rg oB oG oL hk i)
  omega
theorem apD_rg (oB : okB β) (oG : okG (vL β) γ) (oL : okL a) (hk : kn β γ) (oW : okW ω) {w : Nat} (hw : w < 6) (k : Nat) : 0 ≤ LI β γ a k * sm (sMa β ω w) 12 ∧ LI β γ a k * sm (sMa β ω w) 12 ≤ 4000000000000 ∧ 0 ≤ sMa β ω w k * sm (LI β γ a) 12 ∧ sMa β ω w k * sm (LI β γ a) 12 ≤ 4000000000000 := by
  have r1 := LI_rg oB oG oL hk k
  have r2 := sMaS_rg oB oW hw 12 (Nat.le_refl _)
  have r3 := sMa_rg oB oW hw k
  have r4 := LIS_rg oB oG oL hk 12 (Nat.le_refl _)
  have p1 := mul_rg r1.1 r1.2 r2.1 r2.2
  have p2 := mul_rg r3.1 r3.2 r4.1 r4.2
  omega
theorem apI_rg (oB : okB β) (oG : okG (vL β) γ) (oL : okL a) (hk : kn β γ) (oW : okW ω) {w : Nat} (hw : w < 6) (k : Nat) : 0 ≤ apI β γ a ω w k ∧ apI β γ a ω w k ≤ 4000000000000 := by
  have := apD_rg oB oG oL hk oW hw k
  unfold apI
  omega
theorem apS_rg (oB : okB β) (oG : okG (vL β) γ) (oL : okL a) (hk : kn β γ) (oW : okW ω) {w : Nat} (hw : w < 6) (n : Nat) (hn : n ≤ 12) : 0 ≤ sm (apI β γ a ω w) n ∧ sm (apI β γ a ω w) n ≤ 48000000000000 := by
  have := sm_rg (f := apI β γ a ω w) (n := n) (a := 0) (b := 4000000000000) (fun i _ => apI_rg oB oG oL hk oW hw i)
  omega
theorem whS_rg (oB : okB β) (oG : okG (vL β) γ) (oL : okL a) (hk : kn β γ) (oW : okW ω) (w : Nat) (hw : w ≤ 6) : -1 ≤ (whS β γ a ω w).1 ∧ (whS β γ a ω w).1 ≤ 6 ∧ 0 ≤ (whS β γ a ω w).2 ∧ (whS β γ a ω w).2 ≤ 48000000000000 := by
  induction w with
  | zero => show -1 ≤ (-1 : Int) ∧ (-1 : Int) ≤ 6 ∧ 0 ≤ (0 : Int) ∧ (0 : Int) ≤ 48000000000000; omega
  | succ w ih =>
    rcases Classical.em (tls ω w ∧ ((whS β γ a ω w).1 = -1 ∨ apS β γ a ω w < (whS β γ a ω w).2)) with q | q
    · rw [whS_1 q]
      have := apS_rg oB oG oL hk oW (show w < 6 by omega) 12 (Nat.le_refl _)
      dsimp only
      unfold apS
      omega
    · rw [whS_0 q]; exact ih (by omega)
theorem e_absL (z : Int) (h1 : -9000000000000000000 ≤ z) (h2 : z ≤ 9000000000000000000) : f_J9_abs_067f4 (w64 z) = w64 (z.natAbs : Int) := by
  unfold f_J9_abs_067f4
  simp (disch := omega) only [vl_0, c_ge, v_neg]
  by_cases q : 0 ≤ z
  · rw [if_pos q]; congr 1; omega
  · rw [if_neg q]; congr 1; omega
theorem e_cut0 (x : Int64) : f_X11_cutDown x (w64 0) = some (w32 0) := by
  unfold f_X11_cutDown
  rw [if_neg (by rw [vl_1, c_ge _ _ (by omega) (by omega) (by omega) (by omega)]; omega)]
  rfl
/-! the reference -/
theorem m_tells (hW : WM h ω) (oW : okW ω) {w : Nat} (hw : w < 6) : (tls ω w → f_X12_tells (w32 w) h = some true) ∧ (¬ tls ω w → f_X12_tells (w32 w) h = some false) := by
  have ei : ∀ k : Nat, w32 (12 * (w : Int) + (k : Int)) = w32 ((12 * w + k : Nat) : Int) := fun k => ww (by omega)
  have sc := scan (fun n (v : Int32) => f_X12_tells_l2 (w32 w) h n v) (fun i => w32 (i : Nat)) 12 (fun k => ω.1 w k = 0) (.inl ()) (fun _ => .inr true) (fun i n hi hP => by
      have e1 := (hW w hw i hi).1
      rw [if_pos hP] at e1
      show f_X12_tells_l2 (w32 w) h (n + 1) (w32 i) = f_X12_tells_l2 (w32 w) h n (w32 (i + 1 : Nat))
      rw [f_X12_tells_l2]
      simp (disch := omega) only [wl_12, w_le, w_mul, w_add, ei, w_ibN, gd_t, w_clN, e1, wl_1, w_neg, if_true, w_s]
      rw [if_neg (show ¬ ((12 : Int) ≤ (i : Int)) by omega)]) (fun i n hi hP => by
      have e1 := (hW w hw i hi).1
      have o1 := (oW w hw i hi).1
      rw [if_neg hP] at e1
      show f_X12_tells_l2 (w32 w) h (n + 1) (w32 i) = _
      rw [f_X12_tells_l2]
      simp (disch := omega) only [wl_12, w_le, w_mul, w_add, ei, w_ibN, gd_t, w_clN, e1, wl_1, w_neg, w_eq]
      rw [if_neg (show ¬ ((12 : Int) ≤ (i : Int)) by omega), if_neg (by omega)]) (fun n => by
      show f_X12_tells_l2 (w32 w) h (n + 1) (w32 (12 : Nat)) = _
      rw [f_X12_tells_l2, if_pos (by decide)]) FU (by decide)
  unfold f_X12_tells
  rw [show (0 : Int32) = w32 (0 : Nat) from rfl]
  constructor
  · intro q
    rcases first_of (fun k => ω.1 w k = 0) 12 with hall | ⟨j, hj, hn, hbef⟩
    · obtain ⟨k, h1, h2⟩ := q; exact absurd (hall k h1) h2
    · rw [show f_X12_tells_l2 (w32 w) h FU (w32 (0 : Nat)) = _ from sc.2 j hj hn hbef, bnd_s]; rfl
  · intro q
    rw [show f_X12_tells_l2 (w32 w) h FU (w32 (0 : Nat)) = _ from sc.1 (fun i hi => Classical.not_not.mp (fun z => q ⟨i, hi, z⟩)), bnd_s]; rfl
theorem m_makes (hM : MK h b β γ a) (hW : WM h (xw S)) (oW : okW (xw S)) {w k : Nat} (hw : w < 6) (hk : k < 12) (q : 1 ≤ sLo β k) : f_X12_makes (w32 w) (w32 b) (w32 k) h = some (w32 (sMa β (xw S) w k)) := by
  obtain ⟨hB, hG, hL, oB, oG, oL, hb⟩ := id hM
  have e1 := hB.1
  have o1 := oB.1
  have hl : f_X12_makes_l6 (w32 w) (w32 b) (w32 k) h FU (w32 (sm (mkP β (xw S) w k) 0)) (w32 (0 : Nat)) = some (w32 (sm (mkP β (xw S) w k) (vL β))) := loopN (fun n (s : Int32 × Int32) => f_X12_makes_l6 (w32 w) (w32 b) (w32 k) h n s.1 s.2) (fun i => (w32 (sm (mkP β (xw S) w k) i), w32 (i : Nat))) (vL β) _ (fun i n hi => by
      obtain ⟨f1, -, f3, -⟩ := hB.2.2.2.2.2.1 i hi
      have k1 := oB.2.2.2.2.2.1 i hi
      have mt := m_turn hW oW hw hk k1.2.2.1
      show f_X12_makes_l6 (w32 w) (w32 b) (w32 k) h (n + 1) (w32 (sm _ i)) (w32 i) = f_X12_makes_l6 (w32 w) (w32 b) (w32 k) h n (w32 (sm _ (i + 1))) (w32 (i + 1 : Nat))
      rw [f_X12_makes_l6]
      simp (disch := omega) only [w_ibN, w_clN, gd_t, e1, w_le, e_at, f1, f3, w_eq, wl_0, wl_1, w_add, w_s, sm_s, mt, bnd_s]
      rw [if_neg (show ¬ ((vL β : Int) ≤ (i : Int)) by omega)]
      by_cases q2 : vk β i = k
      · rw [if_pos (show ((vk β i : Nat) : Int) = (k : Int) by omega), show mkP β (xw S) w k i = (yr (xw S) w k (vp β i) : Int) from by unfold mkP; rw [if_pos q2, q2]]
      · rw [if_neg (show ¬ ((vk β i : Nat) : Int) = (k : Int) by omega), show mkP β (xw S) w k i = 0 from by unfold mkP; rw [if_neg q2]]) (fun n => by
      show f_X12_makes_l6 (w32 w) (w32 b) (w32 k) h (n + 1) (w32 (sm _ (vL β))) (w32 (vL β)) = _
      rw [f_X12_makes_l6]
      simp (disch := omega) only [w_ibN, w_clN, gd_t, e1, w_le]
      rw [if_pos (by omega)]) FU (by unfold FU; omega)
  have r1 := mkP_rg oB oW hw k (Nat.le_refl _)
  have r2 := sLo_rg oB k
  unfold f_X12_makes
  rw [show (f_X12_makes_l6 (w32 w) (w32 b) (w32 k) h FU 0 0) = _ from hl, bnd_s, m_leavesOf hM hk, bnd_s, gd_t (by rw [wl_0, w_eq _ _ (by omega) (by omega) (by omega) (by omega)]; omega), w_divP _ _ (by omega) (by omega) (by omega) (by omega)]
  unfold sMa
  rw [if_neg (by omega)]
theorem m_whose (hM : MK h b β γ a) (hW : WM h (xw S)) (oW : okW (xw S)) (hk : kn β γ) : f_X12_whoseOf (w32 b) h = some (w32 (whS β γ a (xw S) 6).1) := by
  obtain ⟨hB, hG, hL, oB, oG, oL, hb⟩ := id hM
  have z1 : ∀ k, ¬ 1 ≤ sLo β k → LI β γ a k = 0 := fun k q => by have := sLo_rg oB k; unfold LI; rw [if_pos (by omega)]
  have z2 : ∀ w k, ¬ 1 ≤ sLo β k → sMa β (xw S) w k = 0 := fun w k q => by have := sLo_rg oB k; unfold sMa; rw [if_pos (by omega)]
  have hl : f_X12_whoseOf_l5 (w32 b) h FU (w64 (sm (LI β γ a) 0)) (w32 (0 : Nat)) = some (w64 (sm (LI β γ a) 12)) := loopN (fun n (s : Int64 × Int32) => f_X12_whoseOf_l5 (w32 b) h n s.1 s.2) (fun i => (w64 (sm (LI β γ a) i), w32 (i : Nat))) 12 _ (fun i n hi => by
      have r := LI_rg oB oG oL hk i
      show f_X12_whoseOf_l5 (w32 b) h (n + 1) (w64 (sm _ i)) (w32 i) = f_X12_whoseOf_l5 (w32 b) h n (w64 (sm _ (i + 1))) (w32 (i + 1 : Nat))
      rw [f_X12_whoseOf_l5, if_neg (by rw [wl_12, w_le _ _ (by omega) (by omega) (by omega) (by omega)]; omega), m_hasB hM hi, bnd_s]
      by_cases q : 1 ≤ sLo β i
      · rw [decide_eq_true q, if_pos rfl, m_LI hM hk hi q, bnd_s, w_l _ (by omega) (by omega), v_add, wl_1, w_add, w_s, sm_s]
      · rw [decide_eq_false q, if_neg (by decide), vl_0, v_add, wl_1, w_add, w_s, sm_s, z1 i q]) (fun n => by
      show f_X12_whoseOf_l5 (w32 b) h (n + 1) _ (w32 (12 : Nat)) = _
      rw [f_X12_whoseOf_l5, if_pos (by decide)]) FU (by decide)
  have h77 : ∀ w : Nat, w < 6 → f_X12_whoseOf_l77 (w32 b) (w32 w) h FU 0 0 = some (w64 (sm (sMa β (xw S) w) 12)) := fun w hw => loopN (fun n (s : Int64 × Int32) => f_X12_whoseOf_l77 (w32 b) (w32 w) h n s.1 s.2) (fun i => (w64 (sm (sMa β (xw S) w) i), w32 (i : Nat))) 12 _ (fun i n hi => by
      have r := sMa_rg oB oW hw i
      show f_X12_whoseOf_l77 (w32 b) (w32 w) h (n + 1) (w64 (sm _ i)) (w32 i) = f_X12_whoseOf_l77 (w32 b) (w32 w) h n (w64 (sm _ (i + 1))) (w32 (i + 1 : Nat))
      rw [f_X12_whoseOf_l77, if_neg (by rw [wl_12, w_le _ _ (by omega) (by omega) (by omega) (by omega)]; omega), m_hasB hM hi, bnd_s]
      by_cases q : 1 ≤ sLo β i
      · rw [decide_eq_true q, if_pos rfl, m_makes hM hW oW hw hi q, bnd_s, w_l _ (by omega) (by omega), v_add, wl_1, w_add, w_s, sm_s]
      · rw [decide_eq_false q, if_neg (by decide), vl_0, v_add, wl_1, w_add, w_s, sm_s, z2 w i q]) (fun n => by
      show f_X12_whoseOf_l77 (w32 b) (w32 w) h (n + 1) _ (w32 (12 : Nat)) = _
      rw [f_X12_whoseOf_l77, if_pos (by decide)]) FU (by decide)
  have h125 : ∀ w : Nat, w < 6 → f_X12_whoseOf_l125 (w32 b) (w64 (sm (LI β γ a) 12)) (w32 w) (w64 (sm (sMa β (xw S) w) 12)) h FU 0 0 = some (w64 (apS β γ a (xw S) w)) := fun w hw => loopN (fun n (s : Int64 × Int32) => f_X12_whoseOf_l125 (w32 b) (w64 (sm (LI β γ a) 12)) (w32 w) (w64 (sm (sMa β (xw S) w) 12)) h n s.1 s.2) (fun i => (w64 (sm (apI β γ a (xw S) w) i), w32 (i : Nat))) 12 _ (fun i n hi => by
      have r := sMa_rg oB oW hw i
      have r2 := LI_rg oB oG oL hk i
      have r3 := apD_rg oB oG oL hk oW hw i
      show f_X12_whoseOf_l125 (w32 b) _ (w32 w) _ h (n + 1) (w64 (sm _ i)) (w32 i) = f_X12_whoseOf_l125 (w32 b) _ (w32 w) _ h n (w64 (sm _ (i + 1))) (w32 (i + 1 : Nat))
      rw [f_X12_whoseOf_l125, if_neg (by rw [wl_12, w_le _ _ (by omega) (by omega) (by omega) (by omega)]; omega), m_hasB hM hi, bnd_s]
      by_cases q : 1 ≤ sLo β i
      · rw [decide_eq_true q, if_pos rfl, m_LI hM hk hi q, bnd_s, m_makes hM hW oW hw hi q, bnd_s, w_l _ (by omega) (by omega), w_l _ (by omega) (by omega), v_mul, v_mul, v_sub, e_absL _ (by omega) (by omega), v_add, wl_1, w_add, w_s, sm_s]
        rfl
      · have : apI β γ a (xw S) w i = 0 := by unfold apI; rw [z1 i q, z2 w i q, Int.zero_mul, Int.zero_mul]; rfl
        rw [decide_eq_false q, if_neg (by decide), vl_0, v_add, wl_1, w_add, w_s, sm_s (apI β γ a (xw S) w) i, this]) (fun n => by
      show f_X12_whoseOf_l125 (w32 b) _ (w32 w) _ h (n + 1) _ (w32 (12 : Nat)) = _
      rw [f_X12_whoseOf_l125, if_pos (by decide)]
      rfl) FU (by decide)
  have h52 : f_X12_whoseOf_l52 (w32 b) (w64 (sm (LI β γ a) 12)) h FU (-1) 0 0 = some (w32 (whS β γ a (xw S) 6).1) := loopN (fun n (s : Int32 × Int64 × Int32) => f_X12_whoseOf_l52 (w32 b) (w64 (sm (LI β γ a) 12)) h n s.1 s.2.1 s.2.2) (fun i => (w32 (whS β γ a (xw S) i).1, w64 (whS β γ a (xw S) i).2, w32 (i : Nat))) 6 _ (fun i n hi => by
      have rr := whS_rg oB oG oL hk oW i (by omega)
      have ra := apS_rg oB oG oL hk oW hi 12 (Nat.le_refl _)
      have ra : 0 ≤ apS β γ a (xw S) i ∧ apS β γ a (xw S) i ≤ 48000000000000 := ra
      have tt := m_tells hW oW hi
      show f_X12_whoseOf_l52 (w32 b) _ h (n + 1) (w32 (whS β γ a (xw S) i).1) (w64 (whS β γ a (xw S) i).2) (w32 i) = f_X12_whoseOf_l52 (w32 b) _ h n (w32 (whS β γ a (xw S) (i + 1)).1) (w64 (whS β γ a (xw S) (i + 1)).2) (w32 (i + 1 : Nat))
      rw [f_X12_whoseOf_l52, if_neg (by rw [wl_6, w_le _ _ (by omega) (by omega) (by omega) (by omega)]; omega)]
      rcases Classical.em (tls (xw S) i) with q | q
      · rw [tt.1 q, bnd_s, if_pos rfl, h77 i hi, bnd_s, h125 i hi, bnd_s]
        simp (disch := omega) only [wl_1, w_neg, w_eq, c_lt, w_add, w_s]
        by_cases q1 : (whS β γ a (xw S) i).1 = -1
        · rw [if_pos q1, whS_1 ⟨q, Or.inl q1⟩]
        · rw [if_neg q1]
          by_cases q2 : apS β γ a (xw S) i < (whS β γ a (xw S) i).2
          · rw [if_pos q2, whS_1 ⟨q, Or.inr q2⟩]
          · rw [if_neg q2, whS_0 (fun z => by rcases z.2 with e | e; exact q1 e; exact q2 e)]
      · rw [tt.2 q, bnd_s, if_neg (by decide), whS_0 (fun z => q z.1), wl_1, w_add, w_s]) (fun n => by
      show f_X12_whoseOf_l52 (w32 b) _ h (n + 1) _ _ (w32 (6 : Nat)) = _
      rw [f_X12_whoseOf_l52, if_pos (by decide)]) FU (by decide)
  unfold f_X12_whoseOf
  rw [show (f_X12_whoseOf_l5 (w32 b) h FU 0 0) = _ from hl, bnd_s, h52, bnd_s]
/-! the class -/
theorem k_tells {r w : Nat} (hW : WC1 h r (ω.1 w) (ω.2 w)) (oW : okW ω) (hw : w < 6) : (tls ω w → f_X10_tellsSome r h = some true) ∧ (¬ tls ω w → f_X10_tellsSome r h = some false) := by
  have sc := scan (fun n (v : Int32) => f_X10_tellsSome_l2 r h n v) (fun i => w32 (i : Nat)) 12 (fun k => ω.1 w k = 0) (.inl ()) (fun _ => .inr true) (fun i n hi hP => by
      have e1 := (hW i hi).1
      show f_X10_tellsSome_l2 r h (n + 1) (w32 i) = f_X10_tellsSome_l2 r h n (w32 (i + 1 : Nat))
      rw [f_X10_tellsSome_l2]
      simp (disch := omega) only [wl_12, w_le, w_ibN, gd_t, w_clN, e1, hP, wl_0, wl_1, w_add, w_s]
      rw [if_neg (show ¬ ((12 : Int) ≤ (i : Int)) by omega), if_pos (by omega)]) (fun i n hi hP => by
      have e1 := (hW i hi).1
      have o1 := (oW w hw i hi).1
      show f_X10_tellsSome_l2 r h (n + 1) (w32 i) = _
      rw [f_X10_tellsSome_l2]
      simp (disch := omega) only [wl_12, w_le, w_ibN, gd_t, w_clN, e1, wl_0]
      rw [if_neg (show ¬ ((12 : Int) ≤ (i : Int)) by omega), if_neg (by omega)]) (fun n => by
      show f_X10_tellsSome_l2 r h (n + 1) (w32 (12 : Nat)) = _
      rw [f_X10_tellsSome_l2, if_pos (by decide)]) FU (by decide)
  unfold f_X10_tellsSome
  rw [show (0 : Int32) = w32 (0 : Nat) from rfl]
  constructor
  · intro q
    rcases first_of (fun k => ω.1 w k = 0) 12 with hall | ⟨j, hj, hn, hbef⟩
    · obtain ⟨k, h1, h2⟩ := q; exact absurd (hall k h1) h2
    · rw [show f_X10_tellsSome_l2 r h FU (w32 (0 : Nat)) = _ from sc.2 j hj hn hbef, bnd_s]; rfl
  · intro q
    rw [show f_X10_tellsSome_l2 r h FU (w32 (0 : Nat)) = _ from sc.1 (fun i hi => Classical.not_not.mp (fun z => q ⟨i, hi, z⟩)), bnd_s]; rfl
theorem WC1.fr {W : Nat → Prop} {h' : AH} {r : Nat} {f g : Nat → Nat} (hW : WC1 h r f g) (hF : Fr W h h') (h1 : ¬ W (r + 1)) (h2 : ¬ W (r + 2)) : WC1 h' r f g := by
  intro k hk
  rw [(hF _ h1).2.2.1, (hF _ h2).2.2.1]
  exact hW k hk
theorem k_apart {r w : Nat} (hB : BC h B β) (hU : UF h 33 β γ a) (hX : isB B) (hr : isWy r) (hW : WC1 h r (ω.1 w) (ω.2 w)) (oW : okW ω) (hw : w < 6) (oB : okB β) (oG : okG (vL β) γ) (oL : okL a) (hk : kn β γ) : ∃ h1, f_X9_apartFrom 33 B r h = some (w64 (apS β γ a ω w), h1) ∧ Fr (fun c => c = 41) h h1 := by
  have o1 := oB.1
  unfold isB at hX
  unfold isWy at hr
  obtain ⟨k1, e1, f1, z1, -⟩ := e_fill 41 12 0 h (by decide)
  have l10 : ∃ k2, f_X9_apartFrom_l10 33 B r FU 0 k1 = some k2 ∧ (Fr (fun c => c = 41) h k2 ∧ ∀ k, k < 12 → hia k2 41 k = w32 (sm (mkP β ω w k) (vL β))) := loopR (fun n (s : Int32 × AH) => f_X9_apartFrom_l10 33 B r n s.1 s.2) (fun i s => s.1 = w32 (i : Nat) ∧ Fr (fun c => c = 41) h s.2 ∧ ∀ k, k < 12 → hia s.2 41 k = w32 (sm (mkP β ω w k) i)) (fun k2 => Fr (fun c => c = 41) h k2 ∧ ∀ k, k < 12 → hia k2 41 k = w32 (sm (mkP β ω w k) (vL β))) (vL β) (fun i n s hi hP => by
      obtain ⟨v, hh⟩ := s
      obtain ⟨p1, p2, p3⟩ := hP
      dsimp only at p1 p2 p3
      subst p1
      have hB2 := hB.fr p2 (fun c h1 h2 => by omega)
      have d1 := hB2.1
      obtain ⟨f1, -, f3, -⟩ := hB2.2.2.2.2.2.1 i hi
      have k1 := oB.2.2.2.2.2.1 i hi
      have mt := k_turn (hW.fr p2 (by omega) (by omega)) k1.1 k1.2.2.1 (oW w hw _ k1.1).1 (oW w hw _ k1.1).2
      have e41 := p3 (vk β i) k1.1
      refine ⟨(w32 (i + 1 : Nat), sia hh 41 (vk β i) (w32 (sm (mkP β ω w (vk β i)) (i + 1)))), ⟨rfl, p2.tr (Fr.sia _ _ _ _ rfl), fun k hk => ?_⟩, ?_⟩
      · show hia (sia hh 41 _ _) 41 k = _
        rw [ia_sia]
        by_cases q : k = vk β i
        · rw [if_pos q, q]
        · rw [if_neg q, p3 k hk, sm_s, show mkP β ω w k i = 0 from by unfold mkP; rw [if_neg (fun z => q z.symm)], Int.add_zero]
      · show f_X9_apartFrom_l10 33 B r (n + 1) (w32 i) hh = f_X9_apartFrom_l10 33 B r n (w32 (i + 1 : Nat)) _
        rw [f_X9_apartFrom_l10]
        simp (disch := omega) only [d1, w_le, w_ibN, gd_t, w_clN, f1, f3, mt, bnd_s, lt_b, e41, w_add, wl_1, w_s]
        rw [if_neg (show ¬ ((vL β : Int) ≤ (i : Int)) by omega), sm_s, show mkP β ω w (vk β i) i = ((ω.1 w (vk β i) * (100 - ω.2 w (vk β i) * vp β i) / 100 : Nat) : Int) from by unfold mkP; rw [if_pos rfl]; rfl]) (fun n s hP => by
      obtain ⟨v, hh⟩ := s
      obtain ⟨p1, p2, p3⟩ := hP
      dsimp only at p1 p2 p3
      subst p1
      have d1 := (hB.fr p2 (fun c h1 h2 => by omega)).1
      refine ⟨hh, ?_, p2, p3⟩
      show f_X9_apartFrom_l10 33 B r (n + 1) (w32 (vL β)) hh = _
      rw [f_X9_apartFrom_l10, d1, if_pos (Int32.le_refl _)]) FU (by unfold FU; omega) (0, k1) ⟨rfl, f1, fun k hk => by rw [z1 k hk]; rfl⟩
  obtain ⟨k2, e2, f2, z2⟩ := l10
  have l62 : ∃ t, f_X9_apartFrom_l62 33 FU 0 0 0 k2 = some t ∧ (t.1 = w64 (sm (sMa β ω w) 12) ∧ t.2.1 = w64 (sm (LI β γ a) 12) ∧ Fr (fun c => c = 41) h t.2.2 ∧ ∀ k, k < 12 → hia t.2.2 41 k = w32 (sMa β ω w k)) := loopR (fun n (s : Int64 × Int64 × Int32 × AH) => f_X9_apartFrom_l62 33 n s.1 s.2.1 s.2.2.1 s.2.2.2) (fun i s => s.1 = w64 (sm (sMa β ω w) i) ∧ s.2.1 = w64 (sm (LI β γ a) i) ∧ s.2.2.1 = w32 (i : Nat) ∧ Fr (fun c => c = 41) h s.2.2.2 ∧ (∀ k, k < i → hia s.2.2.2 41 k = w32 (sMa β ω w k)) ∧ (∀ k, i ≤ k → k < 12 → hia s.2.2.2 41 k = w32 (sm (mkP β ω w k) (vL β)))) (fun t => t.1 = w64 (sm (sMa β ω w) 12) ∧ t.2.1 = w64 (sm (LI β γ a) 12) ∧ Fr (fun c => c = 41) h t.2.2 ∧ ∀ k, k < 12 → hia t.2.2 41 k = w32 (sMa β ω w k)) 12 (fun i n s hi hP => by
      obtain ⟨v3, v5, v7, hh⟩ := s
      obtain ⟨p1, p2, p3, p4, p5, p6⟩ := hP
      dsimp only at p1 p2 p3 p4 p5 p6
      subst p1 p2 p3
      have hU2 := hU.fr p4 (fun c h1 h2 => by omega)
      have u6 : hia hh 39 i = w32 (LI β γ a i) := (hU2.k33 hk hi).1
      have u7 := (hU2.k33 hk hi).2
      have e41 := p6 i (Nat.le_refl _) hi
      have r1 := mkP_rg oB oW hw i (Nat.le_refl _)
      have r2 := sLo_rg oB i
      have r3 := LI_rg oB oG oL hk i
      have r4 := sMa_rg oB oW hw i
      have cd : f_X11_cutDown (w64 (sm (mkP β ω w i) (vL β))) (w64 (sLo β i)) = some (w32 (sMa β ω w i)) := by
        unfold sMa
        by_cases q : sLo β i = 0
        · rw [if_pos q, q, e_cut0]
        · rw [if_neg q, e_cutDown _ _ (by omega) (by omega) (by omega) (by omega)]
      refine ⟨(w64 (sm (sMa β ω w) (i + 1)), w64 (sm (LI β γ a) (i + 1)), w32 (i + 1 : Nat), sia hh 41 i (w32 (sMa β ω w i))), ⟨rfl, rfl, rfl, p4.tr (Fr.sia _ _ _ _ rfl), fun k hk => ?_, fun k h1 h2 => ?_⟩, ?_⟩
      · show hia (sia hh 41 _ _) 41 k = _
        rw [ia_sia]
        by_cases q : k = i
        · rw [if_pos q, q]
        · rw [if_neg q]; exact p5 k (by omega)
      · show hia (sia hh 41 _ _) 41 k = _
        rw [ia_sia, if_neg (by omega)]; exact p6 k (by omega) h2
      · show f_X9_apartFrom_l62 33 (n + 1) _ _ (w32 i) hh = f_X9_apartFrom_l62 33 n _ _ (w32 (i + 1 : Nat)) _
        rw [f_X9_apartFrom_l62]
        simp (disch := omega) only [wl_12, w_le, w_ibN, gd_t, w_clN, e41, u7, w_l, cd, bnd_s, lt_b, ia_sia_eq, ia_sia_ne, u6, v_add, wl_1, w_add, w_s, sm_s]
        rw [if_neg (show ¬ ((12 : Int) ≤ (i : Int)) by omega)]) (fun n s hP => by
      obtain ⟨v3, v5, v7, hh⟩ := s
      obtain ⟨p1, p2, p3, p4, p5, p6⟩ := hP
      dsimp only at p1 p2 p3 p4 p5 p6
      subst p1 p2 p3
      refine ⟨(w64 (sm (sMa β ω w) 12), w64 (sm (LI β γ a) 12), hh), ?_, rfl, rfl, p4, p5⟩
      show f_X9_apartFrom_l62 33 (n + 1) _ _ (w32 (12 : Nat)) hh = _
      rw [f_X9_apartFrom_l62, if_pos (by decide)]) FU (by decide) (0, 0, 0, k2) ⟨rfl, rfl, rfl, f2, fun k hk => by omega, fun k _ hk => z2 k hk⟩
  obtain ⟨⟨t1, t2, k3⟩, e3, g1, g2, f3, z3⟩ := l62
  dsimp only at g1 g2 f3 z3
  subst g1 g2
  have hU3 := hU.fr f3 (fun c h1 h2 => by omega)
  have l131 : f_X9_apartFrom_l131 33 (w64 (sm (sMa β ω w) 12)) (w64 (sm (LI β γ a) 12)) k3 FU 0 0 = some (w64 (apS β γ a ω w)) := loopN (fun n (s : Int64 × Int32) => f_X9_apartFrom_l131 33 (w64 (sm (sMa β ω w) 12)) (w64 (sm (LI β γ a) 12)) k3 n s.1 s.2) (fun i => (w64 (sm (apI β γ a ω w) i), w32 (i : Nat))) 12 _ (fun i n hi => by
      have u6 : hia k3 39 i = w32 (LI β γ a i) := (hU3.k33 hk hi).1
      have e41 := z3 i hi
      have r := sMa_rg oB oW hw i
      have r2 := LI_rg oB oG oL hk i
      have r3 := apD_rg oB oG oL hk oW hw i
      show f_X9_apartFrom_l131 33 (w64 (sm (sMa β ω w) 12)) (w64 (sm (LI β γ a) 12)) k3 (n + 1) (w64 (sm _ i)) (w32 i) = f_X9_apartFrom_l131 33 (w64 (sm (sMa β ω w) 12)) (w64 (sm (LI β γ a) 12)) k3 n (w64 (sm _ (i + 1))) (w32 (i + 1 : Nat))
      rw [f_X9_apartFrom_l131, sm_s (apI β γ a ω w) i]
      simp (disch := omega) only [wl_12, w_le, w_ibN, gd_t, w_clN, e41, u6, w_l, v_mul, v_sub, e_absL, v_add, wl_1, w_add, w_s]
      rw [if_neg (show ¬ ((12 : Int) ≤ (i : Int)) by omega)]
      rfl) (fun n => by
      show f_X9_apartFrom_l131 33 _ _ k3 (n + 1) _ (w32 (12 : Nat)) = _
      rw [f_X9_apartFrom_l131, if_pos (by decide)]
      rfl) FU (by decide)
  refine ⟨k3, ?_, f3⟩
  unfold f_X9_apartFrom
  rw [show f_J7_fill_53178 (33 + 8) 12 0 h = _ from e1, bnd_s, e2, bnd_s, e3, bnd_s]
  dsimp only
  rw [l131, bnd_s]
theorem k_owner (hA : AD h) (hWC : WC h (xw S)) (hB : BC h B β) (hU : UF h 33 β γ a) (hX : isB B) (oW : okW (xw S)) (oB : okB β) (oG : okG (vL β) γ) (oL : okL a) (hk : kn β γ) : ∃ h1, f_X11_ownerBy B 33 h = some (w32 (whS β γ a (xw S) 6).1, h1) ∧ Fr (fun c => c = 41) h h1 := by
  have hX' := hX
  unfold isB at hX'
  have lp : ∃ t, f_X11_ownerBy_l8 B 33 FU (-1) 0 0 h = some t ∧ (t.1 = w32 (whS β γ a (xw S) 6).1 ∧ Fr (fun c => c = 41) h t.2) := loopR (fun n (s : Int32 × Int64 × Int32 × AH) => f_X11_ownerBy_l8 B 33 n s.1 s.2.1 s.2.2.1 s.2.2.2) (fun i s => s.1 = w32 (whS β γ a (xw S) i).1 ∧ s.2.1 = w64 (whS β γ a (xw S) i).2 ∧ s.2.2.1 = w32 (i : Nat) ∧ Fr (fun c => c = 41) h s.2.2.2) (fun t => t.1 = w32 (whS β γ a (xw S) 6).1 ∧ Fr (fun c => c = 41) h t.2) 6 (fun i n s hi hP => by
      obtain ⟨v3, v4, v6, hh⟩ := s
      obtain ⟨p1, p2, p3, p4⟩ := hP
      dsimp only at p1 p2 p3 p4
      subst p1 p2 p3
      have r4 : hra hh 4 = hra h 4 := (p4 4 (by omega)).2.2.2.2
      have isW := (hA.2.2.1 i hi).1
      have sW := isWy_sh isW
      have isW' := isW
      unfold isWy at isW'
      have hW2 := (hWC i hi).fr p4 (by omega) (by omega)
      have tt := k_tells hW2 oW hi
      have rr := whS_rg oB oG oL hk oW i (by omega)
      have ra : 0 ≤ apS β γ a (xw S) i ∧ apS β γ a (xw S) i ≤ 48000000000000 := apS_rg oB oG oL hk oW hi 12 (Nat.le_refl _)
      rcases Classical.em (tls (xw S) i) with q | q
      · obtain ⟨h2, e2, f2⟩ := k_apart (hB.fr p4 (fun c h1 h2 => by omega)) (hU.fr p4 (fun c h1 h2 => by omega)) hX isW hW2 oW hi oB oG oL hk
        refine ⟨(w32 (whS β γ a (xw S) (i + 1)).1, w64 (whS β γ a (xw S) (i + 1)).2, w32 (i + 1 : Nat), h2), ⟨rfl, rfl, rfl, p4.tr f2⟩, ?_⟩
        show f_X11_ownerBy_l8 B 33 (n + 1) _ _ (w32 i) hh = f_X11_ownerBy_l8 B 33 n _ _ _ h2
        rw [f_X11_ownerBy_l8, if_neg (by rw [wl_6, w_le _ _ (by omega) (by omega) (by omega) (by omega)]; omega), gd_t (by rw [w_ibN _ _ (by omega)]; omega), w_clN _ (by omega), r4, gd_t sW, tt.1 q, bnd_s, if_pos rfl, gd_t (by rw [w_ibN _ _ (by omega)]; omega), gd_t sW, e2, bnd_s]
        simp (disch := omega) only [wl_1, w_neg, w_eq, c_ge, w_add, w_s]
        by_cases q1 : (whS β γ a (xw S) i).1 = -1
        · rw [if_pos q1, whS_1 ⟨q, Or.inl q1⟩]
        · rw [if_neg q1]
          by_cases q2 : (whS β γ a (xw S) i).2 ≤ apS β γ a (xw S) i
          · rw [if_pos q2, whS_0 (fun z => by rcases z.2 with e | e; exact q1 e; omega)]
          · rw [if_neg q2, whS_1 ⟨q, Or.inr (by omega)⟩]
      · refine ⟨(w32 (whS β γ a (xw S) (i + 1)).1, w64 (whS β γ a (xw S) (i + 1)).2, w32 (i + 1 : Nat), hh), ⟨rfl, rfl, rfl, p4⟩, ?_⟩
        show f_X11_ownerBy_l8 B 33 (n + 1) _ _ (w32 i) hh = f_X11_ownerBy_l8 B 33 n _ _ _ hh
        rw [f_X11_ownerBy_l8, if_neg (by rw [wl_6, w_le _ _ (by omega) (by omega) (by omega) (by omega)]; omega), gd_t (by rw [w_ibN _ _ (by omega)]; omega), w_clN _ (by omega), r4, gd_t sW, tt.2 q, bnd_s, if_neg (by decide), whS_0 (fun z => q z.1), wl_1, w_add, w_s]) (fun n s hP => by
      obtain ⟨v3, v4, v6, hh⟩ := s
      obtain ⟨p1, p2, p3, p4⟩ := hP
      dsimp only at p1 p2 p3 p4
      subst p1 p2 p3
      refine ⟨(w32 (whS β γ a (xw S) 6).1, hh), ?_, rfl, p4⟩
      show f_X11_ownerBy_l8 B 33 (n + 1) _ _ (w32 (6 : Nat)) hh = _
      rw [f_X11_ownerBy_l8, if_pos (by decide)]) FU (by decide) (-1, 0, 0, h) ⟨rfl, rfl, rfl, Fr.rf⟩
  obtain ⟨⟨t1, h1⟩, e1, g1, f1⟩ := lp
  dsimp only at g1 f1
  subst g1
  refine ⟨h1, ?_, f1⟩
  unfold f_X11_ownerBy
  rw [e1, bnd_s]
theorem q_whose (x : Int32) (hI : CI h S) (oS : okS S) : ∃ s, RC (f_X11_whose x h) h s ∧ ∀ h', MI2 h' S T → RM (f_X12_whose x h') h' s := by
  refine q_asked x hI oS _ _ (fun b hb hx hk h1 f1 hI1 u1 => ?_)
  subst hx
  have o := oS.1 b hb
  obtain ⟨h2, e2, f2⟩ := k_owner hI1.1 hI1.2.2.2.1 (hI1.2.1 b hb).1 u1 (hI1.1.1 b hb).1 oS.2.2.1 o.1 o.2.1 oS.2.1 hk
  refine ⟨some (whS (xb S b) (xg S b) (xa S) (xw S) 6).1, RC_some (f2.mono (fun c q => by unfold WS; omega)) ?_, fun h' hM hc => RM_some FrQ.rf ?_ hc⟩
  · try dsimp only
    rw [e2, bnd_s]
  · try dsimp only
    rw [m_whose (hM.mk oS hb) hM.2.2.1 oS.2.2.1 hk, bnd_s]
end WHO
