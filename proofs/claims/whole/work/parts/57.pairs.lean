/-! sleepy pairs; where it falls open -/
def prC (β : BV) (γ : GV) (a : LV) (g : Bool) (i j : Nat) : Int := if i < j ∧ vt β i = vt β j ∧ (if g = true then sMid β γ a j < sMid β γ a i else sMid β γ a i < sMid β γ a j) then 1 else 0
def prS (β : BV) (γ : GV) (a : LV) (g : Bool) (i : Nat) : Int := sm (prC β γ a g i) (vL β)
section PRS
variable {h : AH} {b B : Nat} {β : BV} {γ : GV} {a : LV}
theorem prC_rg (g : Bool) (i j : Nat) : 0 ≤ prC β γ a g i j ∧ prC β γ a g i j ≤ 1 := by
  unfold prC
  split <;> omega
theorem prS_rg (g : Bool) (i n : Nat) (hn : n ≤ 40) : 0 ≤ sm (prC β γ a g i) n ∧ sm (prC β γ a g i) n ≤ 40 := by
  have := sm_rg (f := prC β γ a g i) (n := n) (a := 0) (b := 1) (fun j _ => prC_rg g i j)
  omega
theorem prS_rg2 (oB : okB β) (g : Bool) (n : Nat) (hn : n ≤ 40) : 0 ≤ sm (prS β γ a g) n ∧ sm (prS β γ a g) n ≤ 1600 := by
  have := sm_rg (f := prS β γ a g) (n := n) (a := 0) (b := 40) (fun j _ => prS_rg g j (vL β) oB.1)
  omega
theorem prC_0 (g : Bool) (i : Nat) : sm (prC β γ a g i) (i + 1) = 0 := sm_0s (fun j hj => by unfold prC; rw [if_neg (by omega)])
theorem m_pairs (hM : MK h b β γ a) (hk : kn β γ) (g : Bool) (w : Int) (hw : w = if g = true then -1 else 1) : f_X12_pairs (w32 b) (w32 w) h = some (w32 (sm (prS β γ a g) (vL β))) := by
  obtain ⟨hB, hG, hL, oB, oG, oL, hb⟩ := id hM
  have e1 := hB.1
  have o1 := oB.1
  have inner : ∀ i, i < vL β → f_X12_pairs_l22 (w32 b) (w32 w) (w32 i) h FU (w32 (sm (prS β γ a g) i + sm (prC β γ a g i) (i + 1))) (w32 (i + 1 : Nat)) = some (w32 (sm (prS β γ a g) (i + 1))) := by
    intro i hi
    have r1 := prS_rg2 (γ := γ) (a := a) oB g i (by omega)
    have f1 := hB.2.2.2.2.2.1 i hi
    have k1 := oB.2.2.2.2.2.1 i hi
    have m1 := sMid_rg oB oG oL hi (kn_l hk hi).1 (kn_l hk hi).2
    refine loopF (fun n (s : Int32 × Int32) => f_X12_pairs_l22 (w32 b) (w32 w) (w32 i) h n s.1 s.2) (fun j => (w32 (sm (prS β γ a g) i + sm (prC β γ a g i) j), w32 (j : Nat))) (i + 1) (vL β) (by omega) _ (fun j n hij hj => ?_) (fun n => ?_) FU (by unfold FU; omega)
    · have f2 := hB.2.2.2.2.2.1 j hj
      have k2 := oB.2.2.2.2.2.1 j hj
      have m2 := sMid_rg oB oG oL hj (kn_l hk hj).1 (kn_l hk hj).2
      have r2 := prS_rg (β := β) (γ := γ) (a := a) g i j (by omega)
      show f_X12_pairs_l22 (w32 b) (w32 w) (w32 i) h (n + 1) (w32 (sm _ i + sm _ j)) (w32 j) = f_X12_pairs_l22 (w32 b) (w32 w) (w32 i) h n (w32 (sm _ i + sm _ (j + 1))) (w32 (j + 1 : Nat))
      rw [f_X12_pairs_l22]
      simp (disch := omega) only [w_ibN, w_clN, gd_t, e1, w_le, e_at, f1, f2, wl_0, wl_1, w_add, w_sub, sm_s, m_mid hM hi (kn_l hk hi).1 (kn_l hk hi).2, m_mid hM hj (kn_l hk hj).1 (kn_l hk hj).2, bnd_s, w_eq]
      rw [if_neg (show ¬ ((vL β : Int) ≤ (j : Int)) by omega), w_s]
      by_cases q : vt β i = vt β j
      · rw [if_pos (show ((vt β i : Nat) : Int) = (vt β j : Int) by omega)]
        cases g with
        | true =>
          have hw : w = -1 := hw
          subst hw
          rw [if_neg (by decide)]
          by_cases q2 : sMid β γ a j < sMid β γ a i
          · rw [if_neg (show ¬ (0 ≤ sMid β γ a j - sMid β γ a i) by omega), show prC β γ a true i j = 1 from by unfold prC; rw [if_pos ⟨by omega, q, by rw [if_pos rfl]; exact q2⟩], Int.add_assoc]
          · rw [if_pos (show (0 ≤ sMid β γ a j - sMid β γ a i) by omega), show prC β γ a true i j = 0 from by unfold prC; rw [if_neg (fun z => q2 (by have := z.2.2; rw [if_pos rfl] at this; exact this))], Int.add_assoc]
        | false =>
          have hw : w = 1 := hw
          subst hw
          rw [if_pos (by decide)]
          by_cases q2 : sMid β γ a i < sMid β γ a j
          · rw [if_neg (show ¬ (sMid β γ a j - sMid β γ a i ≤ 0) by omega), show prC β γ a false i j = 1 from by unfold prC; rw [if_pos ⟨by omega, q, by rw [if_neg (by decide)]; exact q2⟩], Int.add_assoc]
          · rw [if_pos (show (sMid β γ a j - sMid β γ a i ≤ 0) by omega), show prC β γ a false i j = 0 from by unfold prC; rw [if_neg (fun z => q2 (by have := z.2.2; rw [if_neg (by decide)] at this; exact this))], Int.add_assoc]
      · rw [if_neg (show ¬ ((vt β i : Nat) : Int) = (vt β j : Int) by omega), show prC β γ a g i j = 0 from by unfold prC; rw [if_neg (fun z => q z.2.1)], Int.add_assoc]
    · show f_X12_pairs_l22 (w32 b) (w32 w) (w32 i) h (n + 1) (w32 (sm _ i + sm _ (vL β))) (w32 (vL β)) = _
      rw [f_X12_pairs_l22]
      simp (disch := omega) only [w_ibN, w_clN, gd_t, e1, w_le, sm_s]
      rw [if_pos (by omega)]
      rfl
  have hl : f_X12_pairs_l5 (w32 b) (w32 w) h FU (w32 (sm (prS β γ a g) 0)) (w32 (0 : Nat)) = some (w32 (sm (prS β γ a g) (vL β))) := loopN (fun n (s : Int32 × Int32) => f_X12_pairs_l5 (w32 b) (w32 w) h n s.1 s.2) (fun i => (w32 (sm (prS β γ a g) i), w32 (i : Nat))) (vL β) _ (fun i n hi => by
      show f_X12_pairs_l5 (w32 b) (w32 w) h (n + 1) (w32 (sm _ i)) (w32 i) = f_X12_pairs_l5 (w32 b) (w32 w) h n (w32 (sm _ (i + 1))) (w32 (i + 1 : Nat))
      have ii := inner i hi
      rw [prC_0, Int.add_zero] at ii
      rw [f_X12_pairs_l5]
      simp (disch := omega) only [w_ibN, w_clN, gd_t, e1, w_le, wl_1, w_add, w_s]
      rw [if_neg (show ¬ ((vL β : Int) ≤ (i : Int)) by omega), ii, bnd_s]) (fun n => by
      show f_X12_pairs_l5 (w32 b) (w32 w) h (n + 1) (w32 (sm _ (vL β))) (w32 (vL β)) = _
      rw [f_X12_pairs_l5]
      simp (disch := omega) only [w_ibN, w_clN, gd_t, e1, w_le]
      rw [if_pos (by omega)]) FU (by unfold FU; omega)
  unfold f_X12_pairs
  rw [show (f_X12_pairs_l5 (w32 b) (w32 w) h FU 0 0) = _ from hl, bnd_s]
theorem k_pairs (hB : BC h B β) (hU : UF h 33 β γ a) (oB : okB β) (oG : okG (vL β) γ) (oL : okL a) (hk : kn β γ) (g : Bool) : f_X9_pairs 33 B g h = some (w32 (sm (prS β γ a g) (vL β))) := by
  have e1 := hB.1
  have o1 := oB.1
  have inner : ∀ i, i < vL β → f_X9_pairs_l20 33 B g (w32 i) h FU (w32 (sm (prS β γ a g) i + sm (prC β γ a g i) (i + 1))) (w32 (i + 1 : Nat)) = some (w32 (sm (prS β γ a g) (i + 1))) := by
    intro i hi
    have r1 := prS_rg2 (γ := γ) (a := a) oB g i (by omega)
    have f1 := hB.2.2.2.2.2.1 i hi
    have k1 := oB.2.2.2.2.2.1 i hi
    have m1 := sMid_rg oB oG oL hi (kn_l hk hi).1 (kn_l hk hi).2
    have d1 := (hU.l33 hi (kn_l hk hi).1 (kn_l hk hi).2).2.2.2.2
    refine loopF (fun n (s : Int32 × Int32) => f_X9_pairs_l20 33 B g (w32 i) h n s.1 s.2) (fun j => (w32 (sm (prS β γ a g) i + sm (prC β γ a g i) j), w32 (j : Nat))) (i + 1) (vL β) (by omega) _ (fun j n hij hj => ?_) (fun n => ?_) FU (by unfold FU; omega)
    · have f2 := hB.2.2.2.2.2.1 j hj
      have k2 := oB.2.2.2.2.2.1 j hj
      have m2 := sMid_rg oB oG oL hj (kn_l hk hj).1 (kn_l hk hj).2
      have d2 := (hU.l33 hj (kn_l hk hj).1 (kn_l hk hj).2).2.2.2.2
      have r2 := prS_rg (β := β) (γ := γ) (a := a) g i j (by omega)
      show f_X9_pairs_l20 33 B g (w32 i) h (n + 1) (w32 (sm _ i + sm _ j)) (w32 j) = f_X9_pairs_l20 33 B g (w32 i) h n (w32 (sm _ i + sm _ (j + 1))) (w32 (j + 1 : Nat))
      rw [f_X9_pairs_l20]
      simp (disch := omega) only [w_ibN, w_clN, gd_t, e1, w_le, f1, f2, d1, d2, wl_1, w_neg, e_cmp1, e_cmpm, w_add, sm_s, w_eq]
      rw [if_neg (show ¬ ((vL β : Int) ≤ (j : Int)) by omega), w_s]
      by_cases q : vt β i = vt β j
      · rw [if_pos (show ((vt β i : Nat) : Int) = (vt β j : Int) by omega)]
        cases g with
        | true =>
          rw [if_pos rfl]
          by_cases q2 : sMid β γ a j < sMid β γ a i
          · rw [if_pos q2, show prC β γ a true i j = 1 from by unfold prC; rw [if_pos ⟨by omega, q, by rw [if_pos rfl]; exact q2⟩], Int.add_assoc]
          · rw [if_neg q2, show prC β γ a true i j = 0 from by unfold prC; rw [if_neg (fun z => q2 (by have := z.2.2; rw [if_pos rfl] at this; exact this))], Int.add_zero]
        | false =>
          rw [if_neg (by decide)]
          by_cases q2 : sMid β γ a i < sMid β γ a j
          · rw [if_pos q2, show prC β γ a false i j = 1 from by unfold prC; rw [if_pos ⟨by omega, q, by rw [if_neg (by decide)]; exact q2⟩], Int.add_assoc]
          · rw [if_neg q2, show prC β γ a false i j = 0 from by unfold prC; rw [if_neg (fun z => q2 (by have := z.2.2; rw [if_neg (by decide)] at this; exact this))], Int.add_zero]
      · rw [if_neg (show ¬ ((vt β i : Nat) : Int) = (vt β j : Int) by omega), show prC β γ a g i j = 0 from by unfold prC; rw [if_neg (fun z => q z.2.1)], Int.add_zero]
    · show f_X9_pairs_l20 33 B g (w32 i) h (n + 1) (w32 (sm _ i + sm _ (vL β))) (w32 (vL β)) = _
      rw [f_X9_pairs_l20, e1, if_pos (Int32.le_refl _), sm_s]
      rfl
  have hl : f_X9_pairs_l5 33 B g h FU (w32 (sm (prS β γ a g) 0)) (w32 (0 : Nat)) = some (w32 (sm (prS β γ a g) (vL β))) := loopN (fun n (s : Int32 × Int32) => f_X9_pairs_l5 33 B g h n s.1 s.2) (fun i => (w32 (sm (prS β γ a g) i), w32 (i : Nat))) (vL β) _ (fun i n hi => by
      show f_X9_pairs_l5 33 B g h (n + 1) (w32 (sm _ i)) (w32 i) = f_X9_pairs_l5 33 B g h n (w32 (sm _ (i + 1))) (w32 (i + 1 : Nat))
      have ii := inner i hi
      rw [prC_0, Int.add_zero] at ii
      rw [f_X9_pairs_l5]
      simp (disch := omega) only [e1, w_le, wl_1, w_add, w_s]
      rw [if_neg (show ¬ ((vL β : Int) ≤ (i : Int)) by omega), ii, bnd_s]) (fun n => by
      show f_X9_pairs_l5 33 B g h (n + 1) (w32 (sm _ (vL β))) (w32 (vL β)) = _
      rw [f_X9_pairs_l5, e1, if_pos (Int32.le_refl _)]) FU (by unfold FU; omega)
  unfold f_X9_pairs
  rw [show (f_X9_pairs_l5 33 B g h FU 0 0) = _ from hl, bnd_s]
/-! falls open -/
def opP (β : BV) (γ : GV) (a : LV) (k l : Nat) : Prop := l = k ∨ l = k + 1 ∨ (vt β l ≠ vt β k ∧ vt β l ≠ vt β (k + 1)) ∨ sTH β γ a l < min (sTL β γ a k) (sTL β γ a (k + 1))
def opn (β : BV) (γ : GV) (a : LV) (k : Nat) : Prop := k + 1 < vL β ∧ ∀ l, l < vL β → opP β γ a k l
theorem m_open (hM : MK h b β γ a) (hk : kn β γ) {k : Nat} (hkl : k < vL β) : (opn β γ a k → f_X12_isOpen (w32 b) (w32 k) h = some true) ∧ (¬ opn β γ a k → f_X12_isOpen (w32 b) (w32 k) h = some false) := by
  obtain ⟨hB, hG, hL, oB, oG, oL, hb⟩ := id hM
  have e1 := hB.1
  have o1 := oB.1
  unfold f_X12_isOpen
  simp (disch := omega) only [w_ibN, gd_t, w_clN, e1, wl_1, w_add, w_lt, w_s]
  by_cases q : k + 1 < vL β
  · have t1 := m_TL hM hkl (kn_l hk hkl).1 (kn_l hk hkl).2
    have t2 := m_TL hM q (kn_l hk q).1 (kn_l hk q).2
    have r1 := sTL_rg oB oG oL hkl (kn_l hk hkl).1 (kn_l hk hkl).2
    have r2 := sTL_rg oB oG oL q (kn_l hk q).1 (kn_l hk q).2
    have f1 := hB.2.2.2.2.2.1 k hkl
    have f2 := hB.2.2.2.2.2.1 (k + 1) q
    have k1 := oB.2.2.2.2.2.1 k hkl
    have k2 := oB.2.2.2.2.2.1 (k + 1) q
    rw [if_pos (by omega), t1, bnd_s, t2, bnd_s, e_min _ _ (by omega) (by omega) (by omega) (by omega)]
    have sc := scan (fun n (v : Int32) => f_X12_isOpen_l35 (w32 b) (w32 k) (w32 (min (sTL β γ a k) (sTL β γ a (k + 1)))) h n v) (fun i => w32 (i : Nat)) (vL β) (opP β γ a k) (.inl ()) (fun _ => .inr false) (fun i n hi hP => by
        have f3 := hB.2.2.2.2.2.1 i hi
        have k3 := oB.2.2.2.2.2.1 i hi
        have t3 := m_TH hM hi (kn_l hk hi).1 (kn_l hk hi).2
        have r3 := sTL_rg oB oG oL hi (kn_l hk hi).1 (kn_l hk hi).2
        show f_X12_isOpen_l35 (w32 b) (w32 k) _ h (n + 1) (w32 i) = f_X12_isOpen_l35 (w32 b) (w32 k) _ h n (w32 (i + 1 : Nat))
        rw [f_X12_isOpen_l35]
        simp (disch := omega) only [w_ibN, w_clN, gd_t, e1, w_le, e_at, f1, f2, f3, wl_1, w_add, w_s, w_eq, t3, bnd_s, lt_b, w_lt, if_true, if_false, Bool.false_eq_true]
        rw [if_neg (show ¬ ((vL β : Int) ≤ (i : Int)) by omega)]
        by_cases p1 : i = k
        · rw [if_pos (by omega)]
        rw [if_neg (show ¬ ((i : Int) = (k : Int)) by omega)]
        by_cases p2 : i = k + 1
        · rw [if_pos (by omega)]
        rw [if_neg (show ¬ ((i : Int) = ((k + 1 : Nat) : Int)) by omega)]
        by_cases p3 : vt β i = vt β k
        · rw [if_pos (show ((vt β i : Nat) : Int) = (vt β k : Int) by omega), if_pos (by unfold opP at hP; omega)]
        rw [if_neg (show ¬ ((vt β i : Nat) : Int) = (vt β k : Int) by omega)]
        by_cases p4 : vt β i = vt β (k + 1)
        · rw [if_pos (show ((vt β i : Nat) : Int) = (vt β (k + 1) : Int) by omega), if_pos (by unfold opP at hP; omega)]
        rw [if_neg (show ¬ ((vt β i : Nat) : Int) = (vt β (k + 1) : Int) by omega)]) (fun i n hi hP => by
        have f3 := hB.2.2.2.2.2.1 i hi
        have k3 := oB.2.2.2.2.2.1 i hi
        have t3 := m_TH hM hi (kn_l hk hi).1 (kn_l hk hi).2
        have r3 := sTL_rg oB oG oL hi (kn_l hk hi).1 (kn_l hk hi).2
        show f_X12_isOpen_l35 (w32 b) (w32 k) _ h (n + 1) (w32 i) = _
        rw [f_X12_isOpen_l35]
        simp (disch := omega) only [w_ibN, w_clN, gd_t, e1, w_le, e_at, f1, f2, f3, wl_1, w_add, w_s, w_eq, t3, bnd_s, lt_b, w_lt, if_true, if_false, Bool.false_eq_true]
        unfold opP at hP
        rw [if_neg (show ¬ ((vL β : Int) ≤ (i : Int)) by omega), if_neg (show ¬ ((i : Int) = (k : Int)) by omega), if_neg (show ¬ ((i : Int) = ((k + 1 : Nat) : Int)) by omega)]
        by_cases p3 : vt β i = vt β k
        · rw [if_pos (show ((vt β i : Nat) : Int) = (vt β k : Int) by omega), if_neg (by omega)]
        rw [if_neg (show ¬ ((vt β i : Nat) : Int) = (vt β k : Int) by omega), if_pos (show ((vt β i : Nat) : Int) = (vt β (k + 1) : Int) by omega), if_neg (by omega)]) (fun n => by
        show f_X12_isOpen_l35 (w32 b) (w32 k) _ h (n + 1) (w32 (vL β)) = _
        rw [f_X12_isOpen_l35]
        simp (disch := omega) only [w_ibN, w_clN, gd_t, e1, w_le]
        rw [if_pos (by omega)]) FU (by unfold FU; omega)
    rw [show (0 : Int32) = w32 (0 : Nat) from rfl]
    constructor
    · intro ho
      rw [show f_X12_isOpen_l35 (w32 b) (w32 k) (w32 (min (sTL β γ a k) (sTL β γ a (k + 1)))) h FU (w32 (0 : Nat)) = _ from sc.1 ho.2, bnd_s]
      rfl
    · intro ho
      rcases first_of (opP β γ a k) (vL β) with hall | ⟨j, hj, hn, hbef⟩
      · exact absurd ⟨q, hall⟩ ho
      · rw [show f_X12_isOpen_l35 (w32 b) (w32 k) (w32 (min (sTL β γ a k) (sTL β γ a (k + 1)))) h FU (w32 (0 : Nat)) = _ from sc.2 j hj hn hbef, bnd_s]
        rfl
  · rw [if_neg (by omega)]
    exact ⟨fun ho => absurd ho.1 q, fun _ => rfl⟩
theorem k_open (hB : BC h B β) (hU : UF h 33 β γ a) (oB : okB β) (oG : okG (vL β) γ) (oL : okL a) (hk : kn β γ) {k : Nat} (q : k + 1 < vL β) : (opn β γ a k → f_X9_opensAt 33 B (w32 k) h = some true) ∧ (¬ opn β γ a k → f_X9_opensAt 33 B (w32 k) h = some false) := by
  have e1 := hB.1
  have o1 := oB.1
  have hkl : k < vL β := by omega
  have t1 := (hU.l33 hkl (kn_l hk hkl).1 (kn_l hk hkl).2).2.2.1
  have t2 := (hU.l33 q (kn_l hk q).1 (kn_l hk q).2).2.2.1
  have r1 := sTL_rg oB oG oL hkl (kn_l hk hkl).1 (kn_l hk hkl).2
  have r2 := sTL_rg oB oG oL q (kn_l hk q).1 (kn_l hk q).2
  have f1 := hB.2.2.2.2.2.1 k hkl
  have f2 := hB.2.2.2.2.2.1 (k + 1) q
  have k1 := oB.2.2.2.2.2.1 k hkl
  have k2 := oB.2.2.2.2.2.1 (k + 1) q
  unfold f_X9_opensAt
  simp (disch := omega) only [w_ibN, gd_t, w_clN, wl_1, w_add, w_s, t1, t2, e_min]
  have sc := scan (fun n (v : Int32) => f_X9_opensAt_l21 33 B (w32 k) (w32 (min (sTL β γ a k) (sTL β γ a (k + 1)))) h n v) (fun i => w32 (i : Nat)) (vL β) (opP β γ a k) (.inl ()) (fun _ => .inr false) (fun i n hi hP => by
      have f3 := hB.2.2.2.2.2.1 i hi
      have k3 := oB.2.2.2.2.2.1 i hi
      have t3 := (hU.l33 hi (kn_l hk hi).1 (kn_l hk hi).2).2.2.2.1
      have r3 := sTL_rg oB oG oL hi (kn_l hk hi).1 (kn_l hk hi).2
      show f_X9_opensAt_l21 33 B (w32 k) _ h (n + 1) (w32 i) = f_X9_opensAt_l21 33 B (w32 k) _ h n (w32 (i + 1 : Nat))
      rw [f_X9_opensAt_l21]
      simp (disch := omega) only [w_ibN, w_clN, gd_t, e1, w_le, f1, f2, f3, wl_1, w_add, w_s, w_eq, t3, lt_b, w_lt, if_true, if_false, Bool.false_eq_true]
      rw [if_neg (show ¬ ((vL β : Int) ≤ (i : Int)) by omega)]
      have fin : (if (i : Int) = (k : Int) then f_X9_opensAt_l21 33 B (w32 k) (w32 (min (sTL β γ a k) (sTL β γ a (k + 1)))) h n (w32 (i + 1 : Nat)) else if (i : Int) = ((k + 1 : Nat) : Int) then f_X9_opensAt_l21 33 B (w32 k) (w32 (min (sTL β γ a k) (sTL β γ a (k + 1)))) h n (w32 (i + 1 : Nat)) else if sTH β γ a i < min (sTL β γ a k) (sTL β γ a (k + 1)) then f_X9_opensAt_l21 33 B (w32 k) (w32 (min (sTL β γ a k) (sTL β γ a (k + 1)))) h n (w32 (i + 1 : Nat)) else some (.inr false)) = f_X9_opensAt_l21 33 B (w32 k) (w32 (min (sTL β γ a k) (sTL β γ a (k + 1)))) h n (w32 (i + 1 : Nat)) ∨ (vt β i ≠ vt β k ∧ vt β i ≠ vt β (k + 1)) := by
        unfold opP at hP
        by_cases p1 : i = k
        · left; rw [if_pos (by omega)]
        by_cases p2 : i = k + 1
        · left; rw [if_neg (by omega), if_pos (by omega)]
        by_cases p3 : sTH β γ a i < min (sTL β γ a k) (sTL β γ a (k + 1))
        · left; rw [if_neg (by omega), if_neg (by omega), if_pos p3]
        · right; omega
      rcases fin with fin | ⟨n1, n2⟩
      · by_cases p3 : vt β i = vt β k
        · rw [if_pos (show ((vt β i : Nat) : Int) = (vt β k : Int) by omega)]; exact fin
        rw [if_neg (show ¬ ((vt β i : Nat) : Int) = (vt β k : Int) by omega)]
        by_cases p4 : vt β i = vt β (k + 1)
        · rw [if_pos (show ((vt β i : Nat) : Int) = (vt β (k + 1) : Int) by omega)]; exact fin
        rw [if_neg (show ¬ ((vt β i : Nat) : Int) = (vt β (k + 1) : Int) by omega)]
      · rw [if_neg (show ¬ ((vt β i : Nat) : Int) = (vt β k : Int) by omega), if_neg (show ¬ ((vt β i : Nat) : Int) = (vt β (k + 1) : Int) by omega)]) (fun i n hi hP => by
      have f3 := hB.2.2.2.2.2.1 i hi
      have k3 := oB.2.2.2.2.2.1 i hi
      have t3 := (hU.l33 hi (kn_l hk hi).1 (kn_l hk hi).2).2.2.2.1
      have r3 := sTL_rg oB oG oL hi (kn_l hk hi).1 (kn_l hk hi).2
      show f_X9_opensAt_l21 33 B (w32 k) _ h (n + 1) (w32 i) = _
      rw [f_X9_opensAt_l21]
      simp (disch := omega) only [w_ibN, w_clN, gd_t, e1, w_le, f1, f2, f3, wl_1, w_add, w_s, w_eq, t3, lt_b, w_lt, if_true, if_false, Bool.false_eq_true]
      unfold opP at hP
      rw [if_neg (show ¬ ((vL β : Int) ≤ (i : Int)) by omega)]
      by_cases p3 : vt β i = vt β k
      · rw [if_pos (show ((vt β i : Nat) : Int) = (vt β k : Int) by omega), if_neg (show ¬ ((i : Int) = (k : Int)) by omega), if_neg (show ¬ ((i : Int) = ((k + 1 : Nat) : Int)) by omega), if_neg (by omega)]
      rw [if_neg (show ¬ ((vt β i : Nat) : Int) = (vt β k : Int) by omega), if_pos (show ((vt β i : Nat) : Int) = (vt β (k + 1) : Int) by omega), if_neg (show ¬ ((i : Int) = (k : Int)) by omega), if_neg (show ¬ ((i : Int) = ((k + 1 : Nat) : Int)) by omega), if_neg (by omega)]) (fun n => by
      show f_X9_opensAt_l21 33 B (w32 k) _ h (n + 1) (w32 (vL β)) = _
      rw [f_X9_opensAt_l21, e1, if_pos (Int32.le_refl _)]) FU (by unfold FU; omega)
  rw [show (0 : Int32) = w32 (0 : Nat) from rfl]
  constructor
  · intro ho
    rw [show f_X9_opensAt_l21 33 B (w32 k) (w32 (min (sTL β γ a k) (sTL β γ a (k + 1)))) h FU (w32 (0 : Nat)) = _ from sc.1 ho.2, bnd_s]
    rfl
  · intro ho
    rcases first_of (opP β γ a k) (vL β) with hall | ⟨j, hj, hn, hbef⟩
    · exact absurd ⟨q, hall⟩ ho
    · rw [show f_X9_opensAt_l21 33 B (w32 k) (w32 (min (sTL β γ a k) (sTL β γ a (k + 1)))) h FU (w32 (0 : Nat)) = _ from sc.2 j hj hn hbef, bnd_s]
      rfl
end PRS
noncomputable def opI (β : BV) (γ : GV) (a : LV) (k : Nat) : Int := @ite Int (opn β γ a k) (Classical.propDecidable _) 1 0
theorem opI_1 {β : BV} {γ : GV} {a : LV} {k : Nat} (q : opn β γ a k) : opI β γ a k = 1 := @if_pos _ (Classical.propDecidable _) q _ _ _
theorem opI_0 {β : BV} {γ : GV} {a : LV} {k : Nat} (q : ¬ opn β γ a k) : opI β γ a k = 0 := @if_neg _ (Classical.propDecidable _) q _ _ _
theorem opI_rg (β : BV) (γ : GV) (a : LV) (n : Nat) (hn : n ≤ 40) : 0 ≤ sm (opI β γ a) n ∧ sm (opI β γ a) n ≤ 40 := by
  have := sm_rg (f := opI β γ a) (n := n) (a := 0) (b := 1) (fun j _ => by
    rcases Classical.em (opn β γ a j) with q | q
    · rw [opI_1 q]; omega
    · rw [opI_0 q]; omega)
  omega
section FAL
variable {h : AH} {S : SV} {T : Nat}
theorem q_falls (x y : Int32) (hI : CI h S) (oS : okS S) : ∃ s, RC (f_X11_falls x y h) h s ∧ ∀ h', MI2 h' S T → RM (f_X12_falls x y h') h' s := by
  refine q_asked x hI oS _ _ (fun b hb hx hk h1 f1 hI1 u1 => ?_)
  subst hx
  have o := oS.1 b hb
  have hB := (hI1.2.1 b hb).1
  have o1 := o.1.1
  have e1 := hB.1
  obtain ⟨z, rfl, r1, r2⟩ := w_ex y
  have k0 := hk.1
  have oL := oS.2.1
  generalize hβ : xb S b = β at *
  generalize hγ : xg S b = γ at *
  generalize ha : xa S = a at *
  have rg : ∀ n, n ≤ 40 → 0 ≤ sm (opI β γ a) n ∧ sm (opI β γ a) n ≤ 40 := fun n hn => opI_rg β γ a n hn
  have sc := scan (fun n (s : Int32 × Int32) => f_X11_falls_l16 (w32 z) (hra h1 3 b) h1 n s.1 s.2) (fun i => (w32 (sm (opI β γ a) i), w32 (i : Nat))) (vL β - 1) (fun k => ¬ (opn β γ a k ∧ sm (opI β γ a) k = z)) (.inl (w32 (sm (opI β γ a) (vL β - 1)))) (fun j => .inr (w32 (j : Nat), h1)) (fun i n hi hP => by
      have op := k_open hB u1 o.1 o.2.1 oL hk (show i + 1 < vL β by omega)
      have rr := rg i (by omega)
      show f_X11_falls_l16 (w32 z) (hra h1 3 b) h1 (n + 1) (w32 (sm _ i)) (w32 i) = f_X11_falls_l16 (w32 z) (hra h1 3 b) h1 n (w32 (sm _ (i + 1))) (w32 (i + 1 : Nat))
      rw [f_X11_falls_l16]
      simp (disch := omega) only [e1, wl_1, w_add, w_s, w_le]
      rw [if_neg (show ¬ ((vL β : Int) ≤ ((i + 1 : Nat) : Int)) by omega)]
      rcases Classical.em (opn β γ a i) with q | q
      · rw [op.1 q, bnd_s, if_pos rfl, if_neg (ne_w (by omega) (by omega) (by omega) (by omega) (fun e => hP ⟨q, e⟩)), sm_s, opI_1 q]
      · rw [op.2 q, bnd_s, if_neg (by decide), sm_s, opI_0 q, Int.add_zero]) (fun i n hi hP => by
      have hP := Classical.not_not.mp hP
      have op := k_open hB u1 o.1 o.2.1 oL hk (show i + 1 < vL β by omega)
      show f_X11_falls_l16 (w32 z) (hra h1 3 b) h1 (n + 1) (w32 (sm _ i)) (w32 i) = _
      rw [f_X11_falls_l16]
      simp (disch := omega) only [e1, wl_1, w_add, w_s, w_le]
      rw [if_neg (show ¬ ((vL β : Int) ≤ ((i + 1 : Nat) : Int)) by omega), op.1 hP.1, bnd_s, if_pos rfl, if_pos (by rw [hP.2])]) (fun n => by
      show f_X11_falls_l16 (w32 z) (hra h1 3 b) h1 (n + 1) (w32 (sm _ (vL β - 1))) (w32 (vL β - 1 : Nat)) = _
      rw [f_X11_falls_l16]
      simp (disch := omega) only [e1, wl_1, w_add, w_s, w_le]
      rw [if_pos (by omega)]) FU (by unfold FU; omega)
  have lastz : opI β γ a (vL β - 1) = 0 := opI_0 (fun q => by have := q.1; omega)
  have sumz : sm (opI β γ a) (vL β) = sm (opI β γ a) (vL β - 1) := by
    have : vL β = (vL β - 1) + 1 := by omega
    rw [this, sm_s, lastz, Int.add_zero]
    rfl
  have mod : ∀ h', MI2 h' S T → ((∀ i, i < vL β → ¬ (opn β γ a i ∧ sm (opI β γ a) i = z)) → f_X12_falls_l29 (w32 b) (w32 z) h' FU 0 0 = some (.inl (w32 (sm (opI β γ a) (vL β))))) ∧ (∀ j, j < vL β → ¬ ¬ (opn β γ a j ∧ sm (opI β γ a) j = z) → (∀ i, i < j → ¬ (opn β γ a i ∧ sm (opI β γ a) i = z)) → f_X12_falls_l29 (w32 b) (w32 z) h' FU 0 0 = some (.inr (w32 (j : Nat), h'))) := by
    intro h' hM
    have hMK : MK h' b β γ a := by have := hM.mk oS hb; rw [hβ, hγ, ha] at this; exact this
    have m1 := hMK.1.1
    exact scan (fun n (s : Int32 × Int32) => f_X12_falls_l29 (w32 b) (w32 z) h' n s.1 s.2) (fun i => (w32 (sm (opI β γ a) i), w32 (i : Nat))) (vL β) (fun k => ¬ (opn β γ a k ∧ sm (opI β γ a) k = z)) (.inl (w32 (sm (opI β γ a) (vL β)))) (fun j => .inr (w32 (j : Nat), h')) (fun i n hi hP => by
      have op := m_open hMK hk hi
      have rr := rg i (by omega)
      show f_X12_falls_l29 (w32 b) (w32 z) h' (n + 1) (w32 (sm _ i)) (w32 i) = f_X12_falls_l29 (w32 b) (w32 z) h' n (w32 (sm _ (i + 1))) (w32 (i + 1 : Nat))
      rw [f_X12_falls_l29]
      simp (disch := omega) only [w_ibN, gd_t, w_clN, m1, wl_1, w_add, w_s, w_le]
      rw [if_neg (show ¬ ((vL β : Int) ≤ (i : Int)) by omega)]
      rcases Classical.em (opn β γ a i) with q | q
      · rw [op.1 q, bnd_s, if_pos rfl, if_neg (ne_w (by omega) (by omega) (by omega) (by omega) (fun e => hP ⟨q, e⟩)), sm_s, opI_1 q]
      · rw [op.2 q, bnd_s, if_neg (by decide), sm_s, opI_0 q, Int.add_zero]) (fun i n hi hP => by
      have hP := Classical.not_not.mp hP
      have op := m_open hMK hk hi
      show f_X12_falls_l29 (w32 b) (w32 z) h' (n + 1) (w32 (sm _ i)) (w32 i) = _
      rw [f_X12_falls_l29]
      simp (disch := omega) only [w_ibN, gd_t, w_clN, m1, wl_1, w_add, w_s, w_le]
      rw [if_neg (show ¬ ((vL β : Int) ≤ (i : Int)) by omega), op.1 hP.1, bnd_s, if_pos rfl, if_pos (by rw [hP.2])]) (fun n => by
      show f_X12_falls_l29 (w32 b) (w32 z) h' (n + 1) (w32 (sm _ (vL β))) (w32 (vL β)) = _
      rw [f_X12_falls_l29]
      simp (disch := omega) only [w_ibN, gd_t, w_clN, m1, wl_1, w_add, w_s, w_le]
      rw [if_pos (by omega)]) FU (by unfold FU; omega)
  have m1 : (-1 ≤ w32 z) = (-1 ≤ z) := by rw [wl_1, w_neg, w_le _ _ (by omega) (by omega) (by omega) (by omega)]
  have m2 : (w32 z = -1) = (z = -1) := by rw [wl_1, w_neg, w_eq _ _ (by omega) (by omega) (by omega) (by omega)]
  rcases first_of (fun k => ¬ (opn β γ a k ∧ sm (opI β γ a) k = z)) (vL β) with hall | ⟨j, hj, hn, hbef⟩
  · have c1 : f_X11_falls_l16 (w32 z) (hra h1 3 b) h1 FU 0 0 = some (.inl (w32 (sm (opI β γ a) (vL β)))) := by
      rw [sumz]; exact sc.1 (fun i hi => hall i (by omega))
    by_cases qz : z = -1
    · refine ⟨some (sm (opI β γ a) (vL β)), RC_some Fr.rf ?_, fun h' hM hc => RM_some FrQ.rf ?_ hc⟩
      · try dsimp only
        rw [c1, bnd_s]
        simp only [Sum.elim_inl]
        rw [if_pos (by rw [m2]; exact qz)]
      · try dsimp only
        rw [if_pos (by rw [m1]; omega), (mod h' hM).1 hall, bnd_s]
        simp only [Sum.elim_inl]
        rw [if_pos (by rw [m2]; exact qz)]
    · refine ⟨none, RC_none Fr.rf ?_, fun h' hM hc => RM_fail FrQ.rf ?_⟩
      · try dsimp only
        rw [c1, bnd_s]
        simp only [Sum.elim_inl]
        rw [if_neg (by rw [m2]; exact qz)]
      · try dsimp only
        by_cases qn : -1 ≤ z
        · rw [if_pos (by rw [m1]; exact qn), (mod h' hM).1 hall, bnd_s]
          simp only [Sum.elim_inl]
          rw [if_neg (by rw [m2]; exact qz), m_fail, bnd_s]
        · rw [if_neg (by rw [m1]; exact qn), m_fail, bnd_s]
  · have hn' := Classical.not_not.mp hn
    have jj := hn'.1.1
    have c1 : f_X11_falls_l16 (w32 z) (hra h1 3 b) h1 FU 0 0 = some (.inr (w32 (j : Nat), h1)) := sc.2 j (by omega) hn hbef
    have rz := rg j (by omega)
    refine ⟨some (j : Int), RC_some Fr.rf ?_, fun h' hM hc => RM_some FrQ.rf ?_ hc⟩
    · try dsimp only
      rw [c1, bnd_s]
      rfl
    · try dsimp only
      rw [if_pos (by rw [m1]; omega), (mod h' hM).2 j hj hn hbef, bnd_s]
      rfl
end FAL
