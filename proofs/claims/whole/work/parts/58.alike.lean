/-! lights of two books: alike, nearest, a town -/
def LI (β : BV) (γ : GV) (a : LV) (k : Nat) : Int := if sLo β k = 0 then 0 else sLi β γ a k
def sgn (z : Int) : Int := if z ≤ 0 then if 0 ≤ z then 0 else -1 else 1
theorem sgn_neg (z : Int) : sgn (-z) = - sgn z := by
  unfold sgn
  split <;> split <;> (try split) <;> (try split) <;> omega
theorem sgn_rg (z : Int) : -1 ≤ sgn z ∧ sgn z ≤ 1 := by
  unfold sgn
  split
  · split <;> omega
  · omega
theorem e_sign (z : Int) (h1 : -2147483648 ≤ z) (h2 : z ≤ 2147483647) : f_X12_signOf (w32 z) = w32 (sgn z) := by
  unfold f_X12_signOf sgn
  simp (disch := omega) only [wl_0, w_le]
  split
  · split <;> rfl
  · rfl
theorem e_cmp (x y : Int) (h1 : -1000000000 ≤ x) (h2 : x ≤ 1000000000) (h3 : -1000000000 ≤ y) (h4 : y ≤ 1000000000) : f_X11_compared (w32 x) (w32 y) = w32 (sgn (x - y)) := by
  unfold f_X11_compared sgn
  simp (disch := omega) only [w_le]
  by_cases q : x ≤ y
  · rw [if_pos q, if_pos (show x - y ≤ 0 by omega)]
    by_cases q2 : y ≤ x
    · rw [if_pos q2, if_pos (show 0 ≤ x - y by omega)]; rfl
    · rw [if_neg q2, if_neg (show ¬ 0 ≤ x - y by omega)]; rfl
  · rw [if_neg q, if_neg (show ¬ x - y ≤ 0 by omega)]; rfl
theorem sm_add (f g : Nat → Int) (n : Nat) : sm (fun i => f i + g i) n = sm f n + sm g n := by
  induction n with
  | zero => rfl
  | succ n ih => rw [sm_s, sm_s, sm_s, ih]; omega
theorem sm_tri (G : Nat → Nat → Int) (n : Nat) : sm (fun i => sm (fun j => if i < j then G i j else 0) n) n = sm (fun k => sm (fun m => G m k) k) n := by
  induction n with
  | zero => rfl
  | succ n ih =>
    rw [sm_s (fun i => sm (fun j => if i < j then G i j else 0) (n + 1)) n, sm_s (fun k => sm (fun m => G m k) k) n, ← ih]
    have e1 : sm (fun i => sm (fun j => if i < j then G i j else 0) (n + 1)) n = sm (fun i => sm (fun j => if i < j then G i j else 0) n + G i n) n := sm_congr (fun i hi => by rw [sm_s, if_pos hi])
    have e2 : sm (fun j => if n < j then G n j else 0) (n + 1) = 0 := sm_0s (fun j hj => if_neg (by omega))
    rw [e1, e2, sm_add]
    omega
def bo (β β' : BV) (i j : Nat) : Prop := 1 ≤ sLo β i ∧ 1 ≤ sLo β j ∧ 1 ≤ sLo β' i ∧ 1 ≤ sLo β' j
def alG (β : BV) (γ : GV) (β' : BV) (γ' : GV) (a : LV) (i j : Nat) : Int := if 1 ≤ sLo β i ∧ 1 ≤ sLo β j ∧ 1 ≤ sLo β' i ∧ 1 ≤ sLo β' j then sgn (LI β γ a i - LI β γ a j) * sgn (LI β' γ' a i - LI β' γ' a j) else 0
theorem alG_sym (β : BV) (γ : GV) (β' : BV) (γ' : GV) (a : LV) (i j : Nat) : alG β γ β' γ' a i j = alG β γ β' γ' a j i := by
  unfold alG
  by_cases q : 1 ≤ sLo β i ∧ 1 ≤ sLo β j ∧ 1 ≤ sLo β' i ∧ 1 ≤ sLo β' j
  · rw [if_pos q, if_pos ⟨q.2.1, q.1, q.2.2.2, q.2.2.1⟩, show LI β γ a j - LI β γ a i = -(LI β γ a i - LI β γ a j) by omega, show LI β' γ' a j - LI β' γ' a i = -(LI β' γ' a i - LI β' γ' a j) by omega, sgn_neg, sgn_neg, Int.neg_mul_neg]
  · rw [if_neg q, if_neg (fun z => q ⟨z.2.1, z.1, z.2.2.2, z.2.2.1⟩)]
theorem alG_rg (β : BV) (γ : GV) (β' : BV) (γ' : GV) (a : LV) (i j : Nat) : -1 ≤ alG β γ β' γ' a i j ∧ alG β γ β' γ' a i j ≤ 1 := by
  unfold alG
  split
  · have h1 := sgn_rg (LI β γ a i - LI β γ a j)
    have h2 := sgn_rg (LI β' γ' a i - LI β' γ' a j)
    generalize sgn (LI β γ a i - LI β γ a j) = X at *
    generalize sgn (LI β' γ' a i - LI β' γ' a j) = Y at *
    rcases (show X = -1 ∨ X = 0 ∨ X = 1 by omega) with rfl | rfl | rfl <;> omega
  · omega
def alS (β : BV) (γ : GV) (β' : BV) (γ' : GV) (a : LV) : Int := sm (fun i => sm (fun j => if i < j then alG β γ β' γ' a i j else 0) 12) 12
theorem alS_rg (β : BV) (γ : GV) (β' : BV) (γ' : GV) (a : LV) : -144 ≤ alS β γ β' γ' a ∧ alS β γ β' γ' a ≤ 144 := by
  have := sm_rg (f := fun i => sm (fun j => if i < j then alG β γ β' γ' a i j else 0) 12) (n := 12) (a := -12) (b := 12) (fun i _ => by
    have := sm_rg (f := fun j => if i < j then alG β γ β' γ' a i j else 0) (n := 12) (a := -1) (b := 1) (fun j _ => by
      have := alG_rg β γ β' γ' a i j
      split <;> omega)
    omega)
  unfold alS
  omega
theorem alS_m (β : BV) (γ : GV) (β' : BV) (γ' : GV) (a : LV) : alS β γ β' γ' a = sm (fun k => sm (alG β γ β' γ' a k) k) 12 := by
  unfold alS
  rw [sm_tri (alG β γ β' γ' a) 12]
  exact sm_congr (fun k _ => sm_congr (fun m _ => alG_sym β γ β' γ' a m k))
section ALK
variable {h : AH} {b c B : Nat} {β β' : BV} {γ γ' : GV} {a : LV}
theorem LI_rg (oB : okB β) (oG : okG (vL β) γ) (oL : okL a) (hk : kn β γ) (k : Nat) : 0 ≤ LI β γ a k ∧ LI β γ a k ≤ 80003920 := by
  unfold LI
  split
  · omega
  · rename_i q
    have p2 := sLo_rg oB k
    have r4 := sMk_rg oB oG oL hk k (Nat.le_refl _)
    show 0 ≤ sm (sMk β γ a k) (vL β) / (2 * sLo β k) ∧ sm (sMk β γ a k) (vL β) / (2 * sLo β k) ≤ 80003920
    exact ⟨Int.ediv_nonneg r4.1 (by omega), Int.le_trans (Int.ediv_le_self _ r4.1) (by omega)⟩
theorem m_hasB (hM : MK h b β γ a) {k : Nat} (hk : k < 12) : f_X12_has (w32 b) (w32 k) h = some (decide (1 ≤ sLo β k)) := by
  by_cases q : 1 ≤ sLo β k
  · rw [decide_eq_true q]; exact (m_has_k hM hk).1 ((hs_iff hk).mpr q)
  · rw [decide_eq_false q]; exact (m_has_k hM hk).2 (fun z => q ((hs_iff hk).mp z))
theorem m_LI (hM : MK h b β γ a) (hk : kn β γ) {k : Nat} (hk12 : k < 12) (q : 1 ≤ sLo β k) : f_X12_lightOf (w32 b) (w32 k) h = some (w32 (LI β γ a k)) := by
  rw [m_lightOf hM hk ((hs_iff hk12).mpr q)]
  unfold LI
  rw [if_neg (by omega)]
theorem m_alike (hM : MK h b β γ a) (hM' : MK h c β' γ' a) (hk : kn β γ) (hk' : kn β' γ') : f_X12_alikeOf (w32 b) (w32 c) h = some (w32 (alS β γ β' γ' a)) := by
  have inner : ∀ k : Nat, k < 12 → ∀ P : Int, f_X12_alikeOf_l15 (w32 b) (w32 c) (w32 k) h FU (w32 (P + sm (alG β γ β' γ' a k) 0)) (w32 (0 : Nat)) = some (w32 (P + sm (alG β γ β' γ' a k) k)) := by
    intro k hk12 P
    refine loopN (fun n (s : Int32 × Int32) => f_X12_alikeOf_l15 (w32 b) (w32 c) (w32 k) h n s.1 s.2) (fun j => (w32 (P + sm (alG β γ β' γ' a k) j), w32 (j : Nat))) k _ (fun j n hj => ?_) (fun n => ?_) FU (by unfold FU; omega)
    · have hj12 : j < 12 := by omega
      have g1 := LI_rg hM.2.2.2.1 hM.2.2.2.2.1 hM.2.2.2.2.2.1 hk k
      have g2 := LI_rg hM.2.2.2.1 hM.2.2.2.2.1 hM.2.2.2.2.2.1 hk j
      have g3 := LI_rg hM'.2.2.2.1 hM'.2.2.2.2.1 hM'.2.2.2.2.2.1 hk' k
      have g4 := LI_rg hM'.2.2.2.1 hM'.2.2.2.2.1 hM'.2.2.2.2.2.1 hk' j
      show f_X12_alikeOf_l15 (w32 b) (w32 c) (w32 k) h (n + 1) (w32 (P + sm _ j)) (w32 j) = f_X12_alikeOf_l15 (w32 b) (w32 c) (w32 k) h n (w32 (P + sm _ (j + 1))) (w32 (j + 1 : Nat))
      rw [f_X12_alikeOf_l15]
      simp (disch := omega) only [w_le, m_hasB hM hk12, m_hasB hM hj12, m_hasB hM' hk12, m_hasB hM' hj12, bnd_s, lt_b, decide_eq_true_eq, wl_1, w_add, w_s, sm_s]
      rw [if_neg (show ¬ ((k : Int) ≤ (j : Int)) by omega)]
      by_cases q : 1 ≤ sLo β k ∧ 1 ≤ sLo β j ∧ 1 ≤ sLo β' k ∧ 1 ≤ sLo β' j
      · have eG : alG β γ β' γ' a k j = sgn (LI β γ a k - LI β γ a j) * sgn (LI β' γ' a k - LI β' γ' a j) := by unfold alG; rw [if_pos q]
        rw [if_pos q.1, if_pos q.2.1, if_pos q.2.2.1, if_pos q.2.2.2]
        simp (disch := omega) only [if_true, m_LI hM hk hk12 q.1, m_LI hM hk hj12 q.2.1, m_LI hM' hk' hk12 q.2.2.1, m_LI hM' hk' hj12 q.2.2.2, bnd_s, w_sub, e_sign, w_mul, w_add]
        rw [eG, Int.add_assoc]
      · have eG : alG β γ β' γ' a k j = 0 := by unfold alG; rw [if_neg q]
        rw [eG, Int.add_zero]
        simp only [if_true, Bool.false_eq_true, if_false]
        repeat' split
        all_goals first | rfl | (exfalso; omega)
    · show f_X12_alikeOf_l15 (w32 b) (w32 c) (w32 k) h (n + 1) (w32 (P + sm _ k)) (w32 k) = _
      rw [f_X12_alikeOf_l15, if_pos (Int32.le_refl _)]
  have hl : f_X12_alikeOf_l5 (w32 b) (w32 c) h FU (w32 (sm (fun k => sm (alG β γ β' γ' a k) k) 0)) (w32 (0 : Nat)) = some (w32 (sm (fun k => sm (alG β γ β' γ' a k) k) 12)) := loopN (fun n (s : Int32 × Int32) => f_X12_alikeOf_l5 (w32 b) (w32 c) h n s.1 s.2) (fun i => (w32 (sm (fun k => sm (alG β γ β' γ' a k) k) i), w32 (i : Nat))) 12 _ (fun i n hi => by
      show f_X12_alikeOf_l5 (w32 b) (w32 c) h (n + 1) (w32 (sm _ i)) (w32 i) = f_X12_alikeOf_l5 (w32 b) (w32 c) h n (w32 (sm _ (i + 1))) (w32 (i + 1 : Nat))
      have ii := inner i hi (sm (fun k => sm (alG β γ β' γ' a k) k) i)
      rw [sm_0, Int.add_zero] at ii
      rw [f_X12_alikeOf_l5, if_neg (by rw [wl_12, w_le _ _ (by omega) (by omega) (by omega) (by omega)]; omega), show (0 : Int32) = w32 (0 : Nat) from rfl, ii, bnd_s, wl_1, w_add, w_s, sm_s]) (fun n => by
      show f_X12_alikeOf_l5 (w32 b) (w32 c) h (n + 1) (w32 (sm _ 12)) (w32 (12 : Nat)) = _
      rw [f_X12_alikeOf_l5, if_pos (by decide)]) FU (by decide)
  unfold f_X12_alikeOf
  rw [alS_m, show (f_X12_alikeOf_l5 (w32 b) (w32 c) h FU 0 0) = _ from hl, bnd_s]
theorem k_alike (hU : UF h 33 β γ a) (hU' : UF h 42 β' γ' a) (oB : okB β) (oG : okG (vL β) γ) (oB' : okB β') (oG' : okG (vL β') γ') (oL : okL a) (hk : kn β γ) (hk' : kn β' γ') : f_X9_likeness 33 42 h = some (w32 (alS β γ β' γ' a)) := by
  have both : ∀ k, k < 12 → f_X9_bothHave 33 42 (w32 (k : Nat)) h = some (decide (1 ≤ sLo β k ∧ 1 ≤ sLo β' k)) := by
    intro k hk12
    have p1 := (hU.k33 hk hk12).2
    have p2 := (hU'.k42 hk' hk12).2
    have s1 := sLo_rg oB k
    have s2 := sLo_rg oB' k
    unfold f_X9_bothHave
    simp (disch := omega) only [w_ibN, gd_t, w_clN, p1, p2, wl_0, w_le]
    by_cases q1 : sLo β k ≤ 0
    · rw [if_pos q1, decide_eq_false (by omega)]
    · rw [if_neg q1]
      by_cases q2 : sLo β' k ≤ 0
      · rw [if_pos q2, decide_eq_false (by omega)]
      · rw [if_neg q2, decide_eq_true (by omega)]
  have inner : ∀ i : Nat, i < 12 → ∀ P : Int, f_X9_likeness_l15 33 42 (w32 i) h FU (w32 (P + sm (fun j => if i < j then alG β γ β' γ' a i j else 0) (i + 1))) (w32 (i + 1 : Nat)) = some (w32 (P + sm (fun j => if i < j then alG β γ β' γ' a i j else 0) 12)) := by
    intro i hi12 P
    refine loopF (fun n (s : Int32 × Int32) => f_X9_likeness_l15 33 42 (w32 i) h n s.1 s.2) (fun j => (w32 (P + sm (fun j => if i < j then alG β γ β' γ' a i j else 0) j), w32 (j : Nat))) (i + 1) 12 (by omega) _ (fun j n hij hj => ?_) (fun n => ?_) FU (by unfold FU; omega)
    · have g1 := LI_rg oB oG oL hk i
      have g2 := LI_rg oB oG oL hk j
      have g3 := LI_rg oB' oG' oL hk' i
      have g4 := LI_rg oB' oG' oL hk' j
      have p1 := (hU.k33 hk hi12).1
      have p2 := (hU.k33 hk hj).1
      have p3 := (hU'.k42 hk' hi12).1
      have p4 := (hU'.k42 hk' hj).1
      rw [show (if sLo β i = 0 then 0 else sLi β γ a i) = LI β γ a i from rfl] at p1
      rw [show (if sLo β j = 0 then 0 else sLi β γ a j) = LI β γ a j from rfl] at p2
      rw [show (if sLo β' i = 0 then 0 else sLi β' γ' a i) = LI β' γ' a i from rfl] at p3
      rw [show (if sLo β' j = 0 then 0 else sLi β' γ' a j) = LI β' γ' a j from rfl] at p4
      show f_X9_likeness_l15 33 42 (w32 i) h (n + 1) (w32 (P + sm _ j)) (w32 j) = f_X9_likeness_l15 33 42 (w32 i) h n (w32 (P + sm _ (j + 1))) (w32 (j + 1 : Nat))
      rw [f_X9_likeness_l15, sm_s, if_pos (show i < j by omega)]
      simp (disch := omega) only [wl_12, w_le, both i hi12, both j hj, bnd_s, decide_eq_true_eq, w_ibN, gd_t, w_clN, p1, p2, p3, p4, e_cmp, w_mul, wl_1, w_add, w_s]
      rw [if_neg (show ¬ ((12 : Int) ≤ (j : Int)) by omega)]
      by_cases q : 1 ≤ sLo β i ∧ 1 ≤ sLo β j ∧ 1 ≤ sLo β' i ∧ 1 ≤ sLo β' j
      · have eG : alG β γ β' γ' a i j = sgn (LI β γ a i - LI β γ a j) * sgn (LI β' γ' a i - LI β' γ' a j) := by unfold alG; rw [if_pos q]
        rw [if_pos ⟨q.1, q.2.2.1⟩, if_pos ⟨q.2.1, q.2.2.2⟩, eG, Int.add_assoc]
      · have eG : alG β γ β' γ' a i j = 0 := by unfold alG; rw [if_neg q]
        rw [eG, Int.add_zero]
        split
        · split
          · exfalso; omega
          · rfl
        · rfl
    · show f_X9_likeness_l15 33 42 (w32 i) h (n + 1) (w32 (P + sm _ 12)) (w32 (12 : Nat)) = _
      rw [f_X9_likeness_l15, if_pos (by decide)]
  have z0 : ∀ i, sm (fun j => if i < j then alG β γ β' γ' a i j else 0) (i + 1) = 0 := fun i => sm_0s (fun j hj => if_neg (by omega))
  have hl : f_X9_likeness_l4 33 42 h FU (w32 (sm (fun i => sm (fun j => if i < j then alG β γ β' γ' a i j else 0) 12) 0)) (w32 (0 : Nat)) = some (w32 (alS β γ β' γ' a)) := loopN (fun n (s : Int32 × Int32) => f_X9_likeness_l4 33 42 h n s.1 s.2) (fun i => (w32 (sm (fun i => sm (fun j => if i < j then alG β γ β' γ' a i j else 0) 12) i), w32 (i : Nat))) 12 _ (fun i n hi => by
      show f_X9_likeness_l4 33 42 h (n + 1) (w32 (sm _ i)) (w32 i) = f_X9_likeness_l4 33 42 h n (w32 (sm _ (i + 1))) (w32 (i + 1 : Nat))
      have ii := inner i hi (sm (fun i => sm (fun j => if i < j then alG β γ β' γ' a i j else 0) 12) i)
      rw [z0, Int.add_zero] at ii
      rw [f_X9_likeness_l4, if_neg (by rw [wl_12, w_le _ _ (by omega) (by omega) (by omega) (by omega)]; omega), wl_1, w_add, w_s, ii, bnd_s]
      rfl) (fun n => by
      show f_X9_likeness_l4 33 42 h (n + 1) (w32 (sm _ 12)) (w32 (12 : Nat)) = _
      rw [f_X9_likeness_l4, if_pos (by decide)]
      rfl) FU (by decide)
  unfold f_X9_likeness
  rw [show (f_X9_likeness_l4 33 42 h FU 0 0) = _ from hl, bnd_s]
theorem UF.fr {u : Nat} {W : Nat → Prop} {h h' : AH} (hU : UF h u β γ a) (hF : Fr W h h') (hd : ∀ c, u + 1 ≤ c → c ≤ u + 7 → ¬ W c) : UF h' u β γ a := by
  have f : ∀ k, 1 ≤ k → k ≤ 7 → hia h' (u + k) = hia h (u + k) := fun k h1 h2 => (hF _ (hd _ (by omega) (by omega))).2.2.1
  refine ⟨fun l hl => ?_, fun k hk => ?_⟩
  · have := hU.1 l hl
    unfold UR at this ⊢
    rw [f 1 (by omega) (by omega), f 2 (by omega) (by omega), f 3 (by omega) (by omega), f 4 (by omega) (by omega), f 5 (by omega) (by omega)]
    exact this
  · rw [f 6 (by omega) (by omega), f 7 (by omega) (by omega)]; exact hU.2 k hk
end ALK
section ALK2
variable {h : AH} {S : SV} {T : Nat}
theorem q_alike (x y : Int32) (hI : CI h S) (oS : okS S) : ∃ s, RC (f_X11_alike x y h) h s ∧ ∀ h', MI2 h' S T → RM (f_X12_alike x y h') h' s := by
  refine q_asked x hI oS _ _ (fun b hb hx hk h1 f1 hI1 u1 => ?_)
  subst hx
  obtain ⟨z, rfl, r1, r2⟩ := w_ex y
  by_cases q : 0 ≤ z ∧ z ≤ 5
  · obtain ⟨c, rfl, hc⟩ := nat_of (n := 5) q
    have hc : c < 6 := by omega
    obtain ⟨k1, k2⟩ := c_known hI1 oS hc (u := 42) (Or.inr rfl)
    have sB := isB_sh (hI1.1.1 c hc).1
    rcases Classical.em (kn (xb S c) (xg S c)) with hk' | hk'
    · obtain ⟨h2, e2, f2, u2⟩ := k1 hk'
      have u1' := u1.fr f2 (fun c h1 h2 q => by unfold WU at q; omega)
      refine ⟨some (alS (xb S b) (xg S b) (xb S c) (xg S c) (xa S)), RC_some (WU_ws (Or.inr rfl) f2) ?_, fun h' hM hc' => RM_some FrQ.rf ?_ hc'⟩
      · try dsimp only
        rw [e2, bnd_s]
        simp only [Sum.elim_inl]
        rw [gd_t sB, k_alike u1' u2 (oS.1 b hb).1 (oS.1 b hb).2.1 (oS.1 c hc).1 (oS.1 c hc).2.1 oS.2.1 hk hk', bnd_s]
      · try dsimp only
        rw [(m_asked hM oS hc).1 hk', bnd_s, if_pos rfl, m_alike (hM.mk oS hb) (hM.mk oS hc) hk hk', bnd_s]
    · refine ⟨none, RC_none Fr.rf ?_, fun h' hM hc' => RM_fail FrQ.rf ?_⟩
      · try dsimp only
        rw [k2 hk', bnd_s]
        rfl
      · try dsimp only
        rw [(m_asked hM oS hc).2 hk', bnd_s, if_neg (by decide), m_fail, bnd_s]
  · refine ⟨none, RC_none Fr.rf ?_, fun h' hM hc' => RM_fail FrQ.rf ?_⟩
    · try dsimp only
      rw [c_knownOut r1 r2 q, bnd_s]
      rfl
    · try dsimp only
      rw [m_askedOut r1 r2 q, bnd_s, if_neg (by decide), m_fail, bnd_s]
/-! the town -/
noncomputable def tI (S : SV) (k b : Nat) : Int := @ite Int (kn (xb S b) (xg S b)) (Classical.propDecidable _) (LI (xb S b) (xg S b) (xa S) k) 0
theorem tI_1 {k b : Nat} (q : kn (xb S b) (xg S b)) : tI S k b = LI (xb S b) (xg S b) (xa S) k := @if_pos _ (Classical.propDecidable _) q _ _ _
theorem tI_0 {k b : Nat} (q : ¬ kn (xb S b) (xg S b)) : tI S k b = 0 := @if_neg _ (Classical.propDecidable _) q _ _ _
theorem c_kn (hI : CI h S) (oS : okS S) {b : Nat} (hb : b < 6) : (kn (xb S b) (xg S b) → f_X0_isKnown (hra h 3 b) h = some true) ∧ (¬ kn (xb S b) (xg S b) → f_X0_isKnown (hra h 3 b) h = some false) := by
  obtain ⟨hC, -⟩ := hI.ck oS hb
  exact k_known hC.1 hC.2.1 hC.2.2.2.1 hC.2.2.2.2.1
theorem q_town (x : Int32) (hI : CI h S) (oS : okS S) : ∃ s, RC (f_X11_town x h) h s ∧ ∀ h', MI2 h' S T → RM (f_X12_town x h') h' s := by
  obtain ⟨z, rfl, r1, r2⟩ := w_ex x
  by_cases q : 0 ≤ z ∧ z ≤ 11
  · obtain ⟨k, rfl, hk⟩ := nat_of (n := 11) q
    have hk : k < 12 := by omega
    have kc : f_X11_checkKind (w32 (k : Nat)) h = some (.inl ((), h)) := by
      unfold f_X11_checkKind
      rw [if_neg (by rw [wl_0, w_lt _ _ (by omega) (by omega) (by omega) (by omega)]; omega), if_pos (by rw [wl_12, w_lt _ _ (by omega) (by omega) (by omega) (by omega)]; omega)]
    have lp : ∃ r, f_X11_town_l8 (w32 (k : Nat)) FU 0 0 h = some r ∧ (r.1 = w32 (sm (tI S k) 6) ∧ Fr WS h r.2) := loopR (fun n (s : Int32 × Int32 × AH) => f_X11_town_l8 (w32 (k : Nat)) n s.1 s.2.1 s.2.2) (fun i s => s.1 = w32 (sm (tI S k) i) ∧ s.2.1 = w32 (i : Nat) ∧ Fr WS h s.2.2) (fun r => r.1 = w32 (sm (tI S k) 6) ∧ Fr WS h r.2) 6 (fun i n s hi hP => by
        obtain ⟨v2, v3, hh⟩ := s
        obtain ⟨p1, p2, p3⟩ := hP
        dsimp only at p1 p2 p3
        subst p1 p2
        have hI2 := hI.fr p3
        have kk := c_kn hI2 oS hi
        have sB := isB_sh (hI2.1.1 i hi).1
        have sL := isLw_sh hI2.1.2.2.2.2.1
        obtain ⟨hC, hA⟩ := hI2.ck oS hi
        rcases Classical.em (kn (xb S i) (xg S i)) with hk' | hk'
        · obtain ⟨h2, e2, f2, u2⟩ := k_fill hC hA (u := 33) (Or.inl rfl)
          have g := (u2.k33 hk' hk).1
          refine ⟨(w32 (sm (tI S k) (i + 1)), w32 (i + 1 : Nat), h2), ⟨rfl, rfl, p3.tr (WU_ws (Or.inl rfl) f2)⟩, ?_⟩
          show f_X11_town_l8 (w32 (k : Nat)) (n + 1) _ _ hh = f_X11_town_l8 (w32 (k : Nat)) n _ _ h2
          rw [f_X11_town_l8, if_neg (by rw [wl_6, w_le _ _ (by omega) (by omega) (by omega) (by omega)]; omega), gd_t (by rw [w_ibN _ _ (by omega)]; omega), w_clN _ (by omega), gd_t sB, kk.1 hk', bnd_s, if_pos rfl, gd_t (by rw [w_ibN _ _ (by omega)]; omega), gd_t sB, gd_t (by rw [w_ibN _ _ (by omega)]; omega), gd_t sB, gd_t sL, e2, bnd_s, gd_t (by rw [w_ibN _ _ (by omega)]; omega), w_clN _ (by omega), g, w_add, wl_1, w_add, w_s, sm_s, tI_1 hk']
          rfl
        · refine ⟨(w32 (sm (tI S k) (i + 1)), w32 (i + 1 : Nat), hh), ⟨rfl, rfl, p3⟩, ?_⟩
          show f_X11_town_l8 (w32 (k : Nat)) (n + 1) _ _ hh = f_X11_town_l8 (w32 (k : Nat)) n _ _ hh
          rw [f_X11_town_l8, if_neg (by rw [wl_6, w_le _ _ (by omega) (by omega) (by omega) (by omega)]; omega), gd_t (by rw [w_ibN _ _ (by omega)]; omega), w_clN _ (by omega), gd_t sB, kk.2 hk', bnd_s, if_neg (by decide), wl_1, w_add, w_s, sm_s, tI_0 hk', Int.add_zero]) (fun n s hP => by
        obtain ⟨v2, v3, hh⟩ := s
        obtain ⟨p1, p2, p3⟩ := hP
        dsimp only at p1 p2 p3
        subst p1 p2
        refine ⟨(w32 (sm (tI S k) 6), hh), ?_, rfl, p3⟩
        show f_X11_town_l8 (w32 (k : Nat)) (n + 1) _ (w32 (6 : Nat)) hh = _
        rw [f_X11_town_l8, if_pos (by decide)]) FU (by decide) (0, 0, h) ⟨rfl, rfl, Fr.rf⟩
    obtain ⟨⟨rv, rh⟩, e1, e2, e3⟩ := lp
    dsimp only at e2 e3
    subst e2
    refine ⟨some (sm (tI S k) 6), RC_some e3 ?_, fun h' hM => RM_some (code0 h').1 ?_ (code0 h').2⟩
    · unfold f_X11_town
      rw [kc, bnd_s]
      simp only [Sum.elim_inl]
      rw [e1, bnd_s]
    · have hM1 := hM.fr (code0 h').1.m
      have hl : f_X12_town_l25 (w32 (k : Nat)) (sfi h' 193 2 0) FU (w32 (sm (tI S k) 0)) (w32 (0 : Nat)) = some (w32 (sm (tI S k) 6)) := loopN (fun n (s : Int32 × Int32) => f_X12_town_l25 (w32 (k : Nat)) (sfi h' 193 2 0) n s.1 s.2) (fun i => (w32 (sm (tI S k) i), w32 (i : Nat))) 6 _ (fun i n hi => by
          have kk := m_known (hM1.mk oS hi)
          show f_X12_town_l25 (w32 (k : Nat)) _ (n + 1) (w32 (sm _ i)) (w32 i) = f_X12_town_l25 (w32 (k : Nat)) _ n (w32 (sm _ (i + 1))) (w32 (i + 1 : Nat))
          rw [f_X12_town_l25, if_neg (by rw [wl_6, w_le _ _ (by omega) (by omega) (by omega) (by omega)]; omega)]
          rcases Classical.em (kn (xb S i) (xg S i)) with hk' | hk'
          · rw [kk.1 hk', bnd_s, if_pos rfl, m_hasB (hM1.mk oS hi) hk, bnd_s]
            by_cases q1 : 1 ≤ sLo (xb S i) k
            · rw [decide_eq_true q1, if_pos rfl, m_LI (hM1.mk oS hi) hk' hk q1, bnd_s, w_add, wl_1, w_add, w_s, sm_s, tI_1 hk']
            · have r0 := sLo_rg (oS.1 i hi).1 k
              have : LI (xb S i) (xg S i) (xa S) k = 0 := by unfold LI; rw [if_pos (by omega)]
              rw [decide_eq_false q1, if_neg (by decide), wl_0, w_add, wl_1, w_add, w_s, sm_s, tI_1 hk', this]
          · rw [kk.2 hk', bnd_s, if_neg (by decide), wl_0, w_add, wl_1, w_add, w_s, sm_s, tI_0 hk']) (fun n => by
          show f_X12_town_l25 (w32 (k : Nat)) _ (n + 1) (w32 (sm _ 6)) (w32 (6 : Nat)) = _
          rw [f_X12_town_l25, if_pos (by decide)]) FU (by decide)
      unfold f_X12_town
      rw [lt_b, show f_X12_isIn (w32 (k : Nat)) 0 11 = true from by rw [wl_0, wl_11, e_isIn _ _ _ (by omega) (by omega) (by omega) (by omega) (by omega) (by omega), decide_eq_true (by omega)], if_pos rfl, show (f_X12_town_l25 (w32 (k : Nat)) (sfi h' 193 2 0) FU 0 0) = _ from hl, bnd_s]
  · refine ⟨none, RC_none Fr.rf ?_, fun h' hM => RM_fail (code0 h').1 ?_⟩
    · unfold f_X11_town f_X11_checkKind
      by_cases q2 : z < 0
      · rw [if_pos (by rw [wl_0, w_lt _ _ (by omega) (by omega) (by omega) (by omega)]; omega), bnd_s]; rfl
      · rw [if_neg (by rw [wl_0, w_lt _ _ (by omega) (by omega) (by omega) (by omega)]; omega), if_neg (by rw [wl_12, w_lt _ _ (by omega) (by omega) (by omega) (by omega)]; omega), bnd_s]; rfl
    · unfold f_X12_town
      rw [lt_b, show f_X12_isIn (w32 z) 0 11 = false from by rw [wl_0, wl_11, e_isIn _ _ _ (by omega) (by omega) (by omega) (by omega) (by omega) (by omega), decide_eq_false (by omega)], if_neg (by decide), m_fail, bnd_s]
/-! the nearest -/
noncomputable def nbS (S : SV) (b : Nat) : Nat → Int × Int
  | 0 => (-1, 0)
  | c + 1 => @ite (Int × Int) (c ≠ b ∧ kn (xb S c) (xg S c) ∧ ((nbS S b c).1 = -1 ∨ (nbS S b c).2 < alS (xb S b) (xg S b) (xb S c) (xg S c) (xa S))) (Classical.propDecidable _) ((c : Int), alS (xb S b) (xg S b) (xb S c) (xg S c) (xa S)) (nbS S b c)
theorem nbS_1 {b c : Nat} (q : c ≠ b ∧ kn (xb S c) (xg S c) ∧ ((nbS S b c).1 = -1 ∨ (nbS S b c).2 < alS (xb S b) (xg S b) (xb S c) (xg S c) (xa S))) : nbS S b (c + 1) = ((c : Int), alS (xb S b) (xg S b) (xb S c) (xg S c) (xa S)) := @if_pos _ (Classical.propDecidable _) q _ _ _
theorem nbS_0 {b c : Nat} (q : ¬ (c ≠ b ∧ kn (xb S c) (xg S c) ∧ ((nbS S b c).1 = -1 ∨ (nbS S b c).2 < alS (xb S b) (xg S b) (xb S c) (xg S c) (xa S)))) : nbS S b (c + 1) = nbS S b c := @if_neg _ (Classical.propDecidable _) q _ _ _
theorem nbS_rg (b c : Nat) (hc : c ≤ 6) : -1 ≤ (nbS S b c).1 ∧ (nbS S b c).1 ≤ 6 ∧ -144 ≤ (nbS S b c).2 ∧ (nbS S b c).2 ≤ 144 := by
  induction c with
  | zero => show -1 ≤ (-1 : Int) ∧ (-1 : Int) ≤ 6 ∧ -144 ≤ (0 : Int) ∧ (0 : Int) ≤ 144; omega
  | succ c ih =>
    rcases Classical.em (c ≠ b ∧ kn (xb S c) (xg S c) ∧ ((nbS S b c).1 = -1 ∨ (nbS S b c).2 < alS (xb S b) (xg S b) (xb S c) (xg S c) (xa S))) with q | q
    · rw [nbS_1 q]
      have := alS_rg (xb S b) (xg S b) (xb S c) (xg S c) (xa S)
      try dsimp only
      omega
    · rw [nbS_0 q]; exact ih (by omega)
theorem q_nearest (x : Int32) (hI : CI h S) (oS : okS S) : ∃ s, RC (f_X11_nearest x h) h s ∧ ∀ h', MI2 h' S T → RM (f_X12_nearest x h') h' s := by
  refine q_asked x hI oS _ _ (fun b hb hx hk h1 f1 hI1 u1 => ?_)
  subst hx
  have lp : ∃ r, f_X11_nearest_l17 (w32 (b : Nat)) FU (-1) 0 0 h1 = some r ∧ (r.1 = w32 (nbS S b 6).1 ∧ Fr WS h1 r.2) := loopR (fun n (s : Int32 × Int32 × Int32 × AH) => f_X11_nearest_l17 (w32 (b : Nat)) n s.1 s.2.1 s.2.2.1 s.2.2.2) (fun i s => s.1 = w32 (nbS S b i).1 ∧ s.2.1 = w32 (nbS S b i).2 ∧ s.2.2.1 = w32 (i : Nat) ∧ Fr (WU 42) h1 s.2.2.2) (fun r => r.1 = w32 (nbS S b 6).1 ∧ Fr WS h1 r.2) 6 (fun i n s hi hP => by
      obtain ⟨v2, v3, v4, hh⟩ := s
      obtain ⟨p1, p2, p3, p4⟩ := hP
      dsimp only at p1 p2 p3 p4
      subst p1 p2 p3
      have hI2 := hI1.fr (WU_ws (Or.inr rfl) p4)
      have kk := c_kn hI2 oS hi
      have sB := isB_sh (hI2.1.1 i hi).1
      have sL := isLw_sh hI2.1.2.2.2.2.1
      have rn := nbS_rg (S := S) b i (by omega)
      obtain ⟨hC, hA⟩ := hI2.ck oS hi
      by_cases qb : i = b
      · refine ⟨(w32 (nbS S b (i + 1)).1, w32 (nbS S b (i + 1)).2, w32 (i + 1 : Nat), hh), ⟨rfl, rfl, rfl, p4⟩, ?_⟩
        show f_X11_nearest_l17 (w32 (b : Nat)) (n + 1) _ _ _ hh = f_X11_nearest_l17 (w32 (b : Nat)) n _ _ _ hh
        rw [f_X11_nearest_l17, if_neg (by rw [wl_6, w_le _ _ (by omega) (by omega) (by omega) (by omega)]; omega), if_pos (by rw [qb]), nbS_0 (fun z => z.1 qb), wl_1, w_add, w_s]
      · rcases Classical.em (kn (xb S i) (xg S i)) with hk' | hk'
        · obtain ⟨h2, e2, f2, u2⟩ := k_fill hC hA (u := 42) (Or.inr rfl)
          have fr2 := p4.tr f2
          have u1' := u1.fr fr2 (fun c h1 h2 q => by unfold WU at q; omega)
          have al := k_alike u1' u2 (oS.1 b hb).1 (oS.1 b hb).2.1 (oS.1 i hi).1 (oS.1 i hi).2.1 oS.2.1 hk hk'
          have ar := alS_rg (xb S b) (xg S b) (xb S i) (xg S i) (xa S)
          refine ⟨(w32 (nbS S b (i + 1)).1, w32 (nbS S b (i + 1)).2, w32 (i + 1 : Nat), h2), ⟨rfl, rfl, rfl, fr2⟩, ?_⟩
          show f_X11_nearest_l17 (w32 (b : Nat)) (n + 1) _ _ _ hh = f_X11_nearest_l17 (w32 (b : Nat)) n _ _ _ h2
          rw [f_X11_nearest_l17, if_neg (by rw [wl_6, w_le _ _ (by omega) (by omega) (by omega) (by omega)]; omega), if_neg (ne_w (by omega) (by omega) (by omega) (by omega) (by omega)), gd_t (by rw [w_ibN _ _ (by omega)]; omega), w_clN _ (by omega), gd_t sB, kk.1 hk', bnd_s, if_pos rfl, gd_t (by rw [w_ibN _ _ (by omega)]; omega), gd_t sB, gd_t (by rw [w_ibN _ _ (by omega)]; omega), gd_t sB, gd_t sL, e2, bnd_s, al, bnd_s]
          simp (disch := omega) only [wl_1, w_neg, w_eq, w_le, w_add, w_s]
          by_cases q1 : (nbS S b i).1 = -1
          · rw [if_pos q1, nbS_1 ⟨qb, hk', Or.inl q1⟩]
          · rw [if_neg q1]
            by_cases q2 : alS (xb S b) (xg S b) (xb S i) (xg S i) (xa S) ≤ (nbS S b i).2
            · rw [if_pos q2, nbS_0 (fun z => by rcases z.2.2 with e | e; exact q1 e; omega)]
            · rw [if_neg q2, nbS_1 ⟨qb, hk', Or.inr (by omega)⟩]
        · refine ⟨(w32 (nbS S b (i + 1)).1, w32 (nbS S b (i + 1)).2, w32 (i + 1 : Nat), hh), ⟨rfl, rfl, rfl, p4⟩, ?_⟩
          show f_X11_nearest_l17 (w32 (b : Nat)) (n + 1) _ _ _ hh = f_X11_nearest_l17 (w32 (b : Nat)) n _ _ _ hh
          rw [f_X11_nearest_l17, if_neg (by rw [wl_6, w_le _ _ (by omega) (by omega) (by omega) (by omega)]; omega), if_neg (ne_w (by omega) (by omega) (by omega) (by omega) (by omega)), gd_t (by rw [w_ibN _ _ (by omega)]; omega), w_clN _ (by omega), gd_t sB, kk.2 hk', bnd_s, if_neg (by decide), nbS_0 (fun z => hk' z.2.1), wl_1, w_add, w_s]) (fun n s hP => by
      obtain ⟨v2, v3, v4, hh⟩ := s
      obtain ⟨p1, p2, p3, p4⟩ := hP
      dsimp only at p1 p2 p3 p4
      subst p1 p2 p3
      refine ⟨(w32 (nbS S b 6).1, hh), ?_, rfl, WU_ws (Or.inr rfl) p4⟩
      show f_X11_nearest_l17 (w32 (b : Nat)) (n + 1) _ _ (w32 (6 : Nat)) hh = _
      rw [f_X11_nearest_l17, if_pos (by decide)]) FU (by decide) (-1, 0, 0, h1) ⟨rfl, rfl, rfl, Fr.rf⟩
  obtain ⟨⟨rv, rh⟩, e1, e2, e3⟩ := lp
  dsimp only at e2 e3
  subst e2
  refine ⟨some (nbS S b 6).1, RC_some e3 ?_, fun h' hM hc => RM_some FrQ.rf ?_ hc⟩
  · try dsimp only
    rw [e1, bnd_s]
  · have hl : f_X12_nearest_l26 (w32 (b : Nat)) h' FU (w32 (nbS S b 0).1) (w32 (nbS S b 0).2) (w32 (0 : Nat)) = some (w32 (nbS S b 6).1) := loopN (fun n (s : Int32 × Int32 × Int32) => f_X12_nearest_l26 (w32 (b : Nat)) h' n s.1 s.2.1 s.2.2) (fun i => (w32 (nbS S b i).1, w32 (nbS S b i).2, w32 (i : Nat))) 6 _ (fun i n hi => by
        have kk := m_known (hM.mk oS hi)
        have rn := nbS_rg (S := S) b i (by omega)
        have ar := alS_rg (xb S b) (xg S b) (xb S i) (xg S i) (xa S)
        show f_X12_nearest_l26 (w32 (b : Nat)) h' (n + 1) _ _ _ = f_X12_nearest_l26 (w32 (b : Nat)) h' n (w32 (nbS S b (i + 1)).1) (w32 (nbS S b (i + 1)).2) (w32 (i + 1 : Nat))
        rw [f_X12_nearest_l26, if_neg (by rw [wl_6, w_le _ _ (by omega) (by omega) (by omega) (by omega)]; omega)]
        by_cases qb : i = b
        · rw [if_pos (by rw [qb]), nbS_0 (fun z => z.1 qb), wl_1, w_add, w_s]
        · rw [if_neg (ne_w (by omega) (by omega) (by omega) (by omega) (by omega))]
          rcases Classical.em (kn (xb S i) (xg S i)) with hk' | hk'
          · rw [kk.1 hk', bnd_s, if_pos rfl, m_alike (hM.mk oS hb) (hM.mk oS hi) hk hk', bnd_s]
            simp (disch := omega) only [wl_1, w_neg, w_eq, w_lt, w_add, w_s]
            by_cases q1 : (nbS S b i).1 = -1
            · rw [if_pos q1, nbS_1 ⟨qb, hk', Or.inl q1⟩]
            · rw [if_neg q1]
              by_cases q2 : (nbS S b i).2 < alS (xb S b) (xg S b) (xb S i) (xg S i) (xa S)
              · rw [if_pos q2, nbS_1 ⟨qb, hk', Or.inr q2⟩]
              · rw [if_neg q2, nbS_0 (fun z => by rcases z.2.2 with e | e; exact q1 e; exact q2 e)]
          · rw [kk.2 hk', bnd_s, if_neg (by decide), nbS_0 (fun z => hk' z.2.1), wl_1, w_add, w_s]) (fun n => by
        show f_X12_nearest_l26 (w32 (b : Nat)) h' (n + 1) _ _ (w32 (6 : Nat)) = _
        rw [f_X12_nearest_l26, if_pos (by decide)]) FU (by decide)
    try dsimp only
    rw [show (f_X12_nearest_l26 (w32 (b : Nat)) h' FU (-1) 0 0) = _ from hl, bnd_s]
end ALK2
