theorem first_of (P : Nat → Prop) (n : Nat) : (∀ i, i < n → P i) ∨ ∃ j, j < n ∧ ¬ P j ∧ ∀ i, i < j → P i := by
  induction n with
  | zero => exact Or.inl (fun i hi => by omega)
  | succ n ih =>
    rcases ih with h | ⟨j, h1, h2, h3⟩
    · rcases Classical.em (P n) with hp | hp
      · exact Or.inl (fun i hi => by rcases Nat.lt_or_ge i n with q | q; exact h i q; rw [show i = n by omega]; exact hp)
      · exact Or.inr ⟨n, by omega, hp, h⟩
    · exact Or.inr ⟨j, by omega, h2, h3⟩
/-- the kinds as bits -/
def orF (f : Nat → Nat) : Nat → Int32
  | 0 => 0
  | n + 1 => orF f n ||| (1 <<< ((w32 (f n) : Int32) &&& 31))
theorem bit_1 : ∀ j : Fin 12, ∀ k : Fin 12, (((1 : Int32) <<< (w32 (j.val : Int) &&& 31)) >>> (w32 (k.val : Int) &&& 31)) &&& 1 = if j = k then 1 else 0 := by decide +kernel
theorem orF_has (f : Nat → Nat) (n k : Nat) (hf : ∀ l, l < n → f l < 12) (hk : k < 12) : ((orF f n >>> ((w32 (k : Int) : Int32) &&& 31)) &&& 1 = 1 ∧ ∃ l, l < n ∧ f l = k) ∨ ((orF f n >>> ((w32 (k : Int) : Int32) &&& 31)) &&& 1 = 0 ∧ ∀ l, l < n → f l ≠ k) := by
  induction n with
  | zero =>
    right
    refine ⟨?_, fun l hl => by omega⟩
    show ((0 : Int32) >>> _) &&& 1 = 0
    rw [Int32.zero_shiftRight]
    decide
  | succ n ih =>
    have h1 := bit_1 ⟨f n, hf n (by omega)⟩ ⟨k, hk⟩
    have e : (orF f (n + 1) >>> ((w32 (k : Int) : Int32) &&& 31)) &&& 1 = ((orF f n >>> ((w32 (k : Int) : Int32) &&& 31)) &&& 1) ||| ((((1 : Int32) <<< (w32 (f n : Int) &&& 31)) >>> (w32 (k : Int) &&& 31)) &&& 1) := by
      show ((orF f n ||| _) >>> _) &&& 1 = _
      rw [Int32.shiftRight_or]
      apply Int32.toBitVec_inj.mp
      simp only [Int32.toBitVec_and, Int32.toBitVec_or]
      rw [BitVec.and_comm, BitVec.and_or_distrib_left, BitVec.and_comm, BitVec.and_comm (x := Int32.toBitVec 1)]
    rw [e, h1]
    by_cases q : f n = k
    · left
      rw [if_pos (by apply Fin.ext; exact q)]
      rcases ih (fun l hl => hf l (by omega)) with ⟨i1, -⟩ | ⟨i1, -⟩ <;> rw [i1] <;> exact ⟨by decide, n, by omega, q⟩
    · rw [if_neg (fun z => q (Fin.mk.inj z))]
      rcases ih (fun l hl => hf l (by omega)) with ⟨i1, l, i2, i3⟩ | ⟨i1, i2⟩
      · left; rw [i1]; exact ⟨by decide, l, by omega, i3⟩
      · right; rw [i1]; exact ⟨by decide, fun l hl => by rcases Nat.lt_or_ge l n with z | z; exact i2 l z; rw [show l = n by omega]; exact q⟩
def sLo (β : BV) (k : Nat) : Int := sm (fun l => if vk β l = k then 1 else 0) (vL β)
def sLi (β : BV) (γ : GV) (a : LV) (k : Nat) : Int := sm (fun l => if vk β l = k then sMid β γ a l else 0) (vL β) / (2 * sLo β k)
def hs (β : BV) (k : Nat) : Prop := k < 12 ∧ ∃ l, l < vL β ∧ vk β l = k
theorem sLo_rg {β : BV} (oB : okB β) (k : Nat) : 0 ≤ sLo β k ∧ sLo β k ≤ 40 := by
  have := sm_rg (f := fun l => if vk β l = k then (1 : Int) else 0) (n := vL β) (a := 0) (b := 1) (fun i _ => by split <;> omega)
  have := oB.1
  unfold sLo
  omega
theorem sm_nn {f : Nat → Int} {n : Nat} (h : ∀ i, i < n → 0 ≤ f i) : 0 ≤ sm f n := by
  induction n with
  | zero => exact Int.le_refl _
  | succ n ih => have := ih (fun i hi => h i (by omega)); have := h n (by omega); rw [sm_s]; omega
theorem sm_pos {f : Nat → Int} {n l : Nat} (h : ∀ i, i < n → 0 ≤ f i) (hl : l < n) (hp : 1 ≤ f l) : 1 ≤ sm f n := by
  induction n with
  | zero => omega
  | succ n ih =>
    rw [sm_s]
    by_cases e : l = n
    · subst e; have := sm_nn (fun i hi => h i (Nat.lt_succ_of_lt hi)); omega
    · have := ih (fun i hi => h i (by omega)) (by omega); have := h n (by omega); omega
theorem sLo_pos {β : BV} {k : Nat} (h : hs β k) : 1 ≤ sLo β k := by
  obtain ⟨-, l, hl, e⟩ := h
  exact sm_pos (fun i _ => by split <;> omega) hl (by rw [if_pos e]; omega)
theorem sm_0s {f : Nat → Int} {n : Nat} (h : ∀ i, i < n → f i = 0) : sm f n = 0 := by
  induction n with
  | zero => rfl
  | succ n ih => rw [sm_s, ih (fun i hi => h i (by omega)), h n (by omega)]; rfl
theorem sLo_zero {β : BV} {k : Nat} (h : ∀ l, l < vL β → vk β l ≠ k) : sLo β k = 0 := sm_0s (fun i hi => if_neg (h i hi))
section MOD3
variable {h : AH} {b : Nat} {β : BV} {γ : GV} {a : LV} {l : Nat}
theorem m_known (hM : MK h b β γ a) : (kn β γ → f_X12_isKnown (w32 b) h = some true) ∧ (¬ kn β γ → f_X12_isKnown (w32 b) h = some false) := by
  obtain ⟨hB, hG, hL, oB, oG, oL, hb⟩ := id hM
  have e1 := hB.1
  have o1 := oB.1
  have step : ∀ i k, i < vL β → rd γ i → f_X12_isKnown_l2 (w32 b) h (k + 1) (w32 i) = f_X12_isKnown_l2 (w32 b) h k (w32 (i + 1 : Nat)) := by
    intro i k hi hr
    have e2 := (hG i hi).1
    have r := okG_rd oG hi hr
    rw [f_X12_isKnown_l2]
    simp (disch := omega) only [w_ibN, w_clN, gd_t, e1, e2, w_le, e_at, wl_1, w_neg, w_eq, w_add, w_s]
    rw [if_neg (by omega), if_neg (by omega)]
  have last : ∀ k, f_X12_isKnown_l2 (w32 b) h (k + 1) (w32 (vL β)) = some (.inl ()) := by
    intro k
    rw [f_X12_isKnown_l2]
    simp (disch := omega) only [w_ibN, w_clN, gd_t, e1, w_le]
    rw [if_pos (by omega)]
  rcases first_of (fun i => rd γ i) (vL β) with hall | ⟨j, hj, hnr, hbef⟩
  · have hl : f_X12_isKnown_l2 (w32 b) h FU (w32 (0 : Nat)) = some (.inl ()) := loopN (f_X12_isKnown_l2 (w32 b) h) (fun i => w32 (i : Nat)) (vL β) _ (fun i k hi => step i k hi (hall i hi)) last FU (by unfold FU; omega)
    have e : f_X12_isKnown (w32 b) h = some (decide (0 < vL β)) := by
      unfold f_X12_isKnown
      rw [show (0 : Int32) = w32 (0 : Nat) from rfl, hl, bnd_s]
      simp (disch := omega) only [Sum.elim, w_ibN, w_clN, gd_t, e1, w_le]
      split
      · rw [decide_eq_false (by omega)]
      · rw [decide_eq_true (by omega)]
    constructor
    · intro hk; rw [e, decide_eq_true hk.1]
    · intro hk; rw [e, decide_eq_false (fun z => hk ⟨z, hall⟩)]
  · constructor
    · intro hk; exact absurd (hk.2 j hj) hnr
    · intro hk
      have hl : f_X12_isKnown_l2 (w32 b) h FU (w32 (0 : Nat)) = some (.inr false) := loopN (f_X12_isKnown_l2 (w32 b) h) (fun i => w32 (i : Nat)) j _ (fun i k hi => step i k (by omega) (hbef i hi)) (fun k => by
        have e2 := (hG j hj).1
        have e3 : γ.1 j = -1 := Classical.not_not.mp hnr
        rw [f_X12_isKnown_l2]
        simp (disch := omega) only [w_ibN, w_clN, gd_t, e1, e2, e3, w_le, e_at, wl_1, w_neg, if_true]
        rw [if_neg (by omega)]) FU (by unfold FU; omega)
      unfold f_X12_isKnown
      rw [show (0 : Int32) = w32 (0 : Nat) from rfl, hl, bnd_s]
      rfl
theorem m_kinds (hM : MK h b β γ a) : f_X12_kindsOf (w32 b) h = some (orF (vk β) (vL β)) := by
  obtain ⟨hB, hG, hL, oB, oG, oL, hb⟩ := id hM
  have e1 := hB.1
  have o1 := oB.1
  have hl : f_X12_kindsOf_l4 (w32 b) h FU (orF (vk β) 0) (w32 (0 : Nat)) = some (orF (vk β) (vL β)) := loopN (fun k (s : Int32 × Int32) => f_X12_kindsOf_l4 (w32 b) h k s.1 s.2) (fun i => (orF (vk β) i, w32 (i : Nat))) (vL β) _ (fun i k hi => by
      have e2 := (hB.2.2.2.2.2.1 i hi).1
      show f_X12_kindsOf_l4 (w32 b) h (k + 1) (orF (vk β) i) (w32 i) = _
      rw [f_X12_kindsOf_l4]
      simp (disch := omega) only [w_ibN, w_clN, gd_t, e1, w_le, e_at, e2]
      rw [if_neg (by omega), show w32 (i : Int) + 1 = w32 ((i + 1 : Nat) : Int) from (w_add _ 1).trans (w_s i)]
      rfl) (fun k => by
      show f_X12_kindsOf_l4 (w32 b) h (k + 1) (orF (vk β) (vL β)) (w32 (vL β)) = _
      rw [f_X12_kindsOf_l4]
      simp (disch := omega) only [w_ibN, w_clN, gd_t, e1, w_le]
      rw [if_pos (by omega)]) FU (by unfold FU; omega)
  unfold f_X12_kindsOf
  rw [show (f_X12_kindsOf_l4 (w32 b) h FU 0 0) = some (orF (vk β) (vL β)) from hl, bnd_s]
theorem m_has (hM : MK h b β γ a) (x : Int32) : (∃ k : Nat, x = w32 k ∧ hs β k ∧ f_X12_has (w32 b) x h = some true) ∨ ((∀ k : Nat, x = w32 k → k < 12 → ¬ hs β k) ∧ f_X12_has (w32 b) x h = some false) := by
  obtain ⟨hB, hG, hL, oB, oG, oL, hb⟩ := id hM
  obtain ⟨z, rfl, r1, r2⟩ := w_ex x
  unfold f_X12_has
  simp (disch := omega) only [wl_0, wl_11, e_isIn, decide_eq_true_eq]
  by_cases q : 0 ≤ z ∧ z ≤ 11
  · obtain ⟨k, rfl⟩ : ∃ k : Nat, z = k := ⟨z.toNat, by omega⟩
    rw [if_pos q, m_kinds hM, bnd_s]
    rcases orF_has (vk β) (vL β) k (fun l hl => (oB.2.2.2.2.2.1 l hl).1) (by omega) with ⟨e, l, hl, el⟩ | ⟨e, hn⟩
    · left; rw [e]; exact ⟨k, rfl, ⟨by omega, l, hl, el⟩, rfl⟩
    · right; rw [e]; refine ⟨fun k' e' hk' hh => ?_, by rw [if_neg (by decide)]⟩
      have : (k : Int) = k' := by rw [w_eq _ _ (by omega) (by omega) (by omega) (by omega)] at e'; exact e'
      obtain ⟨-, l, hl, el⟩ := hh
      exact hn l hl (by omega)
  · right
    rw [if_neg q]
    refine ⟨fun k' e' hk' hh => ?_, rfl⟩
    rw [w_eq _ _ (by omega) (by omega) (by omega) (by omega)] at e'
    omega
theorem m_has_k (hM : MK h b β γ a) {k : Nat} (hk : k < 12) : (hs β k → f_X12_has (w32 b) (w32 k) h = some true) ∧ (¬ hs β k → f_X12_has (w32 b) (w32 k) h = some false) := by
  rcases m_has hM (w32 k) with ⟨k', e, h1, h2⟩ | ⟨h1, h2⟩
  · have : k = k' := by
      have := h1.1
      rw [w_eq _ _ (by omega) (by omega) (by omega) (by omega)] at e; omega
    subst this
    exact ⟨fun _ => h2, fun q => absurd h1 q⟩
  · exact ⟨fun q => absurd q (h1 k rfl hk), fun _ => h2⟩
theorem m_leavesOf (hM : MK h b β γ a) {k : Nat} (hk : k < 12) : f_X12_leavesOf (w32 b) (w32 k) h = some (w32 (sLo β k)) := by
  obtain ⟨hB, hG, hL, oB, oG, oL, hb⟩ := id hM
  have e1 := hB.1
  have o1 := oB.1
  have hl : f_X12_leavesOf_l5 (w32 b) (w32 k) h FU (w32 (sm (fun l => if vk β l = k then 1 else 0) 0)) (w32 (0 : Nat)) = some (w32 (sLo β k)) := loopN (fun n (s : Int32 × Int32) => f_X12_leavesOf_l5 (w32 b) (w32 k) h n s.1 s.2) (fun i => (w32 (sm (fun l => if vk β l = k then 1 else 0) i), w32 (i : Nat))) (vL β) _ (fun i n hi => by
      have e2 := (hB.2.2.2.2.2.1 i hi).1
      have r2 := (oB.2.2.2.2.2.1 i hi).1
      show f_X12_leavesOf_l5 (w32 b) (w32 k) h (n + 1) (w32 (sm _ i)) (w32 i) = f_X12_leavesOf_l5 (w32 b) (w32 k) h n (w32 (sm _ (i + 1))) (w32 (i + 1 : Nat))
      rw [f_X12_leavesOf_l5]
      simp (disch := omega) only [w_ibN, w_clN, gd_t, e1, w_le, e_at, e2, w_eq, wl_0, wl_1, w_add, w_s, sm_s]
      rw [if_neg (by omega)]
      by_cases q : vk β i = k
      · rw [if_pos (by omega), if_pos q]
      · rw [if_neg (by omega), if_neg q]) (fun n => by
      show f_X12_leavesOf_l5 (w32 b) (w32 k) h (n + 1) (w32 (sm _ (vL β))) (w32 (vL β)) = _
      rw [f_X12_leavesOf_l5]
      simp (disch := omega) only [w_ibN, w_clN, gd_t, e1, w_le]
      rw [if_pos (by omega)]
      rfl) FU (by unfold FU; omega)
  unfold f_X12_leavesOf
  rw [show (f_X12_leavesOf_l5 (w32 b) (w32 k) h FU 0 0) = some (w32 (sLo β k)) from hl, bnd_s]
def sMk (β : BV) (γ : GV) (a : LV) (k : Nat) : Nat → Int := fun l => if vk β l = k then sMid β γ a l else 0
theorem sMk_rg (oB : okB β) (oG : okG (vL β) γ) (oL : okL a) (hk : kn β γ) (k : Nat) {n : Nat} (hn : n ≤ vL β) : 0 ≤ sm (sMk β γ a k) n ∧ sm (sMk β γ a k) n ≤ 80003920 := by
  have := sm_rg (f := sMk β γ a k) (n := n) (a := 0) (b := 2000098) (fun i hi => by
    have := sMid_rg oB oG oL (show i < vL β by omega) (kn_l hk (show i < vL β by omega)).1 (kn_l hk (show i < vL β by omega)).2
    unfold sMk; split <;> omega)
  have := oB.1
  omega
theorem m_lightOf (hM : MK h b β γ a) (hk : kn β γ) {k : Nat} (hh : hs β k) : f_X12_lightOf (w32 b) (w32 k) h = some (w32 (sLi β γ a k)) := by
  obtain ⟨hB, hG, hL, oB, oG, oL, hb⟩ := id hM
  have e1 := hB.1
  have o1 := oB.1
  have hk12 := hh.1
  have hl : f_X12_lightOf_l5 (w32 b) (w32 k) h FU (w64 (sm (sMk β γ a k) 0)) (w32 (0 : Nat)) = some (w64 (sm (sMk β γ a k) (vL β))) := loopN (fun n (s : Int64 × Int32) => f_X12_lightOf_l5 (w32 b) (w32 k) h n s.1 s.2) (fun i => (w64 (sm (sMk β γ a k) i), w32 (i : Nat))) (vL β) _ (fun i n hi => by
      have e2 := (hB.2.2.2.2.2.1 i hi).1
      have r2 := (oB.2.2.2.2.2.1 i hi).1
      have r3 := sMid_rg oB oG oL hi (kn_l hk hi).1 (kn_l hk hi).2
      have r4 := sMk_rg oB oG oL hk k (Nat.le_of_lt hi)
      show f_X12_lightOf_l5 (w32 b) (w32 k) h (n + 1) (w64 (sm _ i)) (w32 i) = f_X12_lightOf_l5 (w32 b) (w32 k) h n (w64 (sm _ (i + 1))) (w32 (i + 1 : Nat))
      rw [f_X12_lightOf_l5]
      simp (disch := omega) only [w_ibN, w_clN, gd_t, e1, w_le, e_at, e2, w_eq, wl_1, w_add, w_s, sm_s, m_mid hM hi (kn_l hk hi).1 (kn_l hk hi).2, bnd_s, w_l, v_add, vl_0]
      rw [if_neg (by omega)]
      by_cases q : vk β i = k
      · rw [if_pos (by omega), show sMk β γ a k i = sMid β γ a i from if_pos q]
      · rw [if_neg (by omega), show sMk β γ a k i = 0 from if_neg q]) (fun n => by
      show f_X12_lightOf_l5 (w32 b) (w32 k) h (n + 1) (w64 (sm _ (vL β))) (w32 (vL β)) = _
      rw [f_X12_lightOf_l5]
      simp (disch := omega) only [w_ibN, w_clN, gd_t, e1, w_le]
      rw [if_pos (by omega)]) FU (by unfold FU; omega)
  have p1 := sLo_pos hh
  have p2 := sLo_rg oB k
  have r4 := sMk_rg oB oG oL hk k (Nat.le_refl _)
  unfold f_X12_lightOf
  rw [show (f_X12_lightOf_l5 (w32 b) (w32 k) h FU 0 0) = _ from hl, bnd_s, m_leavesOf hM hk12, bnd_s]
  simp (disch := omega) only [w_l, vl_2, v_mul]
  rw [gd_t (by rw [vl_0, v_eq _ _ (by omega) (by omega) (by omega) (by omega)]; omega), v_divP _ _ (by omega) (by omega) (by omega) (by omega)]
  have r5 : 0 ≤ sm (sMk β γ a k) (vL β) / (2 * sLo β k) ∧ sm (sMk β γ a k) (vL β) / (2 * sLo β k) ≤ 80003920 := ⟨Int.ediv_nonneg (by omega) (by omega), Int.le_trans (Int.ediv_le_self _ (by omega)) (by omega)⟩
  rw [v_i _ (by omega) (by omega)]
  rfl
end MOD3
