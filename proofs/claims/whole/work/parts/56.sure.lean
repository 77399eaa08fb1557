/-! sure, sleepy pairs, where it falls open -/
theorem scan {σ τ : Type} (L : Nat → σ → Option τ) (S : Nat → σ) (n : Nat) (P : Nat → Prop) (A : τ) (F : Nat → τ) (hs : ∀ i k, i < n → P i → L (k + 1) (S i) = L k (S (i + 1))) (hx : ∀ i k, i < n → ¬ P i → L (k + 1) (S i) = some (F i)) (he : ∀ k, L (k + 1) (S n) = some A) (m : Nat) (hm : n < m) : ((∀ i, i < n → P i) → L m (S 0) = some A) ∧ (∀ j, j < n → ¬ P j → (∀ i, i < j → P i) → L m (S 0) = some (F j)) :=
  ⟨fun hall => loopN L S n A (fun i k hi => hs i k hi (hall i hi)) he m hm, fun j hj hn hb => loopN L S j (F j) (fun i k hi => hs i k (by omega) (hb i hi)) (fun k => hx j k hj hn) m (by omega)⟩
theorem e_cmp1 (x y : Int) (h1 : -2147483648 ≤ x) (h2 : x ≤ 2147483647) (h3 : -2147483648 ≤ y) (h4 : y ≤ 2147483647) : (f_X11_compared (w32 x) (w32 y) = w32 1) = (y < x) := by
  unfold f_X11_compared
  simp only [w_le _ _ h1 h2 h3 h4, w_le _ _ h3 h4 h1 h2]
  apply propext
  by_cases q : x ≤ y
  · rw [if_pos q]
    by_cases q2 : y ≤ x
    · rw [if_pos q2]; exact ⟨fun z => absurd z (by decide), fun z => by omega⟩
    · rw [if_neg q2]; exact ⟨fun z => absurd z (by decide), fun z => by omega⟩
  · rw [if_neg q]; exact ⟨fun _ => by omega, fun _ => rfl⟩
theorem e_cmpm (x y : Int) (h1 : -2147483648 ≤ x) (h2 : x ≤ 2147483647) (h3 : -2147483648 ≤ y) (h4 : y ≤ 2147483647) : (f_X11_compared (w32 x) (w32 y) = w32 (-1)) = (x < y) := by
  unfold f_X11_compared
  simp only [w_le _ _ h1 h2 h3 h4, w_le _ _ h3 h4 h1 h2]
  apply propext
  by_cases q : x ≤ y
  · rw [if_pos q]
    by_cases q2 : y ≤ x
    · rw [if_pos q2]; exact ⟨fun z => absurd z (by decide), fun z => by omega⟩
    · rw [if_neg q2]; exact ⟨fun _ => by omega, fun _ => rfl⟩
  · rw [if_neg q]; exact ⟨fun z => absurd z (by decide), fun z => by omega⟩
def sTs (β : BV) (γ : GV) (a : LV) (k : Nat) (g : Bool) (l : Nat) : Int := if vk β l = k then (if sTH β γ a l < sTL β γ a l then 0 else if g = true then sTH β γ a l else sTL β γ a l) else 0
section SUR
variable {h : AH} {b B : Nat} {β : BV} {γ : GV} {a : LV}
theorem sTs_rg1 (oB : okB β) (oG : okG (vL β) γ) (oL : okL a) (hk : kn β γ) (k : Nat) (g : Bool) {l : Nat} (hl : l < vL β) : 0 ≤ sTs β γ a k g l ∧ sTs β γ a k g l ≤ 1000049 := by
  have r := sTL_rg oB oG oL hl (kn_l hk hl).1 (kn_l hk hl).2
  unfold sTs
  split
  · split
    · omega
    · split <;> omega
  · omega
theorem sTs_rg (oB : okB β) (oG : okG (vL β) γ) (oL : okL a) (hk : kn β γ) (k : Nat) (g : Bool) {n : Nat} (hn : n ≤ vL β) : 0 ≤ sm (sTs β γ a k g) n ∧ sm (sTs β γ a k g) n ≤ 40001960 := by
  have := sm_rg (f := sTs β γ a k g) (n := n) (a := 0) (b := 1000049) (fun i hi => sTs_rg1 oB oG oL hk k g (show i < vL β by omega))
  have := oB.1
  omega
theorem sTs_0 {k : Nat} {g : Bool} {l : Nat} (q : vk β l ≠ k ∨ sTH β γ a l < sTL β γ a l) : sTs β γ a k g l = 0 := by
  unfold sTs
  by_cases q1 : vk β l = k
  · rw [if_pos q1]
    rcases q with q | q
    · exact absurd q1 q
    · rw [if_pos q]
  · rw [if_neg q1]
theorem sTs_t {k l : Nat} (q : vk β l = k) (q2 : ¬ sTH β γ a l < sTL β γ a l) : sTs β γ a k true l = sTH β γ a l ∧ sTs β γ a k false l = sTL β γ a l := by
  unfold sTs
  rw [if_pos q, if_neg q2, if_pos rfl, if_pos q, if_neg q2, if_neg (by decide)]
  exact ⟨rfl, rfl⟩
theorem m_turnsOf (hM : MK h b β γ a) (hk : kn β γ) {k : Nat} (hk12 : k < 12) (g : Bool) : f_X12_turnsOf (w32 b) (w32 k) g h = some (w64 (sm (sTs β γ a k g) (vL β))) := by
  obtain ⟨hB, hG, hL, oB, oG, oL, hb⟩ := id hM
  have e1 := hB.1
  have o1 := oB.1
  have hl : f_X12_turnsOf_l6 (w32 b) (w32 k) g h FU (w64 (sm (sTs β γ a k g) 0)) (w32 (0 : Nat)) = some (w64 (sm (sTs β γ a k g) (vL β))) := loopN (fun n (s : Int64 × Int32) => f_X12_turnsOf_l6 (w32 b) (w32 k) g h n s.1 s.2) (fun i => (w64 (sm (sTs β γ a k g) i), w32 (i : Nat))) (vL β) _ (fun i n hi => by
      have e2 := (hB.2.2.2.2.2.1 i hi).1
      have r2 := (oB.2.2.2.2.2.1 i hi).1
      have r3 := sTL_rg oB oG oL hi (kn_l hk hi).1 (kn_l hk hi).2
      show f_X12_turnsOf_l6 (w32 b) (w32 k) g h (n + 1) (w64 (sm _ i)) (w32 i) = f_X12_turnsOf_l6 (w32 b) (w32 k) g h n (w64 (sm _ (i + 1))) (w32 (i + 1 : Nat))
      rw [f_X12_turnsOf_l6]
      simp (disch := omega) only [w_ibN, w_clN, gd_t, e1, w_le, e_at, e2, w_eq, wl_1, w_add, w_s, sm_s, m_strange hM hi (kn_l hk hi).1 (kn_l hk hi).2, m_TH hM hi (kn_l hk hi).1 (kn_l hk hi).2, m_TL hM hi (kn_l hk hi).1 (kn_l hk hi).2, bnd_s, w_l, v_add, decide_eq_true_eq]
      rw [if_neg (show ¬ ((vL β : Int) ≤ (i : Int)) by omega)]
      by_cases q : vk β i = k
      · rw [if_pos (show ((vk β i : Nat) : Int) = (k : Int) by omega)]
        by_cases q2 : sTH β γ a i < sTL β γ a i
        · rw [if_pos q2, sTs_0 (Or.inr q2), Int.add_zero]
        · rw [if_neg q2]
          cases g with
          | true => rw [if_pos rfl, (sTs_t q q2).1]
          | false => rw [if_neg (by decide), (sTs_t q q2).2]
      · rw [if_neg (show ¬ ((vk β i : Nat) : Int) = (k : Int) by omega), sTs_0 (Or.inl q), Int.add_zero]) (fun n => by
      show f_X12_turnsOf_l6 (w32 b) (w32 k) g h (n + 1) (w64 (sm _ (vL β))) (w32 (vL β)) = _
      rw [f_X12_turnsOf_l6]
      simp (disch := omega) only [w_ibN, w_clN, gd_t, e1, w_le]
      rw [if_pos (by omega)]) FU (by unfold FU; omega)
  unfold f_X12_turnsOf
  rw [show (f_X12_turnsOf_l6 (w32 b) (w32 k) g h FU 0 0) = _ from hl, bnd_s]
def sSu (β : BV) (γ : GV) (a : LV) (k m : Nat) : Bool := decide (sm (sTs β γ a m true) (vL β) * sLo β k < sm (sTs β γ a k false) (vL β) * sLo β m)
theorem m_surely (hM : MK h b β γ a) (hk : kn β γ) {k m : Nat} (hk12 : k < 12) (hm12 : m < 12) : f_X12_isSurely (w32 b) (w32 k) (w32 m) h = some (sSu β γ a k m) := by
  obtain ⟨hB, hG, hL, oB, oG, oL, hb⟩ := id hM
  have r1 := sTs_rg oB oG oL hk k false (Nat.le_refl _)
  have r2 := sTs_rg oB oG oL hk m true (Nat.le_refl _)
  have r3 := sLo_rg oB k
  have r4 := sLo_rg oB m
  have p1 := mul_rg r1.1 r1.2 r4.1 r4.2
  have p2 := mul_rg r2.1 r2.2 r3.1 r3.2
  unfold f_X12_isSurely
  rw [m_turnsOf hM hk hk12, bnd_s, m_leavesOf hM hm12, bnd_s, m_turnsOf hM hk hm12, bnd_s, m_leavesOf hM hk12, bnd_s, w_l _ (by omega) (by omega), w_l _ (by omega) (by omega), v_mul, v_mul]
  simp (disch := omega) only [c_le]
  unfold sSu
  split
  · rw [decide_eq_false (by omega)]
  · rw [decide_eq_true (by omega)]
theorem k_surely (hB : BC h B β) (hU : UF h 33 β γ a) (oB : okB β) (oG : okG (vL β) γ) (oL : okL a) (hk : kn β γ) {k m : Nat} (hk12 : k < 12) (hm12 : m < 12) : f_X9_surely 33 B (w32 k) (w32 m) h = some (sSu β γ a k m) := by
  have e1 := hB.1
  have o1 := oB.1
  have hl : f_X9_surely_l9 33 B (w32 k) (w32 m) h FU (w64 (sm (sTs β γ a k false) 0)) (w64 (sm (sTs β γ a m true) 0)) (w32 (0 : Nat)) = some (w64 (sm (sTs β γ a k false) (vL β)), w64 (sm (sTs β γ a m true) (vL β))) := loopN (fun n (s : Int64 × Int64 × Int32) => f_X9_surely_l9 33 B (w32 k) (w32 m) h n s.1 s.2.1 s.2.2) (fun i => (w64 (sm (sTs β γ a k false) i), w64 (sm (sTs β γ a m true) i), w32 (i : Nat))) (vL β) _ (fun i n hi => by
      have e2 := (hB.2.2.2.2.2.1 i hi).1
      have r2 := (oB.2.2.2.2.2.1 i hi).1
      have r3 := sTL_rg oB oG oL hi (kn_l hk hi).1 (kn_l hk hi).2
      obtain ⟨-, -, g3, g4, -⟩ := hU.l33 hi (kn_l hk hi).1 (kn_l hk hi).2
      show f_X9_surely_l9 33 B (w32 k) (w32 m) h (n + 1) (w64 (sm _ i)) (w64 (sm _ i)) (w32 i) = f_X9_surely_l9 33 B (w32 k) (w32 m) h n (w64 (sm _ (i + 1))) (w64 (sm _ (i + 1))) (w32 (i + 1 : Nat))
      rw [f_X9_surely_l9]
      simp (disch := omega) only [w_ibN, w_clN, gd_t, e1, w_le, e2, w_eq, wl_1, w_add, w_s, sm_s, k_strange33 hU oB oG oL hi (kn_l hk hi).1 (kn_l hk hi).2, g3, g4, bnd_s, lt_b, w_l, v_add, vl_0, decide_eq_true_eq]
      rw [if_neg (show ¬ ((vL β : Int) ≤ (i : Int)) by omega)]
      by_cases q2 : sTH β γ a i < sTL β γ a i
      · rw [if_pos q2, sTs_0 (Or.inr q2), sTs_0 (Or.inr q2), Int.add_zero, Int.add_zero]
      · rw [if_neg q2]
        by_cases q : vk β i = k
        · rw [if_pos (show ((vk β i : Nat) : Int) = (k : Int) by omega), (sTs_t q q2).2]
          by_cases q3 : vk β i = m
          · rw [if_pos (show ((vk β i : Nat) : Int) = (m : Int) by omega), (sTs_t q3 q2).1]
          · rw [if_neg (show ¬ ((vk β i : Nat) : Int) = (m : Int) by omega), sTs_0 (k := m) (Or.inl q3)]
        · rw [if_neg (show ¬ ((vk β i : Nat) : Int) = (k : Int) by omega), sTs_0 (k := k) (Or.inl q)]
          by_cases q3 : vk β i = m
          · rw [if_pos (show ((vk β i : Nat) : Int) = (m : Int) by omega), (sTs_t q3 q2).1]
          · rw [if_neg (show ¬ ((vk β i : Nat) : Int) = (m : Int) by omega), sTs_0 (k := m) (Or.inl q3)]) (fun n => by
      show f_X9_surely_l9 33 B (w32 k) (w32 m) h (n + 1) (w64 (sm _ (vL β))) (w64 (sm _ (vL β))) (w32 (vL β)) = _
      rw [f_X9_surely_l9, e1, if_pos (Int32.le_refl _)]) FU (by unfold FU; omega)
  have r1 := sTs_rg oB oG oL hk k false (Nat.le_refl _)
  have r2 := sTs_rg oB oG oL hk m true (Nat.le_refl _)
  have r3 := sLo_rg oB k
  have r4 := sLo_rg oB m
  have p1 := mul_rg r1.1 r1.2 r4.1 r4.2
  have p2 := mul_rg r2.1 r2.2 r3.1 r3.2
  unfold f_X9_surely
  rw [show (f_X9_surely_l9 33 B (w32 k) (w32 m) h FU 0 0 0) = _ from hl, bnd_s]
  try dsimp only
  rw [gd_t (by rw [w_ibN _ _ (by omega)]; omega), gd_t (by rw [w_ibN _ _ (by omega)]; omega), w_clN _ (by omega), w_clN _ (by omega), (hU.2 m hm12).2, (hU.2 k hk12).2, w_l _ (by omega) (by omega), w_l _ (by omega) (by omega), v_mul, v_mul]
  simp (disch := omega) only [c_le]
  unfold sSu
  split
  · rw [decide_eq_false (by omega)]
  · rw [decide_eq_true (by omega)]
/-- held or not, on both sides -/
theorem held_or {u : Nat} (hU : UF h u β γ a) (oB : okB β) (y : Int32) : (∃ k : Nat, k < 12 ∧ y = w32 k ∧ hs β k ∧ f_X11_checkHeld u y h = some (.inl ((), h))) ∨ (f_X11_checkHeld u y h = some (.inr (0, h)) ∧ ∀ (h' : AH) (b : Nat) (γ' : GV) (a' : LV), MK h' b β γ' a' → f_X12_has (w32 b) y h' = some false) := by
  obtain ⟨z, rfl, r1, r2⟩ := w_ex y
  by_cases q : 0 ≤ z ∧ z ≤ 11
  · obtain ⟨k, rfl, hk⟩ := nat_of (n := 11) q
    have hk : k < 12 := by omega
    rcases Classical.em (hs β k) with hh | hh
    · exact Or.inl ⟨k, hk, rfl, hh, (c_held hU oB hk).1 hh⟩
    · exact Or.inr ⟨(c_held hU oB hk).2 hh, fun h' b γ' a' hM => (m_has_k hM hk).2 hh⟩
  · exact Or.inr ⟨c_heldOut r1 r2 q, fun h' b γ' a' hM => m_hasOut r1 r2 q⟩
end SUR
section SUR2
variable {h : AH} {S : SV} {T : Nat}
theorem q_sure (x y v : Int32) (hI : CI h S) (oS : okS S) : ∃ s, RC (f_X11_sure x y v h) h s ∧ ∀ h', MI2 h' S T → RM (f_X12_sure x y v h') h' s := by
  refine q_asked x hI oS _ _ (fun b hb hx hk h1 f1 hI1 u1 => ?_)
  subst hx
  have o := oS.1 b hb
  have hB := (hI1.2.1 b hb).1
  rcases held_or u1 o.1 y with ⟨k, hk12, rfl, hh, e⟩ | ⟨e, em⟩
  · rcases held_or u1 o.1 v with ⟨m, hm12, rfl, hh2, e2⟩ | ⟨e2, em2⟩
    · have s1 := k_surely hB u1 o.1 o.2.1 oS.2.1 hk hk12 hm12
      have s2 := k_surely hB u1 o.1 o.2.1 oS.2.1 hk hm12 hk12
      refine ⟨some (if sSu (xb S b) (xg S b) (xa S) k m = true then 1 else if sSu (xb S b) (xg S b) (xa S) m k = true then -1 else 0), ?_, fun h' hM hc => ?_⟩
      · refine RC_some Fr.rf ?_
        try dsimp only
        rw [e, bnd_s]
        simp only [Sum.elim_inl]
        rw [e2, bnd_s]
        simp only [Sum.elim_inl]
        rw [s1, bnd_s, s2, bnd_s]
        split
        · rfl
        · split <;> rfl
      · refine RM_some FrQ.rf ?_ hc
        have hMK := hM.mk oS hb
        try dsimp only
        rw [(m_has_k hMK hk12).1 hh, bnd_s, if_pos rfl, (m_has_k hMK hm12).1 hh2, bnd_s, if_pos rfl, m_surely hMK hk hk12 hm12, bnd_s, m_surely hMK hk hm12 hk12, bnd_s]
        split
        · rfl
        · split <;> rfl
    · refine ⟨none, RC_none Fr.rf ?_, fun h' hM hc => RM_fail FrQ.rf ?_⟩
      · try dsimp only
        rw [e, bnd_s]
        simp only [Sum.elim_inl]
        rw [e2, bnd_s]
        rfl
      · have hMK := hM.mk oS hb
        try dsimp only
        rw [(m_has_k hMK hk12).1 hh, bnd_s, if_pos rfl, em2 h' b _ _ hMK, bnd_s, if_neg (by decide), m_fail, bnd_s]
  · refine ⟨none, RC_none Fr.rf ?_, fun h' hM hc => RM_fail FrQ.rf ?_⟩
    · try dsimp only
      rw [e, bnd_s]
      rfl
    · try dsimp only
      rw [em h' b _ _ (hM.mk oS hb), bnd_s, if_neg (by decide), m_fail, bnd_s]
end SUR2
