theorem e_fill (a n0 : Nat) (v : Int32) (h : AH) (hn : n0 < 1000) : ∃ h', f_J7_fill_53178 a n0 v h = some h' ∧ Fr (fun c => c = a) h h' ∧ (∀ j, j < n0 → hia h' a j = v) ∧ (∀ j, n0 ≤ j → hia h' a j = hia h a j) := by
  obtain ⟨h', e, q⟩ := loopR (fun k (s : Int32 × AH) => f_J7_fill_53178_l5 a v (Int32.ofNat n0) n0 k s.1 s.2) (fun i s => s.1 = w32 i ∧ Fr (fun c => c = a) h s.2 ∧ (∀ j, j < i → hia s.2 a j = v) ∧ (∀ j, i ≤ j → hia s.2 a j = hia h a j)) (fun h' => Fr (fun c => c = a) h h' ∧ (∀ j, j < n0 → hia h' a j = v) ∧ (∀ j, n0 ≤ j → hia h' a j = hia h a j)) n0
    (fun i k s hi hP => by
      obtain ⟨v2, hh⟩ := s
      obtain ⟨p1, p2, p3, p4⟩ := hP
      have p1 : v2 = w32 i := p1
      subst p1
      refine ⟨(w32 (i + 1 : Nat), sia hh a i v), ⟨rfl, p2.tr (Fr.sia _ _ _ _ rfl), fun j hj => ?_, fun j hj => ?_⟩, ?_⟩
      · by_cases q : j = i
        · subst q; exact ia_sia_eq _ _ _ _
        · rw [ia_sia_nk _ _ _ _ _ q]; exact p3 j (by omega)
      · rw [ia_sia_nk _ _ _ _ _ (by omega)]; exact p4 j (by omega)
      · show f_J7_fill_53178_l5 a v (Int32.ofNat n0) n0 (k + 1) (w32 i) hh = f_J7_fill_53178_l5 a v (Int32.ofNat n0) n0 k (w32 (i + 1 : Nat)) (sia hh a i v)
        rw [f_J7_fill_53178_l5]
        rw [show Int32.ofNat n0 = w32 (n0 : Nat) from rfl]
        simp (disch := omega) only [w_le, w_ibN, gd_t, w_clN, lt_b, wl_1, w_add, w_s]
        rw [if_neg (by omega)])
    (fun k s hP => by
      obtain ⟨v2, hh⟩ := s
      obtain ⟨p1, p2⟩ := hP
      have p1 : v2 = w32 n0 := p1
      subst p1
      refine ⟨hh, ?_, p2⟩
      show f_J7_fill_53178_l5 a v (Int32.ofNat n0) n0 (k + 1) (w32 n0) hh = _
      rw [f_J7_fill_53178_l5, show Int32.ofNat n0 = w32 (n0 : Nat) from rfl]
      simp (disch := omega) only [w_le]
      rw [if_pos (by omega)]) FU (by unfold FU; omega) (0, h) ⟨rfl, Fr.rf, fun j hj => by omega, fun j _ => rfl⟩
  refine ⟨h', ?_, q⟩
  unfold f_J7_fill_53178
  rw [show f_J7_fill_53178_l5 a v (Int32.ofNat n0) n0 FU 0 h = some h' from e, bnd_s]
section FIL3
variable {h : AH} {B g r u : Nat} {β : BV} {γ : GV} {a : LV} {i : Nat}
theorem k_wasRead {n : Nat} (hG : GC h g n γ) (oG : okG n γ) (hi : i < n) (hn : n ≤ 40) : f_X3_wasRead g (w32 i) h = some (decide (γ.1 i ≠ -1)) := by
  have e := (hG i hi).1
  have rg : -1 ≤ γ.1 i ∧ γ.1 i ≤ 1000049 := by rcases oG i hi with q | q <;> omega
  unfold f_X3_wasRead
  simp (disch := omega) only [w_ibN, gd_t, w_clN, e, wl_1, w_neg, w_eq]
  by_cases q : γ.1 i = -1
  · rw [if_pos q, decide_eq_false (fun z => z q)]
  · rw [if_neg q, decide_eq_true q]
theorem k_fillL (hC : CK h B g r β γ a) (hA : adOK B g r) (hu : u = 33 ∨ u = 42) : ∃ h', f_X9_fill_l3 u B g r FU 0 h = some h' ∧ Fr (WU u) h h' ∧ ∀ l, l < vL β → UR h' u β γ a l := by
  have o1 := hC.2.2.2.1.1
  exact loopR (fun k (s : Int32 × AH) => f_X9_fill_l3 u B g r k s.1 s.2) (fun i s => s.1 = w32 i ∧ Fr (WU u) h s.2 ∧ ∀ l, l < i → UR s.2 u β γ a l) (fun h' => Fr (WU u) h h' ∧ ∀ l, l < vL β → UR h' u β γ a l) (vL β)
    (fun i k s hi hP => by
      obtain ⟨v2, hh⟩ := s
      obtain ⟨p1, p2, p3⟩ := hP
      have p1 : v2 = w32 i := p1
      subst p1
      have hC2 := hC.wu hA hu p2
      have e1 := hC2.1.1
      obtain ⟨h', e, o, uu⟩ := k_fillLeaf hC2 hA hu hi
      refine ⟨(w32 (i + 1 : Nat), h'), ⟨rfl, p2.tr o.1, fun l hl => ?_⟩, ?_⟩
      · by_cases q : l = i
        · subst q; exact uu
        · have := p3 l (by omega)
          unfold UR at this ⊢
          rw [o.2.1 _ l q, o.2.1 _ l q, o.2.1 _ l q, o.2.1 _ l q, o.2.1 _ l q]
          exact this
      · show f_X9_fill_l3 u B g r (k + 1) (w32 i) hh = f_X9_fill_l3 u B g r k (w32 (i + 1 : Nat)) h'
        rw [f_X9_fill_l3, e1, if_neg (by rw [w_le _ _ (by omega) (by omega) (by omega) (by omega)]; omega), k_wasRead hC2.2.1 hC2.2.2.2.2.1 hi o1, bnd_s, lt_b]
        have hs : w32 (i : Int) + 1 = w32 (i + 1 : Nat) := (w_add _ 1).trans (w_s i)
        have fin : bnd (f_X9_fillLeaf u B g r (w32 i) (rdy γ i) hh) (fun q9 => f_X9_fill_l3 u B g r k (w32 i + 1) q9) = f_X9_fill_l3 u B g r k (w32 (i + 1 : Nat)) h' := by rw [e, bnd_s, hs]
        by_cases q : γ.1 i = -1
        · rw [if_neg (by rw [decide_eq_true_eq]; exact fun z => z q)]
          rw [show rdy γ i = false from by unfold rdy; simp [q]] at fin
          exact fin
        · rw [if_pos (by rw [decide_eq_true_eq]; exact q)]
          by_cases h0 : i = 0
          · subst h0
            rw [if_pos (show w32 ((0 : Nat) : Int) = 0 from rfl)]
            rw [show rdy γ 0 = true from by unfold rdy; simp [q]] at fin
            exact fin
          · have hm : w32 (i : Int) - 1 = w32 ((i - 1 : Nat) : Int) := by rw [wl_1, w_sub]; exact ww (by omega)
            rw [if_neg (by rw [wl_0, w_eq _ _ (by omega) (by omega) (by omega) (by omega)]; omega), hm, k_wasRead hC2.2.1 hC2.2.2.2.2.1 (show i - 1 < vL β by omega) o1, bnd_s]
            by_cases q2 : γ.1 (i - 1) = -1
            · rw [if_neg (by rw [decide_eq_true_eq]; exact fun z => z q2)]
              rw [show rdy γ i = false from by unfold rdy; simp [h0, q2]] at fin
              exact fin
            · rw [if_pos (by rw [decide_eq_true_eq]; exact q2)]
              rw [show rdy γ i = true from by unfold rdy; simp [q, q2]] at fin
              exact fin)
    (fun k s hP => by
      obtain ⟨v2, hh⟩ := s
      obtain ⟨p1, p2⟩ := hP
      have p1 : v2 = w32 (vL β) := p1
      subst p1
      have e1 := (hC.wu hA hu p2.1).1.1
      refine ⟨hh, ?_, p2⟩
      show f_X9_fill_l3 u B g r (k + 1) (w32 (vL β)) hh = _
      rw [f_X9_fill_l3, e1, if_pos (Int32.le_refl _)]) FU (by unfold FU; omega) (0, h) ⟨rfl, Fr.rf, fun l hl => by omega⟩
/-! the lights -/
def uLs (β : BV) (γ : GV) (a : LV) (k : Nat) (n : Nat) : Int := sm (fun l => if vk β l = k then uM β γ a l else 0) n
def uLc (β : BV) (k n : Nat) : Int := sm (fun l => if vk β l = k then 1 else 0) n
def uLi (β : BV) (γ : GV) (a : LV) (k : Nat) : Int := if sLo β k = 0 then 0 else uLs β γ a k (vL β) / (2 * sLo β k)
theorem uLs_rg (oB : okB β) (oG : okG (vL β) γ) (oL : okL a) (k : Nat) {n : Nat} (hn : n ≤ vL β) : 0 ≤ uLs β γ a k n ∧ uLs β γ a k n ≤ 80003920 := by
  have := sm_rg (f := fun l => if vk β l = k then uM β γ a l else 0) (n := n) (a := 0) (b := 2000098) (fun i hi => by
    have := uM_rg oB oG oL (show i < vL β by omega)
    split <;> omega)
  have := oB.1
  unfold uLs
  omega
theorem uLc_rg (k n : Nat) (hn : n ≤ 40) : 0 ≤ uLc β k n ∧ uLc β k n ≤ 40 := by
  have := sm_rg (f := fun l => if vk β l = k then (1 : Int) else 0) (n := n) (a := 0) (b := 1) (fun i _ => by split <;> omega)
  unfold uLc
  omega
def W67 (u : Nat) (c : Nat) : Prop := c = u + 6 ∨ c = u + 7
theorem W67.wu {h h' : AH} (hF : Fr (W67 u) h h') : Fr (WU u) h h' := hF.mono (fun c q => by unfold W67 at q; unfold WU; omega)
theorem W67.ur {h h' : AH} {l : Nat} (hF : Fr (W67 u) h h') (hU : UR h u β γ a l) : UR h' u β γ a l := by
  have f : ∀ k, k ≤ 5 → hia h' (u + k) = hia h (u + k) := fun k hk => (hF _ (fun q => by unfold W67 at q; omega)).2.2.1
  unfold UR at hU ⊢
  rw [f 1 (by omega), f 2 (by omega), f 3 (by omega), f 4 (by omega), f 5 (by omega)]
  exact hU
theorem k_lights18 (hB : BC h B β) (oB : okB β) (oG : okG (vL β) γ) (oL : okL a) (hb : B = 6 ∨ (67 ≤ B ∧ B ≤ 157)) (hu : u = 33 ∨ u = 42) (hU : ∀ l, l < vL β → hia h (u + 5) l = w32 (uM β γ a l)) (h6 : ∀ k, k < 12 → hia h (u + 6) k = w32 0 ∧ hia h (u + 7) k = w32 0) :
    ∃ h', f_X9_fillLights_l18 u B FU 0 h = some h' ∧ Fr (W67 u) h h' ∧ ∀ k, k < 12 → hia h' (u + 6) k = w32 (uLs β γ a k (vL β)) ∧ hia h' (u + 7) k = w32 (uLc β k (vL β)) := by
  have o1 := oB.1
  exact loopR (fun k (s : Int32 × AH) => f_X9_fillLights_l18 u B k s.1 s.2) (fun i s => s.1 = w32 i ∧ Fr (W67 u) h s.2 ∧ ∀ k, k < 12 → hia s.2 (u + 6) k = w32 (uLs β γ a k i) ∧ hia s.2 (u + 7) k = w32 (uLc β k i)) (fun h' => Fr (W67 u) h h' ∧ ∀ k, k < 12 → hia h' (u + 6) k = w32 (uLs β γ a k (vL β)) ∧ hia h' (u + 7) k = w32 (uLc β k (vL β))) (vL β)
    (fun i k s hi hP => by
      obtain ⟨v2, hh⟩ := s
      obtain ⟨p1, p2, p3⟩ := hP
      dsimp only at p1 p2 p3
      have p1 : v2 = w32 i := p1
      subst p1
      have hB2 := hB.fr p2 (fun c h1 h2 q => by unfold W67 at q; omega)
      have e1 := hB2.1
      have e2 := (hB2.2.2.2.2.2.1 i hi).1
      have rk := (oB.2.2.2.2.2.1 i hi).1
      have e5 : hia hh (u + 5) i = w32 (uM β γ a i) := by rw [(p2 (u + 5) (fun q => by unfold W67 at q; omega)).2.2.1]; exact hU i hi
      obtain ⟨e6, e7⟩ := p3 (vk β i) rk
      refine ⟨(w32 (i + 1 : Nat), sia (sia hh (u + 6) (vk β i) (w32 (uLs β γ a (vk β i) i + uM β γ a i))) (u + 7) (vk β i) (w32 (uLc β (vk β i) i + 1))), ⟨rfl, (p2.tr (Fr.sia _ _ _ _ (Or.inl rfl))).tr (Fr.sia _ _ _ _ (Or.inr rfl)), fun k hk => ?_⟩, ?_⟩
      · show hia (sia (sia hh _ _ _) _ _ _) _ _ = _ ∧ hia (sia (sia hh _ _ _) _ _ _) _ _ = _
        by_cases q : k = vk β i
        · subst q
          simp (disch := omega) only [ia_sia_ne, ia_sia_eq]
          unfold uLs uLc
          rw [sm_s, sm_s, if_pos rfl, if_pos rfl]
          exact ⟨rfl, rfl⟩
        · simp (disch := omega) only [ia_sia_ne, ia_sia_nk]
          have := p3 k hk
          unfold uLs uLc at this ⊢
          rw [sm_s, sm_s, if_neg (fun z => q z.symm), if_neg (fun z => q z.symm), Int.add_zero, Int.add_zero]
          exact this
      · show f_X9_fillLights_l18 u B (k + 1) (w32 i) hh = f_X9_fillLights_l18 u B k (w32 (i + 1 : Nat)) _
        rw [f_X9_fillLights_l18]
        simp (disch := omega) only [e1, w_le, w_ibN, gd_t, w_clN, e2, e5, e6, w_add, lt_b, ia_sia_ne, e7, wl_1, w_s]
        rw [if_neg (show ¬ ((vL β : Int) ≤ (i : Int)) by omega)])
    (fun k s hP => by
      obtain ⟨v2, hh⟩ := s
      obtain ⟨p1, p2⟩ := hP
      dsimp only at p1 p2
      have p1 : v2 = w32 (vL β) := p1
      subst p1
      have e1 := (hB.fr p2.1 (fun c h1 h2 q => by unfold W67 at q; omega)).1
      refine ⟨hh, ?_, p2⟩
      show f_X9_fillLights_l18 u B (k + 1) (w32 (vL β)) hh = _
      rw [f_X9_fillLights_l18, e1, if_pos (Int32.le_refl _)]) FU (by unfold FU; omega) (0, h) ⟨rfl, Fr.rf, fun k hk => ⟨(h6 k hk).1, (h6 k hk).2⟩⟩
end FIL3
