section FIL4
variable {h : AH} {B g r u : Nat} {β : BV} {γ : GV} {a : LV} {i : Nat}
theorem k_lights69 (oB : okB β) (oG : okG (vL β) γ) (oL : okL a) (hu : u = 33 ∨ u = 42) (h6 : ∀ k, k < 12 → hia h (u + 6) k = w32 (uLs β γ a k (vL β)) ∧ hia h (u + 7) k = w32 (uLc β k (vL β))) :
    ∃ h', f_X9_fillLights_l69 u FU 0 h = some h' ∧ Fr (fun c => c = u + 6) h h' ∧ ∀ k, k < 12 → hia h' (u + 6) k = w32 (uLi β γ a k) := by
  have o1 := oB.1
  exact loopR (fun k (s : Int32 × AH) => f_X9_fillLights_l69 u k s.1 s.2) (fun i s => s.1 = w32 i ∧ Fr (fun c => c = u + 6) h s.2 ∧ (∀ k, k < i → hia s.2 (u + 6) k = w32 (uLi β γ a k)) ∧ ∀ k, i ≤ k → k < 12 → hia s.2 (u + 6) k = w32 (uLs β γ a k (vL β))) (fun h' => Fr (fun c => c = u + 6) h h' ∧ ∀ k, k < 12 → hia h' (u + 6) k = w32 (uLi β γ a k)) 12
    (fun i k s hi hP => by
      obtain ⟨v2, hh⟩ := s
      obtain ⟨p1, p2, p3, p4⟩ := hP
      dsimp only at p1 p2 p3 p4
      subst p1
      have e6 := p4 i (Nat.le_refl _) hi
      have e7 : hia hh (u + 7) i = w32 (uLc β i (vL β)) := by rw [(p2 (u + 7) (by omega)).2.2.1]; exact (h6 i hi).2
      have r6 := uLs_rg oB oG oL i (Nat.le_refl _)
      have r7 := uLc_rg (β := β) i (vL β) o1
      have ec : f_X11_cutDown (w64 (uLs β γ a i (vL β))) (w64 (2 * uLc β i (vL β))) = some (w32 (uLi β γ a i)) := by
        unfold uLi
        by_cases q : sLo β i = 0
        · have q' : uLc β i (vL β) = 0 := q
          rw [if_pos q, q']
          unfold f_X11_cutDown
          rw [if_neg (by rw [vl_1, c_ge _ _ (by omega) (by omega) (by omega) (by omega)]; omega)]
          rfl
        · have q' : uLc β i (vL β) ≠ 0 := q
          rw [if_neg q, e_cutDown _ _ (by omega) (by omega) (by omega) (by omega)]
          rfl
      refine ⟨(w32 (i + 1 : Nat), sia hh (u + 6) i (w32 (uLi β γ a i))), ⟨rfl, p2.tr (Fr.sia _ _ _ _ rfl), fun k hk => ?_, fun k h1 h2 => ?_⟩, ?_⟩
      · show hia (sia hh _ _ _) _ _ = _
        by_cases q : k = i
        · subst q; exact ia_sia_eq _ _ _ _
        · rw [ia_sia_nk _ _ _ _ _ q]; exact p3 k (by omega)
      · show hia (sia hh _ _ _) _ _ = _
        rw [ia_sia_nk _ _ _ _ _ (by omega)]; exact p4 k (by omega) h2
      · show f_X9_fillLights_l69 u (k + 1) (w32 i) hh = f_X9_fillLights_l69 u k (w32 (i + 1 : Nat)) _
        rw [f_X9_fillLights_l69]
        simp (disch := omega) only [wl_12, w_le, w_ibN, gd_t, w_clN, e6, e7, w_l, vl_2, v_mul, ec, bnd_s, lt_b, wl_1, w_add, w_s]
        rw [if_neg (show ¬ ((12 : Int) ≤ (i : Int)) by omega)])
    (fun k s hP => by
      obtain ⟨v2, hh⟩ := s
      obtain ⟨p1, p2, p3, p4⟩ := hP
      dsimp only at p1 p2 p3 p4
      subst p1
      refine ⟨hh, ?_, p2, fun k hk => p3 k hk⟩
      show f_X9_fillLights_l69 u (k + 1) (w32 (12 : Nat)) hh = _
      rw [f_X9_fillLights_l69, if_pos (by decide)]) FU (by decide) (0, h) ⟨rfl, Fr.rf, fun k hk => by omega, fun k _ hk => (h6 k hk).1⟩
/-- a book's bounds and lights lie in the rows of u -/
def UF (h : AH) (u : Nat) (β : BV) (γ : GV) (a : LV) : Prop := (∀ l, l < vL β → UR h u β γ a l) ∧ ∀ k, k < 12 → hia h (u + 6) k = w32 (uLi β γ a k) ∧ hia h (u + 7) k = w32 (sLo β k)
theorem k_fill (hC : CK h B g r β γ a) (hA : adOK B g r) (hu : u = 33 ∨ u = 42) : ∃ h', f_X9_fill u B g r h = some h' ∧ Fr (WU u) h h' ∧ UF h' u β γ a := by
  obtain ⟨hB, hG, hL, oB, oG, oL⟩ := id hC
  obtain ⟨h1, e1, f1, u1⟩ := k_fillL hC hA hu
  obtain ⟨h2, e2, f2, z2, -⟩ := e_fill (u + 6) 12 0 h1 (by decide)
  obtain ⟨h3, e3, f3, z3, -⟩ := e_fill (u + 7) 12 0 h2 (by decide)
  have f2' : Fr (W67 u) h1 h2 := f2.mono (fun c q => Or.inl q)
  have f3' : Fr (W67 u) h2 h3 := f3.mono (fun c q => Or.inr q)
  have f13 := f2'.tr f3'
  have hb := hA.1
  have hB3 : BC h3 B β := (hC.wu hA hu (f1.tr (W67.wu f13))).1
  have u3 : ∀ l, l < vL β → UR h3 u β γ a l := fun l hl => W67.ur f13 (u1 l hl)
  obtain ⟨h4, e4, f4, z4⟩ := k_lights18 (γ := γ) (a := a) hB3 oB oG oL hb hu (fun l hl => (u3 l hl).2.2.2.2) (fun k hk => ⟨by rw [(f3 (u + 6) (by omega)).2.2.1]; exact z2 k hk, z3 k hk⟩)
  obtain ⟨h5, e5, f5, z5⟩ := k_lights69 oB oG oL hu z4
  have f5' : Fr (W67 u) h4 h5 := f5.mono (fun c q => Or.inl q)
  refine ⟨h5, ?_, ((f1.tr (W67.wu f13)).tr (W67.wu f4)).tr (W67.wu f5'), ⟨fun l hl => W67.ur f5' (W67.ur f4 (u3 l hl)), fun k hk => ⟨z5 k hk, ?_⟩⟩⟩
  · unfold f_X9_fill f_X9_fillLights
    rw [e1, bnd_s, e2, bnd_s, e3, bnd_s, e4, bnd_s, e5]
    rfl
  · rw [(f5 (u + 7) (by omega)).2.2.1]; exact (z4 k hk).2
theorem uLi_s (hk : kn β γ) (k : Nat) : uLi β γ a k = if sLo β k = 0 then 0 else sLi β γ a k := by
  unfold uLi sLi uLs
  rw [sm_congr (f := fun l => if vk β l = k then uM β γ a l else 0) (g := fun l => if vk β l = k then sMid β γ a l else 0) (fun i hi => by
    by_cases q : vk β i = k
    · rw [if_pos q, if_pos q]; exact (u_s (kn_l hk hi).1 (kn_l hk hi).2).2.2.2.2
    · rw [if_neg q, if_neg q])]
theorem hs_iff {k : Nat} (hk : k < 12) : hs β k ↔ 1 ≤ sLo β k := by
  constructor
  · exact sLo_pos
  · intro q
    rcases Classical.em (hs β k) with z | z
    · exact z
    · have := sLo_zero (β := β) (k := k) (fun l hl e => z ⟨hk, l, hl, e⟩)
      omega
/-! known or not -/
theorem k_readAll {n : Nat} (hG : GC h g n γ) (oG : okG n γ) (hn : n ≤ 40) : ((0 < n ∧ ∀ l, l < n → rd γ l) → f_X3_readAll g (w32 n) h = some true) ∧ (¬ (0 < n ∧ ∀ l, l < n → rd γ l) → f_X3_readAll g (w32 n) h = some false) := by
  have step : ∀ i k, i < n → rd γ i → f_X3_readAll_l2 g (w32 n) h (k + 1) (w32 i) = f_X3_readAll_l2 g (w32 n) h k (w32 (i + 1 : Nat)) := by
    intro i k hi hr
    rw [f_X3_readAll_l2]
    simp (disch := omega) only [w_le, k_wasRead hG oG hi hn, bnd_s, decide_eq_true_eq, wl_1, w_add, w_s]
    rw [if_neg (show ¬ ((n : Int) ≤ (i : Int)) by omega)]
    rw [if_pos (show γ.1 i ≠ -1 from hr)]
  rcases first_of (fun i => rd γ i) n with hall | ⟨j, hj, hnr, hbef⟩
  · have hl : f_X3_readAll_l2 g (w32 n) h FU (w32 (0 : Nat)) = some (.inl ()) := loopN (f_X3_readAll_l2 g (w32 n) h) (fun i => w32 (i : Nat)) n _ (fun i k hi => step i k hi (hall i hi)) (fun k => by
      rw [f_X3_readAll_l2, if_pos (Int32.le_refl _)]) FU (by unfold FU; omega)
    have e : f_X3_readAll g (w32 n) h = some (decide (0 < n)) := by
      unfold f_X3_readAll
      rw [show (0 : Int32) = w32 (0 : Nat) from rfl, hl, bnd_s]
      simp (disch := omega) only [Sum.elim, w_le]
      split
      · rw [decide_eq_false (by omega)]
      · rw [decide_eq_true (by omega)]
    constructor
    · intro hk; rw [e, decide_eq_true hk.1]
    · intro hk; rw [e, decide_eq_false (fun z => hk ⟨z, hall⟩)]
  · constructor
    · intro hk; exact absurd (hk.2 j hj) hnr
    · intro hk
      have hl : f_X3_readAll_l2 g (w32 n) h FU (w32 (0 : Nat)) = some (.inr false) := loopN (f_X3_readAll_l2 g (w32 n) h) (fun i => w32 (i : Nat)) j _ (fun i k hi => step i k (by omega) (hbef i hi)) (fun k => by
        rw [f_X3_readAll_l2]
        simp (disch := omega) only [w_le, k_wasRead hG oG hj hn, bnd_s, decide_eq_true_eq]
        rw [if_neg (show ¬ ((n : Int) ≤ (j : Int)) by omega)]
        rw [if_neg (show ¬ γ.1 j ≠ -1 from hnr)]) FU (by unfold FU; omega)
      unfold f_X3_readAll
      rw [show (0 : Int32) = w32 (0 : Nat) from rfl, hl, bnd_s]
      rfl
theorem k_known (hB : BC h B β) (hG : GC h (B + 7) (vL β) γ) (oB : okB β) (oG : okG (vL β) γ) : (kn β γ → f_X0_isKnown B h = some true) ∧ (¬ kn β γ → f_X0_isKnown B h = some false) := by
  have q := k_readAll hG oG oB.1
  have e : f_X0_isKnown B h = f_X3_readAll (B + 7) (w32 (vL β)) h := by
    unfold f_X0_isKnown
    rw [hB.1]
    cases f_X3_readAll (B + 7) (w32 (vL β)) h <;> rfl
  rw [e]
  exact q
end FIL4
