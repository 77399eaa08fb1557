section ASK
variable {h : AH} {S : SV} {T : Nat}
theorem CI.ck (hI : CI h S) (oS : okS S) {b : Nat} (hb : b < 6) : CK h (hra h 3 b) (hra h 3 b + 7) (hra h 0 3) (xb S b) (xg S b) (xa S) ∧ adOK (hra h 3 b) (hra h 3 b + 7) (hra h 0 3) := by
  obtain ⟨c1, c2, -, -⟩ := hI.2.1 b hb
  have o := oS.1 b hb
  have a1 := (hI.1.1 b hb).1
  have a2 := hI.1.2.2.2.2.1
  exact ⟨⟨c1, c2, hI.2.2.1, o.1, o.2.1, oS.2.1⟩, by unfold isB at a1; unfold isLw at a2; unfold adOK; omega⟩
theorem MI2.mk (hI : MI2 h S T) (oS : okS S) {b : Nat} (hb : b < 6) : MK h b (xb S b) (xg S b) (xa S) := by
  obtain ⟨c1, c2⟩ := hI.1 b hb
  have o := oS.1 b hb
  exact ⟨c1, c2, hI.2.1, o.1, o.2.1, oS.2.1, by omega⟩
theorem c_bookIn (hA : AD h) {b : Nat} (hb : b < 6) : f_X11_bookAt (w32 b) h = some (.inl (hra h 3 b, h)) := by
  unfold f_X11_bookAt
  simp (disch := omega) only [wl_0, wl_6, w_lt, w_ibN, gd_t, w_clN]
  rw [if_neg (by omega), if_pos (by omega), gd_t (isB_sh (hA.1 b hb).1)]
theorem c_bookOut {z : Int} (h1 : -2147483648 ≤ z) (h2 : z ≤ 2147483647) (hz : ¬ (0 ≤ z ∧ z ≤ 5)) : f_X11_bookAt (w32 z) h = some (.inr (0, h)) := by
  unfold f_X11_bookAt
  by_cases q : z < 0
  · rw [if_pos (by rw [wl_0, w_lt _ _ (by omega) (by omega) (by omega) (by omega)]; exact q)]
  · rw [if_neg (by rw [wl_0, w_lt _ _ (by omega) (by omega) (by omega) (by omega)]; exact q), if_neg (by rw [wl_6, w_lt _ _ (by omega) (by omega) (by omega) (by omega)]; omega)]
theorem m_isBook {z : Int} (h1 : -2147483648 ≤ z) (h2 : z ≤ 2147483647) : f_X12_isBook (w32 z) = decide (0 ≤ z ∧ z ≤ 5) := by
  unfold f_X12_isBook
  rw [wl_0, wl_5, e_isIn _ _ _ h1 h2 (by omega) (by omega) (by omega) (by omega)]
theorem m_isBookN {b : Nat} (hb : b < 6) : f_X12_isBook (w32 b) = true := by rw [m_isBook (by omega) (by omega), decide_eq_true (by omega)]
theorem c_wayIn (hA : AD h) {b : Nat} (hb : b < 6) : f_X11_wayAt (w32 b) h = some (.inl (hra h 4 b, h)) := by
  unfold f_X11_wayAt
  simp (disch := omega) only [wl_0, wl_6, w_lt, w_ibN, gd_t, w_clN]
  rw [if_neg (by omega), if_pos (by omega), gd_t (isWy_sh (hA.2.2.1 b hb).1)]
theorem c_wayOut {z : Int} (h1 : -2147483648 ≤ z) (h2 : z ≤ 2147483647) (hz : ¬ (0 ≤ z ∧ z ≤ 5)) : f_X11_wayAt (w32 z) h = some (.inr (0, h)) := by
  unfold f_X11_wayAt
  by_cases q : z < 0
  · rw [if_pos (by rw [wl_0, w_lt _ _ (by omega) (by omega) (by omega) (by omega)]; exact q)]
  · rw [if_neg (by rw [wl_0, w_lt _ _ (by omega) (by omega) (by omega) (by omega)]; exact q), if_neg (by rw [wl_6, w_lt _ _ (by omega) (by omega) (by omega) (by omega)]; omega)]
theorem m_fail (v : Int32) (h : AH) : f_X12_fail v h = some (0, sfi h 193 2 v) := rfl
/-- the reference says no -/
theorem RM_fail {h h0 : AH} {e : Option (Int32 × AH)} (hF : FrQ h0 h) (he : e = some (0, sfi h 193 2 1)) : RM e h0 none := ⟨_, hF.tr (FrQ.code _ 2 _ (by omega)), 0, he, fi_sfi_eq _ _ _ _⟩
theorem RM_some {h h0 : AH} {e : Option (Int32 × AH)} {v : Int} (hF : FrQ h0 h) (he : e = some (w32 v, h)) (hc : hfi h 193 2 = 0) : RM e h0 (some v) := ⟨_, hF, he, hc⟩
theorem code0 (h : AH) : FrQ h (sfi h 193 2 0) ∧ hfi (sfi h 193 2 0) 193 2 = 0 := ⟨FrQ.code _ 2 _ (by omega), fi_sfi_eq _ _ _ _⟩
theorem nat_of {z : Int} {n : Nat} (h : 0 ≤ z ∧ z ≤ n) : ∃ b : Nat, z = b ∧ b ≤ n := ⟨z.toNat, by omega, by omega⟩
/-! light -/
theorem WU_ws {u : Nat} (hu : u = 33 ∨ u = 42) {h h' : AH} (hF : Fr (WU u) h h') : Fr WS h h' := hF.mono (fun c q => by unfold WU at q; unfold WS; omega)
theorem c_known (hI : CI h S) (oS : okS S) {b u : Nat} (hb : b < 6) (hu : u = 33 ∨ u = 42) : (kn (xb S b) (xg S b) → ∃ h1, f_X11_knownAt (w32 b) u h = some (.inl (hra h 3 b, h1)) ∧ Fr (WU u) h h1 ∧ UF h1 u (xb S b) (xg S b) (xa S)) ∧ (¬ kn (xb S b) (xg S b) → f_X11_knownAt (w32 b) u h = some (.inr (0, h))) := by
  obtain ⟨hC, hA⟩ := hI.ck oS hb
  have kk := k_known hC.1 hC.2.1 hC.2.2.2.1 hC.2.2.2.2.1
  have sB := isB_sh (hI.1.1 b hb).1
  have sL := isLw_sh hI.1.2.2.2.2.1
  constructor
  · intro hk
    obtain ⟨h1, e1, f1, u1⟩ := k_fill hC hA hu
    refine ⟨h1, ?_, f1, u1⟩
    unfold f_X11_knownAt
    rw [c_bookIn hI.1 hb, bnd_s]
    simp only [Sum.elim_inl]
    rw [gd_t sB, kk.1 hk, bnd_s, if_pos rfl, gd_t sL, e1, bnd_s]
  · intro hk
    unfold f_X11_knownAt
    rw [c_bookIn hI.1 hb, bnd_s]
    simp only [Sum.elim_inl]
    rw [gd_t sB, kk.2 hk, bnd_s, if_neg (by decide)]
theorem c_knownOut {z : Int} {u : Nat} (h1 : -2147483648 ≤ z) (h2 : z ≤ 2147483647) (hz : ¬ (0 ≤ z ∧ z ≤ 5)) : f_X11_knownAt (w32 z) u h = some (.inr (0, h)) := by
  unfold f_X11_knownAt
  rw [c_bookOut h1 h2 hz, bnd_s]
  rfl
theorem m_asked (hI : MI2 h S T) (oS : okS S) {b : Nat} (hb : b < 6) : (kn (xb S b) (xg S b) → f_X12_isAsked (w32 b) h = some true) ∧ (¬ kn (xb S b) (xg S b) → f_X12_isAsked (w32 b) h = some false) := by
  have kk := m_known (hI.mk oS hb)
  unfold f_X12_isAsked
  rw [m_isBookN hb, if_pos rfl]
  exact ⟨fun q => by rw [kk.1 q]; rfl, fun q => by rw [kk.2 q]; rfl⟩
theorem m_askedOut {z : Int} (h1 : -2147483648 ≤ z) (h2 : z ≤ 2147483647) (hz : ¬ (0 ≤ z ∧ z ≤ 5)) : f_X12_isAsked (w32 z) h = some false := by
  unfold f_X12_isAsked
  rw [m_isBook h1 h2, decide_eq_false hz, if_neg (by decide)]
/-- the class's checkHeld over a filled row -/
theorem c_held {β : BV} {γ : GV} {a : LV} {u : Nat} (hU : UF h u β γ a) (oB : okB β) {k : Nat} (hk : k < 12) : (hs β k → f_X11_checkHeld u (w32 k) h = some (.inl ((), h))) ∧ (¬ hs β k → f_X11_checkHeld u (w32 k) h = some (.inr (0, h))) := by
  have e := (hU.2 k hk).2
  have r := sLo_rg oB k
  have i := hs_iff (β := β) hk
  unfold f_X11_checkHeld
  simp (disch := omega) only [wl_0, wl_12, wl_1, w_lt, w_le, w_ibN, gd_t, w_clN, e]
  rw [if_neg (by omega), if_neg (by omega)]
  exact ⟨fun q => by rw [if_pos (i.mp q)], fun q => by rw [if_neg (fun z => q (i.mpr z))]⟩
theorem c_heldOut {u : Nat} {z : Int} (h1 : -2147483648 ≤ z) (h2 : z ≤ 2147483647) (hz : ¬ (0 ≤ z ∧ z ≤ 11)) : f_X11_checkHeld u (w32 z) h = some (.inr (0, h)) := by
  unfold f_X11_checkHeld
  by_cases q : z < 0
  · rw [if_pos (by rw [wl_0, w_lt _ _ (by omega) (by omega) (by omega) (by omega)]; exact q)]
  · rw [if_neg (by rw [wl_0, w_lt _ _ (by omega) (by omega) (by omega) (by omega)]; exact q), if_pos (by rw [wl_12, w_le _ _ (by omega) (by omega) (by omega) (by omega)]; omega)]
theorem m_hasOut {z : Int} {b : Nat} (h1 : -2147483648 ≤ z) (h2 : z ≤ 2147483647) (hz : ¬ (0 ≤ z ∧ z ≤ 11)) : f_X12_has (w32 b) (w32 z) h = some false := by
  unfold f_X12_has
  rw [wl_0, wl_11, e_isIn _ _ _ h1 h2 (by omega) (by omega) (by omega) (by omega), decide_eq_false hz, if_neg (by decide)]
theorem q_light (x y : Int32) (hI : CI h S) (oS : okS S) : ∃ s, RC (f_X11_light x y h) h s ∧ ∀ h', MI2 h' S T → RM (f_X12_light x y h') h' s := by
  obtain ⟨z, rfl, r1, r2⟩ := w_ex x
  by_cases q : 0 ≤ z ∧ z ≤ 5
  · obtain ⟨b, rfl, hb⟩ := nat_of (n := 5) q
    have hb : b < 6 := by omega
    obtain ⟨k1, k2⟩ := c_known hI oS hb (u := 33) (Or.inl rfl)
    have sB := isB_sh (hI.1.1 b hb).1
    rcases Classical.em (kn (xb S b) (xg S b)) with hk | hk
    · obtain ⟨h1, e1, f1, u1⟩ := k1 hk
      obtain ⟨y, rfl, r3, r4⟩ := w_ex y
      by_cases qy : 0 ≤ y ∧ y ≤ 11
      · obtain ⟨k, rfl, hk12⟩ := nat_of (n := 11) qy
        have hk12 : k < 12 := by omega
        rcases Classical.em (hs (xb S b) k) with hh | hh
        · refine ⟨some (sLi (xb S b) (xg S b) (xa S) k), ⟨h1, WU_ws (Or.inl rfl) f1, ?_⟩, fun h' hM => ?_⟩
          · show f_X11_light _ _ h = _
            unfold f_X11_light
            rw [e1, bnd_s]
            simp only [Sum.elim_inl]
            rw [gd_t sB, (c_held u1 (oS.1 b hb).1 hk12).1 hh, bnd_s]
            simp only [Sum.elim_inl]
            rw [gd_t (by rw [w_ibN _ _ (by omega)]; exact hk12), w_clN _ (by omega), (u1.2 k hk12).1, uLi_s hk, if_neg (by have := sLo_pos hh; omega)]
          · obtain ⟨c1, c2⟩ := code0 h'
            have hM1 := hM.fr c1.m
            refine RM_some c1 ?_ c2
            unfold f_X12_light
            rw [lt_b, (m_asked hM1 oS hb).1 hk, bnd_s, if_pos rfl, (m_has_k (hM1.mk oS hb) hk12).1 hh, bnd_s, if_pos rfl, m_lightOf (hM1.mk oS hb) hk hh, bnd_s]
        · refine ⟨none, ⟨h1, WU_ws (Or.inl rfl) f1, ?_⟩, fun h' hM => ?_⟩
          · show f_X11_light _ _ h = _
            unfold f_X11_light
            rw [e1, bnd_s]
            simp only [Sum.elim_inl]
            rw [gd_t sB, (c_held u1 (oS.1 b hb).1 hk12).2 hh, bnd_s]
            rfl
          · obtain ⟨c1, c2⟩ := code0 h'
            have hM1 := hM.fr c1.m
            refine RM_fail c1 ?_
            unfold f_X12_light
            rw [lt_b, (m_asked hM1 oS hb).1 hk, bnd_s, if_pos rfl, (m_has_k (hM1.mk oS hb) hk12).2 hh, bnd_s, if_neg (by decide), m_fail, bnd_s]
      · refine ⟨none, ⟨h1, WU_ws (Or.inl rfl) f1, ?_⟩, fun h' hM => ?_⟩
        · show f_X11_light _ _ h = _
          unfold f_X11_light
          rw [e1, bnd_s]
          simp only [Sum.elim_inl]
          rw [gd_t sB, c_heldOut r3 r4 qy, bnd_s]
          rfl
        · obtain ⟨c1, c2⟩ := code0 h'
          have hM1 := hM.fr c1.m
          refine RM_fail c1 ?_
          unfold f_X12_light
          rw [lt_b, (m_asked hM1 oS hb).1 hk, bnd_s, if_pos rfl, m_hasOut r3 r4 qy, bnd_s, if_neg (by decide), m_fail, bnd_s]
    · refine ⟨none, ⟨h, Fr.rf, ?_⟩, fun h' hM => ?_⟩
      · show f_X11_light _ _ h = _
        unfold f_X11_light
        rw [k2 hk, bnd_s]
        rfl
      · obtain ⟨c1, c2⟩ := code0 h'
        have hM1 := hM.fr c1.m
        refine RM_fail c1 ?_
        unfold f_X12_light
        rw [lt_b, (m_asked hM1 oS hb).2 hk, bnd_s, if_neg (by decide), m_fail, bnd_s]
  · refine ⟨none, ⟨h, Fr.rf, ?_⟩, fun h' hM => ?_⟩
    · show f_X11_light _ _ h = _
      unfold f_X11_light
      rw [c_knownOut r1 r2 q, bnd_s]
      rfl
    · obtain ⟨c1, c2⟩ := code0 h'
      refine RM_fail c1 ?_
      unfold f_X12_light
      rw [lt_b, m_askedOut r1 r2 q, bnd_s, if_neg (by decide), m_fail, bnd_s]
end ASK
