section ASK2
variable {h : AH} {S : SV} {T : Nat}
theorem ne_w {z c : Int} (h1 : -2147483648 ≤ z) (h2 : z ≤ 2147483647) (h3 : -2147483648 ≤ c) (h4 : c ≤ 2147483647) (h : z ≠ c) : ¬ w32 z = w32 c := by rw [w_eq _ _ h1 h2 h3 h4]; exact h
theorem RC_some {e : Option (XR Int32)} {v : Int} {h1 : AH} (hF : Fr WS h h1) (he : e = some (.inl (w32 v, h1))) : RC e h (some v) := ⟨h1, hF, he⟩
theorem RC_none {e : Option (XR Int32)} {h1 : AH} (hF : Fr WS h h1) (he : e = some (.inr (0, h1))) : RC e h none := ⟨h1, hF, he⟩
theorem q_count (x : Int32) (hI : CI h S) (oS : okS S) : ∃ s, RC (f_X11_count x h) h s ∧ ∀ h', MI2 h' S T → RM (f_X12_count x h') h' s := by
  obtain ⟨z, rfl, r1, r2⟩ := w_ex x
  have sL := isLw_sh hI.1.2.2.2.2.1
  have hL := hI.2.2.1
  have hst := hI.2.2.2.2.2.2.2.2.1
  have hn := hI.2.2.2.2.1
  have htr := hI.2.2.2.2.2.2.2.2.2.2.1
  rcases (show z = 0 ∨ z = 1 ∨ z = 2 ∨ z = 3 ∨ z = 4 ∨ (5 ≤ z ∧ z ≤ 8) ∨ ¬ (0 ≤ z ∧ z ≤ 8) by omega) with rfl | rfl | rfl | rfl | rfl | q | q
  · refine ⟨some (ld (xa S)), RC_some Fr.rf ?_, fun h' hM => ?_⟩
    · unfold f_X11_count
      rw [if_pos (by decide), gd_t sL, hL.1]
    · obtain ⟨c1, c2⟩ := code0 h'
      refine RM_some c1 ?_ c2
      unfold f_X12_count
      rw [lt_b, if_pos (by decide), gd_t (by decide), show cl (w32 0) = 0 from by decide, (hM.fr c1.m).2.1.1]
  · refine ⟨some (lg (xa S)), RC_some Fr.rf ?_, fun h' hM => ?_⟩
    · unfold f_X11_count
      rw [if_neg (by decide), if_pos (by decide), gd_t sL, hL.2.1]
    · obtain ⟨c1, c2⟩ := code0 h'
      refine RM_some c1 ?_ c2
      unfold f_X12_count
      rw [lt_b, if_pos (by decide), gd_t (by decide), show cl (w32 1) = 1 from by decide, (hM.fr c1.m).2.1.2.1]
  · refine ⟨some (ls (xa S)), RC_some Fr.rf ?_, fun h' hM => ?_⟩
    · unfold f_X11_count
      rw [if_neg (by decide), if_neg (by decide), if_pos (by decide), gd_t sL, hL.2.2]
    · obtain ⟨c1, c2⟩ := code0 h'
      refine RM_some c1 ?_ c2
      unfold f_X12_count
      rw [lt_b, if_pos (by decide), gd_t (by decide), show cl (w32 2) = 2 from by decide, (hM.fr c1.m).2.1.2.2]
  · refine ⟨some (xn S), RC_some Fr.rf ?_, fun h' hM => ?_⟩
    · unfold f_X11_count
      rw [if_neg (by decide), if_neg (by decide), if_neg (by decide), if_pos (by decide), hn]
    · obtain ⟨c1, c2⟩ := code0 h'
      refine RM_some c1 ?_ c2
      unfold f_X12_count
      rw [lt_b, if_neg (by decide), if_neg (by decide), if_pos (by decide), (hM.fr c1.m).2.2.2.1]
  · refine ⟨some (xm S), RC_some Fr.rf ?_, fun h' hM => ?_⟩
    · unfold f_X11_count
      rw [if_neg (by decide), if_neg (by decide), if_neg (by decide), if_neg (by decide), if_pos (by decide), htr]
    · obtain ⟨c1, c2⟩ := code0 h'
      refine RM_some c1 ?_ c2
      unfold f_X12_count
      rw [lt_b, if_neg (by decide), if_neg (by decide), if_neg (by decide), if_pos (by decide), (hM.fr c1.m).2.2.2.2.2.2.2.1]
  · obtain ⟨k, e, hk⟩ := nat_of (z := z - 5) (n := 3) (by omega)
    have em : w32 z - 5 = w32 (k : Nat) := by rw [wl_5, w_sub]; exact ww (by omega)
    refine ⟨some (xs4 S k).toInt, RC_some Fr.rf ?_, fun h' hM => ?_⟩
    · unfold f_X11_count f_X11_statusAt
      rw [wl_0, wl_1, wl_2, wl_3, wl_4, if_neg (ne_w r1 r2 (by omega) (by omega) (by omega)), if_neg (ne_w r1 r2 (by omega) (by omega) (by omega)), if_neg (ne_w r1 r2 (by omega) (by omega) (by omega)), if_neg (ne_w r1 r2 (by omega) (by omega) (by omega)), if_neg (ne_w r1 r2 (by omega) (by omega) (by omega)), em, if_neg (by rw [w_lt _ _ (by omega) (by omega) (by omega) (by omega)]; omega), if_pos (by rw [w_lt _ _ (by omega) (by omega) (by omega) (by omega)]; omega), gd_t (by rw [w_ibN _ _ (by omega)]; omega), w_clN _ (by omega), hst k (by omega), bnd_s, ← w_of]
      rfl
    · obtain ⟨c1, c2⟩ := code0 h'
      refine RM_some c1 ?_ c2
      unfold f_X12_count
      rw [lt_b, wl_0, wl_2, e_isIn _ _ _ r1 r2 (by omega) (by omega) (by omega) (by omega), if_neg (by rw [decide_eq_true_eq]; omega)]
      rw [show f_X12_isIn (w32 z) 5 8 = true from by rw [wl_5, wl_8, e_isIn _ _ _ r1 r2 (by omega) (by omega) (by omega) (by omega), decide_eq_true (by omega)], if_pos rfl, em, gd_t (by rw [w_ibN _ _ (by omega)]; omega), w_clN _ (by omega), ← w_of]
      rw [show hia (sfi h' 193 2 (w32 0)) 218 k = xs4 S k from (hM.fr c1.m).2.2.2.2.2.2.1 k (by omega)]
  · refine ⟨none, RC_none Fr.rf ?_, fun h' hM => ?_⟩
    · unfold f_X11_count f_X11_statusAt
      rw [wl_0, wl_1, wl_2, wl_3, wl_4, if_neg (ne_w r1 r2 (by omega) (by omega) (by omega)), if_neg (ne_w r1 r2 (by omega) (by omega) (by omega)), if_neg (ne_w r1 r2 (by omega) (by omega) (by omega)), if_neg (ne_w r1 r2 (by omega) (by omega) (by omega)), if_neg (ne_w r1 r2 (by omega) (by omega) (by omega)), wl_5, w_sub]
      by_cases q2 : z < -2147483643
      · have em : w32 (z - 5) = w32 (z - 5 + 4294967296) := by
          apply Int32.toInt_inj.mp
          show (Int32.ofInt _).toInt = (Int32.ofInt _).toInt
          rw [Int32.toInt_ofInt, Int32.toInt_ofInt]
          exact (Int.add_bmod_right _ _).symm
        rw [em, if_neg (by rw [w_lt _ _ (by omega) (by omega) (by omega) (by omega)]; omega), if_neg (by rw [w_lt _ _ (by omega) (by omega) (by omega) (by omega)]; omega), bnd_s]
        rfl
      · by_cases q3 : z - 5 < 0
        · rw [if_pos (by rw [w_lt _ _ (by omega) (by omega) (by omega) (by omega)]; omega), bnd_s]
          rfl
        · rw [if_neg (by rw [w_lt _ _ (by omega) (by omega) (by omega) (by omega)]; omega), if_neg (by rw [w_lt _ _ (by omega) (by omega) (by omega) (by omega)]; omega), bnd_s]
          rfl
    · obtain ⟨c1, c2⟩ := code0 h'
      refine RM_fail c1 ?_
      unfold f_X12_count
      rw [lt_b, show f_X12_isIn (w32 z) 0 2 = false from by rw [wl_0, wl_2, e_isIn _ _ _ r1 r2 (by omega) (by omega) (by omega) (by omega), decide_eq_false (by omega)], show f_X12_isIn (w32 z) 5 8 = false from by rw [wl_5, wl_8, e_isIn _ _ _ r1 r2 (by omega) (by omega) (by omega) (by omega), decide_eq_false (by omega)], if_neg (by decide), if_neg (by decide), wl_3, wl_4, if_neg (ne_w r1 r2 (by omega) (by omega) (by omega)), if_neg (ne_w r1 r2 (by omega) (by omega) (by omega)), m_fail, bnd_s]
theorem q_about (x y : Int32) (hI : CI h S) (oS : okS S) : ∃ s, RC (f_X11_about x y h) h s ∧ ∀ h', MI2 h' S T → RM (f_X12_about x y h') h' s := by
  obtain ⟨z, rfl, r1, r2⟩ := w_ex x
  by_cases q : 0 ≤ z ∧ z ≤ 5
  · obtain ⟨b, rfl, hb⟩ := nat_of (n := 5) q
    have hb : b < 6 := by omega
    obtain ⟨hC, hA⟩ := hI.ck oS hb
    have sB := isB_sh (hI.1.1 b hb).1
    have kk := k_known hC.1 hC.2.1 hC.2.2.2.1 hC.2.2.2.2.1
    have hkd := (hI.2.1 b hb).2.2.2
    have o := hC.2.2.2.1
    have lib : ib (w32 (b : Int)) 8 = true := by rw [w_ibN _ _ (by omega)]; omega
    have lcl : cl (w32 (b : Int)) = b := w_clN b (by omega)
    have cls : f_X11_about (w32 b) y h = (if y = 0 then some (.inl (hfi h (hra h 3 b) 0, h)) else (if y = 1 then some (.inl (hfi h (hra h 3 b) 1, h)) else (if y = 2 then some (.inl (hfi h (hra h 3 b) 5, h)) else (if y = 3 then some (.inl (hfi h (hra h 3 b) 3, h)) else (if y = 4 then bnd (f_X0_isKnown (hra h 3 b) h) (fun q8 => if q8 = true then some (.inl (1, h)) else some (.inl (0, h))) else (if y = 5 then some (.inl (hfi h (hra h 3 b) 4, h)) else (if y = 6 then some (.inl (hfi h (hra h 3 b) 2, h)) else (some (.inr (0, h)))))))))) := by
      unfold f_X11_about
      rw [c_bookIn hI.1 hb, bnd_s]
      simp only [Sum.elim_inl]
      rw [gd_t sB]
    have mod : ∀ h', f_X12_about (w32 b) y h' = lt (sfi h' 193 2 0) (fun h1 => if y = 0 then some (hia h1 196 b, h1) else (if y = 1 then some (hia h1 197 b, h1) else (if y = 2 then some (hia h1 200 b, h1) else (if y = 3 then some (hia h1 198 b, h1) else (if y = 4 then bnd (f_X12_isKnown (w32 b) h1) (fun q12 => if q12 = true then some (1, h1) else some (0, h1)) else (if y = 5 then some (hia h1 199 b, h1) else (if y = 6 then bnd (f_X12_kindsOf (w32 b) h1) (fun q17 => some (q17, h1)) else (bnd (f_X12_fail 1 h1) (fun q18 => some (q18.1, q18.2)))))))))) := by
      intro h'
      unfold f_X12_about
      simp only [m_isBookN hb, if_true, gd_t lib, lcl]
    have key : ∀ (s : Option Int), RC (f_X11_about (w32 b) y h) h s → (∀ h', MI2 h' S T → RM (f_X12_about (w32 b) y h') h' s) → ∃ s, RC (f_X11_about (w32 b) y h) h s ∧ ∀ h', MI2 h' S T → RM (f_X12_about (w32 b) y h') h' s := fun s a b => ⟨s, a, b⟩
    by_cases y0 : y = 0
    · refine key (some (vL (xb S b))) (RC_some Fr.rf ?_) (fun h' hM => ?_)
      · rw [cls, if_pos y0, hC.1.1]
      · obtain ⟨c1, c2⟩ := code0 h'
        exact RM_some c1 (by rw [mod, lt_b, if_pos y0, ((hM.fr c1.m).1 b hb).1.1]) c2
    by_cases y1 : y = 1
    · refine key (some (vT (xb S b))) (RC_some Fr.rf ?_) (fun h' hM => ?_)
      · rw [cls, if_neg y0, if_pos y1, hC.1.2.1]
      · obtain ⟨c1, c2⟩ := code0 h'
        exact RM_some c1 (by rw [mod, lt_b, if_neg y0, if_pos y1, ((hM.fr c1.m).1 b hb).1.2.1]) c2
    by_cases y2 : y = 2
    · refine key (some (vR (xb S b))) (RC_some Fr.rf ?_) (fun h' hM => ?_)
      · rw [cls, if_neg y0, if_neg y1, if_pos y2, hC.1.2.2.2.2.1]
      · obtain ⟨c1, c2⟩ := code0 h'
        exact RM_some c1 (by rw [mod, lt_b, if_neg y0, if_neg y1, if_pos y2, ((hM.fr c1.m).1 b hb).1.2.2.2.2.1]) c2
    by_cases y3 : y = 3
    · refine key (some (vH (xb S b))) (RC_some Fr.rf ?_) (fun h' hM => ?_)
      · rw [cls, if_neg y0, if_neg y1, if_neg y2, if_pos y3, hC.1.2.2.1]
      · obtain ⟨c1, c2⟩ := code0 h'
        exact RM_some c1 (by rw [mod, lt_b, if_neg y0, if_neg y1, if_neg y2, if_pos y3, ((hM.fr c1.m).1 b hb).1.2.2.1]) c2
    by_cases y4 : y = 4
    · rcases Classical.em (kn (xb S b) (xg S b)) with hk | hk
      · refine key (some 1) (RC_some Fr.rf ?_) (fun h' hM => ?_)
        · rw [cls, if_neg y0, if_neg y1, if_neg y2, if_neg y3, if_pos y4, kk.1 hk]; rfl
        · obtain ⟨c1, c2⟩ := code0 h'
          exact RM_some c1 (by rw [mod, lt_b, if_neg y0, if_neg y1, if_neg y2, if_neg y3, if_pos y4, (m_known ((hM.fr c1.m).mk oS hb)).1 hk]; rfl) c2
      · refine key (some 0) (RC_some Fr.rf ?_) (fun h' hM => ?_)
        · rw [cls, if_neg y0, if_neg y1, if_neg y2, if_neg y3, if_pos y4, kk.2 hk]; rfl
        · obtain ⟨c1, c2⟩ := code0 h'
          exact RM_some c1 (by rw [mod, lt_b, if_neg y0, if_neg y1, if_neg y2, if_neg y3, if_pos y4, (m_known ((hM.fr c1.m).mk oS hb)).2 hk]; rfl) c2
    by_cases y5 : y = 5
    · refine key (some (vW (xb S b))) (RC_some Fr.rf ?_) (fun h' hM => ?_)
      · rw [cls, if_neg y0, if_neg y1, if_neg y2, if_neg y3, if_neg y4, if_pos y5, hC.1.2.2.2.1]
      · obtain ⟨c1, c2⟩ := code0 h'
        exact RM_some c1 (by rw [mod, lt_b, if_neg y0, if_neg y1, if_neg y2, if_neg y3, if_neg y4, if_pos y5, ((hM.fr c1.m).1 b hb).1.2.2.2.1]) c2
    by_cases y6 : y = 6
    · refine key (some (orF (vk (xb S b)) (vL (xb S b))).toInt) (RC_some Fr.rf ?_) (fun h' hM => ?_)
      · rw [cls, if_neg y0, if_neg y1, if_neg y2, if_neg y3, if_neg y4, if_neg y5, if_pos y6, hkd, ← w_of]
      · obtain ⟨c1, c2⟩ := code0 h'
        exact RM_some c1 (by rw [mod, lt_b, if_neg y0, if_neg y1, if_neg y2, if_neg y3, if_neg y4, if_neg y5, if_pos y6, m_kinds ((hM.fr c1.m).mk oS hb), bnd_s, ← w_of]) c2
    refine key none (RC_none Fr.rf ?_) (fun h' hM => ?_)
    · rw [cls, if_neg y0, if_neg y1, if_neg y2, if_neg y3, if_neg y4, if_neg y5, if_neg y6]
    · obtain ⟨c1, c2⟩ := code0 h'
      exact RM_fail c1 (by rw [mod, lt_b, if_neg y0, if_neg y1, if_neg y2, if_neg y3, if_neg y4, if_neg y5, if_neg y6, m_fail, bnd_s])
  · refine ⟨none, RC_none Fr.rf ?_, fun h' hM => ?_⟩
    · unfold f_X11_about
      rw [c_bookOut r1 r2 q, bnd_s]
      rfl
    · obtain ⟨c1, c2⟩ := code0 h'
      refine RM_fail c1 ?_
      unfold f_X12_about
      rw [lt_b, m_isBook r1 r2, decide_eq_false q, if_neg (by decide), m_fail, bnd_s]
end ASK2
