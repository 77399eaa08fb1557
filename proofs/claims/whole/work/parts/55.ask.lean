/-! calls that ask of a known book, of a leaf: the frame of both sides -/
section G5
variable {h : AH} {S : SV} {T : Nat}
theorem RM.code {h' : AH} {e : Option (Int32 × AH)} {s : Option Int} (hr : RM e (sfi h' 193 2 0) s) : RM e h' s := by
  obtain ⟨h1, f, m⟩ := hr
  exact ⟨h1, (code0 h').1.tr f, m⟩
theorem RC.tr {h1 : AH} {e : Option (XR Int32)} {s : Option Int} (hF : Fr WS h h1) (hr : RC e h1 s) : RC e h s := by
  obtain ⟨h2, f, m⟩ := hr
  exact ⟨h2, hF.tr f, m⟩
theorem q_asked (x : Int32) (hI : CI h S) (oS : okS S) (K : Nat × AH → Option (XR Int32)) (K' : AH → Option (Int32 × AH))
    (hk : ∀ b : Nat, b < 6 → x = w32 b → kn (xb S b) (xg S b) → ∀ h1, Fr (WU 33) h h1 → CI h1 S → UF h1 33 (xb S b) (xg S b) (xa S) → ∃ s, RC (K (hra h1 3 b, h1)) h1 s ∧ ∀ h', MI2 h' S T → hfi h' 193 2 = 0 → RM (K' h') h' s) :
    ∃ s, RC (bnd (f_X11_knownAt x 33 h) (fun q1 => Sum.elim (fun xq1 => gd (SH xq1.1 = (0, 0)) (K xq1)) (fun xq1 => some (.inr xq1)) q1)) h s ∧ ∀ h', MI2 h' S T → RM (lt (sfi h' 193 2 0) (fun h1 => bnd (f_X12_isAsked x h1) (fun q2 => if q2 = true then K' h1 else bnd (f_X12_fail 1 h1) (fun q3 => some (q3.1, q3.2))))) h' s := by
  obtain ⟨z, rfl, r1, r2⟩ := w_ex x
  by_cases q : 0 ≤ z ∧ z ≤ 5
  · obtain ⟨b, rfl, hb⟩ := nat_of (n := 5) q
    have hb : b < 6 := by omega
    obtain ⟨k1, k2⟩ := c_known hI oS hb (u := 33) (Or.inl rfl)
    have sB := isB_sh (hI.1.1 b hb).1
    rcases Classical.em (kn (xb S b) (xg S b)) with hk' | hk'
    · obtain ⟨h1, e1, f1, u1⟩ := k1 hk'
      have fw := WU_ws (Or.inl rfl) f1
      have hr : hra h1 3 = hra h 3 := (fw 3 (by unfold WS; omega)).2.2.2.2
      obtain ⟨s, a1, a2⟩ := hk b hb rfl hk' h1 f1 (hI.fr fw) u1
      rw [hr] at a1
      refine ⟨s, RC.tr fw ?_, fun h' hM => RM.code ?_⟩
      · rw [e1, bnd_s]
        simp only [Sum.elim_inl]
        rw [gd_t sB]
        exact a1
      · have hM1 := hM.fr (code0 h').1.m
        rw [lt_b, (m_asked hM1 oS hb).1 hk', bnd_s, if_pos rfl]
        exact a2 _ hM1 (code0 h').2
    · refine ⟨none, RC_none Fr.rf ?_, fun h' hM => RM_fail (code0 h').1 ?_⟩
      · rw [k2 hk', bnd_s]; rfl
      · rw [lt_b, (m_asked (hM.fr (code0 h').1.m) oS hb).2 hk', bnd_s, if_neg (by decide), m_fail, bnd_s]
  · refine ⟨none, RC_none Fr.rf ?_, fun h' hM => RM_fail (code0 h').1 ?_⟩
    · rw [c_knownOut r1 r2 q, bnd_s]; rfl
    · rw [lt_b, m_askedOut r1 r2 q, bnd_s, if_neg (by decide), m_fail, bnd_s]
theorem q_leafed (x y : Int32) (hI : CI h S) (oS : okS S) (K : Nat × AH → Option (XR Int32)) (K' : AH → Option (Int32 × AH))
    (hk : ∀ b l : Nat, b < 6 → l < vL (xb S b) → x = w32 b → y = w32 l → ∃ s, RC (K (hra h 3 b, h)) h s ∧ ∀ h', MI2 h' S T → hfi h' 193 2 = 0 → RM (K' h') h' s) :
    ∃ s, RC (bnd (f_X11_bookWithLeaf x y h) (fun q1 => Sum.elim (fun xq1 => gd (SH xq1.1 = (0, 0)) (K xq1)) (fun xq1 => some (.inr xq1)) q1)) h s ∧ ∀ h', MI2 h' S T → RM (lt (sfi h' 193 2 0) (fun h1 => bnd (f_X12_isLeaf x y h1) (fun q2 => if q2 = true then K' h1 else bnd (f_X12_fail 1 h1) (fun q3 => some (q3.1, q3.2))))) h' s := by
  rcases Classical.em (isLf S x y) with ⟨b, l, hb, hl, rfl, rfl⟩ | hn
  · obtain ⟨s, a1, a2⟩ := hk b l hb hl rfl rfl
    refine ⟨s, ?_, fun h' hM => RM.code ?_⟩
    · rw [c_leafIn hI oS hb hl, bnd_s]
      simp only [Sum.elim_inl]
      rw [gd_t (isB_sh (hI.1.1 b hb).1)]
      exact a1
    · have hM1 := hM.fr (code0 h').1.m
      rw [lt_b, m_leafIn hM1 oS hb hl, bnd_s, if_pos rfl]
      exact a2 _ hM1 (code0 h').2
  · refine ⟨none, RC_none Fr.rf ?_, fun h' hM => RM_fail (code0 h').1 ?_⟩
    · rw [c_leafOut hI oS x y hn, bnd_s]; rfl
    · rw [lt_b, m_leafOut (hM.fr (code0 h').1.m) oS x y hn, bnd_s, if_neg (by decide), m_fail, bnd_s]
theorem m_undone {b l : Nat} {β : BV} {γ : GV} {a : LV} (hM : MK h b β γ a) (hl : l < vL β) : f_X12_isUndone (w32 b) (w32 l) h = some (rdy γ l) := by
  obtain ⟨hB, hG, hL, oB, oG, oL, hb⟩ := id hM
  have o1 := oB.1
  have e1 := (hG l hl).1
  have rg : ∀ j, j < vL β → -1 ≤ γ.1 j ∧ γ.1 j ≤ 1000049 := fun j hj => by rcases oG j hj with e | e <;> omega
  have g1 := rg l hl
  unfold f_X12_isUndone
  rw [e_at, gd_t (by rw [w_ibN _ _ (by omega)]; omega), w_clN _ (by omega), e1]
  unfold rdy
  by_cases q : γ.1 l = -1
  · rw [q, if_pos (by decide)]; simp
  · rw [if_neg (by rw [wl_1, w_neg]; exact ne_w (by omega) (by omega) (by omega) (by omega) q)]
    by_cases q0 : l = 0
    · subst q0; rw [if_pos (by decide)]; simp [q]
    · rw [if_neg (by rw [wl_0]; exact ne_w (by omega) (by omega) (by omega) (by omega) (by omega))]
      have hm : w32 (l : Int) - 1 = w32 ((l - 1 : Nat) : Int) := by rw [wl_1, w_sub]; exact ww (by omega)
      have g2 := rg (l - 1) (by omega)
      rw [hm, e_at, gd_t (by rw [w_ibN _ _ (by omega)]; omega), w_clN _ (by omega), (hG (l - 1) (by omega)).1]
      by_cases q1 : γ.1 (l - 1) = -1
      · rw [q1, if_pos (by decide)]; simp [q0]
      · rw [if_neg (by rw [wl_1, w_neg]; exact ne_w (by omega) (by omega) (by omega) (by omega) q1)]; simp [q, q1]
theorem k_ahead {B l : Nat} {β : BV} {γ : GV} (hG : GC h (B + 7) (vL β) γ) (oG : okG (vL β) γ) (o1 : vL β ≤ 40) (hl : l < vL β) : f_X11_checkAheadRead B (w32 l) h = if l = 0 ∨ γ.1 (l - 1) ≠ -1 then some (.inl ((), h)) else some (.inr (0, h)) := by
  unfold f_X11_checkAheadRead
  by_cases q0 : l = 0
  · subst q0; rw [if_pos (by decide), if_pos (Or.inl rfl)]
  · have hm : w32 (l : Int) - 1 = w32 ((l - 1 : Nat) : Int) := by rw [wl_1, w_sub]; exact ww (by omega)
    rw [if_neg (by rw [wl_0, w_le _ _ (by omega) (by omega) (by omega) (by omega)]; omega), hm, k_wasRead hG oG (show l - 1 < vL β by omega) o1, bnd_s]
    by_cases q1 : γ.1 (l - 1) = -1
    · rw [if_neg (by simp [q1]), if_neg (by omega)]
    · rw [if_pos (by simp [q1]), if_pos (Or.inr q1)]
theorem UF.l33 {β : BV} {γ : GV} {a : LV} {l : Nat} (hU : UF h 33 β γ a) (hl : l < vL β) (p1 : rd γ l) (p2 : l ≠ 0 → rd γ (l - 1)) : hia h 34 l = w32 (sUL β γ a l (prv l)) ∧ hia h 35 l = w32 (sUH β γ a l (prv l)) ∧ hia h 36 l = w32 (sTL β γ a l) ∧ hia h 37 l = w32 (sTH β γ a l) ∧ hia h 38 l = w32 (sMid β γ a l) := by
  obtain ⟨g1, g2, g3, g4, g5⟩ := hU.1 l hl
  obtain ⟨s1, s2, s3, s4, s5⟩ := u_s (β := β) (a := a) p1 p2
  rw [s1] at g1
  rw [s2] at g2
  rw [s3] at g3
  rw [s4] at g4
  rw [s5] at g5
  exact ⟨g1, g2, g3, g4, g5⟩
theorem UF.k33 {β : BV} {γ : GV} {a : LV} {k : Nat} (hU : UF h 33 β γ a) (hk : kn β γ) (h12 : k < 12) : hia h 39 k = w32 (if sLo β k = 0 then 0 else sLi β γ a k) ∧ hia h 40 k = w32 (sLo β k) := by
  obtain ⟨g1, g2⟩ := hU.2 k h12
  rw [uLi_s hk] at g1
  exact ⟨g1, g2⟩
theorem UF.k42 {β : BV} {γ : GV} {a : LV} {k : Nat} (hU : UF h 42 β γ a) (hk : kn β γ) (h12 : k < 12) : hia h 48 k = w32 (if sLo β k = 0 then 0 else sLi β γ a k) ∧ hia h 49 k = w32 (sLo β k) := by
  obtain ⟨g1, g2⟩ := hU.2 k h12
  rw [uLi_s hk] at g1
  exact ⟨g1, g2⟩
theorem k_strange33 {β : BV} {γ : GV} {a : LV} {l : Nat} (hU : UF h 33 β γ a) (oB : okB β) (oG : okG (vL β) γ) (oL : okL a) (hl : l < vL β) (p1 : rd γ l) (p2 : l ≠ 0 → rd γ (l - 1)) : f_X9_isStrange 33 (w32 l) h = some (decide (sTH β γ a l < sTL β γ a l)) := by
  obtain ⟨-, -, g3, g4, -⟩ := hU.l33 hl p1 p2
  have o := oB.1
  have rr := sTL_rg oB oG oL hl p1 p2
  have lib : ib (w32 (l : Int)) 40 = true := by rw [w_ibN _ _ (by omega)]; omega
  have lcl : cl (w32 (l : Int)) = l := w_clN l (by omega)
  have e0 : f_X9_isStrange 33 (w32 l) h = if hia h 36 l ≤ hia h 37 l then some false else some true := by
    unfold f_X9_isStrange
    rw [gd_t lib, gd_t lib, lcl]
  rw [e0, g3, g4]
  simp (disch := omega) only [w_le]
  by_cases e : sTL β γ a l ≤ sTH β γ a l
  · rw [if_pos e, decide_eq_false (by omega)]
  · rw [if_neg e, decide_eq_true (by omega)]
theorem q_bounds (x y v : Int32) (hI : CI h S) (oS : okS S) : ∃ s, RC (f_X11_bounds x y v h) h s ∧ ∀ h', MI2 h' S T → RM (f_X12_bounds x y v h') h' s := by
  refine q_leafed x y hI oS _ _ (fun b l hb hl hx hy => ?_)
  subst hx hy
  obtain ⟨hC, hA⟩ := hI.ck oS hb
  have o := hC.2.2.2.1.1
  have oG := hC.2.2.2.2.1
  have sL := isLw_sh hI.1.2.2.2.2.1
  have gl := hC.2.1 l hl
  have lib : ib (w32 (l : Int)) 40 = true := by rw [w_ibN _ _ (by omega)]; omega
  have lcl : cl (w32 (l : Int)) = l := w_clN l (by omega)
  have lat : ib (f_X12_at (w32 b) (w32 l)) 320 = true := by rw [e_at, w_ibN _ _ (by omega)]; omega
  have lca : cl (f_X12_at (w32 b) (w32 l)) = 40 * b + l := by rw [e_at, w_clN _ (by omega)]
  have rg : -1 ≤ (xg S b).1 l ∧ (xg S b).1 l ≤ 1000049 := by rcases oG l hl with e | e <;> omega
  obtain ⟨z, rfl, r1, r2⟩ := w_ex v
  by_cases q : 0 ≤ z ∧ z ≤ 7
  · have c0 : ¬ w32 z < 0 := by rw [wl_0, w_lt _ _ (by omega) (by omega) (by omega) (by omega)]; omega
    have c7 : ¬ 7 < w32 z := by rw [wl_7, w_lt _ _ (by omega) (by omega) (by omega) (by omega)]; omega
    have m0 : f_X12_isIn (w32 z) 0 7 = true := by rw [wl_0, wl_7, e_isIn _ _ _ (by omega) (by omega) (by omega) (by omega) (by omega) (by omega), decide_eq_true (by omega)]
    by_cases qr : (xg S b).1 l = -1
    · refine ⟨none, RC_none Fr.rf ?_, fun h' hM hc => RM_fail FrQ.rf ?_⟩
      · try dsimp only
        rw [if_neg c0, if_neg c7, k_wasRead hC.2.1 oG hl o, bnd_s, if_neg (by simp [qr])]
      · have e1 := ((hM.1 b hb).2 l hl).1
        rw [qr] at e1
        rw [if_pos m0]
        by_cases q2 : 2 ≤ z
        · rw [if_pos (by rw [wl_2, w_le _ _ (by omega) (by omega) (by omega) (by omega)]; omega), m_undone (hM.mk oS hb) hl, show rdy (xg S b) l = false from by unfold rdy; simp [qr], bnd_s, if_neg (by decide), m_fail, bnd_s]
        · rw [if_neg (by rw [wl_2, w_le _ _ (by omega) (by omega) (by omega) (by omega)]; omega), gd_t lat, lca, e1, if_pos (by decide), m_fail, bnd_s]
    · have wr : f_X3_wasRead (hra h 3 b + 7) (w32 l) h = some true := by rw [k_wasRead hC.2.1 oG hl o, decide_eq_true qr]
      by_cases q2 : 2 ≤ z
      · have c2 : 2 ≤ w32 z := by rw [wl_2, w_le _ _ (by omega) (by omega) (by omega) (by omega)]; omega
        have ka := k_ahead hC.2.1 oG o hl
        by_cases qa : l = 0 ∨ (xg S b).1 (l - 1) ≠ -1
        · rw [if_pos qa] at ka
          have hrd : rdy (xg S b) l = true := by
            rw [rdy_iff]
            exact ⟨qr, fun h0 => by rcases qa with e | e; exact absurd e h0; exact e⟩
          obtain ⟨p1, p2⟩ := (rdy_iff _ _).mp hrd
          obtain ⟨h2, e2, f2, u2⟩ := k_fill hC hA (u := 33) (Or.inl rfl)
          obtain ⟨g1, g2, g3, g4, g5⟩ := u2.l33 hl p1 p2
          have fw := WU_ws (Or.inl rfl) f2
          have strange := k_strange33 u2 hC.2.2.2.1 oG hC.2.2.2.2.2 hl p1 p2
          have cls : ∀ (K : Option (XR Int32)) (s : Option Int), (K = (if w32 z = 2 then some (.inl (w32 (sUL (xb S b) (xg S b) (xa S) l (prv l)), h2)) else if w32 z = 3 then some (.inl (w32 (sUH (xb S b) (xg S b) (xa S) l (prv l)), h2)) else if w32 z = 4 then some (.inl (w32 (sTL (xb S b) (xg S b) (xa S) l), h2)) else if w32 z = 5 then some (.inl (w32 (sTH (xb S b) (xg S b) (xa S) l), h2)) else if w32 z = 6 then some (.inl (w32 (sMid (xb S b) (xg S b) (xa S) l), h2)) else if sTH (xb S b) (xg S b) (xa S) l < sTL (xb S b) (xg S b) (xa S) l then some (.inl (w32 1, h2)) else some (.inl (w32 0, h2)))) → s = (if z = 2 then some (sUL (xb S b) (xg S b) (xa S) l (prv l)) else if z = 3 then some (sUH (xb S b) (xg S b) (xa S) l (prv l)) else if z = 4 then some (sTL (xb S b) (xg S b) (xa S) l) else if z = 5 then some (sTH (xb S b) (xg S b) (xa S) l) else if z = 6 then some (sMid (xb S b) (xg S b) (xa S) l) else if sTH (xb S b) (xg S b) (xa S) l < sTL (xb S b) (xg S b) (xa S) l then some 1 else some 0) → RC K h s := by
            intro K s hK hs
            subst hK hs
            simp (disch := omega) only [wl_2, wl_3, wl_4, wl_5, wl_6, w_eq]
            split
            · exact RC_some fw rfl
            split
            · exact RC_some fw rfl
            split
            · exact RC_some fw rfl
            split
            · exact RC_some fw rfl
            split
            · exact RC_some fw rfl
            split
            · exact RC_some fw rfl
            · exact RC_some fw rfl
          refine ⟨_, cls _ _ ?_ rfl, fun h' hM hc => ?_⟩
          · try dsimp only
            rw [if_neg c0, if_neg c7, wr, bnd_s, if_pos rfl, if_pos c2, ka, bnd_s]
            simp only [Sum.elim_inl, gd_t sL, e2, bnd_s, gd_t lib, lcl, g1, g2, g3, g4, g5, strange, decide_eq_true_eq]
            rfl
          · have hMK := hM.mk oS hb
            have l1 : w32 (l : Int) - 1 = w32 ((l : Int) - 1) := w_sub _ 1
            have u1 := m_uL hMK hl p1 (prv l) (prv_ok hl p2)
            have u3 := m_uH hMK hl p1 (prv l) (prv_ok hl p2)
            rw [pI_prv] at u1 u3
            have e : ∀ E : Option (Int32 × AH), E = (if z = 2 then some (w32 (sUL (xb S b) (xg S b) (xa S) l (prv l)), h') else if z = 3 then some (w32 (sUH (xb S b) (xg S b) (xa S) l (prv l)), h') else if z = 4 then some (w32 (sTL (xb S b) (xg S b) (xa S) l), h') else if z = 5 then some (w32 (sTH (xb S b) (xg S b) (xa S) l), h') else if z = 6 then some (w32 (sMid (xb S b) (xg S b) (xa S) l), h') else if sTH (xb S b) (xg S b) (xa S) l < sTL (xb S b) (xg S b) (xa S) l then some (w32 1, h') else some (w32 0, h')) → RM E h' (if z = 2 then some (sUL (xb S b) (xg S b) (xa S) l (prv l)) else if z = 3 then some (sUH (xb S b) (xg S b) (xa S) l (prv l)) else if z = 4 then some (sTL (xb S b) (xg S b) (xa S) l) else if z = 5 then some (sTH (xb S b) (xg S b) (xa S) l) else if z = 6 then some (sMid (xb S b) (xg S b) (xa S) l) else if sTH (xb S b) (xg S b) (xa S) l < sTL (xb S b) (xg S b) (xa S) l then some 1 else some 0) := by
              intro E hE
              subst hE
              split
              · exact RM_some FrQ.rf rfl hc
              split
              · exact RM_some FrQ.rf rfl hc
              split
              · exact RM_some FrQ.rf rfl hc
              split
              · exact RM_some FrQ.rf rfl hc
              split
              · exact RM_some FrQ.rf rfl hc
              split
              · exact RM_some FrQ.rf rfl hc
              · exact RM_some FrQ.rf rfl hc
            refine e _ ?_
            rw [if_pos m0, if_pos c2, m_undone hMK hl, hrd, bnd_s, if_pos rfl, if_neg (by rw [wl_0]; exact ne_w (by omega) (by omega) (by omega) (by omega) (by omega)), if_neg (by rw [wl_1]; exact ne_w (by omega) (by omega) (by omega) (by omega) (by omega))]
            simp only [l1, u1, u3, m_TL hMK hl p1 p2, m_TH hMK hl p1 p2, m_mid hMK hl p1 p2, m_strange hMK hl p1 p2, bnd_s, decide_eq_true_eq]
            simp (disch := omega) only [wl_2, wl_3, wl_4, wl_5, wl_6, w_eq]
            rfl
        · rw [if_neg qa] at ka
          have hrd : rdy (xg S b) l = false := by
            have q3 : l ≠ 0 ∧ (xg S b).1 (l - 1) = -1 := by omega
            unfold rdy; simp [q3.1, q3.2]
          refine ⟨none, RC_none Fr.rf ?_, fun h' hM hc => RM_fail FrQ.rf ?_⟩
          · try dsimp only
            rw [if_neg c0, if_neg c7, wr, bnd_s, if_pos rfl, if_pos c2, ka, bnd_s]
            rfl
          · rw [if_pos m0, if_pos c2, m_undone (hM.mk oS hb) hl, hrd, bnd_s, if_neg (by decide), m_fail, bnd_s]
      · have c2 : ¬ 2 ≤ w32 z := by rw [wl_2, w_le _ _ (by omega) (by omega) (by omega) (by omega)]; omega
        have key : ∀ h', MI2 h' S T → ¬ hia h' 208 (40 * b + l) = -1 := fun h' hM => by rw [((hM.1 b hb).2 l hl).1, wl_1, w_neg]; exact ne_w (by omega) (by omega) (by omega) (by omega) qr
        rcases (show z = 0 ∨ z = 1 by omega) with rfl | rfl
        · refine ⟨some ((xg S b).1 l), RC_some Fr.rf ?_, fun h' hM hc => RM_some FrQ.rf ?_ hc⟩
          · try dsimp only
            rw [if_neg c0, if_neg c7, wr, bnd_s, if_pos rfl, if_neg c2, if_pos (by decide), gd_t lib, lcl, gl.1]
          · rw [if_pos m0, if_neg c2, gd_t lat, lca, if_neg (key h' hM), if_pos (by decide), gd_t lat, ((hM.1 b hb).2 l hl).1]
        · refine ⟨some ((xg S b).2 l), RC_some Fr.rf ?_, fun h' hM hc => RM_some FrQ.rf ?_ hc⟩
          · try dsimp only
            rw [if_neg c0, if_neg c7, wr, bnd_s, if_pos rfl, if_neg c2, if_neg (by decide), gd_t lib, lcl, gl.2 qr]
          · rw [if_pos m0, if_neg c2, gd_t lat, lca, if_neg (key h' hM), if_neg (by decide), if_pos (by decide), gd_t lat, ((hM.1 b hb).2 l hl).2 qr]
  · have m0 : f_X12_isIn (w32 z) 0 7 = false := by rw [wl_0, wl_7, e_isIn _ _ _ (by omega) (by omega) (by omega) (by omega) (by omega) (by omega), decide_eq_false (by omega)]
    refine ⟨none, RC_none Fr.rf ?_, fun h' hM hc => RM_fail FrQ.rf ?_⟩
    · try dsimp only
      by_cases q1 : z < 0
      · rw [if_pos (by rw [wl_0, w_lt _ _ (by omega) (by omega) (by omega) (by omega)]; omega)]
      · rw [if_neg (by rw [wl_0, w_lt _ _ (by omega) (by omega) (by omega) (by omega)]; omega), if_pos (by rw [wl_7, w_lt _ _ (by omega) (by omega) (by omega) (by omega)]; omega)]
    · rw [if_neg (by rw [m0]; decide), m_fail, bnd_s]
end G5
