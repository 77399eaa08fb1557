/-! turnings, reader, gone, blank, clear, fault -/
def rdB (β : BV) (w f t : Nat) : BV := mkB (vL β) (vT β) (vH β) (vW β) (vR β + 1) (vk β) (vt β) (vp β) (vb β) (vy β) (vs β) (vwy β) (vwo β) (fun i => if i = vR β then w else vrw β i) (fun i => if i = vR β then f else vrf β i) (fun i => if i = vR β then t else vrt β i)
section RDR
variable {h : AH} {S : SV} {T : Nat}
theorem m_isWay {z : Int} (h1 : -2147483648 ≤ z) (h2 : z ≤ 2147483647) : f_X12_isWay (w32 z) = decide (0 ≤ z ∧ z ≤ 5) := by
  unfold f_X12_isWay
  rw [wl_0, wl_5, e_isIn _ _ _ h1 h2 (by omega) (by omega) (by omega) (by omega)]
theorem m_isWayN {b : Nat} (hb : b < 6) : f_X12_isWay (w32 b) = true := by rw [m_isWay (by omega) (by omega), decide_eq_true (by omega)]
theorem q_turnings (x y v : Int32) (hI : CI h S) (oS : okS S) : ∃ s, RC (f_X11_turnings x y v h) h s ∧ ∀ h', MI2 h' S T → RM (f_X12_turnings x y v h') h' s := by
  obtain ⟨z, rfl, r1, r2⟩ := w_ex x
  obtain ⟨y, rfl, r3, r4⟩ := w_ex y
  obtain ⟨v, rfl, r5, r6⟩ := w_ex v
  by_cases q : 0 ≤ z ∧ z ≤ 5
  · obtain ⟨w, rfl, hw⟩ := nat_of (n := 5) q
    have hw : w < 6 := by omega
    have sW := isWy_sh (hI.1.2.2.1 w hw).1
    by_cases q2 : 0 ≤ y ∧ y ≤ 11
    · obtain ⟨k, rfl, hk⟩ := nat_of (n := 11) q2
      have hk : k < 12 := by omega
      have kc : f_X11_checkKind (w32 (k : Nat)) h = some (.inl ((), h)) := by
        unfold f_X11_checkKind
        rw [if_neg (by rw [wl_0, w_lt _ _ (by omega) (by omega) (by omega) (by omega)]; omega), if_pos (by rw [wl_12, w_lt _ _ (by omega) (by omega) (by omega) (by omega)]; omega)]
      have mk : f_X12_isIn (w32 (k : Nat)) 0 11 = true := by rw [wl_0, wl_11, e_isIn _ _ _ (by omega) (by omega) (by omega) (by omega) (by omega) (by omega), decide_eq_true (by omega)]
      by_cases q3 : 0 ≤ v ∧ v ≤ 19
      · obtain ⟨p, rfl, hp⟩ := nat_of (n := 19) q3
        have hp : p < 20 := by omega
        refine ⟨some (yr (xw S) w k p), RC_some Fr.rf ?_, fun h' hM => RM_some (code0 h').1 ?_ (code0 h').2⟩
        · unfold f_X11_turnings
          rw [c_wayIn hI.1 hw, bnd_s]
          simp only [Sum.elim_inl]
          rw [gd_t sW, kc, bnd_s]
          simp only [Sum.elim_inl]
          rw [if_neg (by rw [wl_0, w_lt _ _ (by omega) (by omega) (by omega) (by omega)]; omega), if_pos (by rw [wl_20, w_lt _ _ (by omega) (by omega) (by omega) (by omega)]; omega), k_turn (hI.2.2.2.1 w hw) hk hp (oS.2.2.1 w hw k hk).1 (oS.2.2.1 w hw k hk).2, bnd_s]
          rfl
        · unfold f_X12_turnings
          rw [lt_b, m_isWayN hw, if_pos rfl, mk, if_pos rfl, show f_X12_isIn (w32 (p : Nat)) 0 19 = true from by rw [wl_0, wl_19, e_isIn _ _ _ (by omega) (by omega) (by omega) (by omega) (by omega) (by omega), decide_eq_true (by omega)], if_pos rfl, m_turn (hM.fr (code0 h').1.m).2.2.1 oS.2.2.1 hw hk hp, bnd_s]
      · refine ⟨none, RC_none Fr.rf ?_, fun h' hM => RM_fail (code0 h').1 ?_⟩
        · unfold f_X11_turnings
          rw [c_wayIn hI.1 hw, bnd_s]
          simp only [Sum.elim_inl]
          rw [gd_t sW, kc, bnd_s]
          simp only [Sum.elim_inl]
          by_cases q4 : v < 0
          · rw [if_pos (by rw [wl_0, w_lt _ _ (by omega) (by omega) (by omega) (by omega)]; omega)]
          · rw [if_neg (by rw [wl_0, w_lt _ _ (by omega) (by omega) (by omega) (by omega)]; omega), if_neg (by rw [wl_20, w_lt _ _ (by omega) (by omega) (by omega) (by omega)]; omega)]
        · unfold f_X12_turnings
          rw [lt_b, m_isWayN hw, if_pos rfl, mk, if_pos rfl, show f_X12_isIn (w32 v) 0 19 = false from by rw [wl_0, wl_19, e_isIn _ _ _ (by omega) (by omega) (by omega) (by omega) (by omega) (by omega), decide_eq_false (by omega)], if_neg (by decide), m_fail, bnd_s]
    · refine ⟨none, RC_none Fr.rf ?_, fun h' hM => RM_fail (code0 h').1 ?_⟩
      · unfold f_X11_turnings
        rw [c_wayIn hI.1 hw, bnd_s]
        simp only [Sum.elim_inl]
        rw [gd_t sW]
        unfold f_X11_checkKind
        by_cases q4 : y < 0
        · rw [if_pos (by rw [wl_0, w_lt _ _ (by omega) (by omega) (by omega) (by omega)]; omega), bnd_s]; rfl
        · rw [if_neg (by rw [wl_0, w_lt _ _ (by omega) (by omega) (by omega) (by omega)]; omega), if_neg (by rw [wl_12, w_lt _ _ (by omega) (by omega) (by omega) (by omega)]; omega), bnd_s]; rfl
      · unfold f_X12_turnings
        rw [lt_b, m_isWayN hw, if_pos rfl, show f_X12_isIn (w32 y) 0 11 = false from by rw [wl_0, wl_11, e_isIn _ _ _ (by omega) (by omega) (by omega) (by omega) (by omega) (by omega), decide_eq_false (by omega)], if_neg (by decide), m_fail, bnd_s]
  · refine ⟨none, RC_none Fr.rf ?_, fun h' hM => RM_fail (code0 h').1 ?_⟩
    · unfold f_X11_turnings
      rw [c_wayOut r1 r2 q, bnd_s]
      rfl
    · unfold f_X12_turnings
      rw [lt_b, m_isWay r1 r2, decide_eq_false q, if_neg (by decide), m_fail, bnd_s]
/-- only the status is counted up -/
theorem CI.st (hI : CI h S) (oS : okS S) (k0 : Nat) (h0 : k0 < 4) (d : Int32) : CI (sia h 31 k0 (xs4 S k0 + d)) (sB S 0 (xb S 0) (xg S 0) (fun k => if k = k0 then xs4 S k0 + d else xs4 S k)) := by
  have isX := (hI.1.1 0 (by omega)).1
  unfold isB at isX
  obtain ⟨c1, c2, c3, c4⟩ := hI.2.1 0 (by omega)
  have hF : Fr (fun c => c = 31) h (sia h 31 k0 (xs4 S k0 + d)) := Fr.sia _ _ _ _ rfl
  exact hI.upd (by omega) rfl (Fr.sia _ _ _ _ (Or.inr (Or.inl rfl))) (c1.fr hF (fun c h1 h2 => by omega)) (c2.fr hF (by omega) (by omega)) c4 rfl (xs_upd k0 d (xs4 S) 31 hI.2.2.2.2.2.2.2.2.1 h0)
theorem MI2.st (hM : MI2 h S T) (oS : okS S) (k0 : Nat) (h0 : k0 < 4) (d : Int32) : MI2 (sia h 218 k0 (xs4 S k0 + d)) (sB S 0 (xb S 0) (xg S 0) (fun k => if k = k0 then xs4 S k0 + d else xs4 S k)) T := by
  have fB := (FrN.w h 100 218 k0 (xs4 S k0 + d) (by omega)).2.1
  exact hM.updB oS (FrN.w _ _ _ _ _ (by omega)) ((hM.1 0 (by omega)).1.frB (oS.1 0 (by omega)).1 fB (by omega)) ((hM.1 0 (by omega)).2.frB (oS.1 0 (by omega)).1.1 fB (by omega)) rfl (xs_upd k0 d (xs4 S) 218 hM.2.2.2.2.2.2.1 h0)
theorem okS_st (oS : okS S) (f : Nat → Int32) : okS (sB S 0 (xb S 0) (xg S 0) f) := okS_sB oS (oS.1 0 (by omega)).1 (oS.1 0 (by omega)).2.1 rfl
theorem t_reader (x y u v : Int32) (hI : CI h S) (oS : okS S) (hM : MI2 h S T) : TK (f_L_reader x y u v h) (f_X12_reader x y u v) T := by
  unfold f_L_reader
  obtain ⟨z, rfl, r1, r2⟩ := w_ex x
  obtain ⟨y, rfl, r3, r4⟩ := w_ex y
  by_cases q : 0 ≤ z ∧ z ≤ 5
  · obtain ⟨b, rfl, hb⟩ := nat_of (n := 5) q
    have hb : b < 6 := by omega
    have sX := isB_sh (hI.1.1 b hb).1
    by_cases qw : 0 ≤ y ∧ y ≤ 5
    · obtain ⟨w, rfl, hw⟩ := nat_of (n := 5) qw
      have hw : w < 6 := by omega
      have sW := isWy_sh (hI.1.2.2.1 w hw).1
      obtain ⟨u, rfl, r5, r6⟩ := w_ex u
      obtain ⟨v, rfl, r7, r8⟩ := w_ex v
      have o := oS.1 b hb
      obtain ⟨c1, c2, c3, c4⟩ := hI.2.1 b hb
      have e5 := c1.2.2.2.2.1
      have oR := o.1.2.2.2.2.1
      have st2 := hI.2.2.2.2.2.2.2.2.1 2 (by omega)
      have g24 : ib 2 4 = true := by decide
      have cl2 : cl 2 = 2 := by decide
      have cls : f_X11_reader (w32 b) (w32 w) (w32 u) (w32 v) h = if (8 : Int) ≤ vR (xb S b) ∨ u < 0 ∨ 500 < v ∨ v < u then some (.inl (-1, sia h 31 2 (xs4 S 2 + 1))) else bnd (f_X0_addReader (hra h 3 b) (w32 w) (w32 u) (w32 v) h) (fun q18 => some (.inl (hfi q18 (hra h 3 b) 5, q18))) := by
        unfold f_X11_reader
        rw [c_bookIn hI.1 hb, bnd_s]
        simp only [Sum.elim_inl]
        rw [gd_t sX, c_wayIn hI.1 hw, bnd_s]
        simp only [Sum.elim_inl]
        rw [gd_t sW]
        simp only [gd_t g24, cl2, lt_b, st2, e5]
        simp (disch := omega) only [wl_8, wl_0, wl_500, w_le, w_lt]
        by_cases a1 : (8 : Int) ≤ vR (xb S b)
        · rw [if_pos a1, if_pos (Or.inl a1)]
        rw [if_neg a1]
        by_cases a2 : u < 0
        · rw [if_pos a2, if_pos (by omega)]
        rw [if_neg a2]
        by_cases a3 : 500 < v
        · rw [if_pos a3, if_pos (by omega)]
        rw [if_neg a3]
        by_cases a4 : u ≤ v
        · rw [if_pos a4, if_neg (by omega)]
        · rw [if_neg a4, if_pos (by omega)]
      have mdl : ∀ h', MI2 h' S T → f_X12_reader (w32 b) (w32 w) (w32 u) (w32 v) h' = if (8 : Int) ≤ vR (xb S b) ∨ u < 0 ∨ 500 < v ∨ v < u then some (-1, sia (sfi h' 193 2 0) 218 2 (xs4 S 2 + 1)) else some (w32 (vR (xb S b) + 1 : Nat), sia (sia (sia (sia (sfi h' 193 2 0) 212 (8 * b + vR (xb S b)) (w32 w)) 213 (8 * b + vR (xb S b)) (w32 u)) 214 (8 * b + vR (xb S b)) (w32 v)) 200 b (w32 (vR (xb S b) + 1 : Nat))) := by
        intro h' hM'
        have hM1 := hM'.fr (code0 h').1.m
        have m5 := (hM1.1 b hb).1.2.2.2.2.1
        have ms2 := hM1.2.2.2.2.2.2.1 2 (by omega)
        unfold f_X12_reader
        rw [lt_b, m_isBookN hb, if_pos rfl, m_isWayN hw, if_pos rfl, gd_t (by rw [w_ibN _ _ (by omega)]; omega), w_clN _ (by omega), m5]
        generalize sfi h' 193 2 0 = H1 at *
        simp only [gd_t g24, cl2, lt_b, ms2]
        simp (disch := omega) only [wl_8, wl_0, wl_500, w_eq, w_lt, w_le]
        by_cases a1 : (vR (xb S b) : Int) = 8
        · rw [if_pos a1, if_pos (by omega)]
        rw [if_neg a1]
        by_cases a2 : u < 0
        · rw [if_pos a2, if_pos (by omega)]
        rw [if_neg a2]
        by_cases a3 : 500 < v
        · rw [if_pos a3, if_pos (by omega)]
        rw [if_neg a3]
        by_cases a4 : u ≤ v
        · rw [if_pos a4, if_neg (by omega)]
          have ei : w32 (8 * (b : Int) + (vR (xb S b) : Int)) = w32 ((8 * b + vR (xb S b) : Nat) : Int) := ww (by omega)
          simp (disch := omega) only [w_mul, w_add, ei, w_ibN, gd_t, w_clN, ia_sia_ne, m5, wl_1, w_s, ia_sia_eq]
        · rw [if_neg a4, if_pos (by omega)]
      by_cases ref : (8 : Int) ≤ vR (xb S b) ∨ u < 0 ∨ 500 < v ∨ v < u
      · rw [if_pos ref] at cls
        refine TK_v (okS_st oS _) hM ⟨_, Fr.sia _ _ _ _ (by omega), hI.st oS 2 (by omega) 1, cls⟩ (fun h' hM' => ?_)
        have m := mdl h' hM'
        rw [if_pos ref] at m
        exact ⟨_, (Fr.sfi _ _ _ _ (by omega)).tr (Fr.sia _ _ _ _ (by omega)), ((hM'.fr (code0 h').1.m).st oS 2 (by omega) 1).le (by omega), m, show hfi (sfi h' 193 2 0) 193 2 = 0 from fi_sfi_eq _ _ _ _⟩
      · obtain ⟨f, rfl, hf⟩ := nat_of (z := u) (n := 500) (by omega)
        obtain ⟨t, rfl, ht⟩ := nat_of (z := v) (n := 500) (by omega)
        rw [if_neg ref] at cls
        generalize hX : hra h 3 b = X at *
        have isX := (hI.1.1 b hb).1
        rw [hX] at isX
        unfold isB at isX
        have add : f_X0_addReader X (w32 w) (w32 f) (w32 t) h = some (sfi (sia (sia (sia h (X + 15) (vR (xb S b)) (w32 w)) (X + 16) (vR (xb S b)) (w32 f)) (X + 17) (vR (xb S b)) (w32 t)) X 5 (w32 (vR (xb S b) + 1 : Nat))) := by
          unfold f_X0_addReader
          simp (disch := omega) only [e5, wl_8, w_le, fi_sia, w_ibN, gd_t, w_clN, lt_b, wl_1, w_add, w_s]
          rw [if_neg (by omega)]
        rw [add, bnd_s, fi_sfi_eq] at cls
        refine TK_v (S' := sB S b (rdB (xb S b) w f t) (xg S b) (xs4 S)) (okS_sB oS ?_ o.2.1 rfl) hM ⟨_, ?_, hI.upd hb hX ?_ ?_ ?_ ?_ rfl ?_, cls⟩ (fun h' hM' => ?_)
        · obtain ⟨o1, o2, o3, o4, o5, o6, o7, o8, o9, o10, o11⟩ := o.1
          refine ⟨o1, o2, o3, o4, ?_, o6, o7, o8, fun r hr => ?_, o10, o11⟩
          · show vR (xb S b) + 1 ≤ 8; omega
          · have hr : r < vR (xb S b) + 1 := hr
            show (if r = vR (xb S b) then w else vrw (xb S b) r) < 6 ∧ (if r = vR (xb S b) then f else vrf (xb S b) r) ≤ (if r = vR (xb S b) then t else vrt (xb S b) r) ∧ (if r = vR (xb S b) then t else vrt (xb S b) r) ≤ 500
            by_cases qr : r = vR (xb S b)
            · rw [if_pos qr, if_pos qr, if_pos qr]; omega
            · rw [if_neg qr, if_neg qr, if_neg qr]; exact o9 r (by omega)
        · exact (((Fr.sia _ _ _ _ (by omega)).tr (Fr.sia _ _ _ _ (by omega))).tr (Fr.sia _ _ _ _ (by omega))).tr (Fr.sfi _ _ _ _ (by omega))
        · exact (((Fr.sia _ _ _ _ (by omega)).tr (Fr.sia _ _ _ _ (by omega))).tr (Fr.sia _ _ _ _ (by omega))).tr (Fr.sfi _ _ _ _ (by omega))
        · obtain ⟨d1, d2, d3, d4, d5, d6, d7, d8⟩ := c1
          refine ⟨?_, ?_, ?_, ?_, ?_, fun l hl => ?_, fun i hi => ?_, fun i hi => ?_⟩
          · rw [fi_sfi_nk _ _ _ _ _ (by omega)]; exact d1
          · rw [fi_sfi_nk _ _ _ _ _ (by omega)]; exact d2
          · rw [fi_sfi_nk _ _ _ _ _ (by omega)]; exact d3
          · rw [fi_sfi_nk _ _ _ _ _ (by omega)]; exact d4
          · rw [fi_sfi_eq]; rfl
          · simp (disch := omega) only [ia_sfi, ia_sia_ne]; exact d6 l hl
          · simp (disch := omega) only [ia_sfi, ia_sia_ne]; exact d7 i hi
          · have hi : i < vR (xb S b) + 1 := hi
            show _ = w32 ((if i = vR (xb S b) then w else vrw (xb S b) i : Nat) : Int) ∧ _ = w32 ((if i = vR (xb S b) then f else vrf (xb S b) i : Nat) : Int) ∧ _ = w32 ((if i = vR (xb S b) then t else vrt (xb S b) i : Nat) : Int)
            by_cases qi : i = vR (xb S b)
            · subst qi
              simp (disch := omega) only [ia_sfi, ia_sia_ne, ia_sia_eq, if_true]
              exact ⟨trivial, trivial, trivial⟩
            · simp (disch := omega) only [ia_sfi, ia_sia_ne, ia_sia_nk, if_neg qi]
              exact d8 i (by omega)
        · intro l hl
          simp (disch := omega) only [ia_sfi, ia_sia_ne]
          exact c2 l hl
        · rw [fi_sfi_nk _ _ _ _ _ (by omega)]; exact c4
        · intro k hk
          simp (disch := omega) only [ia_sfi, ia_sia_ne]
          exact hI.2.2.2.2.2.2.2.2.1 k hk
        · have m := mdl h' hM'
          rw [if_neg ref] at m
          have hM1 := hM'.fr (code0 h').1.m
          obtain ⟨d1, d2, d3, d4, d5, d6, d7, d8⟩ := (hM1.1 b hb).1
          have fN : FrN b (sfi h' 193 2 0) (sia (sia (sia (sia (sfi h' 193 2 0) 212 (8 * b + vR (xb S b)) (w32 w)) 213 (8 * b + vR (xb S b)) (w32 f)) 214 (8 * b + vR (xb S b)) (w32 t)) 200 b (w32 (vR (xb S b) + 1 : Nat))) := (((FrN.w _ _ _ _ _ (by omega)).tr (FrN.w _ _ _ _ _ (by omega))).tr (FrN.w _ _ _ _ _ (by omega))).tr (FrN.w _ _ _ _ _ (by omega))
          refine ⟨_, (Fr.sfi _ _ _ _ (by omega)).tr fN.1, (hM1.updB (β := rdB (xb S b) w f t) (γ := xg S b) (f := xs4 S) oS fN ⟨?_, ?_, ?_, ?_, ?_, fun l hl => ?_, fun i hi => ?_, fun i hi => ?_⟩ ?_ rfl ?_).le (by omega), m, ?_⟩
          · simp (disch := omega) only [ia_sia_ne]; exact d1
          · simp (disch := omega) only [ia_sia_ne]; exact d2
          · simp (disch := omega) only [ia_sia_ne]; exact d3
          · simp (disch := omega) only [ia_sia_ne]; exact d4
          · rw [ia_sia_eq]; rfl
          · simp (disch := omega) only [ia_sia_ne]; exact d6 l hl
          · simp (disch := omega) only [ia_sia_ne]; exact d7 i hi
          · have hi : i < vR (xb S b) + 1 := hi
            show _ = w32 ((if i = vR (xb S b) then w else vrw (xb S b) i : Nat) : Int) ∧ _ = w32 ((if i = vR (xb S b) then f else vrf (xb S b) i : Nat) : Int) ∧ _ = w32 ((if i = vR (xb S b) then t else vrt (xb S b) i : Nat) : Int)
            by_cases qi : i = vR (xb S b)
            · subst qi
              simp (disch := omega) only [ia_sia_ne, ia_sia_eq, if_true]
              exact ⟨trivial, trivial, trivial⟩
            · simp (disch := omega) only [ia_sia_ne, ia_sia_nk, if_neg qi]
              exact d8 i (by omega)
          · intro l hl
            simp (disch := omega) only [ia_sia_ne]
            exact (hM1.1 b hb).2 l hl
          · intro k hk
            simp (disch := omega) only [ia_sia_ne]
            exact hM1.2.2.2.2.2.2.1 k hk
          · show hfi (sfi h' 193 2 0) 193 2 = 0
            exact fi_sfi_eq _ _ _ _
    · refine TK_x (c := 1) oS hM (XCx_id (d := 0) hI ?_) (fun h1 => by rw [gd_t rfl]) (by decide) (fun h' hM' => XM_fail 1 h' hM' ?_)
      · unfold f_X11_reader
        rw [c_bookIn hI.1 hb, bnd_s]
        simp only [Sum.elim_inl]
        rw [gd_t sX, c_wayOut r3 r4 qw, bnd_s]
        rfl
      · unfold f_X12_reader
        rw [lt_b, m_isBookN hb, if_pos rfl, m_isWay r3 r4, decide_eq_false qw, if_neg (by decide), m_fail, bnd_s]
  · refine TK_x (c := 1) oS hM (XCx_id (d := 0) hI ?_) (fun h1 => by rw [gd_t rfl]) (by decide) (fun h' hM' => XM_fail 1 h' hM' ?_)
    · unfold f_X11_reader
      rw [c_bookOut r1 r2 q, bnd_s]
      rfl
    · unfold f_X12_reader
      rw [lt_b, m_isBook r1 r2, decide_eq_false q, if_neg (by decide), m_fail, bnd_s]
end RDR
