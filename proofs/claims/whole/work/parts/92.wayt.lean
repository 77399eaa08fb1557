section WAYT
variable {h : AH} {S : SV} {T : Nat}
def ws0 : WS2 := (fun _ => 0, fun _ => 0)
theorem t_way (x y : Int32) (hI : CI h S) (oS : okS S) (hM : MI2 h S T) : TK (f_L_way x y h) (f_X12_way x y) T := by
  unfold f_L_way
  have oN := oS.2.2.2.1
  obtain ⟨zw, rfl, rw1, rw2⟩ := w_ex x
  obtain ⟨z, rfl, r1, r2⟩ := w_ex y
  by_cases qw : 0 ≤ zw ∧ zw ≤ 5
  · obtain ⟨w, rfl, hw⟩ := nat_of (n := 5) qw
    have hw : w < 6 := by omega
    have sW := isWy_sh (hI.1.2.2.1 w hw).1
    by_cases q : 0 ≤ z ∧ z ≤ xn S
    · obtain ⟨n, rfl, hn⟩ := nat_of (n := xn S) q
      obtain ⟨h1, e1, f1, s1⟩ := k_beg hI oS hn
      have d4 := hI.1.2.1
      have d5 := hI.1.2.2.2.1
      have d6 := hI.1.2.2.2.2.2.1
      have sh := isWy_sh d5
      unfold isB at d4
      unfold isWy at d5
      unfold isLw at d6
      generalize hA : hra h 0 5 = A at *
      have r10 : hra h1 0 = hra h 0 := (f1 0 (by omega)).2.2.2.2
      obtain ⟨k1, ke1, kf1, kg1, -⟩ := e_fill (A + 1) 12 0 h1 (by omega)
      obtain ⟨k2, ke2, kf2, kg2, -⟩ := e_fill (A + 2) 12 0 k1 (by omega)
      have F12 : Fr (fun c => c = 1 ∨ c = A + 1 ∨ c = A + 2) h1 k2 := (kf1.mono (fun c z => Or.inr (Or.inl z))).tr (kf2.mono (fun c z => Or.inr (Or.inr z)))
      have P0 : PWc h1 A ws0 k2 := ⟨F12, fun k hk => ⟨by rw [(kf2 (A + 1) (by omega)).2.2.1, kg1 k hk]; rfl, by rw [kg2 k hk]; rfl⟩, fun k hk => ⟨Nat.zero_le _, Nat.zero_le _, fun _ => rfl⟩⟩
      have S0 : SC k2 (xt S) n 0 := s1.fr (by rw [(kf2 1 (by omega)).1, (kf1 1 (by omega)).1]) (by rw [(kf2 2 (by omega)).2.2.1, (kf1 2 (by omega)).2.2.1])
      obtain ⟨kE, kS⟩ := k_lines (Ln := wayL (xt S) n) (W := f_X10_writeLine A 1) (L := fun f v g => f_X10_write_l18 A 1 f v g) (P := PWc h1 A) (Q := fun g => Fr (fun c => c = 1 ∨ c = A + 1 ∨ c = A + 2) h1 g) (show n ≤ 500 by omega) (fun f v g => by rw [f_X10_write_l18]) (fun s q g e hP hs _ hl => (k_wayL (by omega) hP hs).1 e hl) (fun s q g s' q' hP hs _ hl => (k_wayL (by omega) hP hs).2 s' q' hl) (n + 1) ws0 0 k2 0 FU (by omega) (by unfold FU; omega) (Nat.le_refl _) P0 S0
      have w0 : f_X10_write A 1 h1 = bnd (f_X10_write_l18 A 1 FU 0 k2) (fun q9 => some q9) := by
        unfold f_X10_write
        rw [ke1, bnd_s, ke2, bnd_s]
      have mD : ∀ {g g1 : AH}, Fr (fun c => c = 1 ∨ c = A + 1 ∨ c = A + 2) g g1 → Fr (Dr h) g g1 := fun f => f.mono (fun c z => by unfold Dr; omega)
      have m1 : Fr (Dr h) h h1 := f1.mono (fun c z => Or.inl z)
      have mdl : ∀ h', MI2 h' S T → ∃ h2, f_X12_way (w32 (w : Nat)) (w32 (n : Nat)) h' = bnd (f_X12_way_l70 72 FU h2) (fun q37 => if (hfi q37 193 34) = 0 then bnd (f_X12_way_l247 (w32 (w : Nat)) 72 FU 0 q37) (fun q46 => some (0, q46)) else bnd (f_X12_fallen q37) (fun q47 => some (q47.1, q47.2))) ∧ FrD h' h2 ∧ hia h2 218 = hia h' 218 ∧ hfi h2 193 27 = 0 ∧ hfi h2 193 36 = -1 ∧ hfi h2 193 2 = 0 ∧ ((∀ e, itR (xt S) n (wayL (xt S) n) (n + 1) ws0 0 = .inl e → ∃ g, f_X12_way_l70 72 FU h2 = some g ∧ EM g e ∧ FrG h2 g) ∧ (∀ s', itR (xt S) n (wayL (xt S) n) (n + 1) ws0 0 = .inr s' → ∃ g, f_X12_way_l70 72 FU h2 = some g ∧ PWm h2 s' g ∧ hfi g 193 34 = 0)) := by
        intro h' hM'
        obtain ⟨k1, e1, f1, g1, g27, g36, g2, s1⟩ := r_beg hM' oS hn
        have m27 : hfi (sfi h' 193 2 0) 193 27 = w32 (xn S) := by rw [fi_sfi_nk _ _ _ _ _ (by omega)]; exact hM'.2.2.2.1
        obtain ⟨k3, e3, G0, v1, v2, v3⟩ := r_l47 k1
        have S2 : SM k3 (xt S) n 0 := s1.fr v1 v2
        refine ⟨k3, ?_, f1.tr G0.1, by rw [G0.2.2]; exact (g1 218 (by omega)).2.2.1, by rw [v1]; exact g27, by rw [v1]; exact g36, by rw [v1]; exact g2, ?_⟩
        · unfold f_X12_way
          rw [lt_b, m_isWayN hw, if_pos rfl, if_neg (show ¬ w32 (n : Nat) < 0 by rw [wl_0, w_lt _ _ (by omega) (by omega) (by omega) (by omega)]; omega), m27, if_pos (by rw [w_le _ _ (by omega) (by omega) (by omega) (by omega)]; omega), e1, bnd_s, e3, bnd_s]
        · exact r_lines (t := xt S) (n := n) (Ln := wayL (xt S) n) (L := fun f (x : AH) => f_X12_way_l70 72 f x) (H := id) (P := PWm k3) (Q := FrG k3) (fun f x ne => by
            show f_X12_way_l70 72 (f + 1) x = _
            have ne : ¬ hfi x 193 34 = 0 := ne
            rw [f_X12_way_l70, if_neg ne]; rfl) (fun f x q sm z => by
            show f_X12_way_l70 72 (f + 1) x = _
            have sm : SM x (xt S) n q := sm
            rw [f_X12_way_l70, if_pos sm.2.2.1, if_pos (by rw [sm.zero]; exact z)]; rfl) (fun f s q x e hP sm tz hl => (r_wayL (f := f) hP sm tz).1 e hl) (fun f s q x s' q' hP sm tz hl => (r_wayL (f := f) hP sm tz).2 s' q' hl) (n + 1) ws0 0 k3 FU (by omega) (by unfold FU; omega) ⟨FrG.rf, fun k hk => ⟨by rw [v3 k hk]; rfl, fun z => absurd rfl z⟩, fun k hk => ⟨Nat.zero_le _, Nat.zero_le _, fun _ => rfl⟩⟩ S2
      cases hR : itR (xt S) n (wayL (xt S) n) (n + 1) ws0 0 with
      | inl e =>
        obtain ⟨g, a1, a2, a3⟩ := kE e hR
        have a1 : f_X10_write_l18 A 1 FU 0 k2 = some g := a1
        have e2 : e.2 ≤ 500 := a2.2.2.2.2
        have F2 : Fr (Dr h) h g := m1.tr (mD a3)
        obtain ⟨g1, b1, b2, b3⟩ := k_err hI F2 (by rw [(a3 31 (by omega)).2.2.1, (f1 31 (by omega)).2.2.1]) a2
        refine TK_v (S' := sP S (e.2 : Nat) (s4e S)) (v := w32 (e.1 : Nat)) (okS_P oS (by omega)) hM ⟨g1, b2, b3, ?_⟩ (fun h' hM' => ?_)
        · unfold f_X11_way
          rw [c_wayIn hI.1 hw, bnd_s]
          simp only [Sum.elim_inl]
          rw [gd_t sW, k_okT hI oS hn, bnd_s]
          simp only [Sum.elim_inl]
          rw [e1, bnd_s, r10, hA, gd_t sh, w0, a1, bnd_s, bnd_s, if_neg a2.ne, b1, bnd_s]
        · obtain ⟨h2, c1, c2, c3, c4, c5, c6, c7, -⟩ := mdl h' hM'
          obtain ⟨g2, d1, d2, d3⟩ := c7 e hR
          obtain ⟨g3, d4, d5, d6, d7⟩ := r_err oS hM' (c2.tr d3.1) (by rw [d3.2.1 27 (by unfold KTe; omega)]; exact c4) (by rw [d3.2.1 2 (by unfold KTe; omega)]; exact c6) (by rw [d3.2.2]; exact c3) d2
          exact ⟨g3, d5, d6, by rw [c1, d1, bnd_s, if_neg d2.ne, d4, bnd_s], d7⟩
      | inr s =>
        obtain ⟨g, a1, ⟨a2, a3, a4⟩, a6, a7⟩ := kS s hR
        have a1 : f_X10_write_l18 A 1 FU 0 k2 = some g := a1
        have F2 : Fr (Dr h) h (sfi g 1 0 0) := (m1.tr (mD a2)).tr (Fr.sfi _ _ _ _ (Or.inl rfl))
        have rg0 : hra g 0 = hra h 0 := by rw [(a2 0 (by omega)).2.2.2.2, r10]
        have rg4 : hra g 4 = hra h 4 := by rw [(a2 4 (by omega)).2.2.2.2, (f1 4 (by omega)).2.2.2.2]
        have C1 : CI (sfi g 1 0 0) (sP S (-1) (xs4 S)) := hI.drf F2 (fi_sfi_eq _ _ _ _) (by rw [fi_sfi_nk _ _ _ _ _ (by omega)]; exact a7) (fun k hk => by rw [ia_sfi, (a2 31 (by omega)).2.2.1, (f1 31 (by omega)).2.2.1]; exact hI.2.2.2.2.2.2.2.2.1 k hk)
        have C2 := C1.swW (w := w) (f := s.1) (g := s.2) hw (by
          rw [ra_sfi, rg0, hA]
          intro k hk
          rw [ia_sfi]
          exact ⟨(a3 k hk).1, fun _ => (a3 k hk).2, fun z => by rw [(a3 k hk).2, (a4 k hk).2.2 z]; rfl⟩)
        refine TK_v (S' := sPw (sP S (-1) (xs4 S)) w s.1 s.2) (v := 0) (okS_Pw (okS_P oS (by omega)) (fun k hk => ⟨(a4 k hk).1, (a4 k hk).2.1⟩)) hM ⟨_, ?_, C2, ?_⟩ (fun h' hM' => ?_)
        · exact ((F2.mono (fun c z => by unfold Dr at z; omega)).tr (Fr.sra _ _ _ _ (by omega))).tr (Fr.sra _ _ _ _ (by omega))
        · unfold f_X11_way
          rw [c_wayIn hI.1 hw, bnd_s]
          simp only [Sum.elim_inl]
          rw [gd_t sW, k_okT hI oS hn, bnd_s]
          simp only [Sum.elim_inl]
          rw [e1, bnd_s, r10, hA, gd_t sh, w0, a1, bnd_s, bnd_s, if_pos a6, rg0, hA, gd_t sh, gd_t (by rw [w_ibN _ _ (by omega)]; omega), w_clN _ (by omega), lt_b, lt_b, ra_sfi, rg0, hA, rg4]
          unfold f_X11_written
          rw [lt_b, fi_sfi_nk _ _ _ _ _ (by omega), fi_sra, fi_sra, a6, if_pos rfl, bnd_s]
          rfl
        · obtain ⟨h2, c1, c2, c3, c4, c5, c6, -, c7⟩ := mdl h' hM'
          obtain ⟨x', d1, ⟨d2, d3, -⟩, d5⟩ := c7 s hR
          have M1 : MI2 x' (sP S (-1) (xs4 S)) (T + 1) := (hM'.drf oS (c2.tr d2.1) (by rw [d2.2.1 27 (by unfold KTe; omega)]; exact c4) (by rw [d2.2.1 36 (by unfold KTe; omega)]; exact c5) (fun k hk => by rw [d2.2.2, c3]; exact hM'.2.2.2.2.2.2.1 k hk)).le (by omega)
          obtain ⟨g4, j1, j2, j3, j4⟩ := r_l247 x' hw
          refine ⟨g4, (c2.tr d2.1).1.tr (j2.mono (fun c z => by omega)), M1.setW j2 (fun v hv k hk => ?_), ?_, ?_⟩
          · show hia g4 216 (12 * v + k) = w32 (if (if v = w then s.1 else (xw S).1 v) k = 0 then -1 else (((if v = w then s.1 else (xw S).1 v) k : Nat) : Int)) ∧ ((if v = w then s.1 else (xw S).1 v) k ≠ 0 → hia g4 217 (12 * v + k) = w32 (((if v = w then s.2 else (xw S).2 v) k : Nat) : Int))
            by_cases y : v = w
            · rw [if_pos y, if_pos y, y, (j3 k hk).1, (j3 k hk).2]
              exact d3 k hk
            · rw [if_neg y, if_neg y, (j4 (12 * v + k) (by omega)).1, (j4 (12 * v + k) (by omega)).2]
              exact M1.2.2.1 v hv k hk
          · rw [c1, d1, bnd_s, if_pos d5, j1, bnd_s]
          · rw [(j2 193 (by omega)).1, d2.2.1 2 (by unfold KTe; omega)]; exact c6
    · refine TK_x (d := 1) (c := 2) oS hM (XCx_id hI ?_) (fun h1 => rfl) (by decide) (fun h' hM' => XM_fail 2 h' hM' ?_)
      · unfold f_X11_way
        rw [c_wayIn hI.1 hw, bnd_s]
        simp only [Sum.elim_inl]
        rw [gd_t sW, k_noT hI oS r1 r2 q, bnd_s]
        rfl
      · have m27 : hfi (sfi h' 193 2 0) 193 27 = w32 (xn S) := by rw [fi_sfi_nk _ _ _ _ _ (by omega)]; exact hM'.2.2.2.1
        unfold f_X12_way f_X12_fail
        rw [lt_b, m_isWayN hw, if_pos rfl, m27]
        by_cases y : z < 0
        · rw [if_pos (show w32 z < 0 by rw [wl_0, w_lt _ _ (by omega) (by omega) (by omega) (by omega)]; omega)]; rfl
        · rw [if_neg (show ¬ w32 z < 0 by rw [wl_0, w_lt _ _ (by omega) (by omega) (by omega) (by omega)]; omega), if_neg (by rw [w_le _ _ (by omega) (by omega) (by omega) (by omega)]; omega)]; rfl
  · refine TK_x (d := 0) (c := 1) oS hM (XCx_id hI ?_) (fun h1 => rfl) (by decide) (fun h' hM' => XM_fail 1 h' hM' ?_)
    · unfold f_X11_way
      rw [c_wayOut rw1 rw2 qw, bnd_s]
      rfl
    · unfold f_X12_way f_X12_fail
      rw [lt_b, m_isWay rw1 rw2, decide_eq_false qw, if_neg (by decide)]; rfl
end WAYT
