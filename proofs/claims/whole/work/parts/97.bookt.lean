section BOOKT
variable {h : AH} {S : SV} {T : Nat}
def b0 : BV := mkB 0 0 0 0 0 (fun _ => 0) (fun _ => 0) (fun _ => 0) (fun _ => 0) (fun _ => 0) (fun _ => 0) (fun _ => 0) (fun _ => 0) (fun _ => 0) (fun _ => 0) (fun _ => 0)
theorem okb_0 : okb b0 := ⟨⟨Nat.zero_le _, Nat.zero_le _, Nat.zero_le _, Nat.zero_le _, Nat.zero_le _, fun l hl => absurd hl (Nat.not_lt_zero _), fun w hw => absurd hw (Nat.not_lt_zero _), fun v w _ hw => absurd hw (Nat.not_lt_zero _), fun r hr => absurd hr (Nat.not_lt_zero _), fun hl => absurd hl (Nat.not_lt_zero _), fun l hl => absurd hl (Nat.not_lt_zero _)⟩, Nat.le_refl _, rfl⟩
theorem k_wipe (A : Nat) (h : AH) : ∃ k, f_X0_wipe A h = some k ∧ Fr (fun c => A ≤ c ∧ c ≤ A + 12) h k ∧ (∀ j, j < 6 → hfi k A j = 0) ∧ (∀ l, l < 40 → hia k (A + 8) l = -1 ∧ hia k (A + 11) l = -1) := by
  unfold f_X0_wipe
  rw [lt_b, lt_b, lt_b, lt_b, lt_b, lt_b]
  generalize hk : sfi (sfi (sfi (sfi (sfi (sfi h A 0 0) A 1 0) A 2 0) A 3 0) A 4 0) A 5 0 = k0
  have fw : ∀ (g : AH) (j : Nat) (v : Int32), Fr (fun c => A ≤ c ∧ c ≤ A + 12) g (sfi g A j v) := fun g j v => Fr.sfi _ _ _ _ (by omega)
  have F0 : Fr (fun c => A ≤ c ∧ c ≤ A + 12) h k0 := by rw [← hk]; exact (((((fw _ _ _).tr (fw _ _ _)).tr (fw _ _ _)).tr (fw _ _ _)).tr (fw _ _ _)).tr (fw _ _ _)
  have z0 : ∀ j, j < 6 → hfi k0 A j = 0 := by
    intro j hj
    rw [← hk]
    rcases (show j = 0 ∨ j = 1 ∨ j = 2 ∨ j = 3 ∨ j = 4 ∨ j = 5 by omega) with rfl | rfl | rfl | rfl | rfl | rfl <;> simp (disch := omega) only [fi_sfi_nk, fi_sfi_eq]
  unfold f_X3_wipe
  obtain ⟨k1, e1, f1, g1, -⟩ := e_fill (A + 7 + 1) 40 (-1) k0 (by omega)
  obtain ⟨k2, e2, f2, g2, -⟩ := e_fill (A + 7 + 2) 40 0 k1 (by omega)
  obtain ⟨k3, e3, f3, g3, -⟩ := e_fill (A + 10 + 1) 40 (-1) k2 (by omega)
  obtain ⟨k4, e4, f4, g4, -⟩ := e_fill (A + 10 + 2) 40 0 k3 (by omega)
  refine ⟨k4, by rw [e1, bnd_s, e2, bnd_s, bnd_s, e3, bnd_s, e4, bnd_s, bnd_s], (((F0.tr (f1.mono (fun c z => by omega))).tr (f2.mono (fun c z => by omega))).tr (f3.mono (fun c z => by omega))).tr (f4.mono (fun c z => by omega)), fun j hj => ?_, fun l hl => ⟨?_, ?_⟩⟩
  · rw [(f4 A (by omega)).1, (f3 A (by omega)).1, (f2 A (by omega)).1, (f1 A (by omega)).1]; exact z0 j hj
  · rw [(f4 (A + 8) (by omega)).2.2.1, (f3 (A + 8) (by omega)).2.2.1, (f2 (A + 8) (by omega)).2.2.1]; exact g1 l hl
  · rw [(f4 (A + 11) (by omega)).2.2.1]; exact g3 l hl
theorem t_book (x y : Int32) (hI : CI h S) (oS : okS S) (hM : MI2 h S T) (hT : T ≤ 1000) : TK (f_L_book x y h) (f_X12_book x y) T := by
  unfold f_L_book
  have oN := oS.2.2.2.1
  obtain ⟨zw, rfl, rw1, rw2⟩ := w_ex x
  obtain ⟨z, rfl, r1, r2⟩ := w_ex y
  by_cases qw : 0 ≤ zw ∧ zw ≤ 5
  · obtain ⟨b, rfl, hb⟩ := nat_of (n := 5) qw
    have hb : b < 6 := by omega
    have sB0 := isB_sh (hI.1.1 b hb).1
    by_cases q : 0 ≤ z ∧ z ≤ xn S
    · obtain ⟨n, rfl, hn⟩ := nat_of (n := xn S) q
      obtain ⟨h1, e1, f1, s1⟩ := k_beg hI oS hn
      have d4 := hI.1.2.1
      have d5 := hI.1.2.2.2.1
      have d6 := hI.1.2.2.2.2.2.1
      have sh := isB_sh d4
      unfold isB at d4
      unfold isWy at d5
      unfold isLw at d6
      generalize hA : hra h 0 4 = A at *
      have r10 : hra h1 0 = hra h 0 := (f1 0 (by omega)).2.2.2.2
      obtain ⟨k2, ke1, kf, kz, kg⟩ := k_wipe A h1
      have P0 : PBc k2 A b0 k2 := ⟨Fr.rf, ⟨kz 0 (by omega), kz 1 (by omega), kz 3 (by omega), kz 4 (by omega), kz 5 (by omega), fun l hl => absurd hl (Nat.not_lt_zero _), fun w hw => absurd hw (Nat.not_lt_zero _), fun r hr => absurd hr (Nat.not_lt_zero _)⟩, kz 2 (by omega), okb_0⟩
      have S0 : SC k2 (xt S) n 0 := s1.fr (kf 1 (by omega)).1 (kf 2 (by omega)).2.2.1
      obtain ⟨kE, kS⟩ := k_lines (Ln := bkL (xt S) n) (W := f_X0_writeLine A 1) (L := fun f v g => f_X0_write_l6 A 1 f v g) (P := PBc k2 A) (Q := fun g => Fr (WBk A) k2 g) (show n ≤ 500 by omega) (fun f v g => by rw [f_X0_write_l6]) (fun s q g e hP hs _ hl => (k_bkL (by omega) hP hs).1 e hl) (fun s q g s' q' hP hs _ hl => (k_bkL (by omega) hP hs).2 s' q' hl) (n + 1) b0 0 k2 0 FU (by omega) (by unfold FU; omega) (Nat.le_refl _) P0 S0
      have w0 : f_X0_write A 1 h1 = bnd (f_X0_write_l6 A 1 FU 0 k2) (fun q9 => some q9) := by
        unfold f_X0_write
        rw [ke1, bnd_s]
      have mD : ∀ {g g1 : AH}, Fr (WBk A) g g1 → Fr (Dr h) g g1 := fun f => f.mono (fun c z => by unfold WBk at z; unfold Dr; omega)
      have m0 : Fr (Dr h) h h1 := f1.mono (fun c z => Or.inl z)
      have m2 : Fr (Dr h) h1 k2 := kf.mono (fun c z => by show c = 1 ∨ _; omega)
      have m1 : Fr (Dr h) h k2 := m0.tr m2
      have k31 : hia k2 31 = hia h 31 := by rw [(kf 31 (by omega)).2.2.1, (f1 31 (by omega)).2.2.1]
      have nW : ∀ c, (c = 0 ∨ c = 3 ∨ c = 31 ∨ c = A + 8 ∨ c = A + 11) → ¬ WBk A c := fun c z y => by unfold WBk at y; omega
      have mdl : ∀ h', MI2 h' S T → ∃ h2, f_X12_book (w32 (b : Nat)) (w32 (n : Nat)) h' = bnd (f_X12_book_l81 FU h2) (fun q20 => if (hfi q20 193 34) = 0 then bnd (f_X12_copyBook 6 (w32 (b : Nat)) q20) (fun q22 => gd (ib (w32 (b : Nat)) 8 = true) (gd (ib (w32 (b : Nat)) 8 = true) (lt (sia q22 201 (cl (w32 (b : Nat))) ((hia q22 201 (cl (w32 (b : Nat)))) + 1)) (fun h25 => some (0, h25))))) else bnd (f_X12_fallen q20) (fun q26 => some (q26.1, q26.2))) ∧ FrD h' h2 ∧ hia h2 218 = hia h' 218 ∧ hfi h2 193 27 = 0 ∧ hfi h2 193 36 = -1 ∧ hfi h2 193 2 = 0 ∧ ((∀ e, itR (xt S) n (bkL (xt S) n) (n + 1) b0 0 = .inl e → ∃ g, f_X12_book_l81 FU h2 = some g ∧ EM g e ∧ FrG h2 g) ∧ (∀ s', itR (xt S) n (bkL (xt S) n) (n + 1) b0 0 = .inr s' → ∃ g, f_X12_book_l81 FU h2 = some g ∧ PBm h2 s' g ∧ hfi g 193 34 = 0)) := by
        intro h' hM'
        obtain ⟨k1, e1, f1, g1, g27, g36, g2, s1⟩ := r_beg hM' oS hn
        have m27 : hfi (sfi h' 193 2 0) 193 27 = w32 (xn S) := by rw [fi_sfi_nk _ _ _ _ _ (by omega)]; exact hM'.2.2.2.1
        have g68 : ib 6 8 = true := by decide
        have cl6 : cl 6 = 6 := by decide
        generalize hk3 : sia (sia (sia (sia (sia k1 196 6 0) 197 6 0) 198 6 0) 199 6 0) 200 6 0 = k3
        have G0 : FrG k1 k3 := by rw [← hk3]; exact ((((FrG.w _ _ _ _ (by omega)).tr (FrG.w _ _ _ _ (by omega))).tr (FrG.w _ _ _ _ (by omega))).tr (FrG.w _ _ _ _ (by omega))).tr (FrG.w _ _ _ _ (by omega))
        have v1 : hfi k3 193 = hfi k1 193 := by rw [← hk3]; rfl
        have v2 : hia k3 219 = hia k1 219 := by rw [← hk3]; simp (disch := omega) only [ia_sia_ne]
        have B0 : BM k3 6 b0 := by
          rw [← hk3]
          refine ⟨?_, ?_, ?_, ?_, ?_, fun l hl => absurd hl (Nat.not_lt_zero _), fun w hw => absurd hw (Nat.not_lt_zero _), fun r hr => absurd hr (Nat.not_lt_zero _)⟩ <;> simp (disch := omega) only [ia_sia_ne, ia_sia_eq] <;> rfl
        have S2 : SM k3 (xt S) n 0 := s1.fr v1 v2
        refine ⟨k3, ?_, f1.tr G0.1, by rw [G0.2.2]; exact (g1 218 (by omega)).2.2.1, by rw [v1]; exact g27, by rw [v1]; exact g36, by rw [v1]; exact g2, ?_⟩
        · unfold f_X12_book
          rw [lt_b, m_isBookN hb, if_pos rfl, if_neg (show ¬ w32 (n : Nat) < 0 by rw [wl_0, w_lt _ _ (by omega) (by omega) (by omega) (by omega)]; omega), m27, if_pos (by rw [w_le _ _ (by omega) (by omega) (by omega) (by omega)]; omega), e1, bnd_s, gd_t g68, lt_b, gd_t g68, lt_b, gd_t g68, lt_b, gd_t g68, lt_b, gd_t g68, lt_b, cl6, hk3]
        · exact r_lines (t := xt S) (n := n) (Ln := bkL (xt S) n) (L := fun f (x : AH) => f_X12_book_l81 f x) (H := id) (P := PBm k3) (Q := FrG k3) (fun f x ne => by
            show f_X12_book_l81 (f + 1) x = _
            have ne : ¬ hfi x 193 34 = 0 := ne
            rw [f_X12_book_l81, if_neg ne]; rfl) (fun f x q sm z => by
            show f_X12_book_l81 (f + 1) x = _
            have sm : SM x (xt S) n q := sm
            rw [f_X12_book_l81, if_pos sm.2.2.1, if_pos (by rw [sm.zero]; exact z)]; rfl) (fun f s q x e hP sm tz hl => by
            have sm : SM x (xt S) n q := sm
            obtain ⟨x', a1, a2, a3⟩ := (r_bkL hP sm tz).1 e hl
            refine ⟨x', ?_, a2, a3⟩
            show f_X12_book_l81 (f + 1) x = _
            rw [f_X12_book_l81, if_pos sm.2.2.1, if_neg (by rw [sm.zero]; exact tz), a1, bnd_s]) (fun f s q x s' q' hP sm tz hl => by
            have sm : SM x (xt S) n q := sm
            obtain ⟨x', a1, a2, a3, a4⟩ := (r_bkL hP sm tz).2 s' q' hl
            refine ⟨x', ?_, a2, a3, a4⟩
            show f_X12_book_l81 (f + 1) x = _
            rw [f_X12_book_l81, if_pos sm.2.2.1, if_neg (by rw [sm.zero]; exact tz), a1, bnd_s]) (n + 1) b0 0 k3 FU (by omega) (by unfold FU; omega) ⟨FrG.rf, B0, okb_0⟩ S2
      cases hR : itR (xt S) n (bkL (xt S) n) (n + 1) b0 0 with
      | inl e =>
        obtain ⟨g, a1, a2, a3⟩ := kE e hR
        have a1 : f_X0_write_l6 A 1 FU 0 k2 = some g := a1
        have e2 : e.2 ≤ 500 := a2.2.2.2.2
        have F2 : Fr (Dr h) h g := m1.tr (mD a3)
        obtain ⟨g1, b1, b2, b3⟩ := k_err hI F2 (by rw [(a3 31 (nW _ (by omega))).2.2.1, k31]) a2
        refine TK_v (S' := sP S (e.2 : Nat) (s4e S)) (v := w32 (e.1 : Nat)) (okS_P oS (by omega)) hM ⟨g1, b2, b3, ?_⟩ (fun h' hM' => ?_)
        · unfold f_X11_book
          rw [c_bookIn hI.1 hb, bnd_s]
          simp only [Sum.elim_inl]
          rw [gd_t sB0, k_okT hI oS hn, bnd_s]
          simp only [Sum.elim_inl]
          rw [e1, bnd_s, r10, hA, gd_t sh, w0, a1, bnd_s, bnd_s, if_neg a2.ne, b1, bnd_s]
        · obtain ⟨h2, c1, c2, c3, c4, c5, c6, c7, -⟩ := mdl h' hM'
          obtain ⟨g2, d1, d2, d3⟩ := c7 e hR
          obtain ⟨g3, d4, d5, d6, d7⟩ := r_err oS hM' (c2.tr d3.1) (by rw [d3.2.1 27 (by unfold KTe; omega)]; exact c4) (by rw [d3.2.1 2 (by unfold KTe; omega)]; exact c6) (by rw [d3.2.2]; exact c3) d2
          exact ⟨g3, d5, d6, by rw [c1, d1, bnd_s, if_neg d2.ne, d4, bnd_s], d7⟩
      | inr s =>
        obtain ⟨g, a1, ⟨a2, a3, a4, a5⟩, a6, a7⟩ := kS s hR
        have a1 : f_X0_write_l6 A 1 FU 0 k2 = some g := a1
        have F2 : Fr (Dr h) h (sfi g 1 0 0) := (m1.tr (mD a2)).tr (Fr.sfi _ _ _ _ (Or.inl rfl))
        have rg0 : hra g 0 = hra h 0 := by rw [(a2 0 (nW _ (by omega))).2.2.2.2, (kf 0 (by omega)).2.2.2.2, r10]
        have rg3 : hra g 3 = hra h 3 := by rw [(a2 3 (nW _ (by omega))).2.2.2.2, (kf 3 (by omega)).2.2.2.2, (f1 3 (by omega)).2.2.2.2]
        have C1 : CI (sfi g 1 0 0) (sP S (-1) (xs4 S)) := hI.drf F2 (fi_sfi_eq _ _ _ _) (by rw [fi_sfi_nk _ _ _ _ _ (by omega)]; exact a7) (fun k hk => by rw [ia_sfi, (a2 31 (nW _ (by omega))).2.2.1, k31]; exact hI.2.2.2.2.2.2.2.2.1 k hk)
        have oL := a5.1.1
        have C2 := C1.swB (b := b) (β := s) hb (by
          rw [ra_sfi, rg0, hA]
          exact a3.fr (W := fun c => c = 1) (Fr.sfi _ _ _ _ rfl) (fun c z1 z2 z3 => by omega)) (fun l hl => by
          rw [ra_sfi, rg0, hA, ia_sfi, (a2 (A + 8) (nW _ (by omega))).2.2.1, (a2 (A + 11) (nW _ (by omega))).2.2.1]
          exact kg l (by omega)) (by
          rw [ra_sfi, rg0, hA, fi_sfi_ne _ _ _ _ _ (by omega)]
          exact a4)
        refine TK_v (S' := sPb (sP S (-1) (xs4 S)) b s) (v := 0) (okS_Pb (okS_P oS (by omega)) a5.1) hM ⟨_, ?_, C2, ?_⟩ (fun h' hM' => ?_)
        · exact ((F2.mono (fun c z => by unfold Dr at z; omega)).tr (Fr.sra _ _ _ _ (by omega))).tr (Fr.sra _ _ _ _ (by omega))
        · unfold f_X11_book
          rw [c_bookIn hI.1 hb, bnd_s]
          simp only [Sum.elim_inl]
          rw [gd_t sB0, k_okT hI oS hn, bnd_s]
          simp only [Sum.elim_inl]
          rw [e1, bnd_s, r10, hA, gd_t sh, w0, a1, bnd_s, bnd_s, if_pos a6, rg0, hA, gd_t sh, gd_t (by rw [w_ibN _ _ (by omega)]; omega), w_clN _ (by omega), lt_b, lt_b, ra_sfi, rg0, hA, rg3]
          unfold f_X11_written
          rw [lt_b, fi_sfi_nk _ _ _ _ _ (by omega), fi_sra, fi_sra, a6, if_pos rfl, bnd_s]
          rfl
        · obtain ⟨h2, c1, c2, c3, c4, c5, c6, -, c7⟩ := mdl h' hM'
          obtain ⟨x', d1, ⟨d2, d3, d4⟩, d5⟩ := c7 s hR
          have M1 : MI2 x' (sP S (-1) (xs4 S)) T := hM'.drf oS (c2.tr d2.1) (by rw [d2.2.1 27 (by unfold KTe; omega)]; exact c4) (by rw [d2.2.1 36 (by unfold KTe; omega)]; exact c5) (fun k hk => by rw [d2.2.2, c3]; exact hM'.2.2.2.2.2.2.1 k hk)
          obtain ⟨g4, j1, j2, j3, j4, j5, j6⟩ := m_copy (f := 6) (t := b) (by omega) (by omega) (by omega) d3 d4.1
          have j1 : f_X12_copyBook 6 (w32 (b : Nat)) x' = some g4 := j1
          have M2 := MI2.setB (b := b) (β := s) hb (okS_P oS (by omega)) (by omega) M1 j3 (j2 218 (by unfold WB; omega)).2.2.1 j4 (fun l hl => j6 l (by omega))
          refine ⟨sia g4 201 b (hia g4 201 b + 1), ((c2.tr d2.1).1.tr (j2.mono (fun c z => by unfold WB at z; omega))).tr (Fr.sia _ _ _ _ (by omega)), M2, ?_, ?_⟩
          · rw [c1, d1, bnd_s, if_pos d5, j1, bnd_s, gd_t (by rw [w_ibN _ _ (by omega)]; omega), gd_t (by rw [w_ibN _ _ (by omega)]; omega), lt_b, w_clN _ (by omega)]
          · rw [fi_sia, (j2 193 (by unfold WB; omega)).1, d2.2.1 2 (by unfold KTe; omega)]; exact c6
    · refine TK_x (d := 1) (c := 2) oS hM (XCx_id hI ?_) (fun h1 => rfl) (by decide) (fun h' hM' => XM_fail 2 h' hM' ?_)
      · unfold f_X11_book
        rw [c_bookIn hI.1 hb, bnd_s]
        simp only [Sum.elim_inl]
        rw [gd_t sB0, k_noT hI oS r1 r2 q, bnd_s]
        rfl
      · have m27 : hfi (sfi h' 193 2 0) 193 27 = w32 (xn S) := by rw [fi_sfi_nk _ _ _ _ _ (by omega)]; exact hM'.2.2.2.1
        unfold f_X12_book f_X12_fail
        rw [lt_b, m_isBookN hb, if_pos rfl, m27]
        by_cases y : z < 0
        · rw [if_pos (show w32 z < 0 by rw [wl_0, w_lt _ _ (by omega) (by omega) (by omega) (by omega)]; omega)]; rfl
        · rw [if_neg (show ¬ w32 z < 0 by rw [wl_0, w_lt _ _ (by omega) (by omega) (by omega) (by omega)]; omega), if_neg (by rw [w_le _ _ (by omega) (by omega) (by omega) (by omega)]; omega)]; rfl
  · refine TK_x (d := 0) (c := 1) oS hM (XCx_id hI ?_) (fun h1 => rfl) (by decide) (fun h' hM' => XM_fail 1 h' hM' ?_)
    · unfold f_X11_book
      rw [c_bookOut rw1 rw2 qw, bnd_s]
      rfl
    · unfold f_X12_book f_X12_fail
      rw [lt_b, m_isBook rw1 rw2, decide_eq_false qw, if_neg (by decide)]; rfl
end BOOKT
