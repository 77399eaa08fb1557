/-! a writing, begun and ended -/
def s4e (S : SV) (k : Nat) : Int32 := if k = 0 then xs4 S 0 + 1 else xs4 S k
section WRT
variable {h : AH} {S : SV} {T : Nat} {t : Nat → Nat} {n q : Nat}
theorem k_okT (hI : CI h S) (oS : okS S) {n : Nat} (hn : n ≤ xn S) : f_X11_checkOnTape (w32 (n : Nat)) h = some (.inl ((), h)) := by
  have o := oS.2.2.2.1
  unfold f_X11_checkOnTape
  rw [wl_0, if_neg (by rw [w_lt _ _ (by omega) (by omega) (by omega) (by omega)]; omega), hI.2.2.2.2.1, if_pos (by rw [w_le _ _ (by omega) (by omega) (by omega) (by omega)]; omega)]
theorem k_noT (hI : CI h S) (oS : okS S) {z : Int} (r1 : -2147483648 ≤ z) (r2 : z ≤ 2147483647) (q : ¬ (0 ≤ z ∧ z ≤ xn S)) : f_X11_checkOnTape (w32 z) h = some (.inr (1, h)) := by
  have o := oS.2.2.2.1
  unfold f_X11_checkOnTape
  rw [hI.2.2.2.2.1]
  by_cases y : z < 0
  · rw [wl_0, if_pos (by rw [w_lt _ _ (by omega) (by omega) (by omega) (by omega)]; omega)]
  · rw [wl_0, if_neg (by rw [w_lt _ _ (by omega) (by omega) (by omega) (by omega)]; omega), if_neg (by rw [w_le _ _ (by omega) (by omega) (by omega) (by omega)]; omega)]
theorem k_beg (hI : CI h S) (oS : okS S) {n : Nat} (hn : n ≤ xn S) : ∃ h1, f_X7_begin 1 (w32 (n : Nat)) h = some h1 ∧ Fr (fun c => c = 1) h h1 ∧ SC h1 (xt S) n 0 := by
  obtain ⟨h1, e1, f1, -, s1⟩ := k_begin (t := xt S) (m := xn S) hn oS.2.2.2.1 (fun j hj => ⟨hI.2.2.2.2.2.2.1 j hj, oS.2.2.2.2.1 j hj⟩)
  exact ⟨h1, e1, f1, s1⟩
theorem k_err {g : AH} {e : Nat × Nat} (hI : CI h S) (hF : Fr (Dr h) h g) (h31 : hia g 31 = hia h 31) (hE : ER g e) : ∃ g1, f_X11_written g = some (w32 (e.1 : Nat), g1) ∧ Fr (fun c => c < 193) h g1 ∧ CI g1 (sP S (e.2 : Nat) (s4e S)) := by
  have d4 := hI.1.2.1
  have d5 := hI.1.2.2.2.1
  have d6 := hI.1.2.2.2.2.2.1
  unfold isB at d4
  unfold isWy at d5
  unfold isLw at d6
  have F1 : Fr (Dr h) h (sia (sfi g 1 0 0) 31 0 (hia h 31 0 + 1)) := (hF.tr (Fr.sfi _ _ _ _ (Or.inl rfl))).tr (Fr.sia _ _ _ _ (Or.inr (Or.inl rfl)))
  refine ⟨sia (sfi g 1 0 0) 31 0 (hia h 31 0 + 1), ?_, F1.mono (fun c z => by unfold Dr at z; omega), hI.drf F1 ?_ ?_ (fun k hk => ?_)⟩
  · have ne := hE.ne
    unfold f_X11_written
    rw [lt_b, fi_sfi_nk _ _ _ _ _ (by omega), if_neg ne, gd_t (by decide), gd_t (by decide), lt_b, show cl 0 = 0 from by decide]
    show some (hfi (sfi g 1 0 0) 1 1, sia (sfi g 1 0 0) 31 0 (hia g 31 0 + 1)) = _
    rw [fi_sfi_nk _ _ _ _ _ (by omega), hE.1, h31]
  · rw [fi_sia, fi_sfi_eq]
  · rw [fi_sia, fi_sfi_nk _ _ _ _ _ (by omega)]; exact hE.2.2.2.1
  · rw [ia_sia]
    unfold s4e
    have s := hI.2.2.2.2.2.2.2.2.1
    by_cases z : k = 0
    · rw [if_pos z, if_pos z, s 0 (by omega)]
    · rw [if_neg z, if_neg z, ia_sfi, h31, s k hk]
theorem r_beg {h' : AH} (hM : MI2 h' S T) (oS : okS S) {n : Nat} (hn : n ≤ xn S) : ∃ h2, f_X12_begin (w32 (n : Nat)) (sfi h' 193 2 0) = some h2 ∧ FrD h' h2 ∧ Fr (fun c => c = 193) h' h2 ∧ hfi h2 193 27 = 0 ∧ hfi h2 193 36 = -1 ∧ hfi h2 193 2 = 0 ∧ SM h2 (xt S) n 0 := by
  unfold f_X12_begin
  rw [lt_b, lt_b, lt_b, lt_b, lt_b]
  generalize hk : sfi (sfi (sfi (sfi (sfi (sfi h' 193 2 0) 193 27 0) 193 29 (w32 (n : Nat))) 193 28 0) 193 34 0) 193 36 (-1) = k0
  have F : FK (fun k => k = 2 ∨ k = 27 ∨ k = 29 ∨ k = 28 ∨ k = 34 ∨ k = 36) h' k0 := by
    rw [← hk]
    exact (((((FK.w _ _ _ (by omega)).tr (FK.w _ _ _ (by omega))).tr (FK.w _ _ _ (by omega))).tr (FK.w _ _ _ (by omega))).tr (FK.w _ _ _ (by omega))).tr (FK.w _ _ _ (by omega))
  have g29 : hfi k0 193 29 = w32 (n : Nat) := by rw [← hk]; simp (disch := omega) only [fi_sfi_nk, fi_sfi_eq]
  have g28 : hfi k0 193 28 = w32 ((0 : Nat) : Int) := by rw [← hk]; simp (disch := omega) only [fi_sfi_nk, fi_sfi_eq]; rfl
  have g27 : hfi k0 193 27 = 0 := by rw [← hk]; simp (disch := omega) only [fi_sfi_nk, fi_sfi_eq]
  have g34 : hfi k0 193 34 = 0 := by rw [← hk]; simp (disch := omega) only [fi_sfi_nk, fi_sfi_eq]
  have g36 : hfi k0 193 36 = -1 := by rw [← hk]; simp (disch := omega) only [fi_sfi_nk, fi_sfi_eq]
  have g2 : hfi k0 193 2 = 0 := by rw [← hk]; simp (disch := omega) only [fi_sfi_nk, fi_sfi_eq]
  have T0 : TMx k0 (xt S) n := ⟨g29, by have := oS.2.2.2.1; omega, fun j hj => ⟨by rw [(F.1 219 (by omega)).2.2.1]; exact hM.2.2.2.2.2.1 j (by omega), oS.2.2.2.2.1 j (by omega)⟩⟩
  obtain ⟨h1, e1, f1, a1, a2, a3, a4, a5⟩ := r_step T0 (Nat.zero_le n) g28
  have k : ∀ k, (k = 2 ∨ k = 27 ∨ k = 34 ∨ k = 36) → hfi h1 193 k = hfi k0 193 k := fun k hk => f1.2 k (by unfold KTo; omega)
  exact ⟨h1, by rw [e1, bnd_s], (FrD.fk F (fun k hk => by omega)).tr (FrD.fk f1 (fun k hk => by unfold KTo at hk; omega)), F.1.tr f1.1, (k 27 (by omega)).trans g27, (k 36 (by omega)).trans g36, (k 2 (by omega)).trans g2, T0.fk f1 (by unfold KTo; omega), Nat.zero_le _, (k 34 (by omega)).trans g34, a1, a2, a3, a4, a5⟩
theorem r_err {h' g : AH} {e : Nat × Nat} (oS : okS S) (hM : MI2 h' S T) (hF : FrD h' g) (h27 : hfi g 193 27 = 0) (h2 : hfi g 193 2 = 0) (h218 : hia g 218 = hia h' 218) (hE : EM g e) : ∃ g1, f_X12_fallen g = some (w32 (e.1 : Nat), g1) ∧ Fr (fun c => 193 ≤ c ∧ c ≤ 235) h' g1 ∧ MI2 g1 (sP S (e.2 : Nat) (s4e S)) (T + 1) ∧ hfi g1 193 2 = 0 := by
  have F1 : FrD h' (sia (sfi g 193 36 (w32 (e.2 : Nat))) 218 0 (xs4 S 0 + 1)) := (hF.tr (FrD.fl _ _ _ (by omega))).tr (FrD.w _ _ _ _ (by omega))
  have s := hM.2.2.2.2.2.2.1
  refine ⟨sia (sfi g 193 36 (w32 (e.2 : Nat))) 218 0 (xs4 S 0 + 1), ?_, F1.1, (hM.drf oS F1 ?_ ?_ (fun k hk => ?_)).le (by omega), ?_⟩
  · unfold f_X12_fallen
    rw [lt_b, hE.2.2.2, gd_t (by decide), gd_t (by decide), lt_b, show cl 0 = 0 from by decide, ia_sfi, h218, s 0 (by omega), fi_sia, fi_sfi_nk _ _ _ _ _ (by omega), hE.1]
  · rw [fi_sia, fi_sfi_nk _ _ _ _ _ (by omega)]; exact h27
  · rw [fi_sia, fi_sfi_eq]
  · rw [ia_sia]
    unfold s4e
    by_cases z : k = 0
    · rw [if_pos z, if_pos z]
    · rw [if_neg z, if_neg z, ia_sfi, h218, s k hk]
  · rw [fi_sia, fi_sfi_nk _ _ _ _ _ (by omega)]; exact h2
theorem r_l176 (h : AH) : ∃ h1, f_X12_law_l176 FU 0 h = some h1 ∧ Fr (fun c => c = 215) h h1 ∧ hia h1 215 0 = hia h 215 3 ∧ hia h1 215 1 = hia h 215 4 ∧ hia h1 215 2 = hia h 215 5 := by
  refine ⟨sia (sia (sia h 215 0 (hia h 215 3)) 215 1 (hia h 215 4)) 215 2 (hia h 215 5), ?_, ((Fr.sia (W := fun c => c = 215) _ _ _ _ rfl).tr (Fr.sia (W := fun c => c = 215) _ _ _ _ rfl)).tr (Fr.sia (W := fun c => c = 215) _ _ _ _ rfl), ?_, ?_, ?_⟩
  · show f_X12_law_l176 (996 + 1 + 1 + 1 + 1) 0 h = _
    rw [f_X12_law_l176, if_neg (by decide), gd_t (by decide), gd_t (by decide), lt_b, f_X12_law_l176, if_neg (by decide), gd_t (by decide), gd_t (by decide), lt_b, f_X12_law_l176, if_neg (by decide), gd_t (by decide), gd_t (by decide), lt_b, f_X12_law_l176, if_pos (by decide), show cl 0 = 0 from by decide, show cl (3 + 0) = 3 from by decide, show cl (0 + 1) = 1 from by decide, show cl (3 + (0 + 1)) = 4 from by decide, show cl (0 + 1 + 1) = 2 from by decide, show cl (3 + (0 + 1 + 1)) = 5 from by decide]
    simp (disch := omega) only [ia_sia_nk]
  · simp (disch := omega) only [ia_sia_nk, ia_sia_eq]
  · simp (disch := omega) only [ia_sia_nk, ia_sia_eq]
  · simp (disch := omega) only [ia_sia_nk, ia_sia_eq]
def ls0 : LS2 := (fun k => if k = 0 then 2 else if k = 1 then 20 else 3, fun _ => false)
theorem t_law (x : Int32) (hI : CI h S) (oS : okS S) (hM : MI2 h S T) : TK (f_L_law x h) (f_X12_law x) T := by
  unfold f_L_law
  have oN := oS.2.2.2.1
  obtain ⟨z, rfl, r1, r2⟩ := w_ex x
  by_cases q : 0 ≤ z ∧ z ≤ xn S
  · obtain ⟨n, rfl, hn⟩ := nat_of (n := xn S) q
    obtain ⟨h1, e1, f1, s1⟩ := k_beg hI oS hn
    have d4 := hI.1.2.1
    have d5 := hI.1.2.2.2.1
    have d6 := hI.1.2.2.2.2.2.1
    have sh := isLw_sh d6
    have sh3 := isLw_sh hI.1.2.2.2.2.1
    unfold isB at d4
    unfold isWy at d5
    unfold isLw at d6
    generalize hA : hra h 0 6 = A at *
    have r10 : hra h1 0 = hra h 0 := (f1 0 (by omega)).2.2.2.2
    -- the class's lines
    have fw : ∀ (g : AH) (j : Nat) (v : Int32), Fr (fun c => c = 1 ∨ c = A) g (sfi g A j v) := fun g j v => Fr.sfi _ _ _ _ (Or.inr rfl)
    have n1 : ∀ (g : AH) (j : Nat) (v : Int32), hfi (sfi g A j v) 1 = hfi g 1 := fun g j v => fi_sfi_ne _ _ _ _ _ (by omega)
    have P0 : PL h1 A ls0 (sfi (sfi (sfi (sfi h1 A 0 2) A 1 20) A 2 3) A 3 0) := by
      refine ⟨(((fw _ _ _).tr (fw _ _ _)).tr (fw _ _ _)).tr (fw _ _ _), fun k hk => ?_, ?_, by unfold okl ls0; decide⟩
      · rcases (show k = 0 ∨ k = 1 ∨ k = 2 by omega) with rfl | rfl | rfl <;> simp (disch := omega) only [fi_sfi_nk, fi_sfi_eq] <;> rfl
      · rw [fi_sfi_eq]; rfl
    have S0 : SC (sfi (sfi (sfi (sfi h1 A 0 2) A 1 20) A 2 3) A 3 0) (xt S) n 0 := s1.fr (by rw [n1, n1, n1, n1]) rfl
    obtain ⟨kE, kS⟩ := k_lines (Ln := lawL (xt S) n) (W := f_X5_writeLine A 1) (L := fun f v g => f_X5_write_l23 A 1 f v g) (P := PL h1 A) (Q := fun g => Fr (fun c => c = 1 ∨ c = A) h1 g) (show n ≤ 500 by omega) (fun f v g => by rw [f_X5_write_l23]) (fun s q g e hP hs _ hl => (k_lawL (by omega) hP hs).1 e hl) (fun s q g s' q' hP hs _ hl => (k_lawL (by omega) hP hs).2 s' q' hl) (n + 1) ls0 0 _ 0 FU (by omega) (by unfold FU; omega) (Nat.le_refl _) P0 S0
    have w0 : f_X5_write A 1 h1 = bnd (f_X5_write_l23 A 1 FU 0 (sfi (sfi (sfi (sfi h1 A 0 2) A 1 20) A 2 3) A 3 0)) (fun q9 => some q9) := rfl
    have mD : ∀ {g g1 : AH}, Fr (fun c => c = 1 ∨ c = A) g g1 → Fr (Dr h) g g1 := fun f => f.mono (fun c z => by unfold Dr; omega)
    have m1 : Fr (Dr h) h h1 := f1.mono (fun c z => Or.inl z)
    -- the reference's lines
    have mdl : ∀ h', MI2 h' S T → ∃ h2, f_X12_law (w32 (n : Nat)) h' = bnd (f_X12_law_l52 FU 0 h2) (fun q35 => if (hfi q35 193 34) = 0 then bnd (f_X12_law_l176 FU 0 q35) (fun q41 => some (0, q41)) else bnd (f_X12_fallen q35) (fun q42 => some (q42.1, q42.2))) ∧ FrD h' h2 ∧ hia h2 218 = hia h' 218 ∧ hfi h2 193 27 = 0 ∧ hfi h2 193 36 = -1 ∧ hfi h2 193 2 = 0 ∧ ((∀ e, itR (xt S) n (lawL (xt S) n) (n + 1) ls0 0 = .inl e → ∃ g, f_X12_law_l52 FU 0 h2 = some g ∧ EM g e ∧ FrG h2 g) ∧ (∀ s', itR (xt S) n (lawL (xt S) n) (n + 1) ls0 0 = .inr s' → ∃ x' : Int32 × AH, f_X12_law_l52 FU 0 h2 = some x'.2 ∧ PLM h2 s' x' ∧ hfi x'.2 193 34 = 0)) := by
      intro h' hM'
      obtain ⟨k1, e1, f1, g1, g27, g36, g2, s1⟩ := r_beg hM' oS hn
      have m27 : hfi (sfi h' 193 2 0) 193 27 = w32 (xn S) := by rw [fi_sfi_nk _ _ _ _ _ (by omega)]; exact hM'.2.2.2.1
      have G0 : FrG k1 (sia (sia (sia k1 215 3 2) 215 4 20) 215 5 3) := ((FrG.w _ _ _ _ (by omega)).tr (FrG.w _ _ _ _ (by omega))).tr (FrG.w _ _ _ _ (by omega))
      have S2 : SM (sia (sia (sia k1 215 3 2) 215 4 20) 215 5 3) (xt S) n 0 := s1.fr rfl (by rw [ia_sia_ne _ _ _ _ _ (by omega), ia_sia_ne _ _ _ _ _ (by omega), ia_sia_ne _ _ _ _ _ (by omega)])
      refine ⟨sia (sia (sia k1 215 3 2) 215 4 20) 215 5 3, ?_, f1.tr G0.1, by rw [G0.2.2]; exact (g1 218 (by omega)).2.2.1, by rw [G0.2.1 27 (by unfold KTe; omega)]; exact g27, by rw [G0.2.1 36 (by unfold KTe; omega)]; exact g36, by rw [G0.2.1 2 (by unfold KTe; omega)]; exact g2, ?_⟩
      · unfold f_X12_law
        rw [lt_b, if_neg (show ¬ w32 (n : Nat) < 0 by rw [wl_0, w_lt _ _ (by omega) (by omega) (by omega) (by omega)]; omega), m27, if_pos (by rw [w_le _ _ (by omega) (by omega) (by omega) (by omega)]; omega), e1, bnd_s, gd_t (by decide), lt_b, gd_t (by decide), lt_b, gd_t (by decide), lt_b, show cl 3 = 3 from by decide, show cl 4 = 4 from by decide, show cl 5 = 5 from by decide]
      · have R := r_lines (t := xt S) (n := n) (Ln := lawL (xt S) n) (L := fun f (x : Int32 × AH) => f_X12_law_l52 f x.1 x.2) (H := Prod.snd) (P := PLM (sia (sia (sia k1 215 3 2) 215 4 20) 215 5 3)) (Q := FrG (sia (sia (sia k1 215 3 2) 215 4 20) 215 5 3)) (fun f x ne => by
            show f_X12_law_l52 (f + 1) x.1 x.2 = _
            rw [f_X12_law_l52, if_neg ne]) (fun f x q sm z => by
            show f_X12_law_l52 (f + 1) x.1 x.2 = _
            rw [f_X12_law_l52, if_pos sm.2.2.1, if_pos (by rw [sm.zero]; exact z)]) (fun f s q x e hP sm tz hl => by
            obtain ⟨v', h', a1, a2, a3⟩ := (r_lawL (f := f) (v2 := x.1) hP sm tz).1 e hl
            exact ⟨(v', h'), a1, a2, a3⟩) (fun f s q x s' q' hP sm tz hl => by
            obtain ⟨v', h', a1, a2, a3, a4⟩ := (r_lawL (f := f) (v2 := x.1) hP sm tz).2 s' q' hl
            exact ⟨(v', h'), a1, a2, a3, a4⟩) (n + 1) ls0 0 (0, sia (sia (sia k1 215 3 2) 215 4 20) 215 5 3) FU (by omega) (by unfold FU; omega) ⟨FrG.rf, fun k hk => by
            show hia (sia (sia (sia k1 215 3 2) 215 4 20) 215 5 3) 215 (3 + k) = _
            rcases (show k = 0 ∨ k = 1 ∨ k = 2 by omega) with rfl | rfl | rfl <;> simp (disch := omega) only [ia_sia_nk, ia_sia_eq] <;> rfl, rfl⟩ S2
        exact R
    cases hR : itR (xt S) n (lawL (xt S) n) (n + 1) ls0 0 with
    | inl e =>
      obtain ⟨g, a1, a2, a3⟩ := kE e hR
      have a1 : f_X5_write_l23 A 1 FU 0 (sfi (sfi (sfi (sfi h1 A 0 2) A 1 20) A 2 3) A 3 0) = some g := a1
      have e2 : e.2 ≤ 500 := a2.2.2.2.2
      have F2 : Fr (Dr h) h g := m1.tr (mD a3)
      obtain ⟨g1, b1, b2, b3⟩ := k_err hI F2 (by rw [(a3 31 (by omega)).2.2.1, (f1 31 (by omega)).2.2.1]) a2
      refine TK_v (S' := sP S (e.2 : Nat) (s4e S)) (v := w32 (e.1 : Nat)) (okS_P oS (by omega)) hM ⟨g1, b2, b3, ?_⟩ (fun h' hM' => ?_)
      · unfold f_X11_law
        rw [k_okT hI oS hn, bnd_s]
        simp only [Sum.elim_inl]
        rw [e1, bnd_s, r10, hA, gd_t sh, w0, a1, bnd_s, bnd_s, if_neg a2.ne, b1, bnd_s]
      · obtain ⟨h2, c1, c2, c3, c4, c5, c6, c7, -⟩ := mdl h' hM'
        obtain ⟨g2, d1, d2, d3⟩ := c7 e hR
        obtain ⟨g3, d4, d5, d6, d7⟩ := r_err oS hM' (c2.tr d3.1) (by rw [d3.2.1 27 (by unfold KTe; omega)]; exact c4) (by rw [d3.2.1 2 (by unfold KTe; omega)]; exact c6) (by rw [d3.2.2]; exact c3) d2
        exact ⟨g3, d5, d6, by rw [c1, d1, bnd_s, if_neg d2.ne, d4, bnd_s], d7⟩
    | inr s =>
      obtain ⟨g, a1, ⟨a2, a3, a4, a5⟩, a6, a7⟩ := kS s hR
      have a1 : f_X5_write_l23 A 1 FU 0 (sfi (sfi (sfi (sfi h1 A 0 2) A 1 20) A 2 3) A 3 0) = some g := a1
      have F2 : Fr (Dr h) h (sfi g 1 0 0) := (m1.tr (mD a2)).tr (Fr.sfi _ _ _ _ (Or.inl rfl))
      have rg0 : hra g 0 = hra h 0 := by rw [(a2 0 (by omega)).2.2.2.2, r10]
      have C1 : CI (sfi g 1 0 0) (sP S (-1) (xs4 S)) := hI.drf F2 (fi_sfi_eq _ _ _ _) (by rw [fi_sfi_nk _ _ _ _ _ (by omega)]; exact a7) (fun k hk => by rw [ia_sfi, (a2 31 (by omega)).2.2.1, (f1 31 (by omega)).2.2.1]; exact hI.2.2.2.2.2.2.2.2.1 k hk)
      have C2 := C1.swL (a := (s.1 0, s.1 1, s.1 2)) (by
        rw [ra_sfi, rg0, hA]
        unfold LC
        rw [fi_sfi_ne _ _ _ _ _ (by omega)]
        exact ⟨a3 0 (by omega), a3 1 (by omega), a3 2 (by omega)⟩)
      obtain ⟨o1, o2, o3, o4⟩ := a5
      refine TK_v (S' := sPa (sP S (-1) (xs4 S)) (s.1 0, s.1 1, s.1 2)) (v := 0) (okS_Pa (okS_P oS (by omega)) ⟨o1, o2, o3, o4⟩) hM ⟨_, ?_, C2, ?_⟩ (fun h' hM' => ?_)
      · exact ((F2.mono (fun c z => by unfold Dr at z; omega)).tr (Fr.sra _ _ _ _ (by omega))).tr (Fr.sra _ _ _ _ (by omega))
      · unfold f_X11_law
        rw [k_okT hI oS hn, bnd_s]
        simp only [Sum.elim_inl]
        rw [e1, bnd_s, r10, hA, gd_t sh, w0, a1, bnd_s, bnd_s, if_pos a6, rg0, hA, gd_t sh3, gd_t sh, lt_b, lt_b, ra_sfi, rg0, hA]
        unfold f_X11_written
        rw [lt_b, fi_sfi_nk _ _ _ _ _ (by omega), fi_sra, fi_sra, a6, if_pos rfl, bnd_s]
        rfl
      · obtain ⟨h2, c1, c2, c3, c4, c5, c6, -, c7⟩ := mdl h' hM'
        obtain ⟨x', d1, ⟨d2, d3, -⟩, d5⟩ := c7 s hR
        have M1 : MI2 x'.2 (sP S (-1) (xs4 S)) (T + 1) := (hM'.drf oS (c2.tr d2.1) (by rw [d2.2.1 27 (by unfold KTe; omega)]; exact c4) (by rw [d2.2.1 36 (by unfold KTe; omega)]; exact c5) (fun k hk => by rw [d2.2.2, c3]; exact hM'.2.2.2.2.2.2.1 k hk)).le (by omega)
        obtain ⟨g4, j1, j2, j3, j4, j5⟩ := r_l176 x'.2
        refine ⟨g4, (c2.tr d2.1).1.tr (j2.mono (fun c z => by omega)), M1.setL j2 ⟨?_, ?_, ?_⟩, ?_, ?_⟩
        · rw [j3]; exact d3 0 (by omega)
        · rw [j4]; exact d3 1 (by omega)
        · rw [j5]; exact d3 2 (by omega)
        · rw [c1, d1, bnd_s, if_pos d5, j1, bnd_s]
        · rw [(j2 193 (by omega)).1, d2.2.1 2 (by unfold KTe; omega)]; exact c6
  · refine TK_x (d := 1) (c := 1) oS hM (XCx_id hI ?_) (fun h1 => rfl) (by decide) (fun h' hM' => XM_fail 1 h' hM' ?_)
    · unfold f_X11_law
      rw [k_noT hI oS r1 r2 q, bnd_s]
      rfl
    · have m27 : hfi (sfi h' 193 2 0) 193 27 = w32 (xn S) := by rw [fi_sfi_nk _ _ _ _ _ (by omega)]; exact hM'.2.2.2.1
      unfold f_X12_law f_X12_fail
      rw [lt_b, m27]
      by_cases y : z < 0
      · rw [if_pos (show w32 z < 0 by rw [wl_0, w_lt _ _ (by omega) (by omega) (by omega) (by omega)]; omega)]; rfl
      · rw [if_neg (show ¬ w32 z < 0 by rw [wl_0, w_lt _ _ (by omega) (by omega) (by omega) (by omega)]; omega), if_neg (by rw [w_le _ _ (by omega) (by omega) (by omega) (by omega)]; omega)]; rfl
end WRT
