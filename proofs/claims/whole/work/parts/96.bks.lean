section BKS
variable {h h0 : AH} {t : Nat → Nat} {n q : Nat} {β : BV}
def rsJ (v : Int32) (h17 : AH) : Option AH := bnd (f_X12_readNumber 1 999 h17) (fun q18 => if (hfi q18.2 193 34) = 0 then gd (ib (f_X12_at 6 v) 320 = true) (lt (sia q18.2 207 (cl (f_X12_at 6 v)) q18.1) (fun h21 => some h21)) else some q18.2)
def rsK (h13 : AH) : Option AH := if (hfi h13 193 34) = 0 then bnd (f_X12_stepOn h13) (fun q16 => rsJ (hfi h13 193 31) q16) else rsJ (hfi h13 193 31) h13
theorem r_sp0 : f_X12_readSpilt h = if (hfi h 193 34) = 0 then (if (hfi h 193 30) = 2 then if ((hfi h 193 33) - (hfi h 193 32)) ≤ 4 then gd (ib 6 8 = true) (if (hfi h 193 31) < (hia h 196 (cl 6)) then gd (ib (f_X12_at 6 (hfi h 193 31)) 320 = true) (if (hia h 207 (cl (f_X12_at 6 (hfi h 193 31)))) ≤ 0 then rsK h else bnd (f_X12_wrong 5 h) (fun q9 => rsK q9)) else bnd (f_X12_wrong 3 h) (fun q10 => rsK q10)) else bnd (f_X12_wrong 2 h) (fun q11 => rsK q11) else bnd (f_X12_wrong 1 h) (fun q12 => rsK q12)) else some h := rfl
theorem EM.rsK {e : Nat × Nat} (x : EM h e) : rsK h = some h := by
  unfold Jvm.Pilot.CThumbBookLaw_law_r9791_0ea6f9.rsK rsJ
  rw [if_neg x.ne, x.num, bnd_s, if_neg x.ne]
/-- the reference: spilt -/
theorem r_spl (hP : PBm h0 β h) (x : SM h t n q) : (∀ e, bkS t n β q = .inl e → ∃ h1, f_X12_readSpilt h = some h1 ∧ EM h1 e ∧ FrG h0 h1) ∧ (∀ β' q', bkS t n β q = .inr (β', q') → ∃ h1, f_X12_readSpilt h = some h1 ∧ SM h1 t n q' ∧ PBm h0 β' h1 ∧ q ≤ q') := by
  have hn := x.1.2.1
  have hq := x.2.1
  have rq1 := ten_ge (t := t) hq
  have rq2 := ten_ge (t := t) rq1.2
  have tg := tok_rg (t := t) hq
  have oB := hP.2.2.1
  have oL := oB.1
  have g68 : ib 6 8 = true := by decide
  have cl6 : cl 6 = 6 := by decide
  have wr : ∀ c, 1 ≤ c ∧ c ≤ 5 → ∃ h1, f_X12_wrong (w32 (c : Nat)) h = some h1 ∧ rsK h1 = some h1 ∧ EM h1 (c, tst t n q) ∧ FrG h0 h1 := fun c hc => by
    obtain ⟨h1, e1, f1, s1, -⟩ := x.wrong hc
    exact ⟨h1, e1, s1.rsK, s1, hP.1.tr (FrG.ke f1)⟩
  rw [r_sp0, if_pos x.2.2.1]
  unfold bkS
  cases hx : pn t n 0 9999 q with
  | inl e0 =>
    refine ⟨fun e he => ?_, fun b' q' he => (by cases he)⟩
    cases he
    rcases pn_e hx with ⟨z, rfl⟩ | ⟨z, rfl, y⟩
    · rw [if_neg (by rw [x.2.2.2.2.1, wl_2, w_eq _ _ (by omega) (by omega) (by omega) (by omega)]; omega)]
      obtain ⟨h1, e1, e2, e3, e4⟩ := wr 1 (by omega)
      have e1 : f_X12_wrong 1 h = some h1 := e1
      exact ⟨h1, by rw [e1, bnd_s, e2], e3, e4⟩
    · obtain ⟨v1, v2, v3, v4⟩ := r_val x z
      have n4 : 4 < ten t n q - tst t n q := Classical.byContradiction (fun n4 => by
        obtain ⟨v, w1, w2, w3⟩ := v3 n4
        exact y ⟨by omega, by omega⟩)
      rw [if_pos v1, if_neg (by rw [x.2.2.2.2.2.2.1, x.2.2.2.2.2.1, w_sub, wl_4, w_le _ _ (by omega) (by omega) (by omega) (by omega)]; omega)]
      obtain ⟨h1, e1, e2, e3, e4⟩ := wr 2 (by omega)
      have e1 : f_X12_wrong 2 h = some h1 := e1
      exact ⟨h1, by rw [e1, bnd_s, e2], e3, e4⟩
  | inr j =>
    have jr := pn_rg hx
    obtain ⟨l1, l2, l3⟩ := r_look x (by omega) hx
    have tv := pn_v hx
    obtain ⟨v1, v2, v3, v4⟩ := r_val x tv.2
    have n4 : ¬ 4 < ten t n q - tst t n q := fun y => by have := v4 y; omega
    have d1 := hP.2.1.1
    rw [if_pos l1, if_pos (by rw [x.2.2.2.2.2.2.1, x.2.2.2.2.2.1, w_sub, wl_4, w_le _ _ (by omega) (by omega) (by omega) (by omega)]; omega), gd_t g68, cl6, d1, l3]
    dsimp only
    by_cases zL : j < vL β
    · have oj := oB.2.2.2.2.2.1 j zL
      have d6 := hP.2.1.2.2.2.2.2.1 j zL
      have eat : f_X12_at 6 (w32 (j : Nat)) = w32 ((40 * 6 + j : Nat) : Int) := e_at 6 j
      rw [if_pos zL, if_pos (show w32 (j : Nat) < w32 (vL β : Nat) by rw [w_lt _ _ (by omega) (by omega) (by omega) (by omega)]; omega), eat, gd_t (by rw [w_ibN _ _ (by omega)]; omega), w_clN _ (by omega), d6.2.2.2.2.2]
      by_cases zs : vs β j ≠ 0
      · rw [if_pos zs, if_neg (by rw [wl_0, w_le _ _ (by omega) (by omega) (by omega) (by omega)]; omega)]
        refine ⟨fun e he => ?_, fun b' q' he => (by cases he)⟩
        cases he
        obtain ⟨h1, e1, e2, e3, e4⟩ := wr 5 (by omega)
        have e1 : f_X12_wrong 5 h = some h1 := e1
        exact ⟨h1, by rw [e1, bnd_s, e2], e3, e4⟩
      · rw [if_neg zs, if_pos (by rw [wl_0, w_le _ _ (by omega) (by omega) (by omega) (by omega)]; omega)]
        unfold rsK rsJ
        obtain ⟨h2, e2, f2, s2⟩ := x.step
        have P2 := hP.ke f2
        rw [if_pos x.2.2.1, e2, bnd_s, l3, eat]
        have N2 := s2.num (lo := 1) (hi := 999) (by omega) (by omega)
        cases hy : pn t n 1 999 (ten t n q) with
        | inl e0 =>
          refine ⟨fun e he => ?_, fun b' q' he => (by cases he)⟩
          cases he
          obtain ⟨v3, h3, e3, f3, s3⟩ := N2.2 e0 hy
          exact ⟨h3, by rw [show f_X12_readNumber 1 999 h2 = _ from e3, bnd_s, if_neg s3.ne], s3, P2.1.tr (FrG.ke f3)⟩
        | inr v =>
          obtain ⟨h3, e3, f3, s3⟩ := N2.1 v hy
          have vr := pn_rg hy
          have P3 := P2.ke f3
          refine ⟨fun e he => (by cases he), fun b' q' he => ?_⟩
          cases he
          refine ⟨sia h3 207 (40 * 6 + j) (w32 (v : Nat)), ?_, s3.fr rfl (ia_sia_ne _ _ _ _ _ (by omega)), ⟨P3.1.tr (FrG.w _ _ _ _ (by omega)), ?_, okb_sp hP.2.2 vr.2.1⟩, by omega⟩
          · rw [show f_X12_readNumber 1 999 h2 = _ from e3, bnd_s, if_pos s3.2.2.1, gd_t (by rw [w_ibN _ _ (by omega)]; omega), w_clN _ (by omega)]
            rfl
          · obtain ⟨d1, d2, d3, d4, d5, d6, d7, d8⟩ := P3.2.1
            refine ⟨?_, ?_, ?_, ?_, ?_, fun l hl => ?_, fun w hw => ?_, fun r hr => ?_⟩
            · simp (disch := omega) only [ia_sia_ne]; exact d1
            · simp (disch := omega) only [ia_sia_ne]; exact d2
            · simp (disch := omega) only [ia_sia_ne]; exact d3
            · simp (disch := omega) only [ia_sia_ne]; exact d4
            · simp (disch := omega) only [ia_sia_ne]; exact d5
            · show _ ∧ _ ∧ _ ∧ _ ∧ _ ∧ _ = w32 (upF (vs β) j v l : Nat)
              simp (disch := omega) only [ia_sia_ne]
              obtain ⟨c1, c2, c3, c4, c5, c6⟩ := d6 l hl
              refine ⟨c1, c2, c3, c4, c5, ?_⟩
              by_cases z : l = j
              · rw [z, ia_sia_eq, upF_eq]
              · rw [ia_sia_nk _ _ _ _ _ (by omega), upF_ne _ _ z]; exact c6
            · simp (disch := omega) only [ia_sia_ne]; exact d7 w hw
            · simp (disch := omega) only [ia_sia_ne]; exact d8 r hr
    · rw [if_neg zL, if_neg (show ¬ w32 (j : Nat) < w32 (vL β : Nat) by rw [w_lt _ _ (by omega) (by omega) (by omega) (by omega)]; omega)]
      refine ⟨fun e he => ?_, fun b' q' he => (by cases he)⟩
      cases he
      obtain ⟨h1, e1, e2, e3, e4⟩ := wr 3 (by omega)
      have e1 : f_X12_wrong 3 h = some h1 := e1
      exact ⟨h1, by rw [e1, bnd_s, e2], e3, e4⟩
def rwJ (i : Int32) (h11 : AH) : Option AH := bnd (f_X12_readNumber 0 500 h11) (fun q12 => bnd (f_X12_readNumber 1 99 q12.2) (fun q13 => gd (ib i 32 = true) (lt (sia q13.2 210 (cl i) q12.1) (fun h15 => gd (ib i 32 = true) (lt (sia h15 211 (cl i) q13.1) (fun h17 => gd (ib 6 8 = true) (gd (ib 6 8 = true) (lt (sia h17 199 (cl 6) ((hia h17 199 (cl 6)) + 1)) (fun h20 => some h20)))))))))
theorem r_ws0 : f_X12_readWashed h = gd (ib 6 8 = true) (if (hfi h 193 34) = 0 then if (hfi h 193 30) = 2 then if 4 < ((hfi h 193 33) - (hfi h 193 32)) then rwJ (24 + (hia h 199 (cl 6))) h else if 500 < (hfi h 193 31) then rwJ (24 + (hia h 199 (cl 6))) h else if (hia h 199 (cl 6)) ≤ 0 then rwJ (24 + (hia h 199 (cl 6))) h else gd (ib ((24 + (hia h 199 (cl 6))) - 1) 32 = true) (if (hia h 210 (cl ((24 + (hia h 199 (cl 6))) - 1))) < (hfi h 193 31) then rwJ (24 + (hia h 199 (cl 6))) h else bnd (f_X12_wrong 4 h) (fun q10 => rwJ (24 + (hia h 199 (cl 6))) q10)) else rwJ (24 + (hia h 199 (cl 6))) h else rwJ (24 + (hia h 199 (cl 6))) h) := rfl
theorem r_wsw {W : Nat} (hW : W < 4) (g : AH) (a b : Int32) : ∃ g1, gd (ib (w32 ((24 + W : Nat) : Int)) 32 = true) (lt (sia g 210 (cl (w32 ((24 + W : Nat) : Int))) a) (fun h15 => gd (ib (w32 ((24 + W : Nat) : Int)) 32 = true) (lt (sia h15 211 (cl (w32 ((24 + W : Nat) : Int))) b) (fun h17 => gd (ib 6 8 = true) (gd (ib 6 8 = true) (lt (sia h17 199 (cl 6) ((hia h17 199 (cl 6)) + 1)) (fun h20 => some h20))))))) = some g1 ∧ g1 = sia (sia (sia g 210 (24 + W) a) 211 (24 + W) b) 199 6 (hia g 199 6 + 1) ∧ FrG g g1 := by
  have g68 : ib 6 8 = true := by decide
  have cl6 : cl 6 = 6 := by decide
  refine ⟨_, ?_, rfl, ((FrG.w _ _ _ _ (by omega)).tr (FrG.w _ _ _ _ (by omega))).tr (FrG.w _ _ _ _ (by omega))⟩
  rw [gd_t (by rw [w_ibN _ _ (by omega)]; omega), lt_b, gd_t (by rw [w_ibN _ _ (by omega)]; omega), lt_b, gd_t g68, gd_t g68, lt_b, cl6, w_clN _ (by omega), ia_sia_ne _ _ _ _ _ (by omega), ia_sia_ne _ _ _ _ _ (by omega)]
theorem EM.rwJ {e : Nat × Nat} (x : EM h e) {W : Nat} (hW : W < 4) : ∃ g1, rwJ (w32 ((24 + W : Nat) : Int)) h = some g1 ∧ EM g1 e ∧ FrG h g1 := by
  obtain ⟨g1, e1, e2, e3⟩ := r_wsw hW h 0 0
  refine ⟨g1, ?_, by rw [e2]; exact x.fr rfl, e3⟩
  unfold Jvm.Pilot.CThumbBookLaw_law_r9791_0ea6f9.rwJ
  rw [x.num, bnd_s]
  dsimp only
  rw [x.num, bnd_s]
  exact e1
/-- the reference: washed -/
theorem r_wsh {p : Nat} (hP : PBm h0 β h) (x : SM h t n q) (hW4 : vW β ≠ 4) : (∀ e, bkW t n β p q = .inl e → ∃ h1, f_X12_readWashed h = some h1 ∧ EM h1 e ∧ FrG h0 h1) ∧ (∀ β' q', bkW t n β p q = .inr (β', q') → ∃ h1, f_X12_readWashed h = some h1 ∧ SM h1 t n q' ∧ PBm h0 β' h1 ∧ q ≤ q') := by
  have hn := x.1.2.1
  have hq := x.2.1
  have rq1 := ten_ge (t := t) hq
  have rq2 := ten_ge (t := t) rq1.2
  have oB := hP.2.2.1
  have oW := oB.2.2.2.1
  have hW : vW β < 4 := by omega
  have g68 : ib 6 8 = true := by decide
  have cl6 : cl 6 = 6 := by decide
  have d4 := hP.2.1.2.2.2.1
  have e24 : 24 + w32 (vW β : Nat) = w32 ((24 + vW β : Nat) : Int) := by rw [wl_24, w_add]; exact ww (by omega)
  rw [r_ws0, gd_t g68, if_pos x.2.2.1, cl6, d4, e24]
  unfold bkW
  rw [if_neg hW4]
  have N := x.num (lo := 0) (hi := 500) (by omega) (by omega)
  cases hx : pn t n 0 500 q with
  | inl e0 =>
    refine ⟨fun e he => ?_, fun b' q' he => (by cases he)⟩
    cases he
    obtain ⟨v2, h2, e2, f2, s2⟩ := N.2 e0 hx
    obtain ⟨g1, w1, w2, w3⟩ := r_wsw hW h2 v2 0
    have J : rwJ (w32 ((24 + vW β : Nat) : Int)) h = some g1 := by
      unfold rwJ
      rw [show f_X12_readNumber 0 500 h = _ from e2, bnd_s]
      dsimp only
      rw [s2.num, bnd_s]
      exact w1
    refine ⟨g1, ?_, by rw [w2]; exact s2.fr rfl, (hP.1.tr (FrG.ke f2)).tr w3⟩
    rcases r_look2 x hx with y | ⟨y1, y2⟩ | ⟨y1, y2, v, y3, y4, y5⟩
    · rw [if_neg y, J]
    · rw [if_pos y1, if_pos y2, J]
    · rw [if_pos y1, if_neg y2, if_pos (by rw [y3, wl_500, w_lt _ _ (by omega) (by omega) (by omega) (by omega)]; omega), J]
  | inr y =>
    have yr := pn_rg hx
    obtain ⟨l1, l2, l3⟩ := r_look x (by omega) hx
    obtain ⟨h2, e2, f2, s2⟩ := N.1 y hx
    have P2 := hP.ke f2
    rw [if_pos l1, if_neg l2, l3, if_neg (show ¬ (500 : Int32) < w32 (y : Nat) by rw [wl_500, w_lt _ _ (by omega) (by omega) (by omega) (by omega)]; omega)]
    dsimp only
    have tail : (∀ e, (match pn t n 1 99 (ten t n q) with
        | .inl e => .inl e
        | .inr o => .inr (wsB β y o, ten t n (ten t n q)) : RB) = .inl e → ∃ h1, rwJ (w32 ((24 + vW β : Nat) : Int)) h = some h1 ∧ EM h1 e ∧ FrG h0 h1) ∧ (¬ (0 < vW β ∧ y ≤ vwy β (vW β - 1)) → ∀ β' q', (match pn t n 1 99 (ten t n q) with
        | .inl e => .inl e
        | .inr o => .inr (wsB β y o, ten t n (ten t n q)) : RB) = .inr (β', q') → ∃ h1, rwJ (w32 ((24 + vW β : Nat) : Int)) h = some h1 ∧ SM h1 t n q' ∧ PBm h0 β' h1 ∧ q ≤ q') := by
      unfold rwJ
      rw [show f_X12_readNumber 0 500 h = _ from e2, bnd_s]
      dsimp only
      have N2 := s2.num (lo := 1) (hi := 99) (by omega) (by omega)
      cases hy : pn t n 1 99 (ten t n q) with
      | inl e0 =>
        refine ⟨fun e he => ?_, fun _ b' q' he => (by cases he)⟩
        cases he
        obtain ⟨v3, h3, e3, f3, s3⟩ := N2.2 e0 hy
        obtain ⟨g1, w1, w2, w3⟩ := r_wsw hW h3 (w32 (y : Nat)) v3
        exact ⟨g1, by rw [show f_X12_readNumber 1 99 h2 = _ from e3, bnd_s]; exact w1, by rw [w2]; exact s3.fr rfl, (P2.1.tr (FrG.ke f3)).tr w3⟩
      | inr o =>
        obtain ⟨h3, e3, f3, s3⟩ := N2.1 o hy
        have or := pn_rg hy
        have P3 := P2.ke f3
        refine ⟨fun e he => (by cases he), fun hl b' q' he => ?_⟩
        cases he
        obtain ⟨g1, w1, w2, w3⟩ := r_wsw hW h3 (w32 (y : Nat)) (w32 (o : Nat))
        refine ⟨g1, by rw [show f_X12_readNumber 1 99 h2 = _ from e3, bnd_s]; exact w1, by rw [w2]; exact s3.fr rfl (by simp (disch := omega) only [ia_sia_ne]), ⟨P3.1.tr w3, ?_, okb_ws hP.2.2 hW yr.2.1 ⟨or.1, or.2.1⟩ hl⟩, by omega⟩
        rw [w2]
        obtain ⟨d1, d2, d3, d4, d5, d6, d7, d8⟩ := P3.2.1
        refine ⟨?_, ?_, ?_, ?_, ?_, fun l hl => ?_, fun w hw => ?_, fun r hr => ?_⟩
        · simp (disch := omega) only [ia_sia_ne]; exact d1
        · simp (disch := omega) only [ia_sia_ne]; exact d2
        · simp (disch := omega) only [ia_sia_ne]; exact d3
        · rw [ia_sia_eq, d4, wl_1, w_add, w_s]; rfl
        · simp (disch := omega) only [ia_sia_ne]; exact d5
        · simp (disch := omega) only [ia_sia_ne]; exact d6 l hl
        · have hw : w < vW β + 1 := hw
          show _ = w32 (upF (vwy β) (vW β) y w : Nat) ∧ _ = w32 (upF (vwo β) (vW β) o w : Nat)
          by_cases z : w = vW β
          · subst z
            rw [upF_eq, upF_eq]
            simp (disch := omega) only [ia_sia_ne, ia_any]
            exact ⟨rfl, rfl⟩
          · rw [upF_ne _ _ z, upF_ne _ _ z]
            simp (disch := omega) only [ia_sia_ne, ia_sia_nk]
            exact d7 w (by omega)
        · simp (disch := omega) only [ia_sia_ne]; exact d8 r hr
    by_cases z0 : vW β = 0
    · rw [if_neg (show ¬ (0 < vW β ∧ y ≤ vwy β (vW β - 1)) by omega), if_pos (show w32 (vW β : Nat) ≤ 0 by rw [wl_0, w_le _ _ (by omega) (by omega) (by omega) (by omega)]; omega)]
      exact ⟨tail.1, tail.2 (by omega)⟩
    · have d7 := (hP.2.1.2.2.2.2.2.2.1 (vW β - 1) (by omega)).1
      have oy := (oB.2.2.2.2.2.2.1 (vW β - 1) (by omega)).1
      rw [if_neg (show ¬ (w32 (vW β : Nat) ≤ 0) by rw [wl_0, w_le _ _ (by omega) (by omega) (by omega) (by omega)]; omega), show w32 ((24 + vW β : Nat) : Int) - 1 = w32 ((4 * 6 + (vW β - 1) : Nat) : Int) from by rw [wl_1, w_sub]; exact ww (by omega), gd_t (by rw [w_ibN _ _ (by omega)]; omega), w_clN _ (by omega), d7]
      by_cases zy : y ≤ vwy β (vW β - 1)
      · rw [if_pos (show 0 < vW β ∧ y ≤ vwy β (vW β - 1) from ⟨by omega, zy⟩), if_neg (by rw [w_lt _ _ (by omega) (by omega) (by omega) (by omega)]; omega)]
        refine ⟨fun e he => ?_, fun b' q' he => (by cases he)⟩
        cases he
        obtain ⟨h4, e4, f4, s4, -⟩ := x.wrong (c := 4) (by omega)
        have e4 : f_X12_wrong 4 h = some h4 := e4
        obtain ⟨g1, w1, w2, w3⟩ := s4.rwJ hW
        exact ⟨g1, by rw [e4, bnd_s, w1], w2, (hP.1.tr (FrG.ke f4)).tr w3⟩
      · rw [if_neg (show ¬ (0 < vW β ∧ y ≤ vwy β (vW β - 1)) by omega), if_pos (by rw [w_lt _ _ (by omega) (by omega) (by omega) (by omega)]; omega)]
        exact ⟨tail.1, tail.2 (by omega)⟩
/-- the reference: a line of a book -/
theorem r_bkL (hP : PBm h0 β h) (x : SM h t n q) (tz : tso t n q ≠ 0) : (∀ e, bkL t n β q = .inl e → ∃ h1, f_X12_readLine h = some h1 ∧ EM h1 e ∧ FrG h0 h1) ∧ (∀ β' q', bkL t n β q = .inr (β', q') → ∃ h1, f_X12_readLine h = some h1 ∧ SM h1 t n q' ∧ PBm h0 β' h1 ∧ q < q') := by
  have hn := x.1.2.1
  have hq := x.2.1
  have rg := tok_rg (t := t) hq
  have rs := rg.2.2.2.2.1 tz
  have g68 : ib 6 8 = true := by decide
  have cl6 : cl 6 = 6 := by decide
  have W := x.which (a := 194) (m := 4) (by omega) (by decide)
  obtain ⟨c0, c1, c2, c3, -⟩ := wd_b (t := t) (n := n) q
  obtain ⟨h2, e2, f2, s2⟩ := x.step
  have P2 := hP.ke f2
  have d4 := hP.2.1.2.2.2.1
  have oW := hP.2.2.1.2.2.2.1
  -- a body, then the semicolon
  have fin : ∀ (E : Option AH) (R : RB), ((∀ e, R = .inl e → ∃ h1, E = some h1 ∧ EM h1 e ∧ FrG h0 h1) ∧ (∀ β' q', R = .inr (β', q') → ∃ h1, E = some h1 ∧ SM h1 t n q' ∧ PBm h0 β' h1 ∧ ten t n q ≤ q')) → (∀ e, (match R with
      | .inl e => .inl e
      | .inr p => if tso t n p.2 = 3 then .inr (p.1, ten t n p.2) else .inl (1, tst t n p.2) : RB) = .inl e → ∃ h1, bnd E (fun q23 => bnd (f_X12_semi q23) (fun q24 => some q24)) = some h1 ∧ EM h1 e ∧ FrG h0 h1) ∧ (∀ β' q', (match R with
      | .inl e => .inl e
      | .inr p => if tso t n p.2 = 3 then .inr (p.1, ten t n p.2) else .inl (1, tst t n p.2) : RB) = .inr (β', q') → ∃ h1, bnd E (fun q23 => bnd (f_X12_semi q23) (fun q24 => some q24)) = some h1 ∧ SM h1 t n q' ∧ PBm h0 β' h1 ∧ q < q') := by
    intro E R hR
    cases R with
    | inl e0 =>
      refine ⟨fun e he => ?_, fun b' q' he => (by cases he)⟩
      cases he
      obtain ⟨h1, a1, a2, a3⟩ := hR.1 e0 rfl
      exact ⟨h1, by rw [a1, bnd_s, a2.semi, bnd_s], a2, a3⟩
    | inr p =>
      obtain ⟨β1, q1⟩ := p
      obtain ⟨h1, a1, a2, a3, a4⟩ := hR.2 β1 q1 rfl
      dsimp only
      by_cases z : tso t n q1 = 3
      · rw [if_pos z]
        refine ⟨fun e he => (by cases he), fun b' q' he => ?_⟩
        cases he
        obtain ⟨h3, e3, f3, s3⟩ := a2.fin.1 z
        have r := ten_ge (t := t) a2.2.1
        exact ⟨h3, by rw [a1, bnd_s, e3, bnd_s], s3, a3.ke f3, by omega⟩
      · rw [if_neg z]
        refine ⟨fun e he => ?_, fun b' q' he => (by cases he)⟩
        cases he
        obtain ⟨h3, e3, f3, s3⟩ := a2.fin.2 z
        exact ⟨h3, by rw [a1, bnd_s, e3, bnd_s], s3, a3.1.tr (FrG.ke f3)⟩
  unfold bkL bkB f_X12_readLine
  by_cases w2 : wd t n 2 q
  · rw [if_pos (wdB_t.2 w2), W.2 0 (by omega) (c0.2 w2) (by omega), bnd_s, lt_b, if_neg (show ¬ (w32 ((0 : Nat) : Int) = -1) by decide), if_neg (show ¬ (w32 ((0 : Nat) : Int) = 3) by decide)]
    dsimp only
    rw [if_pos x.2.2.1, e2, bnd_s, if_pos (show w32 ((0 : Nat) : Int) = 0 by decide)]
    exact fin _ _ (r_txt P2 s2)
  · rw [if_neg (fun y => w2 (wdB_t.1 y))]
    by_cases w5 : wd t n 5 q
    · rw [if_pos (wdB_t.2 w5), W.2 1 (by omega) (c1.2 w5) (fun i hi => by rw [show i = 0 by omega]; exact fun y => w2 (c0.1 y)), bnd_s, lt_b, if_neg (show ¬ (w32 ((1 : Nat) : Int) = -1) by decide), if_neg (show ¬ (w32 ((1 : Nat) : Int) = 3) by decide)]
      dsimp only
      rw [if_pos x.2.2.1, e2, bnd_s, if_neg (show ¬ (w32 ((1 : Nat) : Int) = 0) by decide), if_pos (show w32 ((1 : Nat) : Int) = 1 by decide)]
      obtain ⟨r1, r2⟩ := r_har P2 s2
      have hh := fin (bnd (f_X12_readNumber 0 100 h2) (fun q19 => some (sia q19.2 198 6 q19.1))) (bkH t n β (ten t n q)) ⟨fun e he => by
          obtain ⟨v, g, a1, a2, a3⟩ := r1 e he
          exact ⟨_, by rw [a1, bnd_s], a2, a3⟩, fun b' q' he => by
          obtain ⟨v, g, a1, a2, a3, a4⟩ := r2 b' q' he
          exact ⟨_, by rw [a1, bnd_s], a2, a3, a4⟩⟩
      have ee : bnd (bnd (f_X12_readNumber 0 100 h2) (fun q19 => some (sia q19.2 198 6 q19.1))) (fun q23 => bnd (f_X12_semi q23) (fun q24 => some q24)) = bnd (f_X12_readNumber 0 100 h2) (fun q19 => gd (ib 6 8 = true) (lt (sia q19.2 198 (cl 6) q19.1) (fun h21 => bnd (f_X12_semi h21) (fun q22 => some q22)))) := by
        cases f_X12_readNumber 0 100 h2 with
        | none => rfl
        | some y => rw [bnd_s, bnd_s, bnd_s, gd_t g68, cl6]; rfl
      rw [ee] at hh
      exact hh
    · rw [if_neg (fun y => w5 (wdB_t.1 y))]
      by_cases w6 : wd t n 6 q
      · rw [if_pos (wdB_t.2 w6), W.2 2 (by omega) (c2.2 w6) (fun i hi => by rcases (show i = 0 ∨ i = 1 by omega) with rfl | rfl; exact fun y => w2 (c0.1 y); exact fun y => w5 (c1.1 y)), bnd_s, lt_b, if_neg (show ¬ (w32 ((2 : Nat) : Int) = -1) by decide), if_neg (show ¬ (w32 ((2 : Nat) : Int) = 3) by decide)]
        dsimp only
        rw [if_pos x.2.2.1, e2, bnd_s, if_neg (show ¬ (w32 ((2 : Nat) : Int) = 0) by decide), if_neg (show ¬ (w32 ((2 : Nat) : Int) = 1) by decide), if_pos (show w32 ((2 : Nat) : Int) = 2 by decide)]
        exact fin _ _ (r_spl P2 s2)
      · rw [if_neg (fun y => w6 (wdB_t.1 y))]
        by_cases w7 : wd t n 7 q
        · rw [if_pos (wdB_t.2 w7), W.2 3 (by omega) (c3.2 w7) (fun i hi => by rcases (show i = 0 ∨ i = 1 ∨ i = 2 by omega) with rfl | rfl | rfl; exact fun y => w2 (c0.1 y); exact fun y => w5 (c1.1 y); exact fun y => w6 (c2.1 y)), bnd_s, lt_b, if_neg (show ¬ (w32 ((3 : Nat) : Int) = -1) by decide), if_pos (show w32 ((3 : Nat) : Int) = 3 by decide), gd_t g68, cl6, d4]
          by_cases z4 : vW β = 4
          · have hb : bkW t n β (tst t n q) (ten t n q) = .inl (2, tst t n q) := by unfold bkW; rw [if_pos z4]
            rw [hb, if_pos (show w32 (vW β : Nat) = 4 by rw [z4]; rfl)]
            obtain ⟨h3, e3, f3, s3, -⟩ := x.wrong (c := 2) (by omega)
            have e3 : f_X12_wrong 2 h = some h3 := e3
            refine ⟨fun e he => ?_, fun b' q' he => (by cases he)⟩
            cases he
            exact ⟨h3, by rw [e3, bnd_s]; dsimp only; rw [if_neg s3.ne], s3, hP.1.tr (FrG.ke f3)⟩
          · rw [if_neg (show ¬ (w32 (vW β : Nat) = 4) by rw [wl_4, w_eq _ _ (by omega) (by omega) (by omega) (by omega)]; omega)]
            dsimp only
            rw [if_pos x.2.2.1, e2, bnd_s, if_neg (show ¬ (w32 ((3 : Nat) : Int) = 0) by decide), if_neg (show ¬ (w32 ((3 : Nat) : Int) = 1) by decide), if_neg (show ¬ (w32 ((3 : Nat) : Int) = 2) by decide)]
            exact fin _ _ (r_wsh P2 s2 z4)
        · rw [if_neg (fun y => w7 (wdB_t.1 y)), W.1 (fun i hi => by rcases (show i = 0 ∨ i = 1 ∨ i = 2 ∨ i = 3 by omega) with rfl | rfl | rfl | rfl; exact fun y => w2 (c0.1 y); exact fun y => w5 (c1.1 y); exact fun y => w6 (c2.1 y); exact fun y => w7 (c3.1 y)), bnd_s, lt_b, if_pos rfl]
          obtain ⟨h3, e3, f3, s3, -⟩ := x.wrong (c := 1) (by omega)
          have e3 : f_X12_wrong 1 h = some h3 := e3
          refine ⟨fun e he => ?_, fun b' q' he => (by cases he)⟩
          cases he
          exact ⟨h3, by rw [e3, bnd_s]; dsimp only; rw [if_neg s3.ne], s3, hP.1.tr (FrG.ke f3)⟩
end BKS
