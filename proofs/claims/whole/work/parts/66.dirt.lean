section DRM
variable {h : AH} {S : SV} {T b : Nat} {β : BV} {a : LV} {l : Nat}
theorem m_tIn (hB : BM h b β) (hb : b < 8) (hW : WM h (xw S)) (oB : okB β) (oW : okW (xw S)) (hl : l < vL β) {y : Nat} (hy : y ≤ 500) : f_X12_turningsIn (w32 b) (w32 l) (w32 y) h = some (w32 (tI' β (xw S) l y)) := by
  have o1 := oB.1
  have oR := oB.2.2.2.2.1
  obtain ⟨k1, -, k3, -, k5, -⟩ := hB.2.2.2.2.2.1 l hl
  have ok := oB.2.2.2.2.2.1 l hl
  have eR := hB.2.2.2.2.1
  have e8 : (8 : Int32) * w32 b = w32 ((8 * b : Nat) : Int) := by rw [wl_8, w_mul]; exact ww (by omega)
  have ea : ∀ i : Nat, w32 ((8 * b : Nat) : Int) + w32 (i : Int) = w32 ((8 * b + i : Nat) : Int) := fun i => by rw [w_add]; exact ww (by omega)
  have lp : f_X12_turningsIn_l16 (w32 b) (w32 y) (w32 ((40 * b + l : Nat) : Int)) h FU 0 (w32 ((8 * b + 0 : Nat) : Int)) = some (w32 (tI' β (xw S) l y)) := loopN (fun n (s : Int32 × Int32) => f_X12_turningsIn_l16 (w32 b) (w32 y) (w32 ((40 * b + l : Nat) : Int)) h n s.1 s.2) (fun i => (w32 (sm (tIr β (xw S) l y) i), w32 ((8 * b + i : Nat) : Int))) (vR β) _ (fun i n hi => by
      obtain ⟨d1, d2, d3⟩ := hB.2.2.2.2.2.2.2 i hi
      obtain ⟨q1, q2, q3⟩ := oB.2.2.2.2.2.2.2.2.1 i hi
      have mt := m_turn hW oW q1 ok.1 ok.2.2.1
      show f_X12_turningsIn_l16 (w32 b) (w32 y) (w32 ((40 * b + l : Nat) : Int)) h (n + 1) (w32 (sm _ i)) (w32 ((8 * b + i : Nat) : Int)) = f_X12_turningsIn_l16 (w32 b) (w32 y) (w32 ((40 * b + l : Nat) : Int)) h n (w32 (sm _ (i + 1))) (w32 ((8 * b + (i + 1) : Nat) : Int))
      rw [f_X12_turningsIn_l16, e8]
      simp (disch := omega) only [w_ibN, gd_t, w_clN, eR, ea, w_le, d1, d2, d3, k1, k3, k5, e_isIn, decide_eq_true_eq, w_lt, mt, bnd_s, w_add, wl_1, sm_s]
      rw [if_neg (by omega), show ((8 * b + i : Nat) : Int) + 1 = ((8 * b + (i + 1) : Nat) : Int) by omega]
      unfold tIr
      by_cases q : (vrf β i : Int) ≤ y ∧ (y : Int) ≤ vrt β i
      · rw [if_pos q]
        by_cases q' : (y : Int) < vy β l
        · rw [if_pos q', if_neg (by unfold rmx; omega), Int.add_zero]
        · rw [if_neg q', if_pos (by unfold rmx; omega)]
          rfl
      · rw [if_neg q, if_neg (by unfold rmx; omega), Int.add_zero]) (fun n => by
      show f_X12_turningsIn_l16 (w32 b) (w32 y) _ h (n + 1) _ (w32 ((8 * b + vR β : Nat) : Int)) = _
      rw [f_X12_turningsIn_l16, e8]
      simp (disch := omega) only [w_ibN, gd_t, w_clN, eR, ea, w_le]
      rw [if_pos (by omega)]
      rfl) FU (by unfold FU; omega)
  unfold f_X12_turningsIn
  rw [e_at, e8, show f_X12_turningsIn_l16 (w32 b) (w32 y) (w32 ((40 * b + l : Nat) : Int)) h FU 0 (w32 ((8 * b : Nat) : Int)) = _ from lp, bnd_s]
theorem m_own36 (hB : BM h b β) (hb : b < 8) (oB : okB β) {y : Nat} (hy : y ≤ 500) {v : Int} (h1 : 0 ≤ v) (h2 : v ≤ 2000000000) : f_X12_ownOf_l36 (w32 b) (w32 y) h FU (w32 v) (4 * w32 b) = some (w32 (wS β y v (vW β))) := by
  have o4 := oB.2.2.2.1
  have eW := hB.2.2.2.1
  have e4 : (4 : Int32) * w32 b = w32 ((4 * b : Nat) : Int) := by rw [wl_4, w_mul]; exact ww (by omega)
  have ea : ∀ i : Nat, w32 ((4 * b : Nat) : Int) + w32 (i : Int) = w32 ((4 * b + i : Nat) : Int) := fun i => by rw [w_add]; exact ww (by omega)
  have lp : f_X12_ownOf_l36 (w32 b) (w32 y) h FU (w32 v) (w32 ((4 * b + 0 : Nat) : Int)) = some (w32 (wS β y v (vW β))) := loopN (fun n (s : Int32 × Int32) => f_X12_ownOf_l36 (w32 b) (w32 y) h n s.1 s.2) (fun i => (w32 (wS β y v i), w32 ((4 * b + i : Nat) : Int))) (vW β) _ (fun i n hi => by
      obtain ⟨d1, d2⟩ := hB.2.2.2.2.2.2.1 i hi
      obtain ⟨q1, q2, q3⟩ := oB.2.2.2.2.2.2.1 i hi
      have rr := wS_rg oB y h1 i (by omega)
      show f_X12_ownOf_l36 (w32 b) (w32 y) h (n + 1) (w32 (wS β y v i)) (w32 ((4 * b + i : Nat) : Int)) = f_X12_ownOf_l36 (w32 b) (w32 y) h n (w32 (wS β y v (i + 1))) (w32 ((4 * b + (i + 1) : Nat) : Int))
      rw [f_X12_ownOf_l36, e4, gd_t (by rw [w_ibN _ _ (by omega)]; omega), w_clN _ (by omega), eW, ea, if_neg (by rw [w_le _ _ (by omega) (by omega) (by omega) (by omega)]; omega), gd_t (by rw [w_ibN _ _ (by omega)]; omega), w_clN _ (by omega), d1, d2, e_wash rr.1 (by omega) (by omega), gd_t (by rw [w_ibN _ _ (by omega)]; omega), wl_1, w_add, show ((4 * b + i : Nat) : Int) + 1 = ((4 * b + (i + 1) : Nat) : Int) by omega, wS_s]
      by_cases q : vwy β i = y
      · rw [if_pos q, if_pos (by rw [q])]
      · rw [if_neg q, if_neg (ne_w (by omega) (by omega) (by omega) (by omega) (by omega))]) (fun n => by
      show f_X12_ownOf_l36 (w32 b) (w32 y) h (n + 1) _ (w32 ((4 * b + vW β : Nat) : Int)) = _
      rw [f_X12_ownOf_l36, e4, gd_t (by rw [w_ibN _ _ (by omega)]; omega), w_clN _ (by omega), eW, ea, if_pos (Int32.le_refl _)]) FU (by unfold FU; omega)
  rw [e4]
  exact lp
theorem m_own (hB : BM h b β) (hb : b < 8) (hW : WM h (xw S)) (hL : LM h a) (oB : okB β) (oW : okW (xw S)) (oL : okL a) (hl : l < vL β) : f_X12_ownOf (w32 b) (w32 l) h = some (w32 (own β (xw S) a l)) := by
  have eD := hL.1
  have lp : f_X12_ownOf_l5 (w32 b) (w32 l) h FU 0 0 = some (w32 (oW' β (xw S) a l 501)) := loopN (fun n (s : Int32 × Int32) => f_X12_ownOf_l5 (w32 b) (w32 l) h n s.1 s.2) (fun i => (w32 (oW' β (xw S) a l i), w32 (i : Nat))) 501 _ (fun i n hi => by
      have r1 := oW_rg2 oB oW oL hl i
      have r2 := tI_rg oB oW hl i
      have r3 := mul_rg (a := (ld a : Int)) (A := 50) (b := tI' β (xw S) l i) (B := 792) (by omega) (by have := oL.2.1; omega) r2.1 r2.2
      show f_X12_ownOf_l5 (w32 b) (w32 l) h (n + 1) (w32 (oW' β (xw S) a l i)) (w32 i) = f_X12_ownOf_l5 (w32 b) (w32 l) h n (w32 (oW' β (xw S) a l (i + 1))) (w32 (i + 1 : Nat))
      rw [f_X12_ownOf_l5, if_neg (by rw [wl_500, w_lt _ _ (by omega) (by omega) (by omega) (by omega)]; omega), gd_t (by decide), m_tIn hB hb hW oB oW hl (by omega), bnd_s, show cl 0 = 0 from by decide, eD, w_mul, w_add, m_own36 hB hb oB (by omega) (by omega) (by omega), bnd_s, wl_1, w_add, w_s]
      rfl) (fun n => by
      show f_X12_ownOf_l5 (w32 b) (w32 l) h (n + 1) _ (w32 (501 : Nat)) = _
      rw [f_X12_ownOf_l5, if_pos (by decide)]) FU (by decide)
  unfold f_X12_ownOf
  rw [lp, bnd_s]
  rfl
theorem BM.fr {W : Nat → Prop} {h' : AH} (hB : BM h b β) (hF : Fr W h h') (hd : ∀ c, 196 ≤ c → c ≤ 214 → c ≠ 208 ∧ c ≠ 209 → ¬ W c) : BM h' b β := by
  have f : ∀ c, 196 ≤ c → c ≤ 214 → c ≠ 208 ∧ c ≠ 209 → hia h' c = hia h c := fun c h1 h2 h3 => (hF c (hd c h1 h2 h3)).2.2.1
  unfold BM
  rw [f 196 (by omega) (by omega) (by omega), f 197 (by omega) (by omega) (by omega), f 198 (by omega) (by omega) (by omega), f 199 (by omega) (by omega) (by omega), f 200 (by omega) (by omega) (by omega), f 202 (by omega) (by omega) (by omega), f 203 (by omega) (by omega) (by omega), f 204 (by omega) (by omega) (by omega), f 205 (by omega) (by omega) (by omega), f 206 (by omega) (by omega) (by omega), f 207 (by omega) (by omega) (by omega), f 210 (by omega) (by omega) (by omega), f 211 (by omega) (by omega) (by omega), f 212 (by omega) (by omega) (by omega), f 213 (by omega) (by omega) (by omega), f 214 (by omega) (by omega) (by omega)]
  exact hB
theorem WM.fr {W : Nat → Prop} {h' : AH} {ω : WV} (hB : WM h ω) (hF : Fr W h h') (h1 : ¬ W 216) (h2 : ¬ W 217) : WM h' ω := by
  unfold WM
  rw [(hF _ h1).2.2.1, (hF _ h2).2.2.1]
  exact hB
theorem LM.fr {W : Nat → Prop} {h' : AH} (hB : LM h a) (hF : Fr W h h') (h1 : ¬ W 215) : LM h' a := by
  unfold LM
  rw [(hF _ h1).2.2.1]
  exact hB
theorem m_hairB (hB : BM h b β) (hb : b < 8) (hl : l < 40) : f_X12_hairOf (w32 b) (w32 l) h = some (w32 (if l % 2 = 1 then (vH β : Int) else 0)) := by
  have hx := hB.2.2.1
  unfold f_X12_hairOf
  simp (disch := omega) only [wl_2, wl_1, wl_0, w_divP, w_mul, w_sub, w_eq, w_ibN, w_clN, hx, gd_t hb]
  by_cases hp : l % 2 = 1
  · rw [if_pos (by omega), if_pos hp]
  · rw [if_neg (by omega), if_neg hp]
def W20 (c : Nat) : Prop := 220 ≤ c ∧ c ≤ 222
theorem m_tell (hB : BM h b β) (hb : b < 8) (hW : WM h (xw S)) (hL : LM h a) (oB : okB β) (oW : okW (xw S)) (oL : okL a) : ∃ h1, f_X12_tellDirt (w32 b) h = some h1 ∧ Fr W20 h h1 ∧ ∀ i, i < vL β → hia h1 220 i = w32 (own β (xw S) a i) ∧ hia h1 221 i = w32 (al β (xw S) a (i + 1)) ∧ hia h1 222 i = w32 (shd β (xw S) a i) := by
  have o1 := oB.1
  obtain ⟨h1, e, q⟩ := loopR (fun n (s : Int32 × Int32 × AH) => f_X12_tellDirt_l4 (w32 b) n s.1 s.2.1 s.2.2) (fun i s => s.1 = w32 (al β (xw S) a i) ∧ s.2.1 = w32 (i : Nat) ∧ Fr W20 h s.2.2 ∧ ∀ j, j < i → hia s.2.2 220 j = w32 (own β (xw S) a j) ∧ hia s.2.2 221 j = w32 (al β (xw S) a (j + 1)) ∧ hia s.2.2 222 j = w32 (shd β (xw S) a j)) (fun h1 => Fr W20 h h1 ∧ ∀ i, i < vL β → hia h1 220 i = w32 (own β (xw S) a i) ∧ hia h1 221 i = w32 (al β (xw S) a (i + 1)) ∧ hia h1 222 i = w32 (shd β (xw S) a i)) (vL β) (fun i n s hi hP => by
      obtain ⟨v4, v5, hh⟩ := s
      obtain ⟨p1, p2, p3, p4⟩ := hP
      dsimp only at p1 p2 p3 p4
      subst p1 p2
      have hB2 := hB.fr p3 (fun c h1 h2 _ => by unfold W20; omega)
      have hW2 := hW.fr p3 (by unfold W20; omega) (by unfold W20; omega)
      have hL2 := hL.fr p3 (by unfold W20; omega)
      have d1 := hB2.1
      obtain ⟨-, -, -, d4, -, d6⟩ := hB2.2.2.2.2.2.1 i hi
      have ra := al_rg oB oW oL i (by omega)
      have rt := sTh_rg oL ra.1
      have eg := hL2.2.1
      have rg := oL.2.2.1
      have r2 := mul_rg (a := al β (xw S) a i) (b := (lg a : Int)) (B := 90) ra.1 ra.2 (by omega) (by omega)
      have th : Int64.toInt32 (((w32 (al β (xw S) a i)).toInt64 * ((w32 (lg a : Nat)).toInt64)) / 100) = w32 (sTh a (al β (xw S) a i)) := by
        rw [w_l _ (by omega) (by omega), w_l _ (by omega) (by omega), v_mul, vl_100, v_divP _ _ (by omega) (by omega) (by omega) (by omega), v_i _ (by unfold sTh at rt; omega) (by unfold sTh at rt; omega)]
        rfl
      have F1 : Fr W20 hh (sia hh 220 i (w32 (own β (xw S) a i))) := Fr.sia _ _ _ _ (by unfold W20; omega)
      have F2 : Fr W20 hh (sia (sia hh 220 i (w32 (own β (xw S) a i))) 221 i (w32 (al β (xw S) a (i + 1)))) := F1.tr (Fr.sia _ _ _ _ (by unfold W20; omega))
      have hr := m_hairB (hB2.fr F2 (fun c h1 h2 _ => by unfold W20; omega)) hb (show i < 40 by omega)
      refine ⟨(w32 (al β (xw S) a (i + 1)), w32 (i + 1 : Nat), sia (sia (sia hh 220 i (w32 (own β (xw S) a i))) 221 i (w32 (al β (xw S) a (i + 1)))) 222 i (w32 (shd β (xw S) a i))), ⟨rfl, rfl, (p3.tr F2).tr (Fr.sia _ _ _ _ (by unfold W20; omega)), fun j hj => ?_⟩, ?_⟩
      · show hia (sia (sia (sia hh _ _ _) _ _ _) _ _ _) 220 j = _ ∧ hia (sia (sia (sia hh _ _ _) _ _ _) _ _ _) 221 j = _ ∧ hia (sia (sia (sia hh _ _ _) _ _ _) _ _ _) 222 j = _
        by_cases q : j = i
        · subst q
          simp (disch := omega) only [ia_sia_ne, ia_sia_eq]
          exact ⟨trivial, trivial, trivial⟩
        · simp (disch := omega) only [ia_sia_ne, ia_sia_nk]
          exact p4 j (by omega)
      · show f_X12_tellDirt_l4 (w32 b) (n + 1) (w32 (al β (xw S) a i)) (w32 i) hh = f_X12_tellDirt_l4 (w32 b) n _ _ _
        have ib40 : ib (w32 (i : Int)) 40 = true := by rw [w_ibN _ _ (by omega)]; omega
        have cli : cl (w32 (i : Int)) = i := w_clN i (by omega)
        have iba : ib (f_X12_at (w32 b) (w32 i)) 320 = true := by rw [e_at, w_ibN _ _ (by omega)]; omega
        have cla : cl (f_X12_at (w32 b) (w32 i)) = 40 * b + i := by rw [e_at, w_clN _ (by omega)]
        have z1 : own β (xw S) a i + vs β i + sTh a (al β (xw S) a i) = al β (xw S) a (i + 1) := rfl
        have z2 : (vb β i : Int) + (if i % 2 = 1 then (vH β : Int) else 0) + al β (xw S) a (i + 1) = shd β (xw S) a i := rfl
        rw [f_X12_tellDirt_l4, gd_t (by rw [w_ibN _ _ (by omega)]; omega), w_clN _ (by omega), d1, if_neg (by rw [w_le _ _ (by omega) (by omega) (by omega) (by omega)]; omega), m_own hB2 hb hW2 hL2 oB oW oL hi, bnd_s]
        simp only [gd_t ib40, cli, lt_b, gd_t iba, cla, ia_sia_eq, show ib 1 6 = true from by decide, gd_t, show cl 1 = 1 from by decide]
        rw [ia_sia_ne _ _ _ _ 207 (by omega), ia_sia_ne _ _ _ _ 215 (by omega), d6, eg, th, w_add, w_add, z1, hr, bnd_s]
        rw [ia_sia_ne _ _ _ _ 205 (by omega), ia_sia_ne _ _ _ _ 205 (by omega), d4, w_add, w_add, z2, wl_1, w_add, w_s]) (fun n s hP => by
      obtain ⟨v4, v5, hh⟩ := s
      obtain ⟨p1, p2, p3, p4⟩ := hP
      dsimp only at p1 p2 p3 p4
      subst p1 p2
      have d1 := (hB.fr p3 (fun c h1 h2 _ => by unfold W20; omega)).1
      refine ⟨hh, ?_, p3, p4⟩
      show f_X12_tellDirt_l4 (w32 b) (n + 1) _ (w32 (vL β)) hh = _
      rw [f_X12_tellDirt_l4, gd_t (by rw [w_ibN _ _ (by omega)]; omega), w_clN _ (by omega), d1, if_pos (Int32.le_refl _)]) FU (by unfold FU; omega) (0, 0, h) ⟨rfl, rfl, Fr.rf, fun j hj => by omega⟩
  refine ⟨h1, ?_, q⟩
  unfold f_X12_tellDirt
  rw [show f_X12_tellDirt_l4 (w32 b) FU 0 0 h = _ from e, bnd_s]
theorem m_dirt40 (hB : BM h b β) (hb : b < 8) (hW : WM h (xw S)) (oB : okB β) (oW : okW (xw S)) (hl : l < vL β) : f_X12_dirt_l40 (w32 b) (w32 l) h FU 0 0 = some (w32 (tA β (xw S) l 501)) := by
  have e : f_X12_dirt_l40 (w32 b) (w32 l) h FU (w32 (tA β (xw S) l 0)) (w32 ((0 : Nat) : Int)) = some (w32 (tA β (xw S) l 501)) := loopN (fun n (s : Int32 × Int32) => f_X12_dirt_l40 (w32 b) (w32 l) h n s.1 s.2) (fun i => (w32 (tA β (xw S) l i), w32 (i : Nat))) 501 _ (fun i n hi => by
      show f_X12_dirt_l40 (w32 b) (w32 l) h (n + 1) (w32 (tA β (xw S) l i)) (w32 i) = f_X12_dirt_l40 (w32 b) (w32 l) h n (w32 (tA β (xw S) l (i + 1))) (w32 (i + 1 : Nat))
      rw [f_X12_dirt_l40, if_neg (by rw [wl_500, w_lt _ _ (by omega) (by omega) (by omega) (by omega)]; omega), m_tIn hB hb hW oB oW hl (by omega), bnd_s, w_add, ← tA_s, wl_1, w_add, w_s]) (fun n => by
      show f_X12_dirt_l40 (w32 b) (w32 l) h (n + 1) _ (w32 (501 : Nat)) = _
      rw [f_X12_dirt_l40, if_pos (by decide)]) FU (by decide)
  rw [tA_0] at e
  exact e
theorem CI.way (hI : CI h S) : WAY h (xw S) ∧ ∀ w, w < 6 → isWy (hra h 4 w) := ⟨⟨hI.2.2.2.1, fun w hw => isWy_sh (hI.1.2.2.1 w hw).1⟩, fun w hw => (hI.1.2.2.1 w hw).1⟩
theorem W20.q {h' : AH} (hF : Fr W20 h h') : FrQ h h' := ⟨hF.mono (fun c q => by unfold W20 at q; unfold WQ; omega), fun k _ => by rw [(hF 193 (by unfold W20; omega)).1]⟩
theorem q_dirt (x y v : Int32) (hI : CI h S) (oS : okS S) : ∃ s, RC (f_X11_dirt x y v h) h s ∧ ∀ h', MI2 h' S T → RM (f_X12_dirt x y v h') h' s := by
  refine q_leafed x y hI oS _ _ (fun b l hb hl hx hy => ?_)
  subst hx hy
  obtain ⟨hC, hA⟩ := hI.ck oS hb
  have o := oS.1 b hb
  have o1 := o.1.1
  have oL := oS.2.1
  have oW := oS.2.2.1
  have sL := isLw_sh hI.1.2.2.2.2.1
  have lib : ib (w32 (l : Int)) 40 = true := by rw [w_ibN _ _ (by omega)]; omega
  have lcl : cl (w32 (l : Int)) = l := w_clN l (by omega)
  obtain ⟨hW, hWy⟩ := hI.way
  obtain ⟨z, rfl, r1, r2⟩ := w_ex v
  have hB := hC.1
  have isX := (hI.1.1 b hb).1
  have hr := hI.1.2.2.2.2.1
  obtain ⟨h2, e2, f2, z2⟩ := k_fillAll hB isX hW hWy hI.2.2.1 hr o.1 oW oL
  have fw : Fr WS h h2 := f2.mono (fun c q => by unfold WS; omega)
  have m0 : (0 ≤ z ∧ z ≤ 3) → f_X12_isIn (w32 z) 0 3 = true := fun q => by rw [wl_0, wl_3, e_isIn _ _ _ (by omega) (by omega) (by omega) (by omega) (by omega) (by omega), decide_eq_true q]
  have mod : ∀ h', MI2 h' S T → ∃ h1, f_X12_tellDirt (w32 b) h' = some h1 ∧ FrQ h' h1 ∧ hfi h1 193 2 = hfi h' 193 2 ∧ hia h1 220 l = w32 (own (xb S b) (xw S) (xa S) l) ∧ hia h1 221 l = w32 (al (xb S b) (xw S) (xa S) (l + 1)) ∧ hia h1 222 l = w32 (shd (xb S b) (xw S) (xa S) l) := by
    intro h' hM
    obtain ⟨h1, e, f, g⟩ := m_tell (hM.1 b hb).1 (by omega) hM.2.2.1 hM.2.1 o.1 oW oL
    exact ⟨h1, e, W20.q f, by rw [(f 193 (by unfold W20; omega)).1], g l hl⟩
  rcases (show z = 0 ∨ z = 1 ∨ z = 2 ∨ z = 3 ∨ ¬ (0 ≤ z ∧ z ≤ 3) by omega) with rfl | rfl | rfl | rfl | q
  · refine ⟨some (own (xb S b) (xw S) (xa S) l), RC_some Fr.rf ?_, fun h' hM hc => ?_⟩
    · try dsimp only
      rw [if_pos (by decide), gd_t sL, k_own hB hW hI.2.2.1 o.1 oW oL hl, bnd_s]
    · obtain ⟨h1, g1, g2, g3, g4, g5, g6⟩ := mod h' hM
      exact RM_some g2 (by
        try dsimp only
        rw [m0 (by omega), if_pos rfl, if_neg (by decide), g1, bnd_s, if_pos (by decide), gd_t lib, lcl, g4]) (g3.trans hc)
  · refine ⟨some (al (xb S b) (xw S) (xa S) (l + 1)), RC_some fw ?_, fun h' hM hc => ?_⟩
    · try dsimp only
      rw [if_neg (by decide), if_pos (by decide), gd_t sL, e2, bnd_s, gd_t lib, lcl, z2 l hl]
    · obtain ⟨h1, g1, g2, g3, g4, g5, g6⟩ := mod h' hM
      exact RM_some g2 (by
        try dsimp only
        rw [m0 (by omega), if_pos rfl, if_neg (by decide), g1, bnd_s, if_neg (by decide), if_pos (by decide), gd_t lib, lcl, g5]) (g3.trans hc)
  · refine ⟨some (shd (xb S b) (xw S) (xa S) l), RC_some fw ?_, fun h' hM hc => ?_⟩
    · try dsimp only
      unfold isB at isX
      rw [if_neg (by decide), if_neg (by decide), if_pos (by decide), gd_t sL, e2, bnd_s, k_bare (hB.fr f2 (fun c h1 h2 => by omega)) o.1 hl, bnd_s, gd_t lib, lcl, z2 l hl, w_add]
      rfl
    · obtain ⟨h1, g1, g2, g3, g4, g5, g6⟩ := mod h' hM
      exact RM_some g2 (by
        try dsimp only
        rw [m0 (by omega), if_pos rfl, if_neg (by decide), g1, bnd_s, if_neg (by decide), if_neg (by decide), gd_t lib, lcl, g6]) (g3.trans hc)
  · refine ⟨some (tA (xb S b) (xw S) l 501), RC_some Fr.rf ?_, fun h' hM hc => RM_some FrQ.rf ?_ hc⟩
    · try dsimp only
      rw [if_neg (by decide), if_neg (by decide), if_neg (by decide), if_pos (by decide), show (0 : Int32) = w32 (0 : Nat) from rfl, show (500 : Int32) = w32 (500 : Nat) from rfl, k_turned hB hW o.1 oW hl (by omega) (by omega), bnd_s, tA_0, Int.sub_zero]
    · try dsimp only
      rw [m0 (by omega), if_pos rfl, if_pos (by decide), m_dirt40 (hM.1 b hb).1 (by omega) hM.2.2.1 o.1 oW hl, bnd_s]
  · refine ⟨none, RC_none Fr.rf ?_, fun h' hM hc => RM_fail FrQ.rf ?_⟩
    · try dsimp only
      rw [wl_0, wl_1, wl_2, wl_3, if_neg (ne_w r1 r2 (by omega) (by omega) (by omega)), if_neg (ne_w r1 r2 (by omega) (by omega) (by omega)), if_neg (ne_w r1 r2 (by omega) (by omega) (by omega)), if_neg (ne_w r1 r2 (by omega) (by omega) (by omega))]
    · try dsimp only
      rw [show f_X12_isIn (w32 z) 0 3 = false from by rw [wl_0, wl_3, e_isIn _ _ _ (by omega) (by omega) (by omega) (by omega) (by omega) (by omega), decide_eq_false q], if_neg (by decide), m_fail, bnd_s]
end DRM
