section BKD
variable {h h0 : AH} {t : Nat → Nat} {n q : Nat} {a0 : Nat} {β : BV}
theorem pn_min {L : Nat} : (∀ e, pn t n 1 20 q = .inl e → pn t n 1 (min 20 (40 - L)) q = .inl e) ∧ (∀ m, pn t n 1 20 q = .inr m → (L + m ≤ 40 → pn t n 1 (min 20 (40 - L)) q = .inr m) ∧ (40 < L + m → pn t n 1 (min 20 (40 - L)) q = .inl (2, tst t n q))) := by
  unfold pn
  by_cases z : tso t n q ≠ 2
  · rw [if_pos z, if_pos z]
    exact ⟨fun e he => he, fun m hm => (by cases hm)⟩
  · rw [if_neg z, if_neg z]
    by_cases y : ((1 : Nat) : Int) ≤ tvl t n q ∧ tvl t n q ≤ (20 : Nat)
    · rw [if_pos y]
      refine ⟨fun e he => (by cases he), fun m hm => ?_⟩
      cases hm
      refine ⟨fun a => by rw [if_pos (by omega)], fun a => by rw [if_neg (by omega)]⟩
    · rw [if_neg y, if_neg (by omega)]
      exact ⟨fun e he => he, fun m hm => (by cases hm)⟩
theorem wbk_ft {h1 h2 : AH} (f : FT h1 h2) : Fr (WBk a0) h1 h2 := f.1.mono (fun c z => Or.inl z)
/-- the class: text -/
theorem k_txt (ha : 3 ≤ a0) (hP : PBc h0 a0 β h) (x : SC h t n q) : (∀ e, bkT t n β q = .inl e → ∃ h1, f_X0_writeText a0 1 h = some h1 ∧ ER h1 e ∧ Fr (WBk a0) h0 h1) ∧ (∀ β' q', bkT t n β q = .inr (β', q') → ∃ h1, f_X0_writeText a0 1 h = some h1 ∧ SC h1 t n q' ∧ PBc h0 a0 β' h1 ∧ q ≤ q') := by
  have hn := x.1.2.1
  have hq := x.2.1
  have rq1 := ten_ge (t := t) hq
  have rq2 := ten_ge (t := t) rq1.2
  have rq3 := ten_ge (t := t) rq2.2
  have tg := tok_rg (t := t) rq1.2
  have oL := hP.2.2.2.1.1
  rw [k_tx]
  unfold bkT
  have N := x.num (lo := 0) (hi := 11) (by omega) (by omega)
  cases hx : pn t n 0 11 q with
  | inl e0 =>
    refine ⟨fun e he => ?_, fun b' q' he => (by cases he)⟩
    cases he
    obtain ⟨h2, e2, f2, s2⟩ := N.2 e0 hx
    refine ⟨h2, ?_, s2, hP.1.tr (wbk_ft f2)⟩
    rw [show f_X7_number 1 0 11 h = _ from e2, bnd_s]
    dsimp only
    rw [s2.num, bnd_s]
    dsimp only
    rw [s2.ktT, s2.blame, bnd_s, s2.ktT, ite_self]
  | inr k =>
    obtain ⟨h2, e2, f2, s2, -⟩ := N.1 k hx
    have kr := pn_rg hx
    rw [show f_X7_number 1 0 11 h = _ from e2, bnd_s]
    dsimp only
    obtain ⟨M1, M2⟩ := pn_min (t := t) (n := n) (q := ten t n q) (L := vL β)
    have N2 := s2.num (lo := 1) (hi := 20) (by omega) (by omega)
    cases hy : pn t n 1 20 (ten t n q) with
    | inl e0 =>
      rw [M1 e0 hy]
      refine ⟨fun e he => ?_, fun b' q' he => (by cases he)⟩
      cases he
      obtain ⟨h3, e3, f3, s3⟩ := N2.2 e0 hy
      refine ⟨h3, ?_, s3, hP.1.tr (wbk_ft (f2.tr f3))⟩
      rw [show f_X7_number 1 1 20 h2 = _ from e3, bnd_s]
      dsimp only
      rw [s3.ktT, s3.blame, bnd_s, s3.ktT, ite_self]
    | inr m =>
      obtain ⟨h3, e3, f3, s3, g4⟩ := N2.1 m hy
      have mr := pn_rg hy
      have f13 := f2.tr f3
      have P3 := hP.ft ha f13
      rw [show f_X7_number 1 1 20 h2 = _ from e3, bnd_s]
      dsimp only
      rw [P3.2.1.1, w_add]
      by_cases zL : vL β + m ≤ 40
      · rw [(M2 m hy).1 zL, if_pos (by rw [wl_40, w_le _ _ (by omega) (by omega) (by omega) (by omega)]; omega)]
        dsimp only
        unfold ktT
        have K := s3.kp (i := 3) (hi := 200) (d := 40) (by omega) (by decide) (by omega)
        cases hz : ppn t n 3 200 40 (ten t n (ten t n q)) with
        | inl e0 =>
          refine ⟨fun e he => ?_, fun b' q' he => (by cases he)⟩
          cases he
          obtain ⟨v4, h4, e4, f4, s4⟩ := K.1 e0 hz
          refine ⟨h4, ?_, s4, hP.1.tr (wbk_ft (f13.tr f4))⟩
          rw [show kp 3 200 40 h3 = _ from e4, bnd_s]
          dsimp only
          rw [s4.kp, bnd_s, if_neg s4.ne]
        | inr p =>
          obtain ⟨b, q4⟩ := p
          obtain ⟨h4, e4, f4, s4⟩ := K.2 b q4 hz
          have br := ppn_rg rq2.2 (by omega) hz
          rw [show kp 3 200 40 h3 = _ from e4, bnd_s]
          dsimp only
          have K5 := s4.kp (i := 4) (hi := 500) (d := 0) (by omega) (by decide) (by omega)
          cases hu : ppn t n 4 500 0 q4 with
          | inl e0 =>
            refine ⟨fun e he => ?_, fun b' q' he => (by cases he)⟩
            cases he
            obtain ⟨v5, h5, e5, f5, s5⟩ := K5.1 e0 hu
            refine ⟨h5, ?_, s5, hP.1.tr (wbk_ft ((f13.tr f4).tr f5))⟩
            rw [show kp 4 500 0 h4 = _ from e5, bnd_s, if_neg s5.ne]
          | inr p =>
            obtain ⟨y, q5⟩ := p
            obtain ⟨h5, e5, f5, s5⟩ := K5.2 y q5 hu
            have yr := ppn_rg br.2.2 (by omega) hu
            refine ⟨fun e he => (by cases he), fun b' q' he => ?_⟩
            cases he
            have P5 := hP.ft ha ((f13.tr f4).tr f5)
            obtain ⟨h6, e6, F6, B6, g6⟩ := k_l94 (k := k) (m := m) (b := b) (y := y) ha P5.2.1 zL
            have s7 : SC (sfi (sfi h6 a0 1 (w32 (vT β + 1 : Nat))) a0 2 (orF (vk β) (vL β) ||| (1 <<< ((w32 (k : Nat) : Int32) &&& 31)))) t n q5 := s5.fr (by rw [fi_sfi_ne _ _ _ _ _ (by omega), fi_sfi_ne _ _ _ _ _ (by omega), (F6 1 (by omega)).1]) (by rw [ia_sfi, ia_sfi, (F6 2 (by omega)).2.2.1])
            refine ⟨_, ?_, s7, ⟨((P5.1.tr (F6.mono (fun c z => Or.inr (Or.inl z)))).tr (Fr.sfi _ _ _ _ (Or.inr (Or.inl (by omega))))).tr (Fr.sfi _ _ _ _ (Or.inr (Or.inl (by omega)))), ?_, ?_, okb_txt hP.2.2.2 (by omega) ⟨mr.1, mr.2.1⟩ zL br.1 yr.1⟩, by omega⟩
            · rw [show kp 4 500 0 h4 = _ from e5, bnd_s, if_pos s5.2.2.1, e6, bnd_s, lt_b, lt_b, B6.2.1, fi_sfi_nk _ _ _ _ _ (by omega), g6, P5.2.2.1, show vT (leB β k b y m (vT β)) = vT β from rfl, wl_1, w_add, w_s]
            · obtain ⟨d1, d2, d3, d4, d5, d6, d7, d8⟩ := B6
              refine ⟨?_, ?_, ?_, ?_, ?_, d6, d7, d8⟩
              · simp (disch := omega) only [fi_sfi_nk]; exact d1
              · rw [fi_sfi_nk _ _ _ _ _ (by omega), fi_sfi_eq]; rfl
              · simp (disch := omega) only [fi_sfi_nk]; exact d3
              · simp (disch := omega) only [fi_sfi_nk]; exact d4
              · simp (disch := omega) only [fi_sfi_nk]; exact d5
            · rw [fi_sfi_eq]
              obtain ⟨m', rfl⟩ : ∃ m', m = m' + 1 := ⟨m - 1, by omega⟩
              show _ = orF (fun l => if l < vL β then vk β l else k) (vL β + (m' + 1))
              rw [orF_m _ (vL β) k m' (fun l a b => if_neg (by omega)), orF_c (fun l => if l < vL β then vk β l else k) (vk β) (vL β) (fun l hl => if_pos hl)]
      · rw [(M2 m hy).2 (by omega), if_neg (by rw [wl_40, w_le _ _ (by omega) (by omega) (by omega) (by omega)]; omega), g4]
        refine ⟨fun e he => ?_, fun b' q' he => (by cases he)⟩
        cases he
        obtain ⟨h4, e4, f4, s4⟩ := s3.blame (c := 2) (p := tst t n (ten t n q)) (by omega) (by omega)
        have e4 : f_X7_blame 1 2 (w32 (tst t n (ten t n q) : Nat)) h3 = some h4 := e4
        exact ⟨h4, by rw [e4, bnd_s, s4.ktT], s4, hP.1.tr (wbk_ft (f13.tr f4))⟩
/-- the class: hair -/
theorem k_har (ha : 3 ≤ a0) (hP : PBc h0 a0 β h) (x : SC h t n q) : (∀ e, bkH t n β q = .inl e → ∃ h1, bnd (f_X7_number 1 0 100 h) (fun q12 => lt (sfi q12.2 a0 3 q12.1) (fun h13 => some h13)) = some h1 ∧ ER h1 e ∧ Fr (WBk a0) h0 h1) ∧ (∀ β' q', bkH t n β q = .inr (β', q') → ∃ h1, bnd (f_X7_number 1 0 100 h) (fun q12 => lt (sfi q12.2 a0 3 q12.1) (fun h13 => some h13)) = some h1 ∧ SC h1 t n q' ∧ PBc h0 a0 β' h1 ∧ q ≤ q') := by
  have hq := x.2.1
  have rq1 := ten_ge (t := t) hq
  unfold bkH
  have N := x.num (lo := 0) (hi := 100) (by omega) (by omega)
  have n1 : ∀ (g : AH) (j : Nat) (v : Int32), hfi (sfi g a0 j v) 1 = hfi g 1 := fun g j v => fi_sfi_ne _ _ _ _ _ (by omega)
  cases hx : pn t n 0 100 q with
  | inl e0 =>
    refine ⟨fun e he => ?_, fun b' q' he => (by cases he)⟩
    cases he
    obtain ⟨h2, e2, f2, s2⟩ := N.2 e0 hx
    exact ⟨_, by rw [show f_X7_number 1 0 100 h = _ from e2, bnd_s]; rfl, s2.fr (n1 _ _ _), (hP.1.tr (wbk_ft f2)).tr (Fr.sfi _ _ _ _ (Or.inr (Or.inl (by omega))))⟩
  | inr v =>
    obtain ⟨h2, e2, f2, s2, -⟩ := N.1 v hx
    have vr := pn_rg hx
    refine ⟨fun e he => (by cases he), fun b' q' he => ?_⟩
    cases he
    have P2 := hP.ft ha f2
    refine ⟨sfi h2 a0 3 (w32 (v : Nat)), by rw [show f_X7_number 1 0 100 h = _ from e2, bnd_s]; rfl, s2.fr (n1 _ _ _) rfl, ⟨P2.1.tr (Fr.sfi _ _ _ _ (Or.inr (Or.inl (by omega)))), ?_, ?_, okb_har hP.2.2.2 vr.2.1⟩, by omega⟩
    · obtain ⟨d1, d2, d3, d4, d5, d6, d7, d8⟩ := P2.2.1
      refine ⟨?_, ?_, ?_, ?_, ?_, d6, d7, d8⟩
      · rw [fi_sfi_nk _ _ _ _ _ (by omega)]; exact d1
      · rw [fi_sfi_nk _ _ _ _ _ (by omega)]; exact d2
      · rw [fi_sfi_eq]; rfl
      · rw [fi_sfi_nk _ _ _ _ _ (by omega)]; exact d4
      · rw [fi_sfi_nk _ _ _ _ _ (by omega)]; exact d5
    · rw [fi_sfi_nk _ _ _ _ _ (by omega)]; exact P2.2.2.1
def ksT (a0 : Nat) (j : Int32) (h8 : AH) : Option AH := bnd (f_X7_number 1 1 999 h8) (fun q9 => if (hfi q9.2 1 1) = 0 then if (hfi q9.2 a0 0) ≤ j then some q9.2 else gd (ib j 40 = true) (lt (sia q9.2 (a0 + 6) (cl j) q9.1) (fun h13 => some h13)) else some q9.2)
theorem k_sp0 : f_X0_writeSpilt a0 1 h = bnd (f_X7_number 1 0 9999 h) (fun q1 => if q1.1 < (hfi q1.2 a0 0) then gd (ib q1.1 40 = true) (if (hia q1.2 (a0 + 6) (cl q1.1)) ≤ 0 then ksT a0 q1.1 q1.2 else bnd (f_X7_blame 1 5 (hfi q1.2 1 4) q1.2) (fun q6 => ksT a0 q1.1 q6)) else bnd (f_X7_blame 1 3 (hfi q1.2 1 4) q1.2) (fun q7 => ksT a0 q1.1 q7)) := rfl
theorem ER.ksT {e : Nat × Nat} (x : ER h e) (a0 : Nat) (j : Int32) : ksT a0 j h = some h := by
  unfold Jvm.Pilot.CThumbBookLaw_law_r9791_0ea6f9.ksT
  rw [x.num, bnd_s, if_neg x.ne]
/-- the class: spilt -/
theorem k_spl (ha : 3 ≤ a0) (hP : PBc h0 a0 β h) (x : SC h t n q) : (∀ e, bkS t n β q = .inl e → ∃ h1, f_X0_writeSpilt a0 1 h = some h1 ∧ ER h1 e ∧ Fr (WBk a0) h0 h1) ∧ (∀ β' q', bkS t n β q = .inr (β', q') → ∃ h1, f_X0_writeSpilt a0 1 h = some h1 ∧ SC h1 t n q' ∧ PBc h0 a0 β' h1 ∧ q ≤ q') := by
  have hn := x.1.2.1
  have hq := x.2.1
  have rq1 := ten_ge (t := t) hq
  have rq2 := ten_ge (t := t) rq1.2
  have tg := tok_rg (t := t) hq
  have oB := hP.2.2.2.1
  have oL := oB.1
  rw [k_sp0]
  unfold bkS
  have N := x.num (lo := 0) (hi := 9999) (by omega) (by omega)
  cases hx : pn t n 0 9999 q with
  | inl e0 =>
    refine ⟨fun e he => ?_, fun b' q' he => (by cases he)⟩
    cases he
    obtain ⟨h2, e2, f2, s2⟩ := N.2 e0 hx
    refine ⟨h2, ?_, s2, hP.1.tr (wbk_ft f2)⟩
    rw [show f_X7_number 1 0 9999 h = _ from e2, bnd_s, gd_t (by rw [w_ibN _ _ (by omega)]; omega), s2.ksT, s2.blame, bnd_s, s2.ksT, ite_self, s2.blame, bnd_s, s2.ksT, ite_self]
  | inr j =>
    obtain ⟨h2, e2, f2, s2, g4⟩ := N.1 j hx
    have jr := pn_rg hx
    have P2 := hP.ft ha f2
    rw [show f_X7_number 1 0 9999 h = _ from e2, bnd_s]
    dsimp only
    rw [P2.2.1.1]
    by_cases zL : j < vL β
    · have oj := oB.2.2.2.2.2.1 j zL
      have d6 := P2.2.1.2.2.2.2.2.1 j zL
      rw [if_pos zL, if_pos (show w32 (j : Nat) < w32 (vL β : Nat) by rw [w_lt _ _ (by omega) (by omega) (by omega) (by omega)]; omega), gd_t (by rw [w_ibN _ _ (by omega)]; omega), w_clN _ (by omega), d6.2.2.2.2.2]
      by_cases zs : vs β j ≠ 0
      · rw [if_pos zs, if_neg (by rw [wl_0, w_le _ _ (by omega) (by omega) (by omega) (by omega)]; omega), g4]
        refine ⟨fun e he => ?_, fun b' q' he => (by cases he)⟩
        cases he
        obtain ⟨h4, e4, f4, s4⟩ := s2.blame (c := 5) (p := tst t n q) (by omega) (by omega)
        have e4 : f_X7_blame 1 5 (w32 (tst t n q : Nat)) h2 = some h4 := e4
        exact ⟨h4, by rw [e4, bnd_s, s4.ksT], s4, hP.1.tr (wbk_ft (f2.tr f4))⟩
      · rw [if_neg zs, if_pos (by rw [wl_0, w_le _ _ (by omega) (by omega) (by omega) (by omega)]; omega)]
        unfold ksT
        have N2 := s2.num (lo := 1) (hi := 999) (by omega) (by omega)
        cases hy : pn t n 1 999 (ten t n q) with
        | inl e0 =>
          refine ⟨fun e he => ?_, fun b' q' he => (by cases he)⟩
          cases he
          obtain ⟨h3, e3, f3, s3⟩ := N2.2 e0 hy
          exact ⟨h3, by rw [show f_X7_number 1 1 999 h2 = _ from e3, bnd_s, if_neg s3.ne], s3, hP.1.tr (wbk_ft (f2.tr f3))⟩
        | inr v =>
          obtain ⟨h3, e3, f3, s3, -⟩ := N2.1 v hy
          have vr := pn_rg hy
          have P3 := hP.ft ha (f2.tr f3)
          refine ⟨fun e he => (by cases he), fun b' q' he => ?_⟩
          cases he
          refine ⟨sia h3 (a0 + 6) j (w32 (v : Nat)), ?_, s3.fr rfl (ia_sia_ne _ _ _ _ _ (by omega)), ⟨P3.1.tr (Fr.sia _ _ _ _ (Or.inr (Or.inl (by omega)))), ?_, P3.2.2.1, okb_sp hP.2.2.2 vr.2.1⟩, by omega⟩
          · rw [show f_X7_number 1 1 999 h2 = _ from e3, bnd_s, if_pos s3.2.2.1]
            dsimp only
            rw [P3.2.1.1, if_neg (by rw [w_le _ _ (by omega) (by omega) (by omega) (by omega)]; omega), gd_t (by rw [w_ibN _ _ (by omega)]; omega), w_clN _ (by omega)]
            rfl
          · obtain ⟨d1, d2, d3, d4, d5, d6, d7, d8⟩ := P3.2.1
            refine ⟨d1, d2, d3, d4, d5, fun l hl => ?_, fun w hw => ?_, fun r hr => ?_⟩
            · show _ ∧ _ ∧ _ ∧ _ ∧ _ ∧ _ = w32 (upF (vs β) j v l : Nat)
              simp (disch := omega) only [ia_sia_ne]
              obtain ⟨c1, c2, c3, c4, c5, c6⟩ := d6 l hl
              refine ⟨c1, c2, c3, c4, c5, ?_⟩
              by_cases z : l = j
              · rw [z, ia_sia_eq, upF_eq]
              · rw [ia_sia_nk _ _ _ _ _ z, upF_ne _ _ z]; exact c6
            · simp (disch := omega) only [ia_sia_ne]; exact d7 w hw
            · simp (disch := omega) only [ia_sia_ne]; exact d8 r hr
    · rw [if_neg zL, if_neg (show ¬ w32 (j : Nat) < w32 (vL β : Nat) by rw [w_lt _ _ (by omega) (by omega) (by omega) (by omega)]; omega), g4]
      refine ⟨fun e he => ?_, fun b' q' he => (by cases he)⟩
      cases he
      obtain ⟨h4, e4, f4, s4⟩ := s2.blame (c := 3) (p := tst t n q) (by omega) (by omega)
      have e4 : f_X7_blame 1 3 (w32 (tst t n q : Nat)) h2 = some h4 := e4
      exact ⟨h4, by rw [e4, bnd_s, s4.ksT], s4, hP.1.tr (wbk_ft (f2.tr f4))⟩
def kwJ (a0 : Nat) (y : Int32) (h11 : AH) : Option AH := bnd (f_X7_number 1 1 99 h11) (fun q12 => if (hfi q12.2 1 1) = 0 then if 4 ≤ (hfi q12.2 a0 4) then some q12.2 else gd (ib (hfi q12.2 a0 4) 4 = true) (lt (sia q12.2 (a0 + 13) (cl (hfi q12.2 a0 4)) y) (fun h16 => gd (ib (hfi h16 a0 4) 4 = true) (lt (sia h16 (a0 + 14) (cl (hfi h16 a0 4)) q12.1) (fun h18 => lt (sfi h18 a0 4 ((hfi h18 a0 4) + 1)) (fun h19 => some h19))))) else some q12.2)
def kwK (a0 : Nat) (h4 : AH) : Option AH := bnd (f_X7_number 1 0 500 h4) (fun q5 => if (hfi q5.2 a0 4) ≤ 0 then kwJ a0 q5.1 q5.2 else gd (ib ((hfi q5.2 a0 4) - 1) 4 = true) (if (hia q5.2 (a0 + 13) (cl ((hfi q5.2 a0 4) - 1))) < q5.1 then kwJ a0 q5.1 q5.2 else bnd (f_X7_blame 1 4 (hfi q5.2 1 4) q5.2) (fun q10 => kwJ a0 q5.1 q10)))
theorem k_ws0 : f_X0_writeWashed a0 1 h = if (hfi h a0 4) < 4 then kwK a0 h else bnd (f_X7_blame 1 2 (hfi h 1 4) h) (fun q3 => kwK a0 q3) := rfl
theorem ER.kwJ {e : Nat × Nat} (x : ER h e) (a0 : Nat) (j : Int32) : kwJ a0 j h = some h := by
  unfold Jvm.Pilot.CThumbBookLaw_law_r9791_0ea6f9.kwJ
  rw [x.num, bnd_s, if_neg x.ne]
theorem k_kwL {e : Nat × Nat} (x : ER h e) {W : Nat} (y : Int32) (h4 : hfi h a0 4 = w32 (W : Nat)) (hW : W ≤ 4) : (if (hfi h a0 4) ≤ 0 then kwJ a0 y h else gd (ib ((hfi h a0 4) - 1) 4 = true) (if (hia h (a0 + 13) (cl ((hfi h a0 4) - 1))) < y then kwJ a0 y h else bnd (f_X7_blame 1 4 (hfi h 1 4) h) (fun q10 => kwJ a0 y q10))) = some h := by
  rw [h4]
  by_cases z : W = 0
  · rw [if_pos (by rw [wl_0, w_le _ _ (by omega) (by omega) (by omega) (by omega)]; omega), x.kwJ]
  · rw [if_neg (by rw [wl_0, w_le _ _ (by omega) (by omega) (by omega) (by omega)]; omega), show w32 (W : Nat) - 1 = w32 ((W - 1 : Nat) : Int) from by rw [wl_1, w_sub]; exact ww (by omega), gd_t (by rw [w_ibN _ _ (by omega)]; omega), x.kwJ, x.blame, bnd_s, x.kwJ, ite_self]
/-- the class: washed -/
theorem k_wsh {p : Nat} (ha : 3 ≤ a0) (hP : PBc h0 a0 β h) (x : SC h t n q) (e4 : hfi h 1 4 = w32 (p : Nat)) (hp : p ≤ 500) : (∀ e, bkW t n β p q = .inl e → ∃ h1, f_X0_writeWashed a0 1 h = some h1 ∧ ER h1 e ∧ Fr (WBk a0) h0 h1) ∧ (∀ β' q', bkW t n β p q = .inr (β', q') → ∃ h1, f_X0_writeWashed a0 1 h = some h1 ∧ SC h1 t n q' ∧ PBc h0 a0 β' h1 ∧ q ≤ q') := by
  have hn := x.1.2.1
  have hq := x.2.1
  have rq1 := ten_ge (t := t) hq
  have rq2 := ten_ge (t := t) rq1.2
  have tg := tok_rg (t := t) hq
  have oB := hP.2.2.2.1
  have oW := oB.2.2.2.1
  have fW : ∀ {g : AH}, FT h g → hfi g a0 4 = w32 (vW β : Nat) := fun f => by rw [(f.1 a0 (by omega)).1]; exact hP.2.1.2.2.2.1
  rw [k_ws0, hP.2.1.2.2.2.1]
  unfold bkW
  by_cases z4 : vW β = 4
  · rw [if_pos z4, if_neg (by rw [wl_4, w_lt _ _ (by omega) (by omega) (by omega) (by omega)]; omega), e4]
    refine ⟨fun e he => ?_, fun b' q' he => (by cases he)⟩
    cases he
    obtain ⟨h3, e3, f3, s3⟩ := x.blame (c := 2) (p := p) (by omega) hp
    have e3 : f_X7_blame 1 2 (w32 (p : Nat)) h = some h3 := e3
    refine ⟨h3, ?_, s3, hP.1.tr (wbk_ft f3)⟩
    rw [e3, bnd_s]
    unfold kwK
    rw [s3.num, bnd_s]
    exact k_kwL s3 _ (fW f3) oW
  · rw [if_neg z4, if_pos (by rw [wl_4, w_lt _ _ (by omega) (by omega) (by omega) (by omega)]; omega)]
    unfold kwK
    have N := x.num (lo := 0) (hi := 500) (by omega) (by omega)
    cases hx : pn t n 0 500 q with
    | inl e0 =>
      refine ⟨fun e he => ?_, fun b' q' he => (by cases he)⟩
      cases he
      obtain ⟨h2, e2, f2, s2⟩ := N.2 e0 hx
      refine ⟨h2, ?_, s2, hP.1.tr (wbk_ft f2)⟩
      rw [show f_X7_number 1 0 500 h = _ from e2, bnd_s]
      exact k_kwL s2 _ (fW f2) oW
    | inr y =>
      obtain ⟨h2, e2, f2, s2, g4⟩ := N.1 y hx
      have yr := pn_rg hx
      have P2 := hP.ft ha f2
      rw [show f_X7_number 1 0 500 h = _ from e2, bnd_s]
      dsimp only
      rw [fW f2]
      have tail : (∀ e, (match pn t n 1 99 (ten t n q) with
          | .inl e => .inl e
          | .inr o => .inr (wsB β y o, ten t n (ten t n q)) : RB) = .inl e → ∃ h1, kwJ a0 (w32 (y : Nat)) h2 = some h1 ∧ ER h1 e ∧ Fr (WBk a0) h0 h1) ∧ (¬ (0 < vW β ∧ y ≤ vwy β (vW β - 1)) → ∀ β' q', (match pn t n 1 99 (ten t n q) with
          | .inl e => .inl e
          | .inr o => .inr (wsB β y o, ten t n (ten t n q)) : RB) = .inr (β', q') → ∃ h1, kwJ a0 (w32 (y : Nat)) h2 = some h1 ∧ SC h1 t n q' ∧ PBc h0 a0 β' h1 ∧ q ≤ q') := by
        unfold kwJ
        have N2 := s2.num (lo := 1) (hi := 99) (by omega) (by omega)
        cases hy : pn t n 1 99 (ten t n q) with
        | inl e0 =>
          refine ⟨fun e he => ?_, fun _ b' q' he => (by cases he)⟩
          cases he
          obtain ⟨h3, e3, f3, s3⟩ := N2.2 e0 hy
          exact ⟨h3, by rw [show f_X7_number 1 1 99 h2 = _ from e3, bnd_s, if_neg s3.ne], s3, hP.1.tr (wbk_ft (f2.tr f3))⟩
        | inr o =>
          obtain ⟨h3, e3, f3, s3, -⟩ := N2.1 o hy
          have or := pn_rg hy
          have P3 := hP.ft ha (f2.tr f3)
          refine ⟨fun e he => (by cases he), fun hl b' q' he => ?_⟩
          cases he
          have n1 : ∀ (g : AH) (j : Nat) (v : Int32), hfi (sfi g a0 j v) 1 = hfi g 1 := fun g j v => fi_sfi_ne _ _ _ _ _ (by omega)
          refine ⟨sfi (sia (sia h3 (a0 + 13) (vW β) (w32 (y : Nat))) (a0 + 14) (vW β) (w32 (o : Nat))) a0 4 (w32 (vW β + 1 : Nat)), ?_, s3.fr (n1 _ _ _) (by rw [ia_sfi, ia_sia_ne _ _ _ _ _ (by omega), ia_sia_ne _ _ _ _ _ (by omega)]), ⟨((P3.1.tr (Fr.sia _ _ _ _ (Or.inr (Or.inr (Or.inl rfl))))).tr (Fr.sia _ _ _ _ (Or.inr (Or.inr (Or.inr rfl))))).tr (Fr.sfi _ _ _ _ (Or.inr (Or.inl (by omega)))), ?_, ?_, okb_ws hP.2.2.2 (by omega) yr.2.1 ⟨or.1, or.2.1⟩ hl⟩, by omega⟩
          · rw [show f_X7_number 1 1 99 h2 = _ from e3, bnd_s, if_pos s3.2.2.1]
            simp only [fi_sia, lt_b, fW (f2.tr f3)]
            rw [if_neg (by rw [wl_4, w_le _ _ (by omega) (by omega) (by omega) (by omega)]; omega), gd_t (by rw [w_ibN _ _ (by omega)]; omega), gd_t (by rw [w_ibN _ _ (by omega)]; omega), w_clN _ (by omega), wl_1, w_add, w_s]
          · obtain ⟨d1, d2, d3, d4, d5, d6, d7, d8⟩ := P3.2.1
            refine ⟨?_, ?_, ?_, ?_, ?_, fun l hl => ?_, fun w hw => ?_, fun r hr => ?_⟩
            · rw [fi_sfi_nk _ _ _ _ _ (by omega)]; exact d1
            · rw [fi_sfi_nk _ _ _ _ _ (by omega)]; exact d2
            · rw [fi_sfi_nk _ _ _ _ _ (by omega)]; exact d3
            · rw [fi_sfi_eq]; rfl
            · rw [fi_sfi_nk _ _ _ _ _ (by omega)]; exact d5
            · simp (disch := omega) only [ia_sfi, ia_sia_ne]; exact d6 l hl
            · have hw : w < vW β + 1 := hw
              show _ = w32 (upF (vwy β) (vW β) y w : Nat) ∧ _ = w32 (upF (vwo β) (vW β) o w : Nat)
              by_cases z : w = vW β
              · subst z
                rw [upF_eq, upF_eq]
                simp (disch := omega) only [ia_sfi, ia_sia_ne, ia_sia_eq]
                exact ⟨trivial, trivial⟩
              · rw [upF_ne _ _ z, upF_ne _ _ z]
                simp (disch := omega) only [ia_sfi, ia_sia_ne, ia_sia_nk]
                exact d7 w (by omega)
            · simp (disch := omega) only [ia_sfi, ia_sia_ne]; exact d8 r hr
          · rw [fi_sfi_nk _ _ _ _ _ (by omega)]; exact P3.2.2.1
      by_cases z0 : vW β = 0
      · rw [if_neg (show ¬ (0 < vW β ∧ y ≤ vwy β (vW β - 1)) by omega), if_pos (by rw [wl_0, w_le _ _ (by omega) (by omega) (by omega) (by omega)]; omega)]
        exact ⟨tail.1, tail.2 (by omega)⟩
      · have d7 := (P2.2.1.2.2.2.2.2.2.1 (vW β - 1) (by omega)).1
        have oy := (oB.2.2.2.2.2.2.1 (vW β - 1) (by omega)).1
        rw [if_neg (show ¬ (w32 (vW β : Nat) ≤ 0) by rw [wl_0, w_le _ _ (by omega) (by omega) (by omega) (by omega)]; omega), show w32 (vW β : Nat) - 1 = w32 ((vW β - 1 : Nat) : Int) from by rw [wl_1, w_sub]; exact ww (by omega), gd_t (by rw [w_ibN _ _ (by omega)]; omega), w_clN _ (by omega), d7]
        by_cases zy : y ≤ vwy β (vW β - 1)
        · rw [if_pos (show 0 < vW β ∧ y ≤ vwy β (vW β - 1) from ⟨by omega, zy⟩), if_neg (by rw [w_lt _ _ (by omega) (by omega) (by omega) (by omega)]; omega), g4]
          refine ⟨fun e he => ?_, fun b' q' he => (by cases he)⟩
          cases he
          obtain ⟨h4, e4, f4, s4⟩ := s2.blame (c := 4) (p := tst t n q) (by omega) (by omega)
          have e4 : f_X7_blame 1 4 (w32 (tst t n q : Nat)) h2 = some h4 := e4
          exact ⟨h4, by rw [e4, bnd_s, s4.kwJ], s4, hP.1.tr (wbk_ft (f2.tr f4))⟩
        · rw [if_neg (show ¬ (0 < vW β ∧ y ≤ vwy β (vW β - 1)) by omega), if_pos (by rw [w_lt _ _ (by omega) (by omega) (by omega) (by omega)]; omega)]
          exact ⟨tail.1, tail.2 (by omega)⟩
/-- the class: a line of a book -/
theorem k_bkL (ha : 3 ≤ a0) (hP : PBc h0 a0 β h) (x : SC h t n q) : (∀ e, bkL t n β q = .inl e → ∃ h1 h2, f_X0_writeLine a0 1 h = some h1 ∧ f_X7_endLine 1 h1 = some h2 ∧ ER h2 e ∧ Fr (WBk a0) h0 h2) ∧ (∀ β' q', bkL t n β q = .inr (β', q') → ∃ h1 h2, f_X0_writeLine a0 1 h = some h1 ∧ f_X7_endLine 1 h1 = some h2 ∧ SC h2 t n q' ∧ PBc h0 a0 β' h2 ∧ q < q') := by
  have hn := x.1.2.1
  have hq := x.2.1
  have rg := tok_rg (t := t) hq
  have tk : ∀ (i : Nat) (hi : i < 35) (hl : wl i ≤ 20), wd t n i q → ∃ g, f_X7_takes 1 i h = some (true, g) ∧ SC g t n (ten t n q) ∧ PBc h0 a0 β g ∧ hfi g 1 4 = w32 (tst t n q : Nat) ∧ q < ten t n q := fun i hi hl w => by
    obtain ⟨g, e1, f1, s1, g4⟩ := (x.takes hi hl).1 w
    have rs := rg.2.2.2.2.1 (by rw [w.1]; omega)
    exact ⟨g, e1, s1, hP.ft ha f1, g4, by omega⟩
  have body : (∀ e, bkB t n β q = .inl e → ∃ h1, f_X0_writeLine a0 1 h = some h1 ∧ ER h1 e ∧ Fr (WBk a0) h0 h1) ∧ (∀ β' q', bkB t n β q = .inr (β', q') → ∃ h1, f_X0_writeLine a0 1 h = some h1 ∧ SC h1 t n q' ∧ PBc h0 a0 β' h1 ∧ q < q') := by
    unfold bkB f_X0_writeLine
    by_cases w2 : wd t n 2 q
    · obtain ⟨g, e1, s1, P1, g4, lt1⟩ := tk 2 (by omega) (by decide) w2
      rw [if_pos (wdB_t.2 w2), e1, bnd_s]
      dsimp only
      rw [if_pos rfl]
      obtain ⟨r1, r2⟩ := k_txt ha P1 s1
      refine ⟨fun e he => ?_, fun b' q' he => ?_⟩
      · obtain ⟨h1, a1, a2, a3⟩ := r1 e he
        exact ⟨h1, by rw [a1, bnd_s], a2, a3⟩
      · obtain ⟨h1, a1, a2, a3, a4⟩ := r2 b' q' he
        exact ⟨h1, by rw [a1, bnd_s], a2, a3, by omega⟩
    · rw [if_neg (fun y => w2 (wdB_t.1 y)), (x.takes (i := 2) (by omega) (by decide)).2 w2, bnd_s]
      dsimp only
      rw [if_neg (show ¬ (false = true) by decide)]
      by_cases w5 : wd t n 5 q
      · obtain ⟨g, e1, s1, P1, g4, lt1⟩ := tk 5 (by omega) (by decide) w5
        rw [if_pos (wdB_t.2 w5), e1, bnd_s]
        dsimp only
        rw [if_pos rfl]
        obtain ⟨r1, r2⟩ := k_har ha P1 s1
        refine ⟨r1, fun b' q' he => ?_⟩
        obtain ⟨h1, a1, a2, a3, a4⟩ := r2 b' q' he
        exact ⟨h1, a1, a2, a3, by omega⟩
      · rw [if_neg (fun y => w5 (wdB_t.1 y)), (x.takes (i := 5) (by omega) (by decide)).2 w5, bnd_s]
        dsimp only
        rw [if_neg (show ¬ (false = true) by decide)]
        by_cases w6 : wd t n 6 q
        · obtain ⟨g, e1, s1, P1, g4, lt1⟩ := tk 6 (by omega) (by decide) w6
          rw [if_pos (wdB_t.2 w6), e1, bnd_s]
          dsimp only
          rw [if_pos rfl]
          obtain ⟨r1, r2⟩ := k_spl ha P1 s1
          refine ⟨fun e he => ?_, fun b' q' he => ?_⟩
          · obtain ⟨h1, a1, a2, a3⟩ := r1 e he
            exact ⟨h1, by rw [a1, bnd_s], a2, a3⟩
          · obtain ⟨h1, a1, a2, a3, a4⟩ := r2 b' q' he
            exact ⟨h1, by rw [a1, bnd_s], a2, a3, by omega⟩
        · rw [if_neg (fun y => w6 (wdB_t.1 y)), (x.takes (i := 6) (by omega) (by decide)).2 w6, bnd_s]
          dsimp only
          rw [if_neg (show ¬ (false = true) by decide)]
          by_cases w7 : wd t n 7 q
          · obtain ⟨g, e1, s1, P1, g4, lt1⟩ := tk 7 (by omega) (by decide) w7
            rw [if_pos (wdB_t.2 w7), e1, bnd_s]
            dsimp only
            rw [if_pos rfl]
            obtain ⟨r1, r2⟩ := k_wsh ha P1 s1 g4 (by omega)
            refine ⟨fun e he => ?_, fun b' q' he => ?_⟩
            · obtain ⟨h1, a1, a2, a3⟩ := r1 e he
              exact ⟨h1, by rw [a1, bnd_s], a2, a3⟩
            · obtain ⟨h1, a1, a2, a3, a4⟩ := r2 b' q' he
              exact ⟨h1, by rw [a1, bnd_s], a2, a3, by omega⟩
          · rw [if_neg (fun y => w7 (wdB_t.1 y)), (x.takes (i := 7) (by omega) (by decide)).2 w7, bnd_s]
            dsimp only
            rw [if_neg (show ¬ (false = true) by decide), x.2.2.2.2.1]
            obtain ⟨h1, e1, f1, s1⟩ := x.blame (c := 1) (p := tst t n q) (by omega) (by omega)
            have e1 : f_X7_blame 1 1 (w32 (tst t n q : Nat)) h = some h1 := e1
            refine ⟨fun e he => ?_, fun b' q' he => (by cases he)⟩
            cases he
            exact ⟨h1, by rw [e1, bnd_s], s1, hP.1.tr (wbk_ft f1)⟩
  unfold bkL
  cases hb : bkB t n β q with
  | inl e0 =>
    refine ⟨fun e he => ?_, fun b' q' he => (by cases he)⟩
    cases he
    obtain ⟨h1, a1, a2, a3⟩ := body.1 e0 hb
    exact ⟨h1, h1, a1, a2.fin, a2, a3⟩
  | inr p =>
    obtain ⟨β1, q1⟩ := p
    obtain ⟨h1, a1, a2, a3, a4⟩ := body.2 β1 q1 hb
    dsimp only
    by_cases z : tso t n q1 = 3
    · rw [if_pos z]
      refine ⟨fun e he => (by cases he), fun b' q' he => ?_⟩
      cases he
      obtain ⟨h2, e2, f2, s2⟩ := a2.fin.1 z
      have r := ten_ge (t := t) a2.2.1
      exact ⟨h1, h2, a1, e2, s2, a3.ft ha f2, by omega⟩
    · rw [if_neg z]
      refine ⟨fun e he => ?_, fun b' q' he => (by cases he)⟩
      cases he
      obtain ⟨h2, e2, f2, s2⟩ := a2.fin.2 z
      exact ⟨h1, h2, a1, e2, s2, a3.1.tr (wbk_ft f2)⟩
end BKD
