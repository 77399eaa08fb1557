/-! the ways, written -/
section WAYR
variable {h : AH} {S : SV} {T : Nat} {t : Nat → Nat} {n q : Nat}
def rwT (f : Nat) (h27 : AH) : Option AH := bnd (f_X12_readNumber 0 11 h27) (fun q28 => bnd (f_X12_readNumber 1 99 q28.2) (fun q29 => bnd (f_X12_perhaps 34 50 0 q29.2) (fun q30 => bnd (f_X12_semi q30.2) (fun q31 => if (hfi q31 193 34) = 0 then gd (ib (72 + q28.1) 84 = true) (lt (sia q31 216 (cl (72 + q28.1)) q29.1) (fun h34 => gd (ib (72 + q28.1) 84 = true) (lt (sia h34 217 (cl (72 + q28.1)) q30.1) (fun h36 => f_X12_way_l70 72 f h36)))) else f_X12_way_l70 72 f q31))))
theorem r_wl (f : Nat) : f_X12_way_l70 72 (f + 1) h = if (hfi h 193 34) = 0 then if (hfi h 193 30) = 0 then some h else bnd (f_X12_is 33 h) (fun q13 => lt (fun (h17 : AH) => if (hfi h17 193 34) = 0 then bnd (f_X12_stepOn h17) (fun q19 => if (hfi q19 193 30) = 2 then if 4 < ((hfi q19 193 33) - (hfi q19 193 32)) then rwT f q19 else if 12 ≤ (hfi q19 193 31) then rwT f q19 else gd (ib (72 + (hfi q19 193 31)) 84 = true) (if (hia q19 216 (cl (72 + (hfi q19 193 31)))) = (-1) then rwT f q19 else bnd (f_X12_wrong 5 q19) (fun q26 => rwT f q26)) else rwT f q19) else f_X12_way_l70 72 f h17) (fun j15 => if q13 = true then j15 h else bnd (f_X12_wrong 1 h) (fun q16 => j15 q16))) else some h := by
  rw [f_X12_way_l70]
  rfl
theorem EM.rwT {e : Nat × Nat} (x : EM h e) (f : Nat) : rwT f h = f_X12_way_l70 72 f h := by
  unfold Jvm.Pilot.CThumbBookLaw_law_r9791_0ea6f9.rwT
  rw [x.num, bnd_s]
  dsimp only
  rw [x.num, bnd_s]
  dsimp only
  rw [x.perhaps, bnd_s]
  dsimp only
  rw [x.semi, bnd_s, if_neg x.ne]
def PWm (h0 : AH) (s : WS2) (h : AH) : Prop := FrG h0 h ∧ (∀ k, k < 12 → hia h 216 (72 + k) = w32 (if s.1 k = 0 then -1 else (s.1 k : Int)) ∧ (s.1 k ≠ 0 → hia h 217 (72 + k) = w32 (s.2 k : Nat))) ∧ okw s
theorem wd_w (q : Nat) : (wd t n 33 q ↔ wd t n 12 q) ∧ (wd t n 34 q ↔ wd t n 13 q) := ⟨wd_same (by decide) (by decide), wd_same (by decide) (by decide)⟩
/-- the reference: what it looks at before the number -/
theorem r_val (x : SM h t n q) (z : tso t n q = 2) : hfi h 193 30 = 2 ∧ ((4 < hfi h 193 33 - hfi h 193 32) = (4 < ten t n q - tst t n q)) ∧ (¬ 4 < ten t n q - tst t n q → ∃ v : Nat, tvl t n q = v ∧ v ≤ 9999 ∧ hfi h 193 31 = w32 (v : Nat)) ∧ (4 < ten t n q - tst t n q → tvl t n q = 2147483647) := by
  obtain ⟨x1, x2, x3, x4, x5, x6, x7, x8⟩ := x
  have rg := tok_rg (t := t) x2
  have hn := x1.2.1
  have dg := tok_dig x2 z
  refine ⟨by rw [x5, z]; rfl, by rw [x7, x6, w_sub, wl_4, w_lt _ _ (by omega) (by omega) (by omega) (by omega)]; apply propext; omega, fun z4 => ?_, fun z4 => by unfold tvl; rw [if_pos z4]⟩
  have tv : tvl t n q = nvk t (tst t n q) (ten t n q - tst t n q) := by unfold tvl; rw [if_neg z4]
  have cv := cvk_eq (t := t) (s := tst t n q) (m := ten t n q - tst t n q) (fun j h1 h2 => dg j h1 (by omega)) _ (Nat.le_refl _) (by omega)
  have rv := nvk_4 (t := t) (s := tst t n q) (m := ten t n q - tst t n q) (fun j h1 h2 => dg j h1 (by omega)) (by omega)
  rw [← tv] at cv rv
  exact ⟨(tvl t n q).toNat, by omega, by omega, by rw [x8 z, cv, show ((tvl t n q).toNat : Int) = tvl t n q by omega]⟩
theorem pn_v {lo hi v : Nat} (hp : pn t n lo hi q = .inr v) : tvl t n q = v ∧ tso t n q = 2 := by
  have z := (pn_rg hp).2.2
  unfold pn at hp
  rw [if_neg (show ¬ (tso t n q ≠ 2) from fun y => y z)] at hp
  by_cases y : (lo : Int) ≤ tvl t n q ∧ tvl t n q ≤ hi
  · rw [if_pos y] at hp
    cases hp
    exact ⟨by omega, z⟩
  · rw [if_neg y] at hp; cases hp
theorem r_look (x : SM h t n q) {k hi : Nat} (hhi : hi ≤ 9999) (hp : pn t n 0 hi q = .inr k) : hfi h 193 30 = 2 ∧ ¬ (4 < hfi h 193 33 - hfi h 193 32) ∧ hfi h 193 31 = w32 (k : Nat) := by
  obtain ⟨tv, z⟩ := pn_v hp
  have kr := pn_rg hp
  obtain ⟨v1, v2, v3, v4⟩ := r_val x z
  have n4 : ¬ 4 < ten t n q - tst t n q := fun y => by have := v4 y; omega
  obtain ⟨v, w1, w2, w3⟩ := v3 n4
  exact ⟨v1, by rw [v2]; exact n4, by rw [w3, show v = k by omega]⟩
theorem r_look2 (x : SM h t n q) {hi : Nat} {e : Nat × Nat} (hp : pn t n 0 hi q = .inl e) : ¬ hfi h 193 30 = 2 ∨ (hfi h 193 30 = 2 ∧ 4 < hfi h 193 33 - hfi h 193 32) ∨ (hfi h 193 30 = 2 ∧ ¬ 4 < hfi h 193 33 - hfi h 193 32 ∧ ∃ v : Nat, hfi h 193 31 = w32 (v : Nat) ∧ hi < v ∧ v ≤ 9999) := by
  by_cases z : tso t n q = 2
  · obtain ⟨v1, v2, v3, v4⟩ := r_val x z
    by_cases n4 : 4 < ten t n q - tst t n q
    · exact Or.inr (Or.inl ⟨v1, by rw [v2]; exact n4⟩)
    · obtain ⟨v, w1, w2, w3⟩ := v3 n4
      refine Or.inr (Or.inr ⟨v1, by rw [v2]; exact n4, v, w3, ?_, w2⟩)
      unfold pn at hp
      rw [if_neg (show ¬ (tso t n q ≠ 2) from fun y => y z)] at hp
      by_cases y : ((0 : Nat) : Int) ≤ tvl t n q ∧ tvl t n q ≤ hi
      · rw [if_pos y] at hp; cases hp
      · omega
  · refine Or.inl ?_
    have rg := tok_rg (t := t) x.2.1
    rw [x.2.2.2.2.1, wl_2, w_eq _ _ (by omega) (by omega) (by omega) (by omega)]
    omega
/-- the reference: a line of a way -/
theorem r_wayL {h0 : AH} {f : Nat} {s : WS2} (hP : PWm h0 s h) (x : SM h t n q) (tz : tso t n q ≠ 0) : (∀ e, wayL t n s q = .inl e → ∃ h', f_X12_way_l70 72 (f + 1) h = f_X12_way_l70 72 f h' ∧ EM h' e ∧ FrG h0 h') ∧ (∀ s' q', wayL t n s q = .inr (s', q') → ∃ h', f_X12_way_l70 72 (f + 1) h = f_X12_way_l70 72 f h' ∧ SM h' t n q' ∧ PWm h0 s' h' ∧ q < q') := by
  obtain ⟨p1, p2, p3⟩ := hP
  have hn := x.1.2.1
  have hq := x.2.1
  have rg := tok_rg (t := t) hq
  have rs := rg.2.2.2.2.1 tz
  have a216 : ∀ {h1 h2 : AH}, FK KTe h1 h2 → hia h2 216 = hia h1 216 ∧ hia h2 217 = hia h1 217 := fun f => ⟨(f.1 _ (by omega)).2.2.1, (f.1 _ (by omega)).2.2.1⟩
  rw [r_wl, if_pos x.2.2.1, if_neg (by rw [x.zero]; exact tz)]
  unfold wayL
  by_cases w : wd t n 12 q
  · obtain ⟨h1, e1, f1, s1⟩ := x.step
    rw [if_pos (wdB_t.2 w), (x.is (i := 33) (by omega) (by decide)).1 ((wd_w q).1.2 w), bnd_s, lt_b, if_pos rfl]
    dsimp only
    rw [if_pos x.2.2.1, e1, bnd_s]
    have N := s1.num (lo := 0) (hi := 11) (by omega) (by omega)
    have fg := p1.tr (FrG.ke f1)
    cases hx : pn t n 0 11 (ten t n q) with
    | inl e0 =>
      refine ⟨fun e he => ?_, fun s' q' he => (by cases he)⟩
      cases he
      obtain ⟨v2, h2, e2, f2, s2⟩ := N.2 e0 hx
      have e3 : rwT f h1 = f_X12_way_l70 72 f h2 := by
        unfold rwT
        rw [show f_X12_readNumber 0 11 h1 = _ from e2, bnd_s]
        dsimp only
        rw [s2.num, bnd_s]
        dsimp only
        rw [s2.perhaps, bnd_s]
        dsimp only
        rw [s2.semi, bnd_s, if_neg s2.ne]
      refine ⟨h2, ?_, s2, fg.tr (FrG.ke f2)⟩
      rcases r_look2 s1 hx with y | ⟨y1, y2⟩ | ⟨y1, y2, v, y3, y4, y5⟩
      · rw [if_neg y, e3]
      · rw [if_pos y1, if_pos y2, e3]
      · rw [if_pos y1, if_neg y2, if_pos (by rw [y3, wl_12, w_le _ _ (by omega) (by omega) (by omega) (by omega)]; omega), e3]
    | inr k =>
      have kr := pn_rg hx
      obtain ⟨l1, l2, l3⟩ := r_look s1 (by omega) hx
      have pk := p2 k (by omega)
      rw [← (a216 f1).1, ← (a216 f1).2] at pk
      have ok := p3 k (by omega)
      have rq1 := ten_ge (t := t) rg.2.2.2.1
      have e72 : 72 + w32 (k : Nat) = w32 ((72 + k : Nat) : Int) := by rw [wl_72, w_add]; exact ww (by omega)
      rw [if_pos l1, if_neg l2, l3, if_neg (by rw [wl_12, w_le _ _ (by omega) (by omega) (by omega) (by omega)]; omega), e72, gd_t (by rw [w_ibN _ _ (by omega)]; omega), w_clN _ (by omega), pk.1]
      dsimp only
      by_cases z : s.1 k ≠ 0
      · rw [if_pos z, if_neg z, if_neg (by rw [show (-1 : Int32) = w32 (-1) from rfl]; exact ne_w (by omega) (by omega) (by omega) (by omega) (by omega))]
        refine ⟨fun e he => ?_, fun s' q' he => (by cases he)⟩
        cases he
        obtain ⟨h3, e3, f3, s3, -⟩ := s1.wrong (c := 5) (by omega)
        have e3 : f_X12_wrong 5 h1 = some h3 := e3
        exact ⟨h3, by rw [e3, bnd_s, s3.rwT], s3, fg.tr (FrG.ke f3)⟩
      · have z0 : s.1 k = 0 := by omega
        rw [if_neg z, if_pos z0, if_pos (show w32 (-1) = -1 from rfl)]
        obtain ⟨h2, e2, f2, s2⟩ := N.1 k hx
        have f12 := f1.tr f2
        unfold wayU rwT
        rw [show f_X12_readNumber 0 11 h1 = _ from e2, bnd_s]
        dsimp only
        have N2 := s2.num (lo := 1) (hi := 99) (by omega) (by omega)
        cases hy : pn t n 1 99 (ten t n (ten t n q)) with
        | inl e0 =>
          refine ⟨fun e he => ?_, fun s' q' he => (by cases he)⟩
          cases he
          obtain ⟨v3, h3, e3, f3, s3⟩ := N2.2 e0 hy
          refine ⟨h3, ?_, s3, (p1.tr (FrG.ke f12)).tr (FrG.ke f3)⟩
          rw [show f_X12_readNumber 1 99 h2 = _ from e3, bnd_s]
          dsimp only
          rw [s3.perhaps, bnd_s]
          dsimp only
          rw [s3.semi, bnd_s, if_neg s3.ne]
        | inr v =>
          obtain ⟨h3, e3, f3, s3⟩ := N2.1 v hy
          have vr := pn_rg hy
          have rq2 := ten_ge (t := t) rq1.2
          rw [show f_X12_readNumber 1 99 h2 = _ from e3, bnd_s]
          dsimp only
          have K := s3.perh (i := 34) (j := 13) (hi := 50) (d := 0) (by omega) (by decide) (by omega) (wd_w _).2
          cases hz : ppn t n 13 50 0 (ten t n (ten t n (ten t n q))) with
          | inl e0 =>
            refine ⟨fun e he => ?_, fun s' q' he => (by cases he)⟩
            cases he
            obtain ⟨v4, h4, e4, f4, s4⟩ := K.1 e0 hz
            refine ⟨h4, ?_, s4, ((p1.tr (FrG.ke f12)).tr (FrG.ke f3)).tr (FrG.ke f4)⟩
            rw [show f_X12_perhaps 34 50 0 h3 = _ from e4, bnd_s]
            dsimp only
            rw [s4.semi, bnd_s, if_neg s4.ne]
          | inr p =>
            obtain ⟨u, q4⟩ := p
            obtain ⟨h4, e4, f4, s4⟩ := K.2 u q4 hz
            have ur := ppn_rg rq2.2 (by omega) hz
            have f14 := (f12.tr f3).tr f4
            rw [show f_X12_perhaps 34 50 0 h3 = _ from e4, bnd_s]
            unfold wayT
            dsimp only
            by_cases y : tso t n q4 = 3
            · rw [if_pos y]
              refine ⟨fun e he => (by cases he), fun s' q' he => ?_⟩
              cases he
              obtain ⟨h6, e6, f6, s6⟩ := s4.fin.1 y
              have f16 := f14.tr f6
              have rq4 := ten_ge (t := t) ur.2.2
              refine ⟨sia (sia h6 216 (72 + k) (w32 (v : Nat))) 217 (72 + k) (w32 (u : Nat)), ?_, s6.fr rfl (by rw [ia_sia_ne _ _ _ _ _ (by omega), ia_sia_ne _ _ _ _ _ (by omega)]), ⟨((p1.tr (FrG.ke f16)).tr (FrG.w _ _ _ _ (by omega))).tr (FrG.w _ _ _ _ (by omega)), fun j hj => ?_, okw_up p3 ⟨vr.1, vr.2.1⟩ ur.1⟩, by omega⟩
              · rw [e6, bnd_s, if_pos s6.2.2.1, e72, gd_t (by rw [w_ibN _ _ (by omega)]; omega), lt_b, gd_t (by rw [w_ibN _ _ (by omega)]; omega), lt_b, w_clN _ (by omega)]
              · have pj := p2 j hj
                rw [← (a216 f16).1, ← (a216 f16).2] at pj
                show _ = w32 (if upF s.1 k v j = 0 then -1 else ((upF s.1 k v j : Nat) : Int)) ∧ (upF s.1 k v j ≠ 0 → _ = w32 (upF s.2 k u j : Nat))
                rw [ia_sia_ne _ _ _ _ _ (by omega)]
                by_cases yj : j = k
                · rw [yj, ia_sia_eq, ia_sia_eq, upF_eq, upF_eq, if_neg (by omega)]; exact ⟨rfl, fun _ => rfl⟩
                · rw [ia_sia_nk _ _ _ _ _ (by omega), ia_sia_nk _ _ _ _ _ (by omega), ia_sia_ne _ _ _ _ _ (by omega), upF_ne _ _ yj, upF_ne _ _ yj]; exact pj
            · rw [if_neg y]
              refine ⟨fun e he => ?_, fun s' q' he => (by cases he)⟩
              cases he
              obtain ⟨h6, e6, f6, s6⟩ := s4.fin.2 y
              exact ⟨h6, by rw [e6, bnd_s, if_neg s6.ne], s6, p1.tr (FrG.ke (f14.tr f6))⟩
  · rw [if_neg (fun y => w (wdB_t.1 y)), (x.is (i := 33) (by omega) (by decide)).2 (fun y => w ((wd_w q).1.1 y)), bnd_s, lt_b, if_neg (show ¬ (false = true) by decide)]
    obtain ⟨h1, e1, f1, g1, -⟩ := x.wrong (c := 1) (by omega)
    have e1 : f_X12_wrong 1 h = some h1 := e1
    refine ⟨fun e he => ?_, fun s' q' he => (by cases he)⟩
    cases he
    exact ⟨h1, by rw [e1, bnd_s]; dsimp only; rw [if_neg g1.ne], g1, p1.tr (FrG.ke f1)⟩
theorem r_l47 (h : AH) : ∃ h1, f_X12_way_l47 72 FU 0 h = some h1 ∧ FrG h h1 ∧ hfi h1 193 = hfi h 193 ∧ hia h1 219 = hia h 219 ∧ ∀ k, k < 12 → hia h1 216 (72 + k) = -1 :=
  loopR (fun f (s : Int32 × AH) => f_X12_way_l47 72 f s.1 s.2) (fun i s => s.1 = w32 (i : Nat) ∧ FrG h s.2 ∧ hfi s.2 193 = hfi h 193 ∧ hia s.2 219 = hia h 219 ∧ ∀ k, k < i → hia s.2 216 (72 + k) = -1) (fun r => FrG h r ∧ hfi r 193 = hfi h 193 ∧ hia r 219 = hia h 219 ∧ ∀ k, k < 12 → hia r 216 (72 + k) = -1) 12 (fun i f s hi hP => by
    obtain ⟨a1, a2, a3, a4, a5⟩ := hP
    refine ⟨(w32 (i + 1 : Nat), sia s.2 216 (72 + i) (-1)), ⟨rfl, a2.tr (FrG.w _ _ _ _ (by omega)), a3, by rw [← a4]; exact ia_sia_ne _ _ _ _ _ (by omega), fun k hk => ?_⟩, ?_⟩
    · show hia (sia s.2 216 (72 + i) (-1)) 216 (72 + k) = -1
      rw [ia_sia]
      by_cases z : 72 + k = 72 + i
      · rw [if_pos z]
      · rw [if_neg z]; exact a5 k (by omega)
    · show f_X12_way_l47 72 (f + 1) s.1 s.2 = f_X12_way_l47 72 f (w32 (i + 1 : Nat)) (sia s.2 216 (72 + i) (-1))
      rw [f_X12_way_l47, a1, wl_12, if_neg (by rw [w_le _ _ (by omega) (by omega) (by omega) (by omega)]; omega), show 72 + w32 (i : Nat) = w32 ((72 + i : Nat) : Int) from by rw [wl_72, w_add]; exact ww (by omega), gd_t (by rw [w_ibN _ _ (by omega)]; omega), w_clN _ (by omega), lt_b, wl_1, w_add, w_s]) (fun f s hP => by
    obtain ⟨a1, a2, a3, a4, a5⟩ := hP
    refine ⟨s.2, ?_, a2, a3, a4, a5⟩
    show f_X12_way_l47 72 (f + 1) s.1 s.2 = _
    rw [f_X12_way_l47, a1, if_pos (by decide)]) FU (by unfold FU; omega) (0, h) ⟨rfl, FrG.rf, rfl, rfl, fun k hk => by omega⟩
theorem r_l247 (h : AH) {w : Nat} (hw : w < 6) : ∃ h1, f_X12_way_l247 (w32 (w : Nat)) 72 FU 0 h = some h1 ∧ Fr (fun c => c = 216 ∨ c = 217) h h1 ∧ (∀ k, k < 12 → hia h1 216 (12 * w + k) = hia h 216 (72 + k) ∧ hia h1 217 (12 * w + k) = hia h 217 (72 + k)) ∧ (∀ j, (j < 12 * w ∨ 12 * w + 12 ≤ j) → hia h1 216 j = hia h 216 j ∧ hia h1 217 j = hia h 217 j) := by
  have e12 : ∀ i : Nat, i < 12 → 12 * w32 (w : Nat) + w32 (i : Nat) = w32 ((12 * w + i : Nat) : Int) := fun i hi => by rw [wl_12, w_mul, w_add]; exact ww (by omega)
  have e72 : ∀ i : Nat, i < 12 → 72 + w32 (i : Nat) = w32 ((72 + i : Nat) : Int) := fun i hi => by rw [wl_72, w_add]; exact ww (by omega)
  refine loopR (fun f (s : Int32 × AH) => f_X12_way_l247 (w32 (w : Nat)) 72 f s.1 s.2) (fun i s => s.1 = w32 (i : Nat) ∧ Fr (fun c => c = 216 ∨ c = 217) h s.2 ∧ (∀ k, k < i → hia s.2 216 (12 * w + k) = hia h 216 (72 + k) ∧ hia s.2 217 (12 * w + k) = hia h 217 (72 + k)) ∧ (∀ j, (j < 12 * w ∨ 12 * w + 12 ≤ j) → hia s.2 216 j = hia h 216 j ∧ hia s.2 217 j = hia h 217 j)) (fun r => Fr (fun c => c = 216 ∨ c = 217) h r ∧ (∀ k, k < 12 → hia r 216 (12 * w + k) = hia h 216 (72 + k) ∧ hia r 217 (12 * w + k) = hia h 217 (72 + k)) ∧ (∀ j, (j < 12 * w ∨ 12 * w + 12 ≤ j) → hia r 216 j = hia h 216 j ∧ hia r 217 j = hia h 217 j)) 12 (fun i f s hi hP => ?_) (fun f s hP => ?_) FU (by unfold FU; omega) (0, h) ⟨rfl, Fr.rf, fun k hk => by omega, fun j _ => ⟨rfl, rfl⟩⟩
  · obtain ⟨a1, a2, a3, a4⟩ := hP
    have c := a4 (72 + i) (by omega)
    refine ⟨(w32 (i + 1 : Nat), sia (sia s.2 216 (12 * w + i) (hia h 216 (72 + i))) 217 (12 * w + i) (hia h 217 (72 + i))), ⟨rfl, (a2.tr (Fr.sia _ _ _ _ (Or.inl rfl))).tr (Fr.sia _ _ _ _ (Or.inr rfl)), fun k hk => ?_, fun j hj => ?_⟩, ?_⟩
    · show hia (sia (sia s.2 216 (12 * w + i) (hia h 216 (72 + i))) 217 (12 * w + i) (hia h 217 (72 + i))) 216 (12 * w + k) = _ ∧ hia (sia (sia s.2 216 (12 * w + i) (hia h 216 (72 + i))) 217 (12 * w + i) (hia h 217 (72 + i))) 217 (12 * w + k) = _
      rw [ia_sia_ne _ _ _ _ 216 (by omega)]
      by_cases z : k = i
      · rw [z, ia_sia_eq, ia_sia_eq]; exact ⟨rfl, rfl⟩
      · rw [ia_sia_nk _ _ _ _ _ (by omega), ia_sia_nk _ _ _ _ _ (by omega), ia_sia_ne _ _ _ _ _ (by omega)]
        exact a3 k (by omega)
    · show hia (sia (sia s.2 216 (12 * w + i) (hia h 216 (72 + i))) 217 (12 * w + i) (hia h 217 (72 + i))) 216 j = _ ∧ hia (sia (sia s.2 216 (12 * w + i) (hia h 216 (72 + i))) 217 (12 * w + i) (hia h 217 (72 + i))) 217 j = _
      rw [ia_sia_ne _ _ _ _ 216 (by omega), ia_sia_nk _ _ _ _ _ (by omega), ia_sia_nk _ _ _ _ _ (by omega), ia_sia_ne _ _ _ _ _ (by omega)]
      exact a4 j hj
    · show f_X12_way_l247 (w32 (w : Nat)) 72 (f + 1) s.1 s.2 = f_X12_way_l247 (w32 (w : Nat)) 72 f (w32 (i + 1 : Nat)) _
      rw [f_X12_way_l247, a1, if_neg (show ¬ (12 : Int32) ≤ w32 (i : Nat) by rw [wl_12, w_le _ _ (by omega) (by omega) (by omega) (by omega)]; omega), e72 i hi, e12 i hi, gd_t (by rw [w_ibN _ _ (by omega)]; omega), gd_t (by rw [w_ibN _ _ (by omega)]; omega), lt_b, gd_t (by rw [w_ibN _ _ (by omega)]; omega), gd_t (by rw [w_ibN _ _ (by omega)]; omega), lt_b, w_clN _ (by omega), w_clN _ (by omega), c.1, ia_sia_ne _ _ _ _ 217 (by omega), c.2, wl_1, w_add, w_s]
  · obtain ⟨a1, a2, a3, a4⟩ := hP
    refine ⟨s.2, ?_, a2, a3, a4⟩
    show f_X12_way_l247 (w32 (w : Nat)) 72 (f + 1) s.1 s.2 = _
    rw [f_X12_way_l247, a1, if_pos (by decide)]
end WAYR
