/-! the reference's book lines -/
def PBm (h0 : AH) (β : BV) (h : AH) : Prop := FrG h0 h ∧ BM h 6 β ∧ okb β
section BKR
variable {h h0 : AH} {t : Nat → Nat} {n q : Nat} {β : BV}
theorem wd_b (q : Nat) : (wd t n 24 q ↔ wd t n 2 q) ∧ (wd t n 25 q ↔ wd t n 5 q) ∧ (wd t n 26 q ↔ wd t n 6 q) ∧ (wd t n 27 q ↔ wd t n 7 q) ∧ (wd t n 31 q ↔ wd t n 3 q) ∧ (wd t n 32 q ↔ wd t n 4 q) := ⟨wd_same (by decide) (by decide), wd_same (by decide) (by decide), wd_same (by decide) (by decide), wd_same (by decide) (by decide), wd_same (by decide) (by decide), wd_same (by decide) (by decide)⟩
theorem pn_e {lo hi : Nat} {e : Nat × Nat} (hp : pn t n lo hi q = .inl e) : (tso t n q ≠ 2 ∧ e = (1, tst t n q)) ∨ (tso t n q = 2 ∧ e = (2, tst t n q) ∧ ¬ ((lo : Int) ≤ tvl t n q ∧ tvl t n q ≤ hi)) := by
  unfold pn at hp
  by_cases z : tso t n q ≠ 2
  · rw [if_pos z] at hp
    cases hp
    exact Or.inl ⟨z, rfl⟩
  · rw [if_neg z] at hp
    by_cases y : (lo : Int) ≤ tvl t n q ∧ tvl t n q ≤ hi
    · rw [if_pos y] at hp; cases hp
    · rw [if_neg y] at hp
      cases hp
      exact Or.inr ⟨by omega, rfl, y⟩
theorem EM.l56 {e : Nat × Nat} (x : EM h e) (a b c d : Int32) : f_X12_readText_l56 a b c d FU 0 h = some h := by
  show f_X12_readText_l56 a b c d (999 + 1) 0 h = _
  rw [f_X12_readText_l56, if_neg x.ne, ite_self]
theorem BM.ke {h1 : AH} (hB : BM h 6 β) (f : FK KTe h h1) : BM h1 6 β := hB.frc f.1 (by omega)
theorem PBm.ke {h1 : AH} (x : PBm h0 β h) (f : FK KTe h h1) : PBm h0 β h1 := ⟨x.1.tr (FrG.ke f), x.2.1.ke f, x.2.2⟩
theorem r_l56 {k m b y : Nat} (hB : BM h 6 β) (e34 : hfi h 193 34 = 0) (hL : vL β + m ≤ 40) : ∃ h1, f_X12_readText_l56 (w32 (k : Nat)) (w32 (m : Nat)) (w32 (b : Nat)) (w32 (y : Nat)) FU 0 h = some h1 ∧ FrG h h1 ∧ hfi h1 193 = hfi h 193 ∧ hia h1 219 = hia h 219 ∧ BM h1 6 (leB β k b y m (vT β)) := by
  refine loopR (fun f (s : Int32 × AH) => f_X12_readText_l56 (w32 (k : Nat)) (w32 (m : Nat)) (w32 (b : Nat)) (w32 (y : Nat)) f s.1 s.2) (fun i s => s.1 = w32 (i : Nat) ∧ FrG h s.2 ∧ hfi s.2 193 = hfi h 193 ∧ hia s.2 219 = hia h 219 ∧ BM s.2 6 (leB β k b y i (vT β))) (fun r => FrG h r ∧ hfi r 193 = hfi h 193 ∧ hia r 219 = hia h 219 ∧ BM r 6 (leB β k b y m (vT β))) m (fun i f s hi hP => ?_) (fun f s hP => ?_) FU (by unfold FU; omega) (0, h) ⟨rfl, FrG.rf, rfl, rfl, ?_⟩
  · obtain ⟨a1, a2, a3, a4, a5⟩ := hP
    obtain ⟨d1, d2, d3, d4, d5, d6, d7, d8⟩ := a5
    have d1 : hia s.2 196 6 = w32 (vL β + i : Nat) := d1
    have d2 : hia s.2 197 6 = w32 (vT β : Nat) := d2
    refine ⟨(w32 (i + 1 : Nat), sia (sia (sia (sia (sia (sia (sia (sia s.2 202 (40 * 6 + (vL β + i)) (w32 (k : Nat))) 203 (40 * 6 + (vL β + i)) (w32 (vT β : Nat))) 204 (40 * 6 + (vL β + i)) (w32 (i : Nat))) 205 (40 * 6 + (vL β + i)) (w32 (b : Nat))) 206 (40 * 6 + (vL β + i)) (w32 (y : Nat))) 207 (40 * 6 + (vL β + i)) 0) 208 (40 * 6 + (vL β + i)) (-1)) 196 6 (w32 (vL β + i + 1 : Nat))), ⟨rfl, ?_, a3, ?_, ⟨?_, ?_, ?_, ?_, ?_, fun l hl => ?_, fun w hw => ?_, fun r hr => ?_⟩⟩, ?_⟩
    · exact (((((((a2.tr (FrG.w _ _ _ _ (by omega))).tr (FrG.w _ _ _ _ (by omega))).tr (FrG.w _ _ _ _ (by omega))).tr (FrG.w _ _ _ _ (by omega))).tr (FrG.w _ _ _ _ (by omega))).tr (FrG.w _ _ _ _ (by omega))).tr (FrG.w _ _ _ _ (by omega))).tr (FrG.w _ _ _ _ (by omega))
    · dsimp only
      simp (disch := omega) only [ia_sia_ne]
      exact a4
    · dsimp only
      rw [ia_sia_eq]; rfl
    · dsimp only
      simp (disch := omega) only [ia_sia_ne]; exact d2
    · dsimp only
      simp (disch := omega) only [ia_sia_ne]; exact d3
    · dsimp only
      simp (disch := omega) only [ia_sia_ne]; exact d4
    · dsimp only
      simp (disch := omega) only [ia_sia_ne]; exact d5
    · have hl : l < vL β + (i + 1) := hl
      dsimp only
      show _ = w32 ((if l < vL β then vk β l else k : Nat) : Int) ∧ _ = w32 ((if l < vL β then vt β l else vT β : Nat) : Int) ∧ _ = w32 ((if l < vL β then vp β l else l - vL β : Nat) : Int) ∧ _ = w32 ((if l < vL β then vb β l else b : Nat) : Int) ∧ _ = w32 ((if l < vL β then vy β l else y : Nat) : Int) ∧ _ = w32 ((if l < vL β then vs β l else 0 : Nat) : Int)
      by_cases z : l = vL β + i
      · subst z
        rw [if_neg (by omega), if_neg (by omega), if_neg (by omega), if_neg (by omega), if_neg (by omega), if_neg (by omega)]
        simp (disch := omega) only [ia_sia_ne, ia_sia_eq]
        exact ⟨trivial, trivial, by rw [show vL β + i - vL β = i by omega], trivial, trivial, rfl⟩
      · simp (disch := omega) only [ia_sia_ne, ia_sia_nk]
        exact d6 l (show l < vL β + i by omega)
    · dsimp only
      simp (disch := omega) only [ia_sia_ne]
      exact d7 w hw
    · dsimp only
      simp (disch := omega) only [ia_sia_ne]
      exact d8 r hr
    · show f_X12_readText_l56 (w32 (k : Nat)) (w32 (m : Nat)) (w32 (b : Nat)) (w32 (y : Nat)) (f + 1) s.1 s.2 = f_X12_readText_l56 (w32 (k : Nat)) (w32 (m : Nat)) (w32 (b : Nat)) (w32 (y : Nat)) f (w32 (i + 1 : Nat)) _
      have g68 : ib 6 8 = true := by decide
      have cl6 : cl 6 = 6 := by decide
      have eat : f_X12_at 6 (w32 (vL β + i : Nat)) = w32 ((40 * 6 + (vL β + i) : Nat) : Int) := e_at 6 (vL β + i)
      have gx : ib (w32 ((40 * 6 + (vL β + i) : Nat) : Int)) 320 = true := by rw [w_ibN _ _ (by omega)]; omega
      have cx : cl (w32 ((40 * 6 + (vL β + i) : Nat) : Int)) = 40 * 6 + (vL β + i) := w_clN _ (by omega)
      rw [f_X12_readText_l56, a1, if_neg (by rw [w_le _ _ (by omega) (by omega) (by omega) (by omega)]; omega), if_pos (by rw [a3]; exact e34)]
      simp only [gd_t g68, cl6, d1, eat, gd_t gx, cx, lt_b]
      simp (disch := omega) only [ia_sia_ne]
      rw [d1, d2, wl_1, w_add, w_s, w_add, w_s]
  · obtain ⟨a1, a2, a3⟩ := hP
    refine ⟨s.2, ?_, a2, a3⟩
    show f_X12_readText_l56 (w32 (k : Nat)) (w32 (m : Nat)) (w32 (b : Nat)) (w32 (y : Nat)) (f + 1) s.1 s.2 = _
    rw [f_X12_readText_l56, a1, if_pos (Int32.le_refl _)]
  · obtain ⟨d1, d2, d3, d4, d5, d6, d7, d8⟩ := hB
    refine ⟨d1, d2, d3, d4, d5, fun l hl => ?_, d7, d8⟩
    have hl : l < vL β := hl
    show _ = w32 ((if l < vL β then vk β l else k : Nat) : Int) ∧ _ = w32 ((if l < vL β then vt β l else vT β : Nat) : Int) ∧ _ = w32 ((if l < vL β then vp β l else l - vL β : Nat) : Int) ∧ _ = w32 ((if l < vL β then vb β l else b : Nat) : Int) ∧ _ = w32 ((if l < vL β then vy β l else y : Nat) : Int) ∧ _ = w32 ((if l < vL β then vs β l else 0 : Nat) : Int)
    rw [if_pos hl, if_pos hl, if_pos hl, if_pos hl, if_pos hl, if_pos hl]
    exact d6 l hl
/-- the reference: text -/
theorem r_txt (hP : PBm h0 β h) (x : SM h t n q) : (∀ e, bkT t n β q = .inl e → ∃ h1, f_X12_readText h = some h1 ∧ EM h1 e ∧ FrG h0 h1) ∧ (∀ β' q', bkT t n β q = .inr (β', q') → ∃ h1, f_X12_readText h = some h1 ∧ SM h1 t n q' ∧ PBm h0 β' h1 ∧ q ≤ q') := by
  have hn := x.1.2.1
  have hq := x.2.1
  have rq1 := ten_ge (t := t) hq
  have rq2 := ten_ge (t := t) rq1.2
  have oL := hP.2.2.1.1
  have g68 : ib 6 8 = true := by decide
  have cl6 : cl 6 = 6 := by decide
  have wE : ∀ (g : AH) (v : Int32) (e : Nat × Nat), EM g e → EM (sia g 197 6 v) e := fun g v e z => z.fr rfl
  have wF : ∀ (g : AH) (v : Int32), FrG g (sia g 197 6 v) := fun g v => FrG.w _ _ _ _ (by omega)
  unfold f_X12_readText bkT
  have N := x.num (lo := 0) (hi := 11) (by omega) (by omega)
  cases hx : pn t n 0 11 q with
  | inl e0 =>
    refine ⟨fun e he => ?_, fun b' q' he => (by cases he)⟩
    cases he
    obtain ⟨v2, h2, e2, f2, s2⟩ := N.2 e0 hx
    refine ⟨sia h2 197 6 (hia h2 197 6 + 1), ?_, wE _ _ _ s2, (hP.1.tr (FrG.ke f2)).tr (wF _ _)⟩
    rw [show f_X12_readNumber 0 11 h = _ from e2, bnd_s, gd_t g68, s2.num, bnd_s]
    dsimp only
    rw [s2.perhaps, bnd_s]
    dsimp only
    rw [s2.perhaps, bnd_s]
    dsimp only
    rw [s2.l56, bnd_s, gd_t g68, gd_t g68, cl6]
    rfl
  | inr k =>
    obtain ⟨h2, e2, f2, s2⟩ := N.1 k hx
    have kr := pn_rg hx
    have P2 := hP.ke f2
    rw [show f_X12_readNumber 0 11 h = _ from e2, bnd_s, gd_t g68]
    dsimp only
    rw [cl6, P2.2.1.1, show f_J9_min_7cf53 20 (40 - w32 (vL β : Nat)) = w32 ((min 20 (40 - vL β) : Nat) : Int) from by rw [wl_20, wl_40, w_sub, e_min _ _ (by omega) (by omega) (by omega) (by omega)]; congr 1; omega]
    have N2 := s2.num (lo := 1) (hi := min 20 (40 - vL β)) (by omega) (by omega)
    cases hy : pn t n 1 (min 20 (40 - vL β)) (ten t n q) with
    | inl e0 =>
      refine ⟨fun e he => ?_, fun b' q' he => (by cases he)⟩
      cases he
      obtain ⟨v3, h3, e3, f3, s3⟩ := N2.2 e0 hy
      refine ⟨sia h3 197 6 (hia h3 197 6 + 1), ?_, wE _ _ _ s3, (P2.1.tr (FrG.ke f3)).tr (wF _ _)⟩
      rw [show f_X12_readNumber 1 (w32 ((min 20 (40 - vL β) : Nat) : Int)) h2 = _ from e3, bnd_s]
      dsimp only
      rw [s3.perhaps, bnd_s]
      dsimp only
      rw [s3.perhaps, bnd_s]
      dsimp only
      rw [s3.l56, bnd_s, gd_t g68, gd_t g68]
      rfl
    | inr m =>
      obtain ⟨h3, e3, f3, s3⟩ := N2.1 m hy
      have mr := pn_rg hy
      have P3 := P2.ke f3
      rw [show f_X12_readNumber 1 (w32 ((min 20 (40 - vL β) : Nat) : Int)) h2 = _ from e3, bnd_s]
      dsimp only
      have K := s3.perh (i := 31) (j := 3) (hi := 200) (d := 40) (by omega) (by decide) (by omega) (wd_b _).2.2.2.2.1
      cases hz : ppn t n 3 200 40 (ten t n (ten t n q)) with
      | inl e0 =>
        refine ⟨fun e he => ?_, fun b' q' he => (by cases he)⟩
        cases he
        obtain ⟨v4, h4, e4, f4, s4⟩ := K.1 e0 hz
        refine ⟨sia h4 197 6 (hia h4 197 6 + 1), ?_, wE _ _ _ s4, (P3.1.tr (FrG.ke f4)).tr (wF _ _)⟩
        rw [show f_X12_perhaps 31 200 40 h3 = _ from e4, bnd_s]
        dsimp only
        rw [s4.perhaps, bnd_s]
        dsimp only
        rw [s4.l56, bnd_s, gd_t g68, gd_t g68]
        rfl
      | inr p =>
        obtain ⟨b, q4⟩ := p
        obtain ⟨h4, e4, f4, s4⟩ := K.2 b q4 hz
        have br := ppn_rg rq2.2 (by omega) hz
        have P4 := P3.ke f4
        rw [show f_X12_perhaps 31 200 40 h3 = _ from e4, bnd_s]
        dsimp only
        have K5 := s4.perh (i := 32) (j := 4) (hi := 500) (d := 0) (by omega) (by decide) (by omega) (wd_b _).2.2.2.2.2
        cases hu : ppn t n 4 500 0 q4 with
        | inl e0 =>
          refine ⟨fun e he => ?_, fun b' q' he => (by cases he)⟩
          cases he
          obtain ⟨v5, h5, e5, f5, s5⟩ := K5.1 e0 hu
          refine ⟨sia h5 197 6 (hia h5 197 6 + 1), ?_, wE _ _ _ s5, (P4.1.tr (FrG.ke f5)).tr (wF _ _)⟩
          rw [show f_X12_perhaps 32 500 0 h4 = _ from e5, bnd_s]
          dsimp only
          rw [s5.l56, bnd_s, gd_t g68, gd_t g68]
          rfl
        | inr p =>
          obtain ⟨y, q5⟩ := p
          obtain ⟨h5, e5, f5, s5⟩ := K5.2 y q5 hu
          have yr := ppn_rg br.2.2 (by omega) hu
          have P5 := P4.ke f5
          refine ⟨fun e he => (by cases he), fun b' q' he => ?_⟩
          cases he
          obtain ⟨h6, e6, F6, g6, g7, B6⟩ := r_l56 (k := k) (m := m) (b := b) (y := y) P5.2.1 s5.2.2.1 (by omega)
          refine ⟨sia h6 197 6 (w32 (vT β + 1 : Nat)), ?_, s5.fr g6 (by rw [ia_sia_ne _ _ _ _ _ (by omega)]; exact g7), ⟨(P5.1.tr F6).tr (wF _ _), ?_, okb_txt hP.2.2 (by omega) ⟨mr.1, by omega⟩ (by omega) br.1 yr.1⟩, by omega⟩
          · rw [show f_X12_perhaps 32 500 0 h4 = _ from e5, bnd_s]
            dsimp only
            rw [e6, bnd_s, gd_t g68, gd_t g68, lt_b, B6.2.1, show vT (leB β k b y m (vT β)) = vT β from rfl, wl_1, w_add, w_s]
          · obtain ⟨d1, d2, d3, d4, d5, d6, d7, d8⟩ := B6
            refine ⟨?_, ?_, ?_, ?_, ?_, fun l hl => ?_, fun w hw => ?_, fun r hr => ?_⟩
            · simp (disch := omega) only [ia_sia_ne]; exact d1
            · rw [ia_sia_eq]; rfl
            · simp (disch := omega) only [ia_sia_ne]; exact d3
            · simp (disch := omega) only [ia_sia_ne]; exact d4
            · simp (disch := omega) only [ia_sia_ne]; exact d5
            · simp (disch := omega) only [ia_sia_ne]; exact d6 l hl
            · simp (disch := omega) only [ia_sia_ne]; exact d7 w hw
            · simp (disch := omega) only [ia_sia_ne]; exact d8 r hr
/-- the reference: hair -/
theorem r_har (hP : PBm h0 β h) (x : SM h t n q) : (∀ e, bkH t n β q = .inl e → ∃ v h1, f_X12_readNumber 0 100 h = some (v, h1) ∧ EM (sia h1 198 6 v) e ∧ FrG h0 (sia h1 198 6 v)) ∧ (∀ β' q', bkH t n β q = .inr (β', q') → ∃ v h1, f_X12_readNumber 0 100 h = some (v, h1) ∧ SM (sia h1 198 6 v) t n q' ∧ PBm h0 β' (sia h1 198 6 v) ∧ q ≤ q') := by
  have hq := x.2.1
  have rq1 := ten_ge (t := t) hq
  unfold bkH
  have N := x.num (lo := 0) (hi := 100) (by omega) (by omega)
  cases hx : pn t n 0 100 q with
  | inl e0 =>
    refine ⟨fun e he => ?_, fun b' q' he => (by cases he)⟩
    cases he
    obtain ⟨v2, h2, e2, f2, s2⟩ := N.2 e0 hx
    exact ⟨v2, h2, e2, s2.fr rfl, (hP.1.tr (FrG.ke f2)).tr (FrG.w _ _ _ _ (by omega))⟩
  | inr v =>
    obtain ⟨h2, e2, f2, s2⟩ := N.1 v hx
    have vr := pn_rg hx
    have P2 := hP.ke f2
    refine ⟨fun e he => (by cases he), fun b' q' he => ?_⟩
    cases he
    refine ⟨_, h2, e2, s2.fr rfl (ia_sia_ne _ _ _ _ _ (by omega)), ⟨P2.1.tr (FrG.w _ _ _ _ (by omega)), ?_, okb_har hP.2.2 vr.2.1⟩, by omega⟩
    obtain ⟨d1, d2, d3, d4, d5, d6, d7, d8⟩ := P2.2.1
    refine ⟨?_, ?_, ?_, ?_, ?_, fun l hl => ?_, fun w hw => ?_, fun r hr => ?_⟩
    · simp (disch := omega) only [ia_sia_ne]; exact d1
    · simp (disch := omega) only [ia_sia_ne]; exact d2
    · rw [ia_sia_eq]; rfl
    · simp (disch := omega) only [ia_sia_ne]; exact d4
    · simp (disch := omega) only [ia_sia_ne]; exact d5
    · simp (disch := omega) only [ia_sia_ne]; exact d6 l hl
    · simp (disch := omega) only [ia_sia_ne]; exact d7 w hw
    · simp (disch := omega) only [ia_sia_ne]; exact d8 r hr
end BKR
