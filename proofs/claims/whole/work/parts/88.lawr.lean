/-! the law, written -/
section LAWT
variable {h : AH} {S : SV} {T : Nat} {t : Nat → Nat} {n q : Nat}
def FrG (h h1 : AH) : Prop := FrD h h1 ∧ (∀ k, ¬ KTe k → hfi h1 193 k = hfi h 193 k) ∧ hia h1 218 = hia h 218
theorem FrG.rf : FrG h h := ⟨FrD.rf, fun _ _ => rfl, rfl⟩
theorem FrG.tr {h1 h2 : AH} (x : FrG h h1) (y : FrG h1 h2) : FrG h h2 := ⟨x.1.tr y.1, fun k q => (y.2.1 k q).trans (x.2.1 k q), y.2.2.trans x.2.2⟩
theorem FrG.ke {h1 : AH} (x : FK KTe h h1) : FrG h h1 := ⟨FrD.ke x, x.2, (x.1 218 (by omega)).2.2.1⟩
theorem FrG.w (h : AH) (r k : Nat) (v : Int32) (hr : (196 ≤ r ∧ r ≤ 200 ∧ k = 6) ∨ (202 ≤ r ∧ r ≤ 209 ∧ 240 ≤ k ∧ k < 280) ∨ (210 ≤ r ∧ r ≤ 211 ∧ 24 ≤ k ∧ k < 28) ∨ (r = 215 ∧ 3 ≤ k) ∨ ((r = 216 ∨ r = 217) ∧ 72 ≤ k)) : FrG h (sia h r k v) := ⟨FrD.w h r k v (by omega), fun _ _ => rfl, ia_sia_ne _ _ _ _ _ (by omega)⟩
theorem r_law1 {k lo hi f : Nat} {m : Int32} (hk : k < 3) (x : SM h t n q) (hlo : lo ≤ 9999) (hhi : hi ≤ 9999) :
    (∀ e, pn t n lo hi q = .inl e → ∃ h2, bnd (f_X12_readNumber (w32 (lo : Nat)) (w32 (hi : Nat)) h) (fun q27 => gd (ib (3 + w32 (k : Nat)) 6 = true) (lt (sia q27.2 215 (cl (3 + w32 (k : Nat))) q27.1) (fun h29 => bnd (f_X12_semi h29) (fun q30 => f_X12_law_l52 f m q30)))) = f_X12_law_l52 f m h2 ∧ EM h2 e ∧ FrG h h2) ∧
    (∀ v, pn t n lo hi q = .inr v → ∃ h2, bnd (f_X12_readNumber (w32 (lo : Nat)) (w32 (hi : Nat)) h) (fun q27 => gd (ib (3 + w32 (k : Nat)) 6 = true) (lt (sia q27.2 215 (cl (3 + w32 (k : Nat))) q27.1) (fun h29 => bnd (f_X12_semi h29) (fun q30 => f_X12_law_l52 f m q30)))) = f_X12_law_l52 f m h2 ∧ FrG h h2 ∧ hia h2 215 (3 + k) = w32 (v : Nat) ∧ (∀ j, j ≠ 3 + k → hia h2 215 j = hia h 215 j) ∧ (tso t n (ten t n q) = 3 → SM h2 t n (ten t n (ten t n q))) ∧ (tso t n (ten t n q) ≠ 3 → EM h2 (1, tst t n (ten t n q)))) := by
  have e3 : 3 + w32 (k : Nat) = w32 ((3 + k : Nat) : Int) := by rw [wl_3, w_add]; exact ww (by omega)
  rw [e3]
  refine ⟨fun e he => ?_, fun v hv => ?_⟩
  · obtain ⟨v, h1, e1, f1, s1⟩ := (x.num hhi hlo).2 e he
    have s2 : EM (sia h1 215 (3 + k) v) e := s1.fr rfl
    exact ⟨_, by rw [e1, bnd_s, gd_t (by rw [w_ibN _ _ (by omega)]; omega), w_clN _ (by omega), lt_b, s2.semi, bnd_s], s2, (FrG.ke f1).tr (FrG.w _ _ _ _ (by omega))⟩
  · obtain ⟨h1, e1, f1, s1⟩ := (x.num hhi hlo).1 v hv
    have s2 : SM (sia h1 215 (3 + k) (w32 (v : Nat))) t n (ten t n q) := s1.fr rfl (ia_sia_ne _ _ _ _ _ (by omega))
    have fin : ∃ h2, f_X12_semi (sia h1 215 (3 + k) (w32 (v : Nat))) = some h2 ∧ FK KTe (sia h1 215 (3 + k) (w32 (v : Nat))) h2 ∧ (tso t n (ten t n q) = 3 → SM h2 t n (ten t n (ten t n q))) ∧ (tso t n (ten t n q) ≠ 3 → EM h2 (1, tst t n (ten t n q))) := by
      by_cases z : tso t n (ten t n q) = 3
      · obtain ⟨h2, e2, f2, s3⟩ := s2.fin.1 z
        exact ⟨h2, e2, f2, fun _ => s3, fun y => absurd z y⟩
      · obtain ⟨h2, e2, f2, s3⟩ := s2.fin.2 z
        exact ⟨h2, e2, f2, fun y => absurd y z, fun _ => s3⟩
    obtain ⟨h2, e2, f2, s3, s4⟩ := fin
    have a1 : hia h1 215 = hia h 215 := (f1.1 215 (by omega)).2.2.1
    have a2 : hia h2 215 = hia (sia h1 215 (3 + k) (w32 (v : Nat))) 215 := (f2.1 215 (by omega)).2.2.1
    refine ⟨h2, by rw [e1, bnd_s, gd_t (by rw [w_ibN _ _ (by omega)]; omega), w_clN _ (by omega), lt_b, e2, bnd_s], ((FrG.ke f1).tr (FrG.w _ _ _ _ (by omega))).tr (FrG.ke f2), ?_, fun j hj => ?_, s3, s4⟩
    · rw [a2, ia_sia_eq]
    · rw [a2, ia_sia_nk _ _ _ _ _ hj, a1]
def PLM (h0 : AH) (s : LS2) (x : Int32 × AH) : Prop := FrG h0 x.2 ∧ (∀ k, k < 3 → hia x.2 215 (3 + k) = w32 (s.1 k : Nat)) ∧ x.1 = mk3 (s.2 0) (s.2 1) (s.2 2)
theorem wd_l (q : Nat) : (wd t n 28 q ↔ wd t n 8 q) ∧ (wd t n 29 q ↔ wd t n 9 q) ∧ (wd t n 30 q ↔ wd t n 10 q) := ⟨wd_same (by decide) (by decide), wd_same (by decide) (by decide), wd_same (by decide) (by decide)⟩
/-- the reference: a line of the law -/
theorem r_lawL {h0 : AH} {f : Nat} {s : LS2} {v2 : Int32} (hP : PLM h0 s (v2, h)) (x : SM h t n q) (tz : tso t n q ≠ 0) : (∀ e, lawL t n s q = .inl e → ∃ v' h', f_X12_law_l52 (f + 1) v2 h = f_X12_law_l52 f v' h' ∧ EM h' e ∧ FrG h0 h') ∧ (∀ s' q', lawL t n s q = .inr (s', q') → ∃ v' h', f_X12_law_l52 (f + 1) v2 h = f_X12_law_l52 f v' h' ∧ SM h' t n q' ∧ PLM h0 s' (v', h') ∧ q < q') := by
  obtain ⟨p1, p2, p3⟩ := hP
  have p1 : FrG h0 h := p1
  have p2 : ∀ k, k < 3 → hia h 215 (3 + k) = w32 (s.1 k : Nat) := p2
  have p3 : v2 = mk3 (s.2 0) (s.2 1) (s.2 2) := p3
  have hn := x.1.2.1
  have hq := x.2.1
  have rg := tok_rg (t := t) hq
  have rs := rg.2.2.2.2.1 tz
  obtain ⟨ma, mb, mc, md, me, mf⟩ := mk3_r (s.2 0) (s.2 1) (s.2 2)
  rw [f_X12_law_l52, if_pos x.2.2.1, if_neg (by rw [x.zero]; exact tz)]
  have W := x.which (a := 195) (m := 3) (by omega) (by decide)
  obtain ⟨c1, c2, c3⟩ := wd_l (t := t) (n := n) q
  have key : ∀ (k : Nat) (E : Option AH) (m : Int32), k < 3 → lwd t n q = some k → m = mk3 (upF s.2 k true 0) (upF s.2 k true 1) (upF s.2 k true 2) → (s.2 k = true → ∀ h1, f_X12_wrong 5 h = some h1 → ¬ hfi h1 193 34 = 0 → E = f_X12_law_l52 f v2 h1) → (s.2 k = false → ∀ g, f_X12_stepOn h = some g → E = bnd (f_X12_readNumber (w32 (lLo k : Nat)) (w32 (lHi k : Nat)) g) (fun q27 => gd (ib (3 + w32 (k : Nat)) 6 = true) (lt (sia q27.2 215 (cl (3 + w32 (k : Nat))) q27.1) (fun h29 => bnd (f_X12_semi h29) (fun q30 => f_X12_law_l52 f m q30))))) → (∀ e, lawL t n s q = .inl e → ∃ v' h', E = f_X12_law_l52 f v' h' ∧ EM h' e ∧ FrG h0 h') ∧ (∀ s' q', lawL t n s q = .inr (s', q') → ∃ v' h', E = f_X12_law_l52 f v' h' ∧ SM h' t n q' ∧ PLM h0 s' (v', h') ∧ q < q') := by
    intro k E m hk hw hm hE hS
    unfold lawL
    rw [hw]
    dsimp only
    by_cases ht : s.2 k = true
    · rw [if_pos ht]
      refine ⟨fun e he => ?_, fun s' q' he => (by cases he)⟩
      cases he
      obtain ⟨h1, e1, f1, g1, -⟩ := x.wrong (c := 5) (by omega)
      exact ⟨v2, h1, hE ht h1 e1 g1.ne, g1, p1.tr (FrG.ke f1)⟩
    · have ht : s.2 k = false := by cases y : s.2 k; rfl; exact absurd y ht
      rw [if_neg (by rw [ht]; decide)]
      obtain ⟨g, e1, f1, s1⟩ := x.step
      have eE := hS ht g e1
      obtain ⟨r1, r2⟩ := r_law1 (k := k) (lo := lLo k) (hi := lHi k) (f := f) (m := m) hk s1 (by unfold lLo; split <;> omega) (by unfold lHi; split <;> omega)
      rw [← eE] at r1 r2
      have fg := p1.tr (FrG.ke f1)
      cases hp : pn t n (lLo k) (lHi k) (ten t n q) with
      | inl e0 =>
        refine ⟨fun e he => ?_, fun s' q' he => (by cases he)⟩
        cases he
        obtain ⟨h2, e2, e3, e4⟩ := r1 e0 hp
        exact ⟨m, h2, e2, e3, fg.tr e4⟩
      | inr v =>
        obtain ⟨h2, e2, e3, e5, e6, e8, e9⟩ := r2 v hp
        dsimp only
        unfold lawT
        by_cases z : tso t n (ten t n (ten t n q)) = 3
        · rw [if_pos z]
          refine ⟨fun e he => (by cases he), fun s' q' he => ?_⟩
          cases he
          have r2 := tok_rg (t := t) (show ten t n q ≤ n by omega)
          have r3 := tok_rg (t := t) (show ten t n (ten t n q) ≤ n by omega)
          have sm := e8 z
          refine ⟨m, h2, e2, sm, ⟨fg.tr e3, fun j hj => ?_, hm⟩, by omega⟩
          · show hia h2 215 (3 + j) = w32 (upF s.1 k v j : Nat)
            by_cases y : j = k
            · rw [y, e5, upF_eq]
            · rw [e6 (3 + j) (by omega), (f1.1 215 (by omega)).2.2.1, p2 j hj, upF_ne _ _ y]
        · rw [if_neg z]
          refine ⟨fun e he => ?_, fun s' q' he => (by cases he)⟩
          cases he
          exact ⟨m, h2, e2, e9 z, fg.tr e3⟩
  have m0 : v2 ||| (1 <<< ((w32 ((0 : Nat) : Int) : Int32) &&& 31)) = mk3 (upF s.2 0 true 0) (upF s.2 0 true 1) (upF s.2 0 true 2) := by rw [p3]; exact md
  have m1 : v2 ||| (1 <<< ((w32 ((1 : Nat) : Int) : Int32) &&& 31)) = mk3 (upF s.2 1 true 0) (upF s.2 1 true 1) (upF s.2 1 true 2) := by rw [p3]; exact me
  have m2 : v2 ||| (1 <<< ((w32 ((2 : Nat) : Int) : Int32) &&& 31)) = mk3 (upF s.2 2 true 0) (upF s.2 2 true 1) (upF s.2 2 true 2) := by rw [p3]; exact mf
  have t0 : ((v2 >>> ((w32 ((0 : Nat) : Int) : Int32) &&& 31)) &&& 1 = 1) = (s.2 0 = true) := by rw [p3]; exact ma
  have t1 : ((v2 >>> ((w32 ((1 : Nat) : Int) : Int32) &&& 31)) &&& 1 = 1) = (s.2 1 = true) := by rw [p3]; exact mb
  have t2 : ((v2 >>> ((w32 ((2 : Nat) : Int) : Int32) &&& 31)) &&& 1 = 1) = (s.2 2 = true) := by rw [p3]; exact mc
  by_cases w8 : wd t n 8 q
  · rw [W.2 0 (by omega) (c1.2 w8) (by omega), bnd_s, lt_b, if_neg (show ¬ (w32 ((0 : Nat) : Int) = -1) by decide)]
    refine key 0 _ _ (by omega) (by unfold lwd; rw [if_pos (wdB_t.2 w8)]) m0 (fun ht h1 e1 ne => ?_) (fun ht g e1 => ?_)
    · rw [if_pos (by rw [t0]; exact ht), e1, bnd_s]; dsimp only; rw [if_neg ne]
    · rw [if_neg (by rw [t0, ht]; decide)]; dsimp only; rw [if_pos x.2.2.1, e1, bnd_s, lt_b, if_pos (show w32 ((0 : Nat) : Int) = 0 by decide)]; dsimp only; rw [if_neg (show ¬ (w32 ((0 : Nat) : Int) = 1) by decide)]; rfl
  · by_cases w9 : wd t n 9 q
    · rw [W.2 1 (by omega) (c2.2 w9) (fun i hi => by rw [show i = 0 by omega]; exact fun y => w8 (c1.1 y)), bnd_s, lt_b, if_neg (show ¬ (w32 ((1 : Nat) : Int) = -1) by decide)]
      refine key 1 _ _ (by omega) (by unfold lwd; rw [if_neg (fun y => w8 (wdB_t.1 y)), if_pos (wdB_t.2 w9)]) m1 (fun ht h1 e1 ne => ?_) (fun ht g e1 => ?_)
      · rw [if_pos (by rw [t1]; exact ht), e1, bnd_s]; dsimp only; rw [if_neg ne]
      · rw [if_neg (by rw [t1, ht]; decide)]; dsimp only; rw [if_pos x.2.2.1, e1, bnd_s, lt_b, if_neg (show ¬ (w32 ((1 : Nat) : Int) = 0) by decide)]; dsimp only; rw [if_pos (show w32 ((1 : Nat) : Int) = 1 by decide)]; rfl
    · by_cases w10 : wd t n 10 q
      · rw [W.2 2 (by omega) (c3.2 w10) (fun i hi => by rcases (show i = 0 ∨ i = 1 by omega) with rfl | rfl; exact fun y => w8 (c1.1 y); exact fun y => w9 (c2.1 y)), bnd_s, lt_b, if_neg (show ¬ (w32 ((2 : Nat) : Int) = -1) by decide)]
        refine key 2 _ _ (by omega) (by unfold lwd; rw [if_neg (fun y => w8 (wdB_t.1 y)), if_neg (fun y => w9 (wdB_t.1 y)), if_pos (wdB_t.2 w10)]) m2 (fun ht h1 e1 ne => ?_) (fun ht g e1 => ?_)
        · rw [if_pos (by rw [t2]; exact ht), e1, bnd_s]; dsimp only; rw [if_neg ne]
        · rw [if_neg (by rw [t2, ht]; decide)]; dsimp only; rw [if_pos x.2.2.1, e1, bnd_s, lt_b, if_neg (show ¬ (w32 ((2 : Nat) : Int) = 0) by decide)]; dsimp only; rw [if_neg (show ¬ (w32 ((2 : Nat) : Int) = 1) by decide)]; rfl
      · rw [W.1 (fun i hi => by rcases (show i = 0 ∨ i = 1 ∨ i = 2 by omega) with rfl | rfl | rfl; exact fun y => w8 (c1.1 y); exact fun y => w9 (c2.1 y); exact fun y => w10 (c3.1 y)), bnd_s, lt_b, if_pos rfl]
        obtain ⟨h1, e1, f1, g1, -⟩ := x.wrong (c := 1) (by omega)
        have e1 : f_X12_wrong 1 h = some h1 := e1
        have hl : lawL t n s q = .inl (1, tst t n q) := by
          unfold lawL lwd
          rw [if_neg (fun y => w8 (wdB_t.1 y)), if_neg (fun y => w9 (wdB_t.1 y)), if_neg (fun y => w10 (wdB_t.1 y))]
        rw [hl]
        refine ⟨fun e he => ?_, fun s' q' he => (by cases he)⟩
        cases he
        exact ⟨v2, h1, by rw [e1, bnd_s]; dsimp only; rw [if_neg g1.ne], g1, p1.tr (FrG.ke f1)⟩
end LAWT
