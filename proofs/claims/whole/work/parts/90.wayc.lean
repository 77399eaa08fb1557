/-! a word and a number, perhaps -/
def ppn (t : Nat → Nat) (n i hi d q : Nat) : (Nat × Nat) ⊕ (Nat × Nat) := if wdB t n i q = true then (match pn t n 0 hi (ten t n q) with
  | .inl e => .inl e
  | .inr v => .inr (v, ten t n (ten t n q))) else .inr (d, q)
def kp (i : Nat) (hi d : Int32) (h : AH) : Option (Int32 × AH) := bnd (f_X7_takes 1 i h) (fun q10 => if q10.1 = true then f_X7_number 1 0 hi q10.2 else some (d, q10.2))
section PER
variable {h : AH} {t : Nat → Nat} {n q : Nat}
theorem ten_ge (hq : q ≤ n) : q ≤ ten t n q ∧ ten t n q ≤ n := by
  have rg := tok_rg (t := t) hq
  omega
theorem ppn_rg {i hi d v q' : Nat} (hq : q ≤ n) (hd : d ≤ hi) (hp : ppn t n i hi d q = .inr (v, q')) : v ≤ hi ∧ q ≤ q' ∧ q' ≤ n := by
  unfold ppn at hp
  have r1 := ten_ge (t := t) hq
  have r2 := ten_ge (t := t) r1.2
  by_cases w : wdB t n i q = true
  · rw [if_pos w] at hp
    cases hx : pn t n 0 hi (ten t n q) with
    | inl e => rw [hx] at hp; cases hp
    | inr v' =>
      rw [hx] at hp
      cases hp
      exact ⟨(pn_rg hx).2.1, by omega, by omega⟩
  · rw [if_neg w] at hp
    cases hp
    exact ⟨hd, Nat.le_refl _, hq⟩
theorem kp_eq {β : Type} (i : Nat) (hi d : Int32) (h : AH) (j : Int32 → AH → Option β) : bnd (f_X7_takes 1 i h) (fun q10 => lt j (fun j12 => if q10.1 = true then bnd (f_X7_number 1 0 hi q10.2) (fun q13 => j12 q13.1 q13.2) else j12 d q10.2)) = bnd (kp i hi d h) (fun p => j p.1 p.2) := by
  unfold kp
  cases f_X7_takes 1 i h with
  | none => rfl
  | some y =>
    rw [bnd_s, bnd_s, lt_b]
    by_cases z : y.1 = true
    · rw [if_pos z, if_pos z]
    · rw [if_neg z, if_neg z, bnd_s]
theorem ER.kp {e : Nat × Nat} (x : ER h e) (i : Nat) (hi d : Int32) : kp i hi d h = some (d, h) := by
  unfold Jvm.Pilot.CThumbBookLaw_law_r9791_0ea6f9.kp
  rw [x.takes, bnd_s, if_neg (show ¬ (false = true) by decide)]
theorem SC.kp (x : SC h t n q) {i hi d : Nat} (hi35 : i < 35) (hl : wl i ≤ 20) (hhi : hi ≤ 9999) : (∀ e, ppn t n i hi d q = .inl e → ∃ v h2, kp i (w32 (hi : Nat)) (w32 (d : Nat)) h = some (v, h2) ∧ FT h h2 ∧ ER h2 e) ∧ (∀ v q', ppn t n i hi d q = .inr (v, q') → ∃ h2, kp i (w32 (hi : Nat)) (w32 (d : Nat)) h = some (w32 (v : Nat), h2) ∧ FT h h2 ∧ SC h2 t n q') := by
  unfold Jvm.Pilot.CThumbBookLaw_law_r9791_0ea6f9.kp ppn
  by_cases w : wd t n i q
  · obtain ⟨h1, e1, f1, s1, -⟩ := (x.takes hi35 hl).1 w
    rw [if_pos (wdB_t.2 w), e1, bnd_s, if_pos rfl]
    have N := s1.num (lo := 0) hhi (Nat.zero_le _)
    cases hx : pn t n 0 hi (ten t n q) with
    | inl e0 =>
      refine ⟨fun e he => ?_, fun v q' he => (by cases he)⟩
      cases he
      obtain ⟨h2, e2, f2, s2⟩ := N.2 e0 hx
      exact ⟨_, h2, e2, f1.tr f2, s2⟩
    | inr v0 =>
      refine ⟨fun e he => (by cases he), fun v q' he => ?_⟩
      cases he
      obtain ⟨h2, e2, f2, s2, -⟩ := N.1 v0 hx
      exact ⟨h2, e2, f1.tr f2, s2⟩
  · rw [if_neg (fun y => w (wdB_t.1 y)), (x.takes hi35 hl).2 w, bnd_s, if_neg (show ¬ (false = true) by decide)]
    refine ⟨fun e he => (by cases he), fun v q' he => ?_⟩
    cases he
    exact ⟨h, rfl, FT.rf, x⟩
theorem SM.perh (x : SM h t n q) {i j hi d : Nat} (hi35 : i < 35) (hl : wl i ≤ 20) (hhi : hi ≤ 9999) (hij : wd t n i q ↔ wd t n j q) : (∀ e, ppn t n j hi d q = .inl e → ∃ v h2, f_X12_perhaps i (w32 (hi : Nat)) (w32 (d : Nat)) h = some (v, h2) ∧ FK KTe h h2 ∧ EM h2 e) ∧ (∀ v q', ppn t n j hi d q = .inr (v, q') → ∃ h2, f_X12_perhaps i (w32 (hi : Nat)) (w32 (d : Nat)) h = some (w32 (v : Nat), h2) ∧ FK KTe h h2 ∧ SM h2 t n q') := by
  unfold f_X12_perhaps f_X12_passes ppn
  by_cases w : wd t n j q
  · obtain ⟨h1, e1, f1, s1⟩ := x.step
    rw [if_pos (wdB_t.2 w), (x.is hi35 hl).1 (hij.2 w), bnd_s, if_pos rfl, e1, bnd_s, bnd_s]
    dsimp only
    rw [if_pos rfl]
    have N := s1.num (lo := 0) hhi (Nat.zero_le _)
    cases hx : pn t n 0 hi (ten t n q) with
    | inl e0 =>
      refine ⟨fun e he => ?_, fun v q' he => (by cases he)⟩
      cases he
      obtain ⟨v2, h2, e2, f2, s2⟩ := N.2 e0 hx
      exact ⟨v2, h2, by rw [show f_X12_readNumber 0 (w32 (hi : Nat)) h1 = _ from e2, bnd_s], f1.tr f2, s2⟩
    | inr v0 =>
      refine ⟨fun e he => (by cases he), fun v q' he => ?_⟩
      cases he
      obtain ⟨h2, e2, f2, s2⟩ := N.1 v0 hx
      exact ⟨h2, by rw [show f_X12_readNumber 0 (w32 (hi : Nat)) h1 = _ from e2, bnd_s], f1.tr f2, s2⟩
  · rw [if_neg (fun y => w (wdB_t.1 y)), (x.is hi35 hl).2 (fun y => w (hij.1 y)), bnd_s, if_neg (by decide), bnd_s]
    dsimp only
    rw [if_neg (by decide)]
    refine ⟨fun e he => (by cases he), fun v q' he => ?_⟩
    cases he
    exact ⟨h, rfl, FK.rf, x⟩
/-! the way's lines -/
abbrev WS2 : Type := (Nat → Nat) × (Nat → Nat)
def wayT (t : Nat → Nat) (n : Nat) (s : WS2) (k v : Nat) (p : Nat × Nat) : (Nat × Nat) ⊕ (WS2 × Nat) := if tso t n p.2 = 3 then .inr ((upF s.1 k v, upF s.2 k p.1), ten t n p.2) else .inl (1, tst t n p.2)
def wayU (t : Nat → Nat) (n : Nat) (s : WS2) (q k : Nat) : (Nat × Nat) ⊕ (WS2 × Nat) := match pn t n 1 99 q with
  | .inl e => .inl e
  | .inr v => match ppn t n 13 50 0 (ten t n q) with
    | .inl e => .inl e
    | .inr p => wayT t n s k v p
def wayL (t : Nat → Nat) (n : Nat) (s : WS2) (q : Nat) : (Nat × Nat) ⊕ (WS2 × Nat) := if wdB t n 12 q = true then (match pn t n 0 11 (ten t n q) with
  | .inl e => .inl e
  | .inr k => if s.1 k ≠ 0 then .inl (5, tst t n (ten t n q)) else wayU t n s (ten t n (ten t n q)) k) else .inl (1, tst t n q)
def okw (s : WS2) : Prop := ∀ k, k < 12 → s.1 k ≤ 99 ∧ s.2 k ≤ 50 ∧ (s.1 k = 0 → s.2 k = 0)
theorem okw_up {s : WS2} {k v w : Nat} (o : okw s) (hv : 1 ≤ v ∧ v ≤ 99) (hw : w ≤ 50) : okw (upF s.1 k v, upF s.2 k w) := by
  intro j hj
  show upF s.1 k v j ≤ 99 ∧ upF s.2 k w j ≤ 50 ∧ (upF s.1 k v j = 0 → upF s.2 k w j = 0)
  by_cases z : j = k
  · rw [z, upF_eq, upF_eq]; exact ⟨hv.2, hw, fun y => by omega⟩
  · rw [upF_ne _ _ z, upF_ne _ _ z]; exact o j hj
def kwT (a0 : Nat) (v : Int32) (h8 : AH) : Option AH := bnd (f_X7_number 1 1 99 h8) (fun q9 => bnd (kp 13 50 0 q9.2) (fun p => if (hfi p.2 1 1) = 0 then gd (ib v 12 = true) (lt (sia p.2 (a0 + 1) (cl v) q9.1) (fun h18 => gd (ib v 12 = true) (lt (sia h18 (a0 + 2) (cl v) p.1) (fun h20 => some h20)))) else some p.2))
theorem k_wl (a0 : Nat) : f_X10_writeLine a0 1 h = bnd (f_X7_takes 1 12 h) (fun q1 => if q1.1 = true then bnd (f_X7_number 1 0 11 q1.2) (fun q3 => gd (ib q3.1 12 = true) (if (hia q3.2 (a0 + 1) (cl q3.1)) ≤ 0 then kwT a0 q3.1 q3.2 else bnd (f_X7_blame 1 5 (hfi q3.2 1 4) q3.2) (fun q7 => kwT a0 q3.1 q7))) else bnd (f_X7_blame 1 1 (hfi q1.2 1 3) q1.2) (fun q21 => some q21)) := by
  unfold f_X10_writeLine kwT
  simp only [kp_eq]
  rfl
theorem ER.kwT {e : Nat × Nat} (x : ER h e) (a0 : Nat) (v : Int32) : kwT a0 v h = some h := by
  unfold Jvm.Pilot.CThumbBookLaw_law_r9791_0ea6f9.kwT
  rw [x.num, bnd_s]
  dsimp only
  rw [x.kp, bnd_s, if_neg x.ne]
def PWc (h0 : AH) (a0 : Nat) (s : WS2) (h : AH) : Prop := Fr (fun c => c = 1 ∨ c = a0 + 1 ∨ c = a0 + 2) h0 h ∧ (∀ k, k < 12 → hia h (a0 + 1) k = w32 (s.1 k : Nat) ∧ hia h (a0 + 2) k = w32 (s.2 k : Nat)) ∧ okw s
/-- the class: a line of a way -/
theorem k_wayL {h0 : AH} {a0 : Nat} (ha : 5 ≤ a0) {s : WS2} (hP : PWc h0 a0 s h) (x : SC h t n q) : (∀ e, wayL t n s q = .inl e → ∃ h1 h2, f_X10_writeLine a0 1 h = some h1 ∧ f_X7_endLine 1 h1 = some h2 ∧ ER h2 e ∧ Fr (fun c => c = 1 ∨ c = a0 + 1 ∨ c = a0 + 2) h0 h2) ∧ (∀ s' q', wayL t n s q = .inr (s', q') → ∃ h1 h2, f_X10_writeLine a0 1 h = some h1 ∧ f_X7_endLine 1 h1 = some h2 ∧ SC h2 t n q' ∧ PWc h0 a0 s' h2 ∧ q < q') := by
  obtain ⟨p1, p2, p3⟩ := hP
  have hn := x.1.2.1
  have hq := x.2.1
  have rg := tok_rg (t := t) hq
  have m1 : ∀ {h1 h2 : AH}, FT h1 h2 → Fr (fun c => c = 1 ∨ c = a0 + 1 ∨ c = a0 + 2) h1 h2 := fun f => f.1.mono (fun c z => Or.inl z)
  have ga : ∀ {h1 h2 : AH}, FT h1 h2 → hia h2 (a0 + 1) = hia h1 (a0 + 1) ∧ hia h2 (a0 + 2) = hia h1 (a0 + 2) := fun f => ⟨(f.1 _ (by omega)).2.2.1, (f.1 _ (by omega)).2.2.1⟩
  rw [k_wl]
  unfold wayL
  by_cases w : wd t n 12 q
  · obtain ⟨h1, e1, f1, s1, -⟩ := (x.takes (i := 12) (by omega) (by decide)).1 w
    have rs := rg.2.2.2.2.1 (by rw [w.1]; omega)
    rw [if_pos (wdB_t.2 w), e1, bnd_s, if_pos rfl]
    have N := s1.num (lo := 0) (hi := 11) (by omega) (by omega)
    cases hx : pn t n 0 11 (ten t n q) with
    | inl e0 =>
      refine ⟨fun e he => ?_, fun s' q' he => (by cases he)⟩
      cases he
      obtain ⟨h2, e2, f2, s2⟩ := N.2 e0 hx
      refine ⟨h2, h2, ?_, s2.fin, s2, (p1.tr (m1 f1)).tr (m1 f2)⟩
      rw [show f_X7_number 1 0 11 h1 = _ from e2, bnd_s, gd_t (by rw [w_ibN _ _ (by omega)]; omega), s2.blame, bnd_s, s2.kwT, ite_self]
    | inr k =>
      obtain ⟨h2, e2, f2, s2, g4⟩ := N.1 k hx
      have kr := pn_rg hx
      have f12 := f1.tr f2
      have pk := p2 k (by omega)
      rw [← (ga f12).1, ← (ga f12).2] at pk
      have ok := p3 k (by omega)
      have rq1 := ten_ge (t := t) rg.2.2.2.1
      have tg := tok_rg (t := t) rg.2.2.2.1
      rw [show f_X7_number 1 0 11 h1 = _ from e2, bnd_s, gd_t (by rw [w_ibN _ _ (by omega)]; omega), w_clN _ (by omega), pk.1]
      dsimp only
      by_cases z : s.1 k ≠ 0
      · rw [if_pos z, if_neg (by rw [wl_0, w_le _ _ (by omega) (by omega) (by omega) (by omega)]; omega), g4]
        refine ⟨fun e he => ?_, fun s' q' he => (by cases he)⟩
        cases he
        obtain ⟨h3, e3, f3, s3⟩ := s2.blame (c := 5) (p := tst t n (ten t n q)) (by omega) (by omega)
        have e3 : f_X7_blame 1 5 (w32 (tst t n (ten t n q) : Nat)) h2 = some h3 := e3
        exact ⟨h3, h3, by rw [e3, bnd_s, s3.kwT], s3.fin, s3, (p1.tr (m1 f12)).tr (m1 f3)⟩
      · rw [if_neg z, if_pos (by rw [wl_0, w_le _ _ (by omega) (by omega) (by omega) (by omega)]; omega)]
        unfold wayU kwT
        have N2 := s2.num (lo := 1) (hi := 99) (by omega) (by omega)
        cases hy : pn t n 1 99 (ten t n (ten t n q)) with
        | inl e0 =>
          refine ⟨fun e he => ?_, fun s' q' he => (by cases he)⟩
          cases he
          obtain ⟨h3, e3, f3, s3⟩ := N2.2 e0 hy
          exact ⟨h3, h3, by rw [show f_X7_number 1 1 99 h2 = _ from e3, bnd_s]; dsimp only; rw [s3.kp, bnd_s, if_neg s3.ne], s3.fin, s3, (p1.tr (m1 f12)).tr (m1 f3)⟩
        | inr v =>
          obtain ⟨h3, e3, f3, s3, -⟩ := N2.1 v hy
          have vr := pn_rg hy
          have rq2 := ten_ge (t := t) rq1.2
          rw [show f_X7_number 1 1 99 h2 = _ from e3, bnd_s]
          dsimp only
          have K := s3.kp (i := 13) (hi := 50) (d := 0) (by omega) (by decide) (by omega)
          cases hz : ppn t n 13 50 0 (ten t n (ten t n (ten t n q))) with
          | inl e0 =>
            refine ⟨fun e he => ?_, fun s' q' he => (by cases he)⟩
            cases he
            obtain ⟨v4, h4, e4, f4, s4⟩ := K.1 e0 hz
            exact ⟨h4, h4, by rw [show kp 13 50 0 h3 = _ from e4, bnd_s, if_neg s4.ne], s4.fin, s4, ((p1.tr (m1 f12)).tr (m1 f3)).tr (m1 f4)⟩
          | inr p =>
            obtain ⟨u, q4⟩ := p
            obtain ⟨h4, e4, f4, s4⟩ := K.2 u q4 hz
            have ur := ppn_rg rq2.2 (by omega) hz
            have f14 := (f12.tr f3).tr f4
            have s5 : SC (sia (sia h4 (a0 + 1) k (w32 (v : Nat))) (a0 + 2) k (w32 (u : Nat))) t n q4 := s4.fr rfl (by rw [ia_sia_ne _ _ _ _ _ (by omega), ia_sia_ne _ _ _ _ _ (by omega)])
            have F5 : Fr (fun c => c = 1 ∨ c = a0 + 1 ∨ c = a0 + 2) h0 (sia (sia h4 (a0 + 1) k (w32 (v : Nat))) (a0 + 2) k (w32 (u : Nat))) := ((p1.tr (m1 f14)).tr (Fr.sia _ _ _ _ (by omega))).tr (Fr.sia _ _ _ _ (by omega))
            rw [show kp 13 50 0 h3 = _ from e4, bnd_s, if_pos s4.2.2.1, gd_t (by rw [w_ibN _ _ (by omega)]; omega), lt_b, gd_t (by rw [w_ibN _ _ (by omega)]; omega), lt_b, w_clN _ (by omega)]
            unfold wayT
            dsimp only
            by_cases y : tso t n q4 = 3
            · rw [if_pos y]
              refine ⟨fun e he => (by cases he), fun s' q' he => ?_⟩
              cases he
              obtain ⟨h6, e6, f6, s6⟩ := s5.fin.1 y
              have rq4 := ten_ge (t := t) ur.2.2
              refine ⟨_, h6, rfl, e6, s6, ⟨F5.tr (m1 f6), fun j hj => ?_, okw_up p3 ⟨vr.1, vr.2.1⟩ ur.1⟩, by omega⟩
              have pj := p2 j hj
              rw [← (ga f14).1, ← (ga f14).2] at pj
              rw [(ga f6).1, (ga f6).2, ia_sia_ne _ _ _ _ _ (by omega)]
              show _ = w32 (upF s.1 k v j : Nat) ∧ _ = w32 (upF s.2 k u j : Nat)
              by_cases yj : j = k
              · rw [yj, ia_sia_eq, ia_sia_eq, upF_eq, upF_eq]; exact ⟨rfl, rfl⟩
              · rw [ia_sia_nk _ _ _ _ _ yj, ia_sia_nk _ _ _ _ _ yj, ia_sia_ne _ _ _ _ _ (by omega), upF_ne _ _ yj, upF_ne _ _ yj]; exact pj
            · rw [if_neg y]
              refine ⟨fun e he => ?_, fun s' q' he => (by cases he)⟩
              cases he
              obtain ⟨h6, e6, f6, s6⟩ := s5.fin.2 y
              exact ⟨_, h6, rfl, e6, s6, F5.tr (m1 f6)⟩
  · rw [if_neg (fun y => w (wdB_t.1 y)), (x.takes (i := 12) (by omega) (by decide)).2 w, bnd_s, if_neg (show ¬ (false = true) by decide)]
    dsimp only
    rw [x.2.2.2.2.1]
    obtain ⟨h1, e1, f1, s1⟩ := x.blame (c := 1) (p := tst t n q) (by omega) (by omega)
    have e1 : f_X7_blame 1 1 (w32 (tst t n q : Nat)) h = some h1 := e1
    refine ⟨fun e he => ?_, fun s' q' he => (by cases he)⟩
    cases he
    exact ⟨h1, h1, by rw [e1, bnd_s], s1.fin, s1, p1.tr (m1 f1)⟩
end PER
