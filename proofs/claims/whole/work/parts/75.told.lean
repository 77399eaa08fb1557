/-! told -/
def γ0 : GV := (fun _ => -1, fun _ => 0)
noncomputable def tS (β : BV) (x : Nat → Int) (a : LV) (ω : WV) (w : Nat) (s0 : Int32) : Nat → Int32 × Nat
  | 0 => (s0, 0)
  | i + 1 => ((dS x (ls a) γ0 (tS β x a ω w s0 i).1 (vL β)).1, @ite Nat ((dS x (ls a) γ0 (tS β x a ω w s0 i).1 (vL β)).2.1 = 0 ∧ (whS β (dS x (ls a) γ0 (tS β x a ω w s0 i).1 (vL β)).2.2 a ω 6).1 = w) (Classical.propDecidable _) ((tS β x a ω w s0 i).2 + 1) (tS β x a ω w s0 i).2)
section TOL
variable {h : AH} {S : SV} {T b B : Nat} {β : BV} {γ : GV} {a : LV} {x : Nat → Int} {s0 : Int32} {w : Nat} {ω : WV}
theorem tS_1 {i : Nat} (q : (dS x (ls a) γ0 (tS β x a ω w s0 i).1 (vL β)).2.1 = 0 ∧ (whS β (dS x (ls a) γ0 (tS β x a ω w s0 i).1 (vL β)).2.2 a ω 6).1 = w) : tS β x a ω w s0 (i + 1) = ((dS x (ls a) γ0 (tS β x a ω w s0 i).1 (vL β)).1, (tS β x a ω w s0 i).2 + 1) := by
  rw [tS, @if_pos _ (Classical.propDecidable _) q]
theorem tS_0 {i : Nat} (q : ¬ ((dS x (ls a) γ0 (tS β x a ω w s0 i).1 (vL β)).2.1 = 0 ∧ (whS β (dS x (ls a) γ0 (tS β x a ω w s0 i).1 (vL β)).2.2 a ω 6).1 = w)) : tS β x a ω w s0 (i + 1) = ((dS x (ls a) γ0 (tS β x a ω w s0 i).1 (vL β)).1, (tS β x a ω w s0 i).2) := by
  rw [tS, @if_neg _ (Classical.propDecidable _) q]
theorem ok_γ0 (n : Nat) : okG n γ0 := fun _ _ => Or.inl rfl
theorem dS_read (s : Nat) (hs : s ≤ 50) (n : Nat) : ((dS x s γ0 s0 n).2.1 = 0 ↔ ∀ l, l < n → rd (dS x s γ0 s0 n).2.2 l) ∧ ∀ l, n ≤ l → (dS x s γ0 s0 n).2.2.1 l = -1 := by
  induction n with
  | zero => exact ⟨⟨fun _ l hl => by omega, fun _ => rfl⟩, fun l _ => rfl⟩
  | succ n ih =>
    obtain ⟨i1, i2⟩ := ih
    rcases Classical.em (tkP (dS x s γ0 s0 n).2.2 s n (rdg (x n) s (stp (dS x s γ0 s0 n).1))) with q | q
    · rw [dS_1 q]
      have f0 : 0 ≤ tkF (dS x s γ0 s0 n).2.2 s n (rdg (x n) s (stp (dS x s γ0 s0 n).1)) := by
        unfold tkF; split <;> omega
      refine ⟨⟨fun e l hl => ?_, fun e => ?_⟩, fun l hl => ?_⟩
      · show (if l = n then tkF (dS x s γ0 s0 n).2.2 s n (rdg (x n) s (stp (dS x s γ0 s0 n).1)) else (dS x s γ0 s0 n).2.2.1 l) ≠ -1
        by_cases q2 : l = n
        · rw [if_pos q2]; omega
        · rw [if_neg q2]; exact i1.mp e l (by omega)
      · refine i1.mpr (fun l hl => ?_)
        have := e l (by omega)
        have this : (if l = n then tkF (dS x s γ0 s0 n).2.2 s n (rdg (x n) s (stp (dS x s γ0 s0 n).1)) else (dS x s γ0 s0 n).2.2.1 l) ≠ -1 := this
        rw [if_neg (by omega)] at this
        exact this
      · show (if l = n then tkF (dS x s γ0 s0 n).2.2 s n (rdg (x n) s (stp (dS x s γ0 s0 n).1)) else (dS x s γ0 s0 n).2.2.1 l) = -1
        rw [if_neg (by omega)]; exact i2 l (by omega)
    · rw [dS_0 q]
      refine ⟨⟨fun e => by dsimp only at e; omega, fun e => absurd (i2 n (Nat.le_refl _)) (e n (by omega))⟩, fun l hl => i2 l (by omega)⟩
theorem kn_dS (s : Nat) (hs : s ≤ 50) (k0 : 0 < vL β) : kn β (dS x s γ0 s0 (vL β)).2.2 ↔ (dS x s γ0 s0 (vL β)).2.1 = 0 := by
  have := (dS_read (x := x) (s0 := s0) s hs (vL β)).1
  exact ⟨fun k => this.mpr k.2, fun e => ⟨k0, this.mp e⟩⟩
/-! the class -/
theorem k_trial (hB : BC h B β) (hX : isB B) (hL : LC h (hra h 0 3) a) (hr : isLw (hra h 0 3)) (oB : okB β) (oL : okL a) (hx : ∀ i, i < vL β → hia h 66 i = w32 (x i)) (rx : ∀ i, i < vL β → 0 ≤ x i ∧ x i ≤ 1000000000) (s0 : Int32) : ∃ h1, f_X11_drawTrial B s0 h = some ((dS x (ls a) γ0 s0 (vL β)).1, h1) ∧ Fr (fun c => c = 64 ∨ c = 65) h h1 ∧ GC h1 63 (vL β) (dS x (ls a) γ0 s0 (vL β)).2.2 := by
  have o1 := oB.1
  have hs := oL.2.2.2
  have sL := isLw_sh hr
  unfold isB at hX
  unfold isLw at hr
  obtain ⟨k1, e1, f1, z1, -⟩ := e_fill 64 40 (-1) h (by decide)
  obtain ⟨k2, e2, f2, z2, -⟩ := e_fill 65 40 0 k1 (by decide)
  have F0 : Fr (fun c => c = 64 ∨ c = 65) h k2 := (f1.mono (fun c q => Or.inl q)).tr (f2.mono (fun c q => Or.inr q))
  have G0 : GC k2 63 (vL β) γ0 := fun l hl => ⟨by rw [(f2 (63 + 1) (by omega)).2.2.1]; exact z1 l (by omega), fun e => absurd rfl e⟩
  obtain ⟨⟨r1, h1⟩, e, q⟩ := loopR (fun n (t : Int32 × Int32 × AH) => f_X11_drawTrial_l12 B n t.1 t.2.1 t.2.2) (fun i t => t.1 = (dS x (ls a) γ0 s0 i).1 ∧ t.2.1 = w32 (i : Nat) ∧ Fr (fun c => c = 64 ∨ c = 65) h t.2.2 ∧ GC t.2.2 63 (vL β) (dS x (ls a) γ0 s0 i).2.2) (fun t => t.1 = (dS x (ls a) γ0 s0 (vL β)).1 ∧ Fr (fun c => c = 64 ∨ c = 65) h t.2 ∧ GC t.2 63 (vL β) (dS x (ls a) γ0 s0 (vL β)).2.2) (vL β) (fun i n t hi hP => by
      obtain ⟨v4, v6, hh⟩ := t
      obtain ⟨p1, p3, p4, p5⟩ := hP
      dsimp only at p1 p3 p4 p5
      subst p1 p3
      have d1 : hfi hh B 0 = w32 (vL β) := by rw [(p4 B (by omega)).1]; exact hB.1
      have r3 : hra hh 0 = hra h 0 := (p4 0 (by omega)).2.2.2.2
      have es : hfi hh (hra h 0 3) 2 = w32 (ls a) := by rw [(p4 _ (by omega)).1]; exact hL.2.2
      have x1 : hia hh 66 i = w32 (x i) := by rw [(p4 66 (by omega)).2.2.1]; exact hx i hi
      have oGi := dS_ok (x := x) (s0 := s0) (ok_γ0 (vL β)) hs i (by omega)
      obtain ⟨kr, kr1, kr2⟩ := k_reading (h := hh) es (by rw [r3]) sL (show i < 40 by omega) hs x1 (rx i hi) (stp (dS x (ls a) γ0 s0 i).1)
      have kt := k_take (v := rdg (x i) (ls a) (stp (dS x (ls a) γ0 s0 i).1)) p5 oGi.1 o1 hi hs (by omega) (by omega)
      have hd : f_X11_drawTrial_l12 B (n + 1) (dS x (ls a) γ0 s0 i).1 (w32 i) hh = bnd (f_X3_take 63 (w32 i) (w32 (rdg (x i) (ls a) (stp (dS x (ls a) γ0 s0 i).1))) (w32 (ls a)) hh) (fun q5 => f_X11_drawTrial_l12 B n (stp (dS x (ls a) γ0 s0 i).1) (w32 i + 1) q5.2) := by
        rw [f_X11_drawTrial_l12, d1, if_neg (by rw [w_le _ _ (by omega) (by omega) (by omega) (by omega)]; omega), show f_X11_stepped (dS x (ls a) γ0 s0 i).1 = stp (dS x (ls a) γ0 s0 i).1 from rfl, kr, bnd_s, r3, gd_t sL, es]
      rcases Classical.em (tkP (dS x (ls a) γ0 s0 i).2.2 (ls a) i (rdg (x i) (ls a) (stp (dS x (ls a) γ0 s0 i).1))) with q | q
      · rw [kt.1 q, bnd_s] at hd
        dsimp only at hd
        rw [wl_1, w_add, w_s] at hd
        refine ⟨(_, _, _), ⟨?_, rfl, ?_, ?_⟩, hd⟩
        · rw [dS_1 q] <;> rfl
        · exact (p4.tr (Fr.sia _ _ _ _ (by omega))).tr (Fr.sia _ _ _ _ (by omega))
        · rw [dS_1 q]
          exact GC.tk p5 _ _
      · rw [kt.2 q, bnd_s] at hd
        dsimp only at hd
        rw [wl_1, w_add, w_s] at hd
        refine ⟨(_, _, _), ⟨?_, rfl, p4, ?_⟩, hd⟩
        · rw [dS_0 q] <;> rfl
        · rw [dS_0 q]
          exact p5) (fun n t hP => by
      obtain ⟨v4, v6, hh⟩ := t
      obtain ⟨p1, p3, p4, p5⟩ := hP
      dsimp only at p1 p3 p4 p5
      subst p1 p3
      have d1 : hfi hh B 0 = w32 (vL β) := by rw [(p4 B (by omega)).1]; exact hB.1
      refine ⟨((dS x (ls a) γ0 s0 (vL β)).1, hh), ?_, rfl, p4, p5⟩
      show f_X11_drawTrial_l12 B (n + 1) _ (w32 (vL β)) hh = _
      rw [f_X11_drawTrial_l12, d1, if_pos (Int32.le_refl _)]) FU (by unfold FU; omega) (s0, 0, k2) ⟨rfl, rfl, F0, G0⟩
  obtain ⟨q1, q2⟩ := q
  dsimp only at q1 q2
  subst q1
  refine ⟨h1, ?_, q2⟩
  unfold f_X11_drawTrial f_X3_wipe
  rw [show f_J7_fill_53178 (63 + 1) 40 (-1) h = _ from e1, bnd_s, show f_J7_fill_53178 (63 + 2) 40 0 k1 = _ from e2, bnd_s, bnd_s, show f_X11_drawTrial_l12 B FU s0 0 k2 = _ from e, bnd_s]
def W34 (c : Nat) : Prop := (34 ≤ c ∧ c ≤ 41) ∨ c = 64 ∨ c = 65
theorem W34.ws {h' : AH} (hF : Fr W34 h h') : Fr WS h h' := hF.mono (fun c q => by unfold W34 at q; unfold WS; omega)
theorem whS_rg' (oB : okB β) (oG : okG (vL β) γ) (oL : okL a) (hk : kn β γ) (oW : okW ω) : -1 ≤ (whS β γ a ω 6).1 ∧ (whS β γ a ω 6).1 ≤ 6 := by
  have := whS_rg oB oG oL hk oW 6 (Nat.le_refl _)
  omega
theorem tS_le (n : Nat) : (tS β x a ω w s0 n).2 ≤ n := by
  induction n with
  | zero => exact Nat.le_refl _
  | succ n ih =>
    rcases Classical.em ((dS x (ls a) γ0 (tS β x a ω w s0 n).1 (vL β)).2.1 = 0 ∧ (whS β (dS x (ls a) γ0 (tS β x a ω w s0 n).1 (vL β)).2.2 a ω 6).1 = w) with q | q
    · rw [tS_1 q]; dsimp only; omega
    · rw [tS_0 q]; dsimp only; omega
theorem k_told62 (hI : CI h S) (oS : okS S) {b : Nat} (hb : b < 6) (k0 : 0 < vL (xb S b)) (hw : w < 6) {m : Nat} (hm : m ≤ 100) (hx : ∀ i, i < vL (xb S b) → hia h 66 i = w32 (x i)) (rx : ∀ i, i < vL (xb S b) → 0 ≤ x i ∧ x i ≤ 1000000000) (s0 : Int32) : ∃ h1, f_X11_told_l62 (w32 w) (w32 m) (hra h 3 b) FU s0 0 0 h = some (w32 ((tS (xb S b) x (xa S) (xw S) w s0 m).2 : Int), h1) ∧ Fr W34 h h1 := by
  have o := oS.1 b hb
  have oL := oS.2.1
  have hs := oL.2.2.2
  have oW := oS.2.2.1
  obtain ⟨⟨r1, h1⟩, e, q1, q2⟩ := loopR (fun n (t : Int32 × Int32 × Int32 × AH) => f_X11_told_l62 (w32 w) (w32 m) (hra h 3 b) n t.1 t.2.1 t.2.2.1 t.2.2.2) (fun i t => t.1 = (tS (xb S b) x (xa S) (xw S) w s0 i).1 ∧ t.2.1 = w32 ((tS (xb S b) x (xa S) (xw S) w s0 i).2 : Int) ∧ t.2.2.1 = w32 (i : Nat) ∧ Fr W34 h t.2.2.2) (fun t => t.1 = w32 ((tS (xb S b) x (xa S) (xw S) w s0 m).2 : Int) ∧ Fr W34 h t.2) m (fun i n t hi hP => by
      obtain ⟨v6, v7, v8, hh⟩ := t
      obtain ⟨p1, p2, p3, p4⟩ := hP
      dsimp only at p1 p2 p3 p4
      subst p1 p2 p3
      have hI2 := hI.fr (W34.ws p4)
      have r3 : hra hh 3 = hra h 3 := (p4 3 (by unfold W34; omega)).2.2.2.2
      have r0 : hra hh 0 = hra h 0 := (p4 0 (by unfold W34; omega)).2.2.2.2
      have B2 := (hI2.2.1 b hb).1
      rw [r3] at B2
      have isX := (hI.1.1 b hb).1
      have hx2 : ∀ i, i < vL (xb S b) → hia hh 66 i = w32 (x i) := fun i hi => by rw [(p4 66 (by unfold W34; omega)).2.2.1]; exact hx i hi
      have ts := tS_le (β := xb S b) (x := x) (a := xa S) (ω := xw S) (w := w) (s0 := s0) i
      obtain ⟨h2, e2, f2, g2⟩ := k_trial B2 isX hI2.2.2.1 hI2.1.2.2.2.2.1 o.1 oL hx2 rx (tS (xb S b) x (xa S) (xw S) w s0 i).1
      have F2 : Fr W34 h h2 := p4.tr (f2.mono (fun c q => by unfold W34; omega))
      have hI3 := hI.fr (W34.ws F2)
      have r33 : hra h2 3 = hra h 3 := (F2 3 (by unfold W34; omega)).2.2.2.2
      have B3 := (hI3.2.1 b hb).1
      rw [r33] at B3
      have okD := (dS_ok (x := x) (s0 := (tS (xb S b) x (xa S) (xw S) w s0 i).1) (ok_γ0 (vL (xb S b))) hs (vL (xb S b)) (Nat.le_refl _)).1
      have ra := k_readAll g2 okD o.1.1
      have kd := kn_dS (β := xb S b) (x := x) (s0 := (tS (xb S b) x (xa S) (xw S) w s0 i).1) (ls (xa S)) hs k0
      have isX' := isX
      unfold isB at isX'
      have hd : f_X11_told_l62 (w32 w) (w32 m) (hra h 3 b) (n + 1) (tS (xb S b) x (xa S) (xw S) w s0 i).1 (w32 ((tS (xb S b) x (xa S) (xw S) w s0 i).2 : Int)) (w32 i) hh = bnd (f_X3_readAll 63 (w32 (vL (xb S b))) h2) (fun q11 => if q11 = true then gd (SH (hra h2 0 3) = (5, 0)) (bnd (f_X9_fill 33 (hra h 3 b) 63 (hra h2 0 3) h2) (fun q14 => bnd (f_X11_ownerBy (hra h 3 b) 33 q14) (fun q15 => if q15.1 = w32 w then f_X11_told_l62 (w32 w) (w32 m) (hra h 3 b) n (dS x (ls (xa S)) γ0 (tS (xb S b) x (xa S) (xw S) w s0 i).1 (vL (xb S b))).1 (w32 ((tS (xb S b) x (xa S) (xw S) w s0 i).2 : Int) + 1) (w32 i + 1) q15.2 else f_X11_told_l62 (w32 w) (w32 m) (hra h 3 b) n (dS x (ls (xa S)) γ0 (tS (xb S b) x (xa S) (xw S) w s0 i).1 (vL (xb S b))).1 (w32 ((tS (xb S b) x (xa S) (xw S) w s0 i).2 : Int) + 0) (w32 i + 1) q15.2))) else f_X11_told_l62 (w32 w) (w32 m) (hra h 3 b) n (dS x (ls (xa S)) γ0 (tS (xb S b) x (xa S) (xw S) w s0 i).1 (vL (xb S b))).1 (w32 ((tS (xb S b) x (xa S) (xw S) w s0 i).2 : Int)) (w32 i + 1) h2) := by
        rw [f_X11_told_l62, if_neg (by rw [w_le _ _ (by omega) (by omega) (by omega) (by omega)]; omega), e2, bnd_s]
        dsimp only
        rw [B3.1]
      rcases Classical.em (kn (xb S b) (dS x (ls (xa S)) γ0 (tS (xb S b) x (xa S) (xw S) w s0 i).1 (vL (xb S b))).2.2) with hk | hk
      · have sL := isLw_sh hI3.1.2.2.2.2.1
        have hC : CK h2 (hra h 3 b) 63 (hra h2 0 3) (xb S b) (dS x (ls (xa S)) γ0 (tS (xb S b) x (xa S) (xw S) w s0 i).1 (vL (xb S b))).2.2 (xa S) := ⟨B3, g2, hI3.2.2.1, o.1, okD, oL⟩
        have hA : adOK (hra h 3 b) 63 (hra h2 0 3) := by have a2 := hI3.1.2.2.2.2.1; unfold isLw at a2; unfold adOK; omega
        obtain ⟨h4, e4, f4, u4⟩ := k_fill hC hA (u := 33) (Or.inl rfl)
        have F4 : Fr W34 h h4 := F2.tr (f4.mono (fun c q => by unfold WU at q; unfold W34; omega))
        have hI4 := hI.fr (W34.ws F4)
        obtain ⟨h5, e5, f5⟩ := k_owner hI4.1 hI4.2.2.2.1 (hC.wu hA (Or.inl rfl) f4).1 u4 isX oW o.1 okD oL hk
        have F5 : Fr W34 h h5 := F4.tr (f5.mono (fun c q => by unfold W34; omega))
        have rw' := whS_rg' (ω := xw S) o.1 okD oL hk oW
        rw [ra.1 hk, bnd_s, if_pos rfl, gd_t sL, e4, bnd_s, e5, bnd_s] at hd
        dsimp only at hd
        by_cases qw : (whS (xb S b) (dS x (ls (xa S)) γ0 (tS (xb S b) x (xa S) (xw S) w s0 i).1 (vL (xb S b))).2.2 (xa S) (xw S) 6).1 = w
        · rw [if_pos (by rw [qw]), wl_1, w_add, w_add, w_s, w_s] at hd
          refine ⟨(_, _, _, _), ⟨?_, ?_, rfl, F5⟩, hd⟩
          · rw [tS_1 ⟨kd.mp hk, qw⟩] <;> rfl
          · rw [tS_1 ⟨kd.mp hk, qw⟩] <;> rfl
        · rw [if_neg (by rw [w_eq _ _ (by omega) (by omega) (by omega) (by omega)]; exact qw), wl_0, w_add, Int.add_zero, wl_1, w_add, w_s] at hd
          refine ⟨(_, _, _, _), ⟨?_, ?_, rfl, F5⟩, hd⟩
          · rw [tS_0 (fun z => qw z.2)] <;> rfl
          · rw [tS_0 (fun z => qw z.2)] <;> rfl
      · rw [ra.2 hk, bnd_s, if_neg (by decide), wl_1, w_add, w_s] at hd
        refine ⟨(_, _, _, _), ⟨?_, ?_, rfl, F2⟩, hd⟩
        · rw [tS_0 (fun z => hk (kd.mpr z.1))] <;> rfl
        · rw [tS_0 (fun z => hk (kd.mpr z.1))] <;> rfl) (fun n t hP => by
      obtain ⟨v6, v7, v8, hh⟩ := t
      obtain ⟨p1, p2, p3, p4⟩ := hP
      dsimp only at p1 p2 p3 p4
      subst p1 p2 p3
      refine ⟨(w32 ((tS (xb S b) x (xa S) (xw S) w s0 m).2 : Int), hh), ?_, rfl, p4⟩
      show f_X11_told_l62 (w32 w) (w32 m) (hra h 3 b) (n + 1) _ _ (w32 m) hh = _
      rw [f_X11_told_l62, if_pos (Int32.le_refl _)]) FU (by unfold FU; omega) (s0, 0, 0, h) ⟨rfl, rfl, rfl, Fr.rf⟩
  dsimp only at q1 q2
  subst q1
  exact ⟨h1, e, q2⟩
/-! the reference -/
theorem m_told84 (hB : hia h 196 b = w32 (vL β)) (hb : b < 8) (oB : okB β) : ∃ h1, f_X12_told_l84 (w32 b) FU 0 h = some h1 ∧ Fr (fun c => c = 208) h h1 ∧ FrN 7 h h1 ∧ ∀ l, l < vL β → hia h1 208 (40 * 7 + l) = w32 (-1) := by
  have o1 := oB.1
  exact loopR (fun n (s : Int32 × AH) => f_X12_told_l84 (w32 b) n s.1 s.2) (fun i s => s.1 = w32 (i : Nat) ∧ Fr (fun c => c = 208) h s.2 ∧ FrN 7 h s.2 ∧ ∀ l, l < i → hia s.2 208 (40 * 7 + l) = w32 (-1)) (fun h1 => Fr (fun c => c = 208) h h1 ∧ FrN 7 h h1 ∧ ∀ l, l < vL β → hia h1 208 (40 * 7 + l) = w32 (-1)) (vL β) (fun i n s hi hP => by
      obtain ⟨v3, hh⟩ := s
      obtain ⟨p1, p2, p3, p4⟩ := hP
      dsimp only at p1 p2 p3 p4
      subst p1
      have d1 : hia hh 196 b = w32 (vL β) := by rw [(p2 196 (by omega)).2.2.1]; exact hB
      refine ⟨(w32 (i + 1 : Nat), sia hh 208 (40 * 7 + i) (-1)), ⟨rfl, p2.tr (Fr.sia _ _ _ _ rfl), p3.tr (FrN.w _ _ _ _ _ (by omega)), fun l hl => ?_⟩, ?_⟩
      · show hia (sia hh 208 (40 * 7 + i) (-1)) 208 (40 * 7 + l) = _
        rw [ia_sia]
        by_cases q : l = i
        · rw [if_pos (by omega)]; rfl
        · rw [if_neg (by omega)]; exact p4 l (by omega)
      · show f_X12_told_l84 (w32 b) (n + 1) (w32 i) hh = f_X12_told_l84 (w32 b) n (w32 (i + 1 : Nat)) _
        rw [f_X12_told_l84, gd_t (by rw [w_ibN _ _ (by omega)]; omega), w_clN b (by omega), d1, if_neg (by rw [w_le _ _ (by omega) (by omega) (by omega) (by omega)]; omega), show (7 : Int32) = w32 (7 : Nat) from rfl, e_at, gd_t (by rw [w_ibN _ _ (by omega)]; omega), lt_b, w_clN _ (by omega), wl_1, w_add, w_s]) (fun n s hP => by
      obtain ⟨v3, hh⟩ := s
      obtain ⟨p1, p2, p3, p4⟩ := hP
      dsimp only at p1 p2 p3 p4
      subst p1
      have d1 : hia hh 196 b = w32 (vL β) := by rw [(p2 196 (by omega)).2.2.1]; exact hB
      refine ⟨hh, ?_, p2, p3, p4⟩
      show f_X12_told_l84 (w32 b) (n + 1) (w32 (vL β)) hh = _
      rw [f_X12_told_l84, gd_t (by rw [w_ibN _ _ (by omega)]; omega), w_clN b (by omega), d1, if_pos (Int32.le_refl _)]) FU (by unfold FU; omega) (0, h) ⟨rfl, Fr.rf, FrN.rf, fun l hl => by omega⟩
theorem m_told66 (hB : hia h 196 b = w32 (vL β)) (hb : b < 8) (hB7 : BM h 7 β) (hL : LM h a) (hW : WM h (xw S)) (oB : okB β) (oL : okL a) (oW : okW (xw S)) (k0 : 0 < vL β) (hw : w < 6) {m : Nat} (hm : m ≤ 100) (hx : ∀ i, i < vL β → hia h 222 i = w32 (x i)) (rx : ∀ i, i < vL β → 0 ≤ x i ∧ x i ≤ 1000000000) (hs0 : hfi h 193 40 = s0) : ∃ h1, f_X12_told_l66 (w32 b) (w32 w) (w32 m) FU 0 0 h = some (w32 ((tS β x a (xw S) w s0 m).2 : Int), h1) ∧ Fr W3 h h1 ∧ FrN 7 h h1 ∧ ∀ k, k ≠ 40 → hfi h1 193 k = hfi h 193 k := by
  have hs := oL.2.2.2
  have o1 := oB.1
  obtain ⟨⟨r1, h1⟩, e, q1, q2⟩ := loopR (fun n (t : Int32 × Int32 × AH) => f_X12_told_l66 (w32 b) (w32 w) (w32 m) n t.1 t.2.1 t.2.2) (fun i t => t.1 = w32 ((tS β x a (xw S) w s0 i).2 : Int) ∧ t.2.1 = w32 (i : Nat) ∧ Fr W3 h t.2.2 ∧ FrN 7 h t.2.2 ∧ (∀ k, k ≠ 40 → hfi t.2.2 193 k = hfi h 193 k) ∧ hfi t.2.2 193 40 = (tS β x a (xw S) w s0 i).1) (fun t => t.1 = w32 ((tS β x a (xw S) w s0 m).2 : Int) ∧ Fr W3 h t.2 ∧ FrN 7 h t.2 ∧ ∀ k, k ≠ 40 → hfi t.2 193 k = hfi h 193 k) m (fun i n t hi hP => by
      obtain ⟨v5, v6, hh⟩ := t
      obtain ⟨p1, p2, p3, p4, p5, p6⟩ := hP
      dsimp only at p1 p2 p3 p4 p5 p6
      subst p1 p2
      have ts := tS_le (β := β) (x := x) (a := a) (ω := xw S) (w := w) (s0 := s0) i
      have d1 : hia hh 196 b = w32 (vL β) := by rw [(p3 196 (by unfold W3; omega)).2.2.1]; exact hB
      obtain ⟨h2, e2, f2, n2, z2⟩ := m_told84 (h := hh) d1 hb oB
      have F2 : Fr W3 h h2 := p3.tr (f2.mono (fun c q => by unfold W3; omega))
      have B2 : BM h2 7 β := hB7.fr F2 (fun c _ _ _ => by unfold W3; omega)
      have G2 : GM h2 7 (vL β) γ0 := fun l hl => ⟨z2 l hl, fun e => absurd rfl e⟩
      have L2 : LM h2 a := hL.fr F2 (by unfold W3; omega)
      have s2 : hfi h2 193 40 = (tS β x a (xw S) w s0 i).1 := by rw [(f2 193 (by omega)).1]; exact p6
      obtain ⟨h3, e3, f3, n3, g3, s3, gm3⟩ := m_drawAll (x := x) (γ := γ0) B2 (by omega) G2 L2 oB (ok_γ0 _) oL (fun i hi => by rw [(F2 222 (by unfold W3; omega)).2.2.1]; exact hx i hi) rx
      rw [s2] at e3 s3 gm3
      have F3 : Fr W3 h h3 := F2.tr f3
      have N3 : FrN 7 h h3 := (p4.tr n2).tr n3
      have K3 : ∀ k, k ≠ 40 → hfi h3 193 k = hfi h 193 k := fun k hk => by rw [g3 k hk, (f2 193 (by omega)).1]; exact p5 k hk
      have okD := (dS_ok (x := x) (s0 := (tS β x a (xw S) w s0 i).1) (ok_γ0 (vL β)) hs (vL β) (Nat.le_refl _))
      have kd := kn_dS (β := β) (x := x) (s0 := (tS β x a (xw S) w s0 i).1) (ls a) hs k0
      have hd : f_X12_told_l66 (w32 b) (w32 w) (w32 m) (n + 1) (w32 ((tS β x a (xw S) w s0 i).2 : Int)) (w32 i) hh = if w32 ((dS x (ls a) γ0 (tS β x a (xw S) w s0 i).1 (vL β)).2.1 : Int) = 0 then bnd (f_X12_whoseOf (w32 (7 : Nat)) h3) (fun q22 => if q22 = w32 w then f_X12_told_l66 (w32 b) (w32 w) (w32 m) n (w32 ((tS β x a (xw S) w s0 i).2 : Int) + 1) (w32 i + 1) h3 else f_X12_told_l66 (w32 b) (w32 w) (w32 m) n (w32 ((tS β x a (xw S) w s0 i).2 : Int) + 0) (w32 i + 1) h3) else f_X12_told_l66 (w32 b) (w32 w) (w32 m) n (w32 ((tS β x a (xw S) w s0 i).2 : Int) + 0) (w32 i + 1) h3 := by
        rw [f_X12_told_l66, if_neg (by rw [w_le _ _ (by omega) (by omega) (by omega) (by omega)]; omega), gd_t (by rw [w_ibN _ _ (by omega)]; omega), w_clN b (by omega), d1, if_neg (by rw [wl_0, w_le _ _ (by omega) (by omega) (by omega) (by omega)]; omega), e2, bnd_s, show f_X12_drawAll 7 h2 = _ from e3, bnd_s, lt_b]
        rfl
      by_cases q0 : (dS x (ls a) γ0 (tS β x a (xw S) w s0 i).1 (vL β)).2.1 = 0
      · have hk := kd.mpr q0
        have hMK : MK h3 7 β (dS x (ls a) γ0 (tS β x a (xw S) w s0 i).1 (vL β)).2.2 a := ⟨hB7.fr F3 (fun c _ _ _ => by unfold W3; omega), gm3, hL.fr F3 (by unfold W3; omega), oB, okD.1, oL, by omega⟩
        have mw := m_whose hMK (hW.fr F3 (by unfold W3; omega) (by unfold W3; omega)) oW hk
        have rw' := whS_rg' (ω := xw S) oB okD.1 oL hk oW
        rw [if_pos (by rw [q0]; rfl), mw, bnd_s] at hd
        by_cases qw : (whS β (dS x (ls a) γ0 (tS β x a (xw S) w s0 i).1 (vL β)).2.2 a (xw S) 6).1 = w
        · rw [if_pos (by rw [qw]), wl_1, w_add, w_add, w_s, w_s] at hd
          refine ⟨(_, _, _), ⟨?_, rfl, F3, N3, K3, ?_⟩, hd⟩
          · rw [tS_1 ⟨q0, qw⟩] <;> rfl
          · rw [tS_1 ⟨q0, qw⟩]; exact s3
        · rw [if_neg (by rw [w_eq _ _ (by omega) (by omega) (by omega) (by omega)]; exact qw), wl_0, w_add, Int.add_zero, wl_1, w_add, w_s] at hd
          refine ⟨(_, _, _), ⟨?_, rfl, F3, N3, K3, ?_⟩, hd⟩
          · rw [tS_0 (fun z => qw z.2)] <;> rfl
          · rw [tS_0 (fun z => qw z.2)]; exact s3
      · rw [if_neg (by rw [wl_0, w_eq _ _ (by omega) (by omega) (by omega) (by omega)]; omega), wl_0, w_add, Int.add_zero, wl_1, w_add, w_s] at hd
        refine ⟨(_, _, _), ⟨?_, rfl, F3, N3, K3, ?_⟩, hd⟩
        · rw [tS_0 (fun z => q0 z.1)] <;> rfl
        · rw [tS_0 (fun z => q0 z.1)]; exact s3) (fun n t hP => by
      obtain ⟨v5, v6, hh⟩ := t
      obtain ⟨p1, p2, p3, p4, p5, p6⟩ := hP
      dsimp only at p1 p2 p3 p4 p5 p6
      subst p1 p2
      refine ⟨(w32 ((tS β x a (xw S) w s0 m).2 : Int), hh), ?_, rfl, p3, p4, p5⟩
      show f_X12_told_l66 (w32 b) (w32 w) (w32 m) (n + 1) _ (w32 m) hh = _
      rw [f_X12_told_l66, if_pos (Int32.le_refl _)]) FU (by unfold FU; omega) (0, 0, h) ⟨rfl, rfl, Fr.rf, FrN.rf, fun _ _ => rfl, hs0⟩
  dsimp only at q1 q2
  subst q1
  exact ⟨h1, e, q2⟩
theorem t_told (x y u v : Int32) (hI : CI h S) (oS : okS S) (hM : MI2 h S T) : TK (f_L_told x y u v h) (f_X12_told x y u v) T := by
  unfold f_L_told
  obtain ⟨z, rfl, r1, r2⟩ := w_ex x
  obtain ⟨y, rfl, r3, r4⟩ := w_ex y
  by_cases q : 0 ≤ z ∧ z ≤ 5
  · obtain ⟨b, rfl, hb⟩ := nat_of (n := 5) q
    have hb : b < 6 := by omega
    have isX := (hI.1.1 b hb).1
    have sX := isB_sh isX
    by_cases qw : 0 ≤ y ∧ y ≤ 5
    · obtain ⟨w, rfl, hw⟩ := nat_of (n := 5) qw
      have hw : w < 6 := by omega
      have sW := isWy_sh (hI.1.2.2.1 w hw).1
      obtain ⟨u, rfl, r5, r6⟩ := w_ex u
      by_cases qm : 1 ≤ u ∧ u ≤ 100
      · obtain ⟨m, rfl, hm⟩ := nat_of (z := u) (n := 100) (by omega)
        have o := oS.1 b hb
        have o1 := o.1.1
        have oL := oS.2.1
        have oW := oS.2.2.1
        have e0 := (hI.2.1 b hb).1.1
        have hd : f_X11_told (w32 b) (w32 w) (w32 m) v h = if 1 ≤ w32 (vL (xb S b) : Nat) then bnd (f_X11_fillShades (hra h 3 b) h) (fun q8 => bnd (f_X11_told_l62 (w32 w) (w32 m) (hra h 3 b) FU v 0 0 q8) (fun q17 => some (.inl (q17.1, q17.2)))) else some (.inl (0, h)) := by
          unfold f_X11_told
          rw [c_bookIn hI.1 hb, bnd_s]
          simp only [Sum.elim_inl]
          rw [gd_t sX, c_wayIn hI.1 hw, bnd_s]
          simp only [Sum.elim_inl]
          rw [gd_t sW, if_neg (by rw [wl_1, w_lt _ _ (by omega) (by omega) (by omega) (by omega)]; omega), if_pos (by rw [wl_100, w_le _ _ (by omega) (by omega) (by omega) (by omega)]; omega), e0]
        have md : ∀ h', MI2 h' S T → ∃ k2, FrN 7 h' k2 ∧ hia k2 218 = hia h' 218 ∧ Fr (fun q => 193 ≤ q ∧ q ≤ 235) h' k2 ∧ hfi k2 193 2 = 0 ∧ hfi k2 193 40 = v ∧ MI2 k2 S T ∧ BM k2 7 (xb S b) ∧ (∀ i, i < vL (xb S b) → hia k2 222 i = w32 (shd (xb S b) (xw S) (xa S) i)) ∧ f_X12_told (w32 b) (w32 w) (w32 m) v h' = bnd (f_X12_told_l66 (w32 b) (w32 w) (w32 m) FU 0 0 k2) (fun q24 => some (q24.1, q24.2)) := by
          intro h' hM'
          have hM1 := (hM'.fr (code0 h').1.m).fr (FrQ.code (sfi h' 193 2 0) 40 v (by omega)).m
          have n0 : FrN 7 h' (sfi (sfi h' 193 2 0) 193 40 v) := (FrN.fl _ _ _ _ (by omega)).tr (FrN.fl _ _ _ _ (by omega))
          have c2 : hfi (sfi (sfi h' 193 2 0) 193 40 v) 193 2 = 0 := by rw [fi_sfi_nk _ _ _ _ _ (by omega)]; exact (code0 h').2
          have c40 : hfi (sfi (sfi h' 193 2 0) 193 40 v) 193 40 = v := fi_sfi_eq _ _ _ _
          have k00 : hia (sfi (sfi h' 193 2 0) 193 40 v) = hia h' := rfl
          obtain ⟨k1, g1, f1, n1, b1, -, -⟩ := m_copy (h := sfi (sfi h' 193 2 0) 193 40 v) (f := b) (t := 7) (by omega) (by omega) (by omega) (hM1.1 b hb).1 o.1
          have hM2 := hM1.fr7 oS n1 (by omega) ((f1 218 (by unfold WB; omega)).2.2.1)
          obtain ⟨k2, g2, f2, w2⟩ := m_tell (S := S) (h := k1) (b := 7) b1 (by omega) hM2.2.2.1 hM2.2.1 o.1 oW oL
          have hM3 := hM2.fr (W20.q f2).m
          refine ⟨k2, (n0.tr n1).tr (W20.q f2).n, ?_, ?_, ?_, ?_, hM3, b1.fr f2 (fun c _ _ _ => by unfold W20; omega), fun i hi => (w2 i hi).2.2, ?_⟩
          · rw [(f2 218 (by unfold W20; omega)).2.2.1, (f1 218 (by unfold WB; omega)).2.2.1, k00]
          · exact ((n0.tr n1).tr (W20.q f2).n).1
          · rw [(f2 193 (by unfold W20; omega)).1, (f1 193 (by unfold WB; omega)).1]; exact c2
          · rw [(f2 193 (by unfold W20; omega)).1, (f1 193 (by unfold WB; omega)).1]; exact c40
          · unfold f_X12_told
            rw [lt_b, m_isBookN hb, if_pos rfl, m_isWayN hw, if_pos rfl, if_pos (by rw [wl_1, wl_100, e_isIn _ _ _ (by omega) (by omega) (by omega) (by omega) (by omega) (by omega), decide_eq_true_eq]; omega), lt_b, show f_X12_copyBook (w32 b) 7 (sfi (sfi h' 193 2 0) 193 40 v) = _ from g1, bnd_s, show f_X12_tellDirt 7 k1 = _ from g2, bnd_s]
        by_cases k0 : 0 < vL (xb S b)
        · rw [if_pos (by rw [wl_1, w_le _ _ (by omega) (by omega) (by omega) (by omega)]; omega)] at hd
          obtain ⟨hW, hWy⟩ := hI.way
          obtain ⟨h1, e1, f1, z1⟩ := k_shades (hI.2.1 b hb).1 isX hW hWy hI.2.2.1 hI.1.2.2.2.2.1 o.1 oW oL
          have F1 : Fr WS h h1 := f1.mono (fun c q => by unfold WS; omega)
          have r31 : hra h1 3 = hra h 3 := (f1 3 (by omega)).2.2.2.2
          have rx : ∀ i, i < vL (xb S b) → 0 ≤ shd (xb S b) (xw S) (xa S) i ∧ shd (xb S b) (xw S) (xa S) i ≤ 1000000000 := fun i hi => by have := shd_rg o.1 oW oL hi; omega
          obtain ⟨h2, e2, f2⟩ := k_told62 (hI.fr F1) oS hb k0 hw hm z1 rx v
          rw [r31] at e2
          rw [e1, bnd_s, e2, bnd_s] at hd
          dsimp only at hd
          have F12 : Fr (fun c => 33 ≤ c ∧ c ≤ 66 ∧ c ≠ 57) h h2 := (f1.mono (fun c q => by omega)).tr (f2.mono (fun c q => by unfold W34 at q; omega))
          refine TK_v oS hM (XC_of hI F12 hd) (fun h' hM' => ?_)
          obtain ⟨k2, n2, s2, fr2, c2, c40, hM2, b2, x2, m2⟩ := md h' hM'
          obtain ⟨k3, g3, f3, n3, c3⟩ := m_told66 (S := S) (x := shd (xb S b) (xw S) (xa S)) (s0 := v) (hM2.1 b hb).1.1 (by omega) b2 hM2.2.1 hM2.2.2.1 o.1 oL oW k0 hw hm x2 rx c40
          rw [g3, bnd_s] at m2
          exact ⟨k3, fr2.tr (f3.mono (fun c q => by unfold W3 at q; omega)), (hM2.fr7 oS n3 (by omega) ((f3 218 (by unfold W3; omega)).2.2.1)).le (by omega), m2, (c3 2 (by omega)).trans c2⟩
        · rw [if_neg (by rw [wl_1, w_le _ _ (by omega) (by omega) (by omega) (by omega)]; omega)] at hd
          refine TK_v oS hM (XC_of (v := 0) hI Fr.rf hd) (fun h' hM' => ?_)
          obtain ⟨k2, n2, s2, fr2, c2, c40, hM2, b2, x2, m2⟩ := md h' hM'
          have l66 : f_X12_told_l66 (w32 b) (w32 w) (w32 m) FU 0 0 k2 = some (0, k2) := by
            show f_X12_told_l66 (w32 b) (w32 w) (w32 m) (999 + 1) 0 (w32 (0 : Nat)) k2 = _
            rw [f_X12_told_l66, if_neg (by rw [w_le _ _ (by omega) (by omega) (by omega) (by omega)]; omega), gd_t (by rw [w_ibN _ _ (by omega)]; omega), w_clN b (by omega), (hM2.1 b hb).1.1, if_pos (by rw [wl_0, w_le _ _ (by omega) (by omega) (by omega) (by omega)]; omega)]
          rw [l66, bnd_s] at m2
          exact ⟨k2, fr2, hM2.le (by omega), m2, c2⟩
      · refine TK_x (c := 2) oS hM (XCx_id (d := 1) hI ?_) (fun h1 => rfl) (by decide) (fun h' hM' => XM_fail 2 h' hM' ?_)
        · unfold f_X11_told
          rw [c_bookIn hI.1 hb, bnd_s]
          simp only [Sum.elim_inl]
          rw [gd_t sX, c_wayIn hI.1 hw, bnd_s]
          simp only [Sum.elim_inl]
          rw [gd_t sW]
          by_cases q4 : u < 1
          · rw [if_pos (by rw [wl_1, w_lt _ _ (by omega) (by omega) (by omega) (by omega)]; omega)]
          · rw [if_neg (by rw [wl_1, w_lt _ _ (by omega) (by omega) (by omega) (by omega)]; omega), if_neg (by rw [wl_100, w_le _ _ (by omega) (by omega) (by omega) (by omega)]; omega)]
        · unfold f_X12_told
          rw [lt_b, m_isBookN hb, if_pos rfl, m_isWayN hw, if_pos rfl, if_neg (by rw [wl_1, wl_100, e_isIn _ _ _ (by omega) (by omega) (by omega) (by omega) (by omega) (by omega), decide_eq_true_eq]; omega), m_fail, bnd_s]
    · refine TK_x (c := 1) oS hM (XCx_id (d := 0) hI ?_) (fun h1 => rfl) (by decide) (fun h' hM' => XM_fail 1 h' hM' ?_)
      · unfold f_X11_told
        rw [c_bookIn hI.1 hb, bnd_s]
        simp only [Sum.elim_inl]
        rw [gd_t sX, c_wayOut r3 r4 qw, bnd_s]
        rfl
      · unfold f_X12_told
        rw [lt_b, m_isBookN hb, if_pos rfl, m_isWay r3 r4, decide_eq_false qw, if_neg (by decide), m_fail, bnd_s]
  · refine TK_x (c := 1) oS hM (XCx_id (d := 0) hI ?_) (fun h1 => rfl) (by decide) (fun h' hM' => XM_fail 1 h' hM' ?_)
    · unfold f_X11_told
      rw [c_bookOut r1 r2 q, bnd_s]
      rfl
    · unfold f_X12_told
      rw [lt_b, m_isBook r1 r2, decide_eq_false q, if_neg (by decide), m_fail, bnd_s]
end TOL
