/-! next; before -/
def ar (β : BV) (γ : GV) : Prop := ∀ l, l < vL β → rd γ l
def wdS (β : BV) (γ : GV) (a : LV) : Nat → Int × Int
  | 0 => (-1, -1)
  | l + 1 => if (wdS β γ a l).2 < sTH β γ a l - sTL β γ a l then ((l : Int), sTH β γ a l - sTL β γ a l) else wdS β γ a l
theorem wdS_s (β : BV) (γ : GV) (a : LV) (l : Nat) : wdS β γ a (l + 1) = if (wdS β γ a l).2 < sTH β γ a l - sTL β γ a l then ((l : Int), sTH β γ a l - sTL β γ a l) else wdS β γ a l := rfl
section NXT
variable {h : AH} {S : SV} {T b B r : Nat} {β : BV} {γ : GV} {a : LV}
theorem ar_l {l : Nat} (hk : ar β γ) (hl : l < vL β) : rd γ l ∧ (l ≠ 0 → rd γ (l - 1)) := ⟨hk l hl, fun e => hk (l - 1) (by omega)⟩
theorem wdS_rg (oB : okB β) (oG : okG (vL β) γ) (oL : okL a) (hk : ar β γ) {n : Nat} (hn : n ≤ vL β) : -1 ≤ (wdS β γ a n).1 ∧ (wdS β γ a n).1 ≤ 40 ∧ -1 ≤ (wdS β γ a n).2 ∧ (wdS β γ a n).2 ≤ 1000049 := by
  induction n with
  | zero => show -1 ≤ (-1 : Int) ∧ (-1 : Int) ≤ 40 ∧ -1 ≤ (-1 : Int) ∧ (-1 : Int) ≤ 1000049; omega
  | succ n ih =>
    have i := ih (by omega)
    have hn' : n < vL β := by omega
    have rr := sTL_rg oB oG oL hn' (ar_l hk hn').1 (ar_l hk hn').2
    have o1 := oB.1
    rw [wdS_s]
    by_cases q : (wdS β γ a n).2 < sTH β γ a n - sTL β γ a n
    · rw [if_pos q]; dsimp only; omega
    · rw [if_neg q]; exact i
theorem k_next8 (hC : CK h B (B + 7) r β γ a) : ((∀ i, i < vL β → rd γ i) → f_X11_next_l8 B h FU 0 = some (.inl ())) ∧ (∀ j, j < vL β → ¬ rd γ j → (∀ i, i < j → rd γ i) → f_X11_next_l8 B h FU 0 = some (.inr (w32 (j : Nat), h))) := by
  have e1 := hC.1.1
  have o1 := hC.2.2.2.1.1
  exact scan (fun n (v : Int32) => f_X11_next_l8 B h n v) (fun i => w32 (i : Nat)) (vL β) (fun i => rd γ i) (.inl ()) (fun j => .inr (w32 (j : Nat), h)) (fun i n hi hP => by
      show f_X11_next_l8 B h (n + 1) (w32 i) = f_X11_next_l8 B h n (w32 (i + 1 : Nat))
      rw [f_X11_next_l8, e1, if_neg (by rw [w_le _ _ (by omega) (by omega) (by omega) (by omega)]; omega), k_wasRead hC.2.1 hC.2.2.2.2.1 hi o1, bnd_s, if_pos (by rw [decide_eq_true_eq]; exact hP), wl_1, w_add, w_s]) (fun i n hi hP => by
      show f_X11_next_l8 B h (n + 1) (w32 i) = _
      rw [f_X11_next_l8, e1, if_neg (by rw [w_le _ _ (by omega) (by omega) (by omega) (by omega)]; omega), k_wasRead hC.2.1 hC.2.2.2.2.1 hi o1, bnd_s, if_neg (by rw [decide_eq_true_eq]; exact hP)]) (fun n => by
      show f_X11_next_l8 B h (n + 1) (w32 (vL β)) = _
      rw [f_X11_next_l8, e1, if_pos (Int32.le_refl _)]) FU (by unfold FU; omega)
theorem m_next20 (hM : MK h b β γ a) : ((∀ i, i < vL β → rd γ i) → f_X12_next_l20 (w32 b) h FU 0 = some (.inl ())) ∧ (∀ j, j < vL β → ¬ rd γ j → (∀ i, i < j → rd γ i) → f_X12_next_l20 (w32 b) h FU 0 = some (.inr (w32 (j : Nat), h))) := by
  obtain ⟨hB, hG, hL, oB, oG, oL, hb⟩ := id hM
  have e1 := hB.1
  have o1 := oB.1
  exact scan (fun n (v : Int32) => f_X12_next_l20 (w32 b) h n v) (fun i => w32 (i : Nat)) (vL β) (fun i => rd γ i) (.inl ()) (fun j => .inr (w32 (j : Nat), h)) (fun i n hi hP => by
      have e2 := (hG i hi).1
      have rr := okG_rd oG hi hP
      show f_X12_next_l20 (w32 b) h (n + 1) (w32 i) = f_X12_next_l20 (w32 b) h n (w32 (i + 1 : Nat))
      rw [f_X12_next_l20]
      simp (disch := omega) only [w_ibN, w_clN, gd_t, e1, w_le, e_at, e2, wl_1, w_neg, w_eq, w_add, w_s]
      rw [if_neg (by omega), if_neg (by omega)]) (fun i n hi hP => by
      have e2 := (hG i hi).1
      have e3 : γ.1 i = -1 := Classical.not_not.mp hP
      show f_X12_next_l20 (w32 b) h (n + 1) (w32 i) = _
      rw [f_X12_next_l20]
      simp (disch := omega) only [w_ibN, w_clN, gd_t, e1, w_le, e_at, e2, e3, wl_1, w_neg, if_true]
      rw [if_neg (by omega)]) (fun n => by
      show f_X12_next_l20 (w32 b) h (n + 1) (w32 (vL β)) = _
      rw [f_X12_next_l20]
      simp (disch := omega) only [w_ibN, w_clN, gd_t, e1, w_le]
      rw [if_pos (by omega)]) FU (by unfold FU; omega)
theorem m_next54 (hM : MK h b β γ a) (hk : ar β γ) : ((∀ i, i < vL β → ¬ sTH β γ a i < sTL β γ a i) → f_X12_next_l54 (w32 b) h FU 0 = some (.inl ())) ∧ (∀ j, j < vL β → ¬ ¬ sTH β γ a j < sTL β γ a j → (∀ i, i < j → ¬ sTH β γ a i < sTL β γ a i) → f_X12_next_l54 (w32 b) h FU 0 = some (.inr (w32 (j : Nat), h))) := by
  obtain ⟨hB, hG, hL, oB, oG, oL, hb⟩ := id hM
  have e1 := hB.1
  have o1 := oB.1
  exact scan (fun n (v : Int32) => f_X12_next_l54 (w32 b) h n v) (fun i => w32 (i : Nat)) (vL β) (fun i => ¬ sTH β γ a i < sTL β γ a i) (.inl ()) (fun j => .inr (w32 (j : Nat), h)) (fun i n hi hP => by
      show f_X12_next_l54 (w32 b) h (n + 1) (w32 i) = f_X12_next_l54 (w32 b) h n (w32 (i + 1 : Nat))
      rw [f_X12_next_l54]
      simp (disch := omega) only [w_ibN, w_clN, gd_t, e1, w_le, m_strange hM hi (ar_l hk hi).1 (ar_l hk hi).2, bnd_s, wl_1, w_add, w_s, decide_eq_true_eq]
      rw [if_neg (by omega), if_neg hP]) (fun i n hi hP => by
      have hP := Classical.not_not.mp hP
      show f_X12_next_l54 (w32 b) h (n + 1) (w32 i) = _
      rw [f_X12_next_l54]
      simp (disch := omega) only [w_ibN, w_clN, gd_t, e1, w_le, m_strange hM hi (ar_l hk hi).1 (ar_l hk hi).2, bnd_s, decide_eq_true_eq]
      rw [if_neg (by omega), if_pos hP]) (fun n => by
      show f_X12_next_l54 (w32 b) h (n + 1) (w32 (vL β)) = _
      rw [f_X12_next_l54]
      simp (disch := omega) only [w_ibN, w_clN, gd_t, e1, w_le]
      rw [if_pos (by omega)]) FU (by unfold FU; omega)
theorem m_next88 (hM : MK h b β γ a) (hk : ar β γ) : f_X12_next_l88 (w32 b) h FU (-1) (-1) 0 = some (w32 (wdS β γ a (vL β)).1) := by
  obtain ⟨hB, hG, hL, oB, oG, oL, hb⟩ := id hM
  have e1 := hB.1
  have o1 := oB.1
  exact loopN (fun n (s : Int32 × Int32 × Int32) => f_X12_next_l88 (w32 b) h n s.1 s.2.1 s.2.2) (fun i => (w32 (wdS β γ a i).1, w32 (wdS β γ a i).2, w32 (i : Nat))) (vL β) _ (fun i n hi => by
      have rr := sTL_rg oB oG oL hi (ar_l hk hi).1 (ar_l hk hi).2
      have rw' := wdS_rg oB oG oL hk (Nat.le_of_lt hi)
      show f_X12_next_l88 (w32 b) h (n + 1) (w32 (wdS β γ a i).1) (w32 (wdS β γ a i).2) (w32 i) = f_X12_next_l88 (w32 b) h n (w32 (wdS β γ a (i + 1)).1) (w32 (wdS β γ a (i + 1)).2) (w32 (i + 1 : Nat))
      rw [f_X12_next_l88]
      simp (disch := omega) only [w_ibN, w_clN, gd_t, e1, w_le, m_TL hM hi (ar_l hk hi).1 (ar_l hk hi).2, m_TH hM hi (ar_l hk hi).1 (ar_l hk hi).2, bnd_s, w_sub, w_lt, wl_1, w_add, w_s]
      rw [if_neg (by omega), wdS_s]
      by_cases q : (wdS β γ a i).2 < sTH β γ a i - sTL β γ a i
      · rw [if_pos q, if_pos q]
      · rw [if_neg q, if_neg q]) (fun n => by
      show f_X12_next_l88 (w32 b) h (n + 1) _ _ (w32 (vL β)) = _
      rw [f_X12_next_l88]
      simp (disch := omega) only [w_ibN, w_clN, gd_t, e1, w_le]
      rw [if_pos (by omega)]) FU (by unfold FU; omega)
theorem k_widest (hB : BC h B β) (hU : UF h 33 β γ a) (oB : okB β) (oG : okG (vL β) γ) (oL : okL a) (hk : ar β γ) : ((∀ i, i < vL β → ¬ sTH β γ a i < sTL β γ a i) → f_X9_widest 33 B h = some (w32 (wdS β γ a (vL β)).1)) ∧ (∀ j, j < vL β → ¬ ¬ sTH β γ a j < sTL β γ a j → (∀ i, i < j → ¬ sTH β γ a i < sTL β γ a i) → f_X9_widest 33 B h = some (w32 (j : Nat))) := by
  have e1 := hB.1
  have o1 := oB.1
  have sc := scan (fun n (s : Int32 × Int32 × Int32) => f_X9_widest_l7 33 B h n s.1 s.2.1 s.2.2) (fun i => (w32 (wdS β γ a i).1, w32 (wdS β γ a i).2, w32 (i : Nat))) (vL β) (fun i => ¬ sTH β γ a i < sTL β γ a i) (.inl (w32 (wdS β γ a (vL β)).1)) (fun j => .inr (w32 (j : Nat))) (fun i n hi hP => by
      have rr := sTL_rg oB oG oL hi (ar_l hk hi).1 (ar_l hk hi).2
      have rw' := wdS_rg oB oG oL hk (Nat.le_of_lt hi)
      obtain ⟨-, -, g3, g4, -⟩ := hU.l33 hi (ar_l hk hi).1 (ar_l hk hi).2
      show f_X9_widest_l7 33 B h (n + 1) (w32 (wdS β γ a i).1) (w32 (wdS β γ a i).2) (w32 i) = f_X9_widest_l7 33 B h n (w32 (wdS β γ a (i + 1)).1) (w32 (wdS β γ a (i + 1)).2) (w32 (i + 1 : Nat))
      rw [f_X9_widest_l7]
      simp (disch := omega) only [w_ibN, w_clN, gd_t, e1, w_le, k_strange33 hU oB oG oL hi (ar_l hk hi).1 (ar_l hk hi).2, bnd_s, g3, g4, w_sub, wl_1, w_add, w_s, decide_eq_true_eq]
      rw [if_neg (by omega), if_neg hP, wdS_s]
      by_cases q : (wdS β γ a i).2 < sTH β γ a i - sTL β γ a i
      · rw [if_neg (by omega), if_pos q]
      · rw [if_pos (by omega), if_neg q]) (fun i n hi hP => by
      have hP := Classical.not_not.mp hP
      show f_X9_widest_l7 33 B h (n + 1) (w32 (wdS β γ a i).1) (w32 (wdS β γ a i).2) (w32 i) = _
      rw [f_X9_widest_l7]
      simp (disch := omega) only [e1, w_le, k_strange33 hU oB oG oL hi (ar_l hk hi).1 (ar_l hk hi).2, bnd_s, decide_eq_true_eq]
      rw [if_neg (by omega), if_pos hP]) (fun n => by
      show f_X9_widest_l7 33 B h (n + 1) _ _ (w32 (vL β)) = _
      rw [f_X9_widest_l7, e1, if_pos (Int32.le_refl _)]) FU (by unfold FU; omega)
  unfold f_X9_widest
  refine ⟨fun q => ?_, fun j h1 h2 h3 => ?_⟩
  · rw [show f_X9_widest_l7 33 B h FU (-1) (-1) 0 = _ from sc.1 q, bnd_s]; rfl
  · rw [show f_X9_widest_l7 33 B h FU (-1) (-1) 0 = _ from sc.2 j h1 h2 h3, bnd_s]; rfl
theorem q_next (x : Int32) (hI : CI h S) (oS : okS S) : ∃ s, RC (f_X11_next x h) h s ∧ ∀ h', MI2 h' S T → RM (f_X12_next x h') h' s := by
  obtain ⟨z, rfl, r1, r2⟩ := w_ex x
  by_cases q : 0 ≤ z ∧ z ≤ 5
  · obtain ⟨b, rfl, hb⟩ := nat_of (n := 5) q
    have hb : b < 6 := by omega
    obtain ⟨hC, hA⟩ := hI.ck oS hb
    have sB := isB_sh (hI.1.1 b hb).1
    have sL := isLw_sh hI.1.2.2.2.2.1
    have n8 := k_next8 hC
    have o := oS.1 b hb
    have oL := oS.2.1
    rcases first_of (fun i => rd (xg S b) i) (vL (xb S b)) with hall | ⟨j, hj, hn, hbef⟩
    · have hk : ar (xb S b) (xg S b) := hall
      obtain ⟨h2, e2, f2, u2⟩ := k_fill hC hA (u := 33) (Or.inl rfl)
      have fw := WU_ws (Or.inl rfl) f2
      have kw := k_widest (hC.wu hA (Or.inl rfl) f2).1 u2 o.1 o.2.1 oL hk
      have cls : f_X11_next (w32 b) h = bnd (f_X9_widest 33 (hra h 3 b) h2) (fun q9 => some (.inl (q9, h2))) := by
        unfold f_X11_next
        rw [c_bookIn hI.1 hb, bnd_s]
        simp only [Sum.elim_inl]
        rw [gd_t sB, n8.1 hall, bnd_s]
        simp only [Sum.elim_inl]
        rw [gd_t sL, e2, bnd_s]
      have mdl : ∀ h', MI2 h' S T → f_X12_next (w32 b) h' = bnd (f_X12_next_l54 (w32 b) (sfi h' 193 2 0) FU 0) (fun q12 => Sum.elim (fun xq12 => bnd (f_X12_next_l88 (w32 b) (sfi h' 193 2 0) FU (-1) (-1) 0) (fun q18 => some (q18, sfi h' 193 2 0))) (fun xq12 => some xq12) q12) := by
        intro h' hM
        unfold f_X12_next
        rw [lt_b, m_isBookN hb, if_pos rfl, (m_next20 ((hM.fr (code0 h').1.m).mk oS hb)).1 hall, bnd_s]
        rfl
      rcases first_of (fun i => ¬ sTH (xb S b) (xg S b) (xa S) i < sTL (xb S b) (xg S b) (xa S) i) (vL (xb S b)) with hall2 | ⟨j, hj, hn, hbef⟩
      · refine ⟨some (wdS (xb S b) (xg S b) (xa S) (vL (xb S b))).1, RC_some fw ?_, fun h' hM => RM_some (code0 h').1 ?_ (code0 h').2⟩
        · rw [cls, kw.1 hall2, bnd_s]
        · rw [mdl h' hM, (m_next54 ((hM.fr (code0 h').1.m).mk oS hb) hk).1 hall2, bnd_s]
          simp only [Sum.elim_inl]
          rw [m_next88 ((hM.fr (code0 h').1.m).mk oS hb) hk, bnd_s]
      · refine ⟨some (j : Int), RC_some fw ?_, fun h' hM => RM_some (code0 h').1 ?_ (code0 h').2⟩
        · rw [cls, kw.2 j hj hn hbef, bnd_s]
        · rw [mdl h' hM, (m_next54 ((hM.fr (code0 h').1.m).mk oS hb) hk).2 j hj hn hbef, bnd_s]
          rfl
    · refine ⟨some (j : Int), RC_some Fr.rf ?_, fun h' hM => RM_some (code0 h').1 ?_ (code0 h').2⟩
      · unfold f_X11_next
        rw [c_bookIn hI.1 hb, bnd_s]
        simp only [Sum.elim_inl]
        rw [gd_t sB, n8.2 j hj hn hbef, bnd_s]
        rfl
      · unfold f_X12_next
        rw [lt_b, m_isBookN hb, if_pos rfl, (m_next20 ((hM.fr (code0 h').1.m).mk oS hb)).2 j hj hn hbef, bnd_s]
        rfl
  · refine ⟨none, RC_none Fr.rf ?_, fun h' hM => RM_fail (code0 h').1 ?_⟩
    · unfold f_X11_next
      rw [c_bookOut r1 r2 q, bnd_s]
      rfl
    · unfold f_X12_next
      rw [lt_b, m_isBook r1 r2, decide_eq_false q, if_neg (by decide), m_fail, bnd_s]
/-! before -/
theorem XM_of {h' : AH} {e : Option (Int32 × AH)} {v : Int} (hM : MI2 h' S T) (hr : RM e h' (some v)) : XMc e h' S (T + 1) 0 (w32 v) := by
  obtain ⟨h1, fq, e1, e2⟩ := hr
  exact ⟨h1, fq.1.mono (fun c q => by unfold WQ at q; omega), (hM.fr fq.m).le (by omega), e1, e2⟩
theorem XC_of {h1 : AH} {e : Option (XR Int32)} {v : Int} (hI : CI h S) (hF : Fr (fun c => 33 ≤ c ∧ c ≤ 66 ∧ c ≠ 57) h h1) (he : e = some (.inl (w32 v, h1))) : XCv e h S (w32 v) := ⟨h1, hF.mono (fun c q => by omega), hI.fr (hF.mono (fun c q => Or.inl q)), he⟩
theorem WU_3 {h h' : AH} (hF : Fr (WU 33) h h') : Fr (fun c => 33 ≤ c ∧ c ≤ 66 ∧ c ≠ 57) h h' := hF.mono (fun c q => by unfold WU at q; omega)
theorem t_before (x y u v : Int32) (hI : CI h S) (oS : okS S) (hM : MI2 h S T) : TK (f_L_before x y u v h) (f_X12_before x y u v) T := by
  unfold f_L_before
  rcases Classical.em (isLf S x y) with ⟨b, l, hb, hl, rfl, rfl⟩ | hn
  · obtain ⟨hC, hA⟩ := hI.ck oS hb
    have o := hC.2.2.2.1.1
    have oG := hC.2.2.2.2.1
    have sB := isB_sh (hI.1.1 b hb).1
    have sL := isLw_sh hI.1.2.2.2.2.1
    have lib : ib (w32 (l : Int)) 40 = true := by rw [w_ibN _ _ (by omega)]; omega
    have lcl : cl (w32 (l : Int)) = l := w_clN l (by omega)
    obtain ⟨z, rfl, r1, r2⟩ := w_ex v
    obtain ⟨f, rfl, r3, r4⟩ := w_ex u
    by_cases q0 : 0 ≤ z ∧ z ≤ 1
    · have c0 : ¬ w32 z < 0 := by rw [wl_0, w_lt _ _ (by omega) (by omega) (by omega) (by omega)]; omega
      have c1 : ¬ 1 < w32 z := by rw [wl_1, w_lt _ _ (by omega) (by omega) (by omega) (by omega)]; omega
      by_cases hrd : rdy (xg S b) l = true
      · obtain ⟨p1, p2⟩ := (rdy_iff _ _).mp hrd
        have wr : f_X3_wasRead (hra h 3 b + 7) (w32 l) h = some true := by rw [k_wasRead hC.2.1 oG hl o, decide_eq_true (show (xg S b).1 l ≠ -1 from p1)]
        have ka := k_ahead hC.2.1 oG o hl
        rw [if_pos (show l = 0 ∨ (xg S b).1 (l - 1) ≠ -1 by rcases Nat.eq_zero_or_pos l with e | e; exact Or.inl e; exact Or.inr (p2 (by omega)))] at ka
        by_cases qf : 0 ≤ f ∧ f ≤ 99
        · obtain ⟨h2, e2, f2, u2⟩ := k_fill hC hA (u := 33) (Or.inl rfl)
          obtain ⟨g1, g2, g3, g4, g5⟩ := u2.l33 hl p1 p2
          have rr := sUL_rg hC.2.2.2.1 oG hC.2.2.2.2.2 hl p1 (prv l) (prv_ok hl p2)
          have l1 : w32 (l : Int) - 1 = w32 ((l : Int) - 1) := w_sub _ 1
          have u1 : ∀ h', MI2 h' S T → f_X12_undoneLow (w32 b) (w32 l) (w32 l - 1) (sfi h' 193 2 0) = some (w32 (sUL (xb S b) (xg S b) (xa S) l (prv l))) := fun h' hM' => by
            have := m_uL ((hM'.fr (code0 h').1.m).mk oS hb) hl p1 (prv l) (prv_ok hl p2)
            rw [pI_prv] at this
            rw [l1]; exact this
          have u3 : ∀ h', MI2 h' S T → f_X12_undoneHigh (w32 b) (w32 l) (w32 l - 1) (sfi h' 193 2 0) = some (w32 (sUH (xb S b) (xg S b) (xa S) l (prv l))) := fun h' hM' => by
            have := m_uH ((hM'.fr (code0 h').1.m).mk oS hb) hl p1 (prv l) (prv_ok hl p2)
            rw [pI_prv] at this
            rw [l1]; exact this
          generalize sUL (xb S b) (xg S b) (xa S) l (prv l) = X at *
          generalize sUH (xb S b) (xg S b) (xa S) l (prv l) = Y at *
          have cls : f_X11_before (w32 b) (w32 l) (w32 f) (w32 z) h = if max 0 X ≤ Y then if w32 z = 0 then some (.inl (w32 ((100 * max 0 X + (100 - f) - 1) / (100 - f)), h2)) else some (.inl (w32 ((100 * (Y + 1) + (100 - f) - 1) / (100 - f) - 1), h2)) else some (.inl (w32 (-1), h2)) := by
            unfold f_X11_before
            rw [c_leafIn hI oS hb hl, bnd_s]
            simp only [Sum.elim_inl]
            rw [gd_t sB, if_neg c0, if_neg c1, wr, bnd_s, if_pos rfl, ka, bnd_s]
            simp only [Sum.elim_inl]
            rw [if_neg (by rw [wl_0, w_lt _ _ (by omega) (by omega) (by omega) (by omega)]; omega), if_pos (by rw [wl_99, w_le _ _ (by omega) (by omega) (by omega) (by omega)]; omega), gd_t sL, e2, bnd_s, gd_t lib, gd_t lib, lcl, g1, g2]
            rw [show f_J9_max_7cf53 0 (w32 X) = w32 (max 0 X) from e_max 0 X (by omega) (by omega) (by omega) (by omega)]
            simp (disch := omega) only [w_le]
            by_cases qq : max 0 X ≤ Y
            · rw [if_pos qq, if_pos qq]
              simp (disch := omega) only [w_l, wl_100, w_sub, vl_100, vl_1, v_add, v_mul, e_cutUp, bnd_s, wl_1]
            · rw [if_neg qq, if_neg qq, wl_1, w_neg]
          have mdl : ∀ h', MI2 h' S T → f_X12_before (w32 b) (w32 l) (w32 f) (w32 z) h' = if max 0 X ≤ Y then if w32 z = 0 then some (w32 ((max 0 X * 100 + (100 - f) - 1) / (100 - f)), sfi h' 193 2 0) else some (w32 (((Y + 1) * 100 - 1) / (100 - f)), sfi h' 193 2 0) else some (w32 (-1), sfi h' 193 2 0) := by
            intro h' hM'
            have hM1 := hM'.fr (code0 h').1.m
            unfold f_X12_before
            rw [lt_b, m_leafIn hM1 oS hb hl, bnd_s, if_pos rfl, if_neg c0, if_neg c1, m_undone (hM1.mk oS hb) hl, hrd, bnd_s, if_pos rfl, if_pos (by rw [wl_0, wl_99, e_isIn _ _ _ (by omega) (by omega) (by omega) (by omega) (by omega) (by omega), decide_eq_true_eq]; omega), u1 h' hM', bnd_s, u3 h' hM', bnd_s]
            rw [show f_J9_max_7cf53 0 (w32 X) = w32 (max 0 X) from e_max 0 X (by omega) (by omega) (by omega) (by omega)]
            simp (disch := omega) only [w_l, c_le]
            by_cases qq : max 0 X ≤ Y
            · rw [if_pos qq, if_pos qq]
              have d1 : ∀ N : Int, 0 ≤ N → N ≤ 200000000 → 0 ≤ N / (100 - f) ∧ N / (100 - f) ≤ 200000000 := fun N h1 h2 => ⟨Int.ediv_nonneg h1 (by omega), Int.le_trans (Int.ediv_le_self _ h1) h2⟩
              have d2 := d1 (max 0 X * 100 + (100 - f) - 1) (by omega) (by omega)
              have d3 := d1 ((Y + 1) * 100 - 1) (by omega) (by omega)
              have ne : ¬ w64 (100 - f) = 0 := by rw [vl_0, v_eq _ _ (by omega) (by omega) (by omega) (by omega)]; omega
              simp (disch := omega) only [vl_100, v_sub, gd_t ne, v_mul, v_add, vl_1, v_divP, v_i]
            · rw [if_neg qq, if_neg qq, wl_1, w_neg]
          have eq1 : (100 * max 0 X + (100 - f) - 1) / (100 - f) = (max 0 X * 100 + (100 - f) - 1) / (100 - f) := by rw [Int.mul_comm]
          have eq2 : (100 * (Y + 1) + (100 - f) - 1) / (100 - f) - 1 = ((Y + 1) * 100 - 1) / (100 - f) := by
            rw [show 100 * (Y + 1) + (100 - f) - 1 = ((Y + 1) * 100 - 1) + 1 * (100 - f) by omega, Int.add_mul_ediv_right _ _ (by omega)]
            omega
          by_cases qq : max 0 X ≤ Y
          · by_cases z0 : w32 z = 0
            · rw [if_pos qq, if_pos z0] at cls
              exact TK_v oS hM (XC_of hI (WU_3 f2) cls) (fun h' hM' => XM_of hM' (RM_some (code0 h').1 (by rw [mdl h' hM', if_pos qq, if_pos z0, eq1]) (code0 h').2))
            · rw [if_pos qq, if_neg z0] at cls
              exact TK_v oS hM (XC_of hI (WU_3 f2) cls) (fun h' hM' => XM_of hM' (RM_some (code0 h').1 (by rw [mdl h' hM', if_pos qq, if_neg z0, eq2]) (code0 h').2))
          · rw [if_neg qq] at cls
            exact TK_v oS hM (XC_of hI (WU_3 f2) cls) (fun h' hM' => XM_of hM' (RM_some (code0 h').1 (by rw [mdl h' hM', if_neg qq]) (code0 h').2))
        · refine TK_x (c := 2) oS hM (XCx_id (d := 1) hI ?_) (fun h1 => rfl) (by decide) (fun h' hM' => XM_fail 2 h' hM' ?_)
          · unfold f_X11_before
            rw [c_leafIn hI oS hb hl, bnd_s]
            simp only [Sum.elim_inl]
            rw [gd_t sB, if_neg c0, if_neg c1, wr, bnd_s, if_pos rfl, ka, bnd_s]
            simp only [Sum.elim_inl]
            by_cases q4 : f < 0
            · rw [if_pos (by rw [wl_0, w_lt _ _ (by omega) (by omega) (by omega) (by omega)]; omega)]
            · rw [if_neg (by rw [wl_0, w_lt _ _ (by omega) (by omega) (by omega) (by omega)]; omega), if_neg (by rw [wl_99, w_le _ _ (by omega) (by omega) (by omega) (by omega)]; omega)]
          · have hM1 := hM'.fr (code0 h').1.m
            unfold f_X12_before
            rw [lt_b, m_leafIn hM1 oS hb hl, bnd_s, if_pos rfl, if_neg c0, if_neg c1, m_undone (hM1.mk oS hb) hl, hrd, bnd_s, if_pos rfl, if_neg (by rw [wl_0, wl_99, e_isIn _ _ _ (by omega) (by omega) (by omega) (by omega) (by omega) (by omega), decide_eq_true_eq]; omega), m_fail, bnd_s]
      · refine TK_x (c := 1) oS hM (XCx_id (d := 0) hI ?_) (fun h1 => rfl) (by decide) (fun h' hM' => XM_fail 1 h' hM' ?_)
        · unfold f_X11_before
          rw [c_leafIn hI oS hb hl, bnd_s]
          simp only [Sum.elim_inl]
          rw [gd_t sB, if_neg c0, if_neg c1, k_wasRead hC.2.1 oG hl o, bnd_s]
          by_cases qr : (xg S b).1 l = -1
          · rw [if_neg (by rw [decide_eq_true_eq]; exact fun z => z qr)]
          · rw [if_pos (by rw [decide_eq_true_eq]; exact qr), k_ahead hC.2.1 oG o hl, if_neg (fun e => hrd ((rdy_iff _ _).mpr ⟨qr, fun h0 => by rcases e with e | e; exact absurd e h0; exact e⟩)), bnd_s]
            rfl
        · have hM1 := hM'.fr (code0 h').1.m
          unfold f_X12_before
          rw [lt_b, m_leafIn hM1 oS hb hl, bnd_s, if_pos rfl, if_neg c0, if_neg c1, m_undone (hM1.mk oS hb) hl, bnd_s, if_neg hrd, m_fail, bnd_s]
    · refine TK_x (c := 1) oS hM (XCx_id (d := 0) hI ?_) (fun h1 => rfl) (by decide) (fun h' hM' => XM_fail 1 h' hM' ?_)
      · unfold f_X11_before
        rw [c_leafIn hI oS hb hl, bnd_s]
        simp only [Sum.elim_inl]
        rw [gd_t sB]
        by_cases q4 : z < 0
        · rw [if_pos (by rw [wl_0, w_lt _ _ (by omega) (by omega) (by omega) (by omega)]; omega)]
        · rw [if_neg (by rw [wl_0, w_lt _ _ (by omega) (by omega) (by omega) (by omega)]; omega), if_pos (by rw [wl_1, w_lt _ _ (by omega) (by omega) (by omega) (by omega)]; omega)]
      · have hM1 := hM'.fr (code0 h').1.m
        unfold f_X12_before
        rw [lt_b, m_leafIn hM1 oS hb hl, bnd_s, if_pos rfl]
        by_cases q4 : z < 0
        · rw [if_pos (by rw [wl_0, w_lt _ _ (by omega) (by omega) (by omega) (by omega)]; omega), m_fail, bnd_s]
        · rw [if_neg (by rw [wl_0, w_lt _ _ (by omega) (by omega) (by omega) (by omega)]; omega), if_pos (by rw [wl_1, w_lt _ _ (by omega) (by omega) (by omega) (by omega)]; omega), m_fail, bnd_s]
  · refine TK_x (c := 1) oS hM (XCx_id (d := 0) hI ?_) (fun h1 => rfl) (by decide) (fun h' hM' => XM_fail 1 h' hM' ?_)
    · unfold f_X11_before
      rw [c_leafOut hI oS x y hn, bnd_s]
      rfl
    · unfold f_X12_before
      rw [lt_b, m_leafOut (hM'.fr (code0 h').1.m) oS x y hn, bnd_s, if_neg (by decide), m_fail, bnd_s]
end NXT
