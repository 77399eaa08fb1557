section ORM
variable {h : AH} {S : SV} {T b : Nat} {β : BV} {γ : GV} {a : LV}
/-- the row of the order holds s -/
def OS (h : AH) (n : Nat) (s : Nat → Int) : Prop := ∀ i, i < n → hia h 229 i = w32 (s i)
theorem m_lay0 (hB : BM h b β) (hb : b < 8) (oB : okB β) : ∃ h1, f_X12_lay (w32 b) (-1) (-1) h = some h1 ∧ Fr (fun c => c = 229) h h1 ∧ OS h1 (vL β) idn := by
  have o1 := oB.1
  obtain ⟨h1, e, f, z⟩ := loopR (fun n (s : Int32 × Int32 × AH) => f_X12_lay_l6 (w32 b) (-1) (-1) n s.1 s.2.1 s.2.2) (fun i s => s.1 = w32 (i : Nat) ∧ s.2.1 = w32 (i : Nat) ∧ Fr (fun c => c = 229) h s.2.2 ∧ OS s.2.2 i idn) (fun h1 => Fr (fun c => c = 229) h h1 ∧ OS h1 (vL β) idn) (vL β) (fun i n s hi hP => by
      obtain ⟨v4, v5, hh⟩ := s
      obtain ⟨p1, p2, p3, p4⟩ := hP
      dsimp only at p1 p2 p3 p4
      subst p1 p2
      have d1 := (hB.fr p3 (fun c h1 h2 h3 => by omega)).1
      refine ⟨(w32 (i + 1 : Nat), w32 (i + 1 : Nat), sia hh 229 i (w32 i)), ⟨rfl, rfl, p3.tr (Fr.sia _ _ _ _ rfl), fun j hj => ?_⟩, ?_⟩
      · show hia (sia hh 229 i (w32 i)) 229 j = _
        rw [ia_sia]
        by_cases q : j = i
        · rw [if_pos q, q]; rfl
        · rw [if_neg q]; exact p4 j (by omega)
      · show f_X12_lay_l6 (w32 b) (-1) (-1) (n + 1) (w32 i) (w32 i) hh = f_X12_lay_l6 (w32 b) (-1) (-1) n (w32 (i + 1 : Nat)) (w32 (i + 1 : Nat)) _
        rw [f_X12_lay_l6, gd_t (by rw [w_ibN _ _ (by omega)]; omega), w_clN b (by omega), d1, if_neg (by rw [w_le _ _ (by omega) (by omega) (by omega) (by omega)]; omega), if_neg (by rw [wl_1, w_neg]; exact ne_w (by omega) (by omega) (by omega) (by omega) (by omega)), if_neg (by rw [wl_1, w_neg]; exact ne_w (by omega) (by omega) (by omega) (by omega) (by omega)), gd_t (by rw [w_ibN _ _ (by omega)]; omega), lt_b, w_clN _ (by omega), wl_1, w_add, w_s]) (fun n s hP => by
      obtain ⟨v4, v5, hh⟩ := s
      obtain ⟨p1, p2, p3, p4⟩ := hP
      dsimp only at p1 p2 p3 p4
      subst p1 p2
      have d1 := (hB.fr p3 (fun c h1 h2 h3 => by omega)).1
      refine ⟨hh, ?_, p3, p4⟩
      show f_X12_lay_l6 (w32 b) (-1) (-1) (n + 1) _ (w32 (vL β)) hh = _
      rw [f_X12_lay_l6, gd_t (by rw [w_ibN _ _ (by omega)]; omega), w_clN b (by omega), d1, if_pos (Int32.le_refl _)]) FU (by unfold FU; omega) (0, 0, h) ⟨rfl, rfl, Fr.rf, fun j hj => by omega⟩
  refine ⟨h1, ?_, f, z⟩
  unfold f_X12_lay
  rw [show f_X12_lay_l6 (w32 b) (-1) (-1) FU 0 0 h = _ from e, bnd_s, if_pos rfl]
def cO (l i : Nat) : Nat := if i ≤ l then i else i - 1
def iO (p c : Nat) : Nat := if c ≤ p then c else c + 1
theorem m_lay (hB : BM h b β) (hb : b < 8) (oB : okB β) {l p : Nat} (hl : l < vL β) (hp : p < vL β) : ∃ h1, f_X12_lay (w32 b) (w32 l) (w32 p) h = some h1 ∧ Fr (fun c => c = 229) h h1 ∧ OS h1 (vL β) (ins (oth l) (l : Int) p) := by
  have o1 := oB.1
  obtain ⟨h1, e, f, z⟩ := loopR (fun n (s : Int32 × Int32 × AH) => f_X12_lay_l6 (w32 b) (w32 l) (w32 p) n s.1 s.2.1 s.2.2) (fun i s => s.1 = w32 (iO p (cO l i) : Nat) ∧ s.2.1 = w32 (i : Nat) ∧ Fr (fun c => c = 229) h s.2.2 ∧ ∀ j, j < iO p (cO l i) → j ≠ p → hia s.2.2 229 j = w32 (ins (oth l) (l : Int) p j)) (fun h1 => Fr (fun c => c = 229) h h1 ∧ ∀ j, j < iO p (cO l (vL β)) → j ≠ p → hia h1 229 j = w32 (ins (oth l) (l : Int) p j)) (vL β) (fun i n s hi hP => by
      obtain ⟨v4, v5, hh⟩ := s
      obtain ⟨p1, p2, p3, p4⟩ := hP
      dsimp only at p1 p2 p3 p4
      subst p1 p2
      have d1 := (hB.fr p3 (fun c h1 h2 h3 => by omega)).1
      have rI : iO p (cO l i) ≤ i + 1 := by unfold iO cO; split <;> split <;> omega
      by_cases q : i = l
      · have ec : cO l (i + 1) = cO l i := by unfold cO; rw [if_neg (by omega), if_pos (by omega)]; omega
        refine ⟨(w32 (iO p (cO l (i + 1)) : Nat), w32 (i + 1 : Nat), hh), ⟨rfl, rfl, p3, by rw [ec]; exact p4⟩, ?_⟩
        show f_X12_lay_l6 (w32 b) (w32 l) (w32 p) (n + 1) (w32 (iO p (cO l i) : Nat)) (w32 i) hh = f_X12_lay_l6 (w32 b) (w32 l) (w32 p) n _ _ hh
        rw [f_X12_lay_l6, gd_t (by rw [w_ibN _ _ (by omega)]; omega), w_clN b (by omega), d1, if_neg (by rw [w_le _ _ (by omega) (by omega) (by omega) (by omega)]; omega), if_pos (by rw [q]), wl_1, w_add, w_s, ec]
      · have oc : oth l (cO l i) = (i : Int) := by
          unfold oth cO
          by_cases q2 : i ≤ l
          · rw [if_pos q2, if_pos (by omega)]
          · rw [if_neg q2, if_neg (by omega)]; omega
        have ec : cO l (i + 1) = cO l i + 1 := by
          unfold cO
          by_cases q2 : i < l
          · rw [if_pos (by omega), if_pos (by omega)]
          · rw [if_neg (by omega), if_neg (by omega)]; omega
        have rc : cO l i < vL β - 1 := by unfold cO; split <;> omega
        by_cases q3 : cO l i = p
        · have e1 : iO p (cO l i) = p := by unfold iO; rw [if_pos (by omega)]; exact q3
          have e2 : iO p (cO l (i + 1)) = p + 2 := by unfold iO; rw [ec, if_neg (by omega)]; omega
          refine ⟨(w32 (iO p (cO l (i + 1)) : Nat), w32 (i + 1 : Nat), sia hh 229 (p + 1) (w32 i)), ⟨rfl, rfl, p3.tr (Fr.sia _ _ _ _ rfl), fun j hj hne => ?_⟩, ?_⟩
          · rw [e2] at hj
            show hia (sia hh 229 (p + 1) (w32 i)) 229 j = _
            rw [ia_sia]
            by_cases q4 : j = p + 1
            · rw [if_pos q4, q4]; unfold ins; rw [if_neg (by omega), if_neg (by omega), show p + 1 - 1 = p by omega, ← q3, oc]
            · rw [if_neg q4]; exact p4 j (by rw [e1]; omega) hne
          · show f_X12_lay_l6 (w32 b) (w32 l) (w32 p) (n + 1) (w32 (iO p (cO l i) : Nat)) (w32 i) hh = f_X12_lay_l6 (w32 b) (w32 l) (w32 p) n _ _ _
            rw [f_X12_lay_l6, gd_t (by rw [w_ibN _ _ (by omega)]; omega), w_clN b (by omega), d1, if_neg (by rw [w_le _ _ (by omega) (by omega) (by omega) (by omega)]; omega), if_neg (by rw [w_eq _ _ (by omega) (by omega) (by omega) (by omega)]; omega), e1, if_pos rfl, wl_1, w_add, w_add, w_add, w_s, w_s, show (p : Int) + 1 + 1 = ((p + 2 : Nat) : Int) by omega, gd_t (by rw [w_ibN _ _ (by omega)]; omega), lt_b, w_clN _ (by omega), e2]
        · have e1 : iO p (cO l i) ≠ p := by unfold iO; split <;> omega
          have e2 : iO p (cO l (i + 1)) = iO p (cO l i) + 1 := by unfold iO; rw [ec]; split <;> split <;> omega
          have e3 : ins (oth l) (l : Int) p (iO p (cO l i)) = (i : Int) := by
            unfold ins iO
            by_cases q4 : cO l i ≤ p
            · rw [if_pos q4, if_pos (by omega), oc]
            · rw [if_neg q4, if_neg (by omega), if_neg (by omega), show cO l i + 1 - 1 = cO l i by omega, oc]
          have e4 : iO p (cO l i) < 40 := by unfold iO; split <;> omega
          refine ⟨(w32 (iO p (cO l (i + 1)) : Nat), w32 (i + 1 : Nat), sia hh 229 (iO p (cO l i)) (w32 i)), ⟨rfl, rfl, p3.tr (Fr.sia _ _ _ _ rfl), fun j hj hne => ?_⟩, ?_⟩
          · rw [e2] at hj
            show hia (sia hh 229 (iO p (cO l i)) (w32 i)) 229 j = _
            rw [ia_sia]
            by_cases q4 : j = iO p (cO l i)
            · rw [if_pos q4, q4, e3]
            · rw [if_neg q4]; exact p4 j (by omega) hne
          · show f_X12_lay_l6 (w32 b) (w32 l) (w32 p) (n + 1) (w32 (iO p (cO l i) : Nat)) (w32 i) hh = f_X12_lay_l6 (w32 b) (w32 l) (w32 p) n _ _ _
            rw [f_X12_lay_l6, gd_t (by rw [w_ibN _ _ (by omega)]; omega), w_clN b (by omega), d1, if_neg (by rw [w_le _ _ (by omega) (by omega) (by omega) (by omega)]; omega), if_neg (by rw [w_eq _ _ (by omega) (by omega) (by omega) (by omega)]; omega), if_neg (by rw [w_eq _ _ (by omega) (by omega) (by omega) (by omega)]; omega), gd_t (by rw [w_ibN _ _ (by omega)]; omega), lt_b, w_clN _ (by omega), wl_1, w_add, w_add, w_s, w_s, e2]) (fun n s hP => by
      obtain ⟨v4, v5, hh⟩ := s
      obtain ⟨p1, p2, p3, p4⟩ := hP
      dsimp only at p1 p2 p3 p4
      subst p1 p2
      have d1 := (hB.fr p3 (fun c h1 h2 h3 => by omega)).1
      refine ⟨hh, ?_, p3, p4⟩
      show f_X12_lay_l6 (w32 b) (w32 l) (w32 p) (n + 1) _ (w32 (vL β)) hh = _
      rw [f_X12_lay_l6, gd_t (by rw [w_ibN _ _ (by omega)]; omega), w_clN b (by omega), d1, if_pos (Int32.le_refl _)]) FU (by unfold FU; omega) (0, 0, h) ⟨by rw [show iO p (cO l 0) = 0 from by unfold iO cO; rw [if_pos (show 0 ≤ l by omega), if_pos (show 0 ≤ p by omega)]]; rfl, rfl, Fr.rf, fun j hj => by rw [show iO p (cO l 0) = 0 from by unfold iO cO; rw [if_pos (show 0 ≤ l by omega), if_pos (show 0 ≤ p by omega)]] at hj; omega⟩
  refine ⟨sia h1 229 p (w32 l), ?_, f.tr (Fr.sia _ _ _ _ rfl), fun j hj => ?_⟩
  · unfold f_X12_lay
    rw [show f_X12_lay_l6 (w32 b) (w32 l) (w32 p) FU 0 0 h = _ from e, bnd_s, if_neg (by rw [wl_1, w_neg]; exact ne_w (by omega) (by omega) (by omega) (by omega) (by omega)), gd_t (by rw [w_ibN _ _ (by omega)]; omega), lt_b, w_clN _ (by omega)]
  · rw [ia_sia]
    by_cases q : j = p
    · rw [if_pos q, q]; unfold ins; rw [if_neg (by omega), if_pos rfl]
    · rw [if_neg q]
      have ec : cO l (vL β) = vL β - 1 := by unfold cO; rw [if_neg (by omega)]
      exact z j (by rw [ec]; unfold iO; split <;> omega) q
theorem MK.f229 {h' : AH} (hM : MK h b β γ a) (hF : Fr (fun c => c = 229) h h') : MK h' b β γ a := by
  obtain ⟨h1, h2, h3, h4⟩ := hM
  refine ⟨h1.fr hF (fun c _ _ _ => by omega), fun l hl => ?_, h3.fr hF (by omega), h4⟩
  rw [(hF 208 (by omega)).2.2.1, (hF 209 (by omega)).2.2.1]
  exact h2 l hl
theorem m_want (hM : MK h b β γ a) (hk : kn β γ) {s : Nat → Int} (hO : OS h (vL β) s) (hs : ∀ i, i < vL β → 0 ≤ s i ∧ s i < vL β) : f_X12_want (w32 b) h = some (w64 (Wq (lkZ β γ a) s (vL β))) := by
  obtain ⟨hB, hG, hL, oB, oG, oL, hb⟩ := id hM
  have e1 := hB.1
  have o1 := oB.1
  have lp : f_X12_want_l5 (w32 b) h FU 0 0 = some (w64 (Wq (lkZ β γ a) s (vL β))) := loopN (fun n (t : Int64 × Int32) => f_X12_want_l5 (w32 b) h n t.1 t.2) (fun i => (w64 (Wq (lkZ β γ a) s i), w32 (i : Nat))) (vL β) _ (fun i n hi => by
      obtain ⟨l, el, -⟩ := nat_of (z := s i) (n := 40) (by have := hs i hi; omega)
      have hl : l < vL β := by have := hs i hi; omega
      have d9 := hO i hi
      have fin : ∀ p : Option Nat, (∀ q, p = some q → q < vL β ∧ rd γ q) → lkZ β γ a (pv s i) (s i) = lkN β γ a p l → bnd (f_X12_undoneHigh (w32 b) (w32 l) (w32 (pI p)) h) (fun q7 => f_X12_want_l5 (w32 b) h n (w64 (Wq (lkZ β γ a) s i) + ((f_J9_max_7cf53 0 (-q7)).toInt64)) (w32 i + 1)) = f_X12_want_l5 (w32 b) h n (w64 (Wq (lkZ β γ a) s (i + 1))) (w32 (i + 1 : Nat)) := by
        intro p hp ep
        have rr := sUL_rg oB oG oL hl (hk.2 l hl) p hp
        rw [m_uH hM hl (hk.2 l hl) p hp, bnd_s, w_neg, show f_J9_max_7cf53 0 (w32 (-(sUH β γ a l p))) = _ from e_max 0 _ (by omega) (by omega) (by omega) (by omega), w_l _ (by omega) (by omega), v_add, wl_1, w_add, w_s, Wq_s, ep]
        rfl
      show f_X12_want_l5 (w32 b) h (n + 1) (w64 (Wq (lkZ β γ a) s i)) (w32 i) = f_X12_want_l5 (w32 b) h n (w64 (Wq (lkZ β γ a) s (i + 1))) (w32 (i + 1 : Nat))
      rw [f_X12_want_l5, gd_t (by rw [w_ibN _ _ (by omega)]; omega), w_clN b (by omega), e1, if_neg (by rw [w_le _ _ (by omega) (by omega) (by omega) (by omega)]; omega), gd_t (by rw [w_ibN _ _ (by omega)]; omega), w_clN i (by omega), d9, el]
      by_cases q : i = 0
      · rw [if_pos (by rw [q]; rfl)]
        exact fin none (fun q e => by cases e) (by unfold lkZ; rw [el, rI_in l hl]; dsimp only; rw [show pv s i = -1 from if_pos q, rI_out (by omega)])
      · obtain ⟨m, em, -⟩ := nat_of (z := s (i - 1)) (n := 40) (by have := hs (i - 1) (by omega); omega)
        have hm : m < vL β := by have := hs (i - 1) (by omega); omega
        rw [if_neg (by rw [wl_0]; exact ne_w (by omega) (by omega) (by omega) (by omega) (by omega)), show w32 (i : Int) - 1 = w32 ((i - 1 : Nat) : Int) from by rw [wl_1, w_sub]; exact ww (by omega), gd_t (by rw [w_ibN _ _ (by omega)]; omega), w_clN (i - 1) (by omega), hO (i - 1) (by omega), em]
        exact fin (some m) (fun q e => by cases e; exact ⟨hm, hk.2 m hm⟩) (by unfold lkZ; rw [el, rI_in l hl]; dsimp only; rw [show pv s i = (m : Int) from (if_neg q).trans em, rI_in m hm])) (fun n => by
      show f_X12_want_l5 (w32 b) h (n + 1) _ (w32 (vL β)) = _
      rw [f_X12_want_l5, gd_t (by rw [w_ibN _ _ (by omega)]; omega), w_clN b (by omega), e1, if_pos (Int32.le_refl _)]) FU (by unfold FU; omega)
  unfold f_X12_want
  rw [lp, bnd_s]
theorem ins_rg {n l p : Nat} (hl : l < n) (hp : p < n) (i : Nat) (hi : i < n) : 0 ≤ ins (oth l) (l : Int) p i ∧ ins (oth l) (l : Int) p i < n := by
  unfold ins oth
  by_cases q1 : i < p
  · rw [if_pos q1]; split <;> omega
  · rw [if_neg q1]
    by_cases q2 : i = p
    · rw [if_pos q2]; omega
    · rw [if_neg q2]; split <;> omega
theorem m_order71 (hM : MK h b β γ a) (hk : kn β γ) {l : Nat} (hl : l < vL β) {p : Int × Int × Int} (hp : mOK β γ a p) : ∃ h1, f_X12_order_l71 (w32 b) (w32 l) FU (w64 p.1) (w32 p.2.1) (w32 p.2.2) 0 h = some (w64 (fI (Vq (lkZ β γ a) (vL β)) l p (vL β)).1, w32 (fI (Vq (lkZ β γ a) (vL β)) l p (vL β)).2.1, w32 (fI (Vq (lkZ β γ a) (vL β)) l p (vL β)).2.2, h1) ∧ Fr (fun c => c = 229) h h1 := by
  obtain ⟨hB, hG, hL, oB, oG, oL, hb⟩ := id hM
  have o1 := oB.1
  have rW := Wq_rg oB oG oL hk idn (vL β) o1
  obtain ⟨⟨r1, r2, r3, h1⟩, e, q⟩ := loopR (fun k (t : Int64 × Int32 × Int32 × Int32 × AH) => f_X12_order_l71 (w32 b) (w32 l) k t.1 t.2.1 t.2.2.1 t.2.2.2.1 t.2.2.2.2) (fun i t => t.1 = w64 (fI (Vq (lkZ β γ a) (vL β)) l p i).1 ∧ t.2.1 = w32 (fI (Vq (lkZ β γ a) (vL β)) l p i).2.1 ∧ t.2.2.1 = w32 (fI (Vq (lkZ β γ a) (vL β)) l p i).2.2 ∧ t.2.2.2.1 = w32 (i : Nat) ∧ Fr (fun c => c = 229) h t.2.2.2.2) (fun t => t.1 = w64 (fI (Vq (lkZ β γ a) (vL β)) l p (vL β)).1 ∧ t.2.1 = w32 (fI (Vq (lkZ β γ a) (vL β)) l p (vL β)).2.1 ∧ t.2.2.1 = w32 (fI (Vq (lkZ β γ a) (vL β)) l p (vL β)).2.2 ∧ Fr (fun c => c = 229) h t.2.2.2) (vL β) (fun i k t hi hQ => by
      obtain ⟨v5, v7, v8, v10, hh⟩ := t
      obtain ⟨p1, p2, p3, p4, p5⟩ := hQ
      dsimp only at p1 p2 p3 p4 p5
      subst p1 p2 p3 p4
      have hM2 := hM.f229 p5
      have d1 := hM2.1.1
      obtain ⟨h2, e2, f2, z2⟩ := m_lay hM2.1 hb oB hl hi
      have mw := m_want (hM2.f229 f2) hk z2 (fun j hj => ins_rg hl hi j hj)
      have ok := fI_mok oB oG oL hk hl hp i (by omega)
      have rv : 0 ≤ Vq (lkZ β γ a) (vL β) l i ∧ Vq (lkZ β γ a) (vL β) l i ≤ 40041920 := Wq_rg oB oG oL hk (ins (oth l) (l : Int) i) (vL β) o1
      have mw : f_X12_want (w32 b) h2 = some (w64 (Vq (lkZ β γ a) (vL β) l i)) := mw
      unfold mOK at ok
      refine ⟨(w64 (fI (Vq (lkZ β γ a) (vL β)) l p (i + 1)).1, w32 (fI (Vq (lkZ β γ a) (vL β)) l p (i + 1)).2.1, w32 (fI (Vq (lkZ β γ a) (vL β)) l p (i + 1)).2.2, w32 (i + 1 : Nat), h2), ⟨rfl, rfl, rfl, rfl, p5.tr f2⟩, ?_⟩
      show f_X12_order_l71 (w32 b) (w32 l) (k + 1) (w64 (fI (Vq (lkZ β γ a) (vL β)) l p i).1) (w32 (fI (Vq (lkZ β γ a) (vL β)) l p i).2.1) (w32 (fI (Vq (lkZ β γ a) (vL β)) l p i).2.2) (w32 i) hh = f_X12_order_l71 (w32 b) (w32 l) k (w64 (fI (Vq (lkZ β γ a) (vL β)) l p (i + 1)).1) (w32 (fI (Vq (lkZ β γ a) (vL β)) l p (i + 1)).2.1) (w32 (fI (Vq (lkZ β γ a) (vL β)) l p (i + 1)).2.2) (w32 (i + 1 : Nat)) h2
      rw [f_X12_order_l71, gd_t (by rw [w_ibN _ _ (by omega)]; omega), w_clN b (by omega), d1, if_neg (by rw [w_le _ _ (by omega) (by omega) (by omega) (by omega)]; omega), e2, bnd_s, mw, bnd_s]
      simp (disch := omega) only [c_lt, wl_1, w_add, w_s]
      rw [fI_s]
      by_cases q : Vq (lkZ β γ a) (vL β) l i < (fI (Vq (lkZ β γ a) (vL β)) l p i).1
      · rw [if_pos q, if_pos q]
      · rw [if_neg q, if_neg q]) (fun k t hQ => by
      obtain ⟨v5, v7, v8, v10, hh⟩ := t
      obtain ⟨p1, p2, p3, p4, p5⟩ := hQ
      dsimp only at p1 p2 p3 p4 p5
      subst p1 p2 p3 p4
      have d1 := (hM.f229 p5).1.1
      refine ⟨(w64 (fI (Vq (lkZ β γ a) (vL β)) l p (vL β)).1, w32 (fI (Vq (lkZ β γ a) (vL β)) l p (vL β)).2.1, w32 (fI (Vq (lkZ β γ a) (vL β)) l p (vL β)).2.2, hh), ?_, rfl, rfl, rfl, p5⟩
      show f_X12_order_l71 (w32 b) (w32 l) (k + 1) _ _ _ (w32 (vL β)) hh = _
      rw [f_X12_order_l71, gd_t (by rw [w_ibN _ _ (by omega)]; omega), w_clN b (by omega), d1, if_pos (Int32.le_refl _)]) FU (by unfold FU; omega) (w64 p.1, w32 p.2.1, w32 p.2.2, 0, h) ⟨rfl, rfl, rfl, rfl, Fr.rf⟩
  obtain ⟨q1, q2, q3, q4⟩ := q
  dsimp only at q1 q2 q3 q4
  subst q1 q2 q3
  exact ⟨h1, e, q4⟩
theorem m_order53 (hM : MK h b β γ a) (hk : kn β γ) {z : Int} (hz : 1 ≤ z) (hz2 : z ≤ 3) {P : Int × Int × Int} (hP : P = mO (Vq (lkZ β γ a) (vL β)) (Wq (lkZ β γ a) idn (vL β)) (vL β) (vL β)) : ∃ h1, f_X12_order_l53 (w32 b) (w32 z) FU (w64 (Wq (lkZ β γ a) idn (vL β))) (-1) (-1) 0 h = some (w64 P.1, w32 P.2.1, w32 P.2.2, h1) ∧ Fr (fun c => c = 229) h h1 := by
  obtain ⟨hB, hG, hL, oB, oG, oL, hb⟩ := id hM
  have o1 := oB.1
  generalize hm : mO (Vq (lkZ β γ a) (vL β)) (Wq (lkZ β γ a) idn (vL β)) (vL β) = mm at hP
  have m0 : mm 0 = (Wq (lkZ β γ a) idn (vL β), -1, -1) := by rw [← hm]; rfl
  have ms : ∀ i, mm (i + 1) = fI (Vq (lkZ β γ a) (vL β)) i (mm i) (vL β) := fun i => by rw [← hm]; rfl
  have mk : ∀ i, i ≤ vL β → mOK β γ a (mm i) := fun i hi => by rw [← hm]; exact mO_ok oB oG oL hk i hi
  obtain ⟨⟨r1, r2, r3, h1⟩, e, q⟩ := loopR (fun k (t : Int64 × Int32 × Int32 × Int32 × AH) => f_X12_order_l53 (w32 b) (w32 z) k t.1 t.2.1 t.2.2.1 t.2.2.2.1 t.2.2.2.2) (fun i t => t.1 = w64 (mm i).1 ∧ t.2.1 = w32 (mm i).2.1 ∧ t.2.2.1 = w32 (mm i).2.2 ∧ t.2.2.2.1 = w32 (i : Nat) ∧ Fr (fun c => c = 229) h t.2.2.2.2) (fun t => t.1 = w64 P.1 ∧ t.2.1 = w32 P.2.1 ∧ t.2.2.1 = w32 P.2.2 ∧ Fr (fun c => c = 229) h t.2.2.2) (vL β) (fun i k t hi hQ => by
      obtain ⟨v5, v7, v8, v9, hh⟩ := t
      obtain ⟨p1, p2, p3, p4, p5⟩ := hQ
      dsimp only at p1 p2 p3 p4 p5
      subst p1 p2 p3 p4
      have hM2 := hM.f229 p5
      have d1 := hM2.1.1
      obtain ⟨h2, e2, f2⟩ := m_order71 hM2 hk hi (mk i (by omega))
      refine ⟨(w64 (mm (i + 1)).1, w32 (mm (i + 1)).2.1, w32 (mm (i + 1)).2.2, w32 (i + 1 : Nat), h2), ⟨rfl, rfl, rfl, rfl, p5.tr f2⟩, ?_⟩
      show f_X12_order_l53 (w32 b) (w32 z) (k + 1) (w64 (mm i).1) (w32 (mm i).2.1) (w32 (mm i).2.2) (w32 i) hh = f_X12_order_l53 (w32 b) (w32 z) k (w64 (mm (i + 1)).1) (w32 (mm (i + 1)).2.1) (w32 (mm (i + 1)).2.2) (w32 (i + 1 : Nat)) h2
      rw [f_X12_order_l53, gd_t (by rw [w_ibN _ _ (by omega)]; omega), w_clN b (by omega), d1, if_neg (by rw [w_le _ _ (by omega) (by omega) (by omega) (by omega)]; omega), if_neg (by rw [wl_0, w_le _ _ (by omega) (by omega) (by omega) (by omega)]; omega), e2, bnd_s, ms, wl_1, w_add, w_s]) (fun k t hQ => by
      obtain ⟨v5, v7, v8, v9, hh⟩ := t
      obtain ⟨p1, p2, p3, p4, p5⟩ := hQ
      dsimp only at p1 p2 p3 p4 p5
      subst p1 p2 p3 p4
      have d1 := (hM.f229 p5).1.1
      refine ⟨(w64 P.1, w32 P.2.1, w32 P.2.2, hh), ?_, rfl, rfl, rfl, p5⟩
      show f_X12_order_l53 (w32 b) (w32 z) (k + 1) _ _ _ (w32 (vL β)) hh = _
      rw [f_X12_order_l53, gd_t (by rw [w_ibN _ _ (by omega)]; omega), w_clN b (by omega), d1, if_pos (Int32.le_refl _), hP]) FU (by unfold FU; omega) (w64 (Wq (lkZ β γ a) idn (vL β)), -1, -1, 0, h) ⟨by rw [m0], by rw [m0]; rfl, by rw [m0]; rfl, rfl, Fr.rf⟩
  obtain ⟨q1, q2, q3, q4⟩ := q
  dsimp only at q1 q2 q3 q4
  subst q1 q2 q3
  exact ⟨h1, e, q4⟩
theorem W229 {h' : AH} (hF : Fr (fun c => c = 229) h h') : FrQ h h' := ⟨hF.mono (fun c q => by unfold WQ; omega), fun k _ => by rw [(hF 193 (by omega)).1]⟩
theorem q_order (x y : Int32) (hI : CI h S) (oS : okS S) : ∃ s, RC (f_X11_order x y h) h s ∧ ∀ h', MI2 h' S T → RM (f_X12_order x y h') h' s := by
  refine q_asked x hI oS _ _ (fun b hb hx hk h1 f1 hI1 u1 => ?_)
  subst hx
  have o := oS.1 b hb
  have oL := oS.2.1
  obtain ⟨hC, hA⟩ := hI1.ck oS hb
  have isX := (hI1.1.1 b hb).1
  have hr := hI1.1.2.2.2.2.1
  have sL := isLw_sh hr
  have o1 := o.1.1
  have rW := Wq_rg o.1 o.2.1 oL hk idn (vL (xb S b)) o1
  obtain ⟨h2, e2, f2, hO⟩ := k_ofill hC isX hr hk
  have F2 : Fr WS h1 h2 := f2.mono (fun c q => by unfold WS; omega)
  obtain ⟨h3, e3, f3, g0, g1, g2⟩ := k_find hO o.1 o.2.1 oL hk rfl
  have F3 : Fr WS h1 h3 := F2.tr (f3.mono (fun c q => by unfold WS; omega))
  have ok := mO_ok o.1 o.2.1 oL hk (vL (xb S b)) (Nat.le_refl _)
  have mfull : ∀ h', MI2 h' S T → ∃ h4, f_X12_lay (w32 b) (-1) (-1) h' = some h4 ∧ Fr (fun c => c = 229) h' h4 ∧ f_X12_want (w32 b) h4 = some (w64 (Wq (lkZ (xb S b) (xg S b) (xa S)) idn (vL (xb S b)))) ∧ MK h4 b (xb S b) (xg S b) (xa S) := by
    intro h' hM
    have hMK := hM.mk oS hb
    obtain ⟨h4, e4, f4, z4⟩ := m_lay0 hMK.1 (by omega) o.1
    exact ⟨h4, e4, f4, m_want (hMK.f229 f4) hk z4 (fun i hi => by unfold idn; omega), hMK.f229 f4⟩
  have m53 : ∀ (h4 : AH) (z : Int), MK h4 b (xb S b) (xg S b) (xa S) → 1 ≤ z → z ≤ 3 → _ := fun h4 z hM hz hz2 => m_order53 hM hk hz hz2 rfl
  generalize mO (Vq (lkZ (xb S b) (xg S b) (xa S)) (vL (xb S b))) (Wq (lkZ (xb S b) (xg S b) (xa S)) idn (vL (xb S b))) (vL (xb S b)) (vL (xb S b)) = P at *
  unfold mOK at ok
  obtain ⟨z, rfl, r1, r2⟩ := w_ex y
  have m0 : (0 ≤ z ∧ z ≤ 3) → f_X12_isIn (w32 z) 0 3 = true := fun q => by rw [wl_0, wl_3, e_isIn _ _ _ (by omega) (by omega) (by omega) (by omega) (by omega) (by omega), decide_eq_true q]
  rcases (show z = 0 ∨ z = 1 ∨ z = 2 ∨ z = 3 ∨ ¬ (0 ≤ z ∧ z ≤ 3) by omega) with rfl | rfl | rfl | rfl | q
  · refine ⟨some (Wq (lkZ (xb S b) (xg S b) (xa S)) idn (vL (xb S b))), RC_some F2 ?_, fun h' hM hc => ?_⟩
    · try dsimp only
      rw [gd_t sL, e2, bnd_s, if_pos (by decide), k_want hO o.1 o.2.1 oL hk, bnd_s]
    · obtain ⟨h4, e4, f4, w4, hM4⟩ := mfull h' hM
      refine RM_some (W229 f4) ?_ (by rw [(f4 193 (by omega)).1]; exact hc)
      have l53 : f_X12_order_l53 (w32 b) (w32 0) FU (w64 (Wq (lkZ (xb S b) (xg S b) (xa S)) idn (vL (xb S b)))) (-1) (-1) 0 h4 = some (w64 (Wq (lkZ (xb S b) (xg S b) (xa S)) idn (vL (xb S b))), -1, -1, h4) := by
        show f_X12_order_l53 (w32 b) (w32 0) (999 + 1) _ _ _ (w32 (0 : Nat)) h4 = _
        have k0 := hk.1
        rw [f_X12_order_l53, gd_t (by rw [w_ibN _ _ (by omega)]; omega), w_clN b (by omega), hM4.1.1, if_neg (by rw [w_le _ _ (by omega) (by omega) (by omega) (by omega)]; omega), if_pos (by decide)]
      try dsimp only
      rw [m0 (by omega), if_pos rfl, e4, bnd_s, w4, bnd_s, l53, bnd_s, if_pos (by decide), v_i _ (by omega) (by omega)]
  · refine ⟨some P.2.1, RC_some F3 ?_, fun h' hM hc => ?_⟩
    · try dsimp only
      rw [gd_t sL, e2, bnd_s, if_neg (by decide), e3, bnd_s, if_pos (by decide), g0]
    · obtain ⟨h4, e4, f4, w4, hM4⟩ := mfull h' hM
      obtain ⟨h5, e5, f5⟩ := m53 h4 1 hM4 (by omega) (by omega)
      refine RM_some (W229 (f4.tr f5)) ?_ (by rw [((f4.tr f5) 193 (by omega)).1]; exact hc)
      try dsimp only
      rw [m0 (by omega), if_pos rfl, e4, bnd_s, w4, bnd_s, e5, bnd_s, if_neg (by decide), if_pos (by decide)]
  · refine ⟨some P.2.2, RC_some F3 ?_, fun h' hM hc => ?_⟩
    · try dsimp only
      rw [gd_t sL, e2, bnd_s, if_neg (by decide), e3, bnd_s, if_neg (by decide), if_pos (by decide), g1]
    · obtain ⟨h4, e4, f4, w4, hM4⟩ := mfull h' hM
      obtain ⟨h5, e5, f5⟩ := m53 h4 2 hM4 (by omega) (by omega)
      refine RM_some (W229 (f4.tr f5)) ?_ (by rw [((f4.tr f5) 193 (by omega)).1]; exact hc)
      try dsimp only
      rw [m0 (by omega), if_pos rfl, e4, bnd_s, w4, bnd_s, e5, bnd_s, if_neg (by decide), if_neg (by decide), if_pos (by decide)]
  · refine ⟨some (if P.2.1 = -1 then -1 else P.1), RC_some F3 ?_, fun h' hM hc => ?_⟩
    · try dsimp only
      rw [gd_t sL, e2, bnd_s, if_neg (by decide), e3, bnd_s, if_neg (by decide), if_neg (by decide), if_pos (by decide), g2]
    · obtain ⟨h4, e4, f4, w4, hM4⟩ := mfull h' hM
      obtain ⟨h5, e5, f5⟩ := m53 h4 3 hM4 (by omega) (by omega)
      refine RM_some (W229 (f4.tr f5)) ?_ (by rw [((f4.tr f5) 193 (by omega)).1]; exact hc)
      try dsimp only
      rw [m0 (by omega), if_pos rfl, e4, bnd_s, w4, bnd_s, e5, bnd_s, if_neg (by decide), if_neg (by decide), if_neg (by decide)]
      dsimp only
      by_cases zz : P.2.1 = -1
      · rw [if_pos (by rw [zz]; rfl), if_pos zz]; rfl
      · rw [if_neg (by rw [wl_1, w_neg]; exact ne_w (by omega) (by omega) (by omega) (by omega) zz), if_neg zz, v_i _ (by omega) (by omega)]
  · refine ⟨none, RC_none F3 ?_, fun h' hM hc => RM_fail FrQ.rf ?_⟩
    · try dsimp only
      rw [gd_t sL, e2, bnd_s, wl_0, wl_1, wl_2, wl_3, if_neg (ne_w r1 r2 (by omega) (by omega) (by omega)), e3, bnd_s, if_neg (ne_w r1 r2 (by omega) (by omega) (by omega)), if_neg (ne_w r1 r2 (by omega) (by omega) (by omega)), if_neg (ne_w r1 r2 (by omega) (by omega) (by omega))]
    · try dsimp only
      rw [show f_X12_isIn (w32 z) 0 3 = false from by rw [wl_0, wl_3, e_isIn _ _ _ (by omega) (by omega) (by omega) (by omega) (by omega) (by omega), decide_eq_false q], if_neg (by decide), m_fail, bnd_s]
end ORM
