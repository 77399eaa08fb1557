/-! a book copied -/
section CPY
variable {h : AH} {S : SV} {T b f t : Nat} {β : BV} {γ : GV} {a : LV}
def WB (c : Nat) : Prop := 196 ≤ c ∧ c ≤ 214
theorem m_copy62 (hf : f < 8) (ht : t < 8) (hne : f ≠ t) : ∃ h1, f_X12_copyBook_l62 (w32 f) (w32 t) FU 0 h = some h1 ∧ Fr WB h h1 ∧ FrN t h h1 ∧ (∀ r, (196 ≤ r ∧ r ≤ 200) ∨ (210 ≤ r ∧ r ≤ 214) → hia h1 r = hia h r) ∧ ∀ l, l < 40 → (∀ r, 202 ≤ r → r ≤ 207 → hia h1 r (40 * t + l) = hia h r (40 * f + l)) ∧ hia h1 208 (40 * t + l) = -1 :=
  loopR (fun n (s : Int32 × AH) => f_X12_copyBook_l62 (w32 f) (w32 t) n s.1 s.2) (fun i s => s.1 = w32 (i : Nat) ∧ Fr WB h s.2 ∧ FrN t h s.2 ∧ (∀ r, (196 ≤ r ∧ r ≤ 200) ∨ (210 ≤ r ∧ r ≤ 214) → hia s.2 r = hia h r) ∧ ∀ l, l < i → (∀ r, 202 ≤ r → r ≤ 207 → hia s.2 r (40 * t + l) = hia h r (40 * f + l)) ∧ hia s.2 208 (40 * t + l) = -1) (fun h1 => Fr WB h h1 ∧ FrN t h h1 ∧ (∀ r, (196 ≤ r ∧ r ≤ 200) ∨ (210 ≤ r ∧ r ≤ 214) → hia h1 r = hia h r) ∧ ∀ l, l < 40 → (∀ r, 202 ≤ r → r ≤ 207 → hia h1 r (40 * t + l) = hia h r (40 * f + l)) ∧ hia h1 208 (40 * t + l) = -1) 40 (fun i n s hi hP => by
      obtain ⟨v3, hh⟩ := s
      obtain ⟨p1, p2, p3, p4, p5⟩ := hP
      dsimp only at p1 p2 p3 p4 p5
      subst p1
      have iba : ib (f_X12_at (w32 f) (w32 i)) 320 = true := by rw [e_at, w_ibN _ _ (by omega)]; omega
      have cla : cl (f_X12_at (w32 f) (w32 i)) = 40 * f + i := by rw [e_at, w_clN _ (by omega)]
      have ibt : ib (f_X12_at (w32 t) (w32 i)) 320 = true := by rw [e_at, w_ibN _ _ (by omega)]; omega
      have clt : cl (f_X12_at (w32 t) (w32 i)) = 40 * t + i := by rw [e_at, w_clN _ (by omega)]
      have src : ∀ r, 202 ≤ r → r ≤ 207 → hia hh r (40 * f + i) = hia h r (40 * f + i) := fun r h1 h2 => p3.2.1.2.1 r (by omega) (by omega) f i hne hi
      refine ⟨(w32 (i + 1 : Nat), sia (sia (sia (sia (sia (sia (sia hh 202 (40 * t + i) (hia h 202 (40 * f + i))) 203 (40 * t + i) (hia h 203 (40 * f + i))) 204 (40 * t + i) (hia h 204 (40 * f + i))) 205 (40 * t + i) (hia h 205 (40 * f + i))) 206 (40 * t + i) (hia h 206 (40 * f + i))) 207 (40 * t + i) (hia h 207 (40 * f + i))) 208 (40 * t + i) (-1)), ⟨rfl, ?_, ?_, ?_, ?_⟩, ?_⟩
      · exact (((((((p2.tr (Fr.sia _ _ _ _ (by unfold WB; omega))).tr (Fr.sia _ _ _ _ (by unfold WB; omega))).tr (Fr.sia _ _ _ _ (by unfold WB; omega))).tr (Fr.sia _ _ _ _ (by unfold WB; omega))).tr (Fr.sia _ _ _ _ (by unfold WB; omega))).tr (Fr.sia _ _ _ _ (by unfold WB; omega))).tr (Fr.sia _ _ _ _ (by unfold WB; omega)))
      · exact (((((((p3.tr (FrN.w _ _ _ _ _ (by omega))).tr (FrN.w _ _ _ _ _ (by omega))).tr (FrN.w _ _ _ _ _ (by omega))).tr (FrN.w _ _ _ _ _ (by omega))).tr (FrN.w _ _ _ _ _ (by omega))).tr (FrN.w _ _ _ _ _ (by omega))).tr (FrN.w _ _ _ _ _ (by omega)))
      · intro r hr
        simp (disch := omega) only [ia_sia_ne]
        exact p4 r hr
      · intro l hl
        refine ⟨fun r h1 h2 => ?_, ?_⟩
        · dsimp only
          by_cases q : l = i
          · subst q
            rcases (show r = 202 ∨ r = 203 ∨ r = 204 ∨ r = 205 ∨ r = 206 ∨ r = 207 by omega) with rfl | rfl | rfl | rfl | rfl | rfl <;> simp (disch := omega) only [ia_sia_ne, ia_sia_eq]
          · simp (disch := omega) only [ia_any]
            rw [if_neg (by omega), if_neg (by omega), if_neg (by omega), if_neg (by omega), if_neg (by omega), if_neg (by omega), if_neg (by omega)]
            exact (p5 l (by omega)).1 r h1 h2
        · dsimp only
          by_cases q : l = i
          · subst q
            rw [ia_sia_eq]
          · rw [ia_sia_nk _ _ _ _ _ (by omega)]
            simp (disch := omega) only [ia_sia_ne]
            exact (p5 l (by omega)).2
      · show f_X12_copyBook_l62 (w32 f) (w32 t) (n + 1) (w32 i) hh = f_X12_copyBook_l62 (w32 f) (w32 t) n (w32 (i + 1 : Nat)) _
        rw [f_X12_copyBook_l62, if_neg (by rw [wl_40, w_le _ _ (by omega) (by omega) (by omega) (by omega)]; omega)]
        simp only [gd_t iba, gd_t ibt, cla, clt, lt_b]
        simp (disch := omega) only [ia_sia_ne, src, wl_1, w_add, w_s]) (fun n s hP => by
      obtain ⟨v3, hh⟩ := s
      obtain ⟨p1, p2⟩ := hP
      dsimp only at p1 p2
      subst p1
      refine ⟨hh, ?_, p2⟩
      show f_X12_copyBook_l62 (w32 f) (w32 t) (n + 1) (w32 (40 : Nat)) hh = _
      rw [f_X12_copyBook_l62, if_pos (by decide)]) FU (by decide) (0, h) ⟨rfl, Fr.rf, FrN.rf, fun _ _ => rfl, fun l hl => by omega⟩
theorem m_copy207 (hf : f < 8) (ht : t < 8) (hne : f ≠ t) : ∃ h1, f_X12_copyBook_l207 (w32 f) (w32 t) FU 0 h = some h1 ∧ Fr (fun c => c = 210 ∨ c = 211) h h1 ∧ FrN t h h1 ∧ ∀ l, l < 4 → hia h1 210 (4 * t + l) = hia h 210 (4 * f + l) ∧ hia h1 211 (4 * t + l) = hia h 211 (4 * f + l) :=
  loopR (fun n (s : Int32 × AH) => f_X12_copyBook_l207 (w32 f) (w32 t) n s.1 s.2) (fun i s => s.1 = w32 (i : Nat) ∧ Fr (fun c => c = 210 ∨ c = 211) h s.2 ∧ FrN t h s.2 ∧ ∀ l, l < i → hia s.2 210 (4 * t + l) = hia h 210 (4 * f + l) ∧ hia s.2 211 (4 * t + l) = hia h 211 (4 * f + l)) (fun h1 => Fr (fun c => c = 210 ∨ c = 211) h h1 ∧ FrN t h h1 ∧ ∀ l, l < 4 → hia h1 210 (4 * t + l) = hia h 210 (4 * f + l) ∧ hia h1 211 (4 * t + l) = hia h 211 (4 * f + l)) 4 (fun i n s hi hP => by
      obtain ⟨v3, hh⟩ := s
      obtain ⟨p1, p2, p3, p5⟩ := hP
      dsimp only at p1 p2 p3 p5
      subst p1
      have ef : (4 : Int32) * w32 f + w32 i = w32 ((4 * f + i : Nat) : Int) := by rw [wl_4, w_mul, w_add]; exact ww (by omega)
      have et : (4 : Int32) * w32 t + w32 i = w32 ((4 * t + i : Nat) : Int) := by rw [wl_4, w_mul, w_add]; exact ww (by omega)
      have iba : ib (w32 ((4 * f + i : Nat) : Int)) 32 = true := by rw [w_ibN _ _ (by omega)]; omega
      have cla : cl (w32 ((4 * f + i : Nat) : Int)) = 4 * f + i := w_clN _ (by omega)
      have ibt : ib (w32 ((4 * t + i : Nat) : Int)) 32 = true := by rw [w_ibN _ _ (by omega)]; omega
      have clt : cl (w32 ((4 * t + i : Nat) : Int)) = 4 * t + i := w_clN _ (by omega)
      have src : ∀ r, 210 ≤ r → r ≤ 211 → hia hh r (4 * f + i) = hia h r (4 * f + i) := fun r h1 h2 => p3.2.1.2.2.1 r (by omega) (by omega) f i hne hi
      refine ⟨(w32 (i + 1 : Nat), sia (sia hh 210 (4 * t + i) (hia h 210 (4 * f + i))) 211 (4 * t + i) (hia h 211 (4 * f + i))), ⟨rfl, (p2.tr (Fr.sia _ _ _ _ (by omega))).tr (Fr.sia _ _ _ _ (by omega)), (p3.tr (FrN.w _ _ _ _ _ (by omega))).tr (FrN.w _ _ _ _ _ (by omega)), ?_⟩, ?_⟩
      · intro l hl
        dsimp only
        by_cases q : l = i
        · subst q
          simp (disch := omega) only [ia_sia_ne, ia_sia_eq]
          exact ⟨trivial, trivial⟩
        · simp (disch := omega) only [ia_sia_ne, ia_sia_nk]
          exact p5 l (by omega)
      · show f_X12_copyBook_l207 (w32 f) (w32 t) (n + 1) (w32 i) hh = f_X12_copyBook_l207 (w32 f) (w32 t) n (w32 (i + 1 : Nat)) _
        rw [f_X12_copyBook_l207, if_neg (by rw [wl_4, w_le _ _ (by omega) (by omega) (by omega) (by omega)]; omega)]
        simp only [ef, et, gd_t iba, gd_t ibt, cla, clt, lt_b]
        simp (disch := omega) only [ia_sia_ne, src, wl_1, w_add, w_s]) (fun n s hP => by
      obtain ⟨v3, hh⟩ := s
      obtain ⟨p1, p2⟩ := hP
      dsimp only at p1 p2
      subst p1
      refine ⟨hh, ?_, p2⟩
      show f_X12_copyBook_l207 (w32 f) (w32 t) (n + 1) (w32 (4 : Nat)) hh = _
      rw [f_X12_copyBook_l207, if_pos (by decide)]) FU (by decide) (0, h) ⟨rfl, Fr.rf, FrN.rf, fun l hl => by omega⟩
theorem m_copy260 (hf : f < 8) (ht : t < 8) (hne : f ≠ t) : ∃ h1, f_X12_copyBook_l260 (w32 f) (w32 t) FU 0 h = some h1 ∧ Fr (fun c => 212 ≤ c ∧ c ≤ 214) h h1 ∧ FrN t h h1 ∧ ∀ l, l < 8 → hia h1 212 (8 * t + l) = hia h 212 (8 * f + l) ∧ hia h1 213 (8 * t + l) = hia h 213 (8 * f + l) ∧ hia h1 214 (8 * t + l) = hia h 214 (8 * f + l) :=
  loopR (fun n (s : Int32 × AH) => f_X12_copyBook_l260 (w32 f) (w32 t) n s.1 s.2) (fun i s => s.1 = w32 (i : Nat) ∧ Fr (fun c => 212 ≤ c ∧ c ≤ 214) h s.2 ∧ FrN t h s.2 ∧ ∀ l, l < i → hia s.2 212 (8 * t + l) = hia h 212 (8 * f + l) ∧ hia s.2 213 (8 * t + l) = hia h 213 (8 * f + l) ∧ hia s.2 214 (8 * t + l) = hia h 214 (8 * f + l)) (fun h1 => Fr (fun c => 212 ≤ c ∧ c ≤ 214) h h1 ∧ FrN t h h1 ∧ ∀ l, l < 8 → hia h1 212 (8 * t + l) = hia h 212 (8 * f + l) ∧ hia h1 213 (8 * t + l) = hia h 213 (8 * f + l) ∧ hia h1 214 (8 * t + l) = hia h 214 (8 * f + l)) 8 (fun i n s hi hP => by
      obtain ⟨v3, hh⟩ := s
      obtain ⟨p1, p2, p3, p5⟩ := hP
      dsimp only at p1 p2 p3 p5
      subst p1
      have ef : (8 : Int32) * w32 f + w32 i = w32 ((8 * f + i : Nat) : Int) := by rw [wl_8, w_mul, w_add]; exact ww (by omega)
      have et : (8 : Int32) * w32 t + w32 i = w32 ((8 * t + i : Nat) : Int) := by rw [wl_8, w_mul, w_add]; exact ww (by omega)
      have iba : ib (w32 ((8 * f + i : Nat) : Int)) 64 = true := by rw [w_ibN _ _ (by omega)]; omega
      have cla : cl (w32 ((8 * f + i : Nat) : Int)) = 8 * f + i := w_clN _ (by omega)
      have ibt : ib (w32 ((8 * t + i : Nat) : Int)) 64 = true := by rw [w_ibN _ _ (by omega)]; omega
      have clt : cl (w32 ((8 * t + i : Nat) : Int)) = 8 * t + i := w_clN _ (by omega)
      have src : ∀ r, 212 ≤ r → r ≤ 214 → hia hh r (8 * f + i) = hia h r (8 * f + i) := fun r h1 h2 => p3.2.1.2.2.2 r (by omega) (by omega) f i hne hi
      refine ⟨(w32 (i + 1 : Nat), sia (sia (sia hh 212 (8 * t + i) (hia h 212 (8 * f + i))) 213 (8 * t + i) (hia h 213 (8 * f + i))) 214 (8 * t + i) (hia h 214 (8 * f + i))), ⟨rfl, ((p2.tr (Fr.sia _ _ _ _ (by omega))).tr (Fr.sia _ _ _ _ (by omega))).tr (Fr.sia _ _ _ _ (by omega)), ((p3.tr (FrN.w _ _ _ _ _ (by omega))).tr (FrN.w _ _ _ _ _ (by omega))).tr (FrN.w _ _ _ _ _ (by omega)), ?_⟩, ?_⟩
      · intro l hl
        dsimp only
        by_cases q : l = i
        · subst q
          simp (disch := omega) only [ia_sia_ne, ia_sia_eq]
          exact ⟨trivial, trivial, trivial⟩
        · simp (disch := omega) only [ia_sia_ne, ia_sia_nk]
          exact p5 l (by omega)
      · show f_X12_copyBook_l260 (w32 f) (w32 t) (n + 1) (w32 i) hh = f_X12_copyBook_l260 (w32 f) (w32 t) n (w32 (i + 1 : Nat)) _
        rw [f_X12_copyBook_l260, if_neg (by rw [wl_8, w_le _ _ (by omega) (by omega) (by omega) (by omega)]; omega)]
        simp only [ef, et, gd_t iba, gd_t ibt, cla, clt, lt_b]
        simp (disch := omega) only [ia_sia_ne, src, wl_1, w_add, w_s]) (fun n s hP => by
      obtain ⟨v3, hh⟩ := s
      obtain ⟨p1, p2⟩ := hP
      dsimp only at p1 p2
      subst p1
      refine ⟨hh, ?_, p2⟩
      show f_X12_copyBook_l260 (w32 f) (w32 t) (n + 1) (w32 (8 : Nat)) hh = _
      rw [f_X12_copyBook_l260, if_pos (by decide)]) FU (by decide) (0, h) ⟨rfl, Fr.rf, FrN.rf, fun l hl => by omega⟩
theorem m_copy (hf : f < 8) (ht : t < 8) (hne : f ≠ t) (hB : BM h f β) (oB : okB β) : ∃ h1, f_X12_copyBook (w32 f) (w32 t) h = some h1 ∧ Fr WB h h1 ∧ FrN t h h1 ∧ BM h1 t β ∧ hia h1 201 = hia h 201 ∧ ∀ l, l < 40 → hia h1 208 (40 * t + l) = -1 := by
  obtain ⟨b1, b2, b3, b4, b5, b6, b7, b8⟩ := hB
  have o1 := oB.1
  have oW := oB.2.2.2.1
  have oR := oB.2.2.2.2.1
  have F0 : Fr (fun c => 196 ≤ c ∧ c ≤ 200) h (sia (sia (sia (sia (sia h 196 t (w32 (vL β))) 197 t (w32 (vT β))) 198 t (w32 (vH β))) 199 t (w32 (vW β))) 200 t (w32 (vR β))) := ((((Fr.sia _ _ _ _ (by omega)).tr (Fr.sia _ _ _ _ (by omega))).tr (Fr.sia _ _ _ _ (by omega))).tr (Fr.sia _ _ _ _ (by omega))).tr (Fr.sia _ _ _ _ (by omega))
  have N0 : FrN t h (sia (sia (sia (sia (sia h 196 t (w32 (vL β))) 197 t (w32 (vT β))) 198 t (w32 (vH β))) 199 t (w32 (vW β))) 200 t (w32 (vR β))) := ((((FrN.w _ _ _ _ _ (by omega)).tr (FrN.w _ _ _ _ _ (by omega))).tr (FrN.w _ _ _ _ _ (by omega))).tr (FrN.w _ _ _ _ _ (by omega))).tr (FrN.w _ _ _ _ _ (by omega))
  have c0 : hia (sia (sia (sia (sia (sia h 196 t (w32 (vL β))) 197 t (w32 (vT β))) 198 t (w32 (vH β))) 199 t (w32 (vW β))) 200 t (w32 (vR β))) 196 t = w32 (vL β) := by simp (disch := omega) only [ia_sia_ne, ia_sia_eq]
  have c1 : hia (sia (sia (sia (sia (sia h 196 t (w32 (vL β))) 197 t (w32 (vT β))) 198 t (w32 (vH β))) 199 t (w32 (vW β))) 200 t (w32 (vR β))) 197 t = w32 (vT β) := by simp (disch := omega) only [ia_sia_ne, ia_sia_eq]
  have c2 : hia (sia (sia (sia (sia (sia h 196 t (w32 (vL β))) 197 t (w32 (vT β))) 198 t (w32 (vH β))) 199 t (w32 (vW β))) 200 t (w32 (vR β))) 198 t = w32 (vH β) := by simp (disch := omega) only [ia_sia_ne, ia_sia_eq]
  have c3 : hia (sia (sia (sia (sia (sia h 196 t (w32 (vL β))) 197 t (w32 (vT β))) 198 t (w32 (vH β))) 199 t (w32 (vW β))) 200 t (w32 (vR β))) 199 t = w32 (vW β) := by simp (disch := omega) only [ia_sia_ne, ia_sia_eq]
  have c4 : hia (sia (sia (sia (sia (sia h 196 t (w32 (vL β))) 197 t (w32 (vT β))) 198 t (w32 (vH β))) 199 t (w32 (vW β))) 200 t (w32 (vR β))) 200 t = w32 (vR β) := ia_sia_eq _ _ _ _
  have iba : ib (w32 (f : Int)) 8 = true := by rw [w_ibN _ _ (by omega)]; omega
  have ibt : ib (w32 (t : Int)) 8 = true := by rw [w_ibN _ _ (by omega)]; omega
  have cla : cl (w32 (f : Int)) = f := w_clN _ (by omega)
  have clt : cl (w32 (t : Int)) = t := w_clN _ (by omega)
  have hd : f_X12_copyBook (w32 f) (w32 t) h = bnd (f_X12_copyBook_l62 (w32 f) (w32 t) FU 0 (sia (sia (sia (sia (sia h 196 t (w32 (vL β))) 197 t (w32 (vT β))) 198 t (w32 (vH β))) 199 t (w32 (vW β))) 200 t (w32 (vR β)))) (fun q37 => bnd (f_X12_copyBook_l207 (w32 f) (w32 t) FU 0 q37) (fun q45 => bnd (f_X12_copyBook_l260 (w32 f) (w32 t) FU 0 q45) (fun q56 => some q56))) := by
    unfold f_X12_copyBook
    simp only [gd_t iba, gd_t ibt, cla, clt, lt_b, b1]
    simp (disch := omega) only [ia_sia_ne, b2, b3, b4, b5]
  generalize sia (sia (sia (sia (sia h 196 t (w32 (vL β))) 197 t (w32 (vT β))) 198 t (w32 (vH β))) 199 t (w32 (vW β))) 200 t (w32 (vR β)) = k0 at *
  obtain ⟨k1, e1, f1, n1, r1, z1⟩ := m_copy62 (h := k0) hf ht hne
  obtain ⟨k2, e2, f2, n2, z2⟩ := m_copy207 (h := k1) hf ht hne
  obtain ⟨k3, e3, f3, n3, z3⟩ := m_copy260 (h := k2) hf ht hne
  rw [e1, bnd_s, e2, bnd_s, e3, bnd_s] at hd
  have a1 : ∀ c, c ≤ 209 → hia k3 c = hia k1 c := fun c hc => by rw [(f3 c (by omega)).2.2.1, (f2 c (by omega)).2.2.1]
  have a0 : ∀ c, 201 ≤ c → hia k0 c = hia h c := fun c hc => (F0 c (by omega)).2.2.1
  refine ⟨k3, hd, ((F0.mono (fun c q => by unfold WB; omega)).tr f1).tr ((f2.mono (fun c q => by unfold WB; omega)).tr (f3.mono (fun c q => by unfold WB; omega))), ((N0.tr n1).tr n2).tr n3, ⟨?_, ?_, ?_, ?_, ?_, fun l hl => ?_, fun w hw => ?_, fun r hr => ?_⟩, ?_, fun l hl => ?_⟩
  · rw [a1 196 (by omega), r1 196 (by omega)]; exact c0
  · rw [a1 197 (by omega), r1 197 (by omega)]; exact c1
  · rw [a1 198 (by omega), r1 198 (by omega)]; exact c2
  · rw [a1 199 (by omega), r1 199 (by omega)]; exact c3
  · rw [a1 200 (by omega), r1 200 (by omega)]; exact c4
  · have zz := (z1 l (by omega)).1
    rw [a1 202 (by omega), a1 203 (by omega), a1 204 (by omega), a1 205 (by omega), a1 206 (by omega), a1 207 (by omega), zz 202 (by omega) (by omega), zz 203 (by omega) (by omega), zz 204 (by omega) (by omega), zz 205 (by omega) (by omega), zz 206 (by omega) (by omega), zz 207 (by omega) (by omega), a0 202 (by omega), a0 203 (by omega), a0 204 (by omega), a0 205 (by omega), a0 206 (by omega), a0 207 (by omega)]
    exact b6 l hl
  · rw [(f3 210 (by omega)).2.2.1, (f3 211 (by omega)).2.2.1, (z2 w (by omega)).1, (z2 w (by omega)).2, r1 210 (by omega), r1 211 (by omega), a0 210 (by omega), a0 211 (by omega)]
    exact b7 w hw
  · rw [(z3 r (by omega)).1, (z3 r (by omega)).2.1, (z3 r (by omega)).2.2, (f2 212 (by omega)).2.2.1, (f2 213 (by omega)).2.2.1, (f2 214 (by omega)).2.2.1, r1 212 (by omega), r1 213 (by omega), r1 214 (by omega), a0 212 (by omega), a0 213 (by omega), a0 214 (by omega)]
    exact b8 r hr
  · exact (((N0.tr n1).tr n2).tr n3).2.2.1 201 (by omega)
  · rw [a1 208 (by omega)]; exact (z1 l hl).2
end CPY
