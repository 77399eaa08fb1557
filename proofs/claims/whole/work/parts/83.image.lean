/-! the image: the reference -/
section IMM
variable {h : AH} {S : SV} {T b : Nat}
theorem m_img96 : ∃ h1, f_X12_image_l96 FU 0 h = some h1 ∧ Fr (fun c => c = 235) h h1 ∧ ∀ k, k < 4 → hia h1 235 k = hia h 218 k :=
  loopR (fun n (s : Int32 × AH) => f_X12_image_l96 n s.1 s.2) (fun i s => s.1 = w32 (i : Nat) ∧ Fr (fun c => c = 235) h s.2 ∧ ∀ k, k < i → hia s.2 235 k = hia h 218 k) (fun h1 => Fr (fun c => c = 235) h h1 ∧ ∀ k, k < 4 → hia h1 235 k = hia h 218 k) 4 (fun i n s hi hP => by
      obtain ⟨v1, hh⟩ := s
      obtain ⟨p1, p2, p3⟩ := hP
      dsimp only at p1 p2 p3
      subst p1
      have e2 : hia hh 218 i = hia h 218 i := by rw [(p2 218 (by omega)).2.2.1]
      refine ⟨(w32 (i + 1 : Nat), sia hh 235 i (hia h 218 i)), ⟨rfl, p2.tr (Fr.sia _ _ _ _ rfl), fun k hk => ?_⟩, ?_⟩
      · show hia (sia hh 235 i _) 235 k = _
        rw [ia_sia]
        by_cases q : k = i
        · rw [if_pos q, q]
        · rw [if_neg q]; exact p3 k (by omega)
      · show f_X12_image_l96 (n + 1) (w32 i) hh = f_X12_image_l96 n (w32 (i + 1 : Nat)) _
        rw [f_X12_image_l96, if_neg (by rw [wl_4, w_le _ _ (by omega) (by omega) (by omega) (by omega)]; omega), gd_t (by rw [w_ibN _ _ (by omega)]; omega), gd_t (by rw [w_ibN _ _ (by omega)]; omega), lt_b, w_clN _ (by omega), e2, wl_1, w_add, w_s]) (fun n s hP => by
      obtain ⟨v1, hh⟩ := s
      obtain ⟨p1, p2⟩ := hP
      dsimp only at p1 p2
      subst p1
      refine ⟨hh, ?_, p2⟩
      show f_X12_image_l96 (n + 1) (w32 (4 : Nat)) hh = _
      rw [f_X12_image_l96, if_pos (by decide)]) FU (by decide) (0, h) ⟨rfl, Fr.rf, fun k hk => by omega⟩
theorem m_res125 : ∃ h1, f_X12_restore_l125 FU 0 h = some h1 ∧ Fr (fun c => c = 218) h h1 ∧ ∀ k, k < 4 → hia h1 218 k = hia h 235 k :=
  loopR (fun n (s : Int32 × AH) => f_X12_restore_l125 n s.1 s.2) (fun i s => s.1 = w32 (i : Nat) ∧ Fr (fun c => c = 218) h s.2 ∧ ∀ k, k < i → hia s.2 218 k = hia h 235 k) (fun h1 => Fr (fun c => c = 218) h h1 ∧ ∀ k, k < 4 → hia h1 218 k = hia h 235 k) 4 (fun i n s hi hP => by
      obtain ⟨v1, hh⟩ := s
      obtain ⟨p1, p2, p3⟩ := hP
      dsimp only at p1 p2 p3
      subst p1
      have e2 : hia hh 235 i = hia h 235 i := by rw [(p2 235 (by omega)).2.2.1]
      refine ⟨(w32 (i + 1 : Nat), sia hh 218 i (hia h 235 i)), ⟨rfl, p2.tr (Fr.sia _ _ _ _ rfl), fun k hk => ?_⟩, ?_⟩
      · show hia (sia hh 218 i _) 218 k = _
        rw [ia_sia]
        by_cases q : k = i
        · rw [if_pos q, q]
        · rw [if_neg q]; exact p3 k (by omega)
      · show f_X12_restore_l125 (n + 1) (w32 i) hh = f_X12_restore_l125 n (w32 (i + 1 : Nat)) _
        rw [f_X12_restore_l125, if_neg (by rw [wl_4, w_le _ _ (by omega) (by omega) (by omega) (by omega)]; omega), gd_t (by rw [w_ibN _ _ (by omega)]; omega), gd_t (by rw [w_ibN _ _ (by omega)]; omega), lt_b, w_clN _ (by omega), e2, wl_1, w_add, w_s]) (fun n s hP => by
      obtain ⟨v1, hh⟩ := s
      obtain ⟨p1, p2⟩ := hP
      dsimp only at p1 p2
      subst p1
      refine ⟨hh, ?_, p2⟩
      show f_X12_restore_l125 (n + 1) (w32 (4 : Nat)) hh = _
      rw [f_X12_restore_l125, if_pos (by decide)]) FU (by decide) (0, h) ⟨rfl, Fr.rf, fun k hk => by omega⟩
/-- entries of other books stay -/
def FrE (b : Nat) (r1 r2 : Nat) (h h1 : AH) : Prop := Fr (fun c => c = r1 ∨ c = r2) h h1 ∧ ∀ c l, c ≠ b → l < 40 → hia h1 r1 (40 * c + l) = hia h r1 (40 * c + l) ∧ hia h1 r2 (40 * c + l) = hia h r2 (40 * c + l)
theorem m_img32 {n : Nat} (hB : hia h 196 b = w32 (n : Nat)) (hb : b < 6) (hn : n ≤ 40) : ∃ h1, f_X12_image_l32 (w32 b) FU 0 h = some h1 ∧ FrE b 232 233 h h1 ∧ ∀ l, l < n → hia h1 232 (40 * b + l) = hia h 208 (40 * b + l) ∧ hia h1 233 (40 * b + l) = hia h 209 (40 * b + l) :=
  loopR (fun n (s : Int32 × AH) => f_X12_image_l32 (w32 b) n s.1 s.2) (fun i s => s.1 = w32 (i : Nat) ∧ FrE b 232 233 h s.2 ∧ ∀ l, l < i → hia s.2 232 (40 * b + l) = hia h 208 (40 * b + l) ∧ hia s.2 233 (40 * b + l) = hia h 209 (40 * b + l)) (fun h1 => FrE b 232 233 h h1 ∧ ∀ l, l < n → hia h1 232 (40 * b + l) = hia h 208 (40 * b + l) ∧ hia h1 233 (40 * b + l) = hia h 209 (40 * b + l)) n (fun i k s hi hP => by
      obtain ⟨v2, hh⟩ := s
      obtain ⟨p1, p2, p3⟩ := hP
      dsimp only at p1 p2 p3
      subst p1
      have d1 : hia hh 196 b = w32 (n : Nat) := by rw [(p2.1 196 (by omega)).2.2.1]; exact hB
      have s1 : hia hh 208 = hia h 208 := (p2.1 208 (by omega)).2.2.1
      have s2 : hia hh 209 = hia h 209 := (p2.1 209 (by omega)).2.2.1
      refine ⟨(w32 (i + 1 : Nat), sia (sia hh 232 (40 * b + i) (hia h 208 (40 * b + i))) 233 (40 * b + i) (hia h 209 (40 * b + i))), ⟨rfl, ⟨(p2.1.tr (Fr.sia _ _ _ _ (Or.inl rfl))).tr (Fr.sia _ _ _ _ (Or.inr rfl)), fun c l hc hl => ?_⟩, fun l hl => ?_⟩, ?_⟩
      · dsimp only
        simp (disch := omega) only [ia_sia_ne, ia_sia_nk]
        exact p2.2 c l hc hl
      · dsimp only
        by_cases q : l = i
        · subst q
          simp (disch := omega) only [ia_sia_ne, ia_sia_eq]
          exact ⟨trivial, trivial⟩
        · simp (disch := omega) only [ia_sia_ne, ia_sia_nk]
          exact p3 l (by omega)
      · show f_X12_image_l32 (w32 b) (k + 1) (w32 i) hh = f_X12_image_l32 (w32 b) k (w32 (i + 1 : Nat)) _
        have i3 : ib (f_X12_at (w32 b) (w32 i)) 320 = true := by rw [e_at, w_ibN _ _ (by omega)]; omega
        have i2 : ib (f_X12_at (w32 b) (w32 i)) 240 = true := by rw [e_at, w_ibN _ _ (by omega)]; omega
        have ca : cl (f_X12_at (w32 b) (w32 i)) = 40 * b + i := by rw [e_at, w_clN _ (by omega)]
        rw [f_X12_image_l32, gd_t (by rw [w_ibN _ _ (by omega)]; omega), w_clN b (by omega), d1, if_neg (by rw [w_le _ _ (by omega) (by omega) (by omega) (by omega)]; omega), gd_t i3, gd_t i2, lt_b, ca, gd_t i3, gd_t i2, lt_b, s1, ia_sia_ne _ _ _ _ 209 (by omega), s2, wl_1, w_add, w_s]) (fun k s hP => by
      obtain ⟨v2, hh⟩ := s
      obtain ⟨p1, p2, p3⟩ := hP
      dsimp only at p1 p2 p3
      subst p1
      have d1 : hia hh 196 b = w32 (n : Nat) := by rw [(p2.1 196 (by omega)).2.2.1]; exact hB
      refine ⟨hh, ?_, p2, p3⟩
      show f_X12_image_l32 (w32 b) (k + 1) (w32 n) hh = _
      rw [f_X12_image_l32, gd_t (by rw [w_ibN _ _ (by omega)]; omega), w_clN b (by omega), d1, if_pos (Int32.le_refl _)]) FU (by unfold FU; omega) (0, h) ⟨rfl, ⟨Fr.rf, fun _ _ _ _ => ⟨rfl, rfl⟩⟩, fun l hl => by omega⟩
theorem m_img12 (n : Nat → Nat) (hB : ∀ b, b < 6 → hia h 196 b = w32 (n b : Nat)) (hn : ∀ b, b < 6 → n b ≤ 40) : ∃ h1, f_X12_image_l12 FU 0 h = some h1 ∧ Fr (fun c => 232 ≤ c ∧ c ≤ 234) h h1 ∧ ∀ b, b < 6 → hia h1 234 b = hia h 201 b ∧ ∀ l, l < n b → hia h1 232 (40 * b + l) = hia h 208 (40 * b + l) ∧ hia h1 233 (40 * b + l) = hia h 209 (40 * b + l) :=
  loopR (fun n (s : Int32 × AH) => f_X12_image_l12 n s.1 s.2) (fun i s => s.1 = w32 (i : Nat) ∧ Fr (fun c => 232 ≤ c ∧ c ≤ 234) h s.2 ∧ ∀ b, b < i → hia s.2 234 b = hia h 201 b ∧ ∀ l, l < n b → hia s.2 232 (40 * b + l) = hia h 208 (40 * b + l) ∧ hia s.2 233 (40 * b + l) = hia h 209 (40 * b + l)) (fun h1 => Fr (fun c => 232 ≤ c ∧ c ≤ 234) h h1 ∧ ∀ b, b < 6 → hia h1 234 b = hia h 201 b ∧ ∀ l, l < n b → hia h1 232 (40 * b + l) = hia h 208 (40 * b + l) ∧ hia h1 233 (40 * b + l) = hia h 209 (40 * b + l)) 6 (fun i k s hi hP => by
      obtain ⟨v1, hh⟩ := s
      obtain ⟨p1, p2, p3⟩ := hP
      dsimp only at p1 p2 p3
      subst p1
      have g : ∀ c, c < 232 → hia hh c = hia h c := fun c hc => (p2 c (by omega)).2.2.1
      have ni := hn i hi
      obtain ⟨h2, e2, f2, z2⟩ := m_img32 (h := sia hh 234 i (hia h 201 i)) (b := i) (n := n i) (by rw [ia_sia_ne _ _ _ _ _ (by omega), g 196 (by omega)]; exact hB i hi) hi ni
      refine ⟨(w32 (i + 1 : Nat), h2), ⟨rfl, (p2.tr (Fr.sia _ _ _ _ (by omega))).tr (f2.1.mono (fun c q => by omega)), fun b hb => ?_⟩, ?_⟩
      · dsimp only
        rw [(f2.1 234 (by omega)).2.2.1]
        by_cases q : b = i
        · subst q
          rw [ia_sia_eq]
          refine ⟨rfl, fun l hl => ?_⟩
          have := z2 l hl
          rw [ia_sia_ne _ _ _ _ 208 (by omega), ia_sia_ne _ _ _ _ 209 (by omega), g 208 (by omega), g 209 (by omega)] at this
          exact this
        · rw [ia_sia_nk _ _ _ _ _ q]
          refine ⟨(p3 b (by omega)).1, fun l hl => ?_⟩
          have nb := hn b (by omega)
          have := f2.2 b l q (by omega)
          rw [ia_sia_ne _ _ _ _ 232 (by omega), ia_sia_ne _ _ _ _ 233 (by omega)] at this
          rw [this.1, this.2]
          exact (p3 b (by omega)).2 l hl
      · show f_X12_image_l12 (k + 1) (w32 i) hh = f_X12_image_l12 k (w32 (i + 1 : Nat)) h2
        rw [f_X12_image_l12, if_neg (by rw [wl_6, w_le _ _ (by omega) (by omega) (by omega) (by omega)]; omega), gd_t (by rw [w_ibN _ _ (by omega)]; omega), gd_t (by rw [w_ibN _ _ (by omega)]; omega), lt_b, w_clN _ (by omega), g 201 (by omega), e2, bnd_s, wl_1, w_add, w_s]) (fun k s hP => by
      obtain ⟨v1, hh⟩ := s
      obtain ⟨p1, p2⟩ := hP
      dsimp only at p1 p2
      subst p1
      refine ⟨hh, ?_, p2⟩
      show f_X12_image_l12 (k + 1) (w32 (6 : Nat)) hh = _
      rw [f_X12_image_l12, if_pos (by decide)]) FU (by decide) (0, h) ⟨rfl, Fr.rf, fun b hb => by omega⟩
theorem t_image (hI : CI h S) (oS : okS S) (hM : MI2 h S T) : ∃ q p, f_X11_image h = some q ∧ f_X12_image q = some p ∧ inv p (T + 1) := by
  obtain ⟨h1, e1, f1, c1⟩ := c_image hI (fun b hb => (oS.1 b hb).1.1)
  have hM1 := hM.cls (f1.mono (fun c q => Or.inl q))
  have hM2 := hM1.fr (code0 h1).1.m
  have f55 : Fr (fun c => c = 193) (sfi h1 193 2 0) (sfi (sfi h1 193 2 0) 193 55 1) := Fr.sfi _ _ _ _ rfl
  have e55 : ∀ k, k ≠ 55 → hfi (sfi (sfi h1 193 2 0) 193 55 1) 193 k = hfi (sfi h1 193 2 0) 193 k := fun k hk => fi_sfi_nk _ _ _ _ _ hk
  have v55 : hfi (sfi (sfi h1 193 2 0) 193 55 1) 193 55 = 1 := fi_sfi_eq _ _ _ _
  have r55 : hia (sfi (sfi h1 193 2 0) 193 55 1) = hia (sfi h1 193 2 0) := rfl
  obtain ⟨h2, e2, f2, z2⟩ := m_img12 (h := sfi (sfi h1 193 2 0) 193 55 1) (fun b => vL (xb S b)) (fun b hb => (hM2.1 b hb).1.1) (fun b hb => (oS.1 b hb).1.1)
  obtain ⟨h3, e3, f3, z3⟩ := m_img96 (h := h2)
  refine ⟨h1, h3, e1, ?_, sI S, ⟨fun b hb => ⟨(oS.1 b hb).1, (oS.1 b hb).2.1, (oS.1 b hb).2.1⟩, oS.2⟩, c1.mod ?_, ?_⟩
  · unfold f_X12_image
    rw [lt_b, lt_b, e2, bnd_s, e3, bnd_s]
  · exact (((Fr.sfi _ _ _ _ (by omega)).tr (f55.mono (fun c q => by omega))).tr (f2.mono (fun c q => by omega))).tr (f3.mono (fun c q => by omega))
  · have fa : ∀ c, c < 232 → hia h3 c = hia (sfi h1 193 2 0) c := fun c hc => by rw [(f3 c (by omega)).2.2.1, (f2 c (by omega)).2.2.1, r55]
    have f193 : ∀ k, k ≠ 55 → hfi h3 193 k = hfi (sfi h1 193 2 0) 193 k := fun k hk => by rw [(f3 193 (by omega)).1, (f2 193 (by omega)).1]; exact e55 k hk
    generalize sfi h1 193 2 0 = k1 at *
    obtain ⟨b1, l1, w1, n1, n2, n3, s1, t1, t2, g1, g2, i1, i2, v, iv, i3⟩ := hM2
    refine ⟨fun b hb => ⟨?_, ?_⟩, ?_, ?_, ?_, ?_, ?_, ?_, ?_, ?_, ?_, ?_, ?_, ?_, v, v, fun b hb => ?_⟩
    · unfold BM
      rw [fa 196 (by omega), fa 197 (by omega), fa 198 (by omega), fa 199 (by omega), fa 200 (by omega), fa 202 (by omega), fa 203 (by omega), fa 204 (by omega), fa 205 (by omega), fa 206 (by omega), fa 207 (by omega), fa 210 (by omega), fa 211 (by omega), fa 212 (by omega), fa 213 (by omega), fa 214 (by omega)]
      exact (b1 b hb).1
    · unfold GM
      rw [fa 208 (by omega), fa 209 (by omega)]
      exact (b1 b hb).2
    · unfold LM; rw [fa 215 (by omega)]; exact l1
    · unfold WM; rw [fa 216 (by omega), fa 217 (by omega)]; exact w1
    · rw [f193 27 (by omega)]; exact n1
    · rw [f193 36 (by omega)]; exact n2
    · rw [fa 219 (by omega)]; exact n3
    · rw [fa 218 (by omega)]; exact s1
    · rw [f193 52 (by omega)]; exact t1
    · rw [fa 230 (by omega), fa 231 (by omega)]; exact t2
    · rw [f193 49 (by omega)]; exact g1
    · rw [f193 50 (by omega)]; exact g2
    · rw [(f3 193 (by omega)).1, (f2 193 (by omega)).1]; exact v55
    · intro _ k hk
      rw [z3 k hk, (f2 218 (by omega)).2.2.1, r55]; exact s1 k hk
    · obtain ⟨c1', c2', c3', c4', c5', c6'⟩ := i3 b hb
      rw [fa 201 (by omega), (f3 234 (by omega)).2.2.1, (f3 232 (by omega)).2.2.1, (f3 233 (by omega)).2.2.1, (z2 b hb).1, r55]
      refine ⟨c1', Nat.le_succ_of_le c2', c1', Nat.le_refl _, fun _ _ l hl => ?_, fun _ ne => absurd rfl ne⟩
      rw [((z2 b hb).2 l hl).1, ((z2 b hb).2 l hl).2, r55]
      exact (b1 b hb).2 l hl
theorem m_res45 {n : Nat} (v2 : Bool) (hB : hia h 196 b = w32 (n : Nat)) (hb : b < 6) (hn : n ≤ 40) : ∃ h1, f_X12_restore_l45 (w32 b) v2 FU 0 h = some h1 ∧ FrE b 208 209 h h1 ∧ ∀ l, l < n → hia h1 208 (40 * b + l) = (if v2 = true then hia h 232 (40 * b + l) else -1) ∧ hia h1 209 (40 * b + l) = (if v2 = true then hia h 233 (40 * b + l) else 0) :=
  loopR (fun n (s : Int32 × AH) => f_X12_restore_l45 (w32 b) v2 n s.1 s.2) (fun i s => s.1 = w32 (i : Nat) ∧ FrE b 208 209 h s.2 ∧ ∀ l, l < i → hia s.2 208 (40 * b + l) = (if v2 = true then hia h 232 (40 * b + l) else -1) ∧ hia s.2 209 (40 * b + l) = (if v2 = true then hia h 233 (40 * b + l) else 0)) (fun h1 => FrE b 208 209 h h1 ∧ ∀ l, l < n → hia h1 208 (40 * b + l) = (if v2 = true then hia h 232 (40 * b + l) else -1) ∧ hia h1 209 (40 * b + l) = (if v2 = true then hia h 233 (40 * b + l) else 0)) n (fun i k s hi hP => by
      obtain ⟨v3, hh⟩ := s
      obtain ⟨p1, p2, p3⟩ := hP
      dsimp only at p1 p2 p3
      subst p1
      have d1 : hia hh 196 b = w32 (n : Nat) := by rw [(p2.1 196 (by omega)).2.2.1]; exact hB
      have s1 : hia hh 232 = hia h 232 := (p2.1 232 (by omega)).2.2.1
      have s2 : hia hh 233 = hia h 233 := (p2.1 233 (by omega)).2.2.1
      have i3 : ib (f_X12_at (w32 b) (w32 i)) 320 = true := by rw [e_at, w_ibN _ _ (by omega)]; omega
      have i2 : ib (f_X12_at (w32 b) (w32 i)) 240 = true := by rw [e_at, w_ibN _ _ (by omega)]; omega
      have ca : cl (f_X12_at (w32 b) (w32 i)) = 40 * b + i := by rw [e_at, w_clN _ (by omega)]
      refine ⟨(w32 (i + 1 : Nat), sia (sia hh 208 (40 * b + i) (if v2 = true then hia h 232 (40 * b + i) else -1)) 209 (40 * b + i) (if v2 = true then hia h 233 (40 * b + i) else 0)), ⟨rfl, ⟨(p2.1.tr (Fr.sia _ _ _ _ (Or.inl rfl))).tr (Fr.sia _ _ _ _ (Or.inr rfl)), fun c l hc hl => ?_⟩, fun l hl => ?_⟩, ?_⟩
      · dsimp only
        simp (disch := omega) only [ia_sia_ne, ia_sia_nk]
        exact p2.2 c l hc hl
      · dsimp only
        by_cases q : l = i
        · subst q
          rw [ia_sia_ne _ _ _ _ 208 (by omega), ia_sia_eq, ia_sia_eq]
          exact ⟨rfl, rfl⟩
        · simp (disch := omega) only [ia_sia_ne, ia_sia_nk]
          exact p3 l (by omega)
      · show f_X12_restore_l45 (w32 b) v2 (k + 1) (w32 i) hh = f_X12_restore_l45 (w32 b) v2 k (w32 (i + 1 : Nat)) _
        rw [f_X12_restore_l45, gd_t (by rw [w_ibN _ _ (by omega)]; omega), w_clN b (by omega), d1, if_neg (by rw [w_le _ _ (by omega) (by omega) (by omega) (by omega)]; omega), lt_b]
        cases v2 with
        | true =>
          rw [if_pos rfl, gd_t i2]
          dsimp only
          rw [gd_t i3, lt_b, if_pos rfl, gd_t i2, gd_t i3, lt_b, ca, s1, ia_sia_ne _ _ _ _ 233 (by omega), s2, if_pos rfl, if_pos rfl, wl_1, w_add, w_s]
        | false =>
          rw [if_neg (by decide)]
          dsimp only
          rw [gd_t i3, lt_b, if_neg (by decide), gd_t i3, lt_b, ca, if_neg (by decide), if_neg (by decide), wl_1, w_add, w_s]) (fun k s hP => by
      obtain ⟨v3, hh⟩ := s
      obtain ⟨p1, p2, p3⟩ := hP
      dsimp only at p1 p2 p3
      subst p1
      have d1 : hia hh 196 b = w32 (n : Nat) := by rw [(p2.1 196 (by omega)).2.2.1]; exact hB
      refine ⟨hh, ?_, p2, p3⟩
      show f_X12_restore_l45 (w32 b) v2 (k + 1) (w32 n) hh = _
      rw [f_X12_restore_l45, gd_t (by rw [w_ibN _ _ (by omega)]; omega), w_clN b (by omega), d1, if_pos (Int32.le_refl _)]) FU (by unfold FU; omega) (0, h) ⟨rfl, ⟨Fr.rf, fun _ _ _ _ => ⟨rfl, rfl⟩⟩, fun l hl => by omega⟩
theorem m_res16 (n : Nat → Nat) (sm' : Nat → Bool) (hB : ∀ b, b < 6 → hia h 196 b = w32 (n b : Nat)) (hn : ∀ b, b < 6 → n b ≤ 40) (hv : ∀ b, b < 6 → (hia h 234 b = hia h 201 b) = (sm' b = true)) : ∃ h1, f_X12_restore_l16 FU 0 h = some h1 ∧ Fr (fun c => c = 208 ∨ c = 209) h h1 ∧ ∀ b, b < 6 → ∀ l, l < n b → hia h1 208 (40 * b + l) = (if sm' b = true then hia h 232 (40 * b + l) else -1) ∧ hia h1 209 (40 * b + l) = (if sm' b = true then hia h 233 (40 * b + l) else 0) :=
  loopR (fun n (s : Int32 × AH) => f_X12_restore_l16 n s.1 s.2) (fun i s => s.1 = w32 (i : Nat) ∧ Fr (fun c => c = 208 ∨ c = 209) h s.2 ∧ ∀ b, b < i → ∀ l, l < n b → hia s.2 208 (40 * b + l) = (if sm' b = true then hia h 232 (40 * b + l) else -1) ∧ hia s.2 209 (40 * b + l) = (if sm' b = true then hia h 233 (40 * b + l) else 0)) (fun h1 => Fr (fun c => c = 208 ∨ c = 209) h h1 ∧ ∀ b, b < 6 → ∀ l, l < n b → hia h1 208 (40 * b + l) = (if sm' b = true then hia h 232 (40 * b + l) else -1) ∧ hia h1 209 (40 * b + l) = (if sm' b = true then hia h 233 (40 * b + l) else 0)) 6 (fun i k s hi hP => by
      obtain ⟨v1, hh⟩ := s
      obtain ⟨p1, p2, p3⟩ := hP
      dsimp only at p1 p2 p3
      subst p1
      have g : ∀ c, c ≠ 208 ∧ c ≠ 209 → hia hh c = hia h c := fun c hc => (p2 c (by omega)).2.2.1
      have ni := hn i hi
      obtain ⟨h2, e2, f2, z2⟩ := m_res45 (h := hh) (b := i) (n := n i) (sm' i) (by rw [g 196 (by omega)]; exact hB i hi) hi ni
      refine ⟨(w32 (i + 1 : Nat), h2), ⟨rfl, p2.tr f2.1, fun b hb l hl => ?_⟩, ?_⟩
      · dsimp only
        by_cases q : b = i
        · subst q
          have := z2 l hl
          rw [g 232 (by omega), g 233 (by omega)] at this
          exact this
        · have nb := hn b (by omega)
          have := f2.2 b l q (by omega)
          rw [this.1, this.2]
          exact p3 b (by omega) l hl
      · show f_X12_restore_l16 (k + 1) (w32 i) hh = f_X12_restore_l16 k (w32 (i + 1 : Nat)) h2
        rw [f_X12_restore_l16, if_neg (by rw [wl_6, w_le _ _ (by omega) (by omega) (by omega) (by omega)]; omega), gd_t (by rw [w_ibN _ _ (by omega)]; omega), gd_t (by rw [w_ibN _ _ (by omega)]; omega), lt_b, w_clN _ (by omega), g 234 (by omega), g 201 (by omega)]
        have hvi := hv i hi
        cases hq : sm' i with
        | true =>
          rw [hq] at e2
          rw [if_pos (by rw [hvi]; exact hq)]
          dsimp only
          rw [e2, bnd_s, wl_1, w_add, w_s]
        | false =>
          rw [hq] at e2
          rw [if_neg (by rw [hvi, hq]; decide)]
          dsimp only
          rw [e2, bnd_s, wl_1, w_add, w_s]) (fun k s hP => by
      obtain ⟨v1, hh⟩ := s
      obtain ⟨p1, p2⟩ := hP
      dsimp only at p1 p2
      subst p1
      refine ⟨hh, ?_, p2⟩
      show f_X12_restore_l16 (k + 1) (w32 (6 : Nat)) hh = _
      rw [f_X12_restore_l16, if_pos (by decide)]) FU (by decide) (0, h) ⟨rfl, Fr.rf, fun b hb => by omega⟩
theorem t_restore (hI : CI h S) (oS : okS S) (hM : MI2 h S T) (hT : T ≤ 1000) : ∃ q p, f_X11_restore h = some q ∧ f_X12_restore q.2 = some p ∧ q.1 = p.1 ∧ inv p.2 (T + 1) := by
  rcases c_restore hI (fun b hb => (oS.1 b hb).1.1) with ⟨e1, x1⟩ | ⟨x1, h1, e1, f1, c1⟩
  · have hM2 := hM.fr (code0 h).1.m
    have e55 : hfi (sfi h 193 2 0) 193 55 = bI (xi S) := hM2.2.2.2.2.2.2.2.2.2.2.2.1
    rw [x1] at e55
    refine ⟨(false, h), (false, sfi h 193 2 0), e1, ?_, rfl, S, oS, hI.mod (Fr.sfi _ _ _ _ (by omega)), hM2.le (by omega)⟩
    show f_X12_restore h = _
    unfold f_X12_restore
    rw [lt_b, e55, if_pos (by decide)]
  · have hM1 := hM.cls (f1.mono (fun c q => Or.inl q))
    have hM2 := hM1.fr (code0 h1).1.m
    have e55 : hfi (sfi h1 193 2 0) 193 55 = bI (xi S) := hM2.2.2.2.2.2.2.2.2.2.2.2.1
    rw [x1] at e55
    obtain ⟨v, iv, i3⟩ := hM2.2.2.2.2.2.2.2.2.2.2.2.2.2
    obtain ⟨h2, e2, f2, z2⟩ := m_res16 (h := sfi h1 193 2 0) (fun b => vL (xb S b)) (fun b => decide (iv b = v b)) (fun b hb => (hM2.1 b hb).1.1) (fun b hb => (oS.1 b hb).1.1) (fun b hb => by
      obtain ⟨a1, a2, a3, a4, -⟩ := i3 b hb
      rw [a1, a3, w_eq _ _ (by omega) (by omega) (by omega) (by omega), decide_eq_true_eq]
      apply propext
      omega)
    obtain ⟨h3, e3, f3, z3⟩ := m_res125 (h := h2)
    refine ⟨(true, h1), (true, h3), e1, ?_, rfl, sR S, ⟨fun b hb => ⟨(oS.1 b hb).1, (oS.1 b hb).2.2, (oS.1 b hb).2.2⟩, oS.2⟩, c1.mod ?_, ?_⟩
    · show f_X12_restore h1 = _
      unfold f_X12_restore
      rw [lt_b, e55, if_neg (by decide), e2, bnd_s, e3, bnd_s]
    · exact ((Fr.sfi _ _ _ _ (by omega)).tr (f2.mono (fun c q => by omega))).tr (f3.mono (fun c q => by omega))
    · generalize sfi h1 193 2 0 = k1 at *
      have fa : ∀ c, c ≠ 208 ∧ c ≠ 209 ∧ c ≠ 218 → hia h3 c = hia k1 c := fun c hc => by rw [(f3 c (by omega)).2.2.1, (f2 c (by omega)).2.2.1]
      have f193 : hfi h3 193 = hfi k1 193 := by rw [(f3 193 (by omega)).1, (f2 193 (by omega)).1]
      obtain ⟨b1, l1, w1, n1, n2, n3, s1, t1, t2, g1, g2, i1, i2, -⟩ := hM2
      refine ⟨fun b hb => ⟨?_, ?_⟩, ?_, ?_, ?_, ?_, ?_, ?_, ?_, ?_, ?_, ?_, ?_, ?_, v, iv, fun b hb => ?_⟩
      · unfold BM
        rw [fa 196 (by omega), fa 197 (by omega), fa 198 (by omega), fa 199 (by omega), fa 200 (by omega), fa 202 (by omega), fa 203 (by omega), fa 204 (by omega), fa 205 (by omega), fa 206 (by omega), fa 207 (by omega), fa 210 (by omega), fa 211 (by omega), fa 212 (by omega), fa 213 (by omega), fa 214 (by omega)]
        exact (b1 b hb).1
      · intro l hl
        obtain ⟨a1, a2, a3, a4, a5, a6⟩ := i3 b hb
        have zz := z2 b hb l hl
        rw [(f3 208 (by omega)).2.2.1, (f3 209 (by omega)).2.2.1, zz.1, zz.2]
        show (if decide (iv b = v b) = true then hia k1 232 (40 * b + l) else -1) = w32 ((xk S b).1 l) ∧ ((xk S b).1 l ≠ -1 → (if decide (iv b = v b) = true then hia k1 233 (40 * b + l) else 0) = w32 ((xk S b).2 l))
        by_cases q : iv b = v b
        · rw [decide_eq_true q, if_pos rfl, if_pos rfl]
          exact a5 x1 q l hl
        · rw [decide_eq_false q, if_neg (by decide), if_neg (by decide)]
          have := a6 x1 q l hl
          rw [this]
          exact ⟨rfl, fun z => absurd rfl z⟩
      · unfold LM; rw [fa 215 (by omega)]; exact l1
      · unfold WM; rw [fa 216 (by omega), fa 217 (by omega)]; exact w1
      · rw [f193]; exact n1
      · rw [f193]; exact n2
      · rw [fa 219 (by omega)]; exact n3
      · intro k hk
        rw [z3 k hk, (f2 235 (by omega)).2.2.1]; exact i2 x1 k hk
      · rw [f193]; exact t1
      · rw [fa 230 (by omega), fa 231 (by omega)]; exact t2
      · rw [f193]; exact g1
      · rw [f193]; exact g2
      · rw [f193]; exact i1
      · intro _ k hk
        rw [fa 235 (by omega)]; exact i2 x1 k hk
      · obtain ⟨a1, a2, a3, a4, a5, a6⟩ := i3 b hb
        rw [fa 201 (by omega), fa 234 (by omega), fa 232 (by omega), fa 233 (by omega)]
        exact ⟨a1, Nat.le_succ_of_le a2, a3, a4, a5, a6⟩
end IMM
