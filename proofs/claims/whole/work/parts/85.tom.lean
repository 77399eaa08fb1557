/-! the reference's tokens -/
section TOM
variable {h : AH} {t : Nat → Nat} {n q : Nat}
theorem tok_same (hq : q ≤ n) (h2 : tso t n q = 1 ∨ tso t n q = 2) : (∀ j, tst t n q ≤ j → j < ten t n q → j < n ∧ srt (t j) = tso t n q) ∧ ¬ (ten t n q < n ∧ srt (t (ten t n q)) = tso t n q) := by
  have rg := (tok_rg (t := t) hq).2.2.2.2.1 (by omega)
  have es : srt (t (tst t n q)) = tso t n q := by unfold tso; rw [if_pos rg.1]
  have ee : ten t n q = fsx (fun i => decide (srt (t i) = srt (t (tst t n q)))) n (tst t n q + 1) := by unfold ten; rw [if_pos rg.1, if_pos (by omega)]
  obtain ⟨b1, b2, b3, b4⟩ := fsx_spec (fun i => decide (srt (t i) = srt (t (tst t n q)))) (show tst t n q + 1 ≤ n by omega)
  rw [← ee] at b1 b2 b3 b4
  refine ⟨fun j h1 h3 => ?_, fun z => b4 ⟨z.1, by rw [decide_eq_true_eq, es]; exact z.2⟩⟩
  by_cases z : j = tst t n q
  · rw [z]; exact ⟨rg.1, es⟩
  · obtain ⟨c1, c2⟩ := b3 j (by omega) h3
    rw [decide_eq_true_eq, es] at c2
    exact ⟨c1, c2⟩
def TMx (h : AH) (t : Nat → Nat) (n : Nat) : Prop := hfi h 193 29 = w32 (n : Nat) ∧ n ≤ 500 ∧ ∀ j, j < n → hia h 219 j = w32 (t j : Nat) ∧ t j < 256
def FK (K : Nat → Prop) (h h1 : AH) : Prop := Fr (fun c => c = 193) h h1 ∧ ∀ k, ¬ K k → hfi h1 193 k = hfi h 193 k
theorem FK.rf {K : Nat → Prop} : FK K h h := ⟨Fr.rf, fun _ _ => rfl⟩
theorem FK.tr {K : Nat → Prop} {h1 h2 : AH} (x : FK K h h1) (y : FK K h1 h2) : FK K h h2 := ⟨x.1.tr y.1, fun k hk => (y.2 k hk).trans (x.2 k hk)⟩
theorem FK.mono {K K' : Nat → Prop} {h1 : AH} (x : FK K h h1) (hk : ∀ k, K k → K' k) : FK K' h h1 := ⟨x.1, fun k z => x.2 k (fun y => z (hk k y))⟩
theorem FK.w {K : Nat → Prop} (h : AH) (k : Nat) (v : Int32) (hk : K k) : FK K h (sfi h 193 k v) := ⟨Fr.sfi _ _ _ _ rfl, fun j hj => fi_sfi_nk _ _ _ _ _ (fun e => hj (e ▸ hk))⟩
def K28 (k : Nat) : Prop := k = 28
def K31 (k : Nat) : Prop := k = 28 ∨ k = 31
def KTo (k : Nat) : Prop := k = 28 ∨ (30 ≤ k ∧ k ≤ 33)
def KTe (k : Nat) : Prop := k = 28 ∨ (30 ≤ k ∧ k ≤ 35)
theorem TMx.fk {K : Nat → Prop} {h1 : AH} (x : TMx h t n) (y : FK K h h1) (hk : ¬ K 29) : TMx h1 t n := ⟨(y.2 29 hk).trans x.1, x.2.1, fun j hj => by rw [(y.1 219 (by omega)).2.2.1]; exact x.2.2 j hj⟩
theorem r_byte (hT : TMx h t n) {j : Nat} (hj : j ≤ n) : f_X12_byteAt (w32 (j : Nat)) h = some (if j < n then w32 (t j : Nat) else -1) := by
  obtain ⟨e29, hn, hb⟩ := hT
  unfold f_X12_byteAt
  rw [e29]
  by_cases z : j < n
  · rw [if_neg (by rw [w_le _ _ (by omega) (by omega) (by omega) (by omega)]; omega), gd_t (by rw [w_ibN _ _ (by omega)]; omega), w_clN _ (by omega), (hb j z).1, if_pos z]
  · rw [if_pos (by rw [w_le _ _ (by omega) (by omega) (by omega) (by omega)]; omega), if_neg z]
theorem e_let {c : Nat} (hc : c < 256) : f_X12_isLetter (w32 (c : Nat)) = decide (srt c = 1) := by
  have h : ∀ c : Fin 256, f_X12_isLetter (w32 (c.val : Nat)) = decide (srt c.val = 1) := by decide +kernel
  exact h ⟨c, hc⟩
theorem e_dig {c : Nat} (hc : c < 256) : f_X12_isDigit (w32 (c : Nat)) = decide (srt c = 2) := by
  have h : ∀ c : Fin 256, f_X12_isDigit (w32 (c.val : Nat)) = decide (srt c.val = 2) := by decide +kernel
  exact h ⟨c, hc⟩
theorem e_semi {c : Nat} (hc : c < 256) : (w32 (c : Nat) = 59) = (c = 59) := by
  rw [wl_59, w_eq _ _ (by omega) (by omega) (by omega) (by omega)]; apply propext; omega
theorem r_l0 (hT : TMx h t n) (hq : q ≤ n) (e28 : hfi h 193 28 = w32 (q : Nat)) : ∃ h1, f_X12_stepOn_l0 FU h = some h1 ∧ FK K28 h h1 ∧ hfi h1 193 28 = w32 (tst t n q : Nat) := by
  obtain ⟨a1, a2, a3, a4⟩ := fsx_spec (fun i => bl (t i)) hq
  have a1 : q ≤ tst t n q := a1
  have a2 : tst t n q ≤ n := a2
  have a3 : ∀ i, q ≤ i → i < tst t n q → i < n ∧ bl (t i) = true := a3
  have a4 : ¬ (tst t n q < n ∧ bl (t (tst t n q)) = true) := a4
  have hn := hT.2.1
  have k29 : ¬ K28 29 := by unfold K28; omega
  refine loopR f_X12_stepOn_l0 (fun i s => FK K28 h s ∧ hfi s 193 28 = w32 (q + i : Nat)) (fun r => FK K28 h r ∧ hfi r 193 28 = w32 (tst t n q : Nat)) (tst t n q - q) (fun i k s hi hP => ?_) (fun k s hP => ?_) FU (by unfold FU; omega) h ⟨FK.rf, e28⟩
  · obtain ⟨f1, e1⟩ := hP
    obtain ⟨b1, b2⟩ := a3 (q + i) (by omega) (by omega)
    have T1 := hT.fk f1 k29
    have c2 := (hT.2.2 _ b1).2
    refine ⟨sfi s 193 28 (w32 (q + (i + 1) : Nat)), ⟨f1.tr (FK.w _ _ _ rfl), fi_sfi_eq _ _ _ _⟩, ?_⟩
    rw [f_X12_stepOn_l0, e1, r_byte T1 (by omega), if_pos b1, bnd_s, bnd_s, wl_1, w_add, w_s]
    unfold bl at b2
    by_cases z : t (q + i) = 32
    · rw [if_pos (by rw [z]; rfl)]; rfl
    · rw [if_neg (by rw [wl_32]; exact ne_w (by omega) (by omega) (by omega) (by omega) (by omega)), if_pos (by simp [z] at b2; rw [b2]; rfl)]; rfl
  · obtain ⟨f1, e1⟩ := hP
    rw [show q + (tst t n q - q) = tst t n q by omega] at e1
    have T1 := hT.fk f1 k29
    refine ⟨s, ?_, f1, e1⟩
    rw [f_X12_stepOn_l0, e1, r_byte T1 a2, bnd_s, bnd_s]
    by_cases z : tst t n q < n
    · have c2 := (hT.2.2 _ z).2
      have nb : t (tst t n q) ≠ 32 ∧ t (tst t n q) ≠ 10 := ⟨fun z2 => a4 ⟨by omega, by unfold bl; simp [z2]⟩, fun z2 => a4 ⟨by omega, by unfold bl; simp [z2]⟩⟩
      rw [if_pos z, if_neg (by rw [wl_32]; exact ne_w (by omega) (by omega) (by omega) (by omega) (by omega)), if_neg (by rw [wl_10]; exact ne_w (by omega) (by omega) (by omega) (by omega) (by omega))]
    · rw [if_neg z, if_neg (by decide), if_neg (by decide)]
theorem r_l76 (hT : TMx h t n) (hq : q ≤ n) (e28 : hfi h 193 28 = w32 (tst t n q : Nat)) (hw : tso t n q = 1) : ∃ h1, f_X12_stepOn_l76 FU h = some h1 ∧ FK K28 h h1 ∧ hfi h1 193 28 = w32 (ten t n q : Nat) := by
  have rg := tok_rg (t := t) hq
  obtain ⟨a3, a4⟩ := tok_same (t := t) hq (Or.inl hw)
  have hn := hT.2.1
  have k29 : ¬ K28 29 := by unfold K28; omega
  refine loopR f_X12_stepOn_l76 (fun i s => FK K28 h s ∧ hfi s 193 28 = w32 (tst t n q + i : Nat)) (fun r => FK K28 h r ∧ hfi r 193 28 = w32 (ten t n q : Nat)) (ten t n q - tst t n q) (fun i k s hi hP => ?_) (fun k s hP => ?_) FU (by unfold FU; omega) h ⟨FK.rf, e28⟩
  · obtain ⟨f1, e1⟩ := hP
    obtain ⟨b1, b2⟩ := a3 (tst t n q + i) (by omega) (by omega)
    have T1 := hT.fk f1 k29
    refine ⟨sfi s 193 28 (w32 (tst t n q + (i + 1) : Nat)), ⟨f1.tr (FK.w _ _ _ rfl), fi_sfi_eq _ _ _ _⟩, ?_⟩
    rw [f_X12_stepOn_l76, e1, r_byte T1 (by omega), if_pos b1, bnd_s, e_let (hT.2.2 _ b1).2, if_pos (by rw [b2, hw]; rfl), wl_1, w_add, w_s]
    rfl
  · obtain ⟨f1, e1⟩ := hP
    rw [show tst t n q + (ten t n q - tst t n q) = ten t n q by omega] at e1
    have T1 := hT.fk f1 k29
    refine ⟨s, ?_, f1, e1⟩
    rw [f_X12_stepOn_l76, e1, r_byte T1 (by omega), bnd_s]
    by_cases z : ten t n q < n
    · rw [if_pos z, e_let (hT.2.2 _ z).2, if_neg (by rw [decide_eq_true_eq]; intro y; exact a4 ⟨z, y.trans hw.symm⟩)]
    · rw [if_neg z, if_neg (by decide)]
theorem r_l123 (hT : TMx h t n) (hq : q ≤ n) (e28 : hfi h 193 28 = w32 (tst t n q : Nat)) (e31 : hfi h 193 31 = 0) (hw : tso t n q = 2) : ∃ h1, f_X12_stepOn_l123 FU h = some h1 ∧ FK K31 h h1 ∧ hfi h1 193 28 = w32 (ten t n q : Nat) ∧ hfi h1 193 31 = w32 (cvk t (tst t n q) (ten t n q - tst t n q)) := by
  have rg := tok_rg (t := t) hq
  obtain ⟨a3, a4⟩ := tok_same (t := t) hq (Or.inr hw)
  have hn := hT.2.1
  have k29 : ¬ K31 29 := by unfold K31; omega
  refine loopR f_X12_stepOn_l123 (fun i s => FK K31 h s ∧ hfi s 193 28 = w32 (tst t n q + i : Nat) ∧ hfi s 193 31 = w32 (cvk t (tst t n q) i)) (fun r => FK K31 h r ∧ hfi r 193 28 = w32 (ten t n q : Nat) ∧ hfi r 193 31 = w32 (cvk t (tst t n q) (ten t n q - tst t n q))) (ten t n q - tst t n q) (fun i k s hi hP => ?_) (fun k s hP => ?_) FU (by unfold FU; omega) h ⟨FK.rf, e28, e31⟩
  · obtain ⟨f1, e1, e2⟩ := hP
    obtain ⟨b1, b2⟩ := a3 (tst t n q + i) (by omega) (by omega)
    have T1 := hT.fk f1 k29
    have cr := cvk_rg (t := t) (s := tst t n q) (m := i) (fun j z1 z2 => srt_2 ((a3 j z1 (by omega)).2.trans hw)) i (Nat.le_refl _)
    have dd := srt_2 (b2.trans hw)
    refine ⟨sfi (sfi s 193 31 (w32 (cvk t (tst t n q) (i + 1)))) 193 28 (w32 (tst t n q + (i + 1) : Nat)), ⟨(f1.tr (FK.w _ _ _ (Or.inr rfl))).tr (FK.w _ _ _ (Or.inl rfl)), fi_sfi_eq _ _ _ _, by rw [fi_sfi_nk _ _ _ _ _ (by omega), fi_sfi_eq]⟩, ?_⟩
    rw [f_X12_stepOn_l123, e1, r_byte T1 (by omega), if_pos b1, bnd_s, e_dig (hT.2.2 _ b1).2, if_pos (by rw [b2, hw]; rfl), bnd_s, e2, lt_b, fi_sfi_nk _ _ _ _ _ (show 28 ≠ 31 by omega), e1, wl_1, w_add, w_s, lt_b, wl_10, w_mul, w_add, wl_48, w_sub, show f_J9_min_7cf53 100000 (w32 (10 * cvk t (tst t n q) i + (t (tst t n q + i) : Nat) - 48)) = w32 (cvk t (tst t n q) (i + 1)) from e_min 100000 _ (by omega) (by omega) (by omega) (by omega)]
    rfl
  · obtain ⟨f1, e1, e2⟩ := hP
    rw [show tst t n q + (ten t n q - tst t n q) = ten t n q by omega] at e1
    have T1 := hT.fk f1 k29
    refine ⟨s, ?_, f1, e1, e2⟩
    rw [f_X12_stepOn_l123, e1, r_byte T1 (by omega), bnd_s]
    by_cases z : ten t n q < n
    · rw [if_pos z, e_dig (hT.2.2 _ z).2, if_neg (by rw [decide_eq_true_eq]; intro y; exact a4 ⟨z, y.trans hw.symm⟩)]
    · rw [if_neg z, if_neg (by decide)]
theorem r_step (hT : TMx h t n) (hq : q ≤ n) (e28 : hfi h 193 28 = w32 (q : Nat)) : ∃ h1, f_X12_stepOn h = some h1 ∧ FK KTo h h1 ∧ hfi h1 193 28 = w32 (ten t n q : Nat) ∧ hfi h1 193 30 = w32 (tso t n q : Nat) ∧ hfi h1 193 32 = w32 (tst t n q : Nat) ∧ hfi h1 193 33 = w32 (ten t n q : Nat) ∧ (tso t n q = 2 → hfi h1 193 31 = w32 (cvk t (tst t n q) (ten t n q - tst t n q))) := by
  obtain ⟨h1, e1, f1, g1⟩ := r_l0 hT hq e28
  have rg := tok_rg (t := t) hq
  have hn := hT.2.1
  have f1 : FK KTo h h1 := f1.mono (fun k z => Or.inl z)
  have F2 : FK KTo h (sfi h1 193 32 (w32 (tst t n q : Nat))) := f1.tr (FK.w _ _ _ (Or.inr (by omega)))
  have T2 : TMx (sfi h1 193 32 (w32 (tst t n q : Nat))) t n := hT.fk F2 (by unfold KTo; omega)
  unfold f_X12_stepOn
  rw [e1, bnd_s, lt_b, g1]
  generalize hk : sfi h1 193 32 (w32 (tst t n q : Nat)) = k1 at F2 T2
  have g28 : hfi k1 193 28 = w32 (tst t n q : Nat) := by rw [← hk, fi_sfi_nk _ _ _ _ _ (by omega)]; exact g1
  have g32 : hfi k1 193 32 = w32 (tst t n q : Nat) := by rw [← hk]; exact fi_sfi_eq _ _ _ _
  rw [g28, r_byte T2 rg.2.1, bnd_s]
  by_cases z : tst t n q < n
  · have c2 := (hT.2.2 _ z).2
    have es : srt (t (tst t n q)) = tso t n q := by unfold tso; rw [if_pos z]
    have sr := srt_rg (t (tst t n q))
    rw [if_pos z, if_neg (by rw [show (-1 : Int32) = w32 (-1) from rfl]; exact ne_w (by omega) (by omega) (by omega) (by omega) (by omega)), e_let c2, e_dig c2, es]
    by_cases z1 : tso t n q = 1
    · rw [if_pos (by rw [z1]; rfl)]
      obtain ⟨h3, e3, f3, g3⟩ := r_l76 T2 hq g28 z1
      rw [e3, bnd_s]
      refine ⟨_, rfl, ((F2.tr (f3.mono (fun k y => Or.inl y))).tr (FK.w _ 30 _ (Or.inr (by omega)))).tr (FK.w _ 33 _ (Or.inr (by omega))), ?_, ?_, ?_, ?_, fun y => by omega⟩
      · simp (disch := omega) only [fi_sfi_nk]; exact g3
      · simp (disch := omega) only [fi_sfi_nk, fi_sfi_eq]; rw [z1]; rfl
      · simp (disch := omega) only [fi_sfi_nk]; rw [f3.2 32 (by unfold K28; omega)]; exact g32
      · rw [fi_sfi_eq]; simp (disch := omega) only [fi_sfi_nk]; exact g3
    · rw [if_neg (by rw [decide_eq_true_eq]; exact z1)]
      by_cases z2 : tso t n q = 2
      · rw [if_pos (by rw [z2]; rfl), lt_b]
        have F3 : FK KTo h (sfi k1 193 31 0) := F2.tr (FK.w _ _ _ (Or.inr (by omega)))
        obtain ⟨h3, e3, f3, g3, g4⟩ := r_l123 (hT.fk F3 (by unfold KTo; omega)) hq (by rw [fi_sfi_nk _ _ _ _ _ (by omega)]; exact g28) (fi_sfi_eq _ _ _ _) z2
        rw [e3, bnd_s]
        refine ⟨_, rfl, ((F3.tr (f3.mono (fun k y => by unfold K31 at y; unfold KTo; omega))).tr (FK.w _ 30 _ (Or.inr (by omega)))).tr (FK.w _ 33 _ (Or.inr (by omega))), ?_, ?_, ?_, ?_, fun y => ?_⟩
        · simp (disch := omega) only [fi_sfi_nk]; exact g3
        · simp (disch := omega) only [fi_sfi_nk, fi_sfi_eq]; rw [z2]; rfl
        · simp (disch := omega) only [fi_sfi_nk]; rw [f3.2 32 (by unfold K31; omega), fi_sfi_nk _ _ _ _ _ (by omega)]; exact g32
        · rw [fi_sfi_eq]; simp (disch := omega) only [fi_sfi_nk]; exact g3
        · simp (disch := omega) only [fi_sfi_nk]; exact g4
      · have ee : ten t n q = tst t n q + 1 := by unfold ten; rw [if_pos z, if_neg (by omega)]
        rw [if_neg (by rw [decide_eq_true_eq]; exact z2), lt_b, wl_1, w_add, w_s, show w32 (tst t n q + 1 : Nat) = w32 (ten t n q : Nat) by rw [ee]]
        have sm : (t (tst t n q) = 59) ↔ tso t n q = 3 := by
          rw [← es] at z1 z2 ⊢
          unfold srt at z1 z2 ⊢
          split
          · omega
          · split
            · omega
            · split <;> omega
        by_cases z3 : t (tst t n q) = 59
        · rw [if_pos (by rw [e_semi c2]; exact z3)]
          refine ⟨_, rfl, (((F2.tr (FK.w _ 28 _ (Or.inl rfl))).tr (FK.w _ 30 _ (Or.inr (by omega)))).tr (FK.w _ 33 _ (Or.inr (by omega)))), ?_, ?_, ?_, ?_, fun y => by omega⟩
          · simp (disch := omega) only [fi_sfi_nk, fi_sfi_eq]
          · simp (disch := omega) only [fi_sfi_nk, fi_sfi_eq]; rw [sm.1 z3]; rfl
          · simp (disch := omega) only [fi_sfi_nk]; exact g32
          · simp (disch := omega) only [fi_sfi_nk, fi_sfi_eq]
        · rw [if_neg (by rw [e_semi c2]; exact z3)]
          refine ⟨_, rfl, (((F2.tr (FK.w _ 28 _ (Or.inl rfl))).tr (FK.w _ 30 _ (Or.inr (by omega)))).tr (FK.w _ 33 _ (Or.inr (by omega)))), ?_, ?_, ?_, ?_, fun y => by omega⟩
          · simp (disch := omega) only [fi_sfi_nk, fi_sfi_eq]
          · simp (disch := omega) only [fi_sfi_nk, fi_sfi_eq]; rw [show tso t n q = 4 by have : ¬ tso t n q = 3 := fun y => z3 (sm.2 y); omega]; rfl
          · simp (disch := omega) only [fi_sfi_nk]; exact g32
          · simp (disch := omega) only [fi_sfi_nk, fi_sfi_eq]
  · have s0 : tso t n q = 0 := by unfold tso; rw [if_neg z]
    have n0 : ten t n q = tst t n q := by unfold ten; rw [if_neg z]
    rw [if_neg z, if_pos rfl]
    refine ⟨_, rfl, (F2.tr (FK.w _ 30 _ (Or.inr (by omega)))).tr (FK.w _ 33 _ (Or.inr (by omega))), ?_, ?_, ?_, ?_, fun y => by omega⟩
    · simp (disch := omega) only [fi_sfi_nk]; rw [n0]; exact g28
    · simp (disch := omega) only [fi_sfi_nk, fi_sfi_eq]; rw [s0]; rfl
    · simp (disch := omega) only [fi_sfi_nk]; exact g32
    · simp (disch := omega) only [fi_sfi_nk, fi_sfi_eq]; rw [n0]; exact g28
def SM (h : AH) (t : Nat → Nat) (n q : Nat) : Prop := TMx h t n ∧ q ≤ n ∧ hfi h 193 34 = 0 ∧ hfi h 193 28 = w32 (ten t n q : Nat) ∧ hfi h 193 30 = w32 (tso t n q : Nat) ∧ hfi h 193 32 = w32 (tst t n q : Nat) ∧ hfi h 193 33 = w32 (ten t n q : Nat) ∧ (tso t n q = 2 → hfi h 193 31 = w32 (cvk t (tst t n q) (ten t n q - tst t n q)))
def EM (h : AH) (e : Nat × Nat) : Prop := hfi h 193 34 = w32 (e.1 : Nat) ∧ 1 ≤ e.1 ∧ e.1 ≤ 5 ∧ hfi h 193 35 = w32 (e.2 : Nat)
theorem EM.ne {e : Nat × Nat} (x : EM h e) : ¬ hfi h 193 34 = 0 := by
  rw [x.1, wl_0]
  exact ne_w (by have := x.2.1; have := x.2.2.1; omega) (by have := x.2.1; have := x.2.2.1; omega) (by omega) (by omega) (by have := x.2.1; omega)
theorem SM.step (x : SM h t n q) : ∃ h1, f_X12_stepOn h = some h1 ∧ FK KTe h h1 ∧ SM h1 t n (ten t n q) := by
  obtain ⟨x1, x2, x3, x4, -⟩ := x
  have rg := tok_rg (t := t) x2
  obtain ⟨h1, e1, f1, a1, a2, a3, a4, a5⟩ := r_step x1 (q := ten t n q) (by omega) x4
  exact ⟨h1, e1, f1.mono (fun k y => by unfold KTo at y; unfold KTe; omega), x1.fk f1 (by unfold KTo; omega), by omega, (f1.2 34 (by unfold KTo; omega)).trans x3, a1, a2, a3, a4, a5⟩
theorem SM.wrong (x : SM h t n q) {c : Nat} (hc : 1 ≤ c ∧ c ≤ 5) : ∃ h1, f_X12_wrong (w32 (c : Nat)) h = some h1 ∧ FK KTe h h1 ∧ EM h1 (c, tst t n q) ∧ hfi h1 193 31 = hfi h 193 31 := by
  obtain ⟨x1, x2, x3, x4, x5, x6, -⟩ := x
  refine ⟨sfi (sfi h 193 34 (w32 (c : Nat))) 193 35 (w32 (tst t n q : Nat)), ?_, (FK.w _ _ _ (Or.inr (by omega))).tr (FK.w _ _ _ (Or.inr (by omega))), ⟨?_, hc.1, hc.2, fi_sfi_eq _ _ _ _⟩, ?_⟩
  · unfold f_X12_wrong
    rw [if_pos x3, lt_b, fi_sfi_nk _ _ _ _ _ (by omega), x6]
    rfl
  · rw [fi_sfi_nk _ _ _ _ _ (by omega), fi_sfi_eq]
  · simp (disch := omega) only [fi_sfi_nk]
theorem EM.wrong {e : Nat × Nat} (x : EM h e) (c : Int32) : f_X12_wrong c h = some h := by
  unfold f_X12_wrong
  rw [if_neg x.ne]
theorem EM.num {e : Nat × Nat} (x : EM h e) (lo hi : Int32) : f_X12_readNumber lo hi h = some (0, h) := by
  unfold f_X12_readNumber
  rw [if_neg x.ne]
theorem EM.semi {e : Nat × Nat} (x : EM h e) : f_X12_semi h = some h := by
  unfold f_X12_semi
  rw [if_neg x.ne, if_neg x.ne]
theorem EM.is {e : Nat × Nat} (x : EM h e) (i : Nat) : f_X12_is i h = some false := by
  unfold f_X12_is
  rw [lt_b, if_neg x.ne]
  show bnd (f_X12_is_l39 i h (999 + 1) false 0) _ = _
  rw [f_X12_is_l39, if_neg (by decide), bnd_s]
theorem EM.perhaps {e : Nat × Nat} (x : EM h e) (i : Nat) (a b : Int32) : f_X12_perhaps i a b h = some (b, h) := by
  unfold f_X12_perhaps f_X12_passes
  rw [x.is i, bnd_s, if_neg (by decide), bnd_s]
  dsimp only
  rw [if_neg (by decide)]
theorem SM.is (x : SM h t n q) {i : Nat} (hi : i < 35) (hl : wl i ≤ 20) : (wd t n i q → f_X12_is i h = some true) ∧ (¬ wd t n i q → f_X12_is i h = some false) := by
  obtain ⟨x1, x2, x3, x4, x5, x6, x7, -⟩ := x
  have rg := tok_rg (t := t) x2
  have hn := x1.2.1
  have sl : slen i = w32 (wl i : Nat) := rfl
  have lf : ∀ (k : Nat) (v : Int32), f_X12_is_l39 i h (k + 1) false v = some false := fun k v => by rw [f_X12_is_l39, if_neg (by decide)]
  unfold f_X12_is
  rw [lt_b, if_pos x3, x5, gd_t hi, sl, x7, x6, w_sub]
  have i1 : (w32 (tso t n q : Nat) = 1) = (tso t n q = 1) := by rw [wl_1, w_eq _ _ (by omega) (by omega) (by omega) (by omega)]; apply propext; omega
  have i2 : (w32 (wl i : Nat) = w32 ((ten t n q : Int) - (tst t n q : Int))) = (wl i = ten t n q - tst t n q) := by rw [w_eq _ _ (by omega) (by omega) (by omega) (by omega)]; apply propext; omega
  simp only [i1, i2]
  by_cases z1 : tso t n q = 1
  · rw [if_pos z1]
    have rs := rg.2.2.2.2.1 (by omega)
    by_cases z2 : wl i = ten t n q - tst t n q
    · rw [if_pos z2]
      have sc := scan (fun k (v : Int32) => f_X12_is_l39 i h (k + 1) true v) (fun k => w32 (k : Nat)) (wl i) (fun k => w32 (t (tst t n q + k) : Nat) = schr i (w32 (k : Nat))) true (fun _ => false) (fun k m hk hP => by
          show f_X12_is_l39 i h (m + 1 + 1) true (w32 k) = f_X12_is_l39 i h (m + 1) true (w32 (k + 1 : Nat))
          rw [f_X12_is_l39, if_pos rfl, gd_t hi, sl, if_neg (by rw [w_le _ _ (by omega) (by omega) (by omega) (by omega)]; omega), x6, show w32 (tst t n q : Nat) + w32 (k : Nat) = w32 (tst t n q + k : Nat) from by rw [w_add]; exact ww (by omega), gd_t ⟨hi, by rw [w_ibN _ _ (by omega)]; exact hk⟩, gd_t (by rw [w_ibN _ _ (by omega)]; omega), w_clN _ (by omega), (x1.2.2 _ (by omega)).1, if_pos hP.symm, wl_1, w_add, w_s]) (fun k m hk hP => by
          show f_X12_is_l39 i h (m + 1 + 1) true (w32 k) = _
          rw [f_X12_is_l39, if_pos rfl, gd_t hi, sl, if_neg (by rw [w_le _ _ (by omega) (by omega) (by omega) (by omega)]; omega), x6, show w32 (tst t n q : Nat) + w32 (k : Nat) = w32 (tst t n q + k : Nat) from by rw [w_add]; exact ww (by omega), gd_t ⟨hi, by rw [w_ibN _ _ (by omega)]; exact hk⟩, gd_t (by rw [w_ibN _ _ (by omega)]; omega), w_clN _ (by omega), (x1.2.2 _ (by omega)).1, if_neg (fun y => hP y.symm), lf]) (fun m => by
          show f_X12_is_l39 i h (m + 1 + 1) true (w32 (wl i : Nat)) = _
          rw [f_X12_is_l39, if_pos rfl, gd_t hi, sl, if_pos (Int32.le_refl _)]) 999 (by omega)
      constructor
      · intro w
        rw [show f_X12_is_l39 i h FU true 0 = _ from sc.1 w.2.2, bnd_s]
      · intro w
        rcases first_of (fun k => w32 (t (tst t n q + k) : Nat) = schr i (w32 (k : Nat))) (wl i) with hall | ⟨j, hj, hnj, hbef⟩
        · exact absurd ⟨z1, z2, hall⟩ w
        · rw [show f_X12_is_l39 i h FU true 0 = _ from sc.2 j hj hnj hbef, bnd_s]
    · rw [if_neg z2, show f_X12_is_l39 i h FU false 0 = _ from lf 999 0, bnd_s]
      exact ⟨fun w => absurd w.2.1 z2, fun _ => rfl⟩
  · rw [if_neg z1, show f_X12_is_l39 i h FU false 0 = _ from lf 999 0, bnd_s]
    exact ⟨fun w => absurd w.1 z1, fun _ => rfl⟩
theorem SM.which (x : SM h t n q) {a m : Nat} (hm : m ≤ 4) (hs : ∀ j, j < m → strAt a j < 35 ∧ wl (strAt a j) ≤ 20) : ((∀ j, j < m → ¬ wd t n (strAt a j) q) → f_X12_which a m h = some (-1)) ∧ (∀ j, j < m → wd t n (strAt a j) q → (∀ i, i < j → ¬ wd t n (strAt a i) q) → f_X12_which a m h = some (w32 (j : Nat))) := by
  have em : Int32.ofNat m = w32 (m : Nat) := by
    rcases (show m = 0 ∨ m = 1 ∨ m = 2 ∨ m = 3 ∨ m = 4 by omega) with rfl | rfl | rfl | rfl | rfl <;> rfl
  have sc := scan (fun k (v : Int32) => f_X12_which_l2 a m h k v) (fun k => w32 (k : Nat)) m (fun j => ¬ wd t n (strAt a j) q) (.inl ()) (fun j => .inr (w32 (j : Nat))) (fun j k hj hP => by
      show f_X12_which_l2 a m h (k + 1) (w32 j) = f_X12_which_l2 a m h k (w32 (j + 1 : Nat))
      rw [f_X12_which_l2, em, if_neg (by rw [w_le _ _ (by omega) (by omega) (by omega) (by omega)]; omega), gd_t (by rw [w_ibN _ _ (by omega)]; exact hj), w_clN _ (by omega), (x.is (hs j hj).1 (hs j hj).2).2 hP, bnd_s, if_neg (by decide), wl_1, w_add, w_s]) (fun j k hj hP => by
      show f_X12_which_l2 a m h (k + 1) (w32 j) = _
      rw [f_X12_which_l2, em, if_neg (by rw [w_le _ _ (by omega) (by omega) (by omega) (by omega)]; omega), gd_t (by rw [w_ibN _ _ (by omega)]; exact hj), w_clN _ (by omega), (x.is (hs j hj).1 (hs j hj).2).1 (Classical.not_not.1 hP), bnd_s, if_pos rfl]) (fun k => by
      show f_X12_which_l2 a m h (k + 1) (w32 (m : Nat)) = _
      rw [f_X12_which_l2, em, if_pos (Int32.le_refl _)]) FU (by unfold FU; omega)
  unfold f_X12_which
  exact ⟨fun hall => by rw [show f_X12_which_l2 a m h FU 0 = _ from sc.1 hall, bnd_s]; rfl, fun j hj hw hb => by rw [show f_X12_which_l2 a m h FU 0 = _ from sc.2 j hj (fun z => z hw) hb, bnd_s]; rfl⟩
theorem SM.num (x : SM h t n q) {lo hi : Nat} (hhi : hi ≤ 9999) (hlo : lo ≤ 9999) : (∀ v, pn t n lo hi q = .inr v → ∃ h1, f_X12_readNumber (w32 (lo : Nat)) (w32 (hi : Nat)) h = some (w32 (v : Nat), h1) ∧ FK KTe h h1 ∧ SM h1 t n (ten t n q)) ∧ (∀ e, pn t n lo hi q = .inl e → ∃ v h1, f_X12_readNumber (w32 (lo : Nat)) (w32 (hi : Nat)) h = some (v, h1) ∧ FK KTe h h1 ∧ EM h1 e) := by
  obtain ⟨x1, x2, x3, x4, x5, x6, x7, x8⟩ := id x
  have rg := tok_rg (t := t) x2
  have hn := x1.2.1
  have i1 : (w32 (tso t n q : Nat) = 2) = (tso t n q = 2) := by rw [wl_2, w_eq _ _ (by omega) (by omega) (by omega) (by omega)]; apply propext; omega
  unfold f_X12_readNumber pn
  rw [if_pos x3, x5, x7, x6, w_sub, lt_b]
  by_cases z : tso t n q = 2
  · rw [if_pos (show w32 (tso t n q : Nat) = 2 by rw [i1]; exact z), if_neg (show ¬ (tso t n q ≠ 2) from fun y => y z), x8 z]
    have dg := tok_dig x2 z
    obtain ⟨h1, e1, f1, g1, g2⟩ := x.wrong (c := 2) (by omega)
    have e1 : f_X12_wrong 2 h = some h1 := e1
    by_cases z4 : 4 < ten t n q - tst t n q
    · have tv : tvl t n q = 2147483647 := by unfold tvl; rw [if_pos z4]
      rw [if_neg (show ¬ ((lo : Int) ≤ tvl t n q ∧ tvl t n q ≤ hi) by rw [tv]; omega), if_pos (by rw [wl_4, w_lt _ _ (by omega) (by omega) (by omega) (by omega)]; omega), e1, bnd_s]
      dsimp only
      rw [if_neg g1.ne]
      refine ⟨fun v ev => (by cases ev), fun e ev => ?_⟩
      cases ev
      exact ⟨_, h1, rfl, f1, g1⟩
    · have tv : tvl t n q = nvk t (tst t n q) (ten t n q - tst t n q) := by unfold tvl; rw [if_neg z4]
      have cv := cvk_eq (t := t) (s := tst t n q) (m := ten t n q - tst t n q) (fun j h1 h2 => dg j h1 (by omega)) _ (Nat.le_refl _) (by omega)
      have rv := nvk_4 (t := t) (s := tst t n q) (m := ten t n q - tst t n q) (fun j h1 h2 => dg j h1 (by omega)) (by omega)
      rw [← tv] at cv rv
      rw [if_neg (show ¬ ((4 : Int32) < w32 ((ten t n q : Int) - (tst t n q : Int))) by rw [wl_4, w_lt _ _ (by omega) (by omega) (by omega) (by omega)]; omega), cv]
      by_cases z3 : (lo : Int) ≤ tvl t n q ∧ tvl t n q ≤ hi
      · rw [if_pos z3, if_neg (by rw [w_lt _ _ (by omega) (by omega) (by omega) (by omega)]; omega), if_pos (by rw [w_le _ _ (by omega) (by omega) (by omega) (by omega)]; omega)]
        dsimp only
        rw [if_pos x3]
        obtain ⟨h2, e2, f2, s2⟩ := x.step
        refine ⟨fun v ev => ?_, fun e ev => by cases ev⟩
        cases ev
        exact ⟨h2, by rw [e2, bnd_s, x8 z, cv, show ((tvl t n q).toNat : Int) = tvl t n q by omega], f2, s2⟩
      · rw [if_neg z3]
        refine ⟨fun v ev => (by cases ev), fun e ev => ?_⟩
        cases ev
        refine ⟨hfi h1 193 31, h1, ?_, f1, g1⟩
        rw [e1]
        by_cases z5 : tvl t n q < lo
        · rw [if_pos (by rw [w_lt _ _ (by omega) (by omega) (by omega) (by omega)]; omega), bnd_s]; dsimp only; rw [if_neg g1.ne]
        · rw [if_neg (by rw [w_lt _ _ (by omega) (by omega) (by omega) (by omega)]; omega), if_neg (by rw [w_le _ _ (by omega) (by omega) (by omega) (by omega)]; omega), bnd_s]; dsimp only; rw [if_neg g1.ne]
  · rw [if_neg (show ¬ (w32 (tso t n q : Nat) = 2) by rw [i1]; exact z), if_pos (show tso t n q ≠ 2 from z)]
    obtain ⟨h1, e1, f1, g1, g2⟩ := x.wrong (c := 1) (by omega)
    have e1 : f_X12_wrong 1 h = some h1 := e1
    refine ⟨fun v ev => (by cases ev), fun e ev => ?_⟩
    cases ev
    exact ⟨_, h1, by rw [e1, bnd_s]; dsimp only; rw [if_neg g1.ne], f1, g1⟩
theorem SM.fin (x : SM h t n q) : (tso t n q = 3 → ∃ h1, f_X12_semi h = some h1 ∧ FK KTe h h1 ∧ SM h1 t n (ten t n q)) ∧ (tso t n q ≠ 3 → ∃ h1, f_X12_semi h = some h1 ∧ FK KTe h h1 ∧ EM h1 (1, tst t n q)) := by
  obtain ⟨x1, x2, x3, x4, x5, x6, x7, x8⟩ := id x
  have rg := tok_rg (t := t) x2
  unfold f_X12_semi
  rw [if_pos x3, x5]
  have i1 : (w32 (tso t n q : Nat) = 3) = (tso t n q = 3) := by rw [wl_3, w_eq _ _ (by omega) (by omega) (by omega) (by omega)]; apply propext; omega
  constructor
  · intro z
    obtain ⟨h1, e1, f1, s1⟩ := x.step
    exact ⟨h1, by rw [if_pos (by rw [i1]; exact z), if_pos x3, e1, bnd_s], f1, s1⟩
  · intro z
    obtain ⟨h1, e1, f1, s1, -⟩ := x.wrong (c := 1) (by omega)
    have e1 : f_X12_wrong 1 h = some h1 := e1
    exact ⟨h1, by rw [if_neg (by rw [i1]; exact z), e1, bnd_s, if_neg s1.ne], f1, s1⟩
theorem SM.zero (x : SM h t n q) : (hfi h 193 30 = 0) = (tso t n q = 0) := by
  have rg := tok_rg (t := t) x.2.1
  rw [x.2.2.2.2.1, wl_0, w_eq _ _ (by omega) (by omega) (by omega) (by omega)]; apply propext; omega
theorem SM.fr {h1 : AH} (x : SM h t n q) (a : hfi h1 193 = hfi h 193) (b : hia h1 219 = hia h 219) : SM h1 t n q := by
  unfold SM TMx
  rw [a, b]
  exact x
theorem EM.fr {h1 : AH} {e : Nat × Nat} (x : EM h e) (a : hfi h1 193 = hfi h 193) : EM h1 e := by
  unfold EM
  rw [a]
  exact x
end TOM
theorem SC.fr {h h1 : AH} {t : Nat → Nat} {n q : Nat} (x : SC h t n q) (a : hfi h1 1 = hfi h 1) (b : hia h1 2 = hia h 2) : SC h1 t n q := by
  unfold SC TX
  rw [a, b]
  exact x
theorem ER.fr {h h1 : AH} {e : Nat × Nat} (x : ER h e) (a : hfi h1 1 = hfi h 1) : ER h1 e := by
  unfold ER
  rw [a]
  exact x
/-- the same word -/
theorem wd_same {t : Nat → Nat} {n q a b : Nat} (h1 : wl a = wl b) (h2 : ∀ k, k < wl a → schr a (w32 (k : Nat)) = schr b (w32 (k : Nat))) : wd t n a q ↔ wd t n b q := by
  unfold wd
  rw [h1] at h2 ⊢
  constructor
  · rintro ⟨x, y, z⟩
    exact ⟨x, y, fun k hk => (z k hk).trans (h2 k hk)⟩
  · rintro ⟨x, y, z⟩
    exact ⟨x, y, fun k hk => (z k hk).trans (h2 k hk).symm⟩
def wdB (t : Nat → Nat) (n i q : Nat) : Bool := decide (tso t n q = 1 ∧ wl i = ten t n q - tst t n q ∧ ∀ k, k < wl i → w32 (t (tst t n q + k) : Nat) = schr i (w32 (k : Nat)))
theorem wdB_t {t : Nat → Nat} {n i q : Nat} : wdB t n i q = true ↔ wd t n i q := decide_eq_true_iff
