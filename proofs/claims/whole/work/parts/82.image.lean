/-! the image -/
def WX (h : AH) (p : Nat) (c : Nat) : Prop := ∃ b, b < 6 ∧ (c = hra h 3 b + p + 1 ∨ c = hra h 3 b + p + 2)
def sI (S : SV) : SV := (xb S, xg S, xg S, xa S, xw S, xn S, xt S, xf S, true, xs4 S, xs4 S, xm S, xtt S, xtg S, xfx S, xfy S)
def sR (S : SV) : SV := (xb S, xk S, xk S, xa S, xw S, xn S, xt S, xf S, xi S, xks S, xks S, xm S, xtt S, xtg S, xfx S, xfy S)
section IMG
variable {h : AH} {S : SV} {T : Nat}
theorem bk_ne (hA : AD h) {b c : Nat} (hb : b < 6) (hc : c < 6) (h1 : b ≠ c) : hra h 3 b + 18 ≤ hra h 3 c ∨ hra h 3 c + 18 ≤ hra h 3 b := by
  have x1 := (hA.1 b hb).1
  have x2 := (hA.1 c hc).1
  have x3 := (hA.1 c hc).2.2 b hb h1
  unfold isB at x1 x2
  omega
theorem WX_out (hA : AD h) {p : Nat} (hp : p = 7 ∨ p = 10) : (∀ c, (c ≤ 5 ∨ (24 ≤ c ∧ c ≤ 66) ∨ 175 ≤ c) → ¬ WX h p c) ∧ ∀ b, b < 6 → ∀ c, hra h 3 b ≤ c → c ≤ hra h 3 b + 17 → (c ≠ hra h 3 b + p + 1 ∧ c ≠ hra h 3 b + p + 2) → ¬ WX h p c := by
  constructor
  · intro c hc ⟨b, hb, e⟩
    have x1 := (hA.1 b hb).1
    unfold isB at x1
    omega
  · intro b hb c h1 h2 h3 ⟨d, hd, e⟩
    by_cases q : d = b
    · subst q; omega
    · have := bk_ne hA hd hb q; omega
theorem k_img (hA : AD h) : ∃ h1, f_X11_image_l2 FU 0 h = some h1 ∧ Fr (WX h 10) h h1 ∧ ∀ b, b < 6 → ∀ l, l < 40 → hia h1 (hra h 3 b + 10 + 1) l = hia h (hra h 3 b + 7 + 1) l ∧ hia h1 (hra h 3 b + 10 + 2) l = hia h (hra h 3 b + 7 + 2) l :=
  loopR (fun n (s : Int32 × AH) => f_X11_image_l2 n s.1 s.2) (fun i s => s.1 = w32 (i : Nat) ∧ Fr (WX h 10) h s.2 ∧ ∀ b, b < i → ∀ l, l < 40 → hia s.2 (hra h 3 b + 10 + 1) l = hia h (hra h 3 b + 7 + 1) l ∧ hia s.2 (hra h 3 b + 10 + 2) l = hia h (hra h 3 b + 7 + 2) l) (fun h1 => Fr (WX h 10) h h1 ∧ ∀ b, b < 6 → ∀ l, l < 40 → hia h1 (hra h 3 b + 10 + 1) l = hia h (hra h 3 b + 7 + 1) l ∧ hia h1 (hra h 3 b + 10 + 2) l = hia h (hra h 3 b + 7 + 2) l) 6 (fun i n s hi hP => by
      obtain ⟨v1, hh⟩ := s
      obtain ⟨p1, p2, p3⟩ := hP
      dsimp only at p1 p2 p3
      subst p1
      have isX := (hA.1 i hi).1
      have sX := isB_sh isX
      have ds := WX_out hA (p := 10) (by omega)
      have r3 : hra hh 3 = hra h 3 := (p2 3 (ds.1 3 (by omega))).2.2.2.2
      have q1 : hia hh (hra h 3 i + 7 + 1) = hia h (hra h 3 i + 7 + 1) := (p2 _ (ds.2 i hi _ (by omega) (by omega) (by omega))).2.2.1
      have q2 : hia hh (hra h 3 i + 7 + 2) = hia h (hra h 3 i + 7 + 2) := (p2 _ (ds.2 i hi _ (by omega) (by omega) (by omega))).2.2.1
      refine ⟨(w32 (i + 1 : Nat), sir (sir hh (hra h 3 i + 10 + 1) (va_cpy (hia h (hra h 3 i + 7 + 1)) (hia hh (hra h 3 i + 10 + 1)) 0 0 40)) (hra h 3 i + 10 + 2) (va_cpy (hia h (hra h 3 i + 7 + 2)) (hia hh (hra h 3 i + 10 + 2)) 0 0 40)), ⟨rfl, (p2.tr (Fr.sir _ _ _ ⟨i, hi, Or.inl rfl⟩)).tr (Fr.sir _ _ _ ⟨i, hi, Or.inr rfl⟩), fun b hb l hl => ?_⟩, ?_⟩
      · show hia (sir (sir hh _ _) _ _) (hra h 3 b + 10 + 1) l = _ ∧ hia (sir (sir hh _ _) _ _) (hra h 3 b + 10 + 2) l = _
        by_cases q : b = i
        · subst q
          rw [ia_sir_ne _ _ _ (hra h 3 b + 10 + 1) (by omega), ia_sir, ia_sir]
          unfold va_cpy
          rw [if_pos (by omega), if_pos (by omega), show 0 + (l - 0) = l by omega]
          exact ⟨rfl, rfl⟩
        · have ne := bk_ne hA (show b < 6 by omega) hi q
          rw [ia_sir_ne _ _ _ _ (by omega), ia_sir_ne _ _ _ _ (by omega), ia_sir_ne _ _ _ _ (by omega), ia_sir_ne _ _ _ _ (by omega)]
          exact p3 b (by omega) l hl
      · show f_X11_image_l2 (n + 1) (w32 i) hh = f_X11_image_l2 n (w32 (i + 1 : Nat)) _
        rw [f_X11_image_l2, if_neg (by rw [wl_6, w_le _ _ (by omega) (by omega) (by omega) (by omega)]; omega), gd_t (by rw [w_ibN _ _ (by omega)]; omega), w_clN _ (by omega), r3, gd_t sX, gd_t (by rw [w_ibN _ _ (by omega)]; omega), gd_t sX]
        unfold f_X3_copy
        rw [gd_t (by decide), lt_b, gd_t (by decide), lt_b, bnd_s, wl_1, w_add, w_s, q1, ia_sir_ne _ _ _ (hra h 3 i + 7 + 2) (by omega), q2, ia_sir_ne _ _ _ (hra h 3 i + 10 + 2) (by omega)]
        rfl) (fun n s hP => by
      obtain ⟨v1, hh⟩ := s
      obtain ⟨p1, p2⟩ := hP
      dsimp only at p1 p2
      subst p1
      refine ⟨hh, ?_, p2⟩
      show f_X11_image_l2 (n + 1) (w32 (6 : Nat)) hh = _
      rw [f_X11_image_l2, if_pos (by decide)]) FU (by decide) (0, h) ⟨rfl, Fr.rf, fun b hb => by omega⟩
theorem k_res (hA : AD h) : ∃ h1, f_X11_restore_l11 FU 0 h = some h1 ∧ Fr (WX h 7) h h1 ∧ ∀ b, b < 6 → ∀ l, l < 40 → hia h1 (hra h 3 b + 7 + 1) l = hia h (hra h 3 b + 10 + 1) l ∧ hia h1 (hra h 3 b + 7 + 2) l = hia h (hra h 3 b + 10 + 2) l :=
  loopR (fun n (s : Int32 × AH) => f_X11_restore_l11 n s.1 s.2) (fun i s => s.1 = w32 (i : Nat) ∧ Fr (WX h 7) h s.2 ∧ ∀ b, b < i → ∀ l, l < 40 → hia s.2 (hra h 3 b + 7 + 1) l = hia h (hra h 3 b + 10 + 1) l ∧ hia s.2 (hra h 3 b + 7 + 2) l = hia h (hra h 3 b + 10 + 2) l) (fun h1 => Fr (WX h 7) h h1 ∧ ∀ b, b < 6 → ∀ l, l < 40 → hia h1 (hra h 3 b + 7 + 1) l = hia h (hra h 3 b + 10 + 1) l ∧ hia h1 (hra h 3 b + 7 + 2) l = hia h (hra h 3 b + 10 + 2) l) 6 (fun i n s hi hP => by
      obtain ⟨v1, hh⟩ := s
      obtain ⟨p1, p2, p3⟩ := hP
      dsimp only at p1 p2 p3
      subst p1
      have isX := (hA.1 i hi).1
      have sX := isB_sh isX
      have ds := WX_out hA (p := 7) (by omega)
      have r3 : hra hh 3 = hra h 3 := (p2 3 (ds.1 3 (by omega))).2.2.2.2
      have q1 : hia hh (hra h 3 i + 10 + 1) = hia h (hra h 3 i + 10 + 1) := (p2 _ (ds.2 i hi _ (by omega) (by omega) (by omega))).2.2.1
      have q2 : hia hh (hra h 3 i + 10 + 2) = hia h (hra h 3 i + 10 + 2) := (p2 _ (ds.2 i hi _ (by omega) (by omega) (by omega))).2.2.1
      refine ⟨(w32 (i + 1 : Nat), sir (sir hh (hra h 3 i + 7 + 1) (va_cpy (hia h (hra h 3 i + 10 + 1)) (hia hh (hra h 3 i + 7 + 1)) 0 0 40)) (hra h 3 i + 7 + 2) (va_cpy (hia h (hra h 3 i + 10 + 2)) (hia hh (hra h 3 i + 7 + 2)) 0 0 40)), ⟨rfl, (p2.tr (Fr.sir _ _ _ ⟨i, hi, Or.inl rfl⟩)).tr (Fr.sir _ _ _ ⟨i, hi, Or.inr rfl⟩), fun b hb l hl => ?_⟩, ?_⟩
      · show hia (sir (sir hh _ _) _ _) (hra h 3 b + 7 + 1) l = _ ∧ hia (sir (sir hh _ _) _ _) (hra h 3 b + 7 + 2) l = _
        by_cases q : b = i
        · subst q
          rw [ia_sir_ne _ _ _ (hra h 3 b + 7 + 1) (by omega), ia_sir, ia_sir]
          unfold va_cpy
          rw [if_pos (by omega), if_pos (by omega), show 0 + (l - 0) = l by omega]
          exact ⟨rfl, rfl⟩
        · have ne := bk_ne hA (show b < 6 by omega) hi q
          rw [ia_sir_ne _ _ _ _ (by omega), ia_sir_ne _ _ _ _ (by omega), ia_sir_ne _ _ _ _ (by omega), ia_sir_ne _ _ _ _ (by omega)]
          exact p3 b (by omega) l hl
      · show f_X11_restore_l11 (n + 1) (w32 i) hh = f_X11_restore_l11 n (w32 (i + 1 : Nat)) _
        rw [f_X11_restore_l11, if_neg (by rw [wl_6, w_le _ _ (by omega) (by omega) (by omega) (by omega)]; omega), gd_t (by rw [w_ibN _ _ (by omega)]; omega), w_clN _ (by omega), r3, gd_t sX, gd_t (by rw [w_ibN _ _ (by omega)]; omega), gd_t sX]
        unfold f_X3_copy
        rw [gd_t (by decide), lt_b, gd_t (by decide), lt_b, bnd_s, wl_1, w_add, w_s, q1, ia_sir_ne _ _ _ (hra h 3 i + 10 + 2) (by omega), q2, ia_sir_ne _ _ _ (hra h 3 i + 7 + 2) (by omega)]
        rfl) (fun n s hP => by
      obtain ⟨v1, hh⟩ := s
      obtain ⟨p1, p2⟩ := hP
      dsimp only at p1 p2
      subst p1
      refine ⟨hh, ?_, p2⟩
      show f_X11_restore_l11 (n + 1) (w32 (6 : Nat)) hh = _
      rw [f_X11_restore_l11, if_pos (by decide)]) FU (by decide) (0, h) ⟨rfl, Fr.rf, fun b hb => by omega⟩
theorem BC.wx {h1 : AH} (hA : AD h) {p : Nat} (hp : p = 7 ∨ p = 10) (hF : Fr (WX h p) h h1) {b : Nat} (hb : b < 6) {β : BV} (hB : BC h (hra h 3 b) β) : BC h1 (hra h 3 b) β ∧ hfi h1 (hra h 3 b) = hfi h (hra h 3 b) := by
  obtain ⟨e1, e2, e3, e4, e5, e6, e7, e8⟩ := hB
  have ds := (WX_out hA hp).2 b hb
  have f0 := (hF (hra h 3 b) (ds _ (by omega) (by omega) (by omega))).1
  have fi : ∀ k, k ≤ 17 → (k ≤ 7 ∨ 13 ≤ k) → hia h1 (hra h 3 b + k) = hia h (hra h 3 b + k) := fun k hk hk2 => (hF _ (ds _ (by omega) (by omega) (by omega))).2.2.1
  refine ⟨⟨by rw [f0]; exact e1, by rw [f0]; exact e2, by rw [f0]; exact e3, by rw [f0]; exact e4, by rw [f0]; exact e5, fun l hl => ?_, fun w hw => ?_, fun r hr => ?_⟩, f0⟩
  · rw [fi 1 (by omega) (by omega), fi 2 (by omega) (by omega), fi 3 (by omega) (by omega), fi 4 (by omega) (by omega), fi 5 (by omega) (by omega), fi 6 (by omega) (by omega)]; exact e6 l hl
  · rw [fi 13 (by omega) (by omega), fi 14 (by omega) (by omega)]; exact e7 w hw
  · rw [fi 15 (by omega) (by omega), fi 16 (by omega) (by omega), fi 17 (by omega) (by omega)]; exact e8 r hr
/-- the class's state where only glasses, statuses and the mark of an image have changed -/
theorem CI.img {h1 h2 : AH} {p : Nat} (hp : p = 7 ∨ p = 10) (hI : CI h S) (hF : Fr (WX h p) h h1) (hF2 : Fr (fun c => c = 0 ∨ c = 31 ∨ c = 32) h1 h2) (hr0 : hra h2 0 = hra h1 0) {S' : SV} (q1 : xb S' = xb S) (q2 : xa S' = xa S) (q3 : xw S' = xw S) (q4 : xn S' = xn S) (q5 : xt S' = xt S) (q6 : xf S' = xf S) (q7 : xm S' = xm S) (q8 : xtt S' = xtt S) (q9 : xtg S' = xtg S) (q10 : xfx S' = xfx S) (q11 : xfy S' = xfy S) (hg : ∀ b, b < 6 → GC h2 (hra h 3 b + 7) (vL (xb S b)) (xg S' b)) (hk : ∀ b, b < 6 → GC h2 (hra h 3 b + 10) (vL (xb S b)) (xk S' b)) (hi : hfi h2 0 10 = bI (xi S')) (hs : ∀ k, k < 4 → hia h2 31 k = xs4 S' k) (hks : xi S' = true → ∀ k, k < 4 → hia h2 32 k = xks S' k) : CI h2 S' := by
  obtain ⟨ad, b1, l1, w1, s1, s2, s3, i1, i2, i3, t1, t2, f1, f2⟩ := hI
  have ds := (WX_out ad hp).1
  have fr : ∀ c, (c = 0 ∨ c = 3 ∨ c = 4) → hra h2 c = hra h c := fun c hc => by
    rcases hc with rfl | rfl | rfl
    · rw [hr0, (hF 0 (ds _ (by omega))).2.2.2.2]
    · rw [(hF2 3 (by omega)).2.2.2.2, (hF 3 (ds _ (by omega))).2.2.2.2]
    · rw [(hF2 4 (by omega)).2.2.2.2, (hF 4 (ds _ (by omega))).2.2.2.2]
  have r3 := fr 3 (by omega)
  have r4 := fr 4 (by omega)
  have r0 := fr 0 (by omega)
  have fa : ∀ c, (1 ≤ c ∧ c ≤ 5 ∨ 24 ≤ c ∧ c ≤ 30 ∨ c = 57 ∨ 175 ≤ c) → hia h2 c = hia h c := fun c hc => by rw [(hF2 c (by omega)).2.2.1, (hF c (ds _ (by omega))).2.2.1]
  have ff : ∀ c, (1 ≤ c ∧ c ≤ 5 ∨ 24 ≤ c ∧ c ≤ 30 ∨ c = 57 ∨ 175 ≤ c) → hfi h2 c = hfi h c := fun c hc => by rw [(hF2 c (by omega)).1, (hF c (ds _ (by omega))).1]
  have ad' : AD h2 := by unfold AD; rw [r3, r4, r0]; exact ad
  refine ⟨ad', fun b hb => ?_, ?_, ?_, ?_, ?_, ?_, hi, hs, hks, ?_, ?_, ?_, ?_⟩
  · rw [r3, q1]
    obtain ⟨c1, c2, c3, c4⟩ := b1 b hb
    have isX := (ad.1 b hb).1
    unfold isB at isX
    obtain ⟨d1, d2⟩ := BC.wx ad hp hF hb c1
    refine ⟨d1.fr hF2 (fun c h1 h2 => by omega), hg b hb, hk b hb, ?_⟩
    rw [(hF2 _ (by omega)).1, d2]
    exact c4
  · have isL := ad.2.2.2.2.1
    unfold isLw at isL
    rw [r0, q2]
    unfold LC
    rw [ff _ (by omega)]
    exact l1
  · rw [q3]
    intro w hw k hk'
    have hW := (ad.2.2.1 w hw).1
    unfold isWy at hW
    rw [r4, fa _ (by omega), fa _ (by omega)]
    exact w1 w hw k hk'
  · rw [ff 1 (by omega), q4]; exact s1
  · rw [ff 1 (by omega), q6]; exact s2
  · rw [fa 2 (by omega), q4, q5]; exact s3
  · rw [ff 28 (by omega), q7]; exact t1
  · rw [fa 29 (by omega), fa 30 (by omega), q7, q8, q9]; exact t2
  · rw [ff 57 (by omega), q10]; exact f1
  · rw [ff 57 (by omega), q10, q11]; exact f2
theorem c_image (hI : CI h S) (h40 : ∀ b, b < 6 → vL (xb S b) ≤ 40) : ∃ h1, f_X11_image h = some h1 ∧ Fr (fun c => c < 193) h h1 ∧ CI h1 (sI S) := by
  obtain ⟨h1, e1, f1, z1⟩ := k_img hI.1
  have ds := (WX_out hI.1 (p := 10) (by omega)).1
  have dx := (WX_out hI.1 (p := 10) (by omega)).2
  refine ⟨sfi (sir h1 32 (va_cpy (hia h1 31) (hia h1 32) 0 0 4)) 0 10 1, ?_, ?_, hI.img (p := 10) (Or.inr rfl) f1 ((Fr.sir _ _ _ (by omega)).tr (Fr.sfi _ _ _ _ (by omega))) rfl rfl rfl rfl rfl rfl rfl rfl rfl rfl rfl rfl ?_ ?_ (fi_sfi_eq _ _ _ _) ?_ ?_⟩
  · unfold f_X11_image
    rw [e1, bnd_s, gd_t (by decide)]
    rfl
  · refine ((f1.mono (fun c q => ?_)).tr (Fr.sir _ _ _ (by omega))).tr (Fr.sfi _ _ _ _ (by omega))
    obtain ⟨b, hb, e⟩ := q
    have isX := (hI.1.1 b hb).1
    unfold isB at isX
    omega
  · intro b hb l hl
    have isX := (hI.1.1 b hb).1
    unfold isB at isX
    rw [ia_sfi, ia_sir_ne _ _ _ _ (by omega), ia_sir_ne _ _ _ _ (by omega), (f1 _ (dx b hb _ (by omega) (by omega) (by omega))).2.2.1, (f1 _ (dx b hb _ (by omega) (by omega) (by omega))).2.2.1]
    exact (hI.2.1 b hb).2.1 l hl
  · intro b hb l hl
    have isX := (hI.1.1 b hb).1
    unfold isB at isX
    have o40 : l < 40 ∨ 40 ≤ l := by omega
    rw [ia_sfi, ia_sir_ne _ _ _ _ (by omega), ia_sir_ne _ _ _ _ (by omega)]
    rcases o40 with z | z
    · rw [(z1 b hb l z).1, (z1 b hb l z).2]
      exact (hI.2.1 b hb).2.1 l hl
    · exact absurd (Nat.lt_of_lt_of_le hl (h40 b hb)) (by omega)
  · intro k hk
    rw [ia_sfi, ia_sir_ne _ _ _ _ (by omega), (f1 31 (ds _ (by omega))).2.2.1]
    exact hI.2.2.2.2.2.2.2.2.1 k hk
  · intro _ k hk
    rw [ia_sfi, ia_sir]
    unfold va_cpy
    rw [if_pos (by omega), show 0 + (k - 0) = k by omega, (f1 31 (ds _ (by omega))).2.2.1]
    exact hI.2.2.2.2.2.2.2.2.1 k hk
theorem c_restore (hI : CI h S) (h40 : ∀ b, b < 6 → vL (xb S b) ≤ 40) : f_X11_restore h = some (false, h) ∧ xi S = false ∨ xi S = true ∧ ∃ h1, f_X11_restore h = some (true, h1) ∧ Fr (fun c => c < 193) h h1 ∧ CI h1 (sR S) := by
  have ei := hI.2.2.2.2.2.2.2.1
  cases hx : xi S with
  | false =>
    left
    rw [hx] at ei
    refine ⟨?_, rfl⟩
    unfold f_X11_restore
    rw [ei, if_pos (by decide)]
  | true =>
    right
    rw [hx] at ei
    obtain ⟨h1, e1, f1, z1⟩ := k_res hI.1
    have ds := (WX_out hI.1 (p := 7) (by omega)).1
    have dx := (WX_out hI.1 (p := 7) (by omega)).2
    refine ⟨rfl, sir h1 31 (va_cpy (hia h1 32) (hia h1 31) 0 0 4), ?_, ?_, hI.img (p := 7) (Or.inl rfl) f1 (Fr.sir _ _ _ (by omega)) rfl rfl rfl rfl rfl rfl rfl rfl rfl rfl rfl rfl ?_ ?_ ?_ ?_ ?_⟩
    · unfold f_X11_restore
      rw [ei, if_neg (by decide), e1, bnd_s, gd_t (by decide)]
      rfl
    · refine (f1.mono (fun c q => ?_)).tr (Fr.sir _ _ _ (by omega))
      obtain ⟨b, hb, e⟩ := q
      have isX := (hI.1.1 b hb).1
      unfold isB at isX
      omega
    · intro b hb l hl
      have isX := (hI.1.1 b hb).1
      unfold isB at isX
      have l40 := Nat.lt_of_lt_of_le hl (h40 b hb)
      rw [ia_sir_ne _ _ _ _ (by omega), ia_sir_ne _ _ _ _ (by omega), (z1 b hb l l40).1, (z1 b hb l l40).2]
      exact (hI.2.1 b hb).2.2.1 l hl
    · intro b hb l hl
      have isX := (hI.1.1 b hb).1
      unfold isB at isX
      rw [ia_sir_ne _ _ _ _ (by omega), ia_sir_ne _ _ _ _ (by omega), (f1 _ (dx b hb _ (by omega) (by omega) (by omega))).2.2.1, (f1 _ (dx b hb _ (by omega) (by omega) (by omega))).2.2.1]
      exact (hI.2.1 b hb).2.2.1 l hl
    · show hfi h1 0 10 = bI (xi S)
      rw [(f1 0 (ds _ (by omega))).1, hx]; exact ei
    · intro k hk
      rw [ia_sir]
      unfold va_cpy
      rw [if_pos (by omega), show 0 + (k - 0) = k by omega, (f1 32 (ds _ (by omega))).2.2.1]
      exact hI.2.2.2.2.2.2.2.2.2.1 hx k hk
    · intro _ k hk
      rw [ia_sir_ne _ _ _ _ (by omega), (f1 32 (ds _ (by omega))).2.2.1]
      exact hI.2.2.2.2.2.2.2.2.2.1 hx k hk
end IMG
