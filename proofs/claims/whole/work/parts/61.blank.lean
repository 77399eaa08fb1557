/-! gone, blank, clear, fault -/
def TN (e : Option (Int32 × AH)) (f : AH → Option (Int32 × AH)) (T : Nat) : Prop := ∃ q p, e = some q ∧ f q.2 = some p ∧ q.1 = p.1 ∧ inv p.2 (T + 1)
def sT (S : SV) (m : Nat) (tt tg : Nat → Nat) : SV := (xb S, xg S, xk S, xa S, xw S, xn S, xt S, xf S, xi S, xs4 S, xks S, m, tt, tg, xfx S, xfy S)
def goB (β : BV) : BV := mkB (vL β) (vT β) (vH β) (vW β) (vR β - 1) (vk β) (vt β) (vp β) (vb β) (vy β) (vs β) (vwy β) (vwo β) (vrw β) (vrf β) (vrt β)
section BLK
variable {h h1 : AH} {S S' : SV} {T : Nat}
theorem CI.core (hI : CI h S) (hF : Fr (fun c => c = 1 ∨ c = 2 ∨ (28 ≤ c ∧ c ≤ 66) ∨ c = 236) h h1) : AD h1 ∧ (∀ b, b < 6 → BC h1 (hra h1 3 b) (xb S b) ∧ GC h1 (hra h1 3 b + 7) (vL (xb S b)) (xg S b) ∧ GC h1 (hra h1 3 b + 10) (vL (xb S b)) (xk S b) ∧ hfi h1 (hra h1 3 b) 2 = orF (vk (xb S b)) (vL (xb S b))) ∧ LC h1 (hra h1 0 3) (xa S) ∧ WC h1 (xw S) ∧ hfi h1 0 10 = bI (xi S) := by
  obtain ⟨ad, b1, l1, w1, s1, s2, s3, i1, i2, i3, t1, t2, f1, f2⟩ := hI
  have fa : ∀ c, ¬ (c = 1 ∨ c = 2 ∨ (28 ≤ c ∧ c ≤ 66) ∨ c = 236) → hia h1 c = hia h c := fun c q => (hF c q).2.2.1
  have ff : ∀ c, ¬ (c = 1 ∨ c = 2 ∨ (28 ≤ c ∧ c ≤ 66) ∨ c = 236) → hfi h1 c = hfi h c := fun c q => (hF c q).1
  have fr : ∀ c, ¬ (c = 1 ∨ c = 2 ∨ (28 ≤ c ∧ c ≤ 66) ∨ c = 236) → hra h1 c = hra h c := fun c q => (hF c q).2.2.2.2
  have r3 := fr 3 (by omega)
  have r4 := fr 4 (by omega)
  have r0 := fr 0 (by omega)
  have ad' : AD h1 := by unfold AD; rw [r3, r4, r0]; exact ad
  refine ⟨ad', fun b hb => ?_, ?_, ?_, ?_⟩
  · obtain ⟨c1, c2, c3, c4⟩ := b1 b hb
    have hB := (ad.1 b hb).1
    unfold isB at hB
    rw [r3]
    exact ⟨c1.fr hF (fun c h1 h2 q => by omega), c2.fr hF (by omega) (by omega), c3.fr hF (by omega) (by omega), by rw [ff _ (by omega)]; exact c4⟩
  · rw [r0]; exact l1.fr hF (fun q => by have := ad.2.2.2.2.1; unfold isLw at this; omega)
  · intro w hw k hk
    have hW := (ad.2.2.1 w hw).1
    unfold isWy at hW
    rw [r4, fa _ (by omega), fa _ (by omega)]
    exact w1 w hw k hk
  · rw [ff 0 (by omega)]; exact i1
theorem MI2.core (hM : MI2 h S T) (hF : Fr (fun c => c = 193 ∨ (218 ≤ c ∧ c ≤ 231)) h h1) (h55 : hfi h1 193 55 = hfi h 193 55) : (∀ b, b < 6 → BM h1 b (xb S b) ∧ GM h1 b (vL (xb S b)) (xg S b)) ∧ LM h1 (xa S) ∧ WM h1 (xw S) ∧ IM h1 S T := by
  obtain ⟨b1, l1, w1, n1, n2, n3, s1, t1, t2, f1, f2, i1, i2, v, iv, i3⟩ := hM
  have a : ∀ c, 194 ≤ c → c ≤ 217 → hia h1 c = hia h c := fun c h1 h2 => (hF c (by omega)).2.2.1
  have a2 : ∀ c, 232 ≤ c → c ≤ 235 → hia h1 c = hia h c := fun c h1 h2 => (hF c (by omega)).2.2.1
  refine ⟨fun b hb => ?_, ?_, ?_, ?_, ?_, v, iv, fun b hb => ?_⟩
  · obtain ⟨c1, c2⟩ := b1 b hb
    refine ⟨?_, ?_⟩
    · unfold BM
      rw [a 196 (by omega) (by omega), a 197 (by omega) (by omega), a 198 (by omega) (by omega), a 199 (by omega) (by omega), a 200 (by omega) (by omega), a 202 (by omega) (by omega), a 203 (by omega) (by omega), a 204 (by omega) (by omega), a 205 (by omega) (by omega), a 206 (by omega) (by omega), a 207 (by omega) (by omega), a 210 (by omega) (by omega), a 211 (by omega) (by omega), a 212 (by omega) (by omega), a 213 (by omega) (by omega), a 214 (by omega) (by omega)]
      exact c1
    · unfold GM
      rw [a 208 (by omega) (by omega), a 209 (by omega) (by omega)]
      exact c2
  · unfold LM; rw [a 215 (by omega) (by omega)]; exact l1
  · unfold WM; rw [a 216 (by omega) (by omega), a 217 (by omega) (by omega)]; exact w1
  · rw [h55]; exact i1
  · rw [a2 235 (by omega) (by omega)]; exact i2
  · rw [a 201 (by omega) (by omega), a2 234 (by omega) (by omega), a2 232 (by omega) (by omega), a2 233 (by omega) (by omega)]; exact i3 b hb
theorem TN_of {e : Option (Int32 × AH)} {F : AH → Option (Int32 × AH)} {v : Int32} (oS' : okS S') (hM : MI2 h S T) (hc : ∃ h1, Fr (fun c => c < 193) h h1 ∧ CI h1 S' ∧ e = some (v, h1)) (hm : ∀ h', MI2 h' S T → ∃ h2, Fr (fun q => 193 ≤ q ∧ q ≤ 235) h' h2 ∧ MI2 h2 S' (T + 1) ∧ F h' = some (v, h2)) : TN e F T := by
  obtain ⟨k1, f1, c1, e1⟩ := hc
  obtain ⟨k2, f2, m2, e2⟩ := hm k1 (hM.cls (f1.mono (fun c q => Or.inl q)))
  exact ⟨(v, k1), (v, k2), e1, e2, rfl, S', oS', c1.mod (f2.mono (fun c q => q.1)), m2⟩
theorem t_fault (hI : CI h S) (oS : okS S) (hM : MI2 h S T) : ∃ p, f_X12_fault h = some p ∧ f_X11_fault h = p.1 ∧ inv p.2 (T + 1) := by
  have hM1 := hM.fr (code0 h).1.m
  refine ⟨(hfi (sfi h 193 2 0) 193 36, sfi h 193 2 0), rfl, ?_, S, oS, hI.mod (Fr.sfi _ _ _ _ (by omega)), hM1.le (by omega)⟩
  show hfi h 1 2 = hfi (sfi h 193 2 0) 193 36
  rw [hM1.2.2.2.2.1, hI.2.2.2.2.2.1]
theorem t_clear (hI : CI h S) (oS : okS S) (hM : MI2 h S T) : TN (f_X11_clear h) f_X12_clear T := by
  refine TN_of (S' := sT S 0 (xtt S) (xtg S)) (v := w32 (xm S)) ?_ hM ⟨sfi h 28 0 0, Fr.sfi _ _ _ _ (by omega), ?_, ?_⟩ (fun h' hM' => ⟨sfi (sfi h' 193 2 0) 193 52 0, (Fr.sfi _ _ _ _ (by omega)).tr (Fr.sfi _ _ _ _ (by omega)), ?_, ?_⟩)
  · obtain ⟨o1, o2, o3, o4, o5, o6, o7, o8, o9, o10⟩ := oS
    exact ⟨o1, o2, o3, o4, o5, o6, o7, Nat.zero_le _, fun j hj => absurd hj (Nat.not_lt_zero _), o10⟩
  · obtain ⟨k1, k2, k3, k4, k5⟩ := hI.core (h1 := sfi h 28 0 0) (Fr.sfi _ _ _ _ (by omega))
    obtain ⟨ad, b1, l1, w1, s1, s2, s3, i1, i2, i3, t1, t2, f1, f2⟩ := hI
    refine ⟨k1, k2, k3, k4, ?_, ?_, s3, k5, i2, i3, ?_, fun j hj => absurd hj (Nat.not_lt_zero _), ?_, ?_⟩
    · rw [fi_sfi_ne _ _ _ _ _ (by omega)]; exact s1
    · rw [fi_sfi_ne _ _ _ _ _ (by omega)]; exact s2
    · rw [fi_sfi_eq]; rfl
    · rw [fi_sfi_ne _ _ _ _ _ (by omega)]; exact f1
    · rw [fi_sfi_ne _ _ _ _ _ (by omega)]; exact f2
  · unfold f_X11_clear
    rw [lt_b, hI.2.2.2.2.2.2.2.2.2.2.1]
  · have hM1 := (hM'.fr (code0 h').1.m).le (show T ≤ T + 1 by omega)
    obtain ⟨k1, k2, k3, k4⟩ := hM1.core (h1 := sfi (sfi h' 193 2 0) 193 52 0) (Fr.sfi _ _ _ _ (Or.inl rfl)) (fi_sfi_nk _ _ _ _ _ (by omega))
    obtain ⟨b1, l1, w1, n1, n2, n3, s1, t1, t2, f1, f2, -⟩ := hM1
    refine ⟨k1, k2, k3, ?_, ?_, n3, s1, ?_, fun j hj => absurd hj (Nat.not_lt_zero _), ?_, ?_, k4⟩
    · rw [fi_sfi_nk _ _ _ _ _ (by omega)]; exact n1
    · rw [fi_sfi_nk _ _ _ _ _ (by omega)]; exact n2
    · rw [fi_sfi_eq]; rfl
    · rw [fi_sfi_nk _ _ _ _ _ (by omega)]; exact f1
    · rw [fi_sfi_nk _ _ _ _ _ (by omega)]; exact f2
  · unfold f_X12_clear
    rw [lt_b, lt_b, (hM'.fr (code0 h').1.m).2.2.2.2.2.2.2.1]
theorem t_blank (x y : Int32) (hI : CI h S) (oS : okS S) (hM : MI2 h S T) : TN (f_X11_blank x y h) (f_X12_blank x y) T := by
  obtain ⟨n, rfl, r1, r2⟩ := w_ex x
  obtain ⟨g, rfl, r3, r4⟩ := w_ex y
  have em := hI.2.2.2.2.2.2.2.2.2.2.1
  have st3 := hI.2.2.2.2.2.2.2.2.1 3 (by omega)
  have om := oS.2.2.2.2.2.2.2.1
  have g34 : ib 3 4 = true := by decide
  have cl3 : cl 3 = 3 := by decide
  have cls : f_X11_blank (w32 n) (w32 g) h = if xm S < 20 ∧ 1 ≤ n ∧ n ≤ 999 ∧ 0 ≤ g ∧ g ≤ 9999 then some (w32 (xm S + 1 : Nat), sfi (sia (sia h 29 (xm S) (w32 n)) 30 (xm S) (w32 g)) 28 0 (w32 (xm S + 1 : Nat))) else some (-1, sia h 31 3 (xs4 S 3 + 1)) := by
    have add : f_X8_add 28 (w32 n) (w32 g) h = if xm S < 20 ∧ 1 ≤ n ∧ n ≤ 999 ∧ 0 ≤ g ∧ g ≤ 9999 then some (true, sfi (sia (sia h 29 (xm S) (w32 n)) 30 (xm S) (w32 g)) 28 0 (w32 (xm S + 1 : Nat))) else some (false, h) := by
      unfold f_X8_add
      rw [em]
      simp (disch := omega) only [wl_20, wl_1, wl_999, wl_0, wl_9999, w_le, w_lt]
      by_cases a1 : (20 : Int) ≤ xm S
      · rw [if_pos a1, if_neg (by omega)]
      rw [if_neg a1]
      by_cases a2 : n < 1
      · rw [if_pos a2, if_neg (by omega)]
      rw [if_neg a2]
      by_cases a3 : 999 < n
      · rw [if_pos a3, if_neg (by omega)]
      rw [if_neg a3]
      by_cases a4 : g < 0
      · rw [if_pos a4, if_neg (by omega)]
      rw [if_neg a4]
      by_cases a5 : g ≤ 9999
      · rw [if_pos a5, if_pos (by omega)]
        simp (disch := omega) only [w_ibN, gd_t, w_clN, lt_b, fi_sia, em, w_add, w_s]
      · rw [if_neg a5, if_neg (by omega)]
    unfold f_X11_blank
    rw [add]
    by_cases q : xm S < 20 ∧ 1 ≤ n ∧ n ≤ 999 ∧ 0 ≤ g ∧ g ≤ 9999
    · rw [if_pos q, if_pos q, bnd_s, if_pos rfl, fi_sfi_eq]
    · rw [if_neg q, if_neg q, bnd_s, if_neg (by simp), gd_t g34, gd_t g34, lt_b, cl3, st3]
  have mdl : ∀ h', MI2 h' S T → f_X12_blank (w32 n) (w32 g) h' = if xm S < 20 ∧ 1 ≤ n ∧ n ≤ 999 ∧ 0 ≤ g ∧ g ≤ 9999 then some (w32 (xm S + 1 : Nat), sfi (sia (sia (sfi h' 193 2 0) 230 (xm S) (w32 n)) 231 (xm S) (w32 g)) 193 52 (w32 (xm S + 1 : Nat))) else some (-1, sia (sfi h' 193 2 0) 218 3 (xs4 S 3 + 1)) := by
    intro h' hM'
    have hM1 := hM'.fr (code0 h').1.m
    have m5 := hM1.2.2.2.2.2.2.2.1
    have ms3 := hM1.2.2.2.2.2.2.1 3 (by omega)
    have i1 : (f_X12_isIn (w32 n) 1 999 = true) = (1 ≤ n ∧ n ≤ 999) := by rw [wl_1, wl_999, e_isIn _ _ _ (by omega) (by omega) (by omega) (by omega) (by omega) (by omega), decide_eq_true_eq]
    have i2 : (f_X12_isIn (w32 g) 0 9999 = true) = (0 ≤ g ∧ g ≤ 9999) := by rw [wl_0, wl_9999, e_isIn _ _ _ (by omega) (by omega) (by omega) (by omega) (by omega) (by omega), decide_eq_true_eq]
    unfold f_X12_blank
    rw [lt_b, m5]
    simp only [i1, i2, gd_t g34, cl3, ms3, lt_b]
    have eq20 : (w32 (xm S : Nat) = 20) = (xm S = 20) := by rw [wl_20, w_eq _ _ (by omega) (by omega) (by omega) (by omega)]; apply propext; omega
    simp only [eq20]
    by_cases a1 : xm S = 20
    · rw [if_pos a1, if_neg (by omega)]
    rw [if_neg a1]
    by_cases a2 : 1 ≤ n ∧ n ≤ 999
    · rw [if_pos a2]
      by_cases a3 : 0 ≤ g ∧ g ≤ 9999
      · rw [if_pos a3, if_pos (by omega)]
        simp (disch := omega) only [w_ibN, gd_t, w_clN, fi_sia, m5, wl_1, w_add, w_s, fi_sfi_eq]
      · rw [if_neg a3, if_neg (by omega)]
    · rw [if_neg a2, if_neg (by omega)]
  by_cases q : xm S < 20 ∧ 1 ≤ n ∧ n ≤ 999 ∧ 0 ≤ g ∧ g ≤ 9999
  · rw [if_pos q] at cls
    obtain ⟨n, rfl, hn⟩ := nat_of (z := n) (n := 999) (by omega)
    obtain ⟨g, rfl, hg⟩ := nat_of (z := g) (n := 9999) (by omega)
    refine TN_of (S' := sT S (xm S + 1) (fun j => if j = xm S then n else xtt S j) (fun j => if j = xm S then g else xtg S j)) ?_ hM ⟨_, ((Fr.sia _ _ _ _ (by omega)).tr (Fr.sia _ _ _ _ (by omega))).tr (Fr.sfi _ _ _ _ (by omega)), ?_, cls⟩ (fun h' hM' => ?_)
    · obtain ⟨o1, o2, o3, o4, o5, o6, o7, o8, o9, o10⟩ := oS
      refine ⟨o1, o2, o3, o4, o5, o6, o7, ?_, fun j hj => ?_, o10⟩
      · show xm S + 1 ≤ 20; omega
      · have hj : j < xm S + 1 := hj
        show 1 ≤ (if j = xm S then n else xtt S j) ∧ (if j = xm S then n else xtt S j) ≤ 999 ∧ (if j = xm S then g else xtg S j) ≤ 9999
        by_cases e : j = xm S
        · rw [if_pos e, if_pos e]; omega
        · rw [if_neg e, if_neg e]; exact o9 j (by omega)
    · obtain ⟨k1, k2, k3, k4, k5⟩ := hI.core (h1 := sfi (sia (sia h 29 (xm S) (w32 n)) 30 (xm S) (w32 g)) 28 0 (w32 (xm S + 1 : Nat))) (((Fr.sia _ _ _ _ (by omega)).tr (Fr.sia _ _ _ _ (by omega))).tr (Fr.sfi _ _ _ _ (by omega)))
      obtain ⟨ad, b1, l1, w1, s1, s2, s3, i1, i2, i3, t1, t2, f1, f2⟩ := hI
      refine ⟨k1, k2, k3, k4, ?_, ?_, ?_, k5, ?_, ?_, ?_, fun j hj => ?_, ?_, ?_⟩
      · rw [fi_sfi_ne _ _ _ _ _ (by omega)]; exact s1
      · rw [fi_sfi_ne _ _ _ _ _ (by omega)]; exact s2
      · simp (disch := omega) only [ia_sfi, ia_sia_ne]; exact s3
      · simp (disch := omega) only [ia_sfi, ia_sia_ne]; exact i2
      · simp (disch := omega) only [ia_sfi, ia_sia_ne]; exact i3
      · rw [fi_sfi_eq]; rfl
      · have hj : j < xm S + 1 := hj
        show _ = w32 ((if j = xm S then n else xtt S j : Nat) : Int) ∧ _ = w32 ((if j = xm S then g else xtg S j : Nat) : Int)
        by_cases e : j = xm S
        · subst e
          simp (disch := omega) only [ia_sfi, ia_sia_ne, ia_sia_eq, if_true]
          exact ⟨trivial, trivial⟩
        · simp (disch := omega) only [ia_sfi, ia_sia_ne, ia_sia_nk, if_neg e]
          exact t2 j (by omega)
      · rw [fi_sfi_ne _ _ _ _ _ (by omega)]; exact f1
      · rw [fi_sfi_ne _ _ _ _ _ (by omega)]; exact f2
    · have m := mdl h' hM'
      rw [if_pos q] at m
      have hM1 := (hM'.fr (code0 h').1.m).le (show T ≤ T + 1 by omega)
      obtain ⟨k1, k2, k3, k4⟩ := hM1.core (h1 := sfi (sia (sia (sfi h' 193 2 0) 230 (xm S) (w32 n)) 231 (xm S) (w32 g)) 193 52 (w32 (xm S + 1 : Nat))) (((Fr.sia _ _ _ _ (by omega)).tr (Fr.sia _ _ _ _ (by omega))).tr (Fr.sfi _ _ _ _ (by omega))) (fi_sfi_nk _ _ _ _ _ (by omega))
      obtain ⟨b1, l1, w1, n1, n2, n3, s1, t1, t2, f1, f2, -⟩ := hM1
      refine ⟨_, (((Fr.sfi _ _ _ _ (by omega)).tr (Fr.sia _ _ _ _ (by omega))).tr (Fr.sia _ _ _ _ (by omega))).tr (Fr.sfi _ _ _ _ (by omega)), ⟨k1, k2, k3, ?_, ?_, ?_, ?_, ?_, fun j hj => ?_, ?_, ?_, k4⟩, m⟩
      · rw [fi_sfi_nk _ _ _ _ _ (by omega)]; exact n1
      · rw [fi_sfi_nk _ _ _ _ _ (by omega)]; exact n2
      · simp (disch := omega) only [ia_sfi, ia_sia_ne]; exact n3
      · simp (disch := omega) only [ia_sfi, ia_sia_ne]; exact s1
      · rw [fi_sfi_eq]; rfl
      · have hj : j < xm S + 1 := hj
        show _ = w32 ((if j = xm S then n else xtt S j : Nat) : Int) ∧ _ = w32 ((if j = xm S then g else xtg S j : Nat) : Int)
        by_cases e : j = xm S
        · subst e
          simp (disch := omega) only [ia_sfi, ia_sia_ne, ia_sia_eq, if_true]
          exact ⟨trivial, trivial⟩
        · simp (disch := omega) only [ia_sfi, ia_sia_ne, ia_sia_nk, if_neg e]
          exact t2 j (by omega)
      · rw [fi_sfi_nk _ _ _ _ _ (by omega)]; exact f1
      · rw [fi_sfi_nk _ _ _ _ _ (by omega)]; exact f2
  · rw [if_neg q] at cls
    refine TN_of (okS_st oS _) hM ⟨_, Fr.sia _ _ _ _ (by omega), hI.st oS 3 (by omega) 1, cls⟩ (fun h' hM' => ?_)
    have m := mdl h' hM'
    rw [if_neg q] at m
    exact ⟨_, (Fr.sfi _ _ _ _ (by omega)).tr (Fr.sia _ _ _ _ (by omega)), ((hM'.fr (code0 h').1.m).st oS 3 (by omega) 1).le (by omega), m⟩
theorem t_gone (x : Int32) (hI : CI h S) (oS : okS S) (hM : MI2 h S T) : TK (f_L_gone x h) (f_X12_gone x) T := by
  unfold f_L_gone
  obtain ⟨z, rfl, r1, r2⟩ := w_ex x
  by_cases q : 0 ≤ z ∧ z ≤ 5
  · obtain ⟨b, rfl, hb⟩ := nat_of (n := 5) q
    have hb : b < 6 := by omega
    have sX := isB_sh (hI.1.1 b hb).1
    have o := oS.1 b hb
    obtain ⟨c1, c2, c3, c4⟩ := hI.2.1 b hb
    have e5 := c1.2.2.2.2.1
    have oR := o.1.2.2.2.2.1
    generalize hX : hra h 3 b = X at *
    have isX := (hI.1.1 b hb).1
    rw [hX] at isX
    unfold isB at isX
    have cls : f_X11_gone (w32 b) h = if 1 ≤ vR (xb S b) then some (.inl (w32 (vR (xb S b) - 1 : Nat), sfi h X 5 (w32 (vR (xb S b) - 1 : Nat)))) else some (.inl (-1, h)) := by
      unfold f_X11_gone
      rw [c_bookIn hI.1 hb, bnd_s]
      simp only [Sum.elim_inl]
      rw [hX, gd_t sX, e5, lt_b, fi_sfi_eq]
      simp (disch := omega) only [wl_1, w_le, w_sub]
      by_cases a1 : 1 ≤ vR (xb S b)
      · rw [if_pos (show (1 : Int) ≤ vR (xb S b) by omega), if_pos a1, show (vR (xb S b) : Int) - 1 = ((vR (xb S b) - 1 : Nat) : Int) by omega]
      · rw [if_neg (show ¬ (1 : Int) ≤ vR (xb S b) by omega), if_neg a1]
    have mdl : ∀ h', MI2 h' S T → f_X12_gone (w32 b) h' = if 1 ≤ vR (xb S b) then some (w32 (vR (xb S b) - 1 : Nat), sia (sfi h' 193 2 0) 200 b (w32 (vR (xb S b) - 1 : Nat))) else some (-1, sfi h' 193 2 0) := by
      intro h' hM'
      have hM1 := hM'.fr (code0 h').1.m
      have m5 := (hM1.1 b hb).1.2.2.2.2.1
      unfold f_X12_gone
      rw [lt_b, m_isBookN hb, if_pos rfl]
      simp (disch := omega) only [w_ibN, gd_t, w_clN, m5, lt_b, ia_sia_eq]
      have eq0 : (w32 (vR (xb S b) : Nat) = 0) = (vR (xb S b) = 0) := by rw [wl_0, w_eq _ _ (by omega) (by omega) (by omega) (by omega)]; apply propext; omega
      simp only [eq0]
      by_cases a1 : vR (xb S b) = 0
      · rw [if_pos a1, if_neg (by omega)]
      · rw [if_neg a1, if_pos (by omega), wl_1, w_sub, show (vR (xb S b) : Int) - 1 = ((vR (xb S b) - 1 : Nat) : Int) by omega]
    by_cases a1 : 1 ≤ vR (xb S b)
    · rw [if_pos a1] at cls
      refine TK_v (S' := sB S b (goB (xb S b)) (xg S b) (xs4 S)) (okS_sB oS ?_ o.2.1 rfl) hM ⟨_, Fr.sfi _ _ _ _ (by omega), hI.upd hb hX (Fr.sfi _ _ _ _ (by omega)) ?_ c2 ?_ rfl hI.2.2.2.2.2.2.2.2.1, cls⟩ (fun h' hM' => ?_)
      · obtain ⟨o1, o2, o3, o4, o5, o6, o7, o8, o9, o10, o11⟩ := o.1
        refine ⟨o1, o2, o3, o4, ?_, o6, o7, o8, fun r hr => ?_, o10, o11⟩
        · show vR (xb S b) - 1 ≤ 8; omega
        · have hr : r < vR (xb S b) - 1 := hr
          exact o9 r (by omega)
      · obtain ⟨d1, d2, d3, d4, d5, d6, d7, d8⟩ := c1
        refine ⟨?_, ?_, ?_, ?_, ?_, d6, d7, fun i hi => ?_⟩
        · rw [fi_sfi_nk _ _ _ _ _ (by omega)]; exact d1
        · rw [fi_sfi_nk _ _ _ _ _ (by omega)]; exact d2
        · rw [fi_sfi_nk _ _ _ _ _ (by omega)]; exact d3
        · rw [fi_sfi_nk _ _ _ _ _ (by omega)]; exact d4
        · rw [fi_sfi_eq]; rfl
        · have hi : i < vR (xb S b) - 1 := hi
          exact d8 i (by omega)
      · rw [fi_sfi_nk _ _ _ _ _ (by omega)]; exact c4
      · have m := mdl h' hM'
        rw [if_pos a1] at m
        have hM1 := hM'.fr (code0 h').1.m
        obtain ⟨d1, d2, d3, d4, d5, d6, d7, d8⟩ := (hM1.1 b hb).1
        have fN : FrN b (sfi h' 193 2 0) (sia (sfi h' 193 2 0) 200 b (w32 (vR (xb S b) - 1 : Nat))) := FrN.w _ _ _ _ _ (by omega)
        refine ⟨_, (Fr.sfi _ _ _ _ (by omega)).tr fN.1, (hM1.updB (β := goB (xb S b)) (γ := xg S b) (f := xs4 S) oS fN ⟨?_, ?_, ?_, ?_, ?_, fun l hl => ?_, fun i hi => ?_, fun i hi => ?_⟩ ?_ rfl ?_).le (by omega), m, ?_⟩
        · simp (disch := omega) only [ia_sia_ne]; exact d1
        · simp (disch := omega) only [ia_sia_ne]; exact d2
        · simp (disch := omega) only [ia_sia_ne]; exact d3
        · simp (disch := omega) only [ia_sia_ne]; exact d4
        · rw [ia_sia_eq]; rfl
        · simp (disch := omega) only [ia_sia_ne]; exact d6 l hl
        · simp (disch := omega) only [ia_sia_ne]; exact d7 i hi
        · have hi : i < vR (xb S b) - 1 := hi
          simp (disch := omega) only [ia_sia_ne]; exact d8 i (by omega)
        · intro l hl
          simp (disch := omega) only [ia_sia_ne]
          exact (hM1.1 b hb).2 l hl
        · intro k hk
          simp (disch := omega) only [ia_sia_ne]
          exact hM1.2.2.2.2.2.2.1 k hk
        · show hfi (sfi h' 193 2 0) 193 2 = 0
          exact fi_sfi_eq _ _ _ _
    · rw [if_neg a1] at cls
      refine TK_v oS hM ⟨h, Fr.rf, hI, cls⟩ (fun h' hM' => ?_)
      have m := mdl h' hM'
      rw [if_neg a1] at m
      exact ⟨_, Fr.sfi _ _ _ _ (by omega), (hM'.fr (code0 h').1.m).le (by omega), m, fi_sfi_eq _ _ _ _⟩
  · refine TK_x (c := 1) oS hM (XCx_id (d := 0) hI ?_) (fun h1 => by rw [gd_t rfl]) (by decide) (fun h' hM' => XM_fail 1 h' hM' ?_)
    · unfold f_X11_gone
      rw [c_bookOut r1 r2 q, bnd_s]
      rfl
    · unfold f_X12_gone
      rw [lt_b, m_isBook r1 r2, decide_eq_false q, if_neg (by decide), m_fail, bnd_s]
end BLK
