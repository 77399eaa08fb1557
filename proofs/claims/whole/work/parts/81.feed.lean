/-! feed -/
theorem bv8 (x : BitVec 32) (n : Nat) (hn : n + 8 ≤ 32) : (x >>> n) &&& 255#32 = (x.sshiftRight n) &&& 255#32 := by
  apply BitVec.eq_of_getLsbD_eq
  intro i hi
  rw [BitVec.getLsbD_and, BitVec.getLsbD_and, BitVec.getLsbD_ushiftRight, BitVec.getLsbD_sshiftRight]
  by_cases q : i < 8
  · rw [show decide (32 ≤ i) = false from decide_eq_false (by omega), if_pos (by omega)]
    simp
  · have : (255#32).getLsbD i = false := by
      have h : ∀ j : Fin 32, ¬ j.val < 8 → (255#32).getLsbD j.val = false := by decide
      exact h ⟨i, hi⟩ q
    rw [this, Bool.and_false, Bool.and_false]
def byt (v : Int32) (r : Nat) : Nat := ((v.toBitVec.sshiftRight (24 - 8 * r)) &&& 255#32).toNat
theorem byt_lt (v : Int32) (r : Nat) : byt v r < 256 := by
  unfold byt
  rw [BitVec.toNat_and]
  have : (v.toBitVec.sshiftRight (24 - 8 * r)).toNat &&& (255#32).toNat ≤ (255#32).toNat := Nat.and_le_right
  have e : (255#32).toNat = 255 := rfl
  omega
theorem byt_w (x : Int32) (v : Int32) (r : Nat) (h : x.toBitVec = (v.toBitVec.sshiftRight (24 - 8 * r)) &&& 255#32) : x = w32 (byt v r : Int) := by
  have l := byt_lt v r
  apply Int32.toInt_inj.mp
  rw [w32_toInt _ (by omega) (by omega)]
  have e : x.toBitVec.toNat = byt v r := by rw [h]; rfl
  have := BitVec.toInt_eq_toNat_of_lt (x := x.toBitVec) (by rw [e]; omega)
  rw [e] at this
  exact this
theorem shE (v : Int32) (r : Nat) (hr : r < 4) : (v >>> ((w32 (24 - 8 * (r : Int))) &&& 31)) &&& 255 = w32 (byt v r : Int) := by
  apply byt_w
  rcases (show r = 0 ∨ r = 1 ∨ r = 2 ∨ r = 3 by omega) with rfl | rfl | rfl | rfl
  · rw [show (w32 (24 - 8 * ((0 : Nat) : Int)) &&& 31) = 24 from by decide]; rfl
  · rw [show (w32 (24 - 8 * ((1 : Nat) : Int)) &&& 31) = 16 from by decide]; rfl
  · rw [show (w32 (24 - 8 * ((2 : Nat) : Int)) &&& 31) = 8 from by decide]; rfl
  · rw [show (w32 (24 - 8 * ((3 : Nat) : Int)) &&& 31) = 0 from by decide]; rfl
theorem shC (v : Int32) (r : Nat) (hr : r < 4) : ((Int32.toUInt32 v >>> (Int32.toUInt32 (w32 (24 - 8 * (r : Int))) &&& Int32.toUInt32 31)).toInt32) &&& 255 = w32 (byt v r : Int) := by
  apply byt_w
  rw [← bv8 _ _ (by omega)]
  rcases (show r = 0 ∨ r = 1 ∨ r = 2 ∨ r = 3 by omega) with rfl | rfl | rfl | rfl
  · rw [show (Int32.toUInt32 (w32 (24 - 8 * ((0 : Nat) : Int))) &&& Int32.toUInt32 31) = 24 from by decide]; rfl
  · rw [show (Int32.toUInt32 (w32 (24 - 8 * ((1 : Nat) : Int))) &&& Int32.toUInt32 31) = 16 from by decide]; rfl
  · rw [show (Int32.toUInt32 (w32 (24 - 8 * ((2 : Nat) : Int))) &&& Int32.toUInt32 31) = 8 from by decide]; rfl
  · rw [show (Int32.toUInt32 (w32 (24 - 8 * ((3 : Nat) : Int))) &&& Int32.toUInt32 31) = 0 from by decide]; rfl
def T20 (t : Nat → Nat) (n : Nat) (A : Nat → Int32) (j : Nat) : Nat := if j < n then t j else byt (A ((j - n) / 4)) ((j - n) % 4)
def sN (S : SV) (n : Nat) (t : Nat → Nat) : SV := (xb S, xg S, xk S, xa S, xw S, n, t, xf S, xi S, xs4 S, xks S, xm S, xtt S, xtg S, xfx S, xfy S)
section FED
variable {h : AH} {S : SV} {T : Nat} {τ : Nat → Nat} {m : Nat}
def TPC (h : AH) (n : Nat) (t : Nat → Nat) : Prop := hfi h 1 0 = w32 (n : Nat) ∧ ∀ j, j < n → hia h 2 j = w32 (t j : Nat)
def TPM (h : AH) (n : Nat) (t : Nat → Nat) : Prop := hfi h 193 27 = w32 (n : Nat) ∧ ∀ j, j < n → hia h 219 j = w32 (t j : Nat)
def F12 (h h1 : AH) : Prop := Fr (fun c => c = 1 ∨ c = 2) h h1 ∧ ∀ k, k ≠ 0 → hfi h1 1 k = hfi h 1 k
theorem F12.rf : F12 h h := ⟨Fr.rf, fun _ _ => rfl⟩
theorem F12.tr {h1 h2 : AH} (x : F12 h h1) (y : F12 h1 h2) : F12 h h2 := ⟨x.1.tr y.1, fun k hk => (y.2 k hk).trans (x.2 k hk)⟩
theorem k_putT (hT : TPC h m τ) (hm : m + 4 ≤ 500) (v : Int32) (hτ : ∀ k, k < 4 → τ (m + k) = byt v k) : ∃ h1, f_X7_put 1 v h = some h1 ∧ F12 h h1 ∧ TPC h1 (m + 4) τ := by
  obtain ⟨h1, e, q⟩ := loopR (fun n (s : Int32 × AH) => f_X7_put_l3 1 v n s.1 s.2) (fun i s => s.1 = w32 (24 - 8 * (i : Int)) ∧ F12 h s.2 ∧ TPC s.2 (m + i) τ) (fun h1 => F12 h h1 ∧ TPC h1 (m + 4) τ) 4 (fun i n s hi hP => by
      obtain ⟨v2, hh⟩ := s
      obtain ⟨p1, p2, p3⟩ := hP
      dsimp only at p1 p2 p3
      subst p1
      obtain ⟨a1, a2⟩ := p3
      have tt := hτ i hi
      refine ⟨(w32 (24 - 8 * ((i + 1 : Nat) : Int)), sfi (sia hh 2 (m + i) (w32 (byt v i : Nat))) 1 0 (w32 (m + (i + 1) : Nat))), ⟨rfl, p2.tr ⟨(Fr.sia _ _ _ _ (Or.inr rfl)).tr (Fr.sfi _ _ _ _ (Or.inl rfl)), fun k hk => fi_sfi_nk _ _ _ _ _ hk⟩, fi_sfi_eq _ _ _ _, fun j hj => ?_⟩, ?_⟩
      · show hia (sia hh 2 (m + i) (w32 (byt v i : Nat))) 2 j = _
        rw [ia_sia]
        by_cases q : j = m + i
        · rw [if_pos q, q, tt]
        · rw [if_neg q]; exact a2 j (by omega)
      · show f_X7_put_l3 1 v (n + 1) (w32 (24 - 8 * (i : Int))) hh = f_X7_put_l3 1 v n (w32 (24 - 8 * ((i + 1 : Nat) : Int))) _
        rw [f_X7_put_l3, if_neg (by rw [wl_0, w_lt _ _ (by omega) (by omega) (by omega) (by omega)]; omega), a1, if_neg (by rw [wl_500, w_le _ _ (by omega) (by omega) (by omega) (by omega)]; omega), gd_t (by rw [w_ibN _ _ (by omega)]; omega), lt_b, lt_b, w_clN _ (by omega), shC v i hi, show hfi (sia hh (1 + 1) (m + i) (w32 (byt v i : Nat))) 1 0 = w32 (m + i : Nat) from a1, wl_1, w_add, w_s, wl_8, w_neg, w_add, show 24 - 8 * (i : Int) + -8 = 24 - 8 * ((i + 1 : Nat) : Int) by omega]
        rfl) (fun n s hP => by
      obtain ⟨v2, hh⟩ := s
      obtain ⟨p1, p2⟩ := hP
      dsimp only at p1 p2
      subst p1
      refine ⟨hh, ?_, p2⟩
      show f_X7_put_l3 1 v (n + 1) (w32 (24 - 8 * ((4 : Nat) : Int))) hh = _
      rw [f_X7_put_l3, if_pos (by decide)]) FU (by decide) (24, h) ⟨rfl, F12.rf, hT⟩
  refine ⟨h1, ?_, q⟩
  unfold f_X7_put
  rw [show f_X7_put_l3 1 v FU 24 h = _ from e, bnd_s]
def args (a b c d e : Int32) (i : Nat) : Int32 := if i = 0 then a else if i = 1 then b else if i = 2 then c else if i = 3 then d else e
def M27 (h h1 : AH) : Prop := Fr (fun c => c = 193 ∨ c = 219) h h1 ∧ ∀ k, k ≠ 27 → hfi h1 193 k = hfi h 193 k
theorem M27.rf : M27 h h := ⟨Fr.rf, fun _ _ => rfl⟩
theorem M27.tr {h1 h2 : AH} (x : M27 h h1) (y : M27 h1 h2) : M27 h h2 := ⟨x.1.tr y.1, fun k hk => (y.2 k hk).trans (x.2 k hk)⟩
theorem m_feed (a b c d e : Int32) (hT : TPM h m τ) (hm : m + 20 ≤ 500) : ∃ h1, f_X12_feed_l23 a b c d e FU 0 h = some h1 ∧ M27 h h1 ∧ TPM h1 (m + 20) (T20 τ m (args a b c d e)) := by
  have t0 : ∀ j, j < m → T20 τ m (args a b c d e) j = τ j := fun j hj => if_pos hj
  exact loopR (fun n (s : Int32 × AH) => f_X12_feed_l23 a b c d e n s.1 s.2) (fun i s => s.1 = w32 (i : Nat) ∧ M27 h s.2 ∧ TPM s.2 (m + i) (T20 τ m (args a b c d e))) (fun h1 => M27 h h1 ∧ TPM h1 (m + 20) (T20 τ m (args a b c d e))) 20 (fun i n s hi hP => by
      obtain ⟨v6, hh⟩ := s
      obtain ⟨p1, p2, p3⟩ := hP
      dsimp only at p1 p2 p3
      subst p1
      obtain ⟨a1, a2⟩ := p3
      have tt : T20 τ m (args a b c d e) (m + i) = byt (args a b c d e (i / 4)) (i % 4) := by
        unfold T20
        rw [if_neg (by omega), show m + i - m = i by omega]
      have esh : (24 : Int32) - 8 * (w32 (i : Int) - w32 (i : Int) / 4 * 4) = w32 (24 - 8 * ((i % 4 : Nat) : Int)) := by
        rw [wl_4, w_divP _ _ (by omega) (by omega) (by omega) (by omega), w_mul, w_sub, wl_8, w_mul, wl_24, w_sub]
        exact ww (by omega)
      have fin : ∀ x : Int32, x = args a b c d e (i / 4) → gd (ib (hfi hh 193 27) 500 = true) (lt (sia hh 219 (cl (hfi hh 193 27)) ((x >>> (((24 - (8 * (w32 (i : Int) - w32 (i : Int) / 4 * 4))) : Int32) &&& 31)) &&& 255)) (fun h11 => lt (sfi h11 193 27 ((hfi h11 193 27) + 1)) (fun h12 => f_X12_feed_l23 a b c d e n (w32 (i : Int) + 1) h12))) = f_X12_feed_l23 a b c d e n (w32 (i + 1 : Nat)) (sfi (sia hh 219 (m + i) (w32 (byt (args a b c d e (i / 4)) (i % 4) : Nat))) 193 27 (w32 (m + (i + 1) : Nat))) := by
        intro x hx
        rw [a1, gd_t (by rw [w_ibN _ _ (by omega)]; omega), lt_b, lt_b, w_clN _ (by omega), esh, shE x (i % 4) (by omega), hx, show hfi (sia hh 219 (m + i) (w32 (byt (args a b c d e (i / 4)) (i % 4) : Nat))) 193 27 = w32 (m + i : Nat) from a1, wl_1, w_add, w_s, w_add, w_s]
        rfl
      refine ⟨(w32 (i + 1 : Nat), sfi (sia hh 219 (m + i) (w32 (byt (args a b c d e (i / 4)) (i % 4) : Nat))) 193 27 (w32 (m + (i + 1) : Nat))), ⟨rfl, p2.tr ⟨(Fr.sia _ _ _ _ (Or.inr rfl)).tr (Fr.sfi _ _ _ _ (Or.inl rfl)), fun k hk => fi_sfi_nk _ _ _ _ _ hk⟩, fi_sfi_eq _ _ _ _, fun j hj => ?_⟩, ?_⟩
      · show hia (sia hh 219 (m + i) _) 219 j = _
        rw [ia_sia]
        by_cases q : j = m + i
        · rw [if_pos q, q, tt]
        · rw [if_neg q]; exact a2 j (by omega)
      · show f_X12_feed_l23 a b c d e (n + 1) (w32 i) hh = f_X12_feed_l23 a b c d e n (w32 (i + 1 : Nat)) _
        rw [f_X12_feed_l23, if_neg (by rw [wl_20, w_le _ _ (by omega) (by omega) (by omega) (by omega)]; omega), lt_b]
        by_cases q1 : 4 ≤ i
        · rw [if_pos (by rw [wl_4, w_le _ _ (by omega) (by omega) (by omega) (by omega)]; omega)]
          by_cases q2 : 8 ≤ i
          · rw [if_pos (by rw [wl_8, w_le _ _ (by omega) (by omega) (by omega) (by omega)]; omega)]
            by_cases q3 : 12 ≤ i
            · rw [if_pos (by rw [wl_12, w_le _ _ (by omega) (by omega) (by omega) (by omega)]; omega)]
              by_cases q4 : 16 ≤ i
              · rw [if_pos (by rw [wl_16, w_le _ _ (by omega) (by omega) (by omega) (by omega)]; omega)]
                exact fin e (by unfold args; rw [if_neg (by omega), if_neg (by omega), if_neg (by omega), if_neg (by omega)])
              · rw [if_neg (by rw [wl_16, w_le _ _ (by omega) (by omega) (by omega) (by omega)]; omega)]
                exact fin d (by unfold args; rw [if_neg (by omega), if_neg (by omega), if_neg (by omega), if_pos (by omega)])
            · rw [if_neg (by rw [wl_12, w_le _ _ (by omega) (by omega) (by omega) (by omega)]; omega)]
              exact fin c (by unfold args; rw [if_neg (by omega), if_neg (by omega), if_pos (by omega)])
          · rw [if_neg (by rw [wl_8, w_le _ _ (by omega) (by omega) (by omega) (by omega)]; omega)]
            exact fin b (by unfold args; rw [if_neg (by omega), if_pos (by omega)])
        · rw [if_neg (by rw [wl_4, w_le _ _ (by omega) (by omega) (by omega) (by omega)]; omega)]
          exact fin a (by unfold args; rw [if_pos (by omega)])) (fun n s hP => by
      obtain ⟨v6, hh⟩ := s
      obtain ⟨p1, p2⟩ := hP
      dsimp only at p1 p2
      subst p1
      refine ⟨hh, ?_, p2⟩
      show f_X12_feed_l23 a b c d e (n + 1) (w32 (20 : Nat)) hh = _
      rw [f_X12_feed_l23, if_pos (by decide)]) FU (by decide) (0, h) ⟨rfl, M27.rf, hT.1, fun j hj => by rw [t0 j hj]; exact hT.2 j hj⟩
theorem CI.tape {h1 : AH} {n : Nat} {t : Nat → Nat} (hI : CI h S) (hF : F12 h h1) (hT : TPC h1 n t) : CI h1 (sN S n t) := by
  obtain ⟨k1, k2, k3, k4, k5⟩ := hI.core (hF.1.mono (fun c q => by omega))
  obtain ⟨ad, b1, l1, w1, s1, s2, s3, i1, i2, i3, t1, t2, f1, f2⟩ := hI
  refine ⟨k1, k2, k3, k4, hT.1, ?_, hT.2, k5, ?_, ?_, ?_, ?_, ?_, ?_⟩
  · rw [hF.2 2 (by omega)]; exact s2
  · rw [(hF.1 31 (by omega)).2.2.1]; exact i2
  · rw [(hF.1 32 (by omega)).2.2.1]; exact i3
  · rw [(hF.1 28 (by omega)).1]; exact t1
  · rw [(hF.1 29 (by omega)).2.2.1, (hF.1 30 (by omega)).2.2.1]; exact t2
  · rw [(hF.1 57 (by omega)).1]; exact f1
  · rw [(hF.1 57 (by omega)).1]; exact f2
theorem MI2.tape {h1 : AH} {n : Nat} {t : Nat → Nat} (hM : MI2 h S T) (hF : M27 h h1) (hT : TPM h1 n t) : MI2 h1 (sN S n t) T := by
  obtain ⟨k1, k2, k3, k4⟩ := hM.core (hF.1.mono (fun c q => by omega)) (hF.2 55 (by omega))
  obtain ⟨b1, l1, w1, n1, n2, n3, s1, t1, t2, f1, f2, -⟩ := hM
  refine ⟨k1, k2, k3, hT.1, ?_, hT.2, ?_, ?_, ?_, ?_, ?_, k4⟩
  · rw [hF.2 36 (by omega)]; exact n2
  · rw [(hF.1 218 (by omega)).2.2.1]; exact s1
  · rw [hF.2 52 (by omega)]; exact t1
  · rw [(hF.1 230 (by omega)).2.2.1, (hF.1 231 (by omega)).2.2.1]; exact t2
  · rw [hF.2 49 (by omega)]; exact f1
  · rw [hF.2 50 (by omega)]; exact f2
theorem t_feed (a b c d e : Int32) (hI : CI h S) (oS : okS S) (hM : MI2 h S T) : TN (f_X11_feed a b c d e h) (f_X12_feed a b c d e) T := by
  have on := oS.2.2.2.1
  have e0 := hI.2.2.2.2.1
  have e2 := hI.2.2.2.2.2.2.1
  by_cases q : xn S + 20 ≤ 500
  · have hT0 : TPC h (xn S) (T20 (xt S) (xn S) (args a b c d e)) := ⟨e0, fun j hj => by rw [show T20 (xt S) (xn S) (args a b c d e) j = xt S j from if_pos hj]; exact e2 j hj⟩
    have hτ : ∀ i v, i < 5 → args a b c d e i = v → ∀ k, k < 4 → T20 (xt S) (xn S) (args a b c d e) (xn S + 4 * i + k) = byt v k := by
      intro i v hi hv k hk
      unfold T20
      rw [if_neg (by omega), show (xn S + 4 * i + k - xn S) / 4 = i by omega, show (xn S + 4 * i + k - xn S) % 4 = k by omega, hv]
    obtain ⟨h1, e1, f1, t1⟩ := k_putT hT0 (by omega) a (hτ 0 a (by omega) rfl)
    obtain ⟨h2, e3, f2, t2⟩ := k_putT t1 (by omega) b (hτ 1 b (by omega) rfl)
    obtain ⟨h3, e4, f3, t3⟩ := k_putT t2 (by omega) c (hτ 2 c (by omega) rfl)
    obtain ⟨h4, e5, f4, t4⟩ := k_putT t3 (by omega) d (hτ 3 d (by omega) rfl)
    obtain ⟨h5, e6, f5, t5⟩ := k_putT t4 (by omega) e (hτ 4 e (by omega) rfl)
    have t5 : TPC h5 (xn S + 20) (T20 (xt S) (xn S) (args a b c d e)) := t5
    have F5 : F12 h h5 := (((f1.tr f2).tr f3).tr f4).tr f5
    refine TN_of (S' := sN S (xn S + 20) (T20 (xt S) (xn S) (args a b c d e))) (v := w32 (xn S + 20 : Nat)) ?_ hM ⟨h5, F5.1.mono (fun c q => by omega), hI.tape F5 t5, ?_⟩ (fun h' hM' => ?_)
    · obtain ⟨o1, o2, o3, o4, o5, o6⟩ := oS
      refine ⟨o1, o2, o3, q, fun j hj => ?_, o6⟩
      show T20 (xt S) (xn S) (args a b c d e) j < 256
      unfold T20
      by_cases z : j < xn S
      · rw [if_pos z]; exact o5 j z
      · rw [if_neg z]; exact byt_lt _ _
    · unfold f_X11_feed
      rw [e0, if_pos (by rw [wl_20, w_add, wl_500, w_le _ _ (by omega) (by omega) (by omega) (by omega)]; omega), e1, bnd_s, e3, bnd_s, e4, bnd_s, e5, bnd_s, e6, bnd_s, t5.1]
    · have hM1 := hM'.fr (code0 h').1.m
      obtain ⟨h6, g1, g2, g3⟩ := m_feed a b c d e (h := sfi h' 193 2 0) ⟨hM1.2.2.2.1, hM1.2.2.2.2.2.1⟩ q
      refine ⟨h6, (Fr.sfi _ _ _ _ (by omega)).tr (g2.1.mono (fun c q => by omega)), (hM1.tape g2 g3).le (by omega), ?_⟩
      unfold f_X12_feed
      rw [lt_b, hM1.2.2.2.1, if_pos (by rw [wl_20, w_add, wl_500, w_le _ _ (by omega) (by omega) (by omega) (by omega)]; omega), g1, bnd_s, g3.1]
  · refine TN_of (S' := S) (v := -1) oS hM ⟨h, Fr.rf, hI, ?_⟩ (fun h' hM' => ⟨sfi h' 193 2 0, Fr.sfi _ _ _ _ (by omega), (hM'.fr (code0 h').1.m).le (by omega), ?_⟩)
    · unfold f_X11_feed
      rw [e0, if_neg (by rw [wl_20, w_add, wl_500, w_le _ _ (by omega) (by omega) (by omega) (by omega)]; omega)]
    · unfold f_X12_feed
      rw [lt_b, (hM'.fr (code0 h').1.m).2.2.2.1, if_neg (by rw [wl_20, w_add, wl_500, w_le _ _ (by omega) (by omega) (by omega) (by omega)]; omega)]
end FED
