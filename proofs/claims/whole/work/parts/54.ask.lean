section ASK3
variable {h : AH} {S : SV} {T : Nat}
/-- a leaf that there is, or not -/
def isLf (S : SV) (x y : Int32) : Prop := ∃ b l : Nat, b < 6 ∧ l < vL (xb S b) ∧ x = w32 b ∧ y = w32 l
theorem c_leafIn (hI : CI h S) (oS : okS S) {b l : Nat} (hb : b < 6) (hl : l < vL (xb S b)) : f_X11_bookWithLeaf (w32 b) (w32 l) h = some (.inl (hra h 3 b, h)) := by
  obtain ⟨hC, hA⟩ := hI.ck oS hb
  have e := hC.1.1
  have o := hC.2.2.2.1.1
  unfold f_X11_bookWithLeaf
  rw [c_bookIn hI.1 hb, bnd_s]
  simp only [Sum.elim_inl]
  rw [gd_t (isB_sh (hI.1.1 b hb).1), e, if_neg (by rw [wl_0, w_lt _ _ (by omega) (by omega) (by omega) (by omega)]; omega), if_pos (by rw [w_lt _ _ (by omega) (by omega) (by omega) (by omega)]; omega)]
theorem c_leafOut (hI : CI h S) (oS : okS S) (x y : Int32) (hn : ¬ isLf S x y) : f_X11_bookWithLeaf x y h = some (.inr (0, h)) := by
  obtain ⟨z, rfl, r1, r2⟩ := w_ex x
  obtain ⟨y, rfl, r3, r4⟩ := w_ex y
  unfold f_X11_bookWithLeaf
  by_cases q : 0 ≤ z ∧ z ≤ 5
  · obtain ⟨b, rfl, hb⟩ := nat_of (n := 5) q
    have hb : b < 6 := by omega
    obtain ⟨hC, hA⟩ := hI.ck oS hb
    have e := hC.1.1
    have o := hC.2.2.2.1.1
    rw [c_bookIn hI.1 hb, bnd_s]
    simp only [Sum.elim_inl]
    rw [gd_t (isB_sh (hI.1.1 b hb).1), e]
    by_cases q2 : y < 0
    · rw [if_pos (by rw [wl_0, w_lt _ _ (by omega) (by omega) (by omega) (by omega)]; omega)]
    · rw [if_neg (by rw [wl_0, w_lt _ _ (by omega) (by omega) (by omega) (by omega)]; omega), if_neg (by
        rw [w_lt _ _ (by omega) (by omega) (by omega) (by omega)]
        intro q3
        obtain ⟨l, rfl, -⟩ := nat_of (z := y) (n := 40) (by omega)
        exact hn ⟨b, l, hb, by omega, rfl, rfl⟩)]
  · rw [c_bookOut r1 r2 q, bnd_s]
    rfl
theorem m_leafIn (hM : MI2 h S T) (oS : okS S) {b l : Nat} (hb : b < 6) (hl : l < vL (xb S b)) : f_X12_isLeaf (w32 b) (w32 l) h = some true := by
  have e := (hM.1 b hb).1.1
  have o := (oS.1 b hb).1.1
  unfold f_X12_isLeaf
  rw [m_isBookN hb, if_pos rfl, gd_t (by rw [w_ibN _ _ (by omega)]; omega), w_clN _ (by omega), e, wl_1, w_sub, wl_0, e_isIn _ _ _ (by omega) (by omega) (by omega) (by omega) (by omega) (by omega), decide_eq_true (by omega), if_pos rfl]
theorem m_leafOut (hM : MI2 h S T) (oS : okS S) (x y : Int32) (hn : ¬ isLf S x y) : f_X12_isLeaf x y h = some false := by
  obtain ⟨z, rfl, r1, r2⟩ := w_ex x
  obtain ⟨y, rfl, r3, r4⟩ := w_ex y
  unfold f_X12_isLeaf
  by_cases q : 0 ≤ z ∧ z ≤ 5
  · obtain ⟨b, rfl, hb⟩ := nat_of (n := 5) q
    have hb : b < 6 := by omega
    have e := (hM.1 b hb).1.1
    have o := (oS.1 b hb).1.1
    rw [m_isBookN hb, if_pos rfl, gd_t (by rw [w_ibN _ _ (by omega)]; omega), w_clN _ (by omega), e, wl_1, w_sub, wl_0, e_isIn _ _ _ (by omega) (by omega) (by omega) (by omega) (by omega) (by omega), decide_eq_false (by
      intro q3
      obtain ⟨l, rfl, -⟩ := nat_of (z := y) (n := 40) (by omega)
      exact hn ⟨b, l, hb, by omega, rfl, rfl⟩), if_neg (by decide)]
  · rw [m_isBook r1 r2, decide_eq_false q, if_neg (by decide)]
theorem q_leaf (x y v : Int32) (hI : CI h S) (oS : okS S) : ∃ s, RC (f_X11_leaf x y v h) h s ∧ ∀ h', MI2 h' S T → RM (f_X12_leaf x y v h') h' s := by
  rcases Classical.em (isLf S x y) with ⟨b, l, hb, hl, rfl, rfl⟩ | hn
  · obtain ⟨hC, hA⟩ := hI.ck oS hb
    have o := hC.2.2.2.1.1
    have sB := isB_sh (hI.1.1 b hb).1
    obtain ⟨e1, e2, e3, e4, e5, e6⟩ := hC.1.2.2.2.2.2.1 l hl
    have lib : ib (w32 (l : Int)) 40 = true := by rw [w_ibN _ _ (by omega)]; omega
    have lcl : cl (w32 (l : Int)) = l := w_clN l (by omega)
    have lat : ib (f_X12_at (w32 b) (w32 l)) 320 = true := by rw [e_at, w_ibN _ _ (by omega)]; omega
    have lca : cl (f_X12_at (w32 b) (w32 l)) = 40 * b + l := by rw [e_at, w_clN _ (by omega)]
    have cls : f_X11_leaf (w32 b) (w32 l) v h = (if v = 0 then some (.inl (w32 (vk (xb S b) l), h)) else (if v = 1 then some (.inl (w32 (vt (xb S b) l), h)) else (if v = 2 then some (.inl (w32 (vp (xb S b) l), h)) else (if v = 3 then some (.inl (w32 (vb (xb S b) l), h)) else (if v = 4 then some (.inl (w32 (vy (xb S b) l), h)) else (if v = 5 then some (.inl (w32 (vs (xb S b) l), h)) else (some (.inr (0, h))))))))) := by
      unfold f_X11_leaf
      rw [c_leafIn hI oS hb hl, bnd_s]
      simp only [Sum.elim_inl, gd_t sB, gd_t lib, lcl, e1, e2, e3, e4, e5, e6]
    have mod : ∀ h', MI2 h' S T → f_X12_leaf (w32 b) (w32 l) v h' = (if v = 0 then some (w32 (vk (xb S b) l), sfi h' 193 2 0) else (if v = 1 then some (w32 (vt (xb S b) l), sfi h' 193 2 0) else (if v = 2 then some (w32 (vp (xb S b) l), sfi h' 193 2 0) else (if v = 3 then some (w32 (vb (xb S b) l), sfi h' 193 2 0) else (if v = 4 then some (w32 (vy (xb S b) l), sfi h' 193 2 0) else (if v = 5 then some (w32 (vs (xb S b) l), sfi h' 193 2 0) else (bnd (f_X12_fail 1 (sfi h' 193 2 0)) (fun q16 => some (q16.1, q16.2))))))))) := by
      intro h' hM
      have hM1 := hM.fr (code0 h').1.m
      obtain ⟨g1, g2, g3, g4, g5, g6⟩ := (hM1.1 b hb).1.2.2.2.2.2.1 l hl
      unfold f_X12_leaf
      rw [lt_b, m_leafIn hM1 oS hb hl, bnd_s, if_pos rfl]
      simp only [gd_t lat, lca, g1, g2, g3, g4, g5, g6]
    have key : ∀ (s : Option Int), RC (f_X11_leaf (w32 b) (w32 l) v h) h s → (∀ h', MI2 h' S T → RM (f_X12_leaf (w32 b) (w32 l) v h') h' s) → ∃ s, RC (f_X11_leaf (w32 b) (w32 l) v h) h s ∧ ∀ h', MI2 h' S T → RM (f_X12_leaf (w32 b) (w32 l) v h') h' s := fun s a b => ⟨s, a, b⟩
    by_cases y0 : v = 0
    · exact key (some (vk (xb S b) l)) (RC_some Fr.rf (by rw [cls, if_pos y0])) (fun h' hM => RM_some (code0 h').1 (by rw [mod h' hM, if_pos y0]) (code0 h').2)
    by_cases y1 : v = 1
    · exact key (some (vt (xb S b) l)) (RC_some Fr.rf (by rw [cls, if_neg y0, if_pos y1])) (fun h' hM => RM_some (code0 h').1 (by rw [mod h' hM, if_neg y0, if_pos y1]) (code0 h').2)
    by_cases y2 : v = 2
    · exact key (some (vp (xb S b) l)) (RC_some Fr.rf (by rw [cls, if_neg y0, if_neg y1, if_pos y2])) (fun h' hM => RM_some (code0 h').1 (by rw [mod h' hM, if_neg y0, if_neg y1, if_pos y2]) (code0 h').2)
    by_cases y3 : v = 3
    · exact key (some (vb (xb S b) l)) (RC_some Fr.rf (by rw [cls, if_neg y0, if_neg y1, if_neg y2, if_pos y3])) (fun h' hM => RM_some (code0 h').1 (by rw [mod h' hM, if_neg y0, if_neg y1, if_neg y2, if_pos y3]) (code0 h').2)
    by_cases y4 : v = 4
    · exact key (some (vy (xb S b) l)) (RC_some Fr.rf (by rw [cls, if_neg y0, if_neg y1, if_neg y2, if_neg y3, if_pos y4])) (fun h' hM => RM_some (code0 h').1 (by rw [mod h' hM, if_neg y0, if_neg y1, if_neg y2, if_neg y3, if_pos y4]) (code0 h').2)
    by_cases y5 : v = 5
    · exact key (some (vs (xb S b) l)) (RC_some Fr.rf (by rw [cls, if_neg y0, if_neg y1, if_neg y2, if_neg y3, if_neg y4, if_pos y5])) (fun h' hM => RM_some (code0 h').1 (by rw [mod h' hM, if_neg y0, if_neg y1, if_neg y2, if_neg y3, if_neg y4, if_pos y5]) (code0 h').2)
    exact key none (RC_none Fr.rf (by rw [cls, if_neg y0, if_neg y1, if_neg y2, if_neg y3, if_neg y4, if_neg y5])) (fun h' hM => RM_fail (code0 h').1 (by rw [mod h' hM, if_neg y0, if_neg y1, if_neg y2, if_neg y3, if_neg y4, if_neg y5, m_fail, bnd_s]))
  · refine ⟨none, RC_none Fr.rf ?_, fun h' hM => RM_fail (code0 h').1 ?_⟩
    · unfold f_X11_leaf
      rw [c_leafOut hI oS x y hn, bnd_s]
      rfl
    · unfold f_X12_leaf
      rw [lt_b, m_leafOut (hM.fr (code0 h').1.m) oS x y hn, bnd_s, if_neg (by decide), m_fail, bnd_s]
theorem q_years (x : Int32) (hI : CI h S) (oS : okS S) : ∃ s, RC (f_X11_years x h) h s ∧ ∀ h', MI2 h' S T → RM (f_X12_years x h') h' s := by
  obtain ⟨z, rfl, r1, r2⟩ := w_ex x
  have e1 := hI.2.2.2.2.2.2.2.2.2.2.2.2.1
  have e2 := hI.2.2.2.2.2.2.2.2.2.2.2.2.2
  have ofx := oS.2.2.2.2.2.2.2.2.2.1
  have ofx2 := oS.2.2.2.2.2.2.2.2.2.2.1
  have mf : ∀ h', MI2 h' S T → hfi (sfi h' 193 2 0) 193 49 = w32 (xfx S) ∧ (xfx S ≠ -1 → hfi (sfi h' 193 2 0) 193 50 = w32 (xfy S)) := fun h' hM => ⟨(hM.fr (code0 h').1.m).2.2.2.2.2.2.2.2.2.1, (hM.fr (code0 h').1.m).2.2.2.2.2.2.2.2.2.2.1⟩
  by_cases q : xfx S = -1
  · refine ⟨none, RC_none Fr.rf ?_, fun h' hM => RM_fail (code0 h').1 ?_⟩
    · unfold f_X11_years
      rw [if_pos (by rw [e1, decide_eq_false (fun z => z q)]; decide)]
    · unfold f_X12_years
      rw [lt_b, (mf h' hM).1, q, if_pos (by decide), m_fail, bnd_s]
  · obtain ⟨g1, g2⟩ := e2 q
    have c1 : f_X11_years (w32 z) h = if w32 z < 0 then some (.inr (0, h)) else if w32 z ≤ 1 then if w32 z = 0 then some (.inl (w32 (xfx S), h)) else some (.inl (w32 (xfy S), h)) else some (.inr (0, h)) := by
      unfold f_X11_years
      rw [if_neg (by rw [e1, decide_eq_true q]; decide), g1, g2]
    have m1 : ∀ h', MI2 h' S T → f_X12_years (w32 z) h' = if w32 z < 0 then some (0, sfi (sfi h' 193 2 0) 193 2 1) else if w32 z ≤ 1 then if w32 z = 0 then some (w32 (xfx S), sfi h' 193 2 0) else some (w32 (xfy S), sfi h' 193 2 0) else some (0, sfi (sfi h' 193 2 0) 193 2 1) := by
      intro h' hM
      obtain ⟨k1, k2⟩ := mf h' hM
      unfold f_X12_years
      rw [lt_b, k1, k2 q, if_neg (by rw [wl_1, w_neg]; exact ne_w (by omega) (by omega) (by omega) (by omega) q), m_fail, bnd_s]
    by_cases z0 : z < 0
    · have p : w32 z < 0 := by rw [wl_0, w_lt _ _ (by omega) (by omega) (by omega) (by omega)]; exact z0
      exact ⟨none, RC_none Fr.rf (by rw [c1, if_pos p]), fun h' hM => RM_fail (code0 h').1 (by rw [m1 h' hM, if_pos p])⟩
    · have p : ¬ w32 z < 0 := by rw [wl_0, w_lt _ _ (by omega) (by omega) (by omega) (by omega)]; exact z0
      by_cases z1 : z ≤ 1
      · have p1 : w32 z ≤ 1 := by rw [wl_1, w_le _ _ (by omega) (by omega) (by omega) (by omega)]; exact z1
        by_cases z2 : w32 z = 0
        · exact ⟨some (xfx S), RC_some Fr.rf (by rw [c1, if_neg p, if_pos p1, if_pos z2]), fun h' hM => RM_some (code0 h').1 (by rw [m1 h' hM, if_neg p, if_pos p1, if_pos z2]) (code0 h').2⟩
        · exact ⟨some (xfy S), RC_some Fr.rf (by rw [c1, if_neg p, if_pos p1, if_neg z2]), fun h' hM => RM_some (code0 h').1 (by rw [m1 h' hM, if_neg p, if_pos p1, if_neg z2]) (code0 h').2⟩
      · have p1 : ¬ w32 z ≤ 1 := by rw [wl_1, w_le _ _ (by omega) (by omega) (by omega) (by omega)]; exact z1
        exact ⟨none, RC_none Fr.rf (by rw [c1, if_neg p, if_neg p1]), fun h' hM => RM_fail (code0 h').1 (by rw [m1 h' hM, if_neg p, if_neg p1])⟩
/-! how often a way turns a leaf in a year -/
def yr (ω : WV) (w k p : Nat) : Nat := ω.1 w k * (100 - ω.2 w k * p) / 100
theorem yr_le {ω : WV} {w k : Nat} (p : Nat) (h : ω.1 w k ≤ 99) : yr ω w k p ≤ 99 := by
  unfold yr
  have : ω.1 w k * (100 - ω.2 w k * p) ≤ 99 * 100 := Nat.mul_le_mul h (by omega)
  omega
theorem m_turn (hW : WM h (xw S)) (oW : okW (xw S)) {w k p : Nat} (hw : w < 6) (hk : k < 12) (hp : p < 20) : f_X12_turningsOf (w32 w) (w32 k) (w32 p) h = some (w32 (yr (xw S) w k p)) := by
  obtain ⟨e1, e2⟩ := hW w hw k hk
  obtain ⟨o1, o2⟩ := oW w hw k hk
  have ei : (12 : Int32) * w32 w + w32 k = w32 ((12 * w + k : Nat) : Int) := by rw [wl_12, w_mul, w_add]; exact ww (by omega)
  have lib : ib (w32 ((12 * w + k : Nat) : Int)) 84 = true := by rw [w_ibN _ _ (by omega)]; omega
  have hm := mul_rg (a := ((xw S).2 w k : Int)) (A := 50) (b := (p : Int)) (B := 19) (by omega) (by omega) (by omega) (by omega)
  unfold f_X12_turningsOf
  rw [ei, gd_t lib, w_clN _ (by omega), e1]
  by_cases q : (xw S).1 w k = 0
  · rw [if_pos q, if_pos (by decide)]
    unfold yr
    rw [q]
    simp only [Nat.zero_mul, Nat.zero_div]
    rfl
  · rw [if_neg q, e2 q, if_neg (by rw [wl_1, w_neg]; exact ne_w (by omega) (by omega) (by omega) (by omega) (by omega)), gd_t lib, wl_100, w_mul, w_sub, w_mul]
    refine congrArg some ?_
    by_cases q2 : (xw S).2 w k * p ≤ 100
    · have hq : (100 : Int) - ((xw S).2 w k : Int) * p = ((100 - (xw S).2 w k * p : Nat) : Int) := by
        rw [Int.natCast_sub q2]; push_cast; omega
      have h3 := mul_rg (a := ((xw S).1 w k : Int)) (A := 99) (b := ((100 - (xw S).2 w k * p : Nat) : Int)) (B := 100) (by omega) (by omega) (by omega) (by omega)
      rw [hq, w_divP _ _ h3.1 (by omega) (by omega) (by omega), wl_0, e_max _ _ (by omega) (by omega) (by omega) (by omega)]
      refine ww ?_
      unfold yr
      have : (((xw S).1 w k : Int) * ((100 - (xw S).2 w k * p : Nat) : Int) / 100) = (((xw S).1 w k * (100 - (xw S).2 w k * p) / 100 : Nat) : Int) := by push_cast; rfl
      rw [this]
      omega
    · have hn : ((xw S).1 w k : Int) * (100 - ((xw S).2 w k : Int) * p) ≤ 0 := by
        have q2' : (100 : Int) < ((xw S).2 w k : Int) * p := by have := Int.ofNat_lt.mpr (Nat.lt_of_not_le q2); push_cast at this; exact this
        have := Int.mul_le_mul_of_nonneg_left (show (100 - ((xw S).2 w k : Int) * p) ≤ 0 by omega) (show (0 : Int) ≤ ((xw S).1 w k : Int) by omega)
        simpa using this
      have hlo : -99000 ≤ ((xw S).1 w k : Int) * (100 - ((xw S).2 w k : Int) * p) := by
        have h5 : -(1000 : Int) ≤ 100 - ((xw S).2 w k : Int) * p := by omega
        have h6 := Int.mul_le_mul_of_nonneg_left h5 (show (0 : Int) ≤ ((xw S).1 w k : Int) by omega)
        have h7 : ((xw S).1 w k : Int) * -1000 = -(1000 * ((xw S).1 w k : Int)) := by omega
        omega
      rw [w_div _ _ (by omega) (by omega) (by omega) (by omega), wl_0]
      have ht : (((xw S).1 w k : Int) * (100 - ((xw S).2 w k : Int) * p)).tdiv 100 ≤ 0 ∧ -99000 ≤ (((xw S).1 w k : Int) * (100 - ((xw S).2 w k : Int) * p)).tdiv 100 := by
        generalize ((xw S).1 w k : Int) * (100 - ((xw S).2 w k : Int) * p) = X at hn hlo
        have : X.tdiv 100 = -((-X).tdiv 100) := by rw [show X = -(-X) by omega, Int.neg_tdiv, Int.neg_neg]
        rw [this, Int.tdiv_eq_ediv_of_nonneg (by omega)]
        omega
      rw [e_max _ _ (by omega) (by omega) (by omega) (by omega)]
      refine ww ?_
      unfold yr
      rw [show 100 - (xw S).2 w k * p = 0 by omega, Nat.mul_zero]
      omega
theorem k_turn {r : Nat} {f g : Nat → Nat} (hW : WC1 h r f g) {k p : Nat} (hk : k < 12) (hp : p < 20) (o1 : f k ≤ 99) (o2 : g k ≤ 50) : f_X10_yearly r (w32 k) (w32 p) h = some (w32 ((f k * (100 - g k * p) / 100 : Nat) : Int)) := by
  obtain ⟨e1, e2, e3⟩ := hW k hk
  have lib : ib (w32 (k : Int)) 12 = true := by rw [w_ibN _ _ (by omega)]; omega
  have hm := mul_rg (a := (g k : Int)) (A := 50) (b := (p : Int)) (B := 19) (by omega) (by omega) (by omega) (by omega)
  unfold f_X10_yearly
  rw [gd_t lib, w_clN _ (by omega), e1]
  by_cases q : f k = 0
  · rw [e3 q, wl_0, w_mul, wl_100, w_sub, if_pos (by rw [w_le _ _ (by omega) (by omega) (by omega) (by omega)]; omega), gd_t lib, w_mul, q]
    simp only [Nat.zero_mul, Nat.zero_div]
    rw [w_divP _ _ (by omega) (by omega) (by omega) (by omega)]
    exact sw (by omega)
  · rw [e2 q, w_mul, wl_100, w_sub]
    by_cases q2 : g k * p ≤ 100
    · have hq : (100 : Int) - (g k : Int) * p = ((100 - g k * p : Nat) : Int) := by
        rw [Int.natCast_sub q2]; push_cast; omega
      have h3 := mul_rg (a := (f k : Int)) (A := 99) (b := ((100 - g k * p : Nat) : Int)) (B := 100) (by omega) (by omega) (by omega) (by omega)
      rw [hq, if_pos (by rw [wl_0, w_le _ _ (by omega) (by omega) (by omega) (by omega)]; omega), gd_t lib, w_mul, w_divP _ _ h3.1 (by omega) (by omega) (by omega)]
      refine sw ?_
      push_cast
      rfl
    · have q2' : (100 : Int) < (g k : Int) * p := by have := Int.ofNat_lt.mpr (Nat.lt_of_not_le q2); push_cast at this; exact this
      rw [if_neg (by rw [wl_0, w_le _ _ (by omega) (by omega) (by omega) (by omega)]; omega), show 100 - g k * p = 0 by omega]
      rw [Nat.mul_zero]
      rfl
end ASK3
