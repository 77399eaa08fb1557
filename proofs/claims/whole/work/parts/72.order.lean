/-! orders of the leaves -/
def pv (s : Nat → Int) (i : Nat) : Int := if i = 0 then -1 else s (i - 1)
def Wq (L : Int → Int → Int) (s : Nat → Int) (m : Nat) : Int := sm (fun i => L (pv s i) (s i)) m
def oth (l j : Nat) : Int := if j < l then (j : Int) else (j : Int) + 1
def ins (o : Nat → Int) (x : Int) (p i : Nat) : Int := if i < p then o i else if i = p then x else o (i - 1)
def idn (i : Nat) : Int := (i : Int)
theorem Wq_s (L : Int → Int → Int) (s : Nat → Int) (m : Nat) : Wq L s (m + 1) = Wq L s m + L (pv s m) (s m) := rfl
theorem Wq_congr (L : Int → Int → Int) {s t : Nat → Int} {m : Nat} (h : ∀ i, i < m → s i = t i) : Wq L s m = Wq L t m := by
  unfold Wq
  refine sm_congr (fun i hi => ?_)
  rw [h i hi]
  congr 1
  unfold pv
  split
  · rfl
  · exact h (i - 1) (by omega)
theorem Wq_ins (L : Int → Int → Int) (o : Nat → Int) (x : Int) (p k : Nat) : Wq L (ins o x p) (p + k + 1) = Wq L o (p + k) + L (pv o p) x + (if 0 < k then L x (o p) - L (pv o p) (o p) else 0) := by
  have i1 : ∀ i, i < p → ins o x p i = o i := fun i hi => if_pos hi
  have i2 : ins o x p p = x := by unfold ins; rw [if_neg (by omega), if_pos rfl]
  have i3 : ∀ i, p < i → ins o x p i = o (i - 1) := fun i hi => by unfold ins; rw [if_neg (by omega), if_neg (by omega)]
  induction k with
  | zero =>
    rw [Nat.add_zero, Wq_s, Wq_congr L i1, if_neg (by omega), Int.add_zero, i2]
    congr 2
    unfold pv
    split
    · rfl
    · exact i1 (p - 1) (by omega)
  | succ k ih =>
    rw [show p + (k + 1) + 1 = (p + k + 1) + 1 by omega, Wq_s, ih, show p + (k + 1) = (p + k) + 1 by omega, Wq_s L o, i3 (p + k + 1) (by omega), show p + k + 1 - 1 = p + k by omega, if_pos (show 0 < k + 1 by omega)]
    by_cases q : k = 0
    · subst q
      rw [if_neg (show ¬ (0 : Nat) < 0 by omega), Nat.add_zero, show pv (ins o x p) (p + 1) = x by unfold pv; rw [if_neg (by omega)]; exact i2]
      omega
    · rw [if_pos (show 0 < k by omega), show pv (ins o x p) (p + k + 1) = pv o (p + k) by unfold pv; rw [if_neg (by omega), if_neg (by omega), show p + k + 1 - 1 = p + k by omega, i3 (p + k) (by omega)]]
      omega
theorem ins_id (l i : Nat) : ins (oth l) (l : Int) l i = idn i := by
  unfold ins oth idn
  by_cases q : i < l
  · rw [if_pos q, if_pos q]
  · rw [if_neg q]
    by_cases e : i = l
    · rw [if_pos e, e]
    · rw [if_neg e, if_neg (by omega)]; omega
def Vq (L : Int → Int → Int) (n l p : Nat) : Int := Wq L (ins (oth l) (l : Int) p) n
theorem Vq_id (L : Int → Int → Int) (n l : Nat) : Vq L n l l = Wq L idn n := Wq_congr L (fun i _ => ins_id l i)
theorem Vq_1 (L : Int → Int → Int) {n l p : Nat} (hp : p < n) (L0 : ∀ x, L x (n : Int) = 0) (hl : l < n) : Vq L n l p = Wq L (oth l) (n - 1) + (L (pv (oth l) p) l + L l (oth l p) - L (pv (oth l) p) (oth l p)) := by
  have h := Wq_ins L (oth l) (l : Int) p (n - 1 - p)
  rw [show p + (n - 1 - p) + 1 = n by omega, show p + (n - 1 - p) = n - 1 by omega] at h
  unfold Vq
  rw [h]
  by_cases q : 0 < n - 1 - p
  · rw [if_pos q]; omega
  · rw [if_neg q]
    have e : oth l p = (n : Int) := by unfold oth; rw [if_neg (by omega)]; omega
    rw [e, L0, L0]; omega
theorem Vq_eq (L : Int → Int → Int) {n l p : Nat} (hl : l < n) (hp : p < n) (L0 : ∀ x, L x (n : Int) = 0) : Wq L idn n - L ((l : Int) - 1) l - L l ((l : Int) + 1) + L ((l : Int) - 1) ((l : Int) + 1) + (L (pv (oth l) p) l + L l (oth l p) - L (pv (oth l) p) (oth l p)) = Vq L n l p := by
  have h1 := Vq_1 L hp L0 hl
  have h2 := Vq_1 L hl L0 hl
  rw [Vq_id] at h2
  have e1 : oth l l = (l : Int) + 1 := by unfold oth; rw [if_neg (by omega)]
  have e2 : pv (oth l) l = (l : Int) - 1 := by
    unfold pv
    split
    · omega
    · unfold oth; rw [if_pos (by omega)]; omega
  rw [e1, e2] at h2
  omega
def rI (n : Nat) (x : Int) : Option Nat := if 0 ≤ x ∧ x < n then some x.toNat else none
def lkN (β : BV) (γ : GV) (a : LV) (p : Option Nat) (l : Nat) : Int := max 0 (-(sUH β γ a l p))
def lkZ (β : BV) (γ : GV) (a : LV) (x y : Int) : Int := match rI (vL β) y with
  | none => 0
  | some l => lkN β γ a (rI (vL β) x) l
section ORD
variable {h : AH} {S : SV} {T b B r : Nat} {β : BV} {γ : GV} {a : LV}
theorem rI_in {n : Nat} (i : Nat) (hi : i < n) : rI n (i : Int) = some i := by unfold rI; rw [if_pos (by omega)]; rfl
theorem rI_out {n : Nat} {x : Int} (h : ¬ (0 ≤ x ∧ x < n)) : rI n x = none := if_neg h
theorem rI_lt {n : Nat} {x : Int} {q : Nat} (h : rI n x = some q) : q < n := by
  unfold rI at h
  split at h
  · cases h; omega
  · cases h
theorem lkZ_n (x : Int) : lkZ β γ a x (vL β : Int) = 0 := by unfold lkZ; rw [rI_out (by omega)]
theorem lkZ_rg (oB : okB β) (oG : okG (vL β) γ) (oL : okL a) (hk : kn β γ) (x y : Int) : 0 ≤ lkZ β γ a x y ∧ lkZ β γ a x y ≤ 1001048 := by
  unfold lkZ
  cases e : rI (vL β) y with
  | none => dsimp only; omega
  | some l =>
    have := sUL_rg oB oG oL (rI_lt e) (hk.2 l (rI_lt e)) (rI (vL β) x) (fun q hq => ⟨rI_lt hq, hk.2 q (rI_lt hq)⟩)
    dsimp only
    unfold lkN
    omega
theorem Wq_rg (oB : okB β) (oG : okG (vL β) γ) (oL : okL a) (hk : kn β γ) (s : Nat → Int) (m : Nat) (hm : m ≤ 40) : 0 ≤ Wq (lkZ β γ a) s m ∧ Wq (lkZ β γ a) s m ≤ 40041920 := by
  have := sm_rg (f := fun i => lkZ β γ a (pv s i) (s i)) (n := m) (a := 0) (b := 1001048) (fun i _ => lkZ_rg oB oG oL hk _ _)
  unfold Wq
  omega
/-! the class -/
def OC (h : AH) (β : BV) (γ : GV) (a : LV) : Prop := hfi h 60 3 = w32 (vL β) ∧ ∀ l, l < vL β → hia h 61 l = w32 (sBH β γ l - vs β l) ∧ hia h 62 l = w32 (sTh a (sBL β γ l))
theorem OC.fr {h' : AH} (hO : OC h β γ a) (hF : Fr (fun c => c = 60) h h') (e3 : hfi h' 60 3 = hfi h 60 3) : OC h' β γ a := by
  refine ⟨by rw [e3]; exact hO.1, fun l hl => ?_⟩
  rw [(hF 61 (by omega)).2.2.1, (hF 62 (by omega)).2.2.1]
  exact hO.2 l hl
theorem k_ofill (hC : CK h B (B + 7) r β γ a) (hX : isB B) (hr : isLw r) (hk : kn β γ) : ∃ h1, f_X6_fill 60 B r h = some h1 ∧ Fr (fun c => 60 ≤ c ∧ c ≤ 62) h h1 ∧ OC h1 β γ a := by
  obtain ⟨hB, hG, hL, oB, oG, oL⟩ := id hC
  have o1 := oB.1
  unfold isB at hX
  unfold isLw at hr
  have e1 := hB.1
  obtain ⟨h1, e, f, z3, z⟩ := loopR (fun n (s : Int32 × AH) => f_X6_fill_l10 60 B r n s.1 s.2) (fun i s => s.1 = w32 (i : Nat) ∧ Fr (fun c => 60 ≤ c ∧ c ≤ 62) h s.2 ∧ hfi s.2 60 3 = w32 (vL β) ∧ ∀ l, l < i → hia s.2 61 l = w32 (sBH β γ l - vs β l) ∧ hia s.2 62 l = w32 (sTh a (sBL β γ l))) (fun h1 => Fr (fun c => 60 ≤ c ∧ c ≤ 62) h h1 ∧ hfi h1 60 3 = w32 (vL β) ∧ ∀ l, l < vL β → hia h1 61 l = w32 (sBH β γ l - vs β l) ∧ hia h1 62 l = w32 (sTh a (sBL β γ l))) (vL β) (fun i n s hi hP => by
      obtain ⟨v3, hh⟩ := s
      obtain ⟨p1, p2, p3, p4⟩ := hP
      dsimp only at p1 p2 p3 p4
      subst p1
      have hC2 := hC.fr p2 (fun c h1 h2 => by omega) (by omega) (by omega) (by omega)
      have d6 := (hC2.1.2.2.2.2.2.1 i hi).2.2.2.2.2
      have rr := sBL_rg oB oG hi (hk.2 i hi)
      have F1 : Fr (fun c => 60 ≤ c ∧ c ≤ 62) h (sia hh 61 i (w32 (sBH β γ i - vs β i))) := p2.tr (Fr.sia _ _ _ _ (by omega))
      have hC3 := hC.fr F1 (fun c h1 h2 => by omega) (by omega) (by omega) (by omega)
      refine ⟨(w32 (i + 1 : Nat), sia (sia hh 61 i (w32 (sBH β γ i - vs β i))) 62 i (w32 (sTh a (sBL β γ i)))), ⟨rfl, F1.tr (Fr.sia _ _ _ _ (by omega)), p3, fun l hl => ?_⟩, ?_⟩
      · show hia (sia (sia hh _ _ _) _ _ _) 61 l = _ ∧ hia (sia (sia hh _ _ _) _ _ _) 62 l = _
        by_cases q : l = i
        · subst q
          simp (disch := omega) only [ia_sia_ne, ia_sia_eq]
          exact ⟨trivial, trivial⟩
        · simp (disch := omega) only [ia_sia_ne, ia_sia_nk]
          exact p4 l (by omega)
      · show f_X6_fill_l10 60 B r (n + 1) (w32 i) hh = f_X6_fill_l10 60 B r n (w32 (i + 1 : Nat)) _
        rw [f_X6_fill_l10, p3, if_neg (by rw [w_le _ _ (by omega) (by omega) (by omega) (by omega)]; omega), k_bareHigh hC2 hi (hk.2 i hi), bnd_s, gd_t (by rw [w_ibN _ _ (by omega)]; omega), gd_t (by rw [w_ibN _ _ (by omega)]; omega), lt_b, w_clN _ (by omega), d6, w_sub]
        rw [show f_X0_bareLow B (B + 7) (w32 (i : Int)) (sia hh (60 + 1) i (w32 (sBH β γ i - vs β i))) = _ from k_bareLow hC3 hi (hk.2 i hi), bnd_s]
        rw [show f_X5_through r (w32 (sBL β γ i)) (sia hh (60 + 1) i (w32 (sBH β γ i - vs β i))) = _ from k_through hC3.2.2.1 oL (by omega) (by omega), bnd_s, gd_t (by rw [w_ibN _ _ (by omega)]; omega), lt_b, wl_1, w_add, w_s]) (fun n s hP => by
      obtain ⟨v3, hh⟩ := s
      obtain ⟨p1, p2, p3, p4⟩ := hP
      dsimp only at p1 p2 p3 p4
      subst p1
      refine ⟨hh, ?_, p2, p3, p4⟩
      show f_X6_fill_l10 60 B r (n + 1) (w32 (vL β)) hh = _
      rw [f_X6_fill_l10, p3, if_pos (Int32.le_refl _)]) FU (by unfold FU; omega) (0, sfi h 60 3 (hfi h B 0)) ⟨rfl, Fr.sfi _ _ _ _ (by omega), by show hfi (sfi h 60 3 (hfi h B 0)) 60 3 = _; rw [fi_sfi_eq, e1], fun l hl => by omega⟩
  refine ⟨h1, ?_, f, z3, z⟩
  unfold f_X6_fill
  rw [lt_b, show f_X6_fill_l10 60 B r FU 0 (sfi h 60 3 (hfi h B 0)) = _ from e, bnd_s]
theorem k_lack (hO : OC h β γ a) (oB : okB β) (oG : okG (vL β) γ) (oL : okL a) (hk : kn β γ) {x y : Int} (hx : -1 ≤ x) (hx2 : x ≤ 1000) (hy : -1 ≤ y) (hy2 : y ≤ 1000) : f_X6_lack 60 (w32 x) (w32 y) h = some (w32 (lkZ β γ a x y)) := by
  have o1 := oB.1
  have e3 := hO.1
  unfold f_X6_lack lkZ
  by_cases qy : 0 ≤ y ∧ y < vL β
  · obtain ⟨l, rfl, -⟩ := nat_of (z := y) (n := 40) (by omega)
    have hl : l < vL β := by omega
    have m1 := (hO.2 l hl).1
    have rr := sBL_rg oB oG hl (hk.2 l hl)
    have rs := (oB.2.2.2.2.2.1 l hl).2.2.2.2.2
    rw [rI_in l hl]
    dsimp only
    rw [if_neg (by rw [wl_0, w_lt _ _ (by omega) (by omega) (by omega) (by omega)]; omega), e3, if_pos (by rw [w_lt _ _ (by omega) (by omega) (by omega) (by omega)]; omega), lt_b]
    have fin : ∀ z : Int, 0 ≤ z → z ≤ 2000000 → gd (ib (w32 (l : Int)) 40 = true) (some (f_J9_max_7cf53 0 (w32 z - hia h (60 + 1) (cl (w32 (l : Int)))))) = some (w32 (max 0 (z - (sBH β γ l - vs β l)))) := by
      intro z z1 z2
      rw [gd_t (by rw [w_ibN _ _ (by omega)]; omega), w_clN _ (by omega), show hia h (60 + 1) l = _ from m1, w_sub, show f_J9_max_7cf53 0 (w32 (z - (sBH β γ l - vs β l))) = _ from e_max 0 _ (by omega) (by omega) (by omega) (by omega)]
    have key : ∀ z : Int, (match rI (vL β) x with | none => (0 : Int) | some q => sTh a (sBL β γ q)) = z → w32 (max 0 (z - (sBH β γ l - vs β l))) = w32 (lkN β γ a (rI (vL β) x) l) := by
      intro z hz
      unfold lkN sUH
      cases e : rI (vL β) x with
      | none => rw [e] at hz; dsimp only at hz ⊢; exact ww (by omega)
      | some q => rw [e] at hz; dsimp only at hz ⊢; exact ww (by omega)
    by_cases qx : 0 ≤ x ∧ x < vL β
    · obtain ⟨m, rfl, -⟩ := nat_of (z := x) (n := 40) (by omega)
      have hm : m < vL β := by omega
      have m2 := (hO.2 m hm).2
      have rm := sBL_rg oB oG hm (hk.2 m hm)
      have rt := sTh_rg oL rm.1
      rw [if_neg (by rw [wl_0, w_lt _ _ (by omega) (by omega) (by omega) (by omega)]; omega), if_pos (by rw [w_lt _ _ (by omega) (by omega) (by omega) (by omega)]; omega), gd_t (by rw [w_ibN _ _ (by omega)]; omega), w_clN m (by omega), show hia h (60 + 2) m = _ from m2]
      have f := fin (sTh a (sBL β γ m)) (by omega) (by omega)
      exact f.trans (by rw [key _ (by rw [rI_in m hm])])
    · have f := fin 0 (by omega) (by omega)
      have k0 := key 0 (by rw [rI_out qx])
      by_cases q0 : x < 0
      · rw [if_pos (by rw [wl_0, w_lt _ _ (by omega) (by omega) (by omega) (by omega)]; omega)]
        exact f.trans (by rw [k0])
      · rw [if_neg (by rw [wl_0, w_lt _ _ (by omega) (by omega) (by omega) (by omega)]; omega), if_neg (by rw [w_lt _ _ (by omega) (by omega) (by omega) (by omega)]; omega)]
        exact f.trans (by rw [k0])
  · rw [rI_out qy]
    dsimp only
    by_cases q0 : y < 0
    · rw [if_pos (by rw [wl_0, w_lt _ _ (by omega) (by omega) (by omega) (by omega)]; omega)]; rfl
    · rw [if_neg (by rw [wl_0, w_lt _ _ (by omega) (by omega) (by omega) (by omega)]; omega), e3, if_neg (by rw [w_lt _ _ (by omega) (by omega) (by omega) (by omega)]; omega)]; rfl
theorem k_want (hO : OC h β γ a) (oB : okB β) (oG : okG (vL β) γ) (oL : okL a) (hk : kn β γ) : f_X6_want 60 h = some (w32 (Wq (lkZ β γ a) idn (vL β))) := by
  have o1 := oB.1
  have e3 := hO.1
  have lp : f_X6_want_l4 60 h FU 0 0 = some (w32 (Wq (lkZ β γ a) idn (vL β))) := loopN (fun n (s : Int32 × Int32) => f_X6_want_l4 60 h n s.1 s.2) (fun i => (w32 (Wq (lkZ β γ a) idn i), w32 (i : Nat))) (vL β) _ (fun i n hi => by
      show f_X6_want_l4 60 h (n + 1) (w32 (Wq (lkZ β γ a) idn i)) (w32 i) = f_X6_want_l4 60 h n (w32 (Wq (lkZ β γ a) idn (i + 1))) (w32 (i + 1 : Nat))
      rw [f_X6_want_l4, e3, if_neg (by rw [w_le _ _ (by omega) (by omega) (by omega) (by omega)]; omega), wl_1, w_sub, k_lack hO oB oG oL hk (by omega) (by omega) (by omega) (by omega), bnd_s, w_add, w_add, w_s, Wq_s, show pv idn i = (i : Int) - 1 from by unfold pv idn; split <;> omega]
      rfl) (fun n => by
      show f_X6_want_l4 60 h (n + 1) _ (w32 (vL β)) = _
      rw [f_X6_want_l4, e3, if_pos (Int32.le_refl _)]) FU (by unfold FU; omega)
  unfold f_X6_want
  rw [lp, bnd_s]
theorem e_oth (l : Nat) (hl : l < 1000) {x : Int} (h1 : -1 ≤ x) (h2 : x ≤ 1000) : f_X6_otherAt (w32 l) (w32 x) = w32 (if (l : Int) ≤ x then x + 1 else x) := by
  unfold f_X6_otherAt
  by_cases q : (l : Int) ≤ x
  · rw [if_pos (by rw [w_le _ _ (by omega) (by omega) (by omega) (by omega)]; omega), if_pos q, wl_1, w_add]
  · rw [if_neg (by rw [w_le _ _ (by omega) (by omega) (by omega) (by omega)]; omega), if_neg q]
theorem k_putAt (hO : OC h β γ a) (oB : okB β) (oG : okG (vL β) γ) (oL : okL a) (hk : kn β γ) {l p : Nat} (hl : l < vL β) (hp : p < vL β) : f_X6_putAt 60 (w32 l) (w32 p) h = some (w32 (lkZ β γ a (pv (oth l) p) l + lkZ β γ a l (oth l p) - lkZ β γ a (pv (oth l) p) (oth l p))) := by
  have o1 := oB.1
  have e1 : f_X6_otherAt (w32 l) (w32 p - 1) = w32 (pv (oth l) p) := by
    rw [wl_1, w_sub, e_oth l (by omega) (by omega) (by omega)]
    apply ww
    unfold pv oth
    by_cases q : p = 0
    · rw [if_pos q, if_neg (by omega)]; omega
    · rw [if_neg q]
      by_cases q2 : p - 1 < l
      · rw [if_pos q2, if_neg (by omega)]; omega
      · rw [if_neg q2, if_pos (by omega)]; omega
  have e2 : f_X6_otherAt (w32 l) (w32 p) = w32 (oth l p) := by
    rw [e_oth l (by omega) (by omega) (by omega)]
    apply ww
    unfold oth
    by_cases q2 : p < l
    · rw [if_pos q2, if_neg (by omega)]
    · rw [if_neg q2, if_pos (by omega)]
  have r1 : -1 ≤ pv (oth l) p ∧ pv (oth l) p ≤ 100 := by
    unfold pv oth
    split
    · omega
    · split <;> omega
  have r2 : -1 ≤ oth l p ∧ oth l p ≤ 100 := by unfold oth; split <;> omega
  unfold f_X6_putAt
  rw [e1, e2, k_lack hO oB oG oL hk (by omega) (by omega) (by omega) (by omega), bnd_s, k_lack hO oB oG oL hk (by omega) (by omega) (by omega) (by omega), bnd_s, k_lack hO oB oG oL hk (by omega) (by omega) (by omega) (by omega), bnd_s, w_add, w_sub]
theorem fI_dec {F : Nat → Nat → Int} (x : Nat) (p : Int × Int × Int) (y : Nat) : (fI F x p y).1 ≤ p.1 := by
  induction y with
  | zero => exact Int.le_refl _
  | succ y ih =>
    rw [fI_s]
    by_cases q : F x y < (fI F x p y).1
    · rw [if_pos q]; dsimp only; omega
    · rw [if_neg q]; exact ih
def mOK (β : BV) (γ : GV) (a : LV) (p : Int × Int × Int) : Prop := 0 ≤ p.1 ∧ p.1 ≤ Wq (lkZ β γ a) idn (vL β) ∧ -1 ≤ p.2.1 ∧ p.2.1 ≤ 40 ∧ -1 ≤ p.2.2 ∧ p.2.2 ≤ 40
def mO (V : Nat → Nat → Int) (w : Int) (n : Nat) : Nat → Int × Int × Int
  | 0 => (w, -1, -1)
  | x + 1 => fI V x (mO V w n x) n
theorem fI_mok (oB : okB β) (oG : okG (vL β) γ) (oL : okL a) (hk : kn β γ) {l : Nat} (hl : l < vL β) {p : Int × Int × Int} (hp : mOK β γ a p) (y : Nat) (hy : y ≤ vL β) : mOK β γ a (fI (Vq (lkZ β γ a) (vL β)) l p y) := by
  have o1 := oB.1
  induction y with
  | zero => exact hp
  | succ y ih =>
    have i := ih (by omega)
    have rv : 0 ≤ Vq (lkZ β γ a) (vL β) l y := (Wq_rg oB oG oL hk (ins (oth l) (l : Int) y) (vL β) o1).1
    rw [fI_s]
    by_cases q : Vq (lkZ β γ a) (vL β) l y < (fI (Vq (lkZ β γ a) (vL β)) l p y).1
    · rw [if_pos q]; unfold mOK at i ⊢; dsimp only; omega
    · rw [if_neg q]; exact i
theorem mO_ok (oB : okB β) (oG : okG (vL β) γ) (oL : okL a) (hk : kn β γ) (x : Nat) (hx : x ≤ vL β) : mOK β γ a (mO (Vq (lkZ β γ a) (vL β)) (Wq (lkZ β γ a) idn (vL β)) (vL β) x) := by
  induction x with
  | zero =>
    have := Wq_rg oB oG oL hk idn (vL β) oB.1
    show 0 ≤ Wq (lkZ β γ a) idn (vL β) ∧ Wq (lkZ β γ a) idn (vL β) ≤ Wq (lkZ β γ a) idn (vL β) ∧ -1 ≤ (-1 : Int) ∧ (-1 : Int) ≤ 40 ∧ -1 ≤ (-1 : Int) ∧ (-1 : Int) ≤ 40
    omega
  | succ x ih => exact fI_mok oB oG oL hk (by omega) (ih (by omega)) (vL β) (Nat.le_refl _)
def mP (h : AH) (p : Int × Int × Int) : Prop := hfi h 60 0 = w32 p.2.1 ∧ hfi h 60 1 = w32 p.2.2
theorem k_find62 (hO : OC h β γ a) (oB : okB β) (oG : okG (vL β) γ) (oL : okL a) (hk : kn β γ) {l : Nat} (hl : l < vL β) {p : Int × Int × Int} (hp : mOK β γ a p) (hm : mP h p) {w : Int} (hw : w = Wq (lkZ β γ a) idn (vL β) - lkZ β γ a ((l : Int) - 1) l - lkZ β γ a l ((l : Int) + 1) + lkZ β γ a ((l : Int) - 1) ((l : Int) + 1)) : ∃ h1, f_X6_findMove_l62 60 (w32 l) (w32 w) FU (w32 p.1) 0 h = some (w32 (fI (Vq (lkZ β γ a) (vL β)) l p (vL β)).1, h1) ∧ Fr (fun c => c = 60) h h1 ∧ hfi h1 60 3 = hfi h 60 3 ∧ mP h1 (fI (Vq (lkZ β γ a) (vL β)) l p (vL β)) := by
  have o1 := oB.1
  have rW := Wq_rg oB oG oL hk idn (vL β) o1
  obtain ⟨⟨r1, h1⟩, e, q⟩ := loopR (fun k (t : Int32 × Int32 × AH) => f_X6_findMove_l62 60 (w32 l) (w32 w) k t.1 t.2.1 t.2.2) (fun i t => t.1 = w32 (fI (Vq (lkZ β γ a) (vL β)) l p i).1 ∧ t.2.1 = w32 (i : Nat) ∧ Fr (fun c => c = 60) h t.2.2 ∧ hfi t.2.2 60 3 = hfi h 60 3 ∧ mP t.2.2 (fI (Vq (lkZ β γ a) (vL β)) l p i)) (fun t => t.1 = w32 (fI (Vq (lkZ β γ a) (vL β)) l p (vL β)).1 ∧ Fr (fun c => c = 60) h t.2 ∧ hfi t.2 60 3 = hfi h 60 3 ∧ mP t.2 (fI (Vq (lkZ β γ a) (vL β)) l p (vL β))) (vL β) (fun i k t hi hQ => by
      obtain ⟨v2, v5, hh⟩ := t
      obtain ⟨p1, p2, p3, p4, p5⟩ := hQ
      dsimp only at p1 p2 p3 p4 p5
      subst p1 p2
      have hO2 := hO.fr p3 p4
      have kp := k_putAt hO2 oB oG oL hk hl hi
      have ok := fI_mok oB oG oL hk hl hp i (by omega)
      have rv := Wq_rg oB oG oL hk (ins (oth l) (l : Int) i) (vL β) o1
      have rv : 0 ≤ Vq (lkZ β γ a) (vL β) l i ∧ Vq (lkZ β γ a) (vL β) l i ≤ 40041920 := rv
      unfold mOK at ok
      have hd : f_X6_findMove_l62 60 (w32 l) (w32 w) (k + 1) (w32 (fI (Vq (lkZ β γ a) (vL β)) l p i).1) (w32 i) hh = if w32 (i : Int) = w32 (l : Int) then f_X6_findMove_l62 60 (w32 l) (w32 w) k (w32 (fI (Vq (lkZ β γ a) (vL β)) l p i).1) (w32 (i + 1 : Nat)) hh else if w32 (fI (Vq (lkZ β γ a) (vL β)) l p i).1 ≤ w32 (Vq (lkZ β γ a) (vL β) l i) then f_X6_findMove_l62 60 (w32 l) (w32 w) k (w32 (fI (Vq (lkZ β γ a) (vL β)) l p i).1) (w32 (i + 1 : Nat)) hh else f_X6_findMove_l62 60 (w32 l) (w32 w) k (w32 (Vq (lkZ β γ a) (vL β) l i)) (w32 (i + 1 : Nat)) (sfi (sfi hh 60 0 (w32 l)) 60 1 (w32 i)) := by
        rw [f_X6_findMove_l62, hO2.1, if_neg (by rw [w_le _ _ (by omega) (by omega) (by omega) (by omega)]; omega), kp, bnd_s, w_add, hw, Vq_eq (lkZ β γ a) hl hi lkZ_n, wl_1, w_add, w_s]
        rfl
      by_cases q : Vq (lkZ β γ a) (vL β) l i < (fI (Vq (lkZ β γ a) (vL β)) l p i).1
      · have ne : i ≠ l := fun e => by rw [e, Vq_id] at q; rw [e] at ok; omega
        rw [if_neg (by rw [w_eq _ _ (by omega) (by omega) (by omega) (by omega)]; omega), if_neg (by rw [w_le _ _ (by omega) (by omega) (by omega) (by omega)]; omega)] at hd
        refine ⟨(w32 (fI (Vq (lkZ β γ a) (vL β)) l p (i + 1)).1, w32 (i + 1 : Nat), sfi (sfi hh 60 0 (w32 l)) 60 1 (w32 i)), ⟨rfl, rfl, (p3.tr (Fr.sfi _ _ _ _ rfl)).tr (Fr.sfi _ _ _ _ rfl), ?_, ?_⟩, ?_⟩
        · show hfi (sfi (sfi hh _ _ _) _ _ _) 60 3 = _
          rw [fi_sfi_nk _ _ _ _ _ (by omega), fi_sfi_nk _ _ _ _ _ (by omega)]; exact p4
        · rw [fI_s, if_pos q]
          show hfi (sfi (sfi hh _ _ _) _ _ _) 60 0 = _ ∧ hfi (sfi (sfi hh _ _ _) _ _ _) 60 1 = _
          rw [fi_sfi_nk _ _ _ _ _ (by omega), fi_sfi_eq, fi_sfi_eq]
          exact ⟨rfl, rfl⟩
        · rw [fI_s, if_pos q]
          exact hd
      · have hd2 : f_X6_findMove_l62 60 (w32 l) (w32 w) (k + 1) (w32 (fI (Vq (lkZ β γ a) (vL β)) l p i).1) (w32 i) hh = f_X6_findMove_l62 60 (w32 l) (w32 w) k (w32 (fI (Vq (lkZ β γ a) (vL β)) l p i).1) (w32 (i + 1 : Nat)) hh := by
          rw [hd]
          by_cases e : i = l
          · rw [if_pos (by rw [e])]
          · rw [if_neg (by rw [w_eq _ _ (by omega) (by omega) (by omega) (by omega)]; omega), if_pos (by rw [w_le _ _ (by omega) (by omega) (by omega) (by omega)]; omega)]
        refine ⟨(w32 (fI (Vq (lkZ β γ a) (vL β)) l p (i + 1)).1, w32 (i + 1 : Nat), hh), ⟨rfl, rfl, p3, p4, ?_⟩, ?_⟩
        · rw [fI_s, if_neg q]; exact p5
        · rw [fI_s, if_neg q]
          exact hd2) (fun k t hQ => by
      obtain ⟨v2, v5, hh⟩ := t
      obtain ⟨p1, p2, p3, p4, p5⟩ := hQ
      dsimp only at p1 p2 p3 p4 p5
      subst p1 p2
      refine ⟨(w32 (fI (Vq (lkZ β γ a) (vL β)) l p (vL β)).1, hh), ?_, rfl, p3, p4, p5⟩
      show f_X6_findMove_l62 60 (w32 l) (w32 w) (k + 1) _ (w32 (vL β)) hh = _
      rw [f_X6_findMove_l62, p4, hO.1, if_pos (Int32.le_refl _)]) FU (by unfold FU; omega) (w32 p.1, 0, h) ⟨rfl, rfl, Fr.rf, rfl, hm⟩
  obtain ⟨q1, q2⟩ := q
  dsimp only at q1 q2
  subst q1
  exact ⟨h1, e, q2⟩
theorem k_find (hO : OC h β γ a) (oB : okB β) (oG : okG (vL β) γ) (oL : okL a) (hk : kn β γ) {P : Int × Int × Int} (hP : P = mO (Vq (lkZ β γ a) (vL β)) (Wq (lkZ β γ a) idn (vL β)) (vL β) (vL β)) : ∃ h1, f_X6_findMove 60 h = some h1 ∧ Fr (fun c => c = 60) h h1 ∧ hfi h1 60 0 = w32 P.2.1 ∧ hfi h1 60 1 = w32 P.2.2 ∧ hfi h1 60 2 = w32 (if P.2.1 = -1 then -1 else P.1) := by
  have o1 := oB.1
  have rW := Wq_rg oB oG oL hk idn (vL β) o1
  have F0 : Fr (fun c => c = 60) h (sfi (sfi h 60 0 (-1)) 60 1 (-1)) := (Fr.sfi (W := fun c => c = 60) h 60 0 (-1) rfl).tr (Fr.sfi (W := fun c => c = 60) _ 60 1 (-1) rfl)
  obtain ⟨⟨r1, h1⟩, e, q⟩ := loopR (fun k (t : Int32 × Int32 × AH) => f_X6_findMove_l19 60 (w32 (Wq (lkZ β γ a) idn (vL β))) k t.1 t.2.1 t.2.2) (fun i t => t.1 = w32 (mO (Vq (lkZ β γ a) (vL β)) (Wq (lkZ β γ a) idn (vL β)) (vL β) i).1 ∧ t.2.1 = w32 (i : Nat) ∧ Fr (fun c => c = 60) h t.2.2 ∧ hfi t.2.2 60 3 = hfi h 60 3 ∧ mP t.2.2 (mO (Vq (lkZ β γ a) (vL β)) (Wq (lkZ β γ a) idn (vL β)) (vL β) i)) (fun t => t.1 = w32 P.1 ∧ Fr (fun c => c = 60) h t.2 ∧ hfi t.2 60 3 = hfi h 60 3 ∧ mP t.2 P) (vL β) (fun i k t hi hQ => by
      obtain ⟨v2, v5, hh⟩ := t
      obtain ⟨p1, p2, p3, p4, p5⟩ := hQ
      dsimp only at p1 p2 p3 p4 p5
      subst p1 p2
      have hO2 := hO.fr p3 p4
      obtain ⟨h2, e2, f2, g2, m2⟩ := k_find62 hO2 oB oG oL hk hi (mO_ok oB oG oL hk i (by omega)) p5 rfl
      refine ⟨(w32 (mO (Vq (lkZ β γ a) (vL β)) (Wq (lkZ β γ a) idn (vL β)) (vL β) (i + 1)).1, w32 (i + 1 : Nat), h2), ⟨rfl, rfl, p3.tr f2, g2.trans p4, m2⟩, ?_⟩
      show f_X6_findMove_l19 60 (w32 (Wq (lkZ β γ a) idn (vL β))) (k + 1) (w32 (mO (Vq (lkZ β γ a) (vL β)) (Wq (lkZ β γ a) idn (vL β)) (vL β) i).1) (w32 i) hh = f_X6_findMove_l19 60 (w32 (Wq (lkZ β γ a) idn (vL β))) k _ _ h2
      rw [f_X6_findMove_l19, hO2.1, if_neg (by rw [w_le _ _ (by omega) (by omega) (by omega) (by omega)]; omega), wl_1, w_sub, w_add, k_lack hO2 oB oG oL hk (by omega) (by omega) (by omega) (by omega), bnd_s, k_lack hO2 oB oG oL hk (by omega) (by omega) (by omega) (by omega), bnd_s, k_lack hO2 oB oG oL hk (by omega) (by omega) (by omega) (by omega), bnd_s, w_sub, w_sub, w_add, e2, bnd_s, w_s]
      rfl) (fun k t hQ => by
      obtain ⟨v2, v5, hh⟩ := t
      obtain ⟨p1, p2, p3, p4, p5⟩ := hQ
      dsimp only at p1 p2 p3 p4 p5
      subst p1 p2
      refine ⟨(w32 P.1, hh), ?_, rfl, p3, p4, by rw [hP]; exact p5⟩
      show f_X6_findMove_l19 60 (w32 (Wq (lkZ β γ a) idn (vL β))) (k + 1) _ (w32 (vL β)) hh = _
      rw [f_X6_findMove_l19, p4, hO.1, if_pos (Int32.le_refl _), hP]) FU (by unfold FU; omega) (w32 (Wq (lkZ β γ a) idn (vL β)), 0, sfi (sfi h 60 0 (-1)) 60 1 (-1)) ⟨rfl, rfl, F0, by rw [fi_sfi_nk _ _ _ _ _ (by omega), fi_sfi_nk _ _ _ _ _ (by omega)], by
        show hfi (sfi (sfi h _ _ _) _ _ _) 60 0 = _ ∧ hfi (sfi (sfi h _ _ _) _ _ _) 60 1 = _
        rw [fi_sfi_nk _ _ _ _ _ (by omega), fi_sfi_eq, fi_sfi_eq]
        exact ⟨rfl, rfl⟩⟩
  obtain ⟨q1, q2, q3, q4, q5⟩ := q
  dsimp only at q1 q2 q3 q4 q5
  subst q1
  have ok := mO_ok oB oG oL hk (vL β) (Nat.le_refl _)
  rw [← hP] at ok
  unfold mOK at ok
  have hd : f_X6_findMove 60 h = if w32 P.2.1 = -1 then some (sfi h1 60 2 (-1)) else some (sfi h1 60 2 (w32 P.1)) := by
    unfold f_X6_findMove
    rw [k_want hO oB oG oL hk, bnd_s, lt_b, lt_b, e, bnd_s]
    dsimp only
    rw [q4]
    rfl
  by_cases z : P.2.1 = -1
  · rw [if_pos (by rw [z]; rfl)] at hd
    refine ⟨_, hd, q2.tr (Fr.sfi _ _ _ _ rfl), ?_, ?_, ?_⟩
    · rw [fi_sfi_nk _ _ _ _ _ (by omega)]; exact q4
    · rw [fi_sfi_nk _ _ _ _ _ (by omega)]; exact q5
    · rw [fi_sfi_eq, if_pos z]; rfl
  · rw [if_neg (by rw [wl_1, w_neg]; exact ne_w (by omega) (by omega) (by omega) (by omega) z)] at hd
    refine ⟨_, hd, q2.tr (Fr.sfi _ _ _ _ rfl), ?_, ?_, ?_⟩
    · rw [fi_sfi_nk _ _ _ _ _ (by omega)]; exact q4
    · rw [fi_sfi_nk _ _ _ _ _ (by omega)]; exact q5
    · rw [fi_sfi_eq, if_neg z]
end ORD
