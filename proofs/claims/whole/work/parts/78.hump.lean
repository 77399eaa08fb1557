section HUD
variable {h : AH} {β : BV} {γ : GV} {a : LV} {m g : Nat} {L K : Nat → Int}
theorem k_part56 (hL : lOK L) (hm : m ≤ 12) (hh : hR h m L) (h1 : 1 ≤ g) (h4 : g ≤ 4) {x : Nat} (hx : x ≤ m) (hgx : 3 ≤ g → x < m) {p : TZ} (hp : tR p) (hP0 : tP h p) : ∃ k1, f_X4_part_l56 54 (w32 g) (w32 x) FU (w64 p.1) (w32 (ts g 2 m x : Nat)) h = some (w64 (T2 L g m x p).1, k1) ∧ F54 h k1 ∧ tP k1 (T2 L g m x p) ∧ tR (T2 L g m x p) := by
  have stp : ∀ (n : Nat) (v2 : Int64) (y : Nat) (k : AH), y ≤ m → hfi k 54 0 = w32 (m : Nat) → (3 ≤ g → 1 ≤ m) → f_X4_part_l56 54 (w32 g) (w32 x) (n + 1) v2 (w32 y) k = if w32 ((if g ≤ 2 then m else m - 1 : Nat) : Int) < w32 (y : Int) then some (v2, k) else bnd (f_X4_part_l93 54 (w32 g) (w32 x) (w32 y) FU v2 (w32 (ts g 3 m y : Nat)) k) (fun q34 => f_X4_part_l56 54 (w32 g) (w32 x) n q34.1 (w32 (y + 1 : Nat)) q34.2) := by
    intro n v2 y k hy e0 hg
    have es : (if w32 (g : Int) ≤ 3 then w32 (m : Int) else w32 (y : Int) + 1) = w32 (ts g 3 m y : Nat) := by
      unfold ts
      by_cases q : g ≤ 3
      · rw [if_pos (by rw [wl_3, w_le _ _ (by omega) (by omega) (by omega) (by omega)]; omega), if_pos q]
      · rw [if_neg (by rw [wl_3, w_le _ _ (by omega) (by omega) (by omega) (by omega)]; omega), if_neg q, wl_1, w_add, w_s]
    have tl : (if w32 (g : Int) ≤ 3 then bnd (f_X4_part_l93 54 (w32 g) (w32 x) (w32 y) FU v2 (w32 (m : Int)) k) (fun q34 => f_X4_part_l56 54 (w32 g) (w32 x) n q34.1 (w32 (y : Int) + 1) q34.2) else bnd (f_X4_part_l93 54 (w32 g) (w32 x) (w32 y) FU v2 (w32 (y : Int) + 1) k) (fun q34 => f_X4_part_l56 54 (w32 g) (w32 x) n q34.1 (w32 (y : Int) + 1) q34.2)) = bnd (f_X4_part_l93 54 (w32 g) (w32 x) (w32 y) FU v2 (w32 (ts g 3 m y : Nat)) k) (fun q34 => f_X4_part_l56 54 (w32 g) (w32 x) n q34.1 (w32 (y + 1 : Nat)) q34.2) := by
      rw [← es, show w32 (y : Int) + 1 = w32 (y + 1 : Nat) from by rw [wl_1, w_add, w_s]]
      by_cases q : w32 (g : Int) ≤ 3
      · rw [if_pos q, if_pos q]
      · rw [if_neg q, if_neg q]
    rw [← tl]
    by_cases q : g ≤ 2
    · rw [f_X4_part_l56, lt_b, if_pos (show w32 (g : Int) ≤ 2 by rw [wl_2, w_le _ _ (by omega) (by omega) (by omega) (by omega)]; omega), if_pos q]
      dsimp only
      rw [le0 k e0, e0]
      rfl
    · rw [f_X4_part_l56, lt_b, if_neg (show ¬ w32 (g : Int) ≤ 2 by rw [wl_2, w_le _ _ (by omega) (by omega) (by omega) (by omega)]; omega), if_neg q]
      dsimp only
      rw [le1 k (hg (by omega)) e0, e0]
      rfl
  have bd : ∀ i, i < tc g 2 m x → ts g 2 m x + i ≤ (if g ≤ 2 then m else m - 1) := fun i hi => by
    unfold tc at hi; unfold ts
    by_cases q : g ≤ 2
    · rw [if_pos q] at hi ⊢; rw [if_pos q]; omega
    · rw [if_neg q] at hi ⊢; rw [if_neg q]; omega
  have be : (if g ≤ 2 then m else m - 1) < ts g 2 m x + tc g 2 m x := by
    unfold tc ts
    by_cases q : g ≤ 2
    · rw [if_pos q, if_pos q, if_pos q]; omega
    · have := hgx (by omega)
      rw [if_neg q, if_neg q, if_neg q]; omega
  have bl : (if g ≤ 2 then m else m - 1) ≤ m ∧ (3 ≤ g → (if g ≤ 2 then m else m - 1) = m - 1) := ⟨by split <;> omega, fun q => by rw [if_neg (by omega)]⟩
  have bt : tc g 2 m x ≤ 12 := by unfold tc; split <;> omega
  have bs : ts g 2 m x ≤ 13 := by unfold ts; split <;> omega
  have b13 : ts g 2 m x + tc g 2 m x ≤ m + 1 := by
    unfold tc ts
    by_cases q : g ≤ 2
    · rw [if_pos q, if_pos q]; omega
    · have := hgx (by omega)
      rw [if_neg q, if_neg q]; omega
  generalize hE : (if g ≤ 2 then m else m - 1) = E at *
  obtain ⟨⟨r1, k1⟩, e, q1, q2⟩ := loopR (fun n (t : Int64 × Int32 × AH) => f_X4_part_l56 54 (w32 g) (w32 x) n t.1 t.2.1 t.2.2) (fun i t => t.1 = w64 (fd (fun b q => T3 L g m x b q) (ts g 2 m x) i p).1 ∧ t.2.1 = w32 (ts g 2 m x + i : Nat) ∧ F54 h t.2.2 ∧ tP t.2.2 (fd (fun b q => T3 L g m x b q) (ts g 2 m x) i p) ∧ tR (fd (fun b q => T3 L g m x b q) (ts g 2 m x) i p)) (fun t => t.1 = w64 (T2 L g m x p).1 ∧ F54 h t.2 ∧ tP t.2 (T2 L g m x p) ∧ tR (T2 L g m x p)) (tc g 2 m x) (fun i n t hi hQ => by
      obtain ⟨v2, v5, k⟩ := t
      obtain ⟨p1, p2, p3, p4, p5⟩ := hQ
      dsimp only at p1 p2 p3 p4 p5
      subst p1 p2
      have hk := hh.fr p3
      have b1 := bd i hi
      obtain ⟨k2, e2, f2, P2, R2⟩ := k_part93 hL hm hk h1 h4 hx (show ts g 2 m x + i ≤ m by omega) (fun z => by have := bl.2 (by omega); have := hgx (by omega); omega) p5 p4
      refine ⟨(w64 (fd (fun b q => T3 L g m x b q) (ts g 2 m x) (i + 1) p).1, w32 (ts g 2 m x + i + 1 : Nat), k2), ⟨rfl, rfl, p3.tr f2, P2, R2⟩, ?_⟩
      have hd := stp n (w64 (fd (fun b q => T3 L g m x b q) (ts g 2 m x) i p).1) (ts g 2 m x + i) k (by omega) hk.1 (fun z => by have := hgx z; omega)
      rw [if_neg (by rw [w_lt _ _ (by omega) (by omega) (by omega) (by omega)]; omega), e2, bnd_s] at hd
      exact hd) (fun n t hQ => by
      obtain ⟨v2, v5, k⟩ := t
      obtain ⟨p1, p2, p3, p4, p5⟩ := hQ
      dsimp only at p1 p2 p3 p4 p5
      subst p1 p2
      refine ⟨(w64 (T2 L g m x p).1, k), ?_, rfl, p3, p4, p5⟩
      show f_X4_part_l56 54 (w32 g) (w32 x) (n + 1) _ (w32 (ts g 2 m x + tc g 2 m x : Nat)) k = _
      have le : ∀ y : Nat, y = ts g 2 m x + tc g 2 m x → E < y → f_X4_part_l56 54 (w32 g) (w32 x) (n + 1) (w64 (T2 L g m x p).1) (w32 y) k = some (w64 (T2 L g m x p).1, k) := by
        intro y ey hy
        by_cases z : y ≤ m
        · rw [stp n _ y k z (hh.fr p3).1 (fun z => by have := hgx z; omega), if_pos (by rw [w_lt _ _ (by omega) (by omega) (by omega) (by omega)]; omega)]
        · have e0 := (hh.fr p3).1
          by_cases q : g ≤ 2
          · rw [f_X4_part_l56, lt_b, if_pos (show w32 (g : Int) ≤ 2 by rw [wl_2, w_le _ _ (by omega) (by omega) (by omega) (by omega)]; omega)]
            dsimp only
            rw [le0 k e0, if_pos (by rw [w_lt _ _ (by omega) (by omega) (by omega) (by omega)]; omega)]
          · exfalso
            unfold ts tc at ey
            have := hgx (by omega)
            rw [if_neg q, if_neg q] at ey
            omega
      exact le _ rfl be) FU (by unfold FU; omega) (w64 p.1, w32 (ts g 2 m x : Nat), h) ⟨rfl, rfl, F54.rf, hP0, hp⟩
  dsimp only at q1 q2
  subst q1
  exact ⟨k1, e, q2⟩
theorem k_part19 (hL : lOK L) (hm : m ≤ 12) (hm1 : 1 ≤ m) (hh : hR h m L) (h1 : 1 ≤ g) (h4 : g ≤ 4) {p : TZ} (hp : tR p) (hP0 : tP h p) : ∃ k1, f_X4_part_l19 54 (w32 g) FU (w64 p.1) (w32 (ts g 1 m 0 : Nat)) h = some (w64 (T1 L g m p).1, k1) ∧ F54 h k1 ∧ tP k1 (T1 L g m p) ∧ tR (T1 L g m p) := by
  have tl : ∀ (n : Nat) (v2 : Int64) (y : Nat) (k : AH), (if w32 (g : Int) ≤ 2 then bnd (f_X4_part_l56 54 (w32 g) (w32 y) FU v2 (w32 (m : Int)) k) (fun q35 => f_X4_part_l19 54 (w32 g) n q35.1 (w32 (y : Int) + 1) q35.2) else bnd (f_X4_part_l56 54 (w32 g) (w32 y) FU v2 (w32 (y : Int) + 1) k) (fun q35 => f_X4_part_l19 54 (w32 g) n q35.1 (w32 (y : Int) + 1) q35.2)) = bnd (f_X4_part_l56 54 (w32 g) (w32 y) FU v2 (w32 (ts g 2 m y : Nat)) k) (fun q35 => f_X4_part_l19 54 (w32 g) n q35.1 (w32 (y + 1 : Nat)) q35.2) := by
    intro n v2 y k
    unfold ts
    by_cases q : g ≤ 2
    · rw [if_pos (by rw [wl_2, w_le _ _ (by omega) (by omega) (by omega) (by omega)]; omega), if_pos q, wl_1, w_add, w_s]
    · rw [if_neg (by rw [wl_2, w_le _ _ (by omega) (by omega) (by omega) (by omega)]; omega), if_neg q, wl_1, w_add, w_s]
  have stp : ∀ (n : Nat) (v2 : Int64) (y : Nat) (k : AH), hfi k 54 0 = w32 (m : Nat) → f_X4_part_l19 54 (w32 g) (n + 1) v2 (w32 y) k = if w32 ((if g ≤ 1 then m else m - 1 : Nat) : Int) < w32 (y : Int) then some (v2, k) else bnd (f_X4_part_l56 54 (w32 g) (w32 y) FU v2 (w32 (ts g 2 m y : Nat)) k) (fun q35 => f_X4_part_l19 54 (w32 g) n q35.1 (w32 (y + 1 : Nat)) q35.2) := by
    intro n v2 y k e0
    rw [← tl]
    by_cases q : g ≤ 1
    · rw [f_X4_part_l19, lt_b, if_pos (show w32 (g : Int) ≤ 1 by rw [wl_1, w_le _ _ (by omega) (by omega) (by omega) (by omega)]; omega), if_pos q]
      dsimp only
      rw [le0 k e0, e0]
      rfl
    · rw [f_X4_part_l19, lt_b, if_neg (show ¬ w32 (g : Int) ≤ 1 by rw [wl_1, w_le _ _ (by omega) (by omega) (by omega) (by omega)]; omega), if_neg q]
      dsimp only
      rw [le1 k hm1 e0, e0]
      rfl
  have bd : ∀ i, i < tc g 1 m 0 → ts g 1 m 0 + i ≤ (if g ≤ 1 then m else m - 1) := fun i hi => by
    unfold tc at hi; unfold ts
    by_cases q : g ≤ 1
    · rw [if_pos q] at hi ⊢; rw [if_pos q]; omega
    · rw [if_neg q] at hi ⊢; rw [if_neg q]; omega
  have be : (if g ≤ 1 then m else m - 1) < ts g 1 m 0 + tc g 1 m 0 := by
    unfold tc ts
    by_cases q : g ≤ 1
    · rw [if_pos q, if_pos q, if_pos q]; omega
    · rw [if_neg q, if_neg q, if_neg q]; omega
  have bl : (if g ≤ 1 then m else m - 1) ≤ m ∧ (2 ≤ g → (if g ≤ 1 then m else m - 1) = m - 1) := ⟨by split <;> omega, fun q => by rw [if_neg (by omega)]⟩
  have bt : tc g 1 m 0 ≤ 12 := by unfold tc; split <;> omega
  have bs : ts g 1 m 0 ≤ 13 := by unfold ts; split <;> omega
  generalize hE : (if g ≤ 1 then m else m - 1) = E at *
  obtain ⟨⟨r1, k1⟩, e, q1, q2⟩ := loopR (fun n (t : Int64 × Int32 × AH) => f_X4_part_l19 54 (w32 g) n t.1 t.2.1 t.2.2) (fun i t => t.1 = w64 (fd (fun a q => T2 L g m a q) (ts g 1 m 0) i p).1 ∧ t.2.1 = w32 (ts g 1 m 0 + i : Nat) ∧ F54 h t.2.2 ∧ tP t.2.2 (fd (fun a q => T2 L g m a q) (ts g 1 m 0) i p) ∧ tR (fd (fun a q => T2 L g m a q) (ts g 1 m 0) i p)) (fun t => t.1 = w64 (T1 L g m p).1 ∧ F54 h t.2 ∧ tP t.2 (T1 L g m p) ∧ tR (T1 L g m p)) (tc g 1 m 0) (fun i n t hi hQ => by
      obtain ⟨v2, v5, k⟩ := t
      obtain ⟨p1, p2, p3, p4, p5⟩ := hQ
      dsimp only at p1 p2 p3 p4 p5
      subst p1 p2
      have hk := hh.fr p3
      have b1 := bd i hi
      obtain ⟨k2, e2, f2, P2, R2⟩ := k_part56 hL hm hk h1 h4 (show ts g 1 m 0 + i ≤ m by omega) (fun z => by have := bl.2 (by omega); omega) p5 p4
      refine ⟨(w64 (fd (fun a q => T2 L g m a q) (ts g 1 m 0) (i + 1) p).1, w32 (ts g 1 m 0 + i + 1 : Nat), k2), ⟨rfl, rfl, p3.tr f2, P2, R2⟩, ?_⟩
      have hd := stp n (w64 (fd (fun a q => T2 L g m a q) (ts g 1 m 0) i p).1) (ts g 1 m 0 + i) k hk.1
      rw [if_neg (by rw [w_lt _ _ (by omega) (by omega) (by omega) (by omega)]; omega), e2, bnd_s] at hd
      exact hd) (fun n t hQ => by
      obtain ⟨v2, v5, k⟩ := t
      obtain ⟨p1, p2, p3, p4, p5⟩ := hQ
      dsimp only at p1 p2 p3 p4 p5
      subst p1 p2
      refine ⟨(w64 (T1 L g m p).1, k), ?_, rfl, p3, p4, p5⟩
      show f_X4_part_l19 54 (w32 g) (n + 1) _ (w32 (ts g 1 m 0 + tc g 1 m 0 : Nat)) k = _
      rw [stp n _ _ k (hh.fr p3).1, if_pos (by rw [w_lt _ _ (by omega) (by omega) (by omega) (by omega)]; omega)]
      rfl) FU (by unfold FU; omega) (w64 p.1, w32 (ts g 1 m 0 : Nat), h) ⟨rfl, rfl, F54.rf, hP0, hp⟩
  dsimp only at q1 q2
  subst q1
  exact ⟨k1, e, q2⟩
theorem k_part (hL : lOK L) (hm : m ≤ 12) (hm1 : 1 ≤ m) (hh : hR h m L) (h1 : 1 ≤ g) (h4 : g ≤ 4) {P : PZ} (hP : P = Rq L m (g - 1) 0 C0 0 (-1, C0)) : ∃ k1, f_X4_part 54 (w32 g) h = some (w64 P.1, k1) ∧ F54 h k1 ∧ tP k1 (ph P) := by
  obtain ⟨k1, e, f, tp, -⟩ := k_part19 (p := (-1, 0, 0, 0)) hL hm hm1 hh h1 h4 (by unfold tR; dsimp only; omega) (fun z => by have z : (0 : Int) ≤ -1 := z; omega)
  have tr := T_R L m g h1 h4 (-1, C0)
  rw [← hP] at tr
  have tr : ph P = T1 L g m (-1, 0, 0, 0) := tr
  rw [← tr] at e tp
  refine ⟨k1, ?_, f, tp⟩
  unfold f_X4_part
  rw [lt_b]
  have e' : f_X4_part_l19 54 (w32 g) FU (-1) (w32 (ts g 1 m 0 : Nat)) h = some (w64 P.1, k1) := e
  by_cases q : g ≤ 1
  · rw [if_pos (by rw [wl_1, w_le _ _ (by omega) (by omega) (by omega) (by omega)]; omega)]
    dsimp only
    rw [show ts g 1 m 0 = m from if_pos q] at e'
    rw [hh.1, e', bnd_s]
  · rw [if_neg (by rw [wl_1, w_le _ _ (by omega) (by omega) (by omega) (by omega)]; omega)]
    dsimp only
    rw [show ts g 1 m 0 = 1 from if_neg q] at e'
    rw [show (1 : Int32) = w32 ((1 : Nat) : Int) from rfl, e', bnd_s]
/-! what a book's kinds are, by light -/
def hM' (β : BV) (γ : GV) (a : LV) : Nat := (lS (LI β γ a) (sLo β) 12).1
def hK (β : BV) (γ : GV) (a : LV) : Nat → Int := (lS (LI β γ a) (sLo β) 12).2.1
def hL' (β : BV) (γ : GV) (a : LV) : Nat → Int := (lS (LI β γ a) (sLo β) 12).2.2
def hP' (β : BV) (γ : GV) (a : LV) (g : Nat) : PZ := Rq (hL' β γ a) (hM' β γ a) (g - 1) 0 C0 0 (-1, C0)
def gOK (β : BV) (γ : GV) (a : LV) (z : Int) : Prop := 1 ≤ z ∧ z ≤ 4 ∧ z ≤ hM' β γ a
theorem hM_le (β : BV) (γ : GV) (a : LV) : hM' β γ a ≤ 12 := lS_le _ _ 12
theorem k_parted (hU : UF h 33 β γ a) (oB : okB β) (oG : okG (vL β) γ) (oL : okL a) (hk : kn β γ) {z : Int} (r1 : -2147483648 ≤ z) (r2 : z ≤ 2147483647) : (∀ g : Nat, z = g → gOK β γ a z → ∃ h1, f_X11_partedInto (w32 z) h = some (.inl (w64 (hP' β γ a g).1, h1)) ∧ Fr (fun c => 54 ≤ c ∧ c ≤ 56) h h1 ∧ hfi h1 54 0 = w32 (hM' β γ a : Nat) ∧ tP h1 (ph (hP' β γ a g)) ∧ ∀ i, i < hM' β γ a → hia h1 55 i = w32 (hK β γ a i)) ∧ (¬ gOK β γ a z → ∃ h1, f_X11_partedInto (w32 z) h = some (.inr (0, h1)) ∧ Fr (fun c => 54 ≤ c ∧ c ≤ 56) h h1) := by
  obtain ⟨h1, e1, f1, m1, r3⟩ := k_sort hU oB oG oL hk
  have hA := LI_rg2 oB oG oL hk
  have hL := (lS_ok (H := sLo β) hA 12).1
  have hm := hM_le β γ a
  have hR1 : hR h1 (hM' β γ a) (hL' β γ a) := ⟨m1, fun i hi => (r3 i hi).2⟩
  constructor
  · intro g eg ok
    subst eg
    unfold gOK at ok
    obtain ⟨h2, e2, f2, t2⟩ := k_part (g := g) (L := hL' β γ a) (m := hM' β γ a) hL hm (by omega) hR1 (by omega) (by omega) rfl
    refine ⟨h2, ?_, f1.tr (f2.1.mono (fun c q => by omega)), f2.2.trans m1, t2, fun i hi => by rw [(f2.1 55 (by omega)).2.2.1]; exact (r3 i hi).1⟩
    unfold f_X11_partedInto
    rw [e1, bnd_s, if_neg (by rw [wl_1, w_lt _ _ (by omega) (by omega) (by omega) (by omega)]; omega), if_neg (by rw [wl_4, w_lt _ _ (by omega) (by omega) (by omega) (by omega)]; omega), show hfi h1 54 0 = w32 (hM' β γ a : Nat) from m1, if_pos (by rw [w_le _ _ (by omega) (by omega) (by omega) (by omega)]; omega), e2, bnd_s]
    rfl
  · intro no
    refine ⟨h1, ?_, f1⟩
    unfold gOK at no
    unfold f_X11_partedInto
    rw [e1, bnd_s]
    by_cases a1 : z < 1
    · rw [if_pos (by rw [wl_1, w_lt _ _ (by omega) (by omega) (by omega) (by omega)]; omega)]
    · rw [if_neg (by rw [wl_1, w_lt _ _ (by omega) (by omega) (by omega) (by omega)]; omega)]
      by_cases a2 : 4 < z
      · rw [if_pos (by rw [wl_4, w_lt _ _ (by omega) (by omega) (by omega) (by omega)]; omega)]
      · rw [if_neg (by rw [wl_4, w_lt _ _ (by omega) (by omega) (by omega) (by omega)]; omega), show hfi h1 54 0 = w32 (hM' β γ a : Nat) from m1, if_neg (by rw [w_le _ _ (by omega) (by omega) (by omega) (by omega)]; omega)]
def gp (c1 c2 c3 i : Nat) : Int := (if i < c1 then 0 else 1) + (if i < c2 then 0 else 1) + (if i < c3 then 0 else 1)
theorem k_group (hm : m ≤ 12) (h0 : hfi h 54 0 = w32 (m : Nat)) (hr : ∀ i, i < m → hia h 55 i = w32 (K i)) (hK0 : ∀ i, 0 ≤ K i ∧ K i ≤ 12) {k : Nat} (hk : k < 12) (hex : ∃ i, i < m ∧ K i = (k : Int)) {c1 c2 c3 : Nat} (e1 : hfi h 54 3 = w32 (c1 : Nat)) (e2 : hfi h 54 4 = w32 (c2 : Nat)) (e3 : hfi h 54 5 = w32 (c3 : Nat)) (hc : c1 ≤ 12 ∧ c2 ≤ 12 ∧ c3 ≤ 12) : ∃ i, i < m ∧ K i = (k : Int) ∧ (∀ j, j < i → K j ≠ (k : Int)) ∧ f_X4_groupOf 54 (w32 k) h = some (w32 (gp c1 c2 c3 i)) := by
  have m0 : 0 < m := by obtain ⟨i, hi, -⟩ := hex; omega
  have ed : w32 ((m : Nat) : Int) - 1 = w32 ((m - 1 : Nat) : Int) := by rw [wl_1, w_sub]; exact ww (by omega)
  have sc := scan (fun n (v : Int32) => f_X4_groupOf_l2 54 (w32 k) h n v) (fun i => w32 (i : Nat)) (m - 1) (fun i => K i ≠ (k : Int)) (w32 (m - 1 : Nat)) (fun j => w32 (j : Nat)) (fun i n hi hP => by
      have rk := hK0 i
      show f_X4_groupOf_l2 54 (w32 k) h (n + 1) (w32 i) = f_X4_groupOf_l2 54 (w32 k) h n (w32 (i + 1 : Nat))
      rw [f_X4_groupOf_l2, h0, ed, if_neg (by rw [w_le _ _ (by omega) (by omega) (by omega) (by omega)]; omega), gd_t (by rw [w_ibN _ _ (by omega)]; omega), w_clN _ (by omega), show hia h (54 + 1) i = _ from hr i (by omega), if_neg (by rw [w_eq _ _ (by omega) (by omega) (by omega) (by omega)]; exact hP), wl_1, w_add, w_s]) (fun i n hi hP => by
      have hP := Classical.not_not.mp hP
      show f_X4_groupOf_l2 54 (w32 k) h (n + 1) (w32 i) = _
      rw [f_X4_groupOf_l2, h0, ed, if_neg (by rw [w_le _ _ (by omega) (by omega) (by omega) (by omega)]; omega), gd_t (by rw [w_ibN _ _ (by omega)]; omega), w_clN _ (by omega), show hia h (54 + 1) i = _ from hr i (by omega), if_pos (by rw [hP])]) (fun n => by
      show f_X4_groupOf_l2 54 (w32 k) h (n + 1) (w32 (m - 1 : Nat)) = _
      rw [f_X4_groupOf_l2, h0, ed, if_pos (Int32.le_refl _)]) FU (by unfold FU; omega)
  have fin : ∀ i, i < m → f_X4_groupOf_l2 54 (w32 k) h FU 0 = some (w32 (i : Nat)) → f_X4_groupOf 54 (w32 k) h = some (w32 (gp c1 c2 c3 i)) := by
    intro i hi e
    unfold f_X4_groupOf
    rw [e, bnd_s, lt_b, e1, e2, e3]
    unfold gp
    have l1 : (w32 (i : Int) < w32 (c1 : Int)) = (i < c1) := by rw [w_lt _ _ (by omega) (by omega) (by omega) (by omega)]; apply propext; omega
    have l2 : (w32 (i : Int) < w32 (c2 : Int)) = (i < c2) := by rw [w_lt _ _ (by omega) (by omega) (by omega) (by omega)]; apply propext; omega
    have l3 : (w32 (i : Int) < w32 (c3 : Int)) = (i < c3) := by rw [w_lt _ _ (by omega) (by omega) (by omega) (by omega)]; apply propext; omega
    simp only [lt_b, l1, l2, l3]
    by_cases a1 : i < c1 <;> by_cases a2 : i < c2 <;> by_cases a3 : i < c3 <;> simp only [a1, a2, a3, if_true, if_false] <;> rfl
  rcases first_of (fun i => K i ≠ (k : Int)) (m - 1) with hall | ⟨j, hj, hn, hbef⟩
  · obtain ⟨i, hi, ei⟩ := hex
    have : i = m - 1 := by
      rcases Nat.lt_or_ge i (m - 1) with z | z
      · exact absurd ei (hall i z)
      · omega
    subst this
    exact ⟨m - 1, hi, ei, hall, fin _ hi (sc.1 hall)⟩
  · exact ⟨j, by omega, Classical.not_not.mp hn, hbef, fin j (by omega) (sc.2 j hj hn hbef)⟩
end HUD
