/-! the book's lines -/
def leB (β : BV) (k b y i T' : Nat) : BV := mkB (vL β + i) T' (vH β) (vW β) (vR β) (fun l => if l < vL β then vk β l else k) (fun l => if l < vL β then vt β l else vT β) (fun l => if l < vL β then vp β l else l - vL β) (fun l => if l < vL β then vb β l else b) (fun l => if l < vL β then vy β l else y) (fun l => if l < vL β then vs β l else 0) (vwy β) (vwo β) (vrw β) (vrf β) (vrt β)
def harB (β : BV) (v : Nat) : BV := mkB (vL β) (vT β) v (vW β) (vR β) (vk β) (vt β) (vp β) (vb β) (vy β) (vs β) (vwy β) (vwo β) (vrw β) (vrf β) (vrt β)
def spB (β : BV) (j v : Nat) : BV := mkB (vL β) (vT β) (vH β) (vW β) (vR β) (vk β) (vt β) (vp β) (vb β) (vy β) (upF (vs β) j v) (vwy β) (vwo β) (vrw β) (vrf β) (vrt β)
def wsB (β : BV) (y o : Nat) : BV := mkB (vL β) (vT β) (vH β) (vW β + 1) (vR β) (vk β) (vt β) (vp β) (vb β) (vy β) (vs β) (upF (vwy β) (vW β) y) (upF (vwo β) (vW β) o) (vrw β) (vrf β) (vrt β)
def okb (β : BV) : Prop := okB β ∧ vT β ≤ vL β ∧ vR β = 0
theorem okb_txt {β : BV} {k m b y : Nat} (o : okb β) (hk : k < 12) (hm : 1 ≤ m ∧ m ≤ 20) (hL : vL β + m ≤ 40) (hb : b ≤ 200) (hy : y ≤ 500) : okb (leB β k b y m (vT β + 1)) := by
  obtain ⟨⟨o1, o2, o3, o4, o5, o6, o7, o8, o9, o10, o11⟩, p1, p2⟩ := o
  refine ⟨⟨hL, ?_, o3, o4, o5, fun l hl => ?_, o7, o8, o9, fun hl => ?_, fun l hl => ?_⟩, ?_, p2⟩
  · show vT β + 1 ≤ 40; omega
  · have hl : l < vL β + m := hl
    show (if l < vL β then vk β l else k) < 12 ∧ (if l < vL β then vt β l else vT β) < 40 ∧ (if l < vL β then vp β l else l - vL β) < 20 ∧ (if l < vL β then vb β l else b) ≤ 200 ∧ (if l < vL β then vy β l else y) ≤ 500 ∧ (if l < vL β then vs β l else 0) ≤ 999
    by_cases z : l < vL β
    · rw [if_pos z, if_pos z, if_pos z, if_pos z, if_pos z, if_pos z]; exact o6 l z
    · rw [if_neg z, if_neg z, if_neg z, if_neg z, if_neg z, if_neg z]; omega
  · show (if 0 < vL β then vp β 0 else 0 - vL β) = 0
    by_cases z : 0 < vL β
    · rw [if_pos z]; exact o10 z
    · rw [if_neg z]; omega
  · have hl : l + 1 < vL β + m := hl
    show (if l + 1 < vL β then vp β (l + 1) else l + 1 - vL β) = 0 ∨ (if l + 1 < vL β then vp β (l + 1) else l + 1 - vL β) = (if l < vL β then vp β l else l - vL β) + 1
    by_cases z : l + 1 < vL β
    · rw [if_pos z, if_pos (by omega)]; exact o11 l z
    · rw [if_neg z]
      by_cases y : l < vL β
      · rw [if_pos y]; exact Or.inl (by omega)
      · rw [if_neg y]; exact Or.inr (by omega)
  · show vT β + 1 ≤ vL β + m; omega
theorem okb_har {β : BV} {v : Nat} (o : okb β) (hv : v ≤ 100) : okb (harB β v) := by
  obtain ⟨⟨o1, o2, o3, o4⟩, p⟩ := o
  exact ⟨⟨o1, o2, hv, o4⟩, p⟩
theorem okb_sp {β : BV} {j v : Nat} (o : okb β) (hv : v ≤ 999) : okb (spB β j v) := by
  obtain ⟨⟨o1, o2, o3, o4, o5, o6, o7⟩, p⟩ := o
  refine ⟨⟨o1, o2, o3, o4, o5, fun l hl => ?_, o7⟩, p⟩
  obtain ⟨a1, a2, a3, a4, a5, a6⟩ := o6 l hl
  refine ⟨a1, a2, a3, a4, a5, ?_⟩
  show upF (vs β) j v l ≤ 999
  by_cases z : l = j
  · rw [z, upF_eq]; exact hv
  · rw [upF_ne _ _ z]; exact a6
theorem okb_ws {β : BV} {y o : Nat} (ok : okb β) (hW : vW β < 4) (hy : y ≤ 500) (ho : 1 ≤ o ∧ o ≤ 99) (hl : ¬ (0 < vW β ∧ y ≤ vwy β (vW β - 1))) : okb (wsB β y o) := by
  obtain ⟨⟨o1, o2, o3, o4, o5, o6, o7, o8, o9⟩, p⟩ := ok
  refine ⟨⟨o1, o2, o3, ?_, o5, o6, fun w hw => ?_, fun v w hv hw => ?_, o9⟩, p⟩
  · show vW β + 1 ≤ 4; omega
  · have hw : w < vW β + 1 := hw
    show upF (vwy β) (vW β) y w ≤ 500 ∧ 1 ≤ upF (vwo β) (vW β) o w ∧ upF (vwo β) (vW β) o w ≤ 99
    by_cases z : w = vW β
    · rw [z, upF_eq, upF_eq]; exact ⟨hy, ho⟩
    · rw [upF_ne _ _ z, upF_ne _ _ z]; exact o7 w (by omega)
  · have hw : w < vW β + 1 := hw
    show upF (vwy β) (vW β) y v < upF (vwy β) (vW β) y w
    rw [upF_ne _ _ (show v ≠ vW β by omega)]
    by_cases z : w = vW β
    · rw [z, upF_eq]
      by_cases z2 : v = vW β - 1
      · rw [z2]; omega
      · have := o8 v (vW β - 1) (by omega) (by omega)
        omega
    · rw [upF_ne _ _ z]; exact o8 v w hv (by omega)
theorem orF_c (f g : Nat → Nat) : ∀ n, (∀ l, l < n → f l = g l) → orF f n = orF g n := by
  intro n
  induction n with
  | zero => intro _; rfl
  | succ n ih =>
    intro hl
    show orF f n ||| _ = orF g n ||| _
    rw [ih (fun l h => hl l (by omega)), hl n (by omega)]
theorem or_idem (a b : Int32) : a ||| b ||| b = a ||| b := by
  rw [Int32.or_assoc, Int32.or_self]
theorem orF_m (f : Nat → Nat) (L k : Nat) : ∀ m, (∀ l, L ≤ l → l < L + (m + 1) → f l = k) → orF f (L + (m + 1)) = orF f L ||| (1 <<< ((w32 (k : Nat) : Int32) &&& 31)) := by
  intro m
  induction m with
  | zero => intro hl; show orF f L ||| (1 <<< ((w32 (f L : Nat) : Int32) &&& 31)) = _; rw [hl L (Nat.le_refl _) (by omega)]
  | succ m ih =>
    intro hl
    show orF f (L + (m + 1)) ||| (1 <<< ((w32 (f (L + (m + 1)) : Nat) : Int32) &&& 31)) = _
    rw [ih (fun l a b => hl l a (by omega)), hl (L + (m + 1)) (by omega) (by omega), or_idem]
abbrev RB : Type := (Nat × Nat) ⊕ (BV × Nat)
def bkT (t : Nat → Nat) (n : Nat) (β : BV) (q : Nat) : RB := match pn t n 0 11 q with
  | .inl e => .inl e
  | .inr k => match pn t n 1 (min 20 (40 - vL β)) (ten t n q) with
    | .inl e => .inl e
    | .inr m => match ppn t n 3 200 40 (ten t n (ten t n q)) with
      | .inl e => .inl e
      | .inr p => match ppn t n 4 500 0 p.2 with
        | .inl e => .inl e
        | .inr r => .inr (leB β k p.1 r.1 m (vT β + 1), r.2)
def bkH (t : Nat → Nat) (n : Nat) (β : BV) (q : Nat) : RB := match pn t n 0 100 q with
  | .inl e => .inl e
  | .inr v => .inr (harB β v, ten t n q)
def bkS (t : Nat → Nat) (n : Nat) (β : BV) (q : Nat) : RB := match pn t n 0 9999 q with
  | .inl e => .inl e
  | .inr j => if j < vL β then (if vs β j ≠ 0 then .inl (5, tst t n q) else match pn t n 1 999 (ten t n q) with
    | .inl e => .inl e
    | .inr v => .inr (spB β j v, ten t n (ten t n q))) else .inl (3, tst t n q)
def bkW (t : Nat → Nat) (n : Nat) (β : BV) (q0 q : Nat) : RB := if vW β = 4 then .inl (2, q0) else match pn t n 0 500 q with
  | .inl e => .inl e
  | .inr y => if 0 < vW β ∧ y ≤ vwy β (vW β - 1) then .inl (4, tst t n q) else match pn t n 1 99 (ten t n q) with
    | .inl e => .inl e
    | .inr o => .inr (wsB β y o, ten t n (ten t n q))
def bkB (t : Nat → Nat) (n : Nat) (β : BV) (q : Nat) : RB := if wdB t n 2 q = true then bkT t n β (ten t n q) else if wdB t n 5 q = true then bkH t n β (ten t n q) else if wdB t n 6 q = true then bkS t n β (ten t n q) else if wdB t n 7 q = true then bkW t n β (tst t n q) (ten t n q) else .inl (1, tst t n q)
def bkL (t : Nat → Nat) (n : Nat) (β : BV) (q : Nat) : RB := match bkB t n β q with
  | .inl e => .inl e
  | .inr p => if tso t n p.2 = 3 then .inr (p.1, ten t n p.2) else .inl (1, tst t n p.2)
/-! the class's book lines -/
def WBk (a0 c : Nat) : Prop := c = 1 ∨ (a0 ≤ c ∧ c ≤ a0 + 6) ∨ c = a0 + 13 ∨ c = a0 + 14
def PBc (h0 : AH) (a0 : Nat) (β : BV) (h : AH) : Prop := Fr (WBk a0) h0 h ∧ BC h a0 β ∧ hfi h a0 2 = orF (vk β) (vL β) ∧ okb β
def ktT (a0 : Nat) (k m : Int32) (h6 : AH) : Option AH := bnd (kp 3 200 40 h6) (fun p => bnd (kp 4 500 0 p.2) (fun r => if (hfi r.2 1 1) = 0 then bnd (f_X0_writeText_l94 a0 k m p.1 r.1 FU 0 r.2) (fun q35 => lt (sfi q35 a0 1 ((hfi q35 a0 1) + 1)) (fun h36 => lt (sfi h36 a0 2 ((hfi h36 a0 2) ||| (1 <<< ((k : Int32) &&& 31)))) (fun h37 => some h37))) else some r.2))
section BKC
variable {h h0 : AH} {t : Nat → Nat} {n q : Nat} {a0 : Nat} {β : BV}
theorem k_tx : f_X0_writeText a0 1 h = bnd (f_X7_number 1 0 11 h) (fun q1 => bnd (f_X7_number 1 1 20 q1.2) (fun q2 => if ((hfi q2.2 a0 0) + q2.1) ≤ 40 then ktT a0 q1.1 q2.1 q2.2 else bnd (f_X7_blame 1 2 (hfi q2.2 1 4) q2.2) (fun q5 => ktT a0 q1.1 q2.1 q5))) := by
  unfold f_X0_writeText ktT
  simp only [kp_eq]
  rfl
theorem ER.ktT {e : Nat × Nat} (x : ER h e) (a0 : Nat) (k m : Int32) : ktT a0 k m h = some h := by
  unfold Jvm.Pilot.CThumbBookLaw_law_r9791_0ea6f9.ktT
  rw [x.kp, bnd_s]
  dsimp only
  rw [x.kp, bnd_s, if_neg x.ne]
theorem BC.ft {h1 : AH} (hB : BC h a0 β) (ha : 3 ≤ a0) (f : FT h h1) : BC h1 a0 β := hB.fr f.1 (fun c z1 z2 z3 => by omega)
theorem PBc.ft {h1 : AH} (x : PBc h0 a0 β h) (ha : 3 ≤ a0) (f : FT h h1) : PBc h0 a0 β h1 := ⟨x.1.tr (f.1.mono (fun c z => Or.inl z)), x.2.1.ft ha f, by rw [(f.1 a0 (by omega)).1]; exact x.2.2.1, x.2.2.2⟩
theorem k_l94 {k m b y : Nat} (ha : 3 ≤ a0) (hB : BC h a0 β) (hL : vL β + m ≤ 40) : ∃ h1, f_X0_writeText_l94 a0 (w32 (k : Nat)) (w32 (m : Nat)) (w32 (b : Nat)) (w32 (y : Nat)) FU 0 h = some h1 ∧ Fr (fun c => a0 ≤ c ∧ c ≤ a0 + 6) h h1 ∧ BC h1 a0 (leB β k b y m (vT β)) ∧ hfi h1 a0 2 = hfi h a0 2 := by
  refine loopR (fun f (s : Int32 × AH) => f_X0_writeText_l94 a0 (w32 (k : Nat)) (w32 (m : Nat)) (w32 (b : Nat)) (w32 (y : Nat)) f s.1 s.2) (fun i s => s.1 = w32 (i : Nat) ∧ Fr (fun c => a0 ≤ c ∧ c ≤ a0 + 6) h s.2 ∧ BC s.2 a0 (leB β k b y i (vT β)) ∧ hfi s.2 a0 2 = hfi h a0 2) (fun r => Fr (fun c => a0 ≤ c ∧ c ≤ a0 + 6) h r ∧ BC r a0 (leB β k b y m (vT β)) ∧ hfi r a0 2 = hfi h a0 2) m (fun i f s hi hP => ?_) (fun f s hP => ?_) FU (by unfold FU; omega) (0, h) ⟨rfl, Fr.rf, ?_, rfl⟩
  · obtain ⟨a1, a2, a3, a4⟩ := hP
    obtain ⟨d1, d2, d3, d4, d5, d6, d7, d8⟩ := a3
    have d1 : hfi s.2 a0 0 = w32 (vL β + i : Nat) := d1
    have d2 : hfi s.2 a0 1 = w32 (vT β : Nat) := d2
    have fw : ∀ (g : AH) (r j : Nat) (v : Int32), r ≤ 6 → Fr (fun c => a0 ≤ c ∧ c ≤ a0 + 6) g (sia g (a0 + r) j v) := fun g r j v hr => Fr.sia _ _ _ _ (by omega)
    refine ⟨(w32 (i + 1 : Nat), sfi (sia (sia (sia (sia (sia (sia s.2 (a0 + 1) (vL β + i) (w32 (k : Nat))) (a0 + 2) (vL β + i) (w32 (vT β : Nat))) (a0 + 3) (vL β + i) (w32 (i : Nat))) (a0 + 4) (vL β + i) (w32 (b : Nat))) (a0 + 5) (vL β + i) (w32 (y : Nat))) (a0 + 6) (vL β + i) 0) a0 0 (w32 (vL β + i + 1 : Nat))), ⟨rfl, ?_, ⟨?_, ?_, ?_, ?_, ?_, fun l hl => ?_, fun w hw => ?_, fun r hr => ?_⟩, ?_⟩, ?_⟩
    · exact ((((((a2.tr (fw _ 1 _ _ (by omega))).tr (fw _ 2 _ _ (by omega))).tr (fw _ 3 _ _ (by omega))).tr (fw _ 4 _ _ (by omega))).tr (fw _ 5 _ _ (by omega))).tr (fw _ 6 _ _ (by omega))).tr (Fr.sfi _ _ _ _ (by omega))
    · rw [fi_sfi_eq]; rfl
    · rw [fi_sfi_nk _ _ _ _ _ (by omega)]; exact d2
    · rw [fi_sfi_nk _ _ _ _ _ (by omega)]; exact d3
    · rw [fi_sfi_nk _ _ _ _ _ (by omega)]; exact d4
    · rw [fi_sfi_nk _ _ _ _ _ (by omega)]; exact d5
    · have hl : l < vL β + (i + 1) := hl
      dsimp only
      show _ = w32 ((if l < vL β then vk β l else k : Nat) : Int) ∧ _ = w32 ((if l < vL β then vt β l else vT β : Nat) : Int) ∧ _ = w32 ((if l < vL β then vp β l else l - vL β : Nat) : Int) ∧ _ = w32 ((if l < vL β then vb β l else b : Nat) : Int) ∧ _ = w32 ((if l < vL β then vy β l else y : Nat) : Int) ∧ _ = w32 ((if l < vL β then vs β l else 0 : Nat) : Int)
      by_cases z : l = vL β + i
      · subst z
        rw [if_neg (by omega), if_neg (by omega), if_neg (by omega), if_neg (by omega), if_neg (by omega), if_neg (by omega)]
        simp (disch := omega) only [ia_sfi, ia_sia_ne, ia_sia_eq]
        exact ⟨trivial, trivial, by rw [show vL β + i - vL β = i by omega], trivial, trivial, rfl⟩
      · simp (disch := omega) only [ia_sfi, ia_sia_ne, ia_sia_nk]
        exact d6 l (show l < vL β + i by omega)
    · dsimp only
      simp (disch := omega) only [ia_sfi, ia_sia_ne]
      exact d7 w hw
    · dsimp only
      simp (disch := omega) only [ia_sfi, ia_sia_ne]
      exact d8 r hr
    · rw [fi_sfi_nk _ _ _ _ _ (by omega)]; exact a4
    · show f_X0_writeText_l94 a0 (w32 (k : Nat)) (w32 (m : Nat)) (w32 (b : Nat)) (w32 (y : Nat)) (f + 1) s.1 s.2 = f_X0_writeText_l94 a0 (w32 (k : Nat)) (w32 (m : Nat)) (w32 (b : Nat)) (w32 (y : Nat)) f (w32 (i + 1 : Nat)) _
      rw [f_X0_writeText_l94, a1, if_neg (by rw [w_le _ _ (by omega) (by omega) (by omega) (by omega)]; omega)]
      simp only [fi_sia, lt_b, d1, d2]
      rw [if_neg (show ¬ (40 : Int32) ≤ w32 (vL β + i : Nat) by rw [wl_40, w_le _ _ (by omega) (by omega) (by omega) (by omega)]; omega), gd_t (by rw [w_ibN _ _ (by omega)]; omega), gd_t (by rw [w_ibN _ _ (by omega)]; omega), gd_t (by rw [w_ibN _ _ (by omega)]; omega), gd_t (by rw [w_ibN _ _ (by omega)]; omega), gd_t (by rw [w_ibN _ _ (by omega)]; omega), gd_t (by rw [w_ibN _ _ (by omega)]; omega), w_clN _ (by omega), wl_1, w_add, w_s, w_add, w_s]
  · obtain ⟨a1, a2, a3, a4⟩ := hP
    refine ⟨s.2, ?_, a2, a3, a4⟩
    show f_X0_writeText_l94 a0 (w32 (k : Nat)) (w32 (m : Nat)) (w32 (b : Nat)) (w32 (y : Nat)) (f + 1) s.1 s.2 = _
    rw [f_X0_writeText_l94, a1, if_pos (Int32.le_refl _)]
  · obtain ⟨d1, d2, d3, d4, d5, d6, d7, d8⟩ := hB
    refine ⟨d1, d2, d3, d4, d5, fun l hl => ?_, d7, d8⟩
    have hl : l < vL β := hl
    show _ = w32 ((if l < vL β then vk β l else k : Nat) : Int) ∧ _ = w32 ((if l < vL β then vt β l else vT β : Nat) : Int) ∧ _ = w32 ((if l < vL β then vp β l else l - vL β : Nat) : Int) ∧ _ = w32 ((if l < vL β then vb β l else b : Nat) : Int) ∧ _ = w32 ((if l < vL β then vy β l else y : Nat) : Int) ∧ _ = w32 ((if l < vL β then vs β l else 0 : Nat) : Int)
    rw [if_pos hl, if_pos hl, if_pos hl, if_pos hl, if_pos hl, if_pos hl]
    exact d6 l hl
end BKC
