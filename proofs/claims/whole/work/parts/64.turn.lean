/-! a possible turn -/
theorem frac_tr {a b c d e f : Int} (hd : 1 ≤ d) (hb : 1 ≤ b) (hf : 1 ≤ f) (h1 : a * d ≤ c * b) (h2 : c * f ≤ e * d) : a * f ≤ e * b := by
  have m1 := Int.mul_le_mul_of_nonneg_right h1 (show 0 ≤ f by omega)
  have m2 := Int.mul_le_mul_of_nonneg_right h2 (show 0 ≤ b by omega)
  have e1 : a * d * f = a * f * d := by ac_rfl
  have e2 : c * b * f = c * f * b := by ac_rfl
  have e3 : e * d * b = e * b * d := by ac_rfl
  rw [e1, e2] at m1
  rw [e3] at m2
  exact Int.le_of_mul_le_mul_right (Int.le_trans m1 m2) (by omega)
theorem flo_mono {a b c d : Int} (hb : 1 ≤ b) (hd : 1 ≤ d) (h : a * d ≤ c * b) : 1000 * a / b ≤ 1000 * c / d := by
  apply Int.le_ediv_of_mul_le (by omega)
  have h1 : 1000 * a / b * b ≤ 1000 * a := Int.ediv_mul_le _ (by omega)
  generalize 1000 * a / b = q at *
  have h2 : 1000 * a * d ≤ 1000 * c * b := by rw [Int.mul_assoc, Int.mul_assoc]; omega
  have := frac_tr (a := q) (b := 1) (c := 1000 * a) (d := b) (e := 1000 * c) (f := d) hb (by omega) hd (by omega) h2
  omega
theorem cei_mono {a b c d : Int} (hb : 1 ≤ b) (hd : 1 ≤ d) (h : a * d ≤ c * b) : (1000 * a + b - 1) / b ≤ (1000 * c + d - 1) / d := by
  rw [← ceil_eq _ _ hb, ← ceil_eq _ _ hd]
  have := flo_mono (a := -c) (b := d) (c := -a) (d := b) hd hb (by rw [Int.neg_mul, Int.neg_mul]; omega)
  rw [Int.mul_neg, Int.mul_neg] at this
  omega
def trA (g : Nat → Nat) (s i : Nat) : Int := (g i : Int) - s
def trB (g : Nat → Nat) (s i : Nat) : Int := (g i : Int) + s
def trL (g t : Nat → Nat) (s : Nat) : Nat → Int
  | 0 => 0
  | i + 1 => max (trL g t s i) (1000 * trA g s i / t i)
def trG (g t : Nat → Nat) (s : Nat) : Nat → Int
  | 0 => 2147483647
  | i + 1 => min (trG g t s i) ((1000 * trB g s i + t i - 1) / t i)
def trP (g t : Nat → Nat) (s : Nat) : Nat → Int × Int
  | 0 => (0, 1)
  | i + 1 => if trA g s i * (trP g t s i).2 ≤ (trP g t s i).1 * t i then trP g t s i else (trA g s i, (t i : Int))
def trH (g t : Nat → Nat) (s : Nat) : Nat → Int × Int
  | 0 => (0, 0)
  | i + 1 => if (trH g t s i).2 = 0 then (trB g s i, (t i : Int)) else if (trH g t s i).1 * t i ≤ trB g s i * (trH g t s i).2 then trH g t s i else (trB g s i, (t i : Int))
theorem trL_s (g t : Nat → Nat) (s i : Nat) : trL g t s (i + 1) = max (trL g t s i) (1000 * trA g s i / t i) := rfl
theorem trG_s (g t : Nat → Nat) (s i : Nat) : trG g t s (i + 1) = min (trG g t s i) ((1000 * trB g s i + t i - 1) / t i) := rfl
theorem trP_s (g t : Nat → Nat) (s i : Nat) : trP g t s (i + 1) = if trA g s i * (trP g t s i).2 ≤ (trP g t s i).1 * t i then trP g t s i else (trA g s i, (t i : Int)) := rfl
theorem trH_s (g t : Nat → Nat) (s i : Nat) : trH g t s (i + 1) = if (trH g t s i).2 = 0 then (trB g s i, (t i : Int)) else if (trH g t s i).1 * t i ≤ trB g s i * (trH g t s i).2 then trH g t s i else (trB g s i, (t i : Int)) := rfl
def tOK (g t : Nat → Nat) (s m : Nat) : Prop := m ≤ 20 ∧ s ≤ 50 ∧ ∀ j, j < m → 1 ≤ t j ∧ t j ≤ 999 ∧ g j ≤ 9999
def agr (g t : Nat → Nat) (s m : Nat) : Prop := ∀ i, i < m → ∀ j, j < m → trA g s i * t j ≤ trB g s j * t i
section TRN
variable {g t : Nat → Nat} {s m : Nat}
theorem trP_ok (ok : tOK g t s m) (n : Nat) (hn : n ≤ m) : 0 ≤ (trP g t s n).1 ∧ (trP g t s n).1 ≤ 9999 ∧ 1 ≤ (trP g t s n).2 ∧ (trP g t s n).2 ≤ 999 ∧ (∀ i, i < n → trA g s i * (trP g t s n).2 ≤ (trP g t s n).1 * t i) ∧ trL g t s n = 1000 * (trP g t s n).1 / (trP g t s n).2 ∧ ((trP g t s n).1 = 0 ∨ ∃ i, i < n ∧ trP g t s n = (trA g s i, (t i : Int))) := by
  induction n with
  | zero => exact ⟨by show (0 : Int) ≤ 0; omega, by show (0 : Int) ≤ 9999; omega, by show (1 : Int) ≤ 1; omega, by show (1 : Int) ≤ 999; omega, fun i hi => by omega, rfl, Or.inl rfl⟩
  | succ n ih =>
    obtain ⟨i1, i2, i3, i4, i5, i6, i7⟩ := ih (by omega)
    obtain ⟨o1, o2, o3⟩ := ok.2.2 n (by omega)
    have os := ok.2.1
    rw [trP_s, trL_s]
    by_cases q : trA g s n * (trP g t s n).2 ≤ (trP g t s n).1 * t n
    · rw [if_pos q]
      refine ⟨i1, i2, i3, i4, fun i hi => ?_, ?_, ?_⟩
      · by_cases e : i = n
        · subst e; exact q
        · exact i5 i (by omega)
      · have := flo_mono (a := trA g s n) (b := t n) (c := (trP g t s n).1) (d := (trP g t s n).2) (by omega) (by omega) q
        omega
      · rcases i7 with e | ⟨i, hi, e⟩
        · exact Or.inl e
        · exact Or.inr ⟨i, by omega, e⟩
    · rw [if_neg q]
      have q' : (trP g t s n).1 * t n ≤ trA g s n * (trP g t s n).2 := by omega
      have p0 : 0 ≤ trA g s n := by
        rcases Int.lt_or_le (trA g s n) 0 with z | z
        · exfalso
          have h1 : trA g s n * (trP g t s n).2 ≤ 0 := Int.mul_nonpos_of_nonpos_of_nonneg (by omega) (by omega)
          have h2 : 0 ≤ (trP g t s n).1 * (t n : Int) := Int.mul_nonneg i1 (by omega)
          omega
        · exact z
      dsimp only
      refine ⟨p0, by unfold trA; omega, by omega, by omega, fun i hi => ?_, ?_, Or.inr ⟨n, by omega, rfl⟩⟩
      · by_cases e : i = n
        · subst e; exact Int.le_refl _
        · have o4 := ok.2.2 i (by omega)
          exact frac_tr i3 (by omega) (by omega) (i5 i (by omega)) q'
      · have := flo_mono (a := (trP g t s n).1) (b := (trP g t s n).2) (c := trA g s n) (d := t n) (by omega) (by omega) q'
        omega
theorem trH_ok (ok : tOK g t s m) (n : Nat) (hn : n + 1 ≤ m) : 0 ≤ (trH g t s (n + 1)).1 ∧ (trH g t s (n + 1)).1 ≤ 10049 ∧ 1 ≤ (trH g t s (n + 1)).2 ∧ (trH g t s (n + 1)).2 ≤ 999 ∧ (∀ i, i < n + 1 → (trH g t s (n + 1)).1 * t i ≤ trB g s i * (trH g t s (n + 1)).2) ∧ trG g t s (n + 1) = (1000 * (trH g t s (n + 1)).1 + (trH g t s (n + 1)).2 - 1) / (trH g t s (n + 1)).2 ∧ ∃ i, i < n + 1 ∧ trH g t s (n + 1) = (trB g s i, (t i : Int)) := by
  induction n with
  | zero =>
    obtain ⟨o1, o2, o3⟩ := ok.2.2 0 (by omega)
    have os := ok.2.1
    rw [trH_s, trG_s, if_pos (show (trH g t s 0).2 = 0 from rfl)]
    dsimp only
    have rb : 0 ≤ trB g s 0 ∧ trB g s 0 ≤ 10049 := by unfold trB; omega
    refine ⟨rb.1, rb.2, by omega, by omega, fun i hi => by rw [show i = 0 by omega]; exact Int.le_refl _, ?_, 0, by omega, rfl⟩
    have h1 : (1000 * trB g s 0 + (t 0 : Int) - 1) / t 0 ≤ 1000 * trB g s 0 + (t 0 : Int) - 1 := Int.ediv_le_self _ (by omega)
    show min 2147483647 _ = _
    omega
  | succ n ih =>
    obtain ⟨i1, i2, i3, i4, i5, i6, i7⟩ := ih (by omega)
    obtain ⟨o1, o2, o3⟩ := ok.2.2 (n + 1) (by omega)
    have os := ok.2.1
    rw [trH_s g t s (n + 1), trG_s g t s (n + 1), if_neg (by omega)]
    have rb : 0 ≤ trB g s (n + 1) ∧ trB g s (n + 1) ≤ 10049 := by unfold trB; omega
    by_cases q : (trH g t s (n + 1)).1 * t (n + 1) ≤ trB g s (n + 1) * (trH g t s (n + 1)).2
    · rw [if_pos q]
      refine ⟨i1, i2, i3, i4, fun i hi => ?_, ?_, ?_⟩
      · by_cases e : i = n + 1
        · subst e; exact q
        · exact i5 i (by omega)
      · have := cei_mono (a := (trH g t s (n + 1)).1) (b := (trH g t s (n + 1)).2) (c := trB g s (n + 1)) (d := t (n + 1)) (by omega) (by omega) q
        omega
      · obtain ⟨i, hi, e⟩ := i7
        exact ⟨i, by omega, e⟩
    · rw [if_neg q]
      have q' : trB g s (n + 1) * (trH g t s (n + 1)).2 ≤ (trH g t s (n + 1)).1 * t (n + 1) := by omega
      dsimp only
      refine ⟨rb.1, rb.2, by omega, by omega, fun i hi => ?_, ?_, n + 1, by omega, rfl⟩
      · by_cases e : i = n + 1
        · subst e; exact Int.le_refl _
        · have o4 := ok.2.2 i (by omega)
          exact frac_tr i3 (by omega) (by omega) q' (i5 i (by omega))
      · have := cei_mono (a := trB g s (n + 1)) (b := t (n + 1)) (c := (trH g t s (n + 1)).1) (d := (trH g t s (n + 1)).2) (by omega) (by omega) q'
        omega
theorem agr_iff (ok : tOK g t s m) (hm : 0 < m) : agr g t s m ↔ (trP g t s m).1 * (trH g t s m).2 ≤ (trH g t s m).1 * (trP g t s m).2 := by
  obtain ⟨p1, p2, p3, p4, p5, p6, p7⟩ := trP_ok ok m (Nat.le_refl _)
  obtain ⟨n, rfl⟩ : ∃ n, m = n + 1 := ⟨m - 1, by omega⟩
  obtain ⟨h1, h2, h3, h4, h5, h6, h7⟩ := trH_ok ok n (Nat.le_refl _)
  constructor
  · intro q
    obtain ⟨j, hj, ej⟩ := h7
    rcases p7 with e | ⟨i, hi, ei⟩
    · rw [e, Int.zero_mul]; exact Int.mul_nonneg h1 (by omega)
    · rw [ei, ej]; exact q i hi j hj
  · intro q i hi j hj
    have oi := ok.2.2 i hi
    have oj := ok.2.2 j hj
    have a1 := frac_tr (a := trA g s i) (b := t i) (c := (trP g t s (n + 1)).1) (d := (trP g t s (n + 1)).2) (e := (trH g t s (n + 1)).1) (f := (trH g t s (n + 1)).2) p3 (by omega) h3 (p5 i hi) q
    exact frac_tr h3 (by omega) (by omega) a1 (h5 j hj)
theorem prod_rg {x y : Int} (h1 : -50 ≤ x) (h2 : x ≤ 10049) (h3 : 0 ≤ y) (h4 : y ≤ 999) : -49950 ≤ x * y ∧ x * y ≤ 10038951 := by
  have a1 : -50 * y ≤ x * y := Int.mul_le_mul_of_nonneg_right h1 h3
  have a2 : x * y ≤ 10049 * y := Int.mul_le_mul_of_nonneg_right h2 h3
  omega
variable {h : AH}
def TC (h : AH) (g t : Nat → Nat) (m : Nat) : Prop := hfi h 28 0 = w32 m ∧ ∀ j, j < m → hia h 29 j = w32 (t j) ∧ hia h 30 j = w32 (g j)
def TM (h : AH) (g t : Nat → Nat) (m : Nat) : Prop := hfi h 193 52 = w32 m ∧ ∀ j, j < m → hia h 230 j = w32 (t j) ∧ hia h 231 j = w32 (g j)
theorem k_agree (hT : TC h g t m) (ok : tOK g t s m) : (agr g t s m → 0 < m → f_X8_agree 28 (w32 s) h = some true) ∧ (¬ (agr g t s m ∧ 0 < m) → f_X8_agree 28 (w32 s) h = some false) := by
  obtain ⟨e1, e2⟩ := hT
  have om := ok.1
  have os := ok.2.1
  have inn : ∀ i, i < m → ((∀ j, j < m → trA g s i * t j ≤ trB g s j * t i) → f_X8_agree_l12 28 (w32 s) (w32 i) h FU 0 = some (.inl ())) ∧ (∀ j, j < m → ¬ trA g s i * t j ≤ trB g s j * t i → (∀ k, k < j → trA g s i * t k ≤ trB g s k * t i) → f_X8_agree_l12 28 (w32 s) (w32 i) h FU 0 = some (.inr false)) := by
    intro i hi
    obtain ⟨c1, c2⟩ := e2 i hi
    have oi := ok.2.2 i hi
    have stp : ∀ j n, j < m → f_X8_agree_l12 28 (w32 s) (w32 i) h (n + 1) (w32 j) = if trA g s i * t j ≤ trB g s j * t i then f_X8_agree_l12 28 (w32 s) (w32 i) h n (w32 (j + 1 : Nat)) else some (.inr false) := by
      intro j n hj
      obtain ⟨d1, d2⟩ := e2 j hj
      have oj := ok.2.2 j hj
      have ra : -50 ≤ trA g s i ∧ trA g s i ≤ 10049 := by unfold trA; omega
      have rb : -50 ≤ trB g s j ∧ trB g s j ≤ 10049 := by unfold trB; omega
      have r1 := prod_rg (x := trA g s i) (y := t j) ra.1 ra.2 (by omega) (by omega)
      have r2 := prod_rg (x := trB g s j) (y := t i) rb.1 rb.2 (by omega) (by omega)
      rw [f_X8_agree_l12, e1, if_neg (by rw [w_le _ _ (by omega) (by omega) (by omega) (by omega)]; omega), gd_t (by rw [w_ibN _ _ (by omega)]; omega), gd_t (by rw [w_ibN _ _ (by omega)]; omega), gd_t (by rw [w_ibN _ _ (by omega)]; omega), gd_t (by rw [w_ibN _ _ (by omega)]; omega), w_clN _ (by omega), w_clN _ (by omega), c1, c2, d1, d2, w_sub, w_add, w_mul, w_mul, wl_1, w_add, w_s]
      show (if w32 (trA g s i * t j) ≤ w32 (trB g s j * t i) then _ else _) = _
      simp (disch := omega) only [w_le]
    exact scan (fun n (v : Int32) => f_X8_agree_l12 28 (w32 s) (w32 i) h n v) (fun j => w32 (j : Nat)) m (fun j => trA g s i * t j ≤ trB g s j * t i) (.inl ()) (fun _ => .inr false) (fun j n hj hP => by
        show f_X8_agree_l12 28 (w32 s) (w32 i) h (n + 1) (w32 j) = f_X8_agree_l12 28 (w32 s) (w32 i) h n (w32 (j + 1 : Nat))
        rw [stp j n hj, if_pos hP]) (fun j n hj hP => by
        show f_X8_agree_l12 28 (w32 s) (w32 i) h (n + 1) (w32 j) = _
        rw [stp j n hj, if_neg hP]) (fun n => by
        show f_X8_agree_l12 28 (w32 s) (w32 i) h (n + 1) (w32 m) = _
        rw [f_X8_agree_l12, e1, if_pos (Int32.le_refl _)]) FU (by unfold FU; omega)
  have out := scan (fun n (v : Int32) => f_X8_agree_l2 28 (w32 s) h n v) (fun i => w32 (i : Nat)) m (fun i => ∀ j, j < m → trA g s i * t j ≤ trB g s j * t i) (.inl ()) (fun _ => .inr false) (fun i n hi hP => by
      show f_X8_agree_l2 28 (w32 s) h (n + 1) (w32 i) = f_X8_agree_l2 28 (w32 s) h n (w32 (i + 1 : Nat))
      rw [f_X8_agree_l2, e1, if_neg (by rw [w_le _ _ (by omega) (by omega) (by omega) (by omega)]; omega), (inn i hi).1 hP, bnd_s, wl_1, w_add, w_s]
      rfl) (fun i n hi hP => by
      show f_X8_agree_l2 28 (w32 s) h (n + 1) (w32 i) = _
      rcases first_of (fun j => trA g s i * t j ≤ trB g s j * t i) m with hall | ⟨j, hj, hn, hbef⟩
      · exact absurd hall hP
      · rw [f_X8_agree_l2, e1, if_neg (by rw [w_le _ _ (by omega) (by omega) (by omega) (by omega)]; omega), (inn i hi).2 j hj hn hbef, bnd_s]
        rfl) (fun n => by
      show f_X8_agree_l2 28 (w32 s) h (n + 1) (w32 m) = _
      rw [f_X8_agree_l2, e1, if_pos (Int32.le_refl _)]) FU (by unfold FU; omega)
  unfold f_X8_agree
  constructor
  · intro q hm
    rw [show f_X8_agree_l2 28 (w32 s) h FU 0 = _ from out.1 q, bnd_s]
    simp only [Sum.elim_inl]
    rw [e1, if_neg (by rw [wl_0, w_le _ _ (by omega) (by omega) (by omega) (by omega)]; omega)]
  · intro q
    rcases first_of (fun i => ∀ j, j < m → trA g s i * t j ≤ trB g s j * t i) m with hall | ⟨j, hj, hn, hbef⟩
    · have hm : m = 0 := by rcases Nat.eq_zero_or_pos m with z | z; exact z; exact absurd ⟨hall, z⟩ q
      rw [show f_X8_agree_l2 28 (w32 s) h FU 0 = _ from out.1 hall, bnd_s]
      simp only [Sum.elim_inl]
      rw [e1, if_pos (by rw [wl_0, w_le _ _ (by omega) (by omega) (by omega) (by omega)]; omega)]
    · rw [show f_X8_agree_l2 28 (w32 s) h FU 0 = _ from out.2 j hj hn hbef, bnd_s]
      rfl
theorem trL_rg (ok : tOK g t s m) (n : Nat) (hn : n ≤ m) : 0 ≤ trL g t s n ∧ trL g t s n ≤ 10000000 := by
  obtain ⟨p1, p2, p3, p4, p5, p6, p7⟩ := trP_ok ok n hn
  rw [p6]
  exact ⟨Int.ediv_nonneg (by omega) (by omega), Int.le_trans (Int.ediv_le_self _ (by omega)) (by omega)⟩
theorem k_least (hT : TC h g t m) (ok : tOK g t s m) : f_X8_least 28 (w32 s) h = some (w32 (trL g t s m)) := by
  obtain ⟨e1, e2⟩ := hT
  have om := ok.1
  have os := ok.2.1
  have lp : f_X8_least_l4 28 (w32 s) h FU 0 0 = some (w32 (trL g t s m)) := loopN (fun n (v : Int32 × Int32) => f_X8_least_l4 28 (w32 s) h n v.1 v.2) (fun i => (w32 (trL g t s i), w32 (i : Nat))) m _ (fun i n hi => by
      obtain ⟨c1, c2⟩ := e2 i hi
      have oi := ok.2.2 i hi
      have r1 := trL_rg ok i (by omega)
      have ra : -50 ≤ trA g s i ∧ trA g s i ≤ 9999 := by unfold trA; omega
      have rd : -50000 ≤ 1000 * trA g s i / (t i : Int) ∧ 1000 * trA g s i / (t i : Int) ≤ 9999000 := by
        constructor
        · exact Int.le_ediv_of_mul_le (by omega) (by have : (-50000 : Int) * (t i : Int) ≤ -50000 * 1 := Int.mul_le_mul_of_nonpos_left (by omega) (by omega)
                                                     omega)
        · have : 1000 * trA g s i / (t i : Int) < 9999001 := Int.ediv_lt_of_lt_mul (by omega) (by have : (9999001 : Int) * 1 ≤ 9999001 * (t i : Int) := Int.mul_le_mul_of_nonneg_left (by omega) (by omega)
                                                                                                  omega)
          omega
      show f_X8_least_l4 28 (w32 s) h (n + 1) (w32 (trL g t s i)) (w32 i) = f_X8_least_l4 28 (w32 s) h n (w32 (trL g t s (i + 1))) (w32 (i + 1 : Nat))
      rw [f_X8_least_l4, e1, if_neg (by rw [w_le _ _ (by omega) (by omega) (by omega) (by omega)]; omega), gd_t (by rw [w_ibN _ _ (by omega)]; omega), gd_t (by rw [w_ibN _ _ (by omega)]; omega), w_clN _ (by omega), c1, c2, w_sub, show ((g i : Int) - (s : Int)) = trA g s i from rfl]
      simp (disch := omega) only [w_l, vl_1000, v_mul, e_cutDown, bnd_s, e_max, wl_1, w_add, w_s]
      rfl) (fun n => by
      show f_X8_least_l4 28 (w32 s) h (n + 1) _ (w32 m) = _
      rw [f_X8_least_l4, e1, if_pos (Int32.le_refl _)]) FU (by unfold FU; omega)
  unfold f_X8_least
  rw [lp, bnd_s]
theorem trG_rg (ok : tOK g t s m) (n : Nat) (hn : n ≤ m) : 0 ≤ trG g t s n ∧ trG g t s n ≤ 2147483647 := by
  cases n with
  | zero => show (0 : Int) ≤ 2147483647 ∧ (2147483647 : Int) ≤ 2147483647; omega
  | succ n =>
    obtain ⟨p1, p2, p3, p4, p5, p6, p7⟩ := trH_ok ok n hn
    rw [p6]
    exact ⟨Int.ediv_nonneg (by omega) (by omega), Int.le_trans (Int.ediv_le_self _ (by omega)) (by omega)⟩
theorem k_greatest (hT : TC h g t m) (ok : tOK g t s m) : f_X8_greatest 28 (w32 s) h = some (w32 (trG g t s m)) := by
  obtain ⟨e1, e2⟩ := hT
  have om := ok.1
  have os := ok.2.1
  have lp : f_X8_greatest_l5 28 (w32 s) h FU 2147483647 0 = some (w32 (trG g t s m)) := loopN (fun n (v : Int32 × Int32) => f_X8_greatest_l5 28 (w32 s) h n v.1 v.2) (fun i => (w32 (trG g t s i), w32 (i : Nat))) m _ (fun i n hi => by
      obtain ⟨c1, c2⟩ := e2 i hi
      have oi := ok.2.2 i hi
      have r1 := trG_rg ok i (by omega)
      have ra : 0 ≤ trB g s i ∧ trB g s i ≤ 10049 := by unfold trB; omega
      have rd : 0 ≤ (1000 * trB g s i + (t i : Int) - 1) / (t i : Int) ∧ (1000 * trB g s i + (t i : Int) - 1) / (t i : Int) ≤ 10050000 := ⟨Int.ediv_nonneg (by omega) (by omega), Int.le_trans (Int.ediv_le_self _ (by omega)) (by omega)⟩
      show f_X8_greatest_l5 28 (w32 s) h (n + 1) (w32 (trG g t s i)) (w32 i) = f_X8_greatest_l5 28 (w32 s) h n (w32 (trG g t s (i + 1))) (w32 (i + 1 : Nat))
      rw [f_X8_greatest_l5, e1, if_neg (by rw [w_le _ _ (by omega) (by omega) (by omega) (by omega)]; omega), gd_t (by rw [w_ibN _ _ (by omega)]; omega), gd_t (by rw [w_ibN _ _ (by omega)]; omega), w_clN _ (by omega), c1, c2, w_add, show ((g i : Int) + (s : Int)) = trB g s i from rfl]
      simp (disch := omega) only [w_l, vl_1000, v_mul, e_cutUp, bnd_s, e_min, wl_1, w_add, w_s]
      rfl) (fun n => by
      show f_X8_greatest_l5 28 (w32 s) h (n + 1) _ (w32 m) = _
      rw [f_X8_greatest_l5, e1, if_pos (Int32.le_refl _)]) FU (by unfold FU; omega)
  unfold f_X8_greatest
  rw [lp, bnd_s]
theorem trH_rg (ok : tOK g t s m) (n : Nat) (hn : n ≤ m) : 0 ≤ (trH g t s n).1 ∧ (trH g t s n).1 ≤ 10049 ∧ 0 ≤ (trH g t s n).2 ∧ (trH g t s n).2 ≤ 999 := by
  cases n with
  | zero => show (0 : Int) ≤ 0 ∧ (0 : Int) ≤ 10049 ∧ (0 : Int) ≤ 0 ∧ (0 : Int) ≤ 999; omega
  | succ n =>
    obtain ⟨p1, p2, p3, p4, -⟩ := trH_ok ok n hn
    exact ⟨p1, p2, by omega, p4⟩
theorem m_turn42 (hT : TM h g t m) (hs : hia h 215 2 = w32 s) (ok : tOK g t s m) : f_X12_turn_l42 h FU 0 1 0 0 0 = some (w32 (trP g t s m).1, w32 (trP g t s m).2, w32 (trH g t s m).1, w32 (trH g t s m).2) := by
  obtain ⟨e1, e2⟩ := hT
  have om := ok.1
  have os := ok.2.1
  have g26 : ib 2 6 = true := by decide
  have cl2 : cl 2 = 2 := by decide
  exact loopN (fun n (v : Int32 × Int32 × Int32 × Int32 × Int32) => f_X12_turn_l42 h n v.1 v.2.1 v.2.2.1 v.2.2.2.1 v.2.2.2.2) (fun i => (w32 (trP g t s i).1, w32 (trP g t s i).2, w32 (trH g t s i).1, w32 (trH g t s i).2, w32 (i : Nat))) m _ (fun i n hi => by
      obtain ⟨c1, c2⟩ := e2 i hi
      have oi := ok.2.2 i hi
      obtain ⟨p1, p2, p3, p4, -⟩ := trP_ok ok i (by omega)
      obtain ⟨h1, h2, h3, h4⟩ := trH_rg ok i (by omega)
      have ra : -50 ≤ trA g s i ∧ trA g s i ≤ 10049 := by unfold trA; omega
      have rb : -50 ≤ trB g s i ∧ trB g s i ≤ 10049 := by unfold trB; omega
      have r1 := prod_rg (x := trA g s i) (y := (trP g t s i).2) ra.1 ra.2 (by omega) (by omega)
      have r2 := prod_rg (x := (trP g t s i).1) (y := t i) (by omega) (by omega) (by omega) (by omega)
      have r3 := prod_rg (x := (trH g t s i).1) (y := t i) (by omega) (by omega) (by omega) (by omega)
      have r4 := prod_rg (x := trB g s i) (y := (trH g t s i).2) rb.1 rb.2 (by omega) (by omega)
      show f_X12_turn_l42 h (n + 1) (w32 (trP g t s i).1) (w32 (trP g t s i).2) (w32 (trH g t s i).1) (w32 (trH g t s i).2) (w32 i) = f_X12_turn_l42 h n (w32 (trP g t s (i + 1)).1) (w32 (trP g t s (i + 1)).2) (w32 (trH g t s (i + 1)).1) (w32 (trH g t s (i + 1)).2) (w32 (i + 1 : Nat))
      rw [f_X12_turn_l42, e1, if_neg (by rw [w_le _ _ (by omega) (by omega) (by omega) (by omega)]; omega), gd_t (by rw [w_ibN _ _ (by omega)]; omega), gd_t g26, gd_t (by rw [w_ibN _ _ (by omega)]; omega), gd_t g26, gd_t (by rw [w_ibN _ _ (by omega)]; omega), lt_b, w_clN _ (by omega), cl2, c1, c2, hs, w_sub, w_add, show ((g i : Int) - (s : Int)) = trA g s i from rfl, show ((g i : Int) + (s : Int)) = trB g s i from rfl, trP_s, trH_s]
      simp (disch := omega) only [w_mul, w_le, wl_0, w_eq, wl_1, w_add, w_s]
      by_cases q1 : trA g s i * (trP g t s i).2 ≤ (trP g t s i).1 * t i
      · rw [if_pos q1, if_pos q1]
        by_cases q2 : (trH g t s i).2 = 0
        · rw [if_pos q2, if_pos q2]
        · rw [if_neg q2, if_neg q2]
          by_cases q3 : (trH g t s i).1 * t i ≤ trB g s i * (trH g t s i).2
          · rw [if_pos q3, if_pos q3]
          · rw [if_neg q3, if_neg q3]
      · rw [if_neg q1, if_neg q1]
        by_cases q2 : (trH g t s i).2 = 0
        · rw [if_pos q2, if_pos q2]
        · rw [if_neg q2, if_neg q2]
          by_cases q3 : (trH g t s i).1 * t i ≤ trB g s i * (trH g t s i).2
          · rw [if_pos q3, if_pos q3]
          · rw [if_neg q3, if_neg q3]) (fun n => by
      show f_X12_turn_l42 h (n + 1) _ _ _ _ (w32 m) = _
      rw [f_X12_turn_l42, e1, if_pos (Int32.le_refl _)]) FU (by unfold FU; omega)
end TRN
section TRQ
variable {h : AH} {S : SV} {T : Nat}
theorem q_turn (x : Int32) (hI : CI h S) (oS : okS S) : ∃ s, RC (f_X11_turn x h) h s ∧ ∀ h', MI2 h' S T → RM (f_X12_turn x h') h' s := by
  obtain ⟨z, rfl, r1, r2⟩ := w_ex x
  have ok : tOK (xtg S) (xtt S) (ls (xa S)) (xm S) := ⟨oS.2.2.2.2.2.2.2.1, oS.2.1.2.2.2, fun j hj => oS.2.2.2.2.2.2.2.2.1 j hj⟩
  have hT : TC h (xtg S) (xtt S) (xm S) := ⟨hI.2.2.2.2.2.2.2.2.2.2.1, hI.2.2.2.2.2.2.2.2.2.2.2.1⟩
  have sL := isLw_sh hI.1.2.2.2.2.1
  have es := hI.2.2.1.2.2
  have om := ok.1
  have mT : ∀ h', MI2 h' S T → TM (sfi h' 193 2 0) (xtg S) (xtt S) (xm S) ∧ hia (sfi h' 193 2 0) 215 2 = w32 (ls (xa S)) := fun h' hM => ⟨⟨(hM.fr (code0 h').1.m).2.2.2.2.2.2.2.1, (hM.fr (code0 h').1.m).2.2.2.2.2.2.2.2.1⟩, (hM.fr (code0 h').1.m).2.1.2.2⟩
  by_cases q : 0 ≤ z ∧ z ≤ 1
  · have c0 : ¬ w32 z < 0 := by rw [wl_0, w_lt _ _ (by omega) (by omega) (by omega) (by omega)]; omega
    have c1 : w32 z ≤ 1 := by rw [wl_1, w_le _ _ (by omega) (by omega) (by omega) (by omega)]; omega
    by_cases m0 : xm S = 0
    · refine ⟨some (-1), RC_some Fr.rf ?_, fun h' hM => RM_some (code0 h').1 ?_ (code0 h').2⟩
      · unfold f_X11_turn
        rw [if_neg c0, if_pos c1, gd_t sL, es, (k_agree hT ok).2 (fun e => by have := e.2; omega), bnd_s, if_neg (by decide), wl_1, w_neg]
      · unfold f_X12_turn
        rw [lt_b, if_neg c0, if_pos c1, (mT h' hM).1.1, m0, if_pos (by decide), wl_1, w_neg]
    · have hm : 0 < xm S := by omega
      have ai := agr_iff ok hm
      obtain ⟨p1, p2, p3, p4, p5, p6, p7⟩ := trP_ok ok (xm S) (Nat.le_refl _)
      have hh := trH_ok ok (xm S - 1) (by omega)
      rw [show xm S - 1 + 1 = xm S by omega] at hh
      obtain ⟨h1, h2, h3, h4, h5, h6, h7⟩ := hh
      have ra := prod_rg (x := (trP (xtg S) (xtt S) (ls (xa S)) (xm S)).1) (y := (trH (xtg S) (xtt S) (ls (xa S)) (xm S)).2) (by omega) (by omega) (by omega) (by omega)
      have rb := prod_rg (x := (trH (xtg S) (xtt S) (ls (xa S)) (xm S)).1) (y := (trP (xtg S) (xtt S) (ls (xa S)) (xm S)).2) (by omega) (by omega) (by omega) (by omega)
      have stp : ∀ h', MI2 h' S T → f_X12_turn (w32 z) h' = bnd (some (w32 (trP (xtg S) (xtt S) (ls (xa S)) (xm S)).1, w32 (trP (xtg S) (xtt S) (ls (xa S)) (xm S)).2, w32 (trH (xtg S) (xtt S) (ls (xa S)) (xm S)).1, w32 (trH (xtg S) (xtt S) (ls (xa S)) (xm S)).2)) (fun q18 => if (q18.1 * q18.2.2.2) ≤ (q18.2.2.1 * q18.2.1) then if w32 z = 0 then gd (¬ q18.2.1 = 0) (some ((1000 * q18.1) / q18.2.1, sfi h' 193 2 0)) else gd (¬ q18.2.2.2 = 0) (some ((((1000 * q18.2.2.1) + q18.2.2.2) - 1) / q18.2.2.2, sfi h' 193 2 0)) else some ((-1), sfi h' 193 2 0)) := by
        intro h' hM
        obtain ⟨t1, t2⟩ := mT h' hM
        unfold f_X12_turn
        rw [lt_b, if_neg c0, if_pos c1, t1.1, if_neg (by rw [wl_0, w_eq _ _ (by omega) (by omega) (by omega) (by omega)]; omega), m_turn42 t1 t2 ok]
      rcases Classical.em (agr (xtg S) (xtt S) (ls (xa S)) (xm S)) with qa | qa
      · have le : w32 ((trP (xtg S) (xtt S) (ls (xa S)) (xm S)).1 * (trH (xtg S) (xtt S) (ls (xa S)) (xm S)).2) ≤ w32 ((trH (xtg S) (xtt S) (ls (xa S)) (xm S)).1 * (trP (xtg S) (xtt S) (ls (xa S)) (xm S)).2) := by rw [w_le _ _ (by omega) (by omega) (by omega) (by omega)]; exact ai.mp qa
        by_cases z0 : w32 z = 0
        · refine ⟨some (trL (xtg S) (xtt S) (ls (xa S)) (xm S)), RC_some Fr.rf ?_, fun h' hM => RM_some (code0 h').1 ?_ (code0 h').2⟩
          · unfold f_X11_turn
            rw [if_neg c0, if_pos c1, gd_t sL, es, (k_agree hT ok).1 qa hm, bnd_s, if_pos rfl, if_pos z0, gd_t sL, k_least hT ok, bnd_s]
          · rw [stp h' hM, bnd_s]
            dsimp only
            rw [w_mul, w_mul, if_pos le, if_pos z0, gd_t (by rw [wl_0, w_eq _ _ (by omega) (by omega) (by omega) (by omega)]; omega), wl_1000, w_mul, w_divP _ _ (by omega) (by omega) (by omega) (by omega), p6]
        · refine ⟨some (trG (xtg S) (xtt S) (ls (xa S)) (xm S)), RC_some Fr.rf ?_, fun h' hM => RM_some (code0 h').1 ?_ (code0 h').2⟩
          · unfold f_X11_turn
            rw [if_neg c0, if_pos c1, gd_t sL, es, (k_agree hT ok).1 qa hm, bnd_s, if_pos rfl, if_neg z0, gd_t sL, k_greatest hT ok, bnd_s]
          · rw [stp h' hM, bnd_s]
            dsimp only
            rw [w_mul, w_mul, if_pos le, if_neg z0, gd_t (by rw [wl_0, w_eq _ _ (by omega) (by omega) (by omega) (by omega)]; omega), wl_1000, w_mul, w_add, wl_1, w_sub, w_divP _ _ (by omega) (by omega) (by omega) (by omega), h6]
      · have le : ¬ w32 ((trP (xtg S) (xtt S) (ls (xa S)) (xm S)).1 * (trH (xtg S) (xtt S) (ls (xa S)) (xm S)).2) ≤ w32 ((trH (xtg S) (xtt S) (ls (xa S)) (xm S)).1 * (trP (xtg S) (xtt S) (ls (xa S)) (xm S)).2) := by rw [w_le _ _ (by omega) (by omega) (by omega) (by omega)]; exact fun e => qa (ai.mpr e)
        refine ⟨some (-1), RC_some Fr.rf ?_, fun h' hM => RM_some (code0 h').1 ?_ (code0 h').2⟩
        · unfold f_X11_turn
          rw [if_neg c0, if_pos c1, gd_t sL, es, (k_agree hT ok).2 (fun e => qa e.1), bnd_s, if_neg (by decide), wl_1, w_neg]
        · rw [stp h' hM, bnd_s]
          dsimp only
          rw [w_mul, w_mul, if_neg le, wl_1, w_neg]
  · refine ⟨none, RC_none Fr.rf ?_, fun h' hM => RM_fail (code0 h').1 ?_⟩
    · unfold f_X11_turn
      by_cases q4 : z < 0
      · rw [if_pos (by rw [wl_0, w_lt _ _ (by omega) (by omega) (by omega) (by omega)]; omega)]
      · rw [if_neg (by rw [wl_0, w_lt _ _ (by omega) (by omega) (by omega) (by omega)]; omega), if_neg (by rw [wl_1, w_le _ _ (by omega) (by omega) (by omega) (by omega)]; omega)]
    · unfold f_X12_turn
      rw [lt_b]
      by_cases q4 : z < 0
      · rw [if_pos (by rw [wl_0, w_lt _ _ (by omega) (by omega) (by omega) (by omega)]; omega), m_fail, bnd_s]
      · rw [if_neg (by rw [wl_0, w_lt _ _ (by omega) (by omega) (by omega) (by omega)]; omega), if_neg (by rw [wl_1, w_le _ _ (by omega) (by omega) (by omega) (by omega)]; omega), m_fail, bnd_s]
end TRQ
