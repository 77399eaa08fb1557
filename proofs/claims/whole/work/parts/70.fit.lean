/-! years that fit -/
def fv (A B M : Nat → Int) (x y l : Nat) : Int := ((2 * (x : Int) * A l + 2 * (y : Int) * B l - M l).natAbs : Int)
def fF (A B M : Nat → Int) (n x y : Nat) : Int := sm (fv A B M x y) n
def fI (F : Nat → Nat → Int) (x : Nat) (p : Int × Int × Int) : Nat → Int × Int × Int
  | 0 => p
  | y + 1 => if F x y < (fI F x p y).1 then (F x y, (x : Int), (y : Int)) else fI F x p y
def fO (F : Nat → Nat → Int) (Y : Nat) : Nat → Int × Int × Int
  | 0 => (2147483647, 0, 0)
  | x + 1 => fI F x (fO F Y x) (Y + 1)
def fOK (p : Int × Int × Int) : Prop := 0 ≤ p.1 ∧ p.1 ≤ 2147483647 ∧ 0 ≤ p.2.1 ∧ p.2.1 ≤ 60 ∧ 0 ≤ p.2.2 ∧ p.2.2 ≤ 60
def bq (z : Int) : Int := if z = 2147483647 then -1 else z
section FIT
variable {h : AH} {S : SV} {T b B n : Nat} {β : BV} {γ : GV} {a : LV} {A C M : Nat → Int} {F : Nat → Nat → Int}
theorem fI_s (x : Nat) (p : Int × Int × Int) (y : Nat) : fI F x p (y + 1) = if F x y < (fI F x p y).1 then (F x y, (x : Int), (y : Int)) else fI F x p y := rfl
theorem fI_ok (hF : ∀ x y, x ≤ 60 → y ≤ 60 → 0 ≤ F x y ∧ F x y ≤ 1000000000) {x : Nat} (hx : x ≤ 60) {p : Int × Int × Int} (hp : fOK p) (y : Nat) (hy : y ≤ 61) : fOK (fI F x p y) := by
  induction y with
  | zero => exact hp
  | succ y ih =>
    have i := ih (by omega)
    have f := hF x y hx (by omega)
    rw [fI_s]
    by_cases q : F x y < (fI F x p y).1
    · rw [if_pos q]; unfold fOK at i ⊢; dsimp only; omega
    · rw [if_neg q]; exact i
theorem fI_le (x : Nat) (p : Int × Int × Int) (y : Nat) : (fI F x p (y + 1)).1 ≤ F x y := by
  rw [fI_s]
  by_cases q : F x y < (fI F x p y).1
  · rw [if_pos q]; exact Int.le_refl _
  · rw [if_neg q]; omega
theorem fO_ok (hF : ∀ x y, x ≤ 60 → y ≤ 60 → 0 ≤ F x y ∧ F x y ≤ 1000000000) {Y : Nat} (hY : Y ≤ 60) (x : Nat) (hx : x ≤ 61) : fOK (fO F Y x) := by
  induction x with
  | zero => show 0 ≤ (2147483647 : Int) ∧ (2147483647 : Int) ≤ 2147483647 ∧ 0 ≤ (0 : Int) ∧ (0 : Int) ≤ 60 ∧ 0 ≤ (0 : Int) ∧ (0 : Int) ≤ 60; omega
  | succ x ih => exact fI_ok hF (by omega) (ih (by omega)) (Y + 1) (by omega)
theorem fO_lt (hF : ∀ x y, x ≤ 60 → y ≤ 60 → 0 ≤ F x y ∧ F x y ≤ 1000000000) {Y : Nat} (hY : Y ≤ 60) : (fO F Y 61).1 ≤ 1000000000 := Int.le_trans (fI_le 60 (fO F Y 60) Y) (hF 60 Y (by omega) hY).2
theorem e_abs (z : Int) (h1 : -2147483647 ≤ z) (h2 : z ≤ 2147483647) : f_J9_abs_0f7a4 (w32 z) = w32 (z.natAbs : Int) := by
  unfold f_J9_abs_0f7a4
  by_cases q : 0 ≤ z
  · rw [if_pos (by rw [wl_0, w_le _ _ (by omega) (by omega) (by omega) (by omega)]; exact q)]; exact ww (by omega)
  · rw [if_neg (by rw [wl_0, w_le _ _ (by omega) (by omega) (by omega) (by omega)]; exact q), w_neg]; exact ww (by omega)
/-- what the rows hold -/
def fR (A C M : Nat → Int) (n : Nat) : Prop := n ≤ 40 ∧ ∀ l, l < n → (0 ≤ A l ∧ A l ≤ 99) ∧ (0 ≤ C l ∧ C l ≤ 99) ∧ (0 ≤ M l ∧ M l ≤ 2000098)
theorem fv_rg (hR : fR A C M n) {x y l : Nat} (hx : x ≤ 60) (hy : y ≤ 60) (hl : l < n) : -2000098 ≤ 2 * (x : Int) * A l + 2 * (y : Int) * C l - M l ∧ 2 * (x : Int) * A l + 2 * (y : Int) * C l - M l ≤ 23760 ∧ 0 ≤ fv A C M x y l ∧ fv A C M x y l ≤ 2000098 := by
  obtain ⟨r1, r2, r3⟩ := hR.2 l hl
  have m1 := mul_rg (a := 2 * (x : Int)) (A := 120) (by omega) (by omega) r1.1 r1.2
  have m2 := mul_rg (a := 2 * (y : Int)) (A := 120) (by omega) (by omega) r2.1 r2.2
  unfold fv
  omega
theorem fF_rg (hR : fR A C M n) {x y : Nat} (hx : x ≤ 60) (hy : y ≤ 60) {i : Nat} (hi : i ≤ n) : 0 ≤ sm (fv A C M x y) i ∧ sm (fv A C M x y) i ≤ 80003920 := by
  have := sm_rg (f := fv A C M x y) (n := i) (a := 0) (b := 2000098) (fun l hl => ⟨(fv_rg hR hx hy (show l < n by omega)).2.2.1, (fv_rg hR hx hy (show l < n by omega)).2.2.2⟩)
  have := hR.1
  omega
theorem fF_mono (hR : fR A C M n) {x y : Nat} (hx : x ≤ 60) (hy : y ≤ 60) {i : Nat} (hi : i ≤ n) : sm (fv A C M x y) i ≤ fF A C M n x y := by
  unfold fF
  have : ∀ m, i + m ≤ n → sm (fv A C M x y) i ≤ sm (fv A C M x y) (i + m) := by
    intro m
    induction m with
    | zero => intro _; exact Int.le_refl _
    | succ m ih =>
      intro hm
      have := ih (by omega)
      have := (fv_rg hR hx hy (show i + m < n by omega)).2.2.1
      rw [show i + (m + 1) = (i + m) + 1 by omega, sm_s]
      omega
  have := this (n - i) (by omega)
  rw [show i + (n - i) = n by omega] at this
  exact this
/-- the class's rows -/
def fC (h : AH) (A C M : Nat → Int) (n : Nat) : Prop := ∀ l, l < n → hia h 58 l = w32 (2 * A l) ∧ hia h 59 l = w32 (2 * C l) ∧ hia h 38 l = w32 (M l)
theorem k_differ (hC : fC h A C M n) (hR : fR A C M n) {x y : Nat} (hx : x ≤ 60) (hy : y ≤ 60) {best : Int} (h1 : 0 ≤ best) (h2 : best ≤ 2147483647) : ∃ R : Int, f_X2_differing 57 38 40 (w32 n) (w32 x) (w32 y) (w32 best) h = some (w32 R) ∧ 0 ≤ R ∧ R ≤ 80003920 ∧ (fF A C M n x y < best → R = fF A C M n x y) ∧ (¬ fF A C M n x y < best → best ≤ R) := by
  have hn := hR.1
  have sc := scan (fun k (s : Int32 × Int32) => f_X2_differing_l6 57 38 (w32 n) (w32 x) (w32 y) (w32 best) 40 h k s.1 s.2) (fun i => (w32 (sm (fv A C M x y) i), w32 (i : Nat))) n (fun i => sm (fv A C M x y) i < best) (w32 (sm (fv A C M x y) n)) (fun j => w32 (sm (fv A C M x y) j)) (fun i k hi hP => by
      obtain ⟨c1, c2, c3⟩ := hC i hi
      have rr := fF_rg hR hx hy (Nat.le_of_lt hi)
      have rv := fv_rg hR hx hy hi
      show f_X2_differing_l6 57 38 (w32 n) (w32 x) (w32 y) (w32 best) 40 h (k + 1) (w32 (sm _ i)) (w32 i) = f_X2_differing_l6 57 38 (w32 n) (w32 x) (w32 y) (w32 best) 40 h k (w32 (sm _ (i + 1))) (w32 (i + 1 : Nat))
      rw [f_X2_differing_l6, if_neg (by rw [w_le _ _ (by omega) (by omega) (by omega) (by omega)]; omega), if_neg (by rw [w_le _ _ (by omega) (by omega) (by omega) (by omega)]; omega), gd_t (by rw [w_ibN _ _ (by omega)]; omega), gd_t (by rw [w_ibN _ _ (by omega)]; omega), gd_t (by rw [w_ibN _ _ (by omega)]; omega), w_clN _ (by omega), c1, c2, c3, w_mul, w_mul, w_add, w_sub, show (x : Int) * (2 * A i) + (y : Int) * (2 * C i) - M i = 2 * (x : Int) * A i + 2 * (y : Int) * C i - M i by rw [show (x : Int) * (2 * A i) = 2 * (x : Int) * A i by ac_rfl, show (y : Int) * (2 * C i) = 2 * (y : Int) * C i by ac_rfl], e_abs _ (by omega) (by omega), w_add, wl_1, w_add, w_s, sm_s]
      rfl) (fun i k hi hP => by
      have rr := fF_rg hR hx hy (Nat.le_of_lt hi)
      show f_X2_differing_l6 57 38 (w32 n) (w32 x) (w32 y) (w32 best) 40 h (k + 1) (w32 (sm _ i)) (w32 i) = _
      rw [f_X2_differing_l6, if_neg (by rw [w_le _ _ (by omega) (by omega) (by omega) (by omega)]; omega), if_pos (by rw [w_le _ _ (by omega) (by omega) (by omega) (by omega)]; omega)]) (fun k => by
      show f_X2_differing_l6 57 38 (w32 n) (w32 x) (w32 y) (w32 best) 40 h (k + 1) _ (w32 n) = _
      rw [f_X2_differing_l6, if_pos (Int32.le_refl _)]) FU (by unfold FU; omega)
  unfold f_X2_differing
  rcases first_of (fun i => sm (fv A C M x y) i < best) n with hall | ⟨j, hj, hn', hbef⟩
  · have rr := fF_rg hR hx hy (Nat.le_refl n)
    refine ⟨fF A C M n x y, ?_, rr.1, rr.2, fun _ => rfl, fun q => by omega⟩
    rw [show f_X2_differing_l6 57 38 (w32 n) (w32 x) (w32 y) (w32 best) 40 h FU 0 0 = _ from sc.1 hall, bnd_s]
    rfl
  · have rr := fF_rg hR hx hy (Nat.le_of_lt hj)
    have mm := fF_mono hR hx hy (Nat.le_of_lt hj)
    refine ⟨sm (fv A C M x y) j, ?_, rr.1, rr.2, fun q => by omega, fun q => by omega⟩
    rw [show f_X2_differing_l6 57 38 (w32 n) (w32 x) (w32 y) (w32 best) 40 h FU 0 0 = _ from sc.2 j hj hn' hbef, bnd_s]
theorem n112 (a0 a1 a2 : Nat) (v5 v7 : Int32) (n2 : Nat) : ∀ (k : Nat) (v6 v8 : Int32) (h : AH), f_X2_search_n_l112 a0 a1 a2 v5 v7 n2 k v6 v8 h = f_X2_search_l112 a0 a1 a2 v5 v7 n2 k v6 v8 h := by
  intro k
  induction k with
  | zero => intro v6 v8 h; rfl
  | succ k ih => intro v6 v8 h; rw [f_X2_search_n_l112, f_X2_search_l112]; simp only [ih]
theorem n102 (a0 a1 a2 : Nat) (v5 : Int32) (n2 : Nat) : ∀ (k : Nat) (v6 v7 : Int32) (h : AH), f_X2_search_n_l102 a0 a1 a2 v5 n2 k v6 v7 h = f_X2_search_l102 a0 a1 a2 v5 n2 k v6 v7 h := by
  intro k
  induction k with
  | zero => intro v6 v7 h; rfl
  | succ k ih => intro v6 v7 h; rw [f_X2_search_n_l102, f_X2_search_l102]; simp only [ih, n112]
def fP (h : AH) (p : Int × Int × Int) : Prop := p.1 ≠ 2147483647 → hfi h 57 1 = w32 p.2.1 ∧ hfi h 57 2 = w32 p.2.2
theorem k_fit112 (hB : hfi h B 0 = w32 n) (hX : B ≠ 57) (hC : fC h A C M n) (hR : fR A C M n) {x Y : Nat} (hx : x ≤ 60) (hY : Y ≤ 60) {p : Int × Int × Int} (hp : fOK p) (hP0 : fP h p) : ∃ h1, f_X2_search_l112 57 B 38 (w32 Y) (w32 x) 40 FU (w32 p.1) 0 h = some (w32 (fI (fF A C M n) x p (Y + 1)).1, h1) ∧ Fr (fun c => c = 57) h h1 ∧ fP h1 (fI (fF A C M n) x p (Y + 1)) := by
  have hF : ∀ x y, x ≤ 60 → y ≤ 60 → 0 ≤ fF A C M n x y ∧ fF A C M n x y ≤ 1000000000 := fun x y h1 h2 => by have := fF_rg hR h1 h2 (Nat.le_refl n); unfold fF; omega
  obtain ⟨⟨r1, h1⟩, e, q⟩ := loopR (fun k (t : Int32 × Int32 × AH) => f_X2_search_l112 57 B 38 (w32 Y) (w32 x) 40 k t.1 t.2.1 t.2.2) (fun i t => t.1 = w32 (fI (fF A C M n) x p i).1 ∧ t.2.1 = w32 (i : Nat) ∧ Fr (fun c => c = 57) h t.2.2 ∧ fP t.2.2 (fI (fF A C M n) x p i)) (fun t => t.1 = w32 (fI (fF A C M n) x p (Y + 1)).1 ∧ Fr (fun c => c = 57) h t.2 ∧ fP t.2 (fI (fF A C M n) x p (Y + 1))) (Y + 1) (fun i k t hi hQ => by
      obtain ⟨v6, v8, hh⟩ := t
      obtain ⟨p1, p2, p3, p4⟩ := hQ
      dsimp only at p1 p2 p3 p4
      subst p1 p2
      have d1 : hfi hh B 0 = w32 n := by rw [(p3 B hX).1]; exact hB
      have hC2 : fC hh A C M n := fun l hl => by
        rw [(p3 58 (by omega)).2.2.1, (p3 59 (by omega)).2.2.1, (p3 38 (by omega)).2.2.1]; exact hC l hl
      have ok := fI_ok hF hx hp i (by omega)
      unfold fOK at ok
      obtain ⟨R, eR, R1, R2, R3, R4⟩ := k_differ hC2 hR hx (show i ≤ 60 by omega) (best := (fI (fF A C M n) x p i).1) (by omega) (by omega)
      by_cases q : fF A C M n x i < (fI (fF A C M n) x p i).1
      · have eq := R3 q
        subst eq
        refine ⟨(w32 (fI (fF A C M n) x p (i + 1)).1, w32 (i + 1 : Nat), sfi (sfi hh 57 1 (w32 x)) 57 2 (w32 i)), ⟨rfl, rfl, (p3.tr (Fr.sfi _ _ _ _ rfl)).tr (Fr.sfi _ _ _ _ rfl), fun _ => ?_⟩, ?_⟩
        · rw [fI_s, if_pos q]
          dsimp only
          rw [fi_sfi_eq, fi_sfi_nk _ _ _ _ _ (by omega), fi_sfi_eq]
          exact ⟨rfl, rfl⟩
        · show f_X2_search_l112 57 B 38 (w32 Y) (w32 x) 40 (k + 1) (w32 (fI (fF A C M n) x p i).1) (w32 i) hh = f_X2_search_l112 57 B 38 (w32 Y) (w32 x) 40 k (w32 (fI (fF A C M n) x p (i + 1)).1) (w32 (i + 1 : Nat)) _
          rw [f_X2_search_l112, if_neg (by rw [w_lt _ _ (by omega) (by omega) (by omega) (by omega)]; omega), d1, eR, bnd_s, if_neg (by rw [w_le _ _ (by omega) (by omega) (by omega) (by omega)]; omega), lt_b, lt_b, wl_1, w_add, w_s, fI_s, if_pos q]
      · have ge := R4 q
        refine ⟨(w32 (fI (fF A C M n) x p (i + 1)).1, w32 (i + 1 : Nat), hh), ⟨rfl, rfl, p3, ?_⟩, ?_⟩
        · rw [fI_s, if_neg q]; exact p4
        · show f_X2_search_l112 57 B 38 (w32 Y) (w32 x) 40 (k + 1) (w32 (fI (fF A C M n) x p i).1) (w32 i) hh = f_X2_search_l112 57 B 38 (w32 Y) (w32 x) 40 k (w32 (fI (fF A C M n) x p (i + 1)).1) (w32 (i + 1 : Nat)) _
          rw [f_X2_search_l112, if_neg (by rw [w_lt _ _ (by omega) (by omega) (by omega) (by omega)]; omega), d1, eR, bnd_s, if_pos (by rw [w_le _ _ (by omega) (by omega) (by omega) (by omega)]; omega), wl_1, w_add, w_s, fI_s, if_neg q]) (fun k t hQ => by
      obtain ⟨v6, v8, hh⟩ := t
      obtain ⟨p1, p2, p3, p4⟩ := hQ
      dsimp only at p1 p2 p3 p4
      subst p1 p2
      refine ⟨(w32 (fI (fF A C M n) x p (Y + 1)).1, hh), ?_, rfl, p3, p4⟩
      show f_X2_search_l112 57 B 38 (w32 Y) (w32 x) 40 (k + 1) _ (w32 (Y + 1 : Nat)) hh = _
      rw [f_X2_search_l112, if_pos (by rw [w_lt _ _ (by omega) (by omega) (by omega) (by omega)]; omega)]) FU (by unfold FU; omega) (w32 p.1, 0, h) ⟨rfl, rfl, Fr.rf, hP0⟩
  obtain ⟨q1, q2⟩ := q
  dsimp only at q1 q2
  subst q1
  exact ⟨h1, e, q2⟩
theorem k_fit102 (hB : hfi h B 0 = w32 n) (hX : B ≠ 57) (hC : fC h A C M n) (hR : fR A C M n) {Y : Nat} (hY : Y ≤ 60) : ∃ h1, f_X2_search_l102 57 B 38 (w32 Y) 40 FU 2147483647 0 h = some (w32 (fO (fF A C M n) Y 61).1, h1) ∧ Fr (fun c => c = 57) h h1 ∧ fP h1 (fO (fF A C M n) Y 61) := by
  have hF : ∀ x y, x ≤ 60 → y ≤ 60 → 0 ≤ fF A C M n x y ∧ fF A C M n x y ≤ 1000000000 := fun x y h1 h2 => by have := fF_rg hR h1 h2 (Nat.le_refl n); unfold fF; omega
  obtain ⟨⟨r1, h1⟩, e, q⟩ := loopR (fun k (t : Int32 × Int32 × AH) => f_X2_search_l102 57 B 38 (w32 Y) 40 k t.1 t.2.1 t.2.2) (fun i t => t.1 = w32 (fO (fF A C M n) Y i).1 ∧ t.2.1 = w32 (i : Nat) ∧ Fr (fun c => c = 57) h t.2.2 ∧ fP t.2.2 (fO (fF A C M n) Y i)) (fun t => t.1 = w32 (fO (fF A C M n) Y 61).1 ∧ Fr (fun c => c = 57) h t.2 ∧ fP t.2 (fO (fF A C M n) Y 61)) 61 (fun i k t hi hQ => by
      obtain ⟨v6, v8, hh⟩ := t
      obtain ⟨p1, p2, p3, p4⟩ := hQ
      dsimp only at p1 p2 p3 p4
      subst p1 p2
      have d1 : hfi hh B 0 = w32 n := by rw [(p3 B hX).1]; exact hB
      have hC2 : fC hh A C M n := fun l hl => by
        rw [(p3 58 (by omega)).2.2.1, (p3 59 (by omega)).2.2.1, (p3 38 (by omega)).2.2.1]; exact hC l hl
      obtain ⟨h2, e2, f2, q2⟩ := k_fit112 d1 hX hC2 hR (show i ≤ 60 by omega) hY (fO_ok hF hY i (by omega)) p4
      refine ⟨(w32 (fO (fF A C M n) Y (i + 1)).1, w32 (i + 1 : Nat), h2), ⟨rfl, rfl, p3.tr f2, q2⟩, ?_⟩
      show f_X2_search_l102 57 B 38 (w32 Y) 40 (k + 1) (w32 (fO (fF A C M n) Y i).1) (w32 i) hh = f_X2_search_l102 57 B 38 (w32 Y) 40 k _ _ h2
      rw [f_X2_search_l102, if_neg (by rw [wl_60, w_lt _ _ (by omega) (by omega) (by omega) (by omega)]; omega), e2, bnd_s, wl_1, w_add, w_s]
      rfl) (fun k t hQ => by
      obtain ⟨v6, v8, hh⟩ := t
      obtain ⟨p1, p2, p3, p4⟩ := hQ
      dsimp only at p1 p2 p3 p4
      subst p1 p2
      refine ⟨(w32 (fO (fF A C M n) Y 61).1, hh), ?_, rfl, p3, p4⟩
      show f_X2_search_l102 57 B 38 (w32 Y) 40 (k + 1) _ (w32 (61 : Nat)) hh = _
      rw [f_X2_search_l102, if_pos (by decide)]) FU (by decide) (2147483647, 0, h) ⟨rfl, rfl, Fr.rf, fun z => absurd rfl z⟩
  obtain ⟨q1, q2⟩ := q
  dsimp only at q1 q2
  subst q1
  exact ⟨h1, e, q2⟩
end FIT
