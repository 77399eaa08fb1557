/-! humps: lights by their size, parted -/
def sq (L : Nat → Int) (i : Nat) : Int := L i * L i
theorem sq_nn (x : Int) : 0 ≤ x * x := by
  rcases Int.lt_or_le x 0 with h | h
  · exact Int.mul_nonneg_of_nonpos_of_nonpos (by omega) (by omega)
  · exact Int.mul_nonneg h h
theorem dv (L : Nat → Int) (f k : Nat) (y : Int) : 0 ≤ (sm (sq L) (f + k) - sm (sq L) f) - 2 * y * (sm L (f + k) - sm L f) + k * (y * y) := by
  induction k with
  | zero =>
    rw [Nat.add_zero, Int.sub_self, Int.sub_self, Int.mul_zero]
    simp
  | succ k ih =>
    rw [show f + (k + 1) = (f + k) + 1 by omega, sm_s, sm_s]
    have h := sq_nn (L (f + k) - y)
    have e : sq L (f + k) = L (f + k) * L (f + k) := rfl
    rw [e]
    generalize sm (sq L) (f + k) = a at *
    generalize sm (sq L) f = b at *
    generalize sm L (f + k) = c at *
    generalize sm L f = d at *
    generalize L (f + k) = x at *
    have : (a + x * x - b) - 2 * y * (c + x - d) + ((k + 1 : Nat) : Int) * (y * y) = (a - b - 2 * y * (c - d) + (k : Int) * (y * y)) + (x - y) * (x - y) := by
      rw [Int.natCast_add]
      grind
    omega
theorem cs (L : Nat → Int) (f k : Nat) : 0 ≤ (k : Int) * (sm (sq L) (f + k) - sm (sq L) f) - (sm L (f + k) - sm L f) * (sm L (f + k) - sm L f) := by
  induction k with
  | zero =>
    rw [Nat.add_zero, Int.sub_self, Int.sub_self, Int.mul_zero]
    simp
  | succ k ih =>
    have h := dv L f k (L (f + k))
    rw [show f + (k + 1) = (f + k) + 1 by omega, sm_s, sm_s]
    have e : sq L (f + k) = L (f + k) * L (f + k) := rfl
    rw [e]
    generalize sm (sq L) (f + k) = a at *
    generalize sm (sq L) f = b at *
    generalize sm L (f + k) = c at *
    generalize sm L f = d at *
    generalize L (f + k) = x at *
    have : ((k + 1 : Nat) : Int) * (a + x * x - b) - (c + x - d) * (c + x - d) = ((k : Int) * (a - b) - (c - d) * (c - d)) + ((a - b) - 2 * x * (c - d) + (k : Int) * (x * x)) := by
      rw [Int.natCast_add]
      grind
    omega
/-- the spread of lights f to t -/
def spN (L : Nat → Int) (f t : Nat) : Int := ((t : Int) - f) * (sm (sq L) t - sm (sq L) f) - (sm L t - sm L f) * (sm L t - sm L f)
def sp (L : Nat → Int) (f t : Nat) : Int := if t ≤ f then 0 else 1000 * spN L f t / ((t : Int) - f)
def lOK (L : Nat → Int) : Prop := ∀ i, 0 ≤ L i ∧ L i ≤ 1000050
theorem spN_rg {L : Nat → Int} (hL : lOK L) {f t : Nat} (h1 : f ≤ t) (h2 : t ≤ 12) : 0 ≤ spN L f t ∧ spN L f t ≤ 144014400360000 ∧ 0 ≤ sm (sq L) t - sm (sq L) f ∧ sm (sq L) t - sm (sq L) f ≤ 12001200030000 ∧ 0 ≤ sm L t - sm L f ∧ sm L t - sm L f ≤ 12000600 := by
  obtain ⟨k, rfl⟩ : ∃ k, t = f + k := ⟨t - f, by omega⟩
  have c := cs L f k
  have s1 := sm_seg (f := sq L) (M := 1000100002500) (fun i => ⟨sq_nn _, (mul_rg (hL i).1 (hL i).2 (hL i).1 (hL i).2).2⟩) f k
  have s2 := sm_seg hL f k
  have q := sq_nn (sm L (f + k) - sm L f)
  have m := mul_rg (a := (k : Int)) (A := 12) (b := sm (sq L) (f + k) - sm (sq L) f) (B := 12001200030000) (by omega) (by omega) s1.1 (by omega)
  unfold spN
  rw [show ((f + k : Nat) : Int) - (f : Int) = (k : Int) by omega]
  omega
theorem sp_rg {L : Nat → Int} (hL : lOK L) (f t : Nat) (h2 : t ≤ 12) : 0 ≤ sp L f t ∧ sp L f t ≤ 144014400360000000 := by
  unfold sp
  by_cases q : t ≤ f
  · rw [if_pos q]; omega
  · rw [if_neg q]
    have r := spN_rg hL (show f ≤ t by omega) h2
    exact ⟨Int.ediv_nonneg (by omega) (by omega), Int.le_trans (Int.ediv_le_self _ (by omega)) (by omega)⟩
theorem sp_0 (L : Nat → Int) (f : Nat) : sp L f f = 0 := if_pos (Nat.le_refl _)
/-! k steps from s on -/
def fd {σ : Type} (F : Nat → σ → σ) (s : Nat) : Nat → σ → σ
  | 0, p => p
  | k + 1, p => F (s + k) (fd F s k p)
theorem fd_s {σ : Type} (F : Nat → σ → σ) (s k : Nat) (p : σ) : fd F s (k + 1) p = F (s + k) (fd F s k p) := rfl
theorem fd_inv {σ : Type} {F : Nat → σ → σ} {s k : Nat} {p : σ} (I : σ → Prop) (h0 : I p) (hs : ∀ i q, s ≤ i → i < s + k → I q → I (F i q)) : I (fd F s k p) := by
  induction k with
  | zero => exact h0
  | succ k ih => exact hs (s + k) _ (by omega) (by omega) (ih (fun i q h1 h2 => hs i q h1 (by omega)))
theorem fd_cut {σ : Type} {F : Nat → σ → σ} {s k k' : Nat} {p : σ} (h : k ≤ k') (hid : ∀ i q, s + k ≤ i → i < s + k' → F i q = q) : fd F s k' p = fd F s k p := by
  induction k' with
  | zero => rw [show k = 0 by omega]
  | succ n ih =>
    by_cases e : k = n + 1
    · rw [e]
    · rw [fd_s, ih (by omega) (fun i q h1 h2 => hid i q h1 (by omega)), hid (s + n) _ (by omega) (by omega)]
theorem fd_map {σ τ : Type} {F : Nat → σ → σ} {G : Nat → τ → τ} (φ : σ → τ) {s k : Nat} {p : σ} (h : ∀ i q, s ≤ i → i < s + k → φ (F i q) = G i (φ q)) : φ (fd F s k p) = fd G s k (φ p) := by
  induction k with
  | zero => rfl
  | succ k ih => rw [fd_s, fd_s, h (s + k) _ (by omega) (by omega), ih (fun i q h1 h2 => h i q h1 (by omega))]
/-- the best so far: its spreads (below 0: none yet), its cuts -/
abbrev PZ : Type := Int × (Nat → Nat)
def upz (p : PZ) (v : Int) (c : Nat → Nat) : PZ := if p.1 < 0 ∨ v < p.1 then (v, c) else p
def Rq (L : Nat → Int) (m : Nat) : Nat → Nat → (Nat → Nat) → Int → PZ → PZ
  | 0, j, C, so, p => upz p (so + sp L (C j) m) (fun i => if i ≤ j then C i else m)
  | d + 1, j, C, so, p => fd (fun t q => Rq L m d (j + 1) (fun i => if i = j + 1 then t else C i) (so + sp L (C j) t) q) (C j + 1) (m - 1 - C j) p
theorem Rq_s (L : Nat → Int) (m d j : Nat) (C : Nat → Nat) (so : Int) (p : PZ) : Rq L m (d + 1) j C so p = fd (fun t q => Rq L m d (j + 1) (fun i => if i = j + 1 then t else C i) (so + sp L (C j) t) q) (C j + 1) (m - 1 - C j) p := rfl
theorem Rq_0 (L : Nat → Int) (m j : Nat) (C : Nat → Nat) (so : Int) (p : PZ) : Rq L m 0 j C so p = upz p (so + sp L (C j) m) (fun i => if i ≤ j then C i else m) := rfl
theorem Rq_id {L : Nat → Int} {m : Nat} (d : Nat) : ∀ (j : Nat) (C : Nat → Nat) (so : Int) (p : PZ), m ≤ C j + d → 1 ≤ d → Rq L m d j C so p = p := by
  induction d with
  | zero => intro j C so p h1 h2; omega
  | succ d ih =>
    intro j C so p h1 _
    rw [Rq_s]
    by_cases q : d = 0
    · rw [show m - 1 - C j = 0 by omega]; rfl
    · rw [fd_cut (k := 0) (Nat.zero_le _) (fun i q' h3 h4 => ih (j + 1) _ _ q' (by rw [if_pos rfl]; omega) (by omega))]; rfl
/-- the reference's loop ends sooner -/
theorem Rq_r (L : Nat → Int) (m d j : Nat) (C : Nat → Nat) (so : Int) (p : PZ) : Rq L m (d + 1) j C so p = fd (fun t q => Rq L m d (j + 1) (fun i => if i = j + 1 then t else C i) (so + sp L (C j) t) q) (C j + 1) (m - (d + 1) - C j) p := by
  rw [Rq_s]
  by_cases q : d = 0
  · rw [q]
  · exact fd_cut (by omega) (fun i q' h3 h4 => Rq_id d (j + 1) _ _ q' (by rw [if_pos rfl]; omega) (by omega))
theorem upd_nn {p : PZ} {v : Int} {c : Nat → Nat} (hv : 0 ≤ v) : 0 ≤ (upz p v c).1 := by
  unfold upz
  by_cases q : p.1 < 0 ∨ v < p.1
  · rw [if_pos q]; exact hv
  · rw [if_neg q]; omega
theorem Rq_nn {L : Nat → Int} (hL : lOK L) {m : Nat} (hm : m ≤ 12) (d : Nat) : ∀ (j : Nat) (C : Nat → Nat) (so : Int) (p : PZ), 0 ≤ so → 0 ≤ p.1 → 0 ≤ (Rq L m d j C so p).1 := by
  induction d with
  | zero => intro j C so p h1 h2; rw [Rq_0]; have := (sp_rg hL (C j) m hm).1; exact upd_nn (by omega)
  | succ d ih =>
    intro j C so p h1 h2
    rw [Rq_s]
    exact fd_inv (fun q : PZ => 0 ≤ q.1) h2 (fun i q h3 h4 h5 => ih _ _ _ q (by have := (sp_rg hL (C j) i (by omega)).1; omega) h5)
theorem Rq_ne {L : Nat → Int} (hL : lOK L) {m : Nat} (hm : m ≤ 12) (d : Nat) : ∀ (j : Nat) (C : Nat → Nat) (so : Int) (p : PZ), 0 ≤ so → C j + d < m → 0 ≤ (Rq L m d j C so p).1 := by
  induction d with
  | zero => intro j C so p h1 h2; rw [Rq_0]; have := (sp_rg hL (C j) m hm).1; exact upd_nn (by omega)
  | succ d ih =>
    intro j C so p h1 h2
    rw [Rq_s, show m - 1 - C j = (m - 2 - C j) + 1 by omega]
    have : ∀ k p, 0 ≤ (fd (fun t q => Rq L m d (j + 1) (fun i => if i = j + 1 then t else C i) (so + sp L (C j) t) q) (C j + 1) (k + 1) p).1 ∨ m ≤ C j + 1 + k := by
      intro k
      induction k with
      | zero =>
        intro p
        left
        exact ih (j + 1) _ _ p (by have := (sp_rg hL (C j) (C j + 1) (by omega)).1; rw [Nat.add_zero]; omega) (by rw [if_pos rfl]; show C j + 1 + d < m; omega)
      | succ k ik =>
        intro p
        rcases ik p with z | z
        · by_cases q : m ≤ C j + 1 + (k + 1)
          · right; exact q
          · left
            rw [fd_s]
            exact Rq_nn hL hm d _ _ _ _ (by have := (sp_rg hL (C j) (C j + 1 + (k + 1)) (by omega)).1; omega) z
        · right; omega
    rcases this (m - 2 - C j) p with z | z
    · exact z
    · omega
/-- the cuts that are kept rise -/
def Rc (m g : Nat) (p : PZ) : Prop := 0 ≤ p.1 → (∀ i, p.2 i ≤ p.2 (i + 1)) ∧ (∀ i, p.2 i ≤ m) ∧ ∀ i, g ≤ i → p.2 i = m
theorem Rq_c {L : Nat → Int} {m g : Nat} (d : Nat) : ∀ (j : Nat) (C : Nat → Nat) (so : Int) (p : PZ), j + d + 1 = g → C j ≤ m → (∀ i, i < j → C i ≤ C (i + 1)) → Rc m g p → Rc m g (Rq L m d j C so p) := by
  induction d with
  | zero =>
    intro j C so p hg hC hi hp
    rw [Rq_0]
    unfold upz
    by_cases q : p.1 < 0 ∨ so + sp L (C j) m < p.1
    · rw [if_pos q]
      intro _
      have le : ∀ i, i ≤ j → C i ≤ m := by
        have : ∀ k i, i + k = j → C i ≤ m := by
          intro k
          induction k with
          | zero => intro i e; rw [show i = j by omega]; exact hC
          | succ k ik => intro i e; exact Nat.le_trans (hi i (by omega)) (ik (i + 1) (by omega))
        intro i h; exact this (j - i) i (by omega)
      refine ⟨fun i => ?_, fun i => ?_, fun i h => ?_⟩
      · dsimp only
        by_cases a1 : i + 1 ≤ j
        · rw [if_pos (by omega), if_pos a1]; exact hi i (by omega)
        · rw [if_neg a1]
          by_cases a2 : i ≤ j
          · rw [if_pos a2]; exact le i a2
          · rw [if_neg a2]; exact Nat.le_refl _
      · dsimp only
        by_cases a2 : i ≤ j
        · rw [if_pos a2]; exact le i a2
        · rw [if_neg a2]; exact Nat.le_refl _
      · dsimp only
        rw [if_neg (by omega)]
    · rw [if_neg q]; exact hp
  | succ d ih =>
    intro j C so p hg hC hi hp
    rw [Rq_s]
    refine fd_inv (Rc m g) hp (fun i q h1 h2 h3 => ih (j + 1) _ _ q (by omega) (by rw [if_pos rfl]; omega) (fun k hk => ?_) h3)
    by_cases e : k = j
    · rw [e, if_neg (by omega), if_pos rfl]; omega
    · rw [if_neg (by omega), if_neg (by omega)]; exact hi k (by omega)
/-! the class's three loops -/
abbrev TZ : Type := Int × Nat × Nat × Nat
def tu (p : TZ) (v : Int) (a b c : Nat) : TZ := if p.1 < 0 ∨ v < p.1 then (v, a, b, c) else p
def ts (g θ m x : Nat) : Nat := if g ≤ θ then m else x + 1
def tc (g θ m x : Nat) : Nat := if g ≤ θ then 1 else m - 1 - x
def T3 (L : Nat → Int) (g m a b : Nat) (p : TZ) : TZ := fd (fun c q => tu q (sp L 0 a + sp L a b + sp L b c + sp L c m) a b c) (ts g 3 m b) (tc g 3 m b) p
def T2 (L : Nat → Int) (g m a : Nat) (p : TZ) : TZ := fd (fun b q => T3 L g m a b q) (ts g 2 m a) (tc g 2 m a) p
def T1 (L : Nat → Int) (g m : Nat) (p : TZ) : TZ := fd (fun a q => T2 L g m a q) (ts g 1 m 0) (tc g 1 m 0) p
def ph (p : PZ) : TZ := (p.1, p.2 1, p.2 2, p.2 3)
theorem ph_u (p : PZ) (v : Int) (c : Nat → Nat) : ph (upz p v c) = tu (ph p) v (c 1) (c 2) (c 3) := by
  unfold upz tu
  by_cases q : p.1 < 0 ∨ v < p.1
  · rw [if_pos q, if_pos (show (ph p).1 < 0 ∨ v < (ph p).1 from q)]; rfl
  · rw [if_neg q, if_neg (show ¬ ((ph p).1 < 0 ∨ v < (ph p).1) from q)]
def C0 : Nat → Nat := fun _ => 0
theorem fd_1 {σ : Type} (F : Nat → σ → σ) (s : Nat) (p : σ) : fd F s 1 p = F s p := rfl
theorem T_R (L : Nat → Int) (m g : Nat) (h1 : 1 ≤ g) (h4 : g ≤ 4) (p : PZ) : ph (Rq L m (g - 1) 0 C0 0 p) = T1 L g m (ph p) := by
  rcases (show g = 1 ∨ g = 2 ∨ g = 3 ∨ g = 4 by omega) with rfl | rfl | rfl | rfl
  · show ph (Rq L m 0 0 C0 0 p) = _
    rw [Rq_0, ph_u]
    show tu (ph p) (0 + sp L 0 m) m m m = tu (ph p) (sp L 0 m + sp L m m + sp L m m + sp L m m) m m m
    rw [sp_0]
    congr 1
    omega
  · show ph (Rq L m 1 0 C0 0 p) = _
    rw [Rq_s]
    refine fd_map ph (fun a q _ _ => ?_)
    rw [Rq_0, ph_u]
    show tu (ph q) (0 + sp L 0 a + sp L a m) a m m = tu (ph q) (sp L 0 a + sp L a m + sp L m m + sp L m m) a m m
    rw [sp_0]
    congr 1
    omega
  · show ph (Rq L m 2 0 C0 0 p) = _
    rw [Rq_s]
    refine fd_map ph (fun a q _ _ => ?_)
    rw [Rq_s]
    refine fd_map ph (fun b q _ _ => ?_)
    rw [Rq_0, ph_u]
    show tu (ph q) (0 + sp L 0 a + sp L a b + sp L b m) a b m = tu (ph q) (sp L 0 a + sp L a b + sp L b m + sp L m m) a b m
    rw [sp_0]
    congr 1
    omega
  · show ph (Rq L m 3 0 C0 0 p) = _
    rw [Rq_s]
    refine fd_map ph (fun a q _ _ => ?_)
    rw [Rq_s]
    refine fd_map ph (fun b q _ _ => ?_)
    rw [Rq_s]
    refine fd_map ph (fun c q _ _ => ?_)
    rw [Rq_0, ph_u]
    show tu (ph q) (0 + sp L 0 a + sp L a b + sp L b c + sp L c m) a b c = tu (ph q) (sp L 0 a + sp L a b + sp L b c + sp L c m) a b c
    congr 1
    omega
/-! lights by their size -/
def ps (L : Nat → Int) (v : Int) : Nat → Nat
  | 0 => 0
  | m + 1 => if L m ≤ v then m + 1 else ps L v m
theorem ps_le (L : Nat → Int) (v : Int) (m : Nat) : ps L v m ≤ m := by
  induction m with
  | zero => exact Nat.le_refl _
  | succ m ih =>
    show (if L m ≤ v then m + 1 else ps L v m) ≤ m + 1
    split <;> omega
theorem ps_gt (L : Nat → Int) (v : Int) (m j : Nat) (h1 : ps L v m ≤ j) (h2 : j < m) : ¬ L j ≤ v := by
  induction m with
  | zero => omega
  | succ m ih =>
    have h1 : (if L m ≤ v then m + 1 else ps L v m) ≤ j := h1
    by_cases q : L m ≤ v
    · rw [if_pos q] at h1; omega
    · rw [if_neg q] at h1
      by_cases e : j = m
      · rw [e]; exact q
      · exact ih h1 (by omega)
theorem ps_at (L : Nat → Int) (v : Int) (m : Nat) : ps L v m = 0 ∨ L (ps L v m - 1) ≤ v := by
  induction m with
  | zero => exact Or.inl rfl
  | succ m ih =>
    by_cases q : L m ≤ v
    · right
      rw [show ps L v (m + 1) = m + 1 from if_pos q]
      exact q
    · rw [show ps L v (m + 1) = ps L v m from if_neg q]
      exact ih
abbrev LZ : Type := Nat × (Nat → Int) × (Nat → Int)
def lS (A : Nat → Int) (H : Nat → Int) : Nat → LZ
  | 0 => (0, fun _ => 0, fun _ => 0)
  | k + 1 => if H k = 0 then lS A H k else ((lS A H k).1 + 1, ins (lS A H k).2.1 (k : Int) (ps (lS A H k).2.2 (A k) (lS A H k).1), ins (lS A H k).2.2 (A k) (ps (lS A H k).2.2 (A k) (lS A H k).1))
theorem lS_1 {A H : Nat → Int} {k : Nat} (q : H k ≠ 0) : lS A H (k + 1) = ((lS A H k).1 + 1, ins (lS A H k).2.1 (k : Int) (ps (lS A H k).2.2 (A k) (lS A H k).1), ins (lS A H k).2.2 (A k) (ps (lS A H k).2.2 (A k) (lS A H k).1)) := if_neg q
theorem lS_0 {A H : Nat → Int} {k : Nat} (q : H k = 0) : lS A H (k + 1) = lS A H k := if_pos q
theorem lS_le (A H : Nat → Int) (k : Nat) : (lS A H k).1 ≤ k := by
  induction k with
  | zero => exact Nat.le_refl _
  | succ k ih =>
    by_cases q : H k = 0
    · rw [lS_0 q]; omega
    · rw [lS_1 q]; dsimp only; omega
theorem ins_all {A : Nat → Int} {x : Int} {p : Nat} (P : Int → Prop) (hA : ∀ i, P (A i)) (hx : P x) (i : Nat) : P (ins A x p i) := by
  unfold ins
  split
  · exact hA i
  · split
    · exact hx
    · exact hA _
theorem lS_ok {A H : Nat → Int} (hA : ∀ k, 0 ≤ A k ∧ A k ≤ 1000050) (k : Nat) : lOK (lS A H k).2.2 ∧ ∀ i, 0 ≤ (lS A H k).2.1 i ∧ (lS A H k).2.1 i ≤ k := by
  induction k with
  | zero => exact ⟨fun i => by show 0 ≤ (0 : Int) ∧ (0 : Int) ≤ 1000050; omega, fun i => by show 0 ≤ (0 : Int) ∧ (0 : Int) ≤ ((0 : Nat) : Int); omega⟩
  | succ k ih =>
    by_cases q : H k = 0
    · rw [lS_0 q]; exact ⟨ih.1, fun i => by have := ih.2 i; omega⟩
    · rw [lS_1 q]
      exact ⟨fun i => ins_all (fun z => 0 ≤ z ∧ z ≤ 1000050) ih.1 (hA k) i, fun i => ins_all (fun z => 0 ≤ z ∧ z ≤ ((k + 1 : Nat) : Int)) (fun i => by have := ih.2 i; omega) (by omega) i⟩
theorem lS_ex {A H : Nat → Int} (k j : Nat) (hj : j < k) (hH : H j ≠ 0) : ∃ i, i < (lS A H k).1 ∧ (lS A H k).2.1 i = (j : Int) := by
  induction k with
  | zero => omega
  | succ k ih =>
    by_cases q : H k = 0
    · rw [lS_0 q]
      exact ih (by rcases Nat.lt_or_ge j k with z | z; exact z; exact absurd (by rw [show j = k by omega]; exact q) hH)
    · rw [lS_1 q]
      have pl := ps_le (lS A H k).2.2 (A k) (lS A H k).1
      by_cases e : j = k
      · exact ⟨ps (lS A H k).2.2 (A k) (lS A H k).1, by dsimp only; omega, by dsimp only; unfold ins; rw [if_neg (by omega), if_pos rfl, e]⟩
      · obtain ⟨i, h1, h2⟩ := ih (by omega)
        by_cases c : i < ps (lS A H k).2.2 (A k) (lS A H k).1
        · exact ⟨i, by dsimp only; omega, by dsimp only; unfold ins; rw [if_pos c]; exact h2⟩
        · exact ⟨i + 1, by dsimp only; omega, by dsimp only; unfold ins; rw [if_neg (by omega), if_neg (by omega)]; exact h2⟩
