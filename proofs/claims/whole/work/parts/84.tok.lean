/-! tokens -/
def bl (c : Nat) : Bool := decide (c = 32) || decide (c = 10)
def srt (c : Nat) : Nat := if 97 ≤ c ∧ c ≤ 122 then 1 else if 48 ≤ c ∧ c ≤ 57 then 2 else if c = 59 then 3 else 4
def fx (p : Nat → Bool) (n : Nat) : Nat → Nat → Nat
  | 0, q => q
  | f + 1, q => if q < n ∧ p q = true then fx p n f (q + 1) else q
def fsx (p : Nat → Bool) (n q : Nat) : Nat := fx p n (n - q) q
theorem fx_spec (p : Nat → Bool) (n : Nat) : ∀ f q, n - q ≤ f → q ≤ fx p n f q ∧ (fx p n f q ≤ n ∨ fx p n f q = q) ∧ (∀ i, q ≤ i → i < fx p n f q → i < n ∧ p i = true) ∧ ¬ (fx p n f q < n ∧ p (fx p n f q) = true) := by
  intro f
  induction f with
  | zero =>
    intro q hq
    show q ≤ q ∧ (q ≤ n ∨ q = q) ∧ (∀ i, q ≤ i → i < q → i < n ∧ p i = true) ∧ ¬ (q < n ∧ p q = true)
    exact ⟨Nat.le_refl _, Or.inr rfl, fun i h1 h2 => by omega, fun z => by omega⟩
  | succ f ih =>
    intro q hq
    by_cases c : q < n ∧ p q = true
    · have e : fx p n (f + 1) q = fx p n f (q + 1) := if_pos c
      rw [e]
      obtain ⟨a1, a2, a3, a4⟩ := ih (q + 1) (by omega)
      refine ⟨by omega, Or.inl (by rcases a2 with z | z <;> omega), fun i h1 h2 => ?_, a4⟩
      by_cases z : i = q
      · rw [z]; exact c
      · exact a3 i (by omega) h2
    · have e : fx p n (f + 1) q = q := if_neg c
      rw [e]
      exact ⟨Nat.le_refl _, Or.inr rfl, fun i h1 h2 => by omega, c⟩
theorem fsx_spec (p : Nat → Bool) {n q : Nat} (hq : q ≤ n) : q ≤ fsx p n q ∧ fsx p n q ≤ n ∧ (∀ i, q ≤ i → i < fsx p n q → i < n ∧ p i = true) ∧ ¬ (fsx p n q < n ∧ p (fsx p n q) = true) := by
  obtain ⟨a1, a2, a3, a4⟩ := fx_spec p n (n - q) q (Nat.le_refl _)
  exact ⟨a1, by show fx p n (n - q) q ≤ n; rcases a2 with z | z <;> omega, a3, a4⟩
def tst (t : Nat → Nat) (n q : Nat) : Nat := fsx (fun i => bl (t i)) n q
def tso (t : Nat → Nat) (n q : Nat) : Nat := if tst t n q < n then srt (t (tst t n q)) else 0
def ten (t : Nat → Nat) (n q : Nat) : Nat := if tst t n q < n then (if srt (t (tst t n q)) = 1 ∨ srt (t (tst t n q)) = 2 then fsx (fun i => decide (srt (t i) = srt (t (tst t n q)))) n (tst t n q + 1) else tst t n q + 1) else tst t n q
theorem srt_rg (c : Nat) : 1 ≤ srt c ∧ srt c ≤ 4 := by
  unfold srt
  split
  · omega
  · split
    · omega
    · split <;> omega
theorem srt_2 {c : Nat} (h : srt c = 2) : 48 ≤ c ∧ c ≤ 57 := by
  unfold srt at h
  split at h
  · omega
  · split at h
    · omega
    · split at h <;> omega
section TOK
variable {t : Nat → Nat} {n q : Nat}
theorem tok_rg (hq : q ≤ n) : q ≤ tst t n q ∧ tst t n q ≤ n ∧ tst t n q ≤ ten t n q ∧ ten t n q ≤ n ∧ (tso t n q ≠ 0 → tst t n q < n ∧ tst t n q < ten t n q) ∧ (tso t n q = 0 → tst t n q = n) ∧ tso t n q ≤ 4 := by
  obtain ⟨a1, a2, -, -⟩ := fsx_spec (fun i => bl (t i)) hq
  have a1 : q ≤ tst t n q := a1
  have a2 : tst t n q ≤ n := a2
  have r := srt_rg (t (tst t n q))
  unfold tso ten
  by_cases c : tst t n q < n
  · rw [if_pos c, if_pos c]
    by_cases d : srt (t (tst t n q)) = 1 ∨ srt (t (tst t n q)) = 2
    · rw [if_pos d]
      obtain ⟨b1, b2, -, -⟩ := fsx_spec (fun i => decide (srt (t i) = srt (t (tst t n q)))) (show tst t n q + 1 ≤ n by omega)
      omega
    · rw [if_neg d]; omega
  · rw [if_neg c, if_neg c]; omega
theorem tok_dig (hq : q ≤ n) (h2 : tso t n q = 2) : ∀ j, tst t n q ≤ j → j < ten t n q → 48 ≤ t j ∧ t j ≤ 57 := by
  have rg := (tok_rg (t := t) hq).2.2.2.2.1 (by omega)
  have es : srt (t (tst t n q)) = 2 := by unfold tso at h2; rw [if_pos rg.1] at h2; exact h2
  have ee : ten t n q = fsx (fun i => decide (srt (t i) = srt (t (tst t n q)))) n (tst t n q + 1) := by unfold ten; rw [if_pos rg.1, if_pos (Or.inr es)]
  obtain ⟨b1, b2, b3, -⟩ := fsx_spec (fun i => decide (srt (t i) = srt (t (tst t n q)))) (show tst t n q + 1 ≤ n by omega)
  intro j h1 h3
  by_cases z : j = tst t n q
  · rw [z]; exact srt_2 es
  · rw [ee] at h3
    have := (b3 j (by omega) h3).2
    rw [decide_eq_true_eq, es] at this
    exact srt_2 this
/-- the first k digits from s on -/
def nvk (t : Nat → Nat) (s : Nat) : Nat → Int
  | 0 => 0
  | k + 1 => 10 * nvk t s k + (t (s + k) : Int) - 48
def cvk (t : Nat → Nat) (s : Nat) : Nat → Int
  | 0 => 0
  | k + 1 => min 100000 (10 * cvk t s k + (t (s + k) : Int) - 48)
def tvl (t : Nat → Nat) (n q : Nat) : Int := if 4 < ten t n q - tst t n q then 2147483647 else nvk t (tst t n q) (ten t n q - tst t n q)
theorem nvk_rg {s m : Nat} (hd : ∀ j, s ≤ j → j < s + m → 48 ≤ t j ∧ t j ≤ 57) : ∀ k, k ≤ m → k ≤ 4 → 0 ≤ nvk t s k ∧ nvk t s k ≤ (10 : Int) ^ k - 1 := by
  intro k
  induction k with
  | zero => intro _ _; show 0 ≤ (0 : Int) ∧ (0 : Int) ≤ 10 ^ 0 - 1; omega
  | succ k ih =>
    intro h1 h2
    have i := ih (by omega) (by omega)
    have d := hd (s + k) (by omega) (by omega)
    show 0 ≤ 10 * nvk t s k + (t (s + k) : Int) - 48 ∧ 10 * nvk t s k + (t (s + k) : Int) - 48 ≤ 10 ^ (k + 1) - 1
    rw [Int.pow_succ]
    omega
theorem nvk_4 {s m : Nat} (hd : ∀ j, s ≤ j → j < s + m → 48 ≤ t j ∧ t j ≤ 57) (hm : m ≤ 4) : 0 ≤ nvk t s m ∧ nvk t s m ≤ 9999 := by
  have r := nvk_rg hd m (Nat.le_refl _) hm
  rcases (show m = 0 ∨ m = 1 ∨ m = 2 ∨ m = 3 ∨ m = 4 by omega) with rfl | rfl | rfl | rfl | rfl <;> simp at r <;> omega
theorem cvk_eq {s m : Nat} (hd : ∀ j, s ≤ j → j < s + m → 48 ≤ t j ∧ t j ≤ 57) : ∀ k, k ≤ m → k ≤ 4 → cvk t s k = nvk t s k := by
  intro k
  induction k with
  | zero => intro _ _; rfl
  | succ k ih =>
    intro h1 h2
    have r := nvk_4 (t := t) (s := s) (m := k + 1) (fun j a1 a2 => hd j a1 (by omega)) h2
    have r : 0 ≤ 10 * nvk t s k + (t (s + k) : Int) - 48 ∧ 10 * nvk t s k + (t (s + k) : Int) - 48 ≤ 9999 := r
    show min 100000 (10 * cvk t s k + (t (s + k) : Int) - 48) = 10 * nvk t s k + (t (s + k) : Int) - 48
    rw [ih (by omega) (by omega)]
    omega
theorem cvk_rg {s m : Nat} (hd : ∀ j, s ≤ j → j < s + m → 48 ≤ t j ∧ t j ≤ 57) : ∀ k, k ≤ m → 0 ≤ cvk t s k ∧ cvk t s k ≤ 100000 := by
  intro k
  induction k with
  | zero => intro _; show 0 ≤ (0 : Int) ∧ (0 : Int) ≤ 100000; omega
  | succ k ih =>
    intro h1
    have i := ih (by omega)
    have d := hd (s + k) (by omega) (by omega)
    show 0 ≤ min 100000 (10 * cvk t s k + (t (s + k) : Int) - 48) ∧ min 100000 (10 * cvk t s k + (t (s + k) : Int) - 48) ≤ 100000
    omega
/-- a word -/
def wl (i : Nat) : Nat := strLen.getD i 0
def wd (t : Nat → Nat) (n i q : Nat) : Prop := tso t n q = 1 ∧ wl i = ten t n q - tst t n q ∧ ∀ k, k < wl i → w32 (t (tst t n q + k) : Nat) = schr i (w32 (k : Nat))
/-- a number from lo to hi, or what is wrong and where -/
def pn (t : Nat → Nat) (n lo hi q : Nat) : (Nat × Nat) ⊕ Nat := if tso t n q ≠ 2 then .inl (1, tst t n q) else if (lo : Int) ≤ tvl t n q ∧ tvl t n q ≤ hi then .inr (tvl t n q).toNat else .inl (2, tst t n q)
end TOK
/-! the class's tokens -/
section SCR
variable {h : AH} {t : Nat → Nat} {n q : Nat}
def TX (h : AH) (t : Nat → Nat) (n : Nat) : Prop := hfi h 1 6 = w32 (n : Nat) ∧ n ≤ 500 ∧ ∀ j, j < n → hia h 2 j = w32 (t j : Nat) ∧ t j < 256
def FS (h h1 : AH) : Prop := Fr (fun c => c = 1) h h1 ∧ ∀ k, (k = 0 ∨ k = 1 ∨ k = 2 ∨ k = 4 ∨ k = 6) → hfi h1 1 k = hfi h 1 k
def FT (h h1 : AH) : Prop := Fr (fun c => c = 1) h h1 ∧ ∀ k, (k = 0 ∨ k = 6) → hfi h1 1 k = hfi h 1 k
theorem FS.rf : FS h h := ⟨Fr.rf, fun _ _ => rfl⟩
theorem FS.tr {h1 h2 : AH} (x : FS h h1) (y : FS h1 h2) : FS h h2 := ⟨x.1.tr y.1, fun k hk => (y.2 k hk).trans (x.2 k hk)⟩
theorem FT.rf : FT h h := ⟨Fr.rf, fun _ _ => rfl⟩
theorem FT.tr {h1 h2 : AH} (x : FT h h1) (y : FT h1 h2) : FT h h2 := ⟨x.1.tr y.1, fun k hk => (y.2 k hk).trans (x.2 k hk)⟩
theorem FS.ft {h1 : AH} (x : FS h h1) : FT h h1 := ⟨x.1, fun k hk => x.2 k (by omega)⟩
theorem FS.w (h : AH) (k : Nat) (v : Int32) (hk : k = 3 ∨ k = 7 ∨ k = 8) : FS h (sfi h 1 k v) := ⟨Fr.sfi _ _ _ _ rfl, fun j hj => fi_sfi_nk _ _ _ _ _ (by omega)⟩
theorem FT.w (h : AH) (k : Nat) (v : Int32) (hk : k ≠ 0 ∧ k ≠ 6) : FT h (sfi h 1 k v) := ⟨Fr.sfi _ _ _ _ rfl, fun j hj => fi_sfi_nk _ _ _ _ _ (by omega)⟩
theorem TX.fr {h1 : AH} (x : TX h t n) (y : FT h h1) : TX h1 t n := ⟨(y.2 6 (by omega)).trans x.1, x.2.1, fun j hj => by rw [(y.1 2 (by omega)).2.2.1]; exact x.2.2 j hj⟩
theorem e_sort {c : Nat} (hc : c < 256) : f_X7_sortOf (w32 (c : Nat)) = w32 (srt c : Nat) := by
  have h : ∀ c : Fin 256, f_X7_sortOf (w32 (c.val : Nat)) = w32 (srt c.val : Nat) := by decide +kernel
  exact h ⟨c, hc⟩
theorem k_step (hT : TX h t n) (hq : q ≤ n) (e7 : hfi h 1 7 = w32 (q : Nat)) : ∃ h1, f_X7_step 1 h = some h1 ∧ FS h h1 ∧ hfi h1 1 3 = w32 (tst t n q : Nat) ∧ hfi h1 1 7 = w32 (ten t n q : Nat) ∧ hfi h1 1 8 = w32 (tso t n q : Nat) := by
  obtain ⟨e6, hn, hb⟩ := hT
  obtain ⟨a1, a2, a3, a4⟩ := fsx_spec (fun i => bl (t i)) hq
  have a1 : q ≤ tst t n q := a1
  have a2 : tst t n q ≤ n := a2
  have a3 : ∀ i, q ≤ i → i < tst t n q → i < n ∧ bl (t i) = true := a3
  have a4 : ¬ (tst t n q < n ∧ bl (t (tst t n q)) = true) := a4
  have l5 : f_X7_step_l5 1 h FU (w32 (q : Nat)) = some (w32 (tst t n q : Nat)) := loopF (fun k (s : Int32) => f_X7_step_l5 1 h k s) (fun i => w32 (i : Nat)) q (tst t n q) a1 _ (fun i k h1 h2 => by
      obtain ⟨b1, b2⟩ := a3 i h1 h2
      obtain ⟨c1, c2⟩ := hb i b1
      show f_X7_step_l5 1 h (k + 1) (w32 i) = f_X7_step_l5 1 h k (w32 (i + 1 : Nat))
      rw [f_X7_step_l5, e6, if_neg (by rw [w_le _ _ (by omega) (by omega) (by omega) (by omega)]; omega), gd_t (by rw [w_ibN _ _ (by omega)]; omega), w_clN _ (by omega), show hia h (1 + 1) i = _ from c1, wl_1, w_add, w_s]
      unfold bl at b2
      by_cases z : t i = 32
      · rw [if_pos (by rw [z]; rfl)]
      · rw [if_neg (by rw [wl_32]; exact ne_w (by omega) (by omega) (by omega) (by omega) (by omega)), gd_t (by rw [w_ibN _ _ (by omega)]; omega), if_pos (by simp [z] at b2; rw [b2]; rfl)]) (fun k => by
      show f_X7_step_l5 1 h (k + 1) (w32 (tst t n q : Nat)) = _
      rw [f_X7_step_l5, e6]
      by_cases z : n ≤ tst t n q
      · rw [if_pos (by rw [w_le _ _ (by omega) (by omega) (by omega) (by omega)]; omega)]
      · obtain ⟨c1, c2⟩ := hb (tst t n q) (by omega)
        have nb : t (tst t n q) ≠ 32 ∧ t (tst t n q) ≠ 10 := ⟨fun z2 => a4 ⟨by omega, by unfold bl; simp [z2]⟩, fun z2 => a4 ⟨by omega, by unfold bl; simp [z2]⟩⟩
        rw [if_neg (by rw [w_le _ _ (by omega) (by omega) (by omega) (by omega)]; omega), gd_t (by rw [w_ibN _ _ (by omega)]; omega), w_clN _ (by omega), show hia h (1 + 1) (tst t n q) = _ from c1, if_neg (by rw [wl_32]; exact ne_w (by omega) (by omega) (by omega) (by omega) (by omega)), gd_t (by rw [w_ibN _ _ (by omega)]; omega), if_neg (by rw [wl_10]; exact ne_w (by omega) (by omega) (by omega) (by omega) (by omega))]) FU (by unfold FU; omega)
  unfold f_X7_step
  rw [e7, l5, bnd_s, lt_b, lt_b]
  have f0 : FS h (sfi (sfi h 1 3 (w32 (tst t n q : Nat))) 1 8 0) := (FS.w h 3 _ (by omega)).tr (FS.w _ 8 _ (by omega))
  have e6' : hfi (sfi (sfi h 1 3 (w32 (tst t n q : Nat))) 1 8 0) 1 6 = w32 (n : Nat) := (f0.2 6 (by omega)).trans e6
  rw [e6']
  by_cases z : n ≤ tst t n q
  · have s0 : tso t n q = 0 := by unfold tso; rw [if_neg (by omega)]
    have n0 : ten t n q = tst t n q := by unfold ten; rw [if_neg (by omega)]
    rw [if_pos (by rw [w_le _ _ (by omega) (by omega) (by omega) (by omega)]; omega), lt_b]
    refine ⟨_, rfl, f0.tr (FS.w _ 7 _ (by omega)), ?_, ?_, ?_⟩
    · rw [fi_sfi_nk _ _ _ _ _ (by omega), fi_sfi_nk _ _ _ _ _ (by omega), fi_sfi_eq]
    · rw [fi_sfi_eq, n0]
    · rw [fi_sfi_nk _ _ _ _ _ (by omega), fi_sfi_eq, s0]; rfl
  · obtain ⟨c1, c2⟩ := hb (tst t n q) (by omega)
    have s0 : tso t n q = srt (t (tst t n q)) := by unfold tso; rw [if_pos (by omega)]
    have sr := srt_rg (t (tst t n q))
    rw [if_neg (by rw [w_le _ _ (by omega) (by omega) (by omega) (by omega)]; omega), gd_t (by rw [w_ibN _ _ (by omega)]; omega), lt_b, w_clN _ (by omega), show hia (sfi (sfi h 1 3 (w32 (tst t n q : Nat))) 1 8 0) (1 + 1) (tst t n q) = _ from c1, e_sort c2]
    generalize hk0 : sfi (sfi (sfi h 1 3 (w32 (tst t n q : Nat))) 1 8 0) 1 8 (w32 (srt (t (tst t n q)) : Nat)) = k0
    have f1 : FS h k0 := by rw [← hk0]; exact f0.tr (FS.w _ 8 _ (by omega))
    have g8 : hfi k0 1 8 = w32 (srt (t (tst t n q)) : Nat) := by rw [← hk0]; exact fi_sfi_eq _ _ _ _
    have g3 : hfi k0 1 3 = w32 (tst t n q : Nat) := by rw [← hk0, fi_sfi_nk _ _ _ _ _ (by omega), fi_sfi_nk _ _ _ _ _ (by omega), fi_sfi_eq]
    have g6 : hfi k0 1 6 = w32 (n : Nat) := (f1.2 6 (by omega)).trans e6
    have gb : ∀ j, j < n → hia k0 (1 + 1) j = w32 (t j : Nat) ∧ t j < 256 := fun j hj => by rw [(f1.1 (1 + 1) (by omega)).2.2.1]; exact hb j hj
    have l75 : f_X7_step_l75 1 k0 FU (w32 (tst t n q : Nat) + 1) = some (w32 (ten t n q : Nat)) := by
      rw [wl_1, w_add, w_s]
      by_cases d : srt (t (tst t n q)) = 1 ∨ srt (t (tst t n q)) = 2
      · have ee : ten t n q = fsx (fun i => decide (srt (t i) = srt (t (tst t n q)))) n (tst t n q + 1) := by unfold ten; rw [if_pos (by omega), if_pos d]
        obtain ⟨b1, b2, b3, b4⟩ := fsx_spec (fun i => decide (srt (t i) = srt (t (tst t n q)))) (show tst t n q + 1 ≤ n by omega)
        rw [← ee] at b1 b2 b3 b4
        have stp : ∀ (k i : Nat), i ≤ n → f_X7_step_l75 1 k0 (k + 1) (w32 (i : Nat)) = if i < n ∧ srt (t i) = srt (t (tst t n q)) then f_X7_step_l75 1 k0 k (w32 (i + 1 : Nat)) else some (w32 (i : Nat)) := by
          intro k i hi
          rw [f_X7_step_l75, g6, g8]
          by_cases y : n ≤ i
          · rw [if_pos (by rw [w_le _ _ (by omega) (by omega) (by omega) (by omega)]; omega), if_neg (by omega)]
          · obtain ⟨d1, d2⟩ := gb i (by omega)
            have si := srt_rg (t i)
            rw [if_neg (by rw [w_le _ _ (by omega) (by omega) (by omega) (by omega)]; omega), gd_t (by rw [w_ibN _ _ (by omega)]; omega), w_clN _ (by omega), d1, e_sort d2, wl_1, w_add, w_s]
            have ie : (w32 (srt (t i) : Nat) = w32 (srt (t (tst t n q)) : Nat)) = (srt (t i) = srt (t (tst t n q))) := by rw [w_eq _ _ (by omega) (by omega) (by omega) (by omega)]; apply propext; omega
            simp only [ie]
            have m : (if i < n ∧ srt (t i) = srt (t (tst t n q)) then f_X7_step_l75 1 k0 k (w32 (i + 1 : Nat)) else some (w32 (i : Nat))) = (if srt (t i) = srt (t (tst t n q)) then f_X7_step_l75 1 k0 k (w32 (i + 1 : Nat)) else some (w32 (i : Nat))) := by
              by_cases u : srt (t i) = srt (t (tst t n q))
              · rw [if_pos ⟨by omega, u⟩, if_pos u]
              · rw [if_neg (fun v => u v.2), if_neg u]
            rw [m]
            rcases d with d | d
            · rw [if_pos (by rw [d]; rfl)]
            · rw [if_neg (by rw [d]; decide), if_pos (by rw [d]; rfl)]
        exact loopF (fun k (s : Int32) => f_X7_step_l75 1 k0 k s) (fun i => w32 (i : Nat)) (tst t n q + 1) (ten t n q) b1 _ (fun i k h1 h2 => by
            obtain ⟨y1, y2⟩ := b3 i h1 h2
            show f_X7_step_l75 1 k0 (k + 1) (w32 i) = f_X7_step_l75 1 k0 k (w32 (i + 1 : Nat))
            rw [stp k i (by omega), if_pos ⟨y1, by rw [decide_eq_true_eq] at y2; exact y2⟩]) (fun k => by
            show f_X7_step_l75 1 k0 (k + 1) (w32 (ten t n q : Nat)) = _
            rw [stp k _ b2, if_neg (fun v => b4 ⟨v.1, by rw [decide_eq_true_eq]; exact v.2⟩)]) FU (by unfold FU; omega)
      · have ee : ten t n q = tst t n q + 1 := by unfold ten; rw [if_pos (by omega), if_neg d]
        rw [ee]
        show f_X7_step_l75 1 k0 (999 + 1) (w32 (tst t n q + 1 : Nat)) = _
        rw [f_X7_step_l75, g6, g8]
        by_cases y : n ≤ tst t n q + 1
        · rw [if_pos (by rw [w_le _ _ (by omega) (by omega) (by omega) (by omega)]; omega)]
        · rw [if_neg (by rw [w_le _ _ (by omega) (by omega) (by omega) (by omega)]; omega), if_neg (by rw [wl_1, w_eq _ _ (by omega) (by omega) (by omega) (by omega)]; omega), if_neg (by rw [wl_2, w_eq _ _ (by omega) (by omega) (by omega) (by omega)]; omega)]
    rw [l75, bnd_s, lt_b]
    refine ⟨_, rfl, f1.tr (FS.w _ 7 _ (by omega)), ?_, ?_, ?_⟩
    · rw [fi_sfi_nk _ _ _ _ _ (by omega)]; exact g3
    · rw [fi_sfi_eq]
    · rw [fi_sfi_nk _ _ _ _ _ (by omega), g8, s0]
/-- no fault yet, the token behind q is there -/
def SC (h : AH) (t : Nat → Nat) (n q : Nat) : Prop := TX h t n ∧ q ≤ n ∧ hfi h 1 1 = 0 ∧ hfi h 1 2 = -1 ∧ hfi h 1 3 = w32 (tst t n q : Nat) ∧ hfi h 1 7 = w32 (ten t n q : Nat) ∧ hfi h 1 8 = w32 (tso t n q : Nat)
/-- a fault -/
def ER (h : AH) (e : Nat × Nat) : Prop := hfi h 1 1 = w32 (e.1 : Nat) ∧ 1 ≤ e.1 ∧ e.1 ≤ 5 ∧ hfi h 1 2 = w32 (e.2 : Nat) ∧ e.2 ≤ 500
theorem ER.ne {e : Nat × Nat} (x : ER h e) : ¬ hfi h 1 1 = 0 := by
  rw [x.1, wl_0]
  exact ne_w (by have := x.2.1; have := x.2.2.1; omega) (by have := x.2.1; have := x.2.2.1; omega) (by omega) (by omega) (by have := x.2.1; omega)
theorem SC.step (x : SC h t n q) : ∃ h1, f_X7_step 1 h = some h1 ∧ FS h h1 ∧ SC h1 t n (ten t n q) := by
  obtain ⟨x1, x2, x3, x4, x5, x6, x7⟩ := x
  have rg := tok_rg (t := t) x2
  obtain ⟨h1, e1, f1, a1, a2, a3⟩ := k_step x1 (q := ten t n q) (by omega) x6
  exact ⟨h1, e1, f1, x1.fr f1.ft, by omega, (f1.2 1 (by omega)).trans x3, (f1.2 2 (by omega)).trans x4, a1, a2, a3⟩
theorem k_begin {m : Nat} (hn : n ≤ m) (hm : m ≤ 500) (hb : ∀ j, j < m → hia h 2 j = w32 (t j : Nat) ∧ t j < 256) : ∃ h1, f_X7_begin 1 (w32 (n : Nat)) h = some h1 ∧ Fr (fun c => c = 1) h h1 ∧ hfi h1 1 0 = hfi h 1 0 ∧ SC h1 t n 0 := by
  unfold f_X7_begin
  rw [lt_b, lt_b, lt_b, lt_b, lt_b]
  generalize hk : sfi (sfi (sfi (sfi (sfi h 1 6 (w32 (n : Nat))) 1 1 0) 1 2 (-1)) 1 4 0) 1 7 0 = k0
  have F : Fr (fun c => c = 1) h k0 := by
    rw [← hk]
    exact ((((Fr.sfi (W := fun c => c = 1) h 1 6 _ rfl).tr (Fr.sfi (W := fun c => c = 1) _ 1 1 _ rfl)).tr (Fr.sfi (W := fun c => c = 1) _ 1 2 _ rfl)).tr (Fr.sfi (W := fun c => c = 1) _ 1 4 _ rfl)).tr (Fr.sfi (W := fun c => c = 1) _ 1 7 _ rfl)
  have g6 : hfi k0 1 6 = w32 (n : Nat) := by rw [← hk]; simp (disch := omega) only [fi_sfi_nk, fi_sfi_eq]
  have g1 : hfi k0 1 1 = 0 := by rw [← hk]; simp (disch := omega) only [fi_sfi_nk, fi_sfi_eq]
  have g2 : hfi k0 1 2 = -1 := by rw [← hk]; simp (disch := omega) only [fi_sfi_nk, fi_sfi_eq]
  have g7 : hfi k0 1 7 = w32 ((0 : Nat) : Int) := by rw [← hk]; exact fi_sfi_eq _ _ _ _
  have g0 : hfi k0 1 0 = hfi h 1 0 := by rw [← hk]; simp (disch := omega) only [fi_sfi_nk]
  have T0 : TX k0 t n := ⟨g6, by omega, fun j hj => by rw [(F 2 (by omega)).2.2.1]; exact hb j (by omega)⟩
  obtain ⟨h1, e1, f1, a1, a2, a3⟩ := k_step T0 (Nat.zero_le n) g7
  exact ⟨h1, by rw [e1, bnd_s], F.tr f1.1, (f1.2 0 (by omega)).trans g0, T0.fr f1.ft, Nat.zero_le _, (f1.2 1 (by omega)).trans g1, (f1.2 2 (by omega)).trans g2, a1, a2, a3⟩
theorem SC.more (x : SC h t n q) : (tso t n q ≠ 0 → f_X7_hasMore 1 h = true) ∧ (tso t n q = 0 → f_X7_hasMore 1 h = false) := by
  obtain ⟨x1, x2, x3, x4, x5, x6, x7⟩ := x
  have rg := tok_rg (t := t) x2
  unfold f_X7_hasMore
  rw [if_pos x3, x7]
  exact ⟨fun z => by rw [if_neg (by rw [wl_0]; exact ne_w (by omega) (by omega) (by omega) (by omega) (by omega))], fun z => by rw [if_pos (by rw [z]; rfl)]⟩
theorem ER.more {e : Nat × Nat} (x : ER h e) : f_X7_hasMore 1 h = false := by
  unfold f_X7_hasMore
  rw [if_neg x.ne]
theorem SC.takes (x : SC h t n q) {i : Nat} (hi : i < 35) (hl : wl i ≤ 20) : (wd t n i q → ∃ h1, f_X7_takes 1 i h = some (true, h1) ∧ FT h h1 ∧ SC h1 t n (ten t n q) ∧ hfi h1 1 4 = w32 (tst t n q : Nat)) ∧ (¬ wd t n i q → f_X7_takes 1 i h = some (false, h)) := by
  obtain ⟨x1, x2, x3, x4, x5, x6, x7⟩ := id x
  have rg := tok_rg (t := t) x2
  have hn := x1.2.1
  have sl : slen i = w32 (wl i : Nat) := rfl
  have head : f_X7_takes 1 i h = if tso t n q = 1 then (if wl i = ten t n q - tst t n q then bnd (f_X7_spells_l20 1 i h FU 0) (fun q8 => bnd (Sum.elim (fun _ => some true) (fun xq8 => some xq8) q8) (fun q3 => if q3 = true then bnd (f_X7_step 1 (sfi h 1 4 (hfi h 1 3))) (fun q6 => some (true, q6)) else some (false, h))) else some (false, h)) else some (false, h) := by
    unfold f_X7_takes f_X7_spells
    rw [if_pos x3, x7, gd_t hi, sl, x6, x5, w_sub]
    have i1 : (w32 (tso t n q : Nat) = 1) = (tso t n q = 1) := by rw [wl_1, w_eq _ _ (by omega) (by omega) (by omega) (by omega)]; apply propext; omega
    have i2 : (w32 (wl i : Nat) = w32 ((ten t n q : Int) - (tst t n q : Int))) = (wl i = ten t n q - tst t n q) := by rw [w_eq _ _ (by omega) (by omega) (by omega) (by omega)]; apply propext; omega
    simp only [i1, i2]
    by_cases z1 : tso t n q = 1
    · rw [if_pos z1, if_pos z1]
      by_cases z2 : wl i = ten t n q - tst t n q
      · rw [if_pos z2, if_pos z2]
        cases f_X7_spells_l20 1 i h FU 0 <;> rfl
      · rw [if_neg z2, if_neg z2, bnd_s, if_neg (by decide)]
    · rw [if_neg z1, if_neg z1]
  rw [head]
  by_cases z1 : tso t n q = 1
  · rw [if_pos z1]
    have rs := rg.2.2.2.2.1 (by omega)
    by_cases z2 : wl i = ten t n q - tst t n q
    · rw [if_pos z2]
      have sc := scan (fun k (v : Int32) => f_X7_spells_l20 1 i h k v) (fun k => w32 (k : Nat)) (wl i) (fun k => w32 (t (tst t n q + k) : Nat) = schr i (w32 (k : Nat))) (.inl ()) (fun _ => .inr false) (fun k m hk hP => by
          show f_X7_spells_l20 1 i h (m + 1) (w32 k) = f_X7_spells_l20 1 i h m (w32 (k + 1 : Nat))
          rw [f_X7_spells_l20, gd_t hi, sl, if_neg (by rw [w_le _ _ (by omega) (by omega) (by omega) (by omega)]; omega), x5, show w32 (tst t n q : Nat) + w32 (k : Nat) = w32 (tst t n q + k : Nat) from by rw [w_add]; exact ww (by omega), gd_t (by rw [w_ibN _ _ (by omega)]; omega), gd_t ⟨hi, by rw [w_ibN _ _ (by omega)]; exact hk⟩, w_clN _ (by omega), show hia h (1 + 1) (tst t n q + k) = _ from (x1.2.2 _ (by omega)).1, if_pos hP, wl_1, w_add, w_s]) (fun k m hk hP => by
          show f_X7_spells_l20 1 i h (m + 1) (w32 k) = _
          rw [f_X7_spells_l20, gd_t hi, sl, if_neg (by rw [w_le _ _ (by omega) (by omega) (by omega) (by omega)]; omega), x5, show w32 (tst t n q : Nat) + w32 (k : Nat) = w32 (tst t n q + k : Nat) from by rw [w_add]; exact ww (by omega), gd_t (by rw [w_ibN _ _ (by omega)]; omega), gd_t ⟨hi, by rw [w_ibN _ _ (by omega)]; exact hk⟩, w_clN _ (by omega), show hia h (1 + 1) (tst t n q + k) = _ from (x1.2.2 _ (by omega)).1, if_neg hP]) (fun m => by
          show f_X7_spells_l20 1 i h (m + 1) (w32 (wl i : Nat)) = _
          rw [f_X7_spells_l20, gd_t hi, sl, if_pos (Int32.le_refl _)]) FU (by unfold FU; omega)
      constructor
      · intro w
        rw [show f_X7_spells_l20 1 i h FU 0 = _ from sc.1 w.2.2, bnd_s]
        simp only [Sum.elim_inl]
        rw [bnd_s, if_pos rfl, x5]
        have F4 : FT h (sfi h 1 4 (w32 (tst t n q : Nat))) := FT.w _ 4 _ (by omega)
        have x' : SC (sfi h 1 4 (w32 (tst t n q : Nat))) t n q := ⟨x1.fr F4, x2, by rw [fi_sfi_nk _ _ _ _ _ (by omega)]; exact x3, by rw [fi_sfi_nk _ _ _ _ _ (by omega)]; exact x4, by rw [fi_sfi_nk _ _ _ _ _ (by omega)]; exact x5, by rw [fi_sfi_nk _ _ _ _ _ (by omega)]; exact x6, by rw [fi_sfi_nk _ _ _ _ _ (by omega)]; exact x7⟩
        obtain ⟨h1, e1, f1, s1⟩ := x'.step
        exact ⟨h1, by rw [e1, bnd_s], F4.tr f1.ft, s1, by rw [f1.2 4 (by omega)]; exact fi_sfi_eq _ _ _ _⟩
      · intro w
        rcases first_of (fun k => w32 (t (tst t n q + k) : Nat) = schr i (w32 (k : Nat))) (wl i) with hall | ⟨j, hj, hnj, hbef⟩
        · exact absurd ⟨z1, z2, hall⟩ w
        · rw [show f_X7_spells_l20 1 i h FU 0 = _ from sc.2 j hj hnj hbef, bnd_s]
          simp only [Sum.elim_inr]
          rw [bnd_s, if_neg (by decide)]
    · rw [if_neg z2]
      exact ⟨fun w => absurd w.2.1 z2, fun _ => rfl⟩
  · rw [if_neg z1]
    exact ⟨fun w => absurd w.1 z1, fun _ => rfl⟩
theorem ER.takes {e : Nat × Nat} (x : ER h e) (i : Nat) : f_X7_takes 1 i h = some (false, h) := by
  unfold f_X7_takes
  rw [if_neg x.ne]
theorem SC.blame (x : SC h t n q) {c p : Nat} (hc : 1 ≤ c ∧ c ≤ 5) (hp : p ≤ 500) : ∃ h1, f_X7_blame 1 (w32 (c : Nat)) (w32 (p : Nat)) h = some h1 ∧ FT h h1 ∧ ER h1 (c, p) := by
  refine ⟨sfi (sfi h 1 1 (w32 (c : Nat))) 1 2 (w32 (p : Nat)), ?_, (FT.w _ 1 _ (by omega)).tr (FT.w _ 2 _ (by omega)), ?_, hc.1, hc.2, fi_sfi_eq _ _ _ _, hp⟩
  · unfold f_X7_blame
    rw [if_pos x.2.2.1]
    rfl
  · rw [fi_sfi_nk _ _ _ _ _ (by omega), fi_sfi_eq]
theorem ER.blame {e : Nat × Nat} (x : ER h e) (c p : Int32) : f_X7_blame 1 c p h = some h := by
  unfold f_X7_blame
  rw [if_neg x.ne]
theorem ER.num {e : Nat × Nat} (x : ER h e) (lo hi : Int32) : f_X7_number 1 lo hi h = some (lo, h) := by
  unfold f_X7_number
  rw [if_neg x.ne]
theorem ER.fin {e : Nat × Nat} (x : ER h e) : f_X7_endLine 1 h = some h := by
  unfold f_X7_endLine
  rw [if_neg x.ne]
theorem SC.fin (x : SC h t n q) : (tso t n q = 3 → ∃ h1, f_X7_endLine 1 h = some h1 ∧ FT h h1 ∧ SC h1 t n (ten t n q)) ∧ (tso t n q ≠ 3 → ∃ h1, f_X7_endLine 1 h = some h1 ∧ FT h h1 ∧ ER h1 (1, tst t n q)) := by
  obtain ⟨x1, x2, x3, x4, x5, x6, x7⟩ := id x
  have rg := tok_rg (t := t) x2
  have hn := x1.2.1
  unfold f_X7_endLine
  rw [if_pos x3, x7, x5]
  have i1 : (w32 (tso t n q : Nat) = 3) = (tso t n q = 3) := by rw [wl_3, w_eq _ _ (by omega) (by omega) (by omega) (by omega)]; apply propext; omega
  constructor
  · intro z
    obtain ⟨h1, e1, f1, s1⟩ := x.step
    exact ⟨h1, by rw [if_pos (by rw [i1]; exact z), e1, bnd_s], f1.ft, s1⟩
  · intro z
    obtain ⟨h1, e1, f1, s1⟩ := x.blame (c := 1) (p := tst t n q) (by omega) (by omega)
    exact ⟨h1, by rw [if_neg (by rw [i1]; exact z), wl_1, show f_X7_blame 1 (w32 1) (w32 (tst t n q : Nat)) h = _ from e1, bnd_s], f1, s1⟩
theorem SC.num (x : SC h t n q) {lo hi : Nat} (hhi : hi ≤ 9999) (hlo : lo ≤ hi) : (∀ v, pn t n lo hi q = .inr v → ∃ h1, f_X7_number 1 (w32 (lo : Nat)) (w32 (hi : Nat)) h = some (w32 (v : Nat), h1) ∧ FT h h1 ∧ SC h1 t n (ten t n q) ∧ hfi h1 1 4 = w32 (tst t n q : Nat)) ∧ (∀ e, pn t n lo hi q = .inl e → ∃ h1, f_X7_number 1 (w32 (lo : Nat)) (w32 (hi : Nat)) h = some (w32 (lo : Nat), h1) ∧ FT h h1 ∧ ER h1 e) := by
  obtain ⟨x1, x2, x3, x4, x5, x6, x7⟩ := id x
  have rg := tok_rg (t := t) x2
  have hn := x1.2.1
  have i1 : (w32 (tso t n q : Nat) = 2) = (tso t n q = 2) := by rw [wl_2, w_eq _ _ (by omega) (by omega) (by omega) (by omega)]; apply propext; omega
  unfold f_X7_number pn
  rw [if_pos x3, x7, x5]
  by_cases z : tso t n q = 2
  · rw [if_pos (show w32 (tso t n q : Nat) = 2 by rw [i1]; exact z), if_neg (show ¬ (tso t n q ≠ 2) from fun y => y z)]
    have rs := rg.2.2.2.2.1 (by omega)
    have dg := tok_dig x2 z
    have rv : 0 ≤ tvl t n q ∧ tvl t n q ≤ 2147483647 := by
      unfold tvl
      split
      · omega
      · have := nvk_4 (t := t) (s := tst t n q) (m := ten t n q - tst t n q) (fun j h1 h2 => dg j h1 (by omega)) (by omega)
        omega
    have ed : f_X7_digits 1 h = some (w32 (tvl t n q)) := by
      unfold f_X7_digits tvl
      rw [x6, x5, w_sub]
      by_cases z4 : 4 < ten t n q - tst t n q
      · rw [if_neg (by rw [wl_4, w_le _ _ (by omega) (by omega) (by omega) (by omega)]; omega), if_pos z4]; rfl
      · rw [if_pos (by rw [wl_4, w_le _ _ (by omega) (by omega) (by omega) (by omega)]; omega), if_neg z4]
        have lp : f_X7_digits_l23 1 h FU 0 (w32 (tst t n q : Nat)) = some (w32 (nvk t (tst t n q) (ten t n q - tst t n q))) := loopN (fun k (s : Int32 × Int32) => f_X7_digits_l23 1 h k s.1 s.2) (fun k => (w32 (nvk t (tst t n q) k), w32 (tst t n q + k : Nat))) (ten t n q - tst t n q) _ (fun k m hk => by
            show f_X7_digits_l23 1 h (m + 1) (w32 (nvk t (tst t n q) k)) (w32 (tst t n q + k : Nat)) = f_X7_digits_l23 1 h m (w32 (nvk t (tst t n q) (k + 1))) (w32 (tst t n q + (k + 1) : Nat))
            rw [f_X7_digits_l23, x6, if_neg (by rw [w_le _ _ (by omega) (by omega) (by omega) (by omega)]; omega), gd_t (by rw [w_ibN _ _ (by omega)]; omega), w_clN _ (by omega), show hia h (1 + 1) (tst t n q + k) = _ from (x1.2.2 _ (by omega)).1, wl_10, w_mul, w_add, wl_48, w_sub, wl_1, w_add, w_s]
            rfl) (fun m => by
            show f_X7_digits_l23 1 h (m + 1) _ (w32 (tst t n q + (ten t n q - tst t n q) : Nat)) = _
            rw [show tst t n q + (ten t n q - tst t n q) = ten t n q by omega, f_X7_digits_l23, x6, if_pos (Int32.le_refl _)]) FU (by unfold FU; omega)
        rw [lp, bnd_s]
    rw [ed, bnd_s]
    by_cases z3 : (lo : Int) ≤ tvl t n q ∧ tvl t n q ≤ hi
    · rw [if_pos z3, if_neg (by rw [w_lt _ _ (by omega) (by omega) (by omega) (by omega)]; omega), if_pos (by rw [w_le _ _ (by omega) (by omega) (by omega) (by omega)]; omega), lt_b]
      have F4 : FT h (sfi h 1 4 (w32 (tst t n q : Nat))) := FT.w _ 4 _ (by omega)
      have x' : SC (sfi h 1 4 (w32 (tst t n q : Nat))) t n q := ⟨x1.fr F4, x2, by rw [fi_sfi_nk _ _ _ _ _ (by omega)]; exact x3, by rw [fi_sfi_nk _ _ _ _ _ (by omega)]; exact x4, by rw [fi_sfi_nk _ _ _ _ _ (by omega)]; exact x5, by rw [fi_sfi_nk _ _ _ _ _ (by omega)]; exact x6, by rw [fi_sfi_nk _ _ _ _ _ (by omega)]; exact x7⟩
      obtain ⟨h1, e1, f1, s1⟩ := x'.step
      refine ⟨fun v ev => ?_, fun e ev => by cases ev⟩
      cases ev
      exact ⟨h1, by rw [e1, bnd_s, show ((tvl t n q).toNat : Int) = tvl t n q by omega], F4.tr f1.ft, s1, by rw [f1.2 4 (by omega)]; exact fi_sfi_eq _ _ _ _⟩
    · rw [if_neg z3]
      obtain ⟨h1, e1, f1, s1⟩ := x.blame (c := 2) (p := tst t n q) (by omega) (by omega)
      have e1 : f_X7_blame 1 2 (w32 (tst t n q : Nat)) h = some h1 := e1
      refine ⟨fun v ev => (by cases ev), fun e ev => ?_⟩
      cases ev
      refine ⟨h1, ?_, f1, s1⟩
      rw [e1]
      by_cases z5 : tvl t n q < lo
      · rw [if_pos (by rw [w_lt _ _ (by omega) (by omega) (by omega) (by omega)]; omega), bnd_s]
      · rw [if_neg (by rw [w_lt _ _ (by omega) (by omega) (by omega) (by omega)]; omega), if_neg (by rw [w_le _ _ (by omega) (by omega) (by omega) (by omega)]; omega), bnd_s]
  · rw [if_neg (show ¬ (w32 (tso t n q : Nat) = 2) by rw [i1]; exact z), if_pos (show tso t n q ≠ 2 from z)]
    obtain ⟨h1, e1, f1, s1⟩ := x.blame (c := 1) (p := tst t n q) (by omega) (by omega)
    have e1 : f_X7_blame 1 1 (w32 (tst t n q : Nat)) h = some h1 := e1
    refine ⟨fun v ev => (by cases ev), fun e ev => ?_⟩
    cases ev
    exact ⟨h1, by rw [e1, bnd_s], f1, s1⟩
end SCR
