/-! loops and frames -/
theorem loopN {σ τ : Type} (L : Nat → σ → Option τ) (S : Nat → σ) (n : Nat) (R : τ) (hs : ∀ i k, i < n → L (k + 1) (S i) = L k (S (i + 1))) (he : ∀ k, L (k + 1) (S n) = some R) (m : Nat) (hm : n < m) : L m (S 0) = some R := by
  have h : ∀ (w i : Nat), i + w = n → ∀ k, w < k → L k (S i) = some R := by
    intro w
    induction w with
    | zero =>
      intro i hi k hk
      obtain ⟨k, rfl⟩ : ∃ k', k = k' + 1 := ⟨k - 1, by omega⟩
      rw [show i = n by omega]
      exact he k
    | succ w ih =>
      intro i hi k hk
      obtain ⟨k, rfl⟩ : ∃ k', k = k' + 1 := ⟨k - 1, by omega⟩
      rw [hs i k (by omega)]
      exact ih (i + 1) (by omega) k (by omega)
  exact h n 0 (by omega) m hm
theorem loopF {σ τ : Type} (L : Nat → σ → Option τ) (S : Nat → σ) (a n : Nat) (ha : a ≤ n) (R : τ) (hs : ∀ i k, a ≤ i → i < n → L (k + 1) (S i) = L k (S (i + 1))) (he : ∀ k, L (k + 1) (S n) = some R) (m : Nat) (hm : n - a < m) : L m (S a) = some R := by
  have := loopN L (fun i => S (a + i)) (n - a) R (fun i k hi => hs (a + i) k (by omega) (by omega)) (fun k => by show L (k + 1) (S (a + (n - a))) = _; rw [show a + (n - a) = n by omega]; exact he k) m hm
  exact this
theorem loopR {σ τ : Type} (L : Nat → σ → Option τ) (P : Nat → σ → Prop) (Q : τ → Prop) (n : Nat) (hs : ∀ i k s, i < n → P i s → ∃ s', P (i + 1) s' ∧ L (k + 1) s = L k s') (he : ∀ k s, P n s → ∃ r, L (k + 1) s = some r ∧ Q r) (m : Nat) (hm : n < m) (s : σ) (h0 : P 0 s) : ∃ r, L m s = some r ∧ Q r := by
  have h : ∀ (w i : Nat), i + w = n → ∀ k s, w < k → P i s → ∃ r, L k s = some r ∧ Q r := by
    intro w
    induction w with
    | zero =>
      intro i hi k s hk hP
      obtain ⟨k, rfl⟩ : ∃ k', k = k' + 1 := ⟨k - 1, by omega⟩
      exact he k s (by rw [show n = i by omega]; exact hP)
    | succ w ih =>
      intro i hi k s hk hP
      obtain ⟨k, rfl⟩ : ∃ k', k = k' + 1 := ⟨k - 1, by omega⟩
      obtain ⟨s', hP', e⟩ := hs i k s (by omega) hP
      rw [e]
      exact ih (i + 1) (by omega) k s' (by omega) hP'
  exact h n 0 (by omega) m s hm h0
/-- a sum below n -/
def sm (f : Nat → Int) : Nat → Int
  | 0 => 0
  | n + 1 => sm f n + f n
theorem sm_s (f : Nat → Int) (n : Nat) : sm f (n + 1) = sm f n + f n := rfl
theorem sm_0 (f : Nat → Int) : sm f 0 = 0 := rfl
theorem sm_rg {f : Nat → Int} {n : Nat} {a b : Int} (h : ∀ i, i < n → a ≤ f i ∧ f i ≤ b) : a * n ≤ sm f n ∧ sm f n ≤ b * n := by
  induction n with
  | zero => simp [sm]
  | succ n ih =>
    have h1 := ih (fun i hi => h i (by omega))
    have h2 := h n (by omega)
    rw [sm_s]
    have e1 : a * ((n + 1 : Nat) : Int) = a * n + a := by rw [Int.natCast_add, Int.mul_add]; simp
    have e2 : b * ((n + 1 : Nat) : Int) = b * n + b := by rw [Int.natCast_add, Int.mul_add]; simp
    omega
theorem sm_congr {f g : Nat → Int} {n : Nat} (h : ∀ i, i < n → f i = g i) : sm f n = sm g n := by
  induction n with
  | zero => rfl
  | succ n ih => rw [sm_s, sm_s, ih (fun i hi => h i (by omega)), h n (by omega)]
theorem sm_le {f : Nat → Int} {n m : Nat} (hf : ∀ i, 0 ≤ f i) (h : n ≤ m) : sm f n ≤ sm f m := by
  induction m with
  | zero => rw [show n = 0 by omega]; exact Int.le_refl _
  | succ m ih =>
    by_cases e : n = m + 1
    · rw [e]; exact Int.le_refl _
    · have := ih (by omega); have := hf m; rw [sm_s]; omega
/-- what lies outside W stays -/
def Fr (W : Nat → Prop) (h h' : AH) : Prop := ∀ r, ¬ W r → hfi h' r = hfi h r ∧ hfl h' r = hfl h r ∧ hia h' r = hia h r ∧ hla h' r = hla h r ∧ hra h' r = hra h r
theorem Fr.rf {W : Nat → Prop} {h : AH} : Fr W h h := fun _ _ => ⟨rfl, rfl, rfl, rfl, rfl⟩
theorem Fr.tr {W : Nat → Prop} {h h' h'' : AH} (a : Fr W h h') (b : Fr W h' h'') : Fr W h h'' := fun r hr => by
  obtain ⟨a1, a2, a3, a4, a5⟩ := a r hr
  obtain ⟨b1, b2, b3, b4, b5⟩ := b r hr
  exact ⟨b1.trans a1, b2.trans a2, b3.trans a3, b4.trans a4, b5.trans a5⟩
theorem Fr.mono {W W' : Nat → Prop} {h h' : AH} (a : Fr W h h') (hw : ∀ r, W r → W' r) : Fr W' h h' := fun r hr => a r (fun q => hr (hw r q))
theorem up2_ap {α : Type} (f : Nat → Nat → α) {a b : Nat} (k : Nat) (v : α) (h : b ≠ a) : up2 f a k v b = f b := if_neg h
theorem Fr.sfi {W : Nat → Prop} (h : AH) (a k : Nat) (v : Int32) (ha : W a) : Fr W h (sfi h a k v) := fun r hr => ⟨up2_ap _ _ _ (fun e => hr (e ▸ ha)), rfl, rfl, rfl, rfl⟩
theorem Fr.sfl {W : Nat → Prop} (h : AH) (a k : Nat) (v : Int64) (ha : W a) : Fr W h (sfl h a k v) := fun r hr => ⟨rfl, up2_ap _ _ _ (fun e => hr (e ▸ ha)), rfl, rfl, rfl⟩
theorem Fr.sia {W : Nat → Prop} (h : AH) (a k : Nat) (v : Int32) (ha : W a) : Fr W h (sia h a k v) := fun r hr => ⟨rfl, rfl, up2_ap _ _ _ (fun e => hr (e ▸ ha)), rfl, rfl⟩
theorem Fr.sla {W : Nat → Prop} (h : AH) (a k : Nat) (v : Int64) (ha : W a) : Fr W h (sla h a k v) := fun r hr => ⟨rfl, rfl, rfl, up2_ap _ _ _ (fun e => hr (e ▸ ha)), rfl⟩
theorem Fr.sra {W : Nat → Prop} (h : AH) (a k : Nat) (v : Nat) (ha : W a) : Fr W h (sra h a k v) := fun r hr => ⟨rfl, rfl, rfl, rfl, up2_ap _ _ _ (fun e => hr (e ▸ ha))⟩
theorem Fr.sir {W : Nat → Prop} (h : AH) (a : Nat) (g : Nat → Int32) (ha : W a) : Fr W h (sir h a g) := fun r hr => ⟨rfl, rfl, upr_ne _ _ (fun e => hr (e ▸ ha)), rfl, rfl⟩
/-! reading behind a writing -/
theorem ia_sia_ne (h : AH) (a k : Nat) (v : Int32) (b : Nat) (hb : b ≠ a) : hia (sia h a k v) b = hia h b := up2_ap _ _ _ hb
theorem ia_sia (h : AH) (a k : Nat) (v : Int32) (j : Nat) : hia (sia h a k v) a j = if j = k then v else hia h a j := by show up2 h.2.2.1 a k v a j = _; rw [up2_at]; rfl
theorem ia_sia_eq (h : AH) (a k : Nat) (v : Int32) : hia (sia h a k v) a k = v := by rw [ia_sia, if_pos rfl]
theorem ia_sia_nk (h : AH) (a k : Nat) (v : Int32) (j : Nat) (hj : j ≠ k) : hia (sia h a k v) a j = hia h a j := by rw [ia_sia, if_neg hj]
theorem ia_sir_ne (h : AH) (a : Nat) (g : Nat → Int32) (b : Nat) (hb : b ≠ a) : hia (sir h a g) b = hia h b := if_neg hb
theorem ia_sir (h : AH) (a : Nat) (g : Nat → Int32) : hia (sir h a g) a = g := if_pos rfl
theorem ia_sfi (h : AH) (a k : Nat) (v : Int32) : hia (sfi h a k v) = hia h := rfl
theorem ia_sfl (h : AH) (a k : Nat) (v : Int64) : hia (sfl h a k v) = hia h := rfl
theorem ia_sla (h : AH) (a k : Nat) (v : Int64) : hia (sla h a k v) = hia h := rfl
theorem ia_sra (h : AH) (a k : Nat) (v : Nat) : hia (sra h a k v) = hia h := rfl
theorem fi_sfi_ne (h : AH) (a k : Nat) (v : Int32) (b : Nat) (hb : b ≠ a) : hfi (sfi h a k v) b = hfi h b := up2_ap _ _ _ hb
theorem fi_sfi (h : AH) (a k : Nat) (v : Int32) (j : Nat) : hfi (sfi h a k v) a j = if j = k then v else hfi h a j := by show up2 h.1 a k v a j = _; rw [up2_at]; rfl
theorem fi_sfi_eq (h : AH) (a k : Nat) (v : Int32) : hfi (sfi h a k v) a k = v := by rw [fi_sfi, if_pos rfl]
theorem fi_sfi_nk (h : AH) (a k : Nat) (v : Int32) (j : Nat) (hj : j ≠ k) : hfi (sfi h a k v) a j = hfi h a j := by rw [fi_sfi, if_neg hj]
theorem fi_sia (h : AH) (a k : Nat) (v : Int32) : hfi (sia h a k v) = hfi h := rfl
theorem fi_sir (h : AH) (a : Nat) (g : Nat → Int32) : hfi (sir h a g) = hfi h := rfl
theorem fi_sfl (h : AH) (a k : Nat) (v : Int64) : hfi (sfl h a k v) = hfi h := rfl
theorem fi_sla (h : AH) (a k : Nat) (v : Int64) : hfi (sla h a k v) = hfi h := rfl
theorem fi_sra (h : AH) (a k : Nat) (v : Nat) : hfi (sra h a k v) = hfi h := rfl
theorem ra_sia (h : AH) (a k : Nat) (v : Int32) : hra (sia h a k v) = hra h := rfl
theorem ra_sir (h : AH) (a : Nat) (g : Nat → Int32) : hra (sir h a g) = hra h := rfl
theorem ra_sfi (h : AH) (a k : Nat) (v : Int32) : hra (sfi h a k v) = hra h := rfl
theorem ra_sla (h : AH) (a k : Nat) (v : Int64) : hra (sla h a k v) = hra h := rfl
theorem la_sla_eq (h : AH) (a k : Nat) (v : Int64) : hla (sla h a k v) a k = v := by show up2 h.2.2.2.1 a k v a k = _; rw [up2_at]; exact if_pos rfl
theorem la_sla_ne (h : AH) (a k : Nat) (v : Int64) (b : Nat) (hb : b ≠ a) : hla (sla h a k v) b = hla h b := up2_ap _ _ _ hb
theorem la_sia (h : AH) (a k : Nat) (v : Int32) : hla (sia h a k v) = hla h := rfl
theorem la_sfi (h : AH) (a k : Nat) (v : Int32) : hla (sfi h a k v) = hla h := rfl
theorem w_s (i : Nat) : w32 ((i : Int) + 1) = w32 ((i + 1 : Nat) : Int) := ww (by omega)
