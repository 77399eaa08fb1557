/-! lines -/
def upF {α : Type} (f : Nat → α) (k : Nat) (v : α) : Nat → α := fun j => if j = k then v else f j
theorem upF_eq {α : Type} (f : Nat → α) (k : Nat) (v : α) : upF f k v k = v := if_pos rfl
theorem upF_ne {α : Type} (f : Nat → α) {k j : Nat} (v : α) (h : j ≠ k) : upF f k v j = f j := if_neg h
def itR {σ : Type} (t : Nat → Nat) (n : Nat) (Ln : σ → Nat → (Nat × Nat) ⊕ (σ × Nat)) : Nat → σ → Nat → (Nat × Nat) ⊕ σ
  | 0, s, _ => .inr s
  | f + 1, s, q => if tso t n q = 0 then .inr s else match Ln s q with
    | .inl e => .inl e
    | .inr p => itR t n Ln f p.1 p.2
section LNS
variable {σ τ : Type} {t : Nat → Nat} {n : Nat}
theorem itR_z {Ln : σ → Nat → (Nat × Nat) ⊕ (σ × Nat)} {f q : Nat} {s : σ} (z : tso t n q = 0) : itR t n Ln (f + 1) s q = .inr s := if_pos z
theorem itR_e {Ln : σ → Nat → (Nat × Nat) ⊕ (σ × Nat)} {f q : Nat} {s : σ} {e : Nat × Nat} (z : tso t n q ≠ 0) (hl : Ln s q = .inl e) : itR t n Ln (f + 1) s q = .inl e := by
  rw [itR, if_neg z, hl]
theorem itR_s {Ln : σ → Nat → (Nat × Nat) ⊕ (σ × Nat)} {f q q' : Nat} {s s' : σ} (z : tso t n q ≠ 0) (hl : Ln s q = .inr (s', q')) : itR t n Ln (f + 1) s q = itR t n Ln f s' q' := by
  rw [itR, if_neg z, hl]
theorem k_lines {Ln : σ → Nat → (Nat × Nat) ⊕ (σ × Nat)} {W : AH → Option AH} {L : Nat → Int32 → AH → Option AH} (hn : n ≤ 500)
    (hL : ∀ f v h, L (f + 1) v h = if 500 ≤ v then some h else if f_X7_hasMore 1 h = true then bnd (W h) (fun q7 => bnd (f_X7_endLine 1 q7) (fun q8 => L f (v + 1) q8)) else some h)
    {P : σ → AH → Prop} {Q : AH → Prop}
    (hE : ∀ s q h e, P s h → SC h t n q → tso t n q ≠ 0 → Ln s q = .inl e → ∃ h1 h2, W h = some h1 ∧ f_X7_endLine 1 h1 = some h2 ∧ ER h2 e ∧ Q h2)
    (hS : ∀ s q h s' q', P s h → SC h t n q → tso t n q ≠ 0 → Ln s q = .inr (s', q') → ∃ h1 h2, W h = some h1 ∧ f_X7_endLine 1 h1 = some h2 ∧ SC h2 t n q' ∧ P s' h2 ∧ q < q') :
    ∀ f s q h i m, n - q < f → f < m → i ≤ q → P s h → SC h t n q → (∀ e, itR t n Ln f s q = .inl e → ∃ h', L m (w32 (i : Nat)) h = some h' ∧ ER h' e ∧ Q h') ∧ (∀ s', itR t n Ln f s q = .inr s' → ∃ h', L m (w32 (i : Nat)) h = some h' ∧ P s' h' ∧ hfi h' 1 1 = 0 ∧ hfi h' 1 2 = -1) := by
  intro f
  induction f with
  | zero => intro s q h i m h1; omega
  | succ f ih =>
    intro s q h i m h1 h2 h3 hP hs
    have hq := hs.2.1
    obtain ⟨m, rfl⟩ : ∃ m', m = m' + 1 := ⟨m - 1, by omega⟩
    rw [hL]
    by_cases z : tso t n q = 0
    · rw [itR_z z]
      refine ⟨fun e he => (by cases he), fun s' he => ?_⟩
      cases he
      refine ⟨h, ?_, hP, hs.2.2.1, hs.2.2.2.1⟩
      by_cases z5 : (500 : Int32) ≤ w32 (i : Nat)
      · rw [if_pos z5]
      · rw [if_neg z5, hs.more.2 z, if_neg (by decide)]
    · have rg := (tok_rg (t := t) hq).2.2.2.2.1 z
      have rq := (tok_rg (t := t) hq).1
      rw [if_neg (show ¬ (500 : Int32) ≤ w32 (i : Nat) by rw [show (500 : Int32) = w32 500 from rfl, w_le _ _ (by omega) (by omega) (by omega) (by omega)]; omega), hs.more.1 z, if_pos rfl]
      cases hl : Ln s q with
      | inl e =>
        rw [itR_e z hl]
        obtain ⟨k1, k2, e1, e2, e3, e4⟩ := hE s q h e hP hs z hl
        refine ⟨fun e' he => ?_, fun s' he => (by cases he)⟩
        cases he
        refine ⟨k2, ?_, e3, e4⟩
        rw [e1, bnd_s, e2, bnd_s]
        obtain ⟨m, rfl⟩ : ∃ m', m = m' + 1 := ⟨m - 1, by omega⟩
        rw [hL, e3.more, if_neg (show ¬ (false = true) by decide), ite_self]
      | inr p =>
        obtain ⟨s', q'⟩ := p
        rw [itR_s z hl]
        obtain ⟨k1, k2, e1, e2, e3, e4, e5⟩ := hS s q h s' q' hP hs z hl
        rw [e1, bnd_s, e2, bnd_s, wl_1, w_add, w_s]
        exact ih s' q' k2 (i + 1) m (by omega) (by omega) (by omega) e4 e3
theorem r_lines {Ln : σ → Nat → (Nat × Nat) ⊕ (σ × Nat)} {L : Nat → τ → Option AH} {H : τ → AH} {P : σ → τ → Prop} {Q : AH → Prop}
    (hB : ∀ f x, ¬ hfi (H x) 193 34 = 0 → L (f + 1) x = some (H x))
    (hZ : ∀ f x q, SM (H x) t n q → tso t n q = 0 → L (f + 1) x = some (H x))
    (hE : ∀ f s q x e, P s x → SM (H x) t n q → tso t n q ≠ 0 → Ln s q = .inl e → ∃ x', L (f + 1) x = L f x' ∧ EM (H x') e ∧ Q (H x'))
    (hS : ∀ f s q x s' q', P s x → SM (H x) t n q → tso t n q ≠ 0 → Ln s q = .inr (s', q') → ∃ x', L (f + 1) x = L f x' ∧ SM (H x') t n q' ∧ P s' x' ∧ q < q') :
    ∀ f s q x m, n - q < f → f < m → P s x → SM (H x) t n q → (∀ e, itR t n Ln f s q = .inl e → ∃ h', L m x = some h' ∧ EM h' e ∧ Q h') ∧ (∀ s', itR t n Ln f s q = .inr s' → ∃ x', L m x = some (H x') ∧ P s' x' ∧ hfi (H x') 193 34 = 0) := by
  intro f
  induction f with
  | zero => intro s q x m h1; omega
  | succ f ih =>
    intro s q x m h1 h2 hP hs
    have hq := hs.2.1
    obtain ⟨m, rfl⟩ : ∃ m', m = m' + 1 := ⟨m - 1, by omega⟩
    by_cases z : tso t n q = 0
    · rw [itR_z z]
      refine ⟨fun e he => (by cases he), fun s' he => ?_⟩
      cases he
      exact ⟨x, hZ m x q hs z, hP, hs.2.2.1⟩
    · have rg := (tok_rg (t := t) hq).2.2.2.2.1 z
      have rq := (tok_rg (t := t) hq).1
      cases hl : Ln s q with
      | inl e =>
        rw [itR_e z hl]
        obtain ⟨x', e1, e3, e4⟩ := hE m s q x e hP hs z hl
        refine ⟨fun e' he => ?_, fun s' he => (by cases he)⟩
        cases he
        obtain ⟨m, rfl⟩ : ∃ m', m = m' + 1 := ⟨m - 1, by omega⟩
        exact ⟨H x', by rw [e1, hB m x' e3.ne], e3, e4⟩
      | inr p =>
        obtain ⟨s', q'⟩ := p
        rw [itR_s z hl]
        obtain ⟨x', e1, e3, e4, e5⟩ := hS m s q x s' q' hP hs z hl
        rw [e1]
        exact ih s' q' x' m (by omega) (by omega) e4 e3
end LNS
/-! the law's lines -/
abbrev LS2 : Type := (Nat → Nat) × (Nat → Bool)
def lwd (t : Nat → Nat) (n q : Nat) : Option Nat := if wdB t n 8 q = true then some 0 else if wdB t n 9 q = true then some 1 else if wdB t n 10 q = true then some 2 else none
def lLo (k : Nat) : Nat := if k = 0 then 1 else 0
def lHi (k : Nat) : Nat := if k = 1 then 90 else 50
def lawT (t : Nat → Nat) (n : Nat) (s : LS2) (q k v : Nat) : (Nat × Nat) ⊕ (LS2 × Nat) := if tso t n q = 3 then .inr ((upF s.1 k v, upF s.2 k true), ten t n q) else .inl (1, tst t n q)
def lawL (t : Nat → Nat) (n : Nat) (s : LS2) (q : Nat) : (Nat × Nat) ⊕ (LS2 × Nat) := match lwd t n q with
  | none => .inl (1, tst t n q)
  | some k => if s.2 k = true then .inl (5, tst t n q) else match pn t n (lLo k) (lHi k) (ten t n q) with
    | .inl e => .inl e
    | .inr v => lawT t n s (ten t n (ten t n q)) k v
def mk3 (a b c : Bool) : Int32 := w32 ((a.toNat + 2 * b.toNat + 4 * c.toNat : Nat) : Int)
def okl (s : LS2) : Prop := 1 ≤ s.1 0 ∧ s.1 0 ≤ 50 ∧ s.1 1 ≤ 90 ∧ s.1 2 ≤ 50
theorem pn_rg {t : Nat → Nat} {n lo hi q v : Nat} (h : pn t n lo hi q = .inr v) : lo ≤ v ∧ v ≤ hi ∧ tso t n q = 2 := by
  unfold pn at h
  by_cases z : tso t n q ≠ 2
  · rw [if_pos z] at h; cases h
  · rw [if_neg z] at h
    by_cases y : (lo : Int) ≤ tvl t n q ∧ tvl t n q ≤ hi
    · rw [if_pos y] at h
      cases h
      exact ⟨by omega, by omega, by omega⟩
    · rw [if_neg y] at h; cases h
section LWL
variable {h : AH} {t : Nat → Nat} {n q : Nat}
/-- the class: behind the word -/
theorem k_law1 {a0 k p lo hi : Nat} {told : Bool} {bit : Int32} (ha : a0 ≠ 1 ∧ a0 ≠ 2) (hk : k < 3) (x : SC h t n q) (e4 : hfi h 1 4 = w32 (p : Nat)) (hp : p ≤ 500) (hlo : lo ≤ hi) (hhi : hi ≤ 9999) (hb : (hfi h a0 3 &&& bit = 0) = (told = false)) :
    (told = true → ∃ h1 h2, bnd (f_X5_once a0 1 bit h) (fun q14 => bnd (f_X7_number 1 (w32 (lo : Nat)) (w32 (hi : Nat)) q14) (fun q15 => lt (sfi q15.2 a0 k q15.1) (fun h16 => some h16))) = some h1 ∧ f_X7_endLine 1 h1 = some h2 ∧ ER h2 (5, p) ∧ Fr (fun c => c = 1 ∨ c = a0) h h2) ∧
    (told = false → ∀ e, pn t n lo hi q = .inl e → ∃ h1 h2, bnd (f_X5_once a0 1 bit h) (fun q14 => bnd (f_X7_number 1 (w32 (lo : Nat)) (w32 (hi : Nat)) q14) (fun q15 => lt (sfi q15.2 a0 k q15.1) (fun h16 => some h16))) = some h1 ∧ f_X7_endLine 1 h1 = some h2 ∧ ER h2 e ∧ Fr (fun c => c = 1 ∨ c = a0) h h2) ∧
    (told = false → ∀ v, pn t n lo hi q = .inr v → ∃ h1 h2, bnd (f_X5_once a0 1 bit h) (fun q14 => bnd (f_X7_number 1 (w32 (lo : Nat)) (w32 (hi : Nat)) q14) (fun q15 => lt (sfi q15.2 a0 k q15.1) (fun h16 => some h16))) = some h1 ∧ f_X7_endLine 1 h1 = some h2 ∧ Fr (fun c => c = 1 ∨ c = a0) h h2 ∧ hfi h2 a0 k = w32 (v : Nat) ∧ hfi h2 a0 3 = (hfi h a0 3 ||| bit) ∧ (∀ j, j ≠ k → j ≠ 3 → hfi h2 a0 j = hfi h a0 j) ∧ (tso t n (ten t n q) = 3 → SC h2 t n (ten t n (ten t n q))) ∧ (tso t n (ten t n q) ≠ 3 → ER h2 (1, tst t n (ten t n q)))) := by
  have m1 : ∀ {h1 h2 : AH}, Fr (fun c => c = 1) h1 h2 → Fr (fun c => c = 1 ∨ c = a0) h1 h2 := fun f => f.mono (fun c z => Or.inl z)
  have fw : ∀ (g : AH) (j : Nat) (v : Int32), Fr (fun c => c = 1 ∨ c = a0) g (sfi g a0 j v) := fun g j v => Fr.sfi _ _ _ _ (Or.inr rfl)
  have n1 : ∀ (g : AH) (j : Nat) (v : Int32), hfi (sfi g a0 j v) 1 = hfi g 1 := fun g j v => fi_sfi_ne _ _ _ _ _ (fun z => ha.1 z.symm)
  have fa : ∀ {g g1 : AH}, FT g g1 → hfi g1 a0 = hfi g a0 := fun f => (f.1 a0 ha.1).1
  refine ⟨fun ht => ?_, fun ht e he => ?_, fun ht v hv => ?_⟩
  · obtain ⟨h1, e1, f1, s1⟩ := x.blame (c := 5) (p := p) (by omega) hp
    have e1 : f_X7_blame 1 5 (w32 (p : Nat)) h = some h1 := e1
    have s2 : ER (sfi h1 a0 3 (hfi h1 a0 3 ||| bit)) (5, p) := s1.fr (n1 _ _ _)
    have s3 : ER (sfi (sfi h1 a0 3 (hfi h1 a0 3 ||| bit)) a0 k (w32 (lo : Nat))) (5, p) := s2.fr (n1 _ _ _)
    refine ⟨_, _, ?_, s3.fin, s3, ((m1 f1.1).tr (fw _ _ _)).tr (fw _ _ _)⟩
    unfold f_X5_once
    rw [if_neg (by rw [hb, ht]; decide), e4, e1, bnd_s, lt_b, bnd_s, s2.num, bnd_s]
    rfl
  · have x1 : SC (sfi h a0 3 (hfi h a0 3 ||| bit)) t n q := x.fr (n1 _ _ _) rfl
    obtain ⟨h1, e1, f1, s1⟩ := (x1.num hhi hlo).2 e he
    have s2 : ER (sfi h1 a0 k (w32 (lo : Nat))) e := s1.fr (n1 _ _ _)
    refine ⟨_, _, ?_, s2.fin, s2, ((fw _ _ _).tr (m1 f1.1)).tr (fw _ _ _)⟩
    unfold f_X5_once
    rw [if_pos (by rw [hb, ht]), lt_b, bnd_s, e1, bnd_s]
    rfl
  · have x1 : SC (sfi h a0 3 (hfi h a0 3 ||| bit)) t n q := x.fr (n1 _ _ _) rfl
    obtain ⟨h1, e1, f1, s1, -⟩ := (x1.num hhi hlo).1 v hv
    have s2 : SC (sfi h1 a0 k (w32 (v : Nat))) t n (ten t n q) := s1.fr (n1 _ _ _) rfl
    have e1' : bnd (f_X5_once a0 1 bit h) (fun q14 => bnd (f_X7_number 1 (w32 (lo : Nat)) (w32 (hi : Nat)) q14) (fun q15 => lt (sfi q15.2 a0 k q15.1) (fun h16 => some h16))) = some (sfi h1 a0 k (w32 (v : Nat))) := by
      unfold f_X5_once
      rw [if_pos (by rw [hb, ht]), lt_b, bnd_s, e1, bnd_s]
      rfl
    have fin : ∃ h2, f_X7_endLine 1 (sfi h1 a0 k (w32 (v : Nat))) = some h2 ∧ FT (sfi h1 a0 k (w32 (v : Nat))) h2 ∧ (tso t n (ten t n q) = 3 → SC h2 t n (ten t n (ten t n q))) ∧ (tso t n (ten t n q) ≠ 3 → ER h2 (1, tst t n (ten t n q))) := by
      by_cases z : tso t n (ten t n q) = 3
      · obtain ⟨h2, e2, f2, s3⟩ := s2.fin.1 z
        exact ⟨h2, e2, f2, fun _ => s3, fun y => absurd z y⟩
      · obtain ⟨h2, e2, f2, s3⟩ := s2.fin.2 z
        exact ⟨h2, e2, f2, fun y => absurd y z, fun _ => s3⟩
    obtain ⟨h2, e2, f2, s3, s4⟩ := fin
    refine ⟨_, h2, e1', e2, (((fw _ _ _).tr (m1 f1.1)).tr (fw _ _ _)).tr (m1 f2.1), ?_, ?_, fun j j1 j2 => ?_, s3, s4⟩
    · rw [fa f2, fi_sfi_eq]
    · rw [fa f2, fi_sfi_nk _ _ _ _ _ (by omega), fa f1, fi_sfi_eq]
    · rw [fa f2, fi_sfi_nk _ _ _ _ _ j1, fa f1, fi_sfi_nk _ _ _ _ _ j2]
theorem mk3_a (a b c : Bool) : ((mk3 a b c &&& 1 = 0) = (a = false)) ∧ ((mk3 a b c &&& 2 = 0) = (b = false)) ∧ ((mk3 a b c &&& 4 = 0) = (c = false)) ∧ mk3 a b c ||| 1 = mk3 true b c ∧ mk3 a b c ||| 2 = mk3 a true c ∧ mk3 a b c ||| 4 = mk3 a b true := by
  cases a <;> cases b <;> cases c <;> decide
theorem mk3_r (a b c : Bool) : (((mk3 a b c >>> (((0 : Int32)) &&& 31)) &&& 1 = 1) = (a = true)) ∧ (((mk3 a b c >>> (((1 : Int32)) &&& 31)) &&& 1 = 1) = (b = true)) ∧ (((mk3 a b c >>> (((2 : Int32)) &&& 31)) &&& 1 = 1) = (c = true)) ∧ mk3 a b c ||| (1 <<< ((0 : Int32) &&& 31)) = mk3 true b c ∧ mk3 a b c ||| (1 <<< ((1 : Int32) &&& 31)) = mk3 a true c ∧ mk3 a b c ||| (1 <<< ((2 : Int32) &&& 31)) = mk3 a b true := by
  cases a <;> cases b <;> cases c <;> decide
def PL (h0 : AH) (a0 : Nat) (s : LS2) (h : AH) : Prop := Fr (fun c => c = 1 ∨ c = a0) h0 h ∧ (∀ k, k < 3 → hfi h a0 k = w32 (s.1 k : Nat)) ∧ hfi h a0 3 = mk3 (s.2 0) (s.2 1) (s.2 2) ∧ okl s
/-- the class: a line of the law -/
theorem k_lawL {h0 : AH} {a0 : Nat} (ha : a0 ≠ 1 ∧ a0 ≠ 2) {s : LS2} (hP : PL h0 a0 s h) (x : SC h t n q) : (∀ e, lawL t n s q = .inl e → ∃ h1 h2, f_X5_writeLine a0 1 h = some h1 ∧ f_X7_endLine 1 h1 = some h2 ∧ ER h2 e ∧ Fr (fun c => c = 1 ∨ c = a0) h0 h2) ∧ (∀ s' q', lawL t n s q = .inr (s', q') → ∃ h1 h2, f_X5_writeLine a0 1 h = some h1 ∧ f_X7_endLine 1 h1 = some h2 ∧ SC h2 t n q' ∧ PL h0 a0 s' h2 ∧ q < q') := by
  obtain ⟨p1, p2, p3, p4⟩ := hP
  have hn := x.1.2.1
  have hq := x.2.1
  have rg := tok_rg (t := t) hq
  obtain ⟨ma, mb, mc, md, me, mf⟩ := mk3_a (s.2 0) (s.2 1) (s.2 2)
  have m1 : ∀ {h1 h2 : AH}, FT h1 h2 → Fr (fun c => c = 1 ∨ c = a0) h1 h2 := fun f => f.1.mono (fun c z => Or.inl z)
  have key : ∀ (k : Nat) (g : AH) (W : Option AH) (bit : Int32), k < 3 → lwd t n q = some k → SC g t n (ten t n q) → FT h g → hfi g 1 4 = w32 (tst t n q : Nat) → tso t n q ≠ 0 → ((mk3 (s.2 0) (s.2 1) (s.2 2) &&& bit = 0) = (s.2 k = false)) → (mk3 (s.2 0) (s.2 1) (s.2 2) ||| bit = mk3 (upF s.2 k true 0) (upF s.2 k true 1) (upF s.2 k true 2)) → W = bnd (f_X5_once a0 1 bit g) (fun q14 => bnd (f_X7_number 1 (w32 (lLo k : Nat)) (w32 (lHi k : Nat)) q14) (fun q15 => lt (sfi q15.2 a0 k q15.1) (fun h16 => some h16))) → (∀ e, lawL t n s q = .inl e → ∃ h1 h2, W = some h1 ∧ f_X7_endLine 1 h1 = some h2 ∧ ER h2 e ∧ Fr (fun c => c = 1 ∨ c = a0) h0 h2) ∧ (∀ s' q', lawL t n s q = .inr (s', q') → ∃ h1 h2, W = some h1 ∧ f_X7_endLine 1 h1 = some h2 ∧ SC h2 t n q' ∧ PL h0 a0 s' h2 ∧ q < q') := by
    intro k g W bit hk hw xg fg g4 tz b1 b2 eW
    have ga : hfi g a0 = hfi h a0 := (fg.1 a0 ha.1).1
    have rk := k_law1 (a0 := a0) (k := k) (p := tst t n q) (lo := lLo k) (hi := lHi k) (told := s.2 k) (bit := bit) ha hk xg g4 (by omega) (by unfold lLo lHi; split <;> split <;> omega) (by unfold lHi; split <;> omega) (by rw [ga, p3]; exact b1)
    rw [← eW] at rk
    obtain ⟨r1, r2, r3⟩ := rk
    have fh := p1.tr (m1 fg)
    unfold lawL
    rw [hw]
    dsimp only
    by_cases ht : s.2 k = true
    · rw [if_pos ht]
      refine ⟨fun e he => ?_, fun s' q' he => (by cases he)⟩
      cases he
      obtain ⟨h1, h2, e1, e2, e3, e5⟩ := r1 ht
      exact ⟨h1, h2, e1, e2, e3, fh.tr e5⟩
    · have ht : s.2 k = false := by cases y : s.2 k; rfl; exact absurd y ht
      rw [if_neg (by rw [ht]; decide)]
      cases hp : pn t n (lLo k) (lHi k) (ten t n q) with
      | inl e0 =>
        refine ⟨fun e he => ?_, fun s' q' he => (by cases he)⟩
        cases he
        obtain ⟨h1, h2, e1, e2, e3, e5⟩ := r2 ht e0 hp
        exact ⟨h1, h2, e1, e2, e3, fh.tr e5⟩
      | inr v =>
        obtain ⟨h1, h2, e1, e2, e3, e5, e6, e7, e8, e9⟩ := r3 ht v hp
        dsimp only
        unfold lawT
        by_cases z : tso t n (ten t n (ten t n q)) = 3
        · rw [if_pos z]
          refine ⟨fun e he => (by cases he), fun s' q' he => ?_⟩
          cases he
          have vr := pn_rg hp
          have r2 := tok_rg (t := t) (show ten t n q ≤ n by omega)
          have r3 := tok_rg (t := t) (show ten t n (ten t n q) ≤ n by omega)
          have rs := rg.2.2.2.2.1 tz
          refine ⟨h1, h2, e1, e2, e8 z, ⟨fh.tr e3, fun j hj => ?_, ?_, ?_⟩, by omega⟩
          · by_cases y : j = k
            · show _ = w32 (upF s.1 k v j : Nat)
              rw [y, e5, upF_eq]
            · show _ = w32 (upF s.1 k v j : Nat)
              rw [e7 j y (by omega), ga, p2 j hj, upF_ne _ _ y]
          · rw [e6, ga, p3]; exact b2
          · obtain ⟨o1, o2, o3, o4⟩ := p4
            unfold lLo lHi at vr
            rcases (show k = 0 ∨ k = 1 ∨ k = 2 by omega) with rfl | rfl | rfl
            · exact ⟨vr.1, vr.2.1, o3, o4⟩
            · exact ⟨o1, o2, vr.2.1, o4⟩
            · exact ⟨o1, o2, o3, vr.2.1⟩
        · rw [if_neg z]
          refine ⟨fun e he => ?_, fun s' q' he => (by cases he)⟩
          cases he
          exact ⟨h1, h2, e1, e2, e9 z, fh.tr e3⟩
  unfold f_X5_writeLine
  by_cases w8 : wd t n 8 q
  · obtain ⟨g, e1, f1, s1, s4⟩ := (x.takes (i := 8) (by omega) (by decide)).1 w8
    exact key 0 g _ 1 (by omega) (by unfold lwd; rw [if_pos (wdB_t.2 w8)]) s1 f1 s4 (by rw [w8.1]; omega) ma md (by rw [e1, bnd_s]; dsimp only; rw [if_pos rfl]; cases f_X5_once a0 1 1 g with
      | none => rfl
      | some y => rw [bnd_s]; rfl)
  · rw [(x.takes (i := 8) (by omega) (by decide)).2 w8, bnd_s]
    dsimp only
    rw [if_neg (show ¬ (false = true) by decide)]
    by_cases w9 : wd t n 9 q
    · obtain ⟨g, e1, f1, s1, s4⟩ := (x.takes (i := 9) (by omega) (by decide)).1 w9
      exact key 1 g _ 2 (by omega) (by unfold lwd; rw [if_neg (fun y => w8 (wdB_t.1 y)), if_pos (wdB_t.2 w9)]) s1 f1 s4 (by rw [w9.1]; omega) mb me (by rw [e1, bnd_s]; dsimp only; rw [if_pos rfl]; rfl)
    · rw [(x.takes (i := 9) (by omega) (by decide)).2 w9, bnd_s]
      dsimp only
      rw [if_neg (show ¬ (false = true) by decide)]
      by_cases w10 : wd t n 10 q
      · obtain ⟨g, e1, f1, s1, s4⟩ := (x.takes (i := 10) (by omega) (by decide)).1 w10
        exact key 2 g _ 4 (by omega) (by unfold lwd; rw [if_neg (fun y => w8 (wdB_t.1 y)), if_neg (fun y => w9 (wdB_t.1 y)), if_pos (wdB_t.2 w10)]) s1 f1 s4 (by rw [w10.1]; omega) mc mf (by rw [e1, bnd_s]; dsimp only; rw [if_pos rfl]; rfl)
      · rw [(x.takes (i := 10) (by omega) (by decide)).2 w10, bnd_s]
        dsimp only
        rw [if_neg (show ¬ (false = true) by decide), x.2.2.2.2.1]
        obtain ⟨h1, e1, f1, s1⟩ := x.blame (c := 1) (p := tst t n q) (by omega) (by omega)
        have e1 : f_X7_blame 1 1 (w32 (tst t n q : Nat)) h = some h1 := e1
        have hl : lawL t n s q = .inl (1, tst t n q) := by
          unfold lawL lwd
          rw [if_neg (fun y => w8 (wdB_t.1 y)), if_neg (fun y => w9 (wdB_t.1 y)), if_neg (fun y => w10 (wdB_t.1 y))]
        rw [hl]
        refine ⟨fun e he => ?_, fun s' q' he => (by cases he)⟩
        cases he
        exact ⟨h1, h1, by rw [e1, bnd_s], s1.fin, s1, p1.tr (m1 f1)⟩
end LWL
