/-! calls that change something: the frame -/
def mkB (L T H W R : Nat) (k t p b y s wy wo rw rf rt : Nat → Nat) : BV := (fun i => match i with | 0 => L | 1 => T | 2 => H | 3 => W | _ => R, fun r => match r with | 0 => k | 1 => t | 2 => p | 3 => b | 4 => y | 5 => s | 6 => wy | 7 => wo | 8 => rw | 9 => rf | _ => rt)
def sB (S : SV) (b : Nat) (β : BV) (γ : GV) (f : Nat → Int32) : SV := (fun c => if c = b then β else xb S c, fun c => if c = b then γ else xg S c, xk S, xa S, xw S, xn S, xt S, xf S, xi S, f, xks S, xm S, xtt S, xtg S, xfx S, xfy S)
section EFF
variable {h h1 : AH} {S S' : SV} {T b : Nat} {β : BV} {γ : GV} {f : Nat → Int32}
theorem okS_sB (oS : okS S) (oB : okB β) (oG : okG (vL β) γ) (hv : vL β = vL (xb S b)) : okS (sB S b β γ f) := by
  refine ⟨fun c hc => ?_, oS.2⟩
  show okB (if c = b then β else xb S c) ∧ okG (vL (if c = b then β else xb S c)) (if c = b then γ else xg S c) ∧ okG (vL (if c = b then β else xb S c)) (xk S c)
  by_cases q : c = b
  · subst q
    rw [if_pos rfl, if_pos rfl]
    exact ⟨oB, oG, by rw [hv]; exact (oS.1 c hc).2.2⟩
  · rw [if_neg q, if_neg q]; exact oS.1 c hc
theorem CI.upd {X : Nat} (hb : b < 6) (hI : CI h S) (hX : hra h 3 b = X) (hF : Fr (fun c => WS c ∨ c = 31 ∨ (X ≤ c ∧ c ≤ X + 17 ∧ c ≠ X + 11 ∧ c ≠ X + 12)) h h1) (hB : BC h1 X β) (hG : GC h1 (X + 7) (vL β) γ) (hk : hfi h1 X 2 = orF (vk β) (vL β)) (hv : vL β = vL (xb S b)) (hs : ∀ k, k < 4 → hia h1 31 k = f k) : CI h1 (sB S b β γ f) := by
  obtain ⟨ad, b1, l1, w1, s1, s2, s3, i1, i2, i3, t1, t2, f1, f2⟩ := hI
  have isX := (ad.1 b hb).1
  rw [hX] at isX
  have isX' := isX
  unfold isB at isX'
  have nW : ∀ c, (c ≤ 5 ∨ (24 ≤ c ∧ c ≤ 30) ∨ c = 32 ∨ c = 57 ∨ (175 ≤ c ∧ c ≤ 192)) → ¬ (WS c ∨ c = 31 ∨ (X ≤ c ∧ c ≤ X + 17 ∧ c ≠ X + 11 ∧ c ≠ X + 12)) := fun c q z => by unfold WS at z; omega
  have fa : ∀ c, (c ≤ 5 ∨ (24 ≤ c ∧ c ≤ 30) ∨ c = 32 ∨ c = 57 ∨ (175 ≤ c ∧ c ≤ 192)) → hia h1 c = hia h c := fun c q => (hF c (nW c q)).2.2.1
  have ff : ∀ c, (c ≤ 5 ∨ (24 ≤ c ∧ c ≤ 30) ∨ c = 32 ∨ c = 57 ∨ (175 ≤ c ∧ c ≤ 192)) → hfi h1 c = hfi h c := fun c q => (hF c (nW c q)).1
  have fr : ∀ c, (c ≤ 5 ∨ (24 ≤ c ∧ c ≤ 30) ∨ c = 32 ∨ c = 57 ∨ (175 ≤ c ∧ c ≤ 192)) → hra h1 c = hra h c := fun c q => (hF c (nW c q)).2.2.2.2
  have r3 := fr 3 (by omega)
  have r4 := fr 4 (by omega)
  have r0 := fr 0 (by omega)
  have ad' : AD h1 := by unfold AD; rw [r3, r4, r0]; exact ad
  refine ⟨ad', fun c hc => ?_, ?_, ?_, ?_, ?_, ?_, ?_, hs, ?_, ?_, ?_, ?_, ?_⟩
  · rw [r3]
    show BC h1 (hra h 3 c) (if c = b then β else xb S c) ∧ GC h1 (hra h 3 c + 7) (vL (if c = b then β else xb S c)) (if c = b then γ else xg S c) ∧ GC h1 (hra h 3 c + 10) (vL (if c = b then β else xb S c)) (xk S c) ∧ hfi h1 (hra h 3 c) 2 = orF (vk (if c = b then β else xb S c)) (vL (if c = b then β else xb S c))
    obtain ⟨c1, c2, c3, c4⟩ := b1 c hc
    by_cases q : c = b
    · subst q
      rw [if_pos rfl, if_pos rfl, hX]
      rw [hX] at c3
      refine ⟨hB, hG, ?_, hk⟩
      rw [hv]
      intro l hl
      rw [(hF (X + 10 + 1) (fun z => by unfold WS at z; omega)).2.2.1, (hF (X + 10 + 2) (fun z => by unfold WS at z; omega)).2.2.1]
      exact c3 l hl
    · rw [if_neg q, if_neg q]
      have isC := (ad.1 c hc).1
      have ne := (ad.1 b hb).2.2 c hc q
      rw [hX] at ne
      have isC' := isC
      unfold isB at isC'
      have nC : ∀ d, hra h 3 c ≤ d → d ≤ hra h 3 c + 17 → ¬ (WS d ∨ d = 31 ∨ (X ≤ d ∧ d ≤ X + 17 ∧ d ≠ X + 11 ∧ d ≠ X + 12)) := fun d h1 h2 z => by unfold WS at z; omega
      exact ⟨c1.fr hF nC, c2.fr hF (nC _ (by omega) (by omega)) (nC _ (by omega) (by omega)), c3.fr hF (nC _ (by omega) (by omega)) (nC _ (by omega) (by omega)), by rw [(hF _ (nC _ (Nat.le_refl _) (by omega))).1]; exact c4⟩
  · rw [r0]; exact l1.fr hF (fun q => by have := ad.2.2.2.2.1; unfold isLw at this; exact nW _ (by omega) q)
  · intro w hw k hk
    have hW := (ad.2.2.1 w hw).1
    unfold isWy at hW
    rw [r4, fa _ (by omega), fa _ (by omega)]
    exact w1 w hw k hk
  · rw [ff 1 (by omega)]; exact s1
  · rw [ff 1 (by omega)]; exact s2
  · rw [fa 2 (by omega)]; exact s3
  · rw [ff 0 (by omega)]; exact i1
  · rw [fa 32 (by omega)]; exact i3
  · rw [ff 28 (by omega)]; exact t1
  · rw [fa 29 (by omega), fa 30 (by omega)]; exact t2
  · rw [ff 57 (by omega)]; exact f1
  · rw [ff 57 (by omega)]; exact f2
theorem ia_any (h : AH) (a k : Nat) (v : Int32) (b j : Nat) : hia (sia h a k v) b j = if b = a ∧ j = k then v else hia h b j := by
  by_cases q : b = a
  · subst q
    rw [ia_sia]
    by_cases q2 : j = k
    · rw [if_pos q2, if_pos ⟨rfl, q2⟩]
    · rw [if_neg q2, if_neg (fun z => q2 z.2)]
  · rw [ia_sia_ne _ _ _ _ _ q, if_neg (fun z => q z.1)]
/-- the rows of other books than b stay -/
def FrB (b : Nat) (h h1 : AH) : Prop := (∀ r, 196 ≤ r → r ≤ 200 → ∀ c, c ≠ b → hia h1 r c = hia h r c) ∧ (∀ r, 202 ≤ r → r ≤ 209 → ∀ c l, c ≠ b → l < 40 → hia h1 r (40 * c + l) = hia h r (40 * c + l)) ∧ (∀ r, 210 ≤ r → r ≤ 211 → ∀ c w, c ≠ b → w < 4 → hia h1 r (4 * c + w) = hia h r (4 * c + w)) ∧ (∀ r, 212 ≤ r → r ≤ 214 → ∀ c q, c ≠ b → q < 8 → hia h1 r (8 * c + q) = hia h r (8 * c + q))
def FrN (b : Nat) (h h1 : AH) : Prop := Fr (fun q => 193 ≤ q ∧ q ≤ 235) h h1 ∧ FrB b h h1 ∧ (∀ c, (c = 201 ∨ (215 ≤ c ∧ c ≤ 217) ∨ c = 219 ∨ (230 ≤ c ∧ c ≤ 235)) → hia h1 c = hia h c) ∧ (∀ k, (k = 27 ∨ k = 36 ∨ k = 49 ∨ k = 50 ∨ k = 52 ∨ k = 55) → hfi h1 193 k = hfi h 193 k)
theorem FrN.rf : FrN b h h := ⟨Fr.rf, ⟨fun _ _ _ _ _ => rfl, fun _ _ _ _ _ _ _ => rfl, fun _ _ _ _ _ _ _ => rfl, fun _ _ _ _ _ _ _ => rfl⟩, fun _ _ => rfl, fun _ _ => rfl⟩
theorem FrN.tr {h2 : AH} (x : FrN b h h1) (y : FrN b h1 h2) : FrN b h h2 := by
  obtain ⟨x1, ⟨x2, x3, x4, x5⟩, x6, x7⟩ := x
  obtain ⟨y1, ⟨y2, y3, y4, y5⟩, y6, y7⟩ := y
  exact ⟨x1.tr y1, ⟨fun r a1 a2 c a3 => (y2 r a1 a2 c a3).trans (x2 r a1 a2 c a3), fun r a1 a2 c l a3 a4 => (y3 r a1 a2 c l a3 a4).trans (x3 r a1 a2 c l a3 a4), fun r a1 a2 c l a3 a4 => (y4 r a1 a2 c l a3 a4).trans (x4 r a1 a2 c l a3 a4), fun r a1 a2 c l a3 a4 => (y5 r a1 a2 c l a3 a4).trans (x5 r a1 a2 c l a3 a4)⟩, fun c q => (y6 c q).trans (x6 c q), fun k q => (y7 k q).trans (x7 k q)⟩
theorem FrQ.n (x : FrQ h h1) : FrN b h h1 := by
  have f : ∀ c, ¬ WQ c → hia h1 c = hia h c := fun c q => (x.1 c q).2.2.1
  exact ⟨x.1.mono (fun c q => by unfold WQ at q; omega), ⟨fun r a1 a2 c _ => by rw [f r (by unfold WQ; omega)], fun r a1 a2 c l _ _ => by rw [f r (by unfold WQ; omega)], fun r a1 a2 c l _ _ => by rw [f r (by unfold WQ; omega)], fun r a1 a2 c l _ _ => by rw [f r (by unfold WQ; omega)]⟩, fun c q => f c (by unfold WQ; omega), x.2⟩
theorem FrN.w (h : AH) (b r k : Nat) (v : Int32) (hr : (196 ≤ r ∧ r ≤ 200 ∧ k = b) ∨ (202 ≤ r ∧ r ≤ 209 ∧ 40 * b ≤ k ∧ k < 40 * b + 40) ∨ (210 ≤ r ∧ r ≤ 211 ∧ 4 * b ≤ k ∧ k < 4 * b + 4) ∨ (212 ≤ r ∧ r ≤ 214 ∧ 8 * b ≤ k ∧ k < 8 * b + 8) ∨ r = 218 ∨ (220 ≤ r ∧ r ≤ 229)) : FrN b h (sia h r k v) := by
  refine ⟨Fr.sia _ _ _ _ (by omega), ⟨fun r' a1 a2 c hc => ?_, fun r' a1 a2 c l hc hl => ?_, fun r' a1 a2 c l hc hl => ?_, fun r' a1 a2 c l hc hl => ?_⟩, fun c q => ?_, fun _ _ => rfl⟩
  · rw [ia_any, if_neg (by omega)]
  · rw [ia_any, if_neg (by omega)]
  · rw [ia_any, if_neg (by omega)]
  · rw [ia_any, if_neg (by omega)]
  · exact ia_sia_ne _ _ _ _ _ (by omega)
theorem FrN.fl (h : AH) (b k : Nat) (v : Int32) (hk : ¬ (k = 27 ∨ k = 36 ∨ k = 49 ∨ k = 50 ∨ k = 52 ∨ k = 55)) : FrN b h (sfi h 193 k v) := (FrQ.code h k v hk).n
theorem BM.frB {c : Nat} (hB : BM h c β) (oB : okB β) (hF : FrB b h h1) (hc : c ≠ b) : BM h1 c β := by
  obtain ⟨e1, e2, e3, e4, e5, e6, e7, e8⟩ := hB
  obtain ⟨x2, x3, x4, x5⟩ := hF
  have o1 := oB.1
  have o2 := oB.2.2.2.1
  have o3 := oB.2.2.2.2.1
  refine ⟨by rw [x2 196 (by omega) (by omega) c hc]; exact e1, by rw [x2 197 (by omega) (by omega) c hc]; exact e2, by rw [x2 198 (by omega) (by omega) c hc]; exact e3, by rw [x2 199 (by omega) (by omega) c hc]; exact e4, by rw [x2 200 (by omega) (by omega) c hc]; exact e5, fun l hl => ?_, fun w hw => ?_, fun r hr => ?_⟩
  · rw [x3 202 (by omega) (by omega) c l hc (by omega), x3 203 (by omega) (by omega) c l hc (by omega), x3 204 (by omega) (by omega) c l hc (by omega), x3 205 (by omega) (by omega) c l hc (by omega), x3 206 (by omega) (by omega) c l hc (by omega), x3 207 (by omega) (by omega) c l hc (by omega)]
    exact e6 l hl
  · rw [x4 210 (by omega) (by omega) c w hc (by omega), x4 211 (by omega) (by omega) c w hc (by omega)]
    exact e7 w hw
  · rw [x5 212 (by omega) (by omega) c r hc (by omega), x5 213 (by omega) (by omega) c r hc (by omega), x5 214 (by omega) (by omega) c r hc (by omega)]
    exact e8 r hr
theorem GM.frB {c n : Nat} (hG : GM h c n γ) (hn : n ≤ 40) (hF : FrB b h h1) (hc : c ≠ b) : GM h1 c n γ := by
  intro l hl
  rw [hF.2.1 208 (by omega) (by omega) c l hc (by omega), hF.2.1 209 (by omega) (by omega) c l hc (by omega)]
  exact hG l hl
theorem MI2.updB (oS : okS S) (hI : MI2 h S T) (hF : FrN b h h1) (hB : BM h1 b β) (hG : GM h1 b (vL β) γ) (hv : vL β = vL (xb S b)) (hs : ∀ k, k < 4 → hia h1 218 k = f k) : MI2 h1 (sB S b β γ f) T := by
  obtain ⟨b1, l1, w1, n1, n2, n3, s1, t1, t2, f1, f2, i1, i2, v, iv, i3⟩ := hI
  obtain ⟨-, x2, x3, x4⟩ := hF
  refine ⟨fun c hc => ?_, ?_, ?_, ?_, ?_, ?_, hs, ?_, ?_, ?_, ?_, ?_, ?_, v, iv, fun c hc => ?_⟩
  · show BM h1 c (if c = b then β else xb S c) ∧ GM h1 c (vL (if c = b then β else xb S c)) (if c = b then γ else xg S c)
    by_cases q : c = b
    · subst q
      rw [if_pos rfl, if_pos rfl]
      exact ⟨hB, hG⟩
    · rw [if_neg q, if_neg q]
      exact ⟨(b1 c hc).1.frB (oS.1 c hc).1 x2 q, (b1 c hc).2.frB (oS.1 c hc).1.1 x2 q⟩
  · unfold LM; rw [x3 215 (by omega)]; exact l1
  · unfold WM; rw [x3 216 (by omega), x3 217 (by omega)]; exact w1
  · rw [x4 27 (by omega)]; exact n1
  · rw [x4 36 (by omega)]; exact n2
  · rw [x3 219 (by omega)]; exact n3
  · rw [x4 52 (by omega)]; exact t1
  · rw [x3 230 (by omega), x3 231 (by omega)]; exact t2
  · rw [x4 49 (by omega)]; exact f1
  · rw [x4 50 (by omega)]; exact f2
  · rw [x4 55 (by omega)]; exact i1
  · rw [x3 235 (by omega)]; exact i2
  · rw [x3 201 (by omega), x3 234 (by omega), x3 232 (by omega), x3 233 (by omega)]
    have e : vL (xb (sB S b β γ f) c) = vL (xb S c) := by
      show vL (if c = b then β else xb S c) = _
      by_cases q : c = b
      · subst q; rw [if_pos rfl]; exact hv
      · rw [if_neg q]
    rw [e]
    exact i3 c hc
/-- the reference's rows of a book that is none of the six -/
theorem MI2.fr7 (oS : okS S) (hI : MI2 h S T) (hF : FrN b h h1) (hb : 6 ≤ b) (hs : hia h1 218 = hia h 218) : MI2 h1 S T := by
  obtain ⟨b1, l1, w1, n1, n2, n3, s1, t1, t2, f1, f2, i1, i2, v, iv, i3⟩ := hI
  obtain ⟨-, x2, x3, x4⟩ := hF
  refine ⟨fun c hc => ⟨(b1 c hc).1.frB (oS.1 c hc).1 x2 (by omega), (b1 c hc).2.frB (oS.1 c hc).1.1 x2 (by omega)⟩, ?_, ?_, ?_, ?_, ?_, ?_, ?_, ?_, ?_, ?_, ?_, ?_, v, iv, fun c hc => ?_⟩
  · unfold LM; rw [x3 215 (by omega)]; exact l1
  · unfold WM; rw [x3 216 (by omega), x3 217 (by omega)]; exact w1
  · rw [x4 27 (by omega)]; exact n1
  · rw [x4 36 (by omega)]; exact n2
  · rw [x3 219 (by omega)]; exact n3
  · rw [hs]; exact s1
  · rw [x4 52 (by omega)]; exact t1
  · rw [x3 230 (by omega), x3 231 (by omega)]; exact t2
  · rw [x4 49 (by omega)]; exact f1
  · rw [x4 50 (by omega)]; exact f2
  · rw [x4 55 (by omega)]; exact i1
  · rw [x3 235 (by omega)]; exact i2
  · rw [x3 201 (by omega), x3 234 (by omega), x3 232 (by omega), x3 233 (by omega)]; exact i3 c hc
/-! one turn of the law -/
def XCv (e : Option (XR Int32)) (h : AH) (S' : SV) (v : Int32) : Prop := ∃ h1, Fr (fun c => c < 193) h h1 ∧ CI h1 S' ∧ e = some (.inl (v, h1))
def XCx (e : Option (XR Int32)) (h : AH) (S' : SV) (d : Nat) : Prop := ∃ h1, Fr (fun c => c < 193) h h1 ∧ CI h1 S' ∧ e = some (.inr (d, h1))
def XMc (e : Option (Int32 × AH)) (h : AH) (S' : SV) (T : Nat) (c v : Int32) : Prop := ∃ h1, Fr (fun q => 193 ≤ q ∧ q ≤ 235) h h1 ∧ MI2 h1 S' T ∧ e = some (v, h1) ∧ hfi h1 193 2 = c
theorem CI.o {v : Int64} (hI : CI h S) : CI (sla h 236 0 v) S := hI.fr (Fr.sla _ _ _ _ (Or.inr rfl))
theorem TK_v {e : Option (XR Int32)} {g : Nat × AH → Option (Int32 × AH)} {F : AH → Option (Int32 × AH)} {v : Int32} (oS' : okS S') (hM : MI2 h S T) (hc : XCv e h S' v) (hm : ∀ h', MI2 h' S T → XMc (F h') h' S' (T + 1) 0 v) : TK (bnd e (fun q => Sum.elim (fun x => some (0, sla x.2 236 0 x.1.toInt64)) g q)) F T := by
  obtain ⟨k1, f1, c1, e1⟩ := hc
  have hM1 : MI2 (sla k1 236 0 v.toInt64) S T := hM.cls ((f1.mono (fun c q => Or.inl q)).tr (Fr.sla _ _ _ _ (Or.inr rfl)))
  obtain ⟨k2, f2, m2, e2, e3⟩ := hm _ hM1
  refine ⟨(0, sla k1 236 0 v.toInt64), (v, k2), ?_, e2, e3, fun _ => ?_, S', oS', c1.o.mod (f2.mono (fun c q => q.1)), m2⟩
  · rw [e1, bnd_s]; rfl
  · have : hla k2 236 = hla (sla k1 236 0 v.toInt64) 236 := (f2 236 (by omega)).2.2.2.1
    rw [this, show cl 0 = 0 from by decide, la_sla_eq]
    exact cmp_self _
theorem TK_x {e : Option (XR Int32)} {g : Nat × AH → Option (Int32 × AH)} {k : Int32 × AH → Option (Int32 × AH)} {F : AH → Option (Int32 × AH)} {d : Nat} {c : Int32} (oS' : okS S') (hM : MI2 h S T) (hc : XCx e h S' d) (hg : ∀ h1, g (d, h1) = some (c, h1)) (h0 : c ≠ 0) (hm : ∀ h', MI2 h' S T → ∃ v, XMc (F h') h' S' (T + 1) c v) : TK (bnd e (fun q => Sum.elim k g q)) F T := by
  obtain ⟨k1, f1, c1, e1⟩ := hc
  have hM1 : MI2 k1 S T := hM.cls (f1.mono (fun c q => Or.inl q))
  obtain ⟨v, k2, f2, m2, e2, e3⟩ := hm _ hM1
  refine ⟨(c, k1), (v, k2), ?_, e2, e3, fun z => absurd z h0, S', oS', c1.mod (f2.mono (fun c q => q.1)), m2⟩
  rw [e1, bnd_s]
  exact hg k1
/-- a no of the reference -/
theorem XM_fail (c : Int32) (h' : AH) (hM : MI2 h' S T) {e : Option (Int32 × AH)} (he : e = some (0, sfi (sfi h' 193 2 0) 193 2 c)) : ∃ v, XMc e h' S (T + 1) c v := ⟨0, _, ((Fr.sfi _ _ _ _ (by omega)).tr (Fr.sfi _ _ _ _ (by omega))), ((hM.fr (code0 h').1.m).fr (FrQ.code _ 2 _ (by omega)).m).le (by omega), he, fi_sfi_eq _ _ _ _⟩
theorem XCx_id (hI : CI h S) {e : Option (XR Int32)} {d : Nat} (he : e = some (.inr (d, h))) : XCx e h S d := ⟨h, Fr.rf, hI, he⟩
theorem xs_upd (k0 : Nat) (d : Int32) (g : Nat → Int32) (r : Nat) (hg : ∀ k, k < 4 → hia h r k = g k) (h0 : k0 < 4) : ∀ k, k < 4 → hia (sia h r k0 (g k0 + d)) r k = (fun k => if k = k0 then g k0 + d else g k) k := by
  intro k hk
  rw [ia_sia]
  by_cases q : k = k0
  · rw [if_pos q]; exact (if_pos q).symm
  · rw [if_neg q, hg k hk]; exact (if_neg q).symm
end EFF
