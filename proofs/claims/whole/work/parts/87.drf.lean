/-! what a writing changes -/
def sP (S : SV) (f : Int) (s4 : Nat → Int32) : SV := (xb S, xg S, xk S, xa S, xw S, 0, xt S, f, xi S, s4, xks S, xm S, xtt S, xtg S, xfx S, xfy S)
def sPa (S : SV) (a : LV) : SV := (xb S, xg S, xk S, a, xw S, xn S, xt S, xf S, xi S, xs4 S, xks S, xm S, xtt S, xtg S, xfx S, xfy S)
def sPw (S : SV) (w : Nat) (f g : Nat → Nat) : SV := (xb S, xg S, xk S, xa S, (fun v => if v = w then f else (xw S).1 v, fun v => if v = w then g else (xw S).2 v), xn S, xt S, xf S, xi S, xs4 S, xks S, xm S, xtt S, xtg S, xfx S, xfy S)
def g0 : GV := (fun _ => -1, fun _ => 0)
def sPb (S : SV) (b : Nat) (β : BV) : SV := (fun c => if c = b then β else xb S c, fun c => if c = b then g0 else xg S c, fun c => if c = b then g0 else xk S c, xa S, xw S, xn S, xt S, xf S, xi S, xs4 S, xks S, xm S, xtt S, xtg S, xfx S, xfy S)
def Dr (h : AH) (c : Nat) : Prop := c = 1 ∨ c = 31 ∨ c = hra h 0 6 ∨ (hra h 0 5 ≤ c ∧ c ≤ hra h 0 5 + 2) ∨ (hra h 0 4 ≤ c ∧ c ≤ hra h 0 4 + 17)
section DRF
variable {h h1 : AH} {S : SV} {T : Nat}
theorem ra_sra_ne (h : AH) (a k : Nat) (v : Nat) (b : Nat) (hb : b ≠ a) : hra (sra h a k v) b = hra h b := up2_ap _ _ _ hb
theorem ra_sra (h : AH) (a k : Nat) (v : Nat) (j : Nat) : hra (sra h a k v) a j = if j = k then v else hra h a j := by show up2 h.2.2.2.2 a k v a j = _; rw [up2_at]; rfl
theorem okS_P (oS : okS S) {f : Int} {s4 : Nat → Int32} (hf : -1 ≤ f ∧ f ≤ 500) : okS (sP S f s4) := by
  obtain ⟨o1, o2, o3, o4, o5, o6, o7, o8⟩ := oS
  exact ⟨o1, o2, o3, Nat.zero_le _, fun j hj => absurd hj (Nat.not_lt_zero _), hf.1, hf.2, o8⟩
theorem okS_Pa (oS : okS S) {a : LV} (ha : okL a) : okS (sPa S a) := by
  obtain ⟨o1, o2, o3⟩ := oS
  exact ⟨o1, ha, o3⟩
theorem okS_Pw (oS : okS S) {w : Nat} {f g : Nat → Nat} (hf : ∀ k, k < 12 → f k ≤ 99 ∧ g k ≤ 50) : okS (sPw S w f g) := by
  obtain ⟨o1, o2, o3, o4⟩ := oS
  refine ⟨o1, o2, fun v hv k hk => ?_, o4⟩
  show (if v = w then f else (xw S).1 v) k ≤ 99 ∧ (if v = w then g else (xw S).2 v) k ≤ 50
  by_cases z : v = w
  · rw [if_pos z, if_pos z]; exact hf k hk
  · rw [if_neg z, if_neg z]; exact o3 v hv k hk
theorem okS_Pb (oS : okS S) {b : Nat} {β : BV} (hB : okB β) : okS (sPb S b β) := by
  obtain ⟨o1, o2⟩ := oS
  refine ⟨fun c hc => ?_, o2⟩
  show okB (if c = b then β else xb S c) ∧ okG (vL (if c = b then β else xb S c)) (if c = b then g0 else xg S c) ∧ okG (vL (if c = b then β else xb S c)) (if c = b then g0 else xk S c)
  by_cases z : c = b
  · rw [if_pos z, if_pos z, if_pos z]
    exact ⟨hB, fun l _ => Or.inl rfl, fun l _ => Or.inl rfl⟩
  · rw [if_neg z, if_neg z, if_neg z]; exact o1 c hc
theorem CI.drf {f : Int} {s4 : Nat → Int32} (hI : CI h S) (hF : Fr (Dr h) h h1) (h0 : hfi h1 1 0 = 0) (h2 : hfi h1 1 2 = w32 f) (hs : ∀ k, k < 4 → hia h1 31 k = s4 k) : CI h1 (sP S f s4) := by
  obtain ⟨ad, b1, l1, w1, s1, s2, s3, i1, i2, i3, t1, t2, f1, f2⟩ := hI
  have d4 := ad.2.1
  have d5 := ad.2.2.2.1
  have d6 := ad.2.2.2.2.2.1
  unfold isB at d4
  unfold isWy at d5
  unfold isLw at d6
  have nd : ∀ c, (c = 0 ∨ c = 2 ∨ c = 3 ∨ c = 4 ∨ (28 ≤ c ∧ c ≤ 66 ∧ c ≠ 31)) → ¬ Dr h c := fun c q z => by unfold Dr at z; omega
  have fa : ∀ c, ¬ Dr h c → hia h1 c = hia h c := fun c q => (hF c q).2.2.1
  have ff : ∀ c, ¬ Dr h c → hfi h1 c = hfi h c := fun c q => (hF c q).1
  have fr : ∀ c, ¬ Dr h c → hra h1 c = hra h c := fun c q => (hF c q).2.2.2.2
  have r3 := fr 3 (nd _ (by omega))
  have r4 := fr 4 (nd _ (by omega))
  have r0 := fr 0 (nd _ (by omega))
  have ad' : AD h1 := by unfold AD; rw [r3, r4, r0]; exact ad
  refine ⟨ad', fun b hb => ?_, ?_, ?_, h0, h2, fun j hj => absurd hj (Nat.not_lt_zero _), ?_, hs, ?_, ?_, ?_, ?_, ?_⟩
  · obtain ⟨c1, c2, c3, c4⟩ := b1 b hb
    have hB := (ad.1 b hb).1
    have hn := (ad.1 b hb).2.1
    unfold isB at hB
    have nB : ∀ d, hra h 3 b ≤ d → d ≤ hra h 3 b + 17 → ¬ Dr h d := fun d h1 h2 z => by unfold Dr at z; omega
    rw [r3]
    exact ⟨c1.fr hF nB, c2.fr hF (nB _ (by omega) (by omega)) (nB _ (by omega) (by omega)), c3.fr hF (nB _ (by omega) (by omega)) (nB _ (by omega) (by omega)), by rw [ff _ (nB _ (by omega) (by omega))]; exact c4⟩
  · rw [r0]
    have := ad.2.2.2.2.1
    have hn := ad.2.2.2.2.2.2
    unfold isLw at this
    exact l1.fr hF (fun q => by unfold Dr at q; omega)
  · intro w hw k hk
    have hW := (ad.2.2.1 w hw).1
    have hn := (ad.2.2.1 w hw).2.1
    unfold isWy at hW
    have nB : ∀ d, hra h 4 w ≤ d → d ≤ hra h 4 w + 2 → ¬ Dr h d := fun d h1 h2 z => by unfold Dr at z; omega
    rw [r4, fa _ (nB _ (by omega) (by omega)), fa _ (nB _ (by omega) (by omega))]
    exact w1 w hw k hk
  · rw [ff 0 (nd _ (by omega))]; exact i1
  · rw [fa 32 (nd _ (by omega))]; exact i3
  · rw [ff 28 (nd _ (by omega))]; exact t1
  · rw [fa 29 (nd _ (by omega)), fa 30 (nd _ (by omega))]; exact t2
  · rw [ff 57 (nd _ (by omega))]; exact f1
  · rw [ff 57 (nd _ (by omega))]; exact f2
theorem CI.swL {a : LV} (hI : CI h S) (hL : LC h (hra h 0 6) a) : CI (sra (sra h 0 3 (hra h 0 6)) 0 6 (hra h 0 3)) (sPa S a) := by
  obtain ⟨ad, b1, l1, w1, rest⟩ := hI
  obtain ⟨a1, a2, a3, a4, a5, a6, a7⟩ := ad
  have r3 : hra (sra (sra h 0 3 (hra h 0 6)) 0 6 (hra h 0 3)) 3 = hra h 3 := by rw [ra_sra_ne _ _ _ _ _ (by omega), ra_sra_ne _ _ _ _ _ (by omega)]
  have r4 : hra (sra (sra h 0 3 (hra h 0 6)) 0 6 (hra h 0 3)) 4 = hra h 4 := by rw [ra_sra_ne _ _ _ _ _ (by omega), ra_sra_ne _ _ _ _ _ (by omega)]
  have q4 : hra (sra (sra h 0 3 (hra h 0 6)) 0 6 (hra h 0 3)) 0 4 = hra h 0 4 := by rw [ra_sra, if_neg (by omega), ra_sra, if_neg (by omega)]
  have q5 : hra (sra (sra h 0 3 (hra h 0 6)) 0 6 (hra h 0 3)) 0 5 = hra h 0 5 := by rw [ra_sra, if_neg (by omega), ra_sra, if_neg (by omega)]
  have q3 : hra (sra (sra h 0 3 (hra h 0 6)) 0 6 (hra h 0 3)) 0 3 = hra h 0 6 := by rw [ra_sra, if_neg (by omega), ra_sra, if_pos rfl]
  have q6 : hra (sra (sra h 0 3 (hra h 0 6)) 0 6 (hra h 0 3)) 0 6 = hra h 0 3 := by rw [ra_sra, if_pos rfl]
  refine ⟨?_, ?_, ?_, ?_, rest⟩
  · unfold AD
    rw [r3, r4, q4, q5, q3, q6]
    exact ⟨a1, a2, a3, a4, a6, a5, fun z => a7 z.symm⟩
  · rw [r3]; exact b1
  · rw [q3]; exact hL
  · unfold WC; rw [r4]; exact w1
theorem CI.swW {w : Nat} {f g : Nat → Nat} (hw : w < 6) (hI : CI h S) (hW : WC1 h (hra h 0 5) f g) : CI (sra (sra h 4 w (hra h 0 5)) 0 5 (hra h 4 w)) (sPw S w f g) := by
  obtain ⟨ad, b1, l1, w1, rest⟩ := hI
  obtain ⟨a1, a2, a3, a4, a5, a6, a7⟩ := ad
  have r3 : hra (sra (sra h 4 w (hra h 0 5)) 0 5 (hra h 4 w)) 3 = hra h 3 := by rw [ra_sra_ne _ _ _ _ _ (by omega), ra_sra_ne _ _ _ _ _ (by omega)]
  have r4 : ∀ v, hra (sra (sra h 4 w (hra h 0 5)) 0 5 (hra h 4 w)) 4 v = if v = w then hra h 0 5 else hra h 4 v := fun v => by rw [ra_sra_ne _ _ _ _ _ (by omega), ra_sra]
  have q : ∀ k, k ≠ 5 → hra (sra (sra h 4 w (hra h 0 5)) 0 5 (hra h 4 w)) 0 k = hra h 0 k := fun k hk => by rw [ra_sra, if_neg hk, ra_sra_ne _ _ _ _ _ (by omega)]
  have q5 : hra (sra (sra h 4 w (hra h 0 5)) 0 5 (hra h 4 w)) 0 5 = hra h 4 w := by rw [ra_sra, if_pos rfl]
  refine ⟨?_, ?_, ?_, ?_, rest⟩
  · unfold AD
    rw [r3, q 4 (by omega), q5, q 3 (by omega), q 6 (by omega)]
    refine ⟨a1, a2, fun v hv => ?_, (a3 w hw).1, a5, a6, a7⟩
    rw [r4]
    by_cases z : v = w
    · rw [if_pos z]
      refine ⟨a4, fun y => (a3 w hw).2.1 y.symm, fun u hu hne => ?_⟩
      rw [r4, if_neg (by omega)]
      exact (a3 u hu).2.1
    · rw [if_neg z]
      refine ⟨(a3 v hv).1, (a3 w hw).2.2 v hv z, fun u hu hne => ?_⟩
      rw [r4]
      by_cases y : u = w
      · rw [if_pos y]; exact fun x => (a3 v hv).2.1 x.symm
      · rw [if_neg y]; exact (a3 v hv).2.2 u hu hne
  · rw [r3]; exact b1
  · rw [q 3 (by omega)]; exact l1
  · intro v hv
    rw [r4]
    show WC1 h _ (if v = w then f else (xw S).1 v) (if v = w then g else (xw S).2 v)
    by_cases z : v = w
    · rw [if_pos z, if_pos z, if_pos z]; exact hW
    · rw [if_neg z, if_neg z, if_neg z]; exact w1 v hv
theorem CI.swB {b : Nat} {β : BV} (hb : b < 6) (hI : CI h S) (hB : BC h (hra h 0 4) β) (hG : ∀ l, l < vL β → hia h (hra h 0 4 + 8) l = -1 ∧ hia h (hra h 0 4 + 11) l = -1) (hk : hfi h (hra h 0 4) 2 = orF (vk β) (vL β)) : CI (sra (sra h 3 b (hra h 0 4)) 0 4 (hra h 3 b)) (sPb S b β) := by
  obtain ⟨ad, b1, l1, w1, rest⟩ := hI
  obtain ⟨a1, a2, a3, a4, a5, a6, a7⟩ := ad
  have r4 : hra (sra (sra h 3 b (hra h 0 4)) 0 4 (hra h 3 b)) 4 = hra h 4 := by rw [ra_sra_ne _ _ _ _ _ (by omega), ra_sra_ne _ _ _ _ _ (by omega)]
  have r3 : ∀ v, hra (sra (sra h 3 b (hra h 0 4)) 0 4 (hra h 3 b)) 3 v = if v = b then hra h 0 4 else hra h 3 v := fun v => by rw [ra_sra_ne _ _ _ _ _ (by omega), ra_sra]
  have q : ∀ k, k ≠ 4 → hra (sra (sra h 3 b (hra h 0 4)) 0 4 (hra h 3 b)) 0 k = hra h 0 k := fun k hk => by rw [ra_sra, if_neg hk, ra_sra_ne _ _ _ _ _ (by omega)]
  have q4 : hra (sra (sra h 3 b (hra h 0 4)) 0 4 (hra h 3 b)) 0 4 = hra h 3 b := by rw [ra_sra, if_pos rfl]
  refine ⟨?_, fun v hv => ?_, ?_, ?_, rest⟩
  · unfold AD
    rw [r4, q 5 (by omega), q4, q 3 (by omega), q 6 (by omega)]
    refine ⟨fun v hv => ?_, (a1 b hb).1, a3, a4, a5, a6, a7⟩
    rw [r3]
    by_cases z : v = b
    · rw [if_pos z]
      refine ⟨a2, fun y => (a1 b hb).2.1 y.symm, fun u hu hne => ?_⟩
      rw [r3, if_neg (by omega)]
      exact (a1 u hu).2.1
    · rw [if_neg z]
      refine ⟨(a1 v hv).1, (a1 b hb).2.2 v hv z, fun u hu hne => ?_⟩
      rw [r3]
      by_cases y : u = b
      · rw [if_pos y]; exact fun x => (a1 v hv).2.1 x.symm
      · rw [if_neg y]; exact (a1 v hv).2.2 u hu hne
  · rw [r3]
    show BC h _ (if v = b then β else xb S v) ∧ GC h _ (vL (if v = b then β else xb S v)) (if v = b then g0 else xg S v) ∧ GC h _ (vL (if v = b then β else xb S v)) (if v = b then g0 else xk S v) ∧ hfi h _ 2 = orF (vk (if v = b then β else xb S v)) (vL (if v = b then β else xb S v))
    by_cases z : v = b
    · rw [if_pos z, if_pos z, if_pos z, if_pos z]
      exact ⟨hB, fun l hl => ⟨(hG l hl).1, fun y => absurd rfl y⟩, fun l hl => ⟨(hG l hl).2, fun y => absurd rfl y⟩, hk⟩
    · rw [if_neg z, if_neg z, if_neg z, if_neg z]; exact b1 v hv
  · rw [q 3 (by omega)]; exact l1
  · unfold WC; rw [r4]; exact w1
/-! the reference's side -/
def FrD (h h1 : AH) : Prop := Fr (fun q => 193 ≤ q ∧ q ≤ 235) h h1 ∧ FrB 6 h h1 ∧ (∀ c, (c = 201 ∨ (230 ≤ c ∧ c ≤ 235)) → hia h1 c = hia h c) ∧ (∀ j, j < 3 → hia h1 215 j = hia h 215 j) ∧ (∀ j, j < 72 → hia h1 216 j = hia h 216 j ∧ hia h1 217 j = hia h 217 j) ∧ (∀ k, (k = 49 ∨ k = 50 ∨ k = 52 ∨ k = 55) → hfi h1 193 k = hfi h 193 k)
theorem FrD.rf : FrD h h := ⟨Fr.rf, ⟨fun _ _ _ _ _ => rfl, fun _ _ _ _ _ _ _ => rfl, fun _ _ _ _ _ _ _ => rfl, fun _ _ _ _ _ _ _ => rfl⟩, fun _ _ => rfl, fun _ _ => rfl, fun _ _ => ⟨rfl, rfl⟩, fun _ _ => rfl⟩
theorem FrD.tr {h2 : AH} (x : FrD h h1) (y : FrD h1 h2) : FrD h h2 := by
  obtain ⟨x1, ⟨x2, x3, x4, x5⟩, x6, x7, x8, x9⟩ := x
  obtain ⟨y1, ⟨y2, y3, y4, y5⟩, y6, y7, y8, y9⟩ := y
  exact ⟨x1.tr y1, ⟨fun r a1 a2 c a3 => (y2 r a1 a2 c a3).trans (x2 r a1 a2 c a3), fun r a1 a2 c l a3 a4 => (y3 r a1 a2 c l a3 a4).trans (x3 r a1 a2 c l a3 a4), fun r a1 a2 c l a3 a4 => (y4 r a1 a2 c l a3 a4).trans (x4 r a1 a2 c l a3 a4), fun r a1 a2 c l a3 a4 => (y5 r a1 a2 c l a3 a4).trans (x5 r a1 a2 c l a3 a4)⟩, fun c q => (y6 c q).trans (x6 c q), fun j q => (y7 j q).trans (x7 j q), fun j q => ⟨(y8 j q).1.trans (x8 j q).1, (y8 j q).2.trans (x8 j q).2⟩, fun k q => (y9 k q).trans (x9 k q)⟩
theorem FrD.fl (h : AH) (k : Nat) (v : Int32) (hk : ¬ (k = 49 ∨ k = 50 ∨ k = 52 ∨ k = 55)) : FrD h (sfi h 193 k v) := ⟨Fr.sfi _ _ _ _ (by omega), ⟨fun _ _ _ _ _ => rfl, fun _ _ _ _ _ _ _ => rfl, fun _ _ _ _ _ _ _ => rfl, fun _ _ _ _ _ _ _ => rfl⟩, fun _ _ => rfl, fun _ _ => rfl, fun _ _ => ⟨rfl, rfl⟩, fun j hj => fi_sfi_nk _ _ _ _ _ (by omega)⟩
theorem FrD.fk {K : Nat → Prop} (x : FK K h h1) (hk : ∀ k, K k → ¬ (k = 49 ∨ k = 50 ∨ k = 52 ∨ k = 55)) : FrD h h1 := by
  have a : ∀ c, c ≠ 193 → hia h1 c = hia h c := fun c q => (x.1 c q).2.2.1
  exact ⟨x.1.mono (fun c q => by omega), ⟨fun r _ _ c _ => by rw [a r (by omega)], fun r _ _ c l _ _ => by rw [a r (by omega)], fun r _ _ c l _ _ => by rw [a r (by omega)], fun r _ _ c l _ _ => by rw [a r (by omega)]⟩, fun c q => a c (by omega), fun j _ => by rw [a 215 (by omega)], fun j _ => by rw [a 216 (by omega), a 217 (by omega)]; exact ⟨rfl, rfl⟩, fun k q => x.2 k (fun y => hk k y q)⟩
theorem FrD.ke (x : FK KTe h h1) : FrD h h1 := FrD.fk x (fun k z => by unfold KTe at z; omega)
theorem FrD.w (h : AH) (r k : Nat) (v : Int32) (hr : (196 ≤ r ∧ r ≤ 200 ∧ k = 6) ∨ (202 ≤ r ∧ r ≤ 209 ∧ 240 ≤ k ∧ k < 280) ∨ (210 ≤ r ∧ r ≤ 211 ∧ 24 ≤ k ∧ k < 28) ∨ r = 218 ∨ (r = 215 ∧ 3 ≤ k) ∨ ((r = 216 ∨ r = 217) ∧ 72 ≤ k)) : FrD h (sia h r k v) := by
  refine ⟨Fr.sia _ _ _ _ (by omega), ⟨fun r' a1 a2 c hc => ?_, fun r' a1 a2 c l hc hl => ?_, fun r' a1 a2 c l hc hl => ?_, fun r' a1 a2 c l hc hl => ?_⟩, fun c q => ?_, fun j q => ?_, fun j q => ⟨?_, ?_⟩, fun _ _ => rfl⟩
  · rw [ia_any, if_neg (by omega)]
  · rw [ia_any, if_neg (by omega)]
  · rw [ia_any, if_neg (by omega)]
  · rw [ia_any, if_neg (by omega)]
  · exact ia_sia_ne _ _ _ _ _ (by omega)
  · rw [ia_any, if_neg (by omega)]
  · rw [ia_any, if_neg (by omega)]
  · rw [ia_any, if_neg (by omega)]
theorem MI2.drf {f : Int} {s4 : Nat → Int32} (oS : okS S) (hM : MI2 h S T) (hF : FrD h h1) (h27 : hfi h1 193 27 = 0) (h36 : hfi h1 193 36 = w32 f) (hs : ∀ k, k < 4 → hia h1 218 k = s4 k) : MI2 h1 (sP S f s4) T := by
  obtain ⟨b1, l1, w1, n1, n2, n3, s1, t1, t2, f1, f2, i1, i2, v, iv, i3⟩ := hM
  obtain ⟨-, x2, x3, x5, x6, x4⟩ := hF
  refine ⟨fun c hc => ⟨(b1 c hc).1.frB (oS.1 c hc).1 x2 (by omega), (b1 c hc).2.frB (oS.1 c hc).1.1 x2 (by omega)⟩, ?_, ?_, h27, h36, fun j hj => absurd hj (Nat.not_lt_zero _), hs, ?_, ?_, ?_, ?_, ?_, ?_, v, iv, fun c hc => ?_⟩
  · unfold LM; rw [x5 0 (by omega), x5 1 (by omega), x5 2 (by omega)]; exact l1
  · intro w hw k hk; rw [(x6 (12 * w + k) (by omega)).1, (x6 (12 * w + k) (by omega)).2]; exact w1 w hw k hk
  · rw [x4 52 (by omega)]; exact t1
  · rw [x3 230 (by omega), x3 231 (by omega)]; exact t2
  · rw [x4 49 (by omega)]; exact f1
  · rw [x4 50 (by omega)]; exact f2
  · rw [x4 55 (by omega)]; exact i1
  · rw [x3 235 (by omega)]; exact i2
  · rw [x3 201 (by omega), x3 234 (by omega), x3 232 (by omega), x3 233 (by omega)]; exact i3 c hc
theorem BM.frc {b : Nat} {β : BV} {W : Nat → Prop} (hB : BM h b β) (hF : Fr W h h1) (hW : ∀ c, 196 ≤ c → c ≤ 214 → ¬ W c) : BM h1 b β := by
  have a : ∀ c, 196 ≤ c → c ≤ 214 → hia h1 c = hia h c := fun c z1 z2 => (hF c (hW c z1 z2)).2.2.1
  unfold BM
  rw [a 196 (by omega) (by omega), a 197 (by omega) (by omega), a 198 (by omega) (by omega), a 199 (by omega) (by omega), a 200 (by omega) (by omega), a 202 (by omega) (by omega), a 203 (by omega) (by omega), a 204 (by omega) (by omega), a 205 (by omega) (by omega), a 206 (by omega) (by omega), a 207 (by omega) (by omega), a 210 (by omega) (by omega), a 211 (by omega) (by omega), a 212 (by omega) (by omega), a 213 (by omega) (by omega), a 214 (by omega) (by omega)]
  exact hB
theorem MI2.setL {a : LV} (hM : MI2 h S T) (hF : Fr (fun c => c = 215) h h1) (hL : LM h1 a) : MI2 h1 (sPa S a) T := by
  obtain ⟨b1, l1, w1, n1, n2, n3, s1, t1, t2, f1, f2, i1, i2, v, iv, i3⟩ := hM
  have x3 : ∀ c, c ≠ 215 → hia h1 c = hia h c := fun c q => (hF c q).2.2.1
  have x4 : hfi h1 193 = hfi h 193 := (hF 193 (by omega)).1
  refine ⟨fun c hc => ⟨(b1 c hc).1.frc hF (by omega), ?_⟩, hL, ?_, ?_, ?_, ?_, ?_, ?_, ?_, ?_, ?_, ?_, ?_, v, iv, fun c hc => ?_⟩
  · unfold GM; rw [x3 208 (by omega), x3 209 (by omega)]; exact (b1 c hc).2
  · unfold WM; rw [x3 216 (by omega), x3 217 (by omega)]; exact w1
  · rw [x4]; exact n1
  · rw [x4]; exact n2
  · rw [x3 219 (by omega)]; exact n3
  · rw [x3 218 (by omega)]; exact s1
  · rw [x4]; exact t1
  · rw [x3 230 (by omega), x3 231 (by omega)]; exact t2
  · rw [x4]; exact f1
  · rw [x4]; exact f2
  · rw [x4]; exact i1
  · rw [x3 235 (by omega)]; exact i2
  · rw [x3 201 (by omega), x3 234 (by omega), x3 232 (by omega), x3 233 (by omega)]; exact i3 c hc
theorem MI2.setW {w : Nat} {f g : Nat → Nat} (hM : MI2 h S T) (hF : Fr (fun c => c = 216 ∨ c = 217) h h1) (hW : WM h1 (xw (sPw S w f g))) : MI2 h1 (sPw S w f g) T := by
  obtain ⟨b1, l1, w1, n1, n2, n3, s1, t1, t2, f1, f2, i1, i2, v, iv, i3⟩ := hM
  have x3 : ∀ c, ¬ (c = 216 ∨ c = 217) → hia h1 c = hia h c := fun c q => (hF c q).2.2.1
  have x4 : hfi h1 193 = hfi h 193 := (hF 193 (by omega)).1
  refine ⟨fun c hc => ⟨(b1 c hc).1.frc hF (by omega), ?_⟩, ?_, hW, ?_, ?_, ?_, ?_, ?_, ?_, ?_, ?_, ?_, ?_, v, iv, fun c hc => ?_⟩
  · unfold GM; rw [x3 208 (by omega), x3 209 (by omega)]; exact (b1 c hc).2
  · unfold LM; rw [x3 215 (by omega)]; exact l1
  · rw [x4]; exact n1
  · rw [x4]; exact n2
  · rw [x3 219 (by omega)]; exact n3
  · rw [x3 218 (by omega)]; exact s1
  · rw [x4]; exact t1
  · rw [x3 230 (by omega), x3 231 (by omega)]; exact t2
  · rw [x4]; exact f1
  · rw [x4]; exact f2
  · rw [x4]; exact i1
  · rw [x3 235 (by omega)]; exact i2
  · rw [x3 201 (by omega), x3 234 (by omega), x3 232 (by omega), x3 233 (by omega)]; exact i3 c hc
/-- a book written: one version more -/
theorem MI2.setB {b : Nat} {β : BV} (hb : b < 6) (oS : okS S) (hT : T ≤ 1000000) (hM : MI2 h S T) (hF : FrN b h h1) (hs : hia h1 218 = hia h 218) (hB : BM h1 b β) (hG : ∀ l, l < vL β → hia h1 208 (40 * b + l) = -1) : MI2 (sia h1 201 b (hia h1 201 b + 1)) (sPb S b β) (T + 1) := by
  obtain ⟨b1, l1, w1, n1, n2, n3, s1, t1, t2, f1, f2, i1, i2, v, iv, i3⟩ := hM
  obtain ⟨-, x2, x3, x4⟩ := hF
  have y : ∀ c, c ≠ 201 → hia (sia h1 201 b (hia h1 201 b + 1)) c = hia h1 c := fun c q => ia_sia_ne _ _ _ _ _ q
  have fb : Fr (fun c => c = 201) h1 (sia h1 201 b (hia h1 201 b + 1)) := Fr.sia _ _ _ _ rfl
  have bm : ∀ {c : Nat} {β' : BV}, BM h1 c β' → BM (sia h1 201 b (hia h1 201 b + 1)) c β' := fun {c β'} z => by
    unfold BM
    rw [y 196 (by omega), y 197 (by omega), y 198 (by omega), y 199 (by omega), y 200 (by omega), y 202 (by omega), y 203 (by omega), y 204 (by omega), y 205 (by omega), y 206 (by omega), y 207 (by omega), y 210 (by omega), y 211 (by omega), y 212 (by omega), y 213 (by omega), y 214 (by omega)]
    exact z
  refine ⟨fun c hc => ?_, ?_, ?_, ?_, ?_, ?_, ?_, ?_, ?_, ?_, ?_, ?_, ?_, fun c => if c = b then v c + 1 else v c, iv, fun c hc => ?_⟩
  · show BM _ c (if c = b then β else xb S c) ∧ GM _ c (vL (if c = b then β else xb S c)) (if c = b then g0 else xg S c)
    by_cases q : c = b
    · subst q
      rw [if_pos rfl, if_pos rfl]
      exact ⟨bm hB, fun l hl => ⟨by rw [y 208 (by omega)]; exact hG l hl, fun z => absurd rfl z⟩⟩
    · rw [if_neg q, if_neg q]
      refine ⟨bm ((b1 c hc).1.frB (oS.1 c hc).1 x2 q), ?_⟩
      unfold GM
      rw [y 208 (by omega), y 209 (by omega)]
      exact (b1 c hc).2.frB (oS.1 c hc).1.1 x2 q
  · unfold LM; rw [y 215 (by omega), x3 215 (by omega)]; exact l1
  · unfold WM; rw [y 216 (by omega), x3 216 (by omega), y 217 (by omega), x3 217 (by omega)]; exact w1
  · rw [fi_sia, x4 27 (by omega)]; exact n1
  · rw [fi_sia, x4 36 (by omega)]; exact n2
  · rw [y 219 (by omega), x3 219 (by omega)]; exact n3
  · rw [y 218 (by omega), hs]; exact s1
  · rw [fi_sia, x4 52 (by omega)]; exact t1
  · rw [y 230 (by omega), x3 230 (by omega), y 231 (by omega), x3 231 (by omega)]; exact t2
  · rw [fi_sia, x4 49 (by omega)]; exact f1
  · rw [fi_sia, x4 50 (by omega)]; exact f2
  · rw [fi_sia, x4 55 (by omega)]; exact i1
  · rw [y 235 (by omega), x3 235 (by omega)]; exact i2
  · obtain ⟨j1, j2, j3, j4, j5, j6⟩ := i3 c hc
    rw [y 234 (by omega), x3 234 (by omega), y 232 (by omega), x3 232 (by omega), y 233 (by omega), x3 233 (by omega)]
    show _ = w32 ((if c = b then v c + 1 else v c : Nat) : Int) ∧ (if c = b then v c + 1 else v c) ≤ T + 1 ∧ _ ∧ iv c ≤ (if c = b then v c + 1 else v c) ∧ (xi S = true → iv c = (if c = b then v c + 1 else v c) → ∀ l, l < vL (if c = b then β else xb S c) → hia h 232 (40 * c + l) = w32 ((if c = b then g0 else xk S c).1 l) ∧ ((if c = b then g0 else xk S c).1 l ≠ -1 → hia h 233 (40 * c + l) = w32 ((if c = b then g0 else xk S c).2 l))) ∧ (xi S = true → iv c ≠ (if c = b then v c + 1 else v c) → ∀ l, l < vL (if c = b then β else xb S c) → (if c = b then g0 else xk S c).1 l = -1)
    by_cases q : c = b
    · subst q
      rw [if_pos rfl, if_pos rfl, if_pos rfl]
      exact ⟨by rw [ia_sia_eq, x3 201 (by omega), j1, wl_1, w_add, w_s], by omega, j3, by omega, fun _ z => by omega, fun _ _ _ _ => rfl⟩
    · rw [if_neg q, if_neg q, if_neg q]
      exact ⟨by rw [ia_sia_nk _ _ _ _ _ q, x3 201 (by omega)]; exact j1, by omega, j3, j4, j5, j6⟩
end DRF
