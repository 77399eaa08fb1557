/-! the whole state: what the class's cells and the reference's cells both say -/
abbrev SV : Type := (Nat → BV) × (Nat → GV) × (Nat → GV) × LV × WV × Nat × (Nat → Nat) × Int × Bool × (Nat → Int32) × (Nat → Int32) × Nat × (Nat → Nat) × (Nat → Nat) × Int × Int
abbrev xb (S : SV) : Nat → BV := S.1
abbrev xg (S : SV) : Nat → GV := S.2.1
abbrev xk (S : SV) : Nat → GV := S.2.2.1
abbrev xa (S : SV) : LV := S.2.2.2.1
abbrev xw (S : SV) : WV := S.2.2.2.2.1
abbrev xn (S : SV) : Nat := S.2.2.2.2.2.1
abbrev xt (S : SV) : Nat → Nat := S.2.2.2.2.2.2.1
abbrev xf (S : SV) : Int := S.2.2.2.2.2.2.2.1
abbrev xi (S : SV) : Bool := S.2.2.2.2.2.2.2.2.1
abbrev xs4 (S : SV) : Nat → Int32 := S.2.2.2.2.2.2.2.2.2.1
abbrev xks (S : SV) : Nat → Int32 := S.2.2.2.2.2.2.2.2.2.2.1
abbrev xm (S : SV) : Nat := S.2.2.2.2.2.2.2.2.2.2.2.1
abbrev xtt (S : SV) : Nat → Nat := S.2.2.2.2.2.2.2.2.2.2.2.2.1
abbrev xtg (S : SV) : Nat → Nat := S.2.2.2.2.2.2.2.2.2.2.2.2.2.1
abbrev xfx (S : SV) : Int := S.2.2.2.2.2.2.2.2.2.2.2.2.2.2.1
abbrev xfy (S : SV) : Int := S.2.2.2.2.2.2.2.2.2.2.2.2.2.2.2
def okS (S : SV) : Prop := (∀ b, b < 6 → okB (xb S b) ∧ okG (vL (xb S b)) (xg S b) ∧ okG (vL (xb S b)) (xk S b)) ∧ okL (xa S) ∧ okW (xw S) ∧ xn S ≤ 500 ∧ (∀ j, j < xn S → xt S j < 256) ∧ -1 ≤ xf S ∧ xf S ≤ 500 ∧ xm S ≤ 20 ∧ (∀ j, j < xm S → 1 ≤ xtt S j ∧ xtt S j ≤ 999 ∧ xtg S j ≤ 9999) ∧ -1 ≤ xfx S ∧ xfx S ≤ 60 ∧ 0 ≤ xfy S ∧ xfy S ≤ 60
def isB (B : Nat) : Prop := B = 6 ∨ (67 ≤ B ∧ B ≤ 157 ∧ (B - 67) % 18 = 0)
def isWy (B : Nat) : Prop := B = 24 ∨ (175 ≤ B ∧ B ≤ 190 ∧ (B - 175) % 3 = 0)
def isLw (B : Nat) : Prop := B = 5 ∨ B = 27
theorem isB_sh {B : Nat} (h : isB B) : SH B = (0, 0) := by
  have hb : ∀ B : Fin 237, (B.val = 6 ∨ (67 ≤ B.val ∧ B.val ≤ 157 ∧ (B.val - 67) % 18 = 0)) → SH B.val = (0, 0) := by decide +kernel
  exact hb ⟨B, by unfold isB at h; omega⟩ h
theorem isWy_sh {B : Nat} (h : isWy B) : SH B = (10, 0) := by
  have hb : ∀ B : Fin 237, (B.val = 24 ∨ (175 ≤ B.val ∧ B.val ≤ 190 ∧ (B.val - 175) % 3 = 0)) → SH B.val = (10, 0) := by decide +kernel
  exact hb ⟨B, by unfold isWy at h; omega⟩ h
theorem isLw_sh {B : Nat} (h : isLw B) : SH B = (5, 0) := by
  rcases h with rfl | rfl <;> decide +kernel
/-- where the class's books, ways, laws lie -/
def AD (h : AH) : Prop := (∀ b, b < 6 → isB (hra h 3 b) ∧ hra h 3 b ≠ hra h 0 4 ∧ ∀ c, c < 6 → c ≠ b → hra h 3 c ≠ hra h 3 b) ∧ isB (hra h 0 4) ∧ (∀ w, w < 6 → isWy (hra h 4 w) ∧ hra h 4 w ≠ hra h 0 5 ∧ ∀ v, v < 6 → v ≠ w → hra h 4 v ≠ hra h 4 w) ∧ isWy (hra h 0 5) ∧ isLw (hra h 0 3) ∧ isLw (hra h 0 6) ∧ hra h 0 3 ≠ hra h 0 6
def CI (h : AH) (S : SV) : Prop := AD h ∧ (∀ b, b < 6 → BC h (hra h 3 b) (xb S b) ∧ GC h (hra h 3 b + 7) (vL (xb S b)) (xg S b) ∧ GC h (hra h 3 b + 10) (vL (xb S b)) (xk S b) ∧ hfi h (hra h 3 b) 2 = orF (vk (xb S b)) (vL (xb S b))) ∧ LC h (hra h 0 3) (xa S) ∧ WC h (xw S) ∧ hfi h 1 0 = w32 (xn S) ∧ hfi h 1 2 = w32 (xf S) ∧ (∀ j, j < xn S → hia h 2 j = w32 (xt S j)) ∧ hfi h 0 10 = bI (xi S) ∧ (∀ k, k < 4 → hia h 31 k = xs4 S k) ∧ (xi S = true → ∀ k, k < 4 → hia h 32 k = xks S k) ∧ hfi h 28 0 = w32 (xm S) ∧ (∀ j, j < xm S → hia h 29 j = w32 (xtt S j) ∧ hia h 30 j = w32 (xtg S j)) ∧ hfi h 57 0 = bI (decide (xfx S ≠ -1)) ∧ (xfx S ≠ -1 → hfi h 57 1 = w32 (xfx S) ∧ hfi h 57 2 = w32 (xfy S))
/-- the image, in the reference -/
def IM (h : AH) (S : SV) (T : Nat) : Prop := hfi h 193 55 = bI (xi S) ∧ (xi S = true → ∀ k, k < 4 → hia h 235 k = xks S k) ∧ ∃ v iv : Nat → Nat, ∀ b, b < 6 → hia h 201 b = w32 (v b) ∧ v b ≤ T ∧ hia h 234 b = w32 (iv b) ∧ iv b ≤ v b ∧ (xi S = true → iv b = v b → ∀ l, l < vL (xb S b) → hia h 232 (40 * b + l) = w32 ((xk S b).1 l) ∧ ((xk S b).1 l ≠ -1 → hia h 233 (40 * b + l) = w32 ((xk S b).2 l))) ∧ (xi S = true → iv b ≠ v b → ∀ l, l < vL (xb S b) → (xk S b).1 l = -1)
def MI2 (h : AH) (S : SV) (T : Nat) : Prop := (∀ b, b < 6 → BM h b (xb S b) ∧ GM h b (vL (xb S b)) (xg S b)) ∧ LM h (xa S) ∧ WM h (xw S) ∧ hfi h 193 27 = w32 (xn S) ∧ hfi h 193 36 = w32 (xf S) ∧ (∀ j, j < xn S → hia h 219 j = w32 (xt S j)) ∧ (∀ k, k < 4 → hia h 218 k = xs4 S k) ∧ hfi h 193 52 = w32 (xm S) ∧ (∀ j, j < xm S → hia h 230 j = w32 (xtt S j) ∧ hia h 231 j = w32 (xtg S j)) ∧ hfi h 193 49 = w32 (xfx S) ∧ (xfx S ≠ -1 → hfi h 193 50 = w32 (xfy S)) ∧ IM h S T
def inv (h : AH) (T : Nat) : Prop := ∃ S : SV, okS S ∧ CI h S ∧ MI2 h S T
/-- the class's scratch cells -/
def WS (c : Nat) : Prop := (33 ≤ c ∧ c ≤ 66 ∧ c ≠ 57) ∨ c = 236
theorem isB_ws {B : Nat} (h : isB B) : ∀ c, B ≤ c → c ≤ B + 17 → ¬ WS c := fun c h1 h2 q => by unfold isB at h; unfold WS at q; omega
theorem CI.fr {h h' : AH} {S : SV} (hI : CI h S) (hF : Fr WS h h') : CI h' S := by
  obtain ⟨ad, b1, l1, w1, s1, s2, s3, i1, i2, i3, t1, t2, f1, f2⟩ := hI
  have fa : ∀ c, ¬ WS c → hia h' c = hia h c := fun c q => (hF c q).2.2.1
  have ff : ∀ c, ¬ WS c → hfi h' c = hfi h c := fun c q => (hF c q).1
  have fr : ∀ c, ¬ WS c → hra h' c = hra h c := fun c q => (hF c q).2.2.2.2
  have r3 := fr 3 (by unfold WS; omega)
  have r4 := fr 4 (by unfold WS; omega)
  have r0 := fr 0 (by unfold WS; omega)
  have ad' : AD h' := by unfold AD; rw [r3, r4, r0]; exact ad
  refine ⟨ad', fun b hb => ?_, ?_, ?_, ?_, ?_, ?_, ?_, ?_, ?_, ?_, ?_, ?_, ?_⟩
  · obtain ⟨c1, c2, c3, c4⟩ := b1 b hb
    have hB := (ad.1 b hb).1
    have nw := isB_ws hB
    rw [r3]
    exact ⟨c1.fr hF nw, c2.fr hF (nw _ (by omega) (by omega)) (nw _ (by omega) (by omega)), c3.fr hF (nw _ (by omega) (by omega)) (nw _ (by omega) (by omega)), by rw [ff _ (nw _ (by omega) (by omega))]; exact c4⟩
  · rw [r0]; exact l1.fr hF (fun q => by have := ad.2.2.2.2.1; unfold isLw at this; unfold WS at q; omega)
  · intro w hw k hk
    have hW := (ad.2.2.1 w hw).1
    rw [r4, fa _ (fun q => by unfold isWy at hW; unfold WS at q; omega), fa _ (fun q => by unfold isWy at hW; unfold WS at q; omega)]
    exact w1 w hw k hk
  · rw [ff 1 (by unfold WS; omega)]; exact s1
  · rw [ff 1 (by unfold WS; omega)]; exact s2
  · rw [fa 2 (by unfold WS; omega)]; exact s3
  · rw [ff 0 (by unfold WS; omega)]; exact i1
  · rw [fa 31 (by unfold WS; omega)]; exact i2
  · rw [fa 32 (by unfold WS; omega)]; exact i3
  · rw [ff 28 (by unfold WS; omega)]; exact t1
  · rw [fa 29 (by unfold WS; omega), fa 30 (by unfold WS; omega)]; exact t2
  · rw [ff 57 (by unfold WS; omega)]; exact f1
  · rw [ff 57 (by unfold WS; omega)]; exact f2
/-- the reference's scratch -/
def WR (c : Nat) : Prop := c < 193 ∨ c = 193 ∨ (220 ≤ c ∧ c ≤ 229) ∨ c = 236
def FrM (h h' : AH) : Prop := Fr WR h h' ∧ ∀ k, (k = 27 ∨ k = 36 ∨ k = 49 ∨ k = 50 ∨ k = 52 ∨ k = 55) → hfi h' 193 k = hfi h 193 k
theorem FrM.rf {h : AH} : FrM h h := ⟨Fr.rf, fun _ _ => rfl⟩
theorem FrM.tr {h h' h'' : AH} (x : FrM h h') (y : FrM h' h'') : FrM h h'' := ⟨x.1.tr y.1, fun k hk => (y.2 k hk).trans (x.2 k hk)⟩
theorem MI2.fr {h h' : AH} {S : SV} {T : Nat} (hI : MI2 h S T) (hF : FrM h h') : MI2 h' S T := by
  obtain ⟨b1, l1, w1, n1, n2, n3, s1, t1, t2, f1, f2, i1, i2, v, iv, i3⟩ := hI
  have fa : ∀ c, ¬ WR c → hia h' c = hia h c := fun c q => (hF.1 c q).2.2.1
  have f193 := hF.2
  have a : ∀ c, 194 ≤ c → c ≤ 219 → hia h' c = hia h c := fun c h1 h2 => fa c (by unfold WR; omega)
  have a2 : ∀ c, 230 ≤ c → c ≤ 235 → hia h' c = hia h c := fun c h1 h2 => fa c (by unfold WR; omega)
  refine ⟨fun b hb => ?_, ?_, ?_, ?_, ?_, ?_, ?_, ?_, ?_, ?_, ?_, ?_, ?_, v, iv, fun b hb => ?_⟩
  · obtain ⟨c1, c2⟩ := b1 b hb
    refine ⟨?_, ?_⟩
    · unfold BM
      rw [a 196 (by omega) (by omega), a 197 (by omega) (by omega), a 198 (by omega) (by omega), a 199 (by omega) (by omega), a 200 (by omega) (by omega), a 202 (by omega) (by omega), a 203 (by omega) (by omega), a 204 (by omega) (by omega), a 205 (by omega) (by omega), a 206 (by omega) (by omega), a 207 (by omega) (by omega), a 210 (by omega) (by omega), a 211 (by omega) (by omega), a 212 (by omega) (by omega), a 213 (by omega) (by omega), a 214 (by omega) (by omega)]
      exact c1
    · unfold GM
      rw [a 208 (by omega) (by omega), a 209 (by omega) (by omega)]
      exact c2
  · unfold LM; rw [a 215 (by omega) (by omega)]; exact l1
  · unfold WM; rw [a 216 (by omega) (by omega), a 217 (by omega) (by omega)]; exact w1
  · rw [f193 27 (by omega)]; exact n1
  · rw [f193 36 (by omega)]; exact n2
  · rw [a 219 (by omega) (by omega)]; exact n3
  · rw [a 218 (by omega) (by omega)]; exact s1
  · rw [f193 52 (by omega)]; exact t1
  · rw [a2 230 (by omega) (by omega), a2 231 (by omega) (by omega)]; exact t2
  · rw [f193 49 (by omega)]; exact f1
  · rw [f193 50 (by omega)]; exact f2
  · rw [f193 55 (by omega)]; exact i1
  · rw [a2 235 (by omega) (by omega)]; exact i2
  · rw [a 201 (by omega) (by omega), a2 234 (by omega) (by omega), a2 232 (by omega) (by omega), a2 233 (by omega) (by omega)]; exact i3 b hb
theorem MI2.le {h : AH} {S : SV} {T T' : Nat} (hI : MI2 h S T) (hT : T ≤ T') : MI2 h S T' := by
  obtain ⟨b1, l1, w1, n1, n2, n3, s1, t1, t2, f1, f2, i1, i2, v, iv, i3⟩ := hI
  exact ⟨b1, l1, w1, n1, n2, n3, s1, t1, t2, f1, f2, i1, i2, v, iv, fun b hb => ⟨(i3 b hb).1, Nat.le_trans (i3 b hb).2.1 hT, (i3 b hb).2.2⟩⟩
/-- what only the class writes is nothing to the reference -/
theorem MI2.cls {h h' : AH} {S : SV} {T : Nat} (hI : MI2 h S T) (hF : Fr (fun c => c < 193 ∨ c = 236) h h') : MI2 h' S T := hI.fr ⟨hF.mono (fun c q => by unfold WR; omega), fun k _ => by rw [(hF 193 (by omega)).1]⟩
theorem WS.cls {h h' : AH} (hF : Fr WS h h') : Fr (fun c => c < 193 ∨ c = 236) h h' := hF.mono (fun c q => by unfold WS at q; omega)
theorem CI.mod {h h' : AH} {S : SV} (hI : CI h S) (hF : Fr (fun c => 193 ≤ c) h h') : CI h' S := by
  have e : ∀ c, c < 193 → hfi h' c = hfi h c ∧ hia h' c = hia h c ∧ hra h' c = hra h c := fun c hc => ⟨(hF c (by omega)).1, (hF c (by omega)).2.2.1, (hF c (by omega)).2.2.2.2⟩
  obtain ⟨ad, b1, l1, w1, s1, s2, s3, i1, i2, i3, t1, t2, f1, f2⟩ := hI
  have r3 := (e 3 (by omega)).2.2
  have r4 := (e 4 (by omega)).2.2
  have r0 := (e 0 (by omega)).2.2
  have ad' : AD h' := by unfold AD; rw [r3, r4, r0]; exact ad
  refine ⟨ad', fun b hb => ?_, ?_, ?_, ?_, ?_, ?_, ?_, ?_, ?_, ?_, ?_, ?_, ?_⟩
  · obtain ⟨c1, c2, c3, c4⟩ := b1 b hb
    have hB := (ad.1 b hb).1
    unfold isB at hB
    rw [r3]
    exact ⟨c1.fr hF (fun c h1 h2 q => by omega), c2.fr hF (by omega) (by omega), c3.fr hF (by omega) (by omega), by rw [(e _ (by omega)).1]; exact c4⟩
  · rw [r0]; exact l1.fr hF (fun q => by have := ad.2.2.2.2.1; unfold isLw at this; omega)
  · intro w hw k hk
    have hW := (ad.2.2.1 w hw).1
    unfold isWy at hW
    rw [r4, (e _ (by omega)).2.1, (e _ (by omega)).2.1]
    exact w1 w hw k hk
  · rw [(e 1 (by omega)).1]; exact s1
  · rw [(e 1 (by omega)).1]; exact s2
  · rw [(e 2 (by omega)).2.1]; exact s3
  · rw [(e 0 (by omega)).1]; exact i1
  · rw [(e 31 (by omega)).2.1]; exact i2
  · rw [(e 32 (by omega)).2.1]; exact i3
  · rw [(e 28 (by omega)).1]; exact t1
  · rw [(e 29 (by omega)).2.1, (e 30 (by omega)).2.1]; exact t2
  · rw [(e 57 (by omega)).1]; exact f1
  · rw [(e 57 (by omega)).1]; exact f2
/-! a call that only asks -/
def RC (e : Option (XR Int32)) (h : AH) (s : Option Int) : Prop := ∃ h1, Fr WS h h1 ∧ match s with
  | some v => e = some (.inl (w32 v, h1))
  | none => e = some (.inr (0, h1))
/-- the reference's answer to it -/
def WQ (c : Nat) : Prop := c = 193 ∨ (220 ≤ c ∧ c ≤ 229)
def FrQ (h h' : AH) : Prop := Fr WQ h h' ∧ ∀ k, (k = 27 ∨ k = 36 ∨ k = 49 ∨ k = 50 ∨ k = 52 ∨ k = 55) → hfi h' 193 k = hfi h 193 k
theorem FrQ.rf {h : AH} : FrQ h h := ⟨Fr.rf, fun _ _ => rfl⟩
theorem FrQ.tr {h h' h'' : AH} (x : FrQ h h') (y : FrQ h' h'') : FrQ h h'' := ⟨x.1.tr y.1, fun k hk => (y.2 k hk).trans (x.2 k hk)⟩
theorem FrQ.code (h : AH) (k : Nat) (v : Int32) (hk : ¬ (k = 27 ∨ k = 36 ∨ k = 49 ∨ k = 50 ∨ k = 52 ∨ k = 55)) : FrQ h (sfi h 193 k v) := ⟨Fr.sfi _ _ _ _ (Or.inl rfl), fun j hj => fi_sfi_nk _ _ _ _ _ (fun e => hk (e ▸ hj))⟩
theorem FrQ.row (h : AH) (c k : Nat) (v : Int32) (hc : 220 ≤ c ∧ c ≤ 229) : FrQ h (sia h c k v) := ⟨Fr.sia _ _ _ _ (Or.inr hc), fun _ _ => rfl⟩
theorem FrQ.m {h h' : AH} (x : FrQ h h') : FrM h h' := ⟨x.1.mono (fun c q => by unfold WQ at q; unfold WR; omega), x.2⟩
def RM (e : Option (Int32 × AH)) (h : AH) (s : Option Int) : Prop := ∃ h1, FrQ h h1 ∧ match s with
  | some v => e = some (w32 v, h1) ∧ hfi h1 193 2 = 0
  | none => ∃ v, e = some (v, h1) ∧ hfi h1 193 2 = 1
/-- one turn of the law: class q, reference p -/
def TK (e : Option (Int32 × AH)) (f : AH → Option (Int32 × AH)) (T : Nat) : Prop := ∃ q p, e = some q ∧ f q.2 = some p ∧ f_X12_thrown p.2 = q.1 ∧ (q.1 = 0 → lg_cmp (hla p.2 236 (cl 0)) p.1.toInt64 = 0) ∧ inv p.2 (T + 1)
theorem cmp_self (x : Int64) : lg_cmp x x = 0 := (lg_cmp_eq x x).mpr rfl
theorem TK_ask {h : AH} {T : Nat} {e : Option (XR Int32)} {f : AH → Option (Int32 × AH)} {S : SV} (oS : okS S) (hC : CI h S) (hM : MI2 h S T) (s : Option Int) (h1 : RC e h s) (h2 : ∀ h', MI2 h' S T → RM (f h') h' s) : TK (bnd e (fun q => Sum.elim (fun x => some (0, sla x.2 236 0 x.1.toInt64)) (fun x => gd (x.1 = 0) (some (1, x.2))) q)) f T := by
  obtain ⟨k1, fr1, e1⟩ := h1
  cases s with
  | some v =>
    have e1 : e = some (.inl (w32 v, k1)) := e1
    have fr2 : Fr WS h (sla k1 236 0 (w32 v).toInt64) := fr1.tr (Fr.sla _ _ _ _ (Or.inr rfl))
    obtain ⟨k2, fq, e2, e3⟩ := h2 _ (hM.cls (WS.cls fr2))
    have hc : CI k2 S := (hC.fr fr2).mod (fq.1.mono (fun c q => by unfold WQ at q; omega))
    have hm : MI2 k2 S T := (hM.cls (WS.cls fr2)).fr fq.m
    refine ⟨(0, sla k1 236 0 (w32 v).toInt64), (w32 v, k2), ?_, e2, ?_, ?_, S, oS, hc, hm.le (by omega)⟩
    · rw [e1, bnd_s]; rfl
    · exact e3
    · intro _
      have : hla k2 236 = hla (sla k1 236 0 (w32 v).toInt64) 236 := (fq.1 236 (by unfold WQ; omega)).2.2.2.1
      rw [this, show cl 0 = 0 from by decide, la_sla_eq]
      exact cmp_self _
  | none =>
    have e1 : e = some (.inr (0, k1)) := e1
    obtain ⟨k2, fq, v, e2, e3⟩ := h2 _ (hM.cls (WS.cls fr1))
    have hc : CI k2 S := (hC.fr fr1).mod (fq.1.mono (fun c q => by unfold WQ at q; omega))
    have hm : MI2 k2 S T := (hM.cls (WS.cls fr1)).fr fq.m
    refine ⟨(1, k1), (v, k2), ?_, e2, e3, ?_, S, oS, hc, hm.le (by omega)⟩
    · rw [e1, bnd_s]; rfl
    · intro z; exact absurd (show (1 : Int32) = 0 from z) (by decide)
