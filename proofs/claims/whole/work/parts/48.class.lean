section FIL2
variable {h : AH} {B g r u : Nat} {β : BV} {γ : GV} {a : LV} {i : Nat}
def tlF (u r i : Nat) (h : AH) : Option AH := gd (ib (w32 i) 40 = true) (bnd (f_X11_cutUp ((f_J9_max_7cf53 0 (hia h (u + 1) (cl (w32 i)))).toInt64) ((hfi h r 0).toInt64)) (fun q27 => gd (ib (w32 i) 40 = true) (lt (sia h (u + 3) (cl (w32 i)) q27) (fun h29 => gd (ib (w32 i) 40 = true) (bnd (f_X11_cutDown ((hia h29 (u + 2) (cl (w32 i))).toInt64) ((hfi h29 r 0).toInt64)) (fun q31 => gd (ib (w32 i) 40 = true) (lt (sia h29 (u + 4) (cl (w32 i)) q31) (fun h33 => bnd (f_X9_isStrange u (w32 i) h33) (fun q34 => if q34 = true then gd (ib (w32 i) 40 = true) (lt (sia h33 (u + 5) (cl (w32 i)) 0) (fun h41 => some h41)) else gd (ib (w32 i) 40 = true) (gd (ib (w32 i) 40 = true) (gd (ib (w32 i) 40 = true) (lt (sia h33 (u + 5) (cl (w32 i)) ((hia h33 (u + 3) (cl (w32 i))) + (hia h33 (u + 4) (cl (w32 i))))) (fun h39 => some h39)))))))))))))
/-- only entry i of rows u+1 .. u+5 has changed -/
def Oi (u i : Nat) (h h' : AH) : Prop := Fr (WU u) h h' ∧ (∀ c j, j ≠ i → hia h' c j = hia h c j) ∧ hia h' (u + 6) = hia h (u + 6) ∧ hia h' (u + 7) = hia h (u + 7)
theorem Oi.tr {h h' h'' : AH} (x : Oi u i h h') (y : Oi u i h' h'') : Oi u i h h'' := ⟨x.1.tr y.1, fun c j hj => (y.2.1 c j hj).trans (x.2.1 c j hj), y.2.2.1.trans x.2.2.1, y.2.2.2.trans x.2.2.2⟩
theorem Oi.w (h : AH) (k : Nat) (v : Int32) (hk : 1 ≤ k ∧ k ≤ 5) : Oi u i h (sia h (u + k) i v) := by
  refine ⟨Fr.sia _ _ _ _ (by unfold WU; omega), fun c j hj => ?_, ia_sia_ne _ _ _ _ _ (by omega), ia_sia_ne _ _ _ _ _ (by omega)⟩
  by_cases q : c = u + k
  · subst q; exact ia_sia_nk _ _ _ _ _ hj
  · rw [ia_sia_ne _ _ _ _ _ q]
theorem k_fillLeaf (hC : CK h B g r β γ a) (hA : adOK B g r) (hu : u = 33 ∨ u = 42) (hi : i < vL β) : ∃ h', f_X9_fillLeaf u B g r (w32 i) (rdy γ i) h = some h' ∧ Oi u i h h' ∧ UR h' u β γ a i := by
  obtain ⟨hB, hG, hL, oB, oG, oL⟩ := id hC
  have hi4 : i < 40 := Nat.lt_of_lt_of_le hi oB.1
  have hib : ib (w32 (i : Int)) 40 = true := by rw [w_ibN _ _ (by omega)]; exact hi4
  have hcl : cl (w32 (i : Int)) = i := w_clN i (by omega)
  have hr57 := hA.2.2
  have fin : ∀ h24, Oi u i h h24 → hia h24 (u + 1) i = w32 (uL β γ a i) → hia h24 (u + 2) i = w32 (uH β γ a i) → ∃ h', tlF u r i h24 = some h' ∧ Fr (WU u) h24 h' ∧ UR h' u β γ a i ∧ (∀ c j, j ≠ i → hia h' c j = hia h24 c j) ∧ hia h' (u + 6) = hia h24 (u + 6) ∧ hia h' (u + 7) = hia h24 (u + 7) := fun h24 o e1 e2 => k_fillTail (h := h24) hu hr57 (hC.wu hA hu o.1).2.2.1 oB oG oL hi e1 e2
  unfold f_X9_fillLeaf
  rw [gd_t hib, lt_b, gd_t hib, lt_b, lt_b]
  have o4 : Oi u i h (sia (sia h (u + 1) i 0) (u + 2) i 0) := (Oi.w h 1 0 (by omega)).tr (Oi.w _ 2 0 (by omega))
  rw [show sia (sia h (u + 1) (cl (w32 (i : Int))) 0) (u + 2) (cl (w32 (i : Int))) 0 = sia (sia h (u + 1) i 0) (u + 2) i 0 from by rw [hcl]]
  have z1 : hia (sia (sia h (u + 1) i 0) (u + 2) i 0) (u + 1) i = w32 0 := by rw [ia_sia_ne _ _ _ _ _ (by omega), ia_sia_eq]; rfl
  have z2 : hia (sia (sia h (u + 1) i 0) (u + 2) i 0) (u + 2) i = w32 0 := by rw [ia_sia_eq]; rfl
  generalize sia (sia h (u + 1) i 0) (u + 2) i 0 = h4 at *
  have hC4 := hC.wu hA hu o4.1
  by_cases q : rdy γ i = true
  · obtain ⟨hr, hp⟩ := (rdy_iff γ i).mp q
    rw [if_pos q, lt_b]
    have body : ∀ (x y : Int), uL β γ a i = sBL β γ i - x - vs β i → uH β γ a i = sBH β γ i - y - vs β i → ∃ h', bnd (f_X0_bareLow B g (w32 i) h4) (fun q17 => gd (ib (w32 i) 40 = true) (gd (ib (w32 i) 40 = true) (lt (sia h4 (u + 1) (cl (w32 i)) ((q17 - w32 x) - (hia h4 (B + 6) (cl (w32 i))))) (fun h20 => bnd (f_X0_bareHigh B g (w32 i) h20) (fun q21 => gd (ib (w32 i) 40 = true) (gd (ib (w32 i) 40 = true) (lt (sia h20 (u + 2) (cl (w32 i)) ((q21 - w32 y) - (hia h20 (B + 6) (cl (w32 i))))) (fun h24 => tlF u r i h24)))))))) = some h' ∧ Oi u i h h' ∧ UR h' u β γ a i := by
      intro x y ex ey
      have s4 := (hC4.1.2.2.2.2.2.1 i hi).2.2.2.2.2
      rw [k_bareLow hC4 hi hr, bnd_s, gd_t hib, gd_t hib, lt_b, hcl, s4, w_sub, w_sub, ← ex]
      have o20 : Oi u i h4 (sia h4 (u + 1) i (w32 (uL β γ a i))) := Oi.w h4 1 _ (by omega)
      have z3 : hia (sia h4 (u + 1) i (w32 (uL β γ a i))) (u + 1) i = w32 (uL β γ a i) := ia_sia_eq _ _ _ _
      generalize sia h4 (u + 1) i (w32 (uL β γ a i)) = h20 at *
      have hC20 := hC4.wu hA hu o20.1
      have s20 := (hC20.1.2.2.2.2.2.1 i hi).2.2.2.2.2
      rw [k_bareHigh hC20 hi hr, bnd_s, gd_t hib, gd_t hib, lt_b, s20, w_sub, w_sub, ← ey]
      have o24 : Oi u i h20 (sia h20 (u + 2) i (w32 (uH β γ a i))) := Oi.w h20 2 _ (by omega)
      have z5 : hia (sia h20 (u + 2) i (w32 (uH β γ a i))) (u + 2) i = w32 (uH β γ a i) := ia_sia_eq _ _ _ _
      have z6 : hia (sia h20 (u + 2) i (w32 (uH β γ a i))) (u + 1) i = w32 (uL β γ a i) := by rw [ia_sia_ne _ _ _ _ _ (by omega)]; exact z3
      generalize sia h20 (u + 2) i (w32 (uH β γ a i)) = h24 at *
      have o := (o4.tr o20).tr o24
      obtain ⟨h', e, f1, f2, f3, f4, f5⟩ := fin h24 o z6 z5
      exact ⟨h', e, o.tr ⟨f1, f3, f4, f5⟩, f2⟩
    have eL : uL β γ a i = sUL β γ a i (prv i) := if_pos q
    have eH : uH β γ a i = sUH β γ a i (prv i) := if_pos q
    by_cases h0 : i = 0
    · subst h0
      rw [if_pos (show w32 ((0 : Nat) : Int) = 0 from rfl)]
      dsimp only
      rw [lt_b, if_pos (show w32 ((0 : Nat) : Int) = 0 from rfl)]
      exact body 0 0 eL eH
    · have hne : ¬ w32 (i : Int) = 0 := by rw [wl_0, w_eq _ _ (by omega) (by omega) (by omega) (by omega)]; omega
      have hi1 : i - 1 < vL β := by omega
      have hm : w32 (i : Int) - 1 = w32 ((i - 1 : Nat) : Int) := by rw [wl_1, w_sub]; exact ww (by omega)
      have rg := sBL_rg oB oG hi1 (hp h0)
      have hpr : prv i = some (i - 1) := if_neg h0
      rw [hpr] at eL eH
      rw [if_neg hne, hm, k_bareHigh hC4 hi1 (hp h0), bnd_s, k_through hC4.2.2.1 oL (by omega) (by omega), bnd_s]
      dsimp only
      rw [lt_b, if_neg hne, k_bareLow hC4 hi1 (hp h0), bnd_s, k_through hC4.2.2.1 oL (by omega) (by omega), bnd_s]
      exact body _ _ eL eH
  · rw [if_neg q]
    have eL : uL β γ a i = 0 := if_neg q
    have eH : uH β γ a i = 0 := if_neg q
    obtain ⟨h', e, f1, f2, f3, f4, f5⟩ := fin h4 o4 (by rw [eL]; exact z1) (by rw [eH]; exact z2)
    exact ⟨h', e, o4.tr ⟨f1, f3, f4, f5⟩, f2⟩
end FIL2
