theorem lt_b {α β : Type} (e : α) (k : α → β) : lt e k = k e := rfl
section FIL
variable {h : AH} {B g r u : Nat} {β : BV} {γ : GV} {a : LV} {i : Nat}
def WU (u : Nat) (c : Nat) : Prop := u + 1 ≤ c ∧ c ≤ u + 7
theorem CK.wu {h h' : AH} (hC : CK h B g r β γ a) (hA : adOK B g r) (hu : u = 33 ∨ u = 42) (hF : Fr (WU u) h h') : CK h' B g r β γ a := by
  obtain ⟨a1, a2, a3⟩ := hA
  exact hC.fr hF (fun c h1 h2 q => by unfold WU at q; omega) (fun q => by unfold WU at q; omega) (fun q => by unfold WU at q; omega) (fun q => by unfold WU at q; omega)
/-- the rows of leaf i -/
def UR (h : AH) (u : Nat) (β : BV) (γ : GV) (a : LV) (i : Nat) : Prop := hia h (u + 1) i = w32 (uL β γ a i) ∧ hia h (u + 2) i = w32 (uH β γ a i) ∧ hia h (u + 3) i = w32 (uTL β γ a i) ∧ hia h (u + 4) i = w32 (uTH β γ a i) ∧ hia h (u + 5) i = w32 (uM β γ a i)
theorem k_fillTail (hu : u = 33 ∨ u = 42) (hr : r = 5 ∨ r = 27) (hL : LC h r a) (oB : okB β) (oG : okG (vL β) γ) (oL : okL a) (hi : i < vL β) (e1 : hia h (u + 1) i = w32 (uL β γ a i)) (e2 : hia h (u + 2) i = w32 (uH β γ a i)) :
    ∃ h', gd (ib (w32 i) 40 = true) (bnd (f_X11_cutUp ((f_J9_max_7cf53 0 (hia h (u + 1) (cl (w32 i)))).toInt64) ((hfi h r 0).toInt64)) (fun q27 => gd (ib (w32 i) 40 = true) (lt (sia h (u + 3) (cl (w32 i)) q27) (fun h29 => gd (ib (w32 i) 40 = true) (bnd (f_X11_cutDown ((hia h29 (u + 2) (cl (w32 i))).toInt64) ((hfi h29 r 0).toInt64)) (fun q31 => gd (ib (w32 i) 40 = true) (lt (sia h29 (u + 4) (cl (w32 i)) q31) (fun h33 => bnd (f_X9_isStrange u (w32 i) h33) (fun q34 => if q34 = true then gd (ib (w32 i) 40 = true) (lt (sia h33 (u + 5) (cl (w32 i)) 0) (fun h41 => some h41)) else gd (ib (w32 i) 40 = true) (gd (ib (w32 i) 40 = true) (gd (ib (w32 i) 40 = true) (lt (sia h33 (u + 5) (cl (w32 i)) ((hia h33 (u + 3) (cl (w32 i))) + (hia h33 (u + 4) (cl (w32 i))))) (fun h39 => some h39))))))))))))) = some h' ∧ Fr (WU u) h h' ∧ UR h' u β γ a i ∧ (∀ c j, j ≠ i → hia h' c j = hia h c j) ∧ hia h' (u + 6) = hia h (u + 6) ∧ hia h' (u + 7) = hia h (u + 7) := by
  have hi4 : i < 40 := Nat.lt_of_lt_of_le hi oB.1
  have r1 := uL_rg oB oG oL hi
  have r2 := uTL_rg oB oG oL hi
  have o1 := oL.1
  have o2 := oL.2.1
  have l1 := hL.1
  have c1 : f_X11_cutUp (w64 (max 0 (uL β γ a i))) (w64 (ld a)) = some (w32 (uTL β γ a i)) := e_cutUp _ _ (by omega) (by omega) (by omega) (by omega)
  have c2 : f_X11_cutDown (w64 (uH β γ a i)) (w64 (ld a)) = some (w32 (uTH β γ a i)) := e_cutDown _ _ (by omega) (by omega) (by omega) (by omega)
  simp (disch := omega) only [w_ibN, gd_t, w_clN, e1, l1, wl_0, e_max, w_l, c1, bnd_s, lt_b, fi_sia, ia_sia_ne, e2, c2]
  unfold f_X9_isStrange
  simp (disch := omega) only [w_ibN, gd_t, w_clN, ia_sia_ne, ia_sia_eq, w_le, bnd_s]
  have fin : ∀ (z : Int), z = uM β γ a i → Fr (WU u) h (sia (sia (sia h (u + 3) i (w32 (uTL β γ a i))) (u + 4) i (w32 (uTH β γ a i))) (u + 5) i (w32 z)) ∧ UR (sia (sia (sia h (u + 3) i (w32 (uTL β γ a i))) (u + 4) i (w32 (uTH β γ a i))) (u + 5) i (w32 z)) u β γ a i ∧ (∀ c j, j ≠ i → hia (sia (sia (sia h (u + 3) i (w32 (uTL β γ a i))) (u + 4) i (w32 (uTH β γ a i))) (u + 5) i (w32 z)) c j = hia h c j) ∧ hia (sia (sia (sia h (u + 3) i (w32 (uTL β γ a i))) (u + 4) i (w32 (uTH β γ a i))) (u + 5) i (w32 z)) (u + 6) = hia h (u + 6) ∧ hia (sia (sia (sia h (u + 3) i (w32 (uTL β γ a i))) (u + 4) i (w32 (uTH β γ a i))) (u + 5) i (w32 z)) (u + 7) = hia h (u + 7) := by
    intro z hz
    subst hz
    refine ⟨((Fr.sia _ _ _ _ (by unfold WU; omega)).tr (Fr.sia _ _ _ _ (by unfold WU; omega))).tr (Fr.sia _ _ _ _ (by unfold WU; omega)), ?_, ?_, ?_, ?_⟩
    · unfold UR
      simp (disch := omega) only [ia_sia_ne, ia_sia_eq, e1, e2]
      exact ⟨trivial, trivial, trivial, trivial, trivial⟩
    · intro c j hj
      by_cases q5 : c = u + 5
      · subst q5; simp (disch := omega) only [ia_sia_nk, ia_sia_ne]
      · by_cases q4 : c = u + 4
        · subst q4; simp (disch := omega) only [ia_sia_nk, ia_sia_ne]
        · by_cases q3 : c = u + 3
          · subst q3; simp (disch := omega) only [ia_sia_nk, ia_sia_ne]
          · rw [ia_sia_ne _ _ _ _ _ q5, ia_sia_ne _ _ _ _ _ q4, ia_sia_ne _ _ _ _ _ q3]
    · simp (disch := omega) only [ia_sia_ne]
    · simp (disch := omega) only [ia_sia_ne]
  by_cases q : uTL β γ a i ≤ uTH β γ a i
  · simp (disch := omega) only [if_pos q, bnd_s, Bool.false_eq_true, if_false, ia_sia_ne, ia_sia_eq, w_add]
    exact ⟨_, rfl, fin _ (by unfold uM; rw [if_neg (by omega)])⟩
  · simp (disch := omega) only [if_neg q, bnd_s, if_true]
    exact ⟨_, rfl, fin _ (by unfold uM; rw [if_pos (by omega)])⟩
end FIL
