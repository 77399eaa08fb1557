def lowTab : List Nat := [14, 17, 64, 75, 78, 93, 96, 111, 114, 129, 132, 147, 150, 165, 168]
def h0fi (r : Nat) : Nat → Int32 := if r = 1 then fun k => ([0, 0, -1, 0, 0, 0, 0, 0, 0] : List Int32).getD k 0 else if r = 5 then fun k => ([2, 20, 3, 0] : List Int32).getD k 0 else if r = 27 then fun k => ([2, 20, 3, 0] : List Int32).getD k 0 else if r = 193 then fun k => ([0, 0, 0, 0, 0, 0, 0, 0, 0, 0, 0, 0, 0, 0, 0, 0, 0, 0, 0, 0, 0, 0, 0, 0, 0, 0, 0, 0, 0, 0, 0, 0, 0, 0, 0, 0, -1, 0, 0, 0, 0, 0, 0, 0, 0, 0, 0, 0, 0, -1, 0, 0, 0, 0, 0, 0, 0, 0, 0, 0] : List Int32).getD k 0 else fun _ => 0
def h0ia (r : Nat) : Nat → Int32 := if lowTab.contains r = true then pF (fun _ => 0) (-1) 40 else if r = 216 then pF (fun _ => 0) (-1) 84 else if r = 215 then (upd (upd (upd (upd (upd (upd (fun _ => 0) 0 2) 1 20) 2 3) 3 0) 4 0) 5 0) else fun _ => 0
def h0ra (r : Nat) : Nat → Nat := if r = 0 then fun k => ([0, 0, 0, 5, 6, 24, 27, 0, 0, 0, 0, 0, 0, 0, 0, 0, 0, 0, 0] : List Nat).getD k 0 else if r = 3 then fun j => 67 + 18 * j else if r = 4 then fun j => 175 + 3 * j else fun _ => 0
def h0 : AH := (h0fi, fun _ _ => 0, h0ia, fun _ _ => 0, h0ra)
def ceq (c c' : va_E) : Prop := ∀ (D : va_G) (cl : List vw_C) (r : Nat) (H : Heap), va_at D cl (r, c) H → va_at D cl (r, c') H
theorem ceq_of {c c' : va_E} (e : c' = c) : ceq c c' := by subst e; exact fun _ _ _ _ h => h
theorem ceq_q {cA : ClassId} {n : Nat} {f g : Nat → Option Nat} (h : ∀ j, j < n → f j = g j) : ceq (.inl (cA, n, .inr (.inr (.inr (.inr f))))) (.inl (cA, n, .inr (.inr (.inr (.inr g))))) := by
  intro D cl r H hh
  have e : arrV cA n (fun j => va_rf (f j)) = arrV cA n (fun j => va_rf (g j)) := by
    have hs : ∀ (j : Nat), (arrV cA n (fun j => va_rf (f j))).slots[j]? = (arrV cA n (fun j => va_rf (g j))).slots[j]? := by
      intro j
      by_cases hj : j < n
      · simp [arrV, hj, h j hj]
      · simp [arrV, hj]
    unfold arrV at hs ⊢
    congr 1
    exact Array.ext_getElem? hs
  show H[r]? = some (vp_cell cA (n, .inr (.inr (.inr (.inr g)))))
  have hh : H[r]? = some (vp_cell cA (n, .inr (.inr (.inr (.inr f))))) := hh
  rw [hh, vp_cell_q, vp_cell_q, e]
def OKc (G : GG) (a : Nat) (l : List va_E) : Prop := ∀ (k : Nat) (c : va_E), l[k]? = some c → ceq c (cel G h0 (a + k))
theorem okc_nil (G : GG) (a : Nat) : OKc G a [] := fun k c h => by simp at h
theorem okc_cons {G : GG} {a b : Nat} {x : va_E} {l : List va_E} (h : ceq x (cel G h0 a)) (hb : a + 1 = b) (t : OKc G b l) : OKc G a (x :: l) := by
  subst hb
  intro k c hk
  cases k with
  | zero => cases hk; exact h
  | succ k => rw [List.getElem?_cons_succ] at hk; have := t k c hk; rw [show a + (k + 1) = a + 1 + k by omega]; exact this
theorem okc_app {G : GG} {a b n : Nat} {A B : List va_E} (h : OKc G a A) (hl : A.length = n) (hb : a + n = b) (t : OKc G b B) : OKc G a (A ++ B) := by
  subst hb
  subst hl
  intro k c hk
  by_cases hq : k < A.length
  · rw [List.getElem?_append_left hq] at hk; exact h k c hk
  · rw [List.getElem?_append_right (by omega)] at hk
    have := t _ c hk
    rw [show a + k = a + A.length + (k - A.length) by omega]
    exact this
theorem okc_one {G : GG} {a : Nat} {x : va_E} (h : ceq x (cel G h0 a)) : OKc G a [x] := okc_cons h rfl (okc_nil G _)
theorem okc_set {G : GG} {a k b : Nat} {x : va_E} {l : List va_E} (h : ∀ j c, j ≠ k → l[j]? = some c → ceq c (cel G h0 (a + j))) (hb : a + k = b) (hx : ceq x (cel G h0 b)) : OKc G a (l.set k x) := by
  subst hb
  intro j c hj
  rw [List.getElem?_set] at hj
  by_cases e : k = j
  · subst e
    rw [if_pos rfl] at hj
    split at hj
    · cases hj; exact hx
    · cases hj
  · rw [if_neg e] at hj
    exact h j c (fun q => e q.symm) hj
theorem ce_0 (G : GG) : cel G h0 0 = .inr (11, [.ref (ad G (0 + 1)), .ref (ad G (0 + 3)), .ref (ad G (0 + 4)), .ref (ad G 5), .ref (ad G 6), .ref (ad G 24), .ref (ad G 27), .ref (ad G (0 + 28)), .ref (ad G (0 + 31)), .ref (ad G (0 + 32)), .int 0, .ref (ad G (0 + 33)), .ref (ad G (0 + 42)), .ref (ad G (0 + 51)), .ref (ad G (0 + 54)), .ref (ad G (0 + 57)), .ref (ad G (0 + 60)), .ref (ad G (0 + 63)), .ref (ad G (0 + 66))]) := (cel_obj (show SH 0 = (11, 0) from by decide +kernel) (by decide)).trans rfl
theorem ce_1 (G : GG) : cel G h0 1 = .inr (7, [.int 0, .int 0, .int (-1), .int 0, .int 0, .ref (ad G (1 + 1)), .int 0, .int 0, .int 0]) := (cel_obj (show SH 1 = (7, 0) from by decide +kernel) (by decide)).trans rfl
theorem ce_2 (G : GG) : cel G h0 2 = .inl (gA G 0, 500, .inl (fun _ => 0)) := (cel_i (show SH 2 = (20, 500) from by decide +kernel)).trans rfl
theorem ce_3 (G : GG) : ceq (.inl (gA G 2, 6, .inr (.inr (.inr (.inr (svB G 6)))))) (cel G h0 3) := by
  rw [cel_b (show SH 3 = (22, 6) from by decide +kernel)]
  refine ceq_q (fun j hj => ?_)
  rcases (show j = 0 ∨ j = 1 ∨ j = 2 ∨ j = 3 ∨ j = 4 ∨ j = 5 by omega) with rfl | rfl | rfl | rfl | rfl | rfl <;> rfl
theorem ce_4 (G : GG) : ceq (.inl (gA G 3, 6, .inr (.inr (.inr (.inr (svW G 6)))))) (cel G h0 4) := by
  rw [cel_w (show SH 4 = (23, 6) from by decide +kernel)]
  refine ceq_q (fun j hj => ?_)
  rcases (show j = 0 ∨ j = 1 ∨ j = 2 ∨ j = 3 ∨ j = 4 ∨ j = 5 by omega) with rfl | rfl | rfl | rfl | rfl | rfl <;> rfl
theorem ce_5 (G : GG) : cel G h0 5 = .inr (5, [.int 2, .int 20, .int 3, .int 0]) := (cel_obj (show SH 5 = (5, 0) from by decide +kernel) (by decide)).trans rfl
theorem ce_6 (G : GG) : cel G h0 6 = .inr (0, [.int 0, .int 0, .int 0, .int 0, .int 0, .int 0, .ref (ad G (6 + 1)), .ref (ad G (6 + 2)), .ref (ad G (6 + 3)), .ref (ad G (6 + 4)), .ref (ad G (6 + 5)), .ref (ad G (6 + 6)), .ref (ad G (6 + 7)), .ref (ad G (6 + 10)), .ref (ad G (6 + 13)), .ref (ad G (6 + 14)), .ref (ad G (6 + 15)), .ref (ad G (6 + 16)), .ref (ad G (6 + 17))]) := (cel_obj (show SH 6 = (0, 0) from by decide +kernel) (by decide)).trans rfl
theorem ce_7 (G : GG) : cel G h0 7 = .inl (gA G 0, 40, .inl (fun _ => 0)) := (cel_i (show SH 7 = (20, 40) from by decide +kernel)).trans rfl
theorem ce_8 (G : GG) : cel G h0 8 = .inl (gA G 0, 40, .inl (fun _ => 0)) := (cel_i (show SH 8 = (20, 40) from by decide +kernel)).trans rfl
theorem ce_9 (G : GG) : cel G h0 9 = .inl (gA G 0, 40, .inl (fun _ => 0)) := (cel_i (show SH 9 = (20, 40) from by decide +kernel)).trans rfl
theorem ce_10 (G : GG) : cel G h0 10 = .inl (gA G 0, 40, .inl (fun _ => 0)) := (cel_i (show SH 10 = (20, 40) from by decide +kernel)).trans rfl
theorem ce_11 (G : GG) : cel G h0 11 = .inl (gA G 0, 40, .inl (fun _ => 0)) := (cel_i (show SH 11 = (20, 40) from by decide +kernel)).trans rfl
theorem ce_12 (G : GG) : cel G h0 12 = .inl (gA G 0, 40, .inl (fun _ => 0)) := (cel_i (show SH 12 = (20, 40) from by decide +kernel)).trans rfl
theorem ce_13 (G : GG) : cel G h0 13 = .inr (3, [.ref (ad G (13 + 1)), .ref (ad G (13 + 2))]) := (cel_obj (show SH 13 = (3, 0) from by decide +kernel) (by decide)).trans rfl
theorem ce_14 (G : GG) : cel G h0 14 = .inl (gA G 0, 40, .inl (pF (fun _ => 0) (-1) 40)) := (cel_i (show SH 14 = (20, 40) from by decide +kernel)).trans rfl
theorem ce_15 (G : GG) : cel G h0 15 = .inl (gA G 0, 40, .inl (fun _ => 0)) := (cel_i (show SH 15 = (20, 40) from by decide +kernel)).trans rfl
theorem ce_16 (G : GG) : cel G h0 16 = .inr (3, [.ref (ad G (16 + 1)), .ref (ad G (16 + 2))]) := (cel_obj (show SH 16 = (3, 0) from by decide +kernel) (by decide)).trans rfl
theorem ce_17 (G : GG) : cel G h0 17 = .inl (gA G 0, 40, .inl (pF (fun _ => 0) (-1) 40)) := (cel_i (show SH 17 = (20, 40) from by decide +kernel)).trans rfl
theorem ce_18 (G : GG) : cel G h0 18 = .inl (gA G 0, 40, .inl (fun _ => 0)) := (cel_i (show SH 18 = (20, 40) from by decide +kernel)).trans rfl
theorem ce_19 (G : GG) : cel G h0 19 = .inl (gA G 0, 4, .inl (fun _ => 0)) := (cel_i (show SH 19 = (20, 4) from by decide +kernel)).trans rfl
theorem ce_20 (G : GG) : cel G h0 20 = .inl (gA G 0, 4, .inl (fun _ => 0)) := (cel_i (show SH 20 = (20, 4) from by decide +kernel)).trans rfl
theorem ce_21 (G : GG) : cel G h0 21 = .inl (gA G 0, 8, .inl (fun _ => 0)) := (cel_i (show SH 21 = (20, 8) from by decide +kernel)).trans rfl
theorem ce_22 (G : GG) : cel G h0 22 = .inl (gA G 0, 8, .inl (fun _ => 0)) := (cel_i (show SH 22 = (20, 8) from by decide +kernel)).trans rfl
theorem ce_23 (G : GG) : cel G h0 23 = .inl (gA G 0, 8, .inl (fun _ => 0)) := (cel_i (show SH 23 = (20, 8) from by decide +kernel)).trans rfl
theorem ce_24 (G : GG) : cel G h0 24 = .inr (10, [.ref (ad G (24 + 1)), .ref (ad G (24 + 2))]) := (cel_obj (show SH 24 = (10, 0) from by decide +kernel) (by decide)).trans rfl
theorem ce_25 (G : GG) : cel G h0 25 = .inl (gA G 0, 12, .inl (fun _ => 0)) := (cel_i (show SH 25 = (20, 12) from by decide +kernel)).trans rfl
theorem ce_26 (G : GG) : cel G h0 26 = .inl (gA G 0, 12, .inl (fun _ => 0)) := (cel_i (show SH 26 = (20, 12) from by decide +kernel)).trans rfl
theorem ce_27 (G : GG) : cel G h0 27 = .inr (5, [.int 2, .int 20, .int 3, .int 0]) := (cel_obj (show SH 27 = (5, 0) from by decide +kernel) (by decide)).trans rfl
theorem ce_28 (G : GG) : cel G h0 28 = .inr (8, [.int 0, .ref (ad G (28 + 1)), .ref (ad G (28 + 2))]) := (cel_obj (show SH 28 = (8, 0) from by decide +kernel) (by decide)).trans rfl
theorem ce_29 (G : GG) : cel G h0 29 = .inl (gA G 0, 20, .inl (fun _ => 0)) := (cel_i (show SH 29 = (20, 20) from by decide +kernel)).trans rfl
theorem ce_30 (G : GG) : cel G h0 30 = .inl (gA G 0, 20, .inl (fun _ => 0)) := (cel_i (show SH 30 = (20, 20) from by decide +kernel)).trans rfl
theorem ce_31 (G : GG) : cel G h0 31 = .inl (gA G 0, 4, .inl (fun _ => 0)) := (cel_i (show SH 31 = (20, 4) from by decide +kernel)).trans rfl
theorem ce_32 (G : GG) : cel G h0 32 = .inl (gA G 0, 4, .inl (fun _ => 0)) := (cel_i (show SH 32 = (20, 4) from by decide +kernel)).trans rfl
theorem ce_33 (G : GG) : cel G h0 33 = .inr (9, [.ref (ad G (33 + 1)), .ref (ad G (33 + 2)), .ref (ad G (33 + 3)), .ref (ad G (33 + 4)), .ref (ad G (33 + 5)), .ref (ad G (33 + 6)), .ref (ad G (33 + 7)), .ref (ad G (33 + 8))]) := (cel_obj (show SH 33 = (9, 0) from by decide +kernel) (by decide)).trans rfl
theorem ce_34 (G : GG) : cel G h0 34 = .inl (gA G 0, 40, .inl (fun _ => 0)) := (cel_i (show SH 34 = (20, 40) from by decide +kernel)).trans rfl
theorem ce_35 (G : GG) : cel G h0 35 = .inl (gA G 0, 40, .inl (fun _ => 0)) := (cel_i (show SH 35 = (20, 40) from by decide +kernel)).trans rfl
theorem ce_36 (G : GG) : cel G h0 36 = .inl (gA G 0, 40, .inl (fun _ => 0)) := (cel_i (show SH 36 = (20, 40) from by decide +kernel)).trans rfl
theorem ce_37 (G : GG) : cel G h0 37 = .inl (gA G 0, 40, .inl (fun _ => 0)) := (cel_i (show SH 37 = (20, 40) from by decide +kernel)).trans rfl
theorem ce_38 (G : GG) : cel G h0 38 = .inl (gA G 0, 40, .inl (fun _ => 0)) := (cel_i (show SH 38 = (20, 40) from by decide +kernel)).trans rfl
theorem ce_39 (G : GG) : cel G h0 39 = .inl (gA G 0, 12, .inl (fun _ => 0)) := (cel_i (show SH 39 = (20, 12) from by decide +kernel)).trans rfl
theorem ce_40 (G : GG) : cel G h0 40 = .inl (gA G 0, 12, .inl (fun _ => 0)) := (cel_i (show SH 40 = (20, 12) from by decide +kernel)).trans rfl
theorem ce_41 (G : GG) : cel G h0 41 = .inl (gA G 0, 12, .inl (fun _ => 0)) := (cel_i (show SH 41 = (20, 12) from by decide +kernel)).trans rfl
theorem ce_42 (G : GG) : cel G h0 42 = .inr (9, [.ref (ad G (42 + 1)), .ref (ad G (42 + 2)), .ref (ad G (42 + 3)), .ref (ad G (42 + 4)), .ref (ad G (42 + 5)), .ref (ad G (42 + 6)), .ref (ad G (42 + 7)), .ref (ad G (42 + 8))]) := (cel_obj (show SH 42 = (9, 0) from by decide +kernel) (by decide)).trans rfl
theorem ce_43 (G : GG) : cel G h0 43 = .inl (gA G 0, 40, .inl (fun _ => 0)) := (cel_i (show SH 43 = (20, 40) from by decide +kernel)).trans rfl
theorem ce_44 (G : GG) : cel G h0 44 = .inl (gA G 0, 40, .inl (fun _ => 0)) := (cel_i (show SH 44 = (20, 40) from by decide +kernel)).trans rfl
theorem ce_45 (G : GG) : cel G h0 45 = .inl (gA G 0, 40, .inl (fun _ => 0)) := (cel_i (show SH 45 = (20, 40) from by decide +kernel)).trans rfl
theorem ce_46 (G : GG) : cel G h0 46 = .inl (gA G 0, 40, .inl (fun _ => 0)) := (cel_i (show SH 46 = (20, 40) from by decide +kernel)).trans rfl
theorem ce_47 (G : GG) : cel G h0 47 = .inl (gA G 0, 40, .inl (fun _ => 0)) := (cel_i (show SH 47 = (20, 40) from by decide +kernel)).trans rfl
theorem ce_48 (G : GG) : cel G h0 48 = .inl (gA G 0, 12, .inl (fun _ => 0)) := (cel_i (show SH 48 = (20, 12) from by decide +kernel)).trans rfl
theorem ce_49 (G : GG) : cel G h0 49 = .inl (gA G 0, 12, .inl (fun _ => 0)) := (cel_i (show SH 49 = (20, 12) from by decide +kernel)).trans rfl
theorem ce_50 (G : GG) : cel G h0 50 = .inl (gA G 0, 12, .inl (fun _ => 0)) := (cel_i (show SH 50 = (20, 12) from by decide +kernel)).trans rfl
theorem ce_51 (G : GG) : cel G h0 51 = .inr (1, [.ref (ad G (51 + 1)), .ref (ad G (51 + 2))]) := (cel_obj (show SH 51 = (1, 0) from by decide +kernel) (by decide)).trans rfl
theorem ce_52 (G : GG) : cel G h0 52 = .inl (gA G 0, 381, .inl (fun _ => 0)) := (cel_i (show SH 52 = (20, 381) from by decide +kernel)).trans rfl
theorem ce_53 (G : GG) : cel G h0 53 = .inl (gA G 0, 381, .inl (fun _ => 0)) := (cel_i (show SH 53 = (20, 381) from by decide +kernel)).trans rfl
theorem ce_54 (G : GG) : cel G h0 54 = .inr (4, [.int 0, .ref (ad G (54 + 1)), .ref (ad G (54 + 2)), .int 0, .int 0, .int 0]) := (cel_obj (show SH 54 = (4, 0) from by decide +kernel) (by decide)).trans rfl
theorem ce_55 (G : GG) : cel G h0 55 = .inl (gA G 0, 12, .inl (fun _ => 0)) := (cel_i (show SH 55 = (20, 12) from by decide +kernel)).trans rfl
theorem ce_56 (G : GG) : cel G h0 56 = .inl (gA G 0, 12, .inl (fun _ => 0)) := (cel_i (show SH 56 = (20, 12) from by decide +kernel)).trans rfl
theorem ce_57 (G : GG) : cel G h0 57 = .inr (2, [.int 0, .int 0, .int 0, .ref (ad G (57 + 1)), .ref (ad G (57 + 2))]) := (cel_obj (show SH 57 = (2, 0) from by decide +kernel) (by decide)).trans rfl
theorem ce_58 (G : GG) : cel G h0 58 = .inl (gA G 0, 40, .inl (fun _ => 0)) := (cel_i (show SH 58 = (20, 40) from by decide +kernel)).trans rfl
theorem ce_59 (G : GG) : cel G h0 59 = .inl (gA G 0, 40, .inl (fun _ => 0)) := (cel_i (show SH 59 = (20, 40) from by decide +kernel)).trans rfl
theorem ce_60 (G : GG) : cel G h0 60 = .inr (6, [.int 0, .int 0, .int 0, .int 0, .ref (ad G (60 + 1)), .ref (ad G (60 + 2))]) := (cel_obj (show SH 60 = (6, 0) from by decide +kernel) (by decide)).trans rfl
theorem ce_61 (G : GG) : cel G h0 61 = .inl (gA G 0, 40, .inl (fun _ => 0)) := (cel_i (show SH 61 = (20, 40) from by decide +kernel)).trans rfl
theorem ce_62 (G : GG) : cel G h0 62 = .inl (gA G 0, 40, .inl (fun _ => 0)) := (cel_i (show SH 62 = (20, 40) from by decide +kernel)).trans rfl
theorem ce_63 (G : GG) : cel G h0 63 = .inr (3, [.ref (ad G (63 + 1)), .ref (ad G (63 + 2))]) := (cel_obj (show SH 63 = (3, 0) from by decide +kernel) (by decide)).trans rfl
theorem ce_64 (G : GG) : cel G h0 64 = .inl (gA G 0, 40, .inl (pF (fun _ => 0) (-1) 40)) := (cel_i (show SH 64 = (20, 40) from by decide +kernel)).trans rfl
theorem ce_65 (G : GG) : cel G h0 65 = .inl (gA G 0, 40, .inl (fun _ => 0)) := (cel_i (show SH 65 = (20, 40) from by decide +kernel)).trans rfl
theorem ce_66 (G : GG) : cel G h0 66 = .inl (gA G 0, 40, .inl (fun _ => 0)) := (cel_i (show SH 66 = (20, 40) from by decide +kernel)).trans rfl
theorem ce_67 (G : GG) : cel G h0 67 = .inr (0, [.int 0, .int 0, .int 0, .int 0, .int 0, .int 0, .ref (ad G (67 + 1)), .ref (ad G (67 + 2)), .ref (ad G (67 + 3)), .ref (ad G (67 + 4)), .ref (ad G (67 + 5)), .ref (ad G (67 + 6)), .ref (ad G (67 + 7)), .ref (ad G (67 + 10)), .ref (ad G (67 + 13)), .ref (ad G (67 + 14)), .ref (ad G (67 + 15)), .ref (ad G (67 + 16)), .ref (ad G (67 + 17))]) := (cel_obj (show SH 67 = (0, 0) from by decide +kernel) (by decide)).trans rfl
theorem ce_68 (G : GG) : cel G h0 68 = .inl (gA G 0, 40, .inl (fun _ => 0)) := (cel_i (show SH 68 = (20, 40) from by decide +kernel)).trans rfl
theorem ce_69 (G : GG) : cel G h0 69 = .inl (gA G 0, 40, .inl (fun _ => 0)) := (cel_i (show SH 69 = (20, 40) from by decide +kernel)).trans rfl
theorem ce_70 (G : GG) : cel G h0 70 = .inl (gA G 0, 40, .inl (fun _ => 0)) := (cel_i (show SH 70 = (20, 40) from by decide +kernel)).trans rfl
theorem ce_71 (G : GG) : cel G h0 71 = .inl (gA G 0, 40, .inl (fun _ => 0)) := (cel_i (show SH 71 = (20, 40) from by decide +kernel)).trans rfl
theorem ce_72 (G : GG) : cel G h0 72 = .inl (gA G 0, 40, .inl (fun _ => 0)) := (cel_i (show SH 72 = (20, 40) from by decide +kernel)).trans rfl
theorem ce_73 (G : GG) : cel G h0 73 = .inl (gA G 0, 40, .inl (fun _ => 0)) := (cel_i (show SH 73 = (20, 40) from by decide +kernel)).trans rfl
theorem ce_74 (G : GG) : cel G h0 74 = .inr (3, [.ref (ad G (74 + 1)), .ref (ad G (74 + 2))]) := (cel_obj (show SH 74 = (3, 0) from by decide +kernel) (by decide)).trans rfl
theorem ce_75 (G : GG) : cel G h0 75 = .inl (gA G 0, 40, .inl (pF (fun _ => 0) (-1) 40)) := (cel_i (show SH 75 = (20, 40) from by decide +kernel)).trans rfl
theorem ce_76 (G : GG) : cel G h0 76 = .inl (gA G 0, 40, .inl (fun _ => 0)) := (cel_i (show SH 76 = (20, 40) from by decide +kernel)).trans rfl
theorem ce_77 (G : GG) : cel G h0 77 = .inr (3, [.ref (ad G (77 + 1)), .ref (ad G (77 + 2))]) := (cel_obj (show SH 77 = (3, 0) from by decide +kernel) (by decide)).trans rfl
theorem ce_78 (G : GG) : cel G h0 78 = .inl (gA G 0, 40, .inl (pF (fun _ => 0) (-1) 40)) := (cel_i (show SH 78 = (20, 40) from by decide +kernel)).trans rfl
theorem ce_79 (G : GG) : cel G h0 79 = .inl (gA G 0, 40, .inl (fun _ => 0)) := (cel_i (show SH 79 = (20, 40) from by decide +kernel)).trans rfl
theorem ce_80 (G : GG) : cel G h0 80 = .inl (gA G 0, 4, .inl (fun _ => 0)) := (cel_i (show SH 80 = (20, 4) from by decide +kernel)).trans rfl
theorem ce_81 (G : GG) : cel G h0 81 = .inl (gA G 0, 4, .inl (fun _ => 0)) := (cel_i (show SH 81 = (20, 4) from by decide +kernel)).trans rfl
theorem ce_82 (G : GG) : cel G h0 82 = .inl (gA G 0, 8, .inl (fun _ => 0)) := (cel_i (show SH 82 = (20, 8) from by decide +kernel)).trans rfl
theorem ce_83 (G : GG) : cel G h0 83 = .inl (gA G 0, 8, .inl (fun _ => 0)) := (cel_i (show SH 83 = (20, 8) from by decide +kernel)).trans rfl
theorem ce_84 (G : GG) : cel G h0 84 = .inl (gA G 0, 8, .inl (fun _ => 0)) := (cel_i (show SH 84 = (20, 8) from by decide +kernel)).trans rfl
theorem ce_85 (G : GG) : cel G h0 85 = .inr (0, [.int 0, .int 0, .int 0, .int 0, .int 0, .int 0, .ref (ad G (85 + 1)), .ref (ad G (85 + 2)), .ref (ad G (85 + 3)), .ref (ad G (85 + 4)), .ref (ad G (85 + 5)), .ref (ad G (85 + 6)), .ref (ad G (85 + 7)), .ref (ad G (85 + 10)), .ref (ad G (85 + 13)), .ref (ad G (85 + 14)), .ref (ad G (85 + 15)), .ref (ad G (85 + 16)), .ref (ad G (85 + 17))]) := (cel_obj (show SH 85 = (0, 0) from by decide +kernel) (by decide)).trans rfl
theorem ce_86 (G : GG) : cel G h0 86 = .inl (gA G 0, 40, .inl (fun _ => 0)) := (cel_i (show SH 86 = (20, 40) from by decide +kernel)).trans rfl
theorem ce_87 (G : GG) : cel G h0 87 = .inl (gA G 0, 40, .inl (fun _ => 0)) := (cel_i (show SH 87 = (20, 40) from by decide +kernel)).trans rfl
theorem ce_88 (G : GG) : cel G h0 88 = .inl (gA G 0, 40, .inl (fun _ => 0)) := (cel_i (show SH 88 = (20, 40) from by decide +kernel)).trans rfl
theorem ce_89 (G : GG) : cel G h0 89 = .inl (gA G 0, 40, .inl (fun _ => 0)) := (cel_i (show SH 89 = (20, 40) from by decide +kernel)).trans rfl
theorem ce_90 (G : GG) : cel G h0 90 = .inl (gA G 0, 40, .inl (fun _ => 0)) := (cel_i (show SH 90 = (20, 40) from by decide +kernel)).trans rfl
theorem ce_91 (G : GG) : cel G h0 91 = .inl (gA G 0, 40, .inl (fun _ => 0)) := (cel_i (show SH 91 = (20, 40) from by decide +kernel)).trans rfl
theorem ce_92 (G : GG) : cel G h0 92 = .inr (3, [.ref (ad G (92 + 1)), .ref (ad G (92 + 2))]) := (cel_obj (show SH 92 = (3, 0) from by decide +kernel) (by decide)).trans rfl
theorem ce_93 (G : GG) : cel G h0 93 = .inl (gA G 0, 40, .inl (pF (fun _ => 0) (-1) 40)) := (cel_i (show SH 93 = (20, 40) from by decide +kernel)).trans rfl
theorem ce_94 (G : GG) : cel G h0 94 = .inl (gA G 0, 40, .inl (fun _ => 0)) := (cel_i (show SH 94 = (20, 40) from by decide +kernel)).trans rfl
theorem ce_95 (G : GG) : cel G h0 95 = .inr (3, [.ref (ad G (95 + 1)), .ref (ad G (95 + 2))]) := (cel_obj (show SH 95 = (3, 0) from by decide +kernel) (by decide)).trans rfl
theorem ce_96 (G : GG) : cel G h0 96 = .inl (gA G 0, 40, .inl (pF (fun _ => 0) (-1) 40)) := (cel_i (show SH 96 = (20, 40) from by decide +kernel)).trans rfl
theorem ce_97 (G : GG) : cel G h0 97 = .inl (gA G 0, 40, .inl (fun _ => 0)) := (cel_i (show SH 97 = (20, 40) from by decide +kernel)).trans rfl
theorem ce_98 (G : GG) : cel G h0 98 = .inl (gA G 0, 4, .inl (fun _ => 0)) := (cel_i (show SH 98 = (20, 4) from by decide +kernel)).trans rfl
theorem ce_99 (G : GG) : cel G h0 99 = .inl (gA G 0, 4, .inl (fun _ => 0)) := (cel_i (show SH 99 = (20, 4) from by decide +kernel)).trans rfl
theorem ce_100 (G : GG) : cel G h0 100 = .inl (gA G 0, 8, .inl (fun _ => 0)) := (cel_i (show SH 100 = (20, 8) from by decide +kernel)).trans rfl
theorem ce_101 (G : GG) : cel G h0 101 = .inl (gA G 0, 8, .inl (fun _ => 0)) := (cel_i (show SH 101 = (20, 8) from by decide +kernel)).trans rfl
theorem ce_102 (G : GG) : cel G h0 102 = .inl (gA G 0, 8, .inl (fun _ => 0)) := (cel_i (show SH 102 = (20, 8) from by decide +kernel)).trans rfl
theorem ce_103 (G : GG) : cel G h0 103 = .inr (0, [.int 0, .int 0, .int 0, .int 0, .int 0, .int 0, .ref (ad G (103 + 1)), .ref (ad G (103 + 2)), .ref (ad G (103 + 3)), .ref (ad G (103 + 4)), .ref (ad G (103 + 5)), .ref (ad G (103 + 6)), .ref (ad G (103 + 7)), .ref (ad G (103 + 10)), .ref (ad G (103 + 13)), .ref (ad G (103 + 14)), .ref (ad G (103 + 15)), .ref (ad G (103 + 16)), .ref (ad G (103 + 17))]) := (cel_obj (show SH 103 = (0, 0) from by decide +kernel) (by decide)).trans rfl
theorem ce_104 (G : GG) : cel G h0 104 = .inl (gA G 0, 40, .inl (fun _ => 0)) := (cel_i (show SH 104 = (20, 40) from by decide +kernel)).trans rfl
theorem ce_105 (G : GG) : cel G h0 105 = .inl (gA G 0, 40, .inl (fun _ => 0)) := (cel_i (show SH 105 = (20, 40) from by decide +kernel)).trans rfl
theorem ce_106 (G : GG) : cel G h0 106 = .inl (gA G 0, 40, .inl (fun _ => 0)) := (cel_i (show SH 106 = (20, 40) from by decide +kernel)).trans rfl
theorem ce_107 (G : GG) : cel G h0 107 = .inl (gA G 0, 40, .inl (fun _ => 0)) := (cel_i (show SH 107 = (20, 40) from by decide +kernel)).trans rfl
theorem ce_108 (G : GG) : cel G h0 108 = .inl (gA G 0, 40, .inl (fun _ => 0)) := (cel_i (show SH 108 = (20, 40) from by decide +kernel)).trans rfl
theorem ce_109 (G : GG) : cel G h0 109 = .inl (gA G 0, 40, .inl (fun _ => 0)) := (cel_i (show SH 109 = (20, 40) from by decide +kernel)).trans rfl
theorem ce_110 (G : GG) : cel G h0 110 = .inr (3, [.ref (ad G (110 + 1)), .ref (ad G (110 + 2))]) := (cel_obj (show SH 110 = (3, 0) from by decide +kernel) (by decide)).trans rfl
theorem ce_111 (G : GG) : cel G h0 111 = .inl (gA G 0, 40, .inl (pF (fun _ => 0) (-1) 40)) := (cel_i (show SH 111 = (20, 40) from by decide +kernel)).trans rfl
theorem ce_112 (G : GG) : cel G h0 112 = .inl (gA G 0, 40, .inl (fun _ => 0)) := (cel_i (show SH 112 = (20, 40) from by decide +kernel)).trans rfl
theorem ce_113 (G : GG) : cel G h0 113 = .inr (3, [.ref (ad G (113 + 1)), .ref (ad G (113 + 2))]) := (cel_obj (show SH 113 = (3, 0) from by decide +kernel) (by decide)).trans rfl
theorem ce_114 (G : GG) : cel G h0 114 = .inl (gA G 0, 40, .inl (pF (fun _ => 0) (-1) 40)) := (cel_i (show SH 114 = (20, 40) from by decide +kernel)).trans rfl
theorem ce_115 (G : GG) : cel G h0 115 = .inl (gA G 0, 40, .inl (fun _ => 0)) := (cel_i (show SH 115 = (20, 40) from by decide +kernel)).trans rfl
theorem ce_116 (G : GG) : cel G h0 116 = .inl (gA G 0, 4, .inl (fun _ => 0)) := (cel_i (show SH 116 = (20, 4) from by decide +kernel)).trans rfl
theorem ce_117 (G : GG) : cel G h0 117 = .inl (gA G 0, 4, .inl (fun _ => 0)) := (cel_i (show SH 117 = (20, 4) from by decide +kernel)).trans rfl
theorem ce_118 (G : GG) : cel G h0 118 = .inl (gA G 0, 8, .inl (fun _ => 0)) := (cel_i (show SH 118 = (20, 8) from by decide +kernel)).trans rfl
theorem ce_119 (G : GG) : cel G h0 119 = .inl (gA G 0, 8, .inl (fun _ => 0)) := (cel_i (show SH 119 = (20, 8) from by decide +kernel)).trans rfl
theorem ce_120 (G : GG) : cel G h0 120 = .inl (gA G 0, 8, .inl (fun _ => 0)) := (cel_i (show SH 120 = (20, 8) from by decide +kernel)).trans rfl
theorem ce_121 (G : GG) : cel G h0 121 = .inr (0, [.int 0, .int 0, .int 0, .int 0, .int 0, .int 0, .ref (ad G (121 + 1)), .ref (ad G (121 + 2)), .ref (ad G (121 + 3)), .ref (ad G (121 + 4)), .ref (ad G (121 + 5)), .ref (ad G (121 + 6)), .ref (ad G (121 + 7)), .ref (ad G (121 + 10)), .ref (ad G (121 + 13)), .ref (ad G (121 + 14)), .ref (ad G (121 + 15)), .ref (ad G (121 + 16)), .ref (ad G (121 + 17))]) := (cel_obj (show SH 121 = (0, 0) from by decide +kernel) (by decide)).trans rfl
theorem ce_122 (G : GG) : cel G h0 122 = .inl (gA G 0, 40, .inl (fun _ => 0)) := (cel_i (show SH 122 = (20, 40) from by decide +kernel)).trans rfl
theorem ce_123 (G : GG) : cel G h0 123 = .inl (gA G 0, 40, .inl (fun _ => 0)) := (cel_i (show SH 123 = (20, 40) from by decide +kernel)).trans rfl
theorem ce_124 (G : GG) : cel G h0 124 = .inl (gA G 0, 40, .inl (fun _ => 0)) := (cel_i (show SH 124 = (20, 40) from by decide +kernel)).trans rfl
theorem ce_125 (G : GG) : cel G h0 125 = .inl (gA G 0, 40, .inl (fun _ => 0)) := (cel_i (show SH 125 = (20, 40) from by decide +kernel)).trans rfl
theorem ce_126 (G : GG) : cel G h0 126 = .inl (gA G 0, 40, .inl (fun _ => 0)) := (cel_i (show SH 126 = (20, 40) from by decide +kernel)).trans rfl
theorem ce_127 (G : GG) : cel G h0 127 = .inl (gA G 0, 40, .inl (fun _ => 0)) := (cel_i (show SH 127 = (20, 40) from by decide +kernel)).trans rfl
theorem ce_128 (G : GG) : cel G h0 128 = .inr (3, [.ref (ad G (128 + 1)), .ref (ad G (128 + 2))]) := (cel_obj (show SH 128 = (3, 0) from by decide +kernel) (by decide)).trans rfl
theorem ce_129 (G : GG) : cel G h0 129 = .inl (gA G 0, 40, .inl (pF (fun _ => 0) (-1) 40)) := (cel_i (show SH 129 = (20, 40) from by decide +kernel)).trans rfl
theorem ce_130 (G : GG) : cel G h0 130 = .inl (gA G 0, 40, .inl (fun _ => 0)) := (cel_i (show SH 130 = (20, 40) from by decide +kernel)).trans rfl
theorem ce_131 (G : GG) : cel G h0 131 = .inr (3, [.ref (ad G (131 + 1)), .ref (ad G (131 + 2))]) := (cel_obj (show SH 131 = (3, 0) from by decide +kernel) (by decide)).trans rfl
theorem ce_132 (G : GG) : cel G h0 132 = .inl (gA G 0, 40, .inl (pF (fun _ => 0) (-1) 40)) := (cel_i (show SH 132 = (20, 40) from by decide +kernel)).trans rfl
theorem ce_133 (G : GG) : cel G h0 133 = .inl (gA G 0, 40, .inl (fun _ => 0)) := (cel_i (show SH 133 = (20, 40) from by decide +kernel)).trans rfl
theorem ce_134 (G : GG) : cel G h0 134 = .inl (gA G 0, 4, .inl (fun _ => 0)) := (cel_i (show SH 134 = (20, 4) from by decide +kernel)).trans rfl
theorem ce_135 (G : GG) : cel G h0 135 = .inl (gA G 0, 4, .inl (fun _ => 0)) := (cel_i (show SH 135 = (20, 4) from by decide +kernel)).trans rfl
theorem ce_136 (G : GG) : cel G h0 136 = .inl (gA G 0, 8, .inl (fun _ => 0)) := (cel_i (show SH 136 = (20, 8) from by decide +kernel)).trans rfl
theorem ce_137 (G : GG) : cel G h0 137 = .inl (gA G 0, 8, .inl (fun _ => 0)) := (cel_i (show SH 137 = (20, 8) from by decide +kernel)).trans rfl
theorem ce_138 (G : GG) : cel G h0 138 = .inl (gA G 0, 8, .inl (fun _ => 0)) := (cel_i (show SH 138 = (20, 8) from by decide +kernel)).trans rfl
theorem ce_139 (G : GG) : cel G h0 139 = .inr (0, [.int 0, .int 0, .int 0, .int 0, .int 0, .int 0, .ref (ad G (139 + 1)), .ref (ad G (139 + 2)), .ref (ad G (139 + 3)), .ref (ad G (139 + 4)), .ref (ad G (139 + 5)), .ref (ad G (139 + 6)), .ref (ad G (139 + 7)), .ref (ad G (139 + 10)), .ref (ad G (139 + 13)), .ref (ad G (139 + 14)), .ref (ad G (139 + 15)), .ref (ad G (139 + 16)), .ref (ad G (139 + 17))]) := (cel_obj (show SH 139 = (0, 0) from by decide +kernel) (by decide)).trans rfl
theorem ce_140 (G : GG) : cel G h0 140 = .inl (gA G 0, 40, .inl (fun _ => 0)) := (cel_i (show SH 140 = (20, 40) from by decide +kernel)).trans rfl
theorem ce_141 (G : GG) : cel G h0 141 = .inl (gA G 0, 40, .inl (fun _ => 0)) := (cel_i (show SH 141 = (20, 40) from by decide +kernel)).trans rfl
theorem ce_142 (G : GG) : cel G h0 142 = .inl (gA G 0, 40, .inl (fun _ => 0)) := (cel_i (show SH 142 = (20, 40) from by decide +kernel)).trans rfl
theorem ce_143 (G : GG) : cel G h0 143 = .inl (gA G 0, 40, .inl (fun _ => 0)) := (cel_i (show SH 143 = (20, 40) from by decide +kernel)).trans rfl
theorem ce_144 (G : GG) : cel G h0 144 = .inl (gA G 0, 40, .inl (fun _ => 0)) := (cel_i (show SH 144 = (20, 40) from by decide +kernel)).trans rfl
theorem ce_145 (G : GG) : cel G h0 145 = .inl (gA G 0, 40, .inl (fun _ => 0)) := (cel_i (show SH 145 = (20, 40) from by decide +kernel)).trans rfl
theorem ce_146 (G : GG) : cel G h0 146 = .inr (3, [.ref (ad G (146 + 1)), .ref (ad G (146 + 2))]) := (cel_obj (show SH 146 = (3, 0) from by decide +kernel) (by decide)).trans rfl
theorem ce_147 (G : GG) : cel G h0 147 = .inl (gA G 0, 40, .inl (pF (fun _ => 0) (-1) 40)) := (cel_i (show SH 147 = (20, 40) from by decide +kernel)).trans rfl
theorem ce_148 (G : GG) : cel G h0 148 = .inl (gA G 0, 40, .inl (fun _ => 0)) := (cel_i (show SH 148 = (20, 40) from by decide +kernel)).trans rfl
theorem ce_149 (G : GG) : cel G h0 149 = .inr (3, [.ref (ad G (149 + 1)), .ref (ad G (149 + 2))]) := (cel_obj (show SH 149 = (3, 0) from by decide +kernel) (by decide)).trans rfl
theorem ce_150 (G : GG) : cel G h0 150 = .inl (gA G 0, 40, .inl (pF (fun _ => 0) (-1) 40)) := (cel_i (show SH 150 = (20, 40) from by decide +kernel)).trans rfl
theorem ce_151 (G : GG) : cel G h0 151 = .inl (gA G 0, 40, .inl (fun _ => 0)) := (cel_i (show SH 151 = (20, 40) from by decide +kernel)).trans rfl
theorem ce_152 (G : GG) : cel G h0 152 = .inl (gA G 0, 4, .inl (fun _ => 0)) := (cel_i (show SH 152 = (20, 4) from by decide +kernel)).trans rfl
theorem ce_153 (G : GG) : cel G h0 153 = .inl (gA G 0, 4, .inl (fun _ => 0)) := (cel_i (show SH 153 = (20, 4) from by decide +kernel)).trans rfl
theorem ce_154 (G : GG) : cel G h0 154 = .inl (gA G 0, 8, .inl (fun _ => 0)) := (cel_i (show SH 154 = (20, 8) from by decide +kernel)).trans rfl
theorem ce_155 (G : GG) : cel G h0 155 = .inl (gA G 0, 8, .inl (fun _ => 0)) := (cel_i (show SH 155 = (20, 8) from by decide +kernel)).trans rfl
theorem ce_156 (G : GG) : cel G h0 156 = .inl (gA G 0, 8, .inl (fun _ => 0)) := (cel_i (show SH 156 = (20, 8) from by decide +kernel)).trans rfl
theorem ce_157 (G : GG) : cel G h0 157 = .inr (0, [.int 0, .int 0, .int 0, .int 0, .int 0, .int 0, .ref (ad G (157 + 1)), .ref (ad G (157 + 2)), .ref (ad G (157 + 3)), .ref (ad G (157 + 4)), .ref (ad G (157 + 5)), .ref (ad G (157 + 6)), .ref (ad G (157 + 7)), .ref (ad G (157 + 10)), .ref (ad G (157 + 13)), .ref (ad G (157 + 14)), .ref (ad G (157 + 15)), .ref (ad G (157 + 16)), .ref (ad G (157 + 17))]) := (cel_obj (show SH 157 = (0, 0) from by decide +kernel) (by decide)).trans rfl
theorem ce_158 (G : GG) : cel G h0 158 = .inl (gA G 0, 40, .inl (fun _ => 0)) := (cel_i (show SH 158 = (20, 40) from by decide +kernel)).trans rfl
theorem ce_159 (G : GG) : cel G h0 159 = .inl (gA G 0, 40, .inl (fun _ => 0)) := (cel_i (show SH 159 = (20, 40) from by decide +kernel)).trans rfl
theorem ce_160 (G : GG) : cel G h0 160 = .inl (gA G 0, 40, .inl (fun _ => 0)) := (cel_i (show SH 160 = (20, 40) from by decide +kernel)).trans rfl
theorem ce_161 (G : GG) : cel G h0 161 = .inl (gA G 0, 40, .inl (fun _ => 0)) := (cel_i (show SH 161 = (20, 40) from by decide +kernel)).trans rfl
theorem ce_162 (G : GG) : cel G h0 162 = .inl (gA G 0, 40, .inl (fun _ => 0)) := (cel_i (show SH 162 = (20, 40) from by decide +kernel)).trans rfl
theorem ce_163 (G : GG) : cel G h0 163 = .inl (gA G 0, 40, .inl (fun _ => 0)) := (cel_i (show SH 163 = (20, 40) from by decide +kernel)).trans rfl
theorem ce_164 (G : GG) : cel G h0 164 = .inr (3, [.ref (ad G (164 + 1)), .ref (ad G (164 + 2))]) := (cel_obj (show SH 164 = (3, 0) from by decide +kernel) (by decide)).trans rfl
theorem ce_165 (G : GG) : cel G h0 165 = .inl (gA G 0, 40, .inl (pF (fun _ => 0) (-1) 40)) := (cel_i (show SH 165 = (20, 40) from by decide +kernel)).trans rfl
theorem ce_166 (G : GG) : cel G h0 166 = .inl (gA G 0, 40, .inl (fun _ => 0)) := (cel_i (show SH 166 = (20, 40) from by decide +kernel)).trans rfl
theorem ce_167 (G : GG) : cel G h0 167 = .inr (3, [.ref (ad G (167 + 1)), .ref (ad G (167 + 2))]) := (cel_obj (show SH 167 = (3, 0) from by decide +kernel) (by decide)).trans rfl
theorem ce_168 (G : GG) : cel G h0 168 = .inl (gA G 0, 40, .inl (pF (fun _ => 0) (-1) 40)) := (cel_i (show SH 168 = (20, 40) from by decide +kernel)).trans rfl
theorem ce_169 (G : GG) : cel G h0 169 = .inl (gA G 0, 40, .inl (fun _ => 0)) := (cel_i (show SH 169 = (20, 40) from by decide +kernel)).trans rfl
theorem ce_170 (G : GG) : cel G h0 170 = .inl (gA G 0, 4, .inl (fun _ => 0)) := (cel_i (show SH 170 = (20, 4) from by decide +kernel)).trans rfl
theorem ce_171 (G : GG) : cel G h0 171 = .inl (gA G 0, 4, .inl (fun _ => 0)) := (cel_i (show SH 171 = (20, 4) from by decide +kernel)).trans rfl
theorem ce_172 (G : GG) : cel G h0 172 = .inl (gA G 0, 8, .inl (fun _ => 0)) := (cel_i (show SH 172 = (20, 8) from by decide +kernel)).trans rfl
theorem ce_173 (G : GG) : cel G h0 173 = .inl (gA G 0, 8, .inl (fun _ => 0)) := (cel_i (show SH 173 = (20, 8) from by decide +kernel)).trans rfl
theorem ce_174 (G : GG) : cel G h0 174 = .inl (gA G 0, 8, .inl (fun _ => 0)) := (cel_i (show SH 174 = (20, 8) from by decide +kernel)).trans rfl
theorem ce_175 (G : GG) : cel G h0 175 = .inr (10, [.ref (ad G (175 + 1)), .ref (ad G (175 + 2))]) := (cel_obj (show SH 175 = (10, 0) from by decide +kernel) (by decide)).trans rfl
theorem ce_176 (G : GG) : cel G h0 176 = .inl (gA G 0, 12, .inl (fun _ => 0)) := (cel_i (show SH 176 = (20, 12) from by decide +kernel)).trans rfl
theorem ce_177 (G : GG) : cel G h0 177 = .inl (gA G 0, 12, .inl (fun _ => 0)) := (cel_i (show SH 177 = (20, 12) from by decide +kernel)).trans rfl
theorem ce_178 (G : GG) : cel G h0 178 = .inr (10, [.ref (ad G (178 + 1)), .ref (ad G (178 + 2))]) := (cel_obj (show SH 178 = (10, 0) from by decide +kernel) (by decide)).trans rfl
theorem ce_179 (G : GG) : cel G h0 179 = .inl (gA G 0, 12, .inl (fun _ => 0)) := (cel_i (show SH 179 = (20, 12) from by decide +kernel)).trans rfl
theorem ce_180 (G : GG) : cel G h0 180 = .inl (gA G 0, 12, .inl (fun _ => 0)) := (cel_i (show SH 180 = (20, 12) from by decide +kernel)).trans rfl
theorem ce_181 (G : GG) : cel G h0 181 = .inr (10, [.ref (ad G (181 + 1)), .ref (ad G (181 + 2))]) := (cel_obj (show SH 181 = (10, 0) from by decide +kernel) (by decide)).trans rfl
theorem ce_182 (G : GG) : cel G h0 182 = .inl (gA G 0, 12, .inl (fun _ => 0)) := (cel_i (show SH 182 = (20, 12) from by decide +kernel)).trans rfl
theorem ce_183 (G : GG) : cel G h0 183 = .inl (gA G 0, 12, .inl (fun _ => 0)) := (cel_i (show SH 183 = (20, 12) from by decide +kernel)).trans rfl
theorem ce_184 (G : GG) : cel G h0 184 = .inr (10, [.ref (ad G (184 + 1)), .ref (ad G (184 + 2))]) := (cel_obj (show SH 184 = (10, 0) from by decide +kernel) (by decide)).trans rfl
theorem ce_185 (G : GG) : cel G h0 185 = .inl (gA G 0, 12, .inl (fun _ => 0)) := (cel_i (show SH 185 = (20, 12) from by decide +kernel)).trans rfl
theorem ce_186 (G : GG) : cel G h0 186 = .inl (gA G 0, 12, .inl (fun _ => 0)) := (cel_i (show SH 186 = (20, 12) from by decide +kernel)).trans rfl
theorem ce_187 (G : GG) : cel G h0 187 = .inr (10, [.ref (ad G (187 + 1)), .ref (ad G (187 + 2))]) := (cel_obj (show SH 187 = (10, 0) from by decide +kernel) (by decide)).trans rfl
theorem ce_188 (G : GG) : cel G h0 188 = .inl (gA G 0, 12, .inl (fun _ => 0)) := (cel_i (show SH 188 = (20, 12) from by decide +kernel)).trans rfl
theorem ce_189 (G : GG) : cel G h0 189 = .inl (gA G 0, 12, .inl (fun _ => 0)) := (cel_i (show SH 189 = (20, 12) from by decide +kernel)).trans rfl
theorem ce_190 (G : GG) : cel G h0 190 = .inr (10, [.ref (ad G (190 + 1)), .ref (ad G (190 + 2))]) := (cel_obj (show SH 190 = (10, 0) from by decide +kernel) (by decide)).trans rfl
theorem ce_191 (G : GG) : cel G h0 191 = .inl (gA G 0, 12, .inl (fun _ => 0)) := (cel_i (show SH 191 = (20, 12) from by decide +kernel)).trans rfl
theorem ce_192 (G : GG) : cel G h0 192 = .inl (gA G 0, 12, .inl (fun _ => 0)) := (cel_i (show SH 192 = (20, 12) from by decide +kernel)).trans rfl
theorem ce_193 (G : GG) : cel G h0 193 = .inr (12, [.ref (ad G (193 + 1)), .ref (ad G (193 + 2)), .int 0, .ref (ad G (193 + 3)), .ref (ad G (193 + 4)), .ref (ad G (193 + 5)), .ref (ad G (193 + 6)), .ref (ad G (193 + 7)), .ref (ad G (193 + 8)), .ref (ad G (193 + 9)), .ref (ad G (193 + 10)), .ref (ad G (193 + 11)), .ref (ad G (193 + 12)), .ref (ad G (193 + 13)), .ref (ad G (193 + 14)), .ref (ad G (193 + 15)), .ref (ad G (193 + 16)), .ref (ad G (193 + 17)), .ref (ad G (193 + 18)), .ref (ad G (193 + 19)), .ref (ad G (193 + 20)), .ref (ad G (193 + 21)), .ref (ad G (193 + 22)), .ref (ad G (193 + 23)), .ref (ad G (193 + 24)), .ref (ad G (193 + 25)), .ref (ad G (193 + 26)), .int 0, .int 0, .int 0, .int 0, .int 0, .int 0, .int 0, .int 0, .int 0, .int (-1), .ref (ad G (193 + 27)), .ref (ad G (193 + 28)), .ref (ad G (193 + 29)), .int 0, .ref (ad G (193 + 30)), .ref (ad G (193 + 31)), .ref (ad G (193 + 32)), .ref (ad G (193 + 33)), .ref (ad G (193 + 34)), .ref (ad G (193 + 35)), .int 0, .long 0, .int (-1), .int 0, .ref (ad G (193 + 36)), .int 0, .ref (ad G (193 + 37)), .ref (ad G (193 + 38)), .int 0, .ref (ad G (193 + 39)), .ref (ad G (193 + 40)), .ref (ad G (193 + 41)), .ref (ad G (193 + 42))]) := (cel_obj (show SH 193 = (12, 0) from by decide +kernel) (by decide)).trans rfl
theorem ce_194 (G : GG) : ceq (.inl (gA G 4, 4, .inr (.inr (.inr (.inr (va_up (va_up (va_up (va_up (fun _ => none) 0 (some (gK G 24))) 1 (some (gK G 25))) 2 (some (gK G 26))) 3 (some (gK G 27)))))))) (cel G h0 194) := by
  rw [cel_s (show SH 194 = (24, 4) from by decide +kernel)]
  refine ceq_q (fun j hj => ?_)
  rcases (show j = 0 ∨ j = 1 ∨ j = 2 ∨ j = 3 by omega) with rfl | rfl | rfl | rfl <;> rfl
theorem ce_195 (G : GG) : ceq (.inl (gA G 4, 3, .inr (.inr (.inr (.inr (va_up (va_up (va_up (fun _ => none) 0 (some (gK G 28))) 1 (some (gK G 29))) 2 (some (gK G 30)))))))) (cel G h0 195) := by
  rw [cel_s (show SH 195 = (24, 3) from by decide +kernel)]
  refine ceq_q (fun j hj => ?_)
  rcases (show j = 0 ∨ j = 1 ∨ j = 2 by omega) with rfl | rfl | rfl <;> rfl
theorem ce_196 (G : GG) : cel G h0 196 = .inl (gA G 0, 8, .inl (fun _ => 0)) := (cel_i (show SH 196 = (20, 8) from by decide +kernel)).trans rfl
theorem ce_197 (G : GG) : cel G h0 197 = .inl (gA G 0, 8, .inl (fun _ => 0)) := (cel_i (show SH 197 = (20, 8) from by decide +kernel)).trans rfl
theorem ce_198 (G : GG) : cel G h0 198 = .inl (gA G 0, 8, .inl (fun _ => 0)) := (cel_i (show SH 198 = (20, 8) from by decide +kernel)).trans rfl
theorem ce_199 (G : GG) : cel G h0 199 = .inl (gA G 0, 8, .inl (fun _ => 0)) := (cel_i (show SH 199 = (20, 8) from by decide +kernel)).trans rfl
theorem ce_200 (G : GG) : cel G h0 200 = .inl (gA G 0, 8, .inl (fun _ => 0)) := (cel_i (show SH 200 = (20, 8) from by decide +kernel)).trans rfl
theorem ce_201 (G : GG) : cel G h0 201 = .inl (gA G 0, 8, .inl (fun _ => 0)) := (cel_i (show SH 201 = (20, 8) from by decide +kernel)).trans rfl
theorem ce_202 (G : GG) : cel G h0 202 = .inl (gA G 0, 320, .inl (fun _ => 0)) := (cel_i (show SH 202 = (20, 320) from by decide +kernel)).trans rfl
theorem ce_203 (G : GG) : cel G h0 203 = .inl (gA G 0, 320, .inl (fun _ => 0)) := (cel_i (show SH 203 = (20, 320) from by decide +kernel)).trans rfl
theorem ce_204 (G : GG) : cel G h0 204 = .inl (gA G 0, 320, .inl (fun _ => 0)) := (cel_i (show SH 204 = (20, 320) from by decide +kernel)).trans rfl
theorem ce_205 (G : GG) : cel G h0 205 = .inl (gA G 0, 320, .inl (fun _ => 0)) := (cel_i (show SH 205 = (20, 320) from by decide +kernel)).trans rfl
theorem ce_206 (G : GG) : cel G h0 206 = .inl (gA G 0, 320, .inl (fun _ => 0)) := (cel_i (show SH 206 = (20, 320) from by decide +kernel)).trans rfl
theorem ce_207 (G : GG) : cel G h0 207 = .inl (gA G 0, 320, .inl (fun _ => 0)) := (cel_i (show SH 207 = (20, 320) from by decide +kernel)).trans rfl
theorem ce_208 (G : GG) : cel G h0 208 = .inl (gA G 0, 320, .inl (fun _ => 0)) := (cel_i (show SH 208 = (20, 320) from by decide +kernel)).trans rfl
theorem ce_209 (G : GG) : cel G h0 209 = .inl (gA G 0, 320, .inl (fun _ => 0)) := (cel_i (show SH 209 = (20, 320) from by decide +kernel)).trans rfl
theorem ce_210 (G : GG) : cel G h0 210 = .inl (gA G 0, 32, .inl (fun _ => 0)) := (cel_i (show SH 210 = (20, 32) from by decide +kernel)).trans rfl
theorem ce_211 (G : GG) : cel G h0 211 = .inl (gA G 0, 32, .inl (fun _ => 0)) := (cel_i (show SH 211 = (20, 32) from by decide +kernel)).trans rfl
theorem ce_212 (G : GG) : cel G h0 212 = .inl (gA G 0, 64, .inl (fun _ => 0)) := (cel_i (show SH 212 = (20, 64) from by decide +kernel)).trans rfl
theorem ce_213 (G : GG) : cel G h0 213 = .inl (gA G 0, 64, .inl (fun _ => 0)) := (cel_i (show SH 213 = (20, 64) from by decide +kernel)).trans rfl
theorem ce_214 (G : GG) : cel G h0 214 = .inl (gA G 0, 64, .inl (fun _ => 0)) := (cel_i (show SH 214 = (20, 64) from by decide +kernel)).trans rfl
theorem ce_215 (G : GG) : cel G h0 215 = .inl (gA G 0, 6, .inl ((upd (upd (upd (upd (upd (upd (fun _ => 0) 0 2) 1 20) 2 3) 3 0) 4 0) 5 0))) := (cel_i (show SH 215 = (20, 6) from by decide +kernel)).trans rfl
theorem ce_216 (G : GG) : cel G h0 216 = .inl (gA G 0, 84, .inl (pF (fun _ => 0) (-1) 84)) := (cel_i (show SH 216 = (20, 84) from by decide +kernel)).trans rfl
theorem ce_217 (G : GG) : cel G h0 217 = .inl (gA G 0, 84, .inl (fun _ => 0)) := (cel_i (show SH 217 = (20, 84) from by decide +kernel)).trans rfl
theorem ce_218 (G : GG) : cel G h0 218 = .inl (gA G 0, 4, .inl (fun _ => 0)) := (cel_i (show SH 218 = (20, 4) from by decide +kernel)).trans rfl
theorem ce_219 (G : GG) : cel G h0 219 = .inl (gA G 0, 500, .inl (fun _ => 0)) := (cel_i (show SH 219 = (20, 500) from by decide +kernel)).trans rfl
theorem ce_220 (G : GG) : cel G h0 220 = .inl (gA G 0, 40, .inl (fun _ => 0)) := (cel_i (show SH 220 = (20, 40) from by decide +kernel)).trans rfl
theorem ce_221 (G : GG) : cel G h0 221 = .inl (gA G 0, 40, .inl (fun _ => 0)) := (cel_i (show SH 221 = (20, 40) from by decide +kernel)).trans rfl
theorem ce_222 (G : GG) : cel G h0 222 = .inl (gA G 0, 40, .inl (fun _ => 0)) := (cel_i (show SH 222 = (20, 40) from by decide +kernel)).trans rfl
theorem ce_223 (G : GG) : cel G h0 223 = .inl (gA G 1, 800, .inr (.inl (fun _ => 0))) := (cel_l (show SH 223 = (21, 800) from by decide +kernel)).trans rfl
theorem ce_224 (G : GG) : cel G h0 224 = .inl (gA G 1, 800, .inr (.inl (fun _ => 0))) := (cel_l (show SH 224 = (21, 800) from by decide +kernel)).trans rfl
theorem ce_225 (G : GG) : cel G h0 225 = .inl (gA G 0, 12, .inl (fun _ => 0)) := (cel_i (show SH 225 = (20, 12) from by decide +kernel)).trans rfl
theorem ce_226 (G : GG) : cel G h0 226 = .inl (gA G 0, 12, .inl (fun _ => 0)) := (cel_i (show SH 226 = (20, 12) from by decide +kernel)).trans rfl
theorem ce_227 (G : GG) : cel G h0 227 = .inl (gA G 0, 5, .inl (fun _ => 0)) := (cel_i (show SH 227 = (20, 5) from by decide +kernel)).trans rfl
theorem ce_228 (G : GG) : cel G h0 228 = .inl (gA G 0, 5, .inl (fun _ => 0)) := (cel_i (show SH 228 = (20, 5) from by decide +kernel)).trans rfl
theorem ce_229 (G : GG) : cel G h0 229 = .inl (gA G 0, 40, .inl (fun _ => 0)) := (cel_i (show SH 229 = (20, 40) from by decide +kernel)).trans rfl
theorem ce_230 (G : GG) : cel G h0 230 = .inl (gA G 0, 20, .inl (fun _ => 0)) := (cel_i (show SH 230 = (20, 20) from by decide +kernel)).trans rfl
theorem ce_231 (G : GG) : cel G h0 231 = .inl (gA G 0, 20, .inl (fun _ => 0)) := (cel_i (show SH 231 = (20, 20) from by decide +kernel)).trans rfl
theorem ce_232 (G : GG) : cel G h0 232 = .inl (gA G 0, 240, .inl (fun _ => 0)) := (cel_i (show SH 232 = (20, 240) from by decide +kernel)).trans rfl
theorem ce_233 (G : GG) : cel G h0 233 = .inl (gA G 0, 240, .inl (fun _ => 0)) := (cel_i (show SH 233 = (20, 240) from by decide +kernel)).trans rfl
theorem ce_234 (G : GG) : cel G h0 234 = .inl (gA G 0, 6, .inl (fun _ => 0)) := (cel_i (show SH 234 = (20, 6) from by decide +kernel)).trans rfl
theorem ce_235 (G : GG) : cel G h0 235 = .inl (gA G 0, 4, .inl (fun _ => 0)) := (cel_i (show SH 235 = (20, 4) from by decide +kernel)).trans rfl
theorem ce_236 (G : GG) : cel G h0 236 = .inl (gA G 1, 1, .inr (.inl (fun _ => 0))) := (cel_l (show SH 236 = (21, 1) from by decide +kernel)).trans rfl
