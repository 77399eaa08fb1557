/-! the abstract heap: int fields, long fields, int rows, long rows, references (fields and rows) -/
abbrev AH : Type := (Nat → Nat → Int32) × (Nat → Nat → Int64) × (Nat → Nat → Int32) × (Nat → Nat → Int64) × (Nat → Nat → Nat)
abbrev hfi (h : AH) : Nat → Nat → Int32 := h.1
abbrev hfl (h : AH) : Nat → Nat → Int64 := h.2.1
abbrev hia (h : AH) : Nat → Nat → Int32 := h.2.2.1
abbrev hla (h : AH) : Nat → Nat → Int64 := h.2.2.2.1
abbrev hra (h : AH) : Nat → Nat → Nat := h.2.2.2.2
abbrev cl (i : Int32) : Nat := i.toNatClampNeg
def up1 {α : Type} (f : Nat → α) (k : Nat) (v : α) : Nat → α := fun j => if j = k then v else f j
def up2 {α : Type} (f : Nat → Nat → α) (a k : Nat) (v : α) : Nat → Nat → α := fun b => if b = a then up1 (f a) k v else f b
def upr {α : Type} (f : Nat → Nat → α) (a : Nat) (g : Nat → α) : Nat → Nat → α := fun b => if b = a then g else f b
def sfi (h : AH) (a k : Nat) (v : Int32) : AH := (up2 h.1 a k v, h.2)
def sfl (h : AH) (a k : Nat) (v : Int64) : AH := (h.1, up2 h.2.1 a k v, h.2.2)
def sia (h : AH) (a k : Nat) (v : Int32) : AH := (h.1, h.2.1, up2 h.2.2.1 a k v, h.2.2.2)
def sla (h : AH) (a k : Nat) (v : Int64) : AH := (h.1, h.2.1, h.2.2.1, up2 h.2.2.2.1 a k v, h.2.2.2.2)
def sra (h : AH) (a k : Nat) (v : Nat) : AH := (h.1, h.2.1, h.2.2.1, h.2.2.2.1, up2 h.2.2.2.2 a k v)
def sir (h : AH) (a : Nat) (g : Nat → Int32) : AH := (h.1, h.2.1, upr h.2.2.1 a g, h.2.2.2)
theorem up2_at {α : Type} (f : Nat → Nat → α) (a k : Nat) (v : α) : up2 f a k v a = up1 (f a) k v := if_pos rfl
theorem up2_ne {α : Type} (f : Nat → Nat → α) {a b : Nat} (k : Nat) (v : α) (h : b ≠ a) : up2 f a k v b = f b := if_neg h
theorem upr_at {α : Type} (f : Nat → Nat → α) (a : Nat) (g : Nat → α) : upr f a g a = g := if_pos rfl
theorem upr_ne {α : Type} (f : Nat → Nat → α) {a b : Nat} (g : Nat → α) (h : b ≠ a) : upr f a g b = f b := if_neg h
def shA : List (Nat × Nat) := [(11, 0), (7, 0), (20, 500), (22, 6), (23, 6), (5, 0), (0, 0), (20, 40), (20, 40), (20, 40), (20, 40), (20, 40), (20, 40), (3, 0), (20, 40), (20, 40), (3, 0), (20, 40), (20, 40), (20, 4), (20, 4), (20, 8), (20, 8), (20, 8), (10, 0), (20, 12), (20, 12), (5, 0), (8, 0), (20, 20), (20, 20), (20, 4), (20, 4), (9, 0), (20, 40), (20, 40), (20, 40), (20, 40), (20, 40), (20, 12), (20, 12), (20, 12), (9, 0), (20, 40), (20, 40), (20, 40), (20, 40), (20, 40), (20, 12), (20, 12), (20, 12), (1, 0), (20, 381), (20, 381), (4, 0), (20, 12), (20, 12), (2, 0), (20, 40), (20, 40), (6, 0), (20, 40), (20, 40), (3, 0), (20, 40), (20, 40), (20, 40)]
def shB : List (Nat × Nat) := [(0, 0), (20, 40), (20, 40), (20, 40), (20, 40), (20, 40), (20, 40), (3, 0), (20, 40), (20, 40), (3, 0), (20, 40), (20, 40), (20, 4), (20, 4), (20, 8), (20, 8), (20, 8)]
def shW : List (Nat × Nat) := [(10, 0), (20, 12), (20, 12)]
def shM : List (Nat × Nat) := [(12, 0), (24, 4), (24, 3), (20, 8), (20, 8), (20, 8), (20, 8), (20, 8), (20, 8), (20, 320), (20, 320), (20, 320), (20, 320), (20, 320), (20, 320), (20, 320), (20, 320), (20, 32), (20, 32), (20, 64), (20, 64), (20, 64), (20, 6), (20, 84), (20, 84), (20, 4), (20, 500), (20, 40), (20, 40), (20, 40), (21, 800), (21, 800), (20, 12), (20, 12), (20, 5), (20, 5), (20, 40), (20, 20), (20, 20), (20, 240), (20, 240), (20, 6), (20, 4), (21, 1)]
/-- the kind of a cell and, of a row, its length -/
def SH (r : Nat) : Nat × Nat := if r < 67 then shA.getD r (99, 0) else if r < 175 then shB.getD ((r - 67) % 18) (99, 0) else if r < 193 then shW.getD ((r - 175) % 3) (99, 0) else shM.getD (r - 193) (99, 0)
theorem sh_lt {a c n : Nat} (h : SH a = (c, n)) (hc : c ≠ 99) : a < 237 := by
  rcases Nat.lt_or_ge a 237 with q | q
  · exact q
  · exfalso
    have e : SH a = (99, 0) := by
      unfold SH
      rw [if_neg (by omega), if_neg (by omega), if_neg (by omega), List.getD_eq_getElem?_getD, List.getElem?_eq_none (by show 44 ≤ _; omega)]
      rfl
    rw [e] at h
    exact hc (congrArg Prod.fst h).symm
/-! what is the same in all: launch, tables' numbers, classes of rows, the first cell's address, where the texts lie, the script -/
abbrev GG : Type := Launch × va_G × (Nat → ClassId) × Nat × (Nat → Nat) × (Nat → Nat) × Nat × Nat × (Nat → Int32)
abbrev gL (G : GG) : Launch := G.1
abbrev gD (G : GG) : va_G := G.2.1
abbrev gA (G : GG) : Nat → ClassId := G.2.2.1
abbrev gB (G : GG) : Nat := G.2.2.2.1
abbrev gK (G : GG) : Nat → Nat := G.2.2.2.2.1
abbrev gV (G : GG) : Nat → Nat := G.2.2.2.2.2.1
abbrev gX (G : GG) : Nat := G.2.2.2.2.2.2.1
abbrev gN (G : GG) : Nat := G.2.2.2.2.2.2.2.1
abbrev gS (G : GG) : Nat → Int32 := G.2.2.2.2.2.2.2.2
def ad (G : GG) (r : Nat) : Nat := gB G + r
def AA (G : GG) : Nat → Prop := fun q => gB G ≤ q
def strAt (r j : Nat) : Nat := if r = 194 then ([24, 25, 26, 27] : List Nat).getD j 0 else ([28, 29, 30] : List Nat).getD j 0
/-- the fields of an object of class c at r -/
def fvR (G : GG) (r : Nat) (fi : Nat → Int32) (fl : Nat → Int64) (ra : Nat → Nat) : Nat → List Value
  | 0 => [.int (fi 0), .int (fi 1), .int (fi 2), .int (fi 3), .int (fi 4), .int (fi 5), .ref (ad G (r + 1)), .ref (ad G (r + 2)), .ref (ad G (r + 3)), .ref (ad G (r + 4)), .ref (ad G (r + 5)), .ref (ad G (r + 6)), .ref (ad G (r + 7)), .ref (ad G (r + 10)), .ref (ad G (r + 13)), .ref (ad G (r + 14)), .ref (ad G (r + 15)), .ref (ad G (r + 16)), .ref (ad G (r + 17))]
  | 1 => [.ref (ad G (r + 1)), .ref (ad G (r + 2))]
  | 2 => [.int (fi 0), .int (fi 1), .int (fi 2), .ref (ad G (r + 1)), .ref (ad G (r + 2))]
  | 3 => [.ref (ad G (r + 1)), .ref (ad G (r + 2))]
  | 4 => [.int (fi 0), .ref (ad G (r + 1)), .ref (ad G (r + 2)), .int (fi 3), .int (fi 4), .int (fi 5)]
  | 5 => [.int (fi 0), .int (fi 1), .int (fi 2), .int (fi 3)]
  | 6 => [.int (fi 0), .int (fi 1), .int (fi 2), .int (fi 3), .ref (ad G (r + 1)), .ref (ad G (r + 2))]
  | 7 => [.int (fi 0), .int (fi 1), .int (fi 2), .int (fi 3), .int (fi 4), .ref (ad G (r + 1)), .int (fi 6), .int (fi 7), .int (fi 8)]
  | 8 => [.int (fi 0), .ref (ad G (r + 1)), .ref (ad G (r + 2))]
  | 9 => [.ref (ad G (r + 1)), .ref (ad G (r + 2)), .ref (ad G (r + 3)), .ref (ad G (r + 4)), .ref (ad G (r + 5)), .ref (ad G (r + 6)), .ref (ad G (r + 7)), .ref (ad G (r + 8))]
  | 10 => [.ref (ad G (r + 1)), .ref (ad G (r + 2))]
  | 11 => [.ref (ad G (r + 1)), .ref (ad G (r + 3)), .ref (ad G (r + 4)), .ref (ad G (ra 3)), .ref (ad G (ra 4)), .ref (ad G (ra 5)), .ref (ad G (ra 6)), .ref (ad G (r + 28)), .ref (ad G (r + 31)), .ref (ad G (r + 32)), .int (fi 10), .ref (ad G (r + 33)), .ref (ad G (r + 42)), .ref (ad G (r + 51)), .ref (ad G (r + 54)), .ref (ad G (r + 57)), .ref (ad G (r + 60)), .ref (ad G (r + 63)), .ref (ad G (r + 66))]
  | 12 => [.ref (ad G (r + 1)), .ref (ad G (r + 2)), .int (fi 2), .ref (ad G (r + 3)), .ref (ad G (r + 4)), .ref (ad G (r + 5)), .ref (ad G (r + 6)), .ref (ad G (r + 7)), .ref (ad G (r + 8)), .ref (ad G (r + 9)), .ref (ad G (r + 10)), .ref (ad G (r + 11)), .ref (ad G (r + 12)), .ref (ad G (r + 13)), .ref (ad G (r + 14)), .ref (ad G (r + 15)), .ref (ad G (r + 16)), .ref (ad G (r + 17)), .ref (ad G (r + 18)), .ref (ad G (r + 19)), .ref (ad G (r + 20)), .ref (ad G (r + 21)), .ref (ad G (r + 22)), .ref (ad G (r + 23)), .ref (ad G (r + 24)), .ref (ad G (r + 25)), .ref (ad G (r + 26)), .int (fi 27), .int (fi 28), .int (fi 29), .int (fi 30), .int (fi 31), .int (fi 32), .int (fi 33), .int (fi 34), .int (fi 35), .int (fi 36), .ref (ad G (r + 27)), .ref (ad G (r + 28)), .ref (ad G (r + 29)), .int (fi 40), .ref (ad G (r + 30)), .ref (ad G (r + 31)), .ref (ad G (r + 32)), .ref (ad G (r + 33)), .ref (ad G (r + 34)), .ref (ad G (r + 35)), .int (fi 47), .long (fl 48), .int (fi 49), .int (fi 50), .ref (ad G (r + 36)), .int (fi 52), .ref (ad G (r + 37)), .ref (ad G (r + 38)), .int (fi 55), .ref (ad G (r + 39)), .ref (ad G (r + 40)), .ref (ad G (r + 41)), .ref (ad G (r + 42))]
  | _ => []
def celR (G : GG) (r : Nat) (fi : Nat → Int32) (fl : Nat → Int64) (ia : Nat → Int32) (la : Nat → Int64) (ra : Nat → Nat) : va_E :=
  if (SH r).1 = 20 then .inl (gA G 0, (SH r).2, .inl ia) else if (SH r).1 = 21 then .inl (gA G 1, (SH r).2, .inr (.inl la))
  else if (SH r).1 = 22 then .inl (gA G 2, (SH r).2, .inr (.inr (.inr (.inr (fun j => some (ad G (ra j)))))))
  else if (SH r).1 = 23 then .inl (gA G 3, (SH r).2, .inr (.inr (.inr (.inr (fun j => some (ad G (ra j)))))))
  else if (SH r).1 = 24 then .inl (gA G 4, (SH r).2, .inr (.inr (.inr (.inr (fun j => some (gK G (strAt r j)))))))
  else .inr ((SH r).1, fvR G r fi fl ra (SH r).1)
def cel (G : GG) (h : AH) (r : Nat) : va_E := celR G r (hfi h r) (hfl h r) (hia h r) (hla h r) (hra h r)
def wsof (G : GG) (h : AH) : va_W := (List.range 237).map (fun r => (ad G r, cel G h r))
def tys (G : GG) : List (ClassId × FieldType) := [(gA G 0, .int), (gA G 1, .long), (gA G 2, .object "ThumbBook$Book"), (gA G 3, .object "ThumbBook$Way"), (gA G 4, .object "java/lang/String")]
theorem ws_at (G : GG) (h : AH) {r : Nat} (hr : r < 237) : (wsof G h)[r]? = some (ad G r, cel G h r) := by
  unfold wsof
  rw [List.getElem?_map, List.getElem?_range hr]
  rfl
theorem ws_get {G : GG} {h : AH} {k : Nat} {q : Nat × va_E} (hk : (wsof G h)[k]? = some q) : k < 237 ∧ q = (ad G k, cel G h k) := by
  have hl : k < (wsof G h).length := (List.getElem?_eq_some_iff.mp hk).1
  have hlen : (wsof G h).length = 237 := by simp [wsof]
  rw [hlen] at hl
  rw [ws_at G h hl] at hk
  exact ⟨hl, (Option.some.inj hk).symm⟩
theorem ws_D (G : GG) (h : AH) : va_D (AA G) (wsof G h) := by
  refine ⟨fun i j p q hi hj e => ?_, fun k q hk => ?_⟩
  · obtain ⟨-, rfl⟩ := ws_get hi
    obtain ⟨-, rfl⟩ := ws_get hj
    have e : gB G + i = gB G + j := e
    omega
  · obtain ⟨-, rfl⟩ := ws_get hk
    show gB G ≤ gB G + k
    omega
theorem ws_set (G : GG) (h h' : AH) {r : Nat} (hr : r < 237) {e : va_E} (he : cel G h' r = e) (hne : ∀ b, b ≠ r → cel G h' b = cel G h b) : (wsof G h).set r (ad G r, e) = wsof G h' := by
  subst he
  apply List.ext_getElem?
  intro k
  rw [List.getElem?_set]
  have hlen : (wsof G h).length = 237 := by simp [wsof]
  by_cases hk : k < 237
  · by_cases e : r = k
    · subst e
      rw [if_pos rfl, if_pos (by rw [hlen]; exact hr), ws_at G h' hr]
    · rw [if_neg e, ws_at G h hk, ws_at G h' hk, hne k (fun q => e q.symm)]
  · have h2 : (wsof G h')[k]? = none := List.getElem?_eq_none (by simp [wsof]; omega)
    have h1 : (wsof G h)[k]? = none := List.getElem?_eq_none (by rw [hlen]; omega)
    rw [h2, if_neg (by omega), h1]
theorem cel_obj {G : GG} {h : AH} {a c n : Nat} (hs : SH a = (c, n)) (hc : c < 13) : cel G h a = .inr (c, fvR G a (hfi h a) (hfl h a) (hra h a) c) := by
  unfold cel celR
  rw [hs]
  show (if c = 20 then _ else _) = _
  rw [if_neg (by omega), if_neg (by omega), if_neg (by omega), if_neg (by omega), if_neg (by omega)]
theorem cel_i {G : GG} {h : AH} {a n : Nat} (hs : SH a = (20, n)) : cel G h a = .inl (gA G 0, n, .inl (hia h a)) := by
  unfold cel celR
  rw [hs]
  rfl
theorem cel_l {G : GG} {h : AH} {a n : Nat} (hs : SH a = (21, n)) : cel G h a = .inl (gA G 1, n, .inr (.inl (hla h a))) := by
  unfold cel celR
  rw [hs]
  rfl
theorem cel_b {G : GG} {h : AH} {a n : Nat} (hs : SH a = (22, n)) : cel G h a = .inl (gA G 2, n, .inr (.inr (.inr (.inr (fun j => some (ad G (hra h a j))))))) := by
  unfold cel celR
  rw [hs]
  rfl
theorem cel_w {G : GG} {h : AH} {a n : Nat} (hs : SH a = (23, n)) : cel G h a = .inl (gA G 3, n, .inr (.inr (.inr (.inr (fun j => some (ad G (hra h a j))))))) := by
  unfold cel celR
  rw [hs]
  rfl
theorem cel_s {G : GG} {h : AH} {a n : Nat} (hs : SH a = (24, n)) : cel G h a = .inl (gA G 4, n, .inr (.inr (.inr (.inr (fun j => some (gK G (strAt a j))))))) := by
  unfold cel celR
  rw [hs]
  rfl
theorem cel_sfi {G : GG} {h : AH} {a k : Nat} {v : Int32} {b : Nat} (hb : b ≠ a) : cel G (sfi h a k v) b = cel G h b := by
  show celR G b (up2 h.1 a k v b) _ _ _ _ = _
  rw [up2_ne _ _ _ hb]
  rfl
theorem cel_sfl {G : GG} {h : AH} {a k : Nat} {v : Int64} {b : Nat} (hb : b ≠ a) : cel G (sfl h a k v) b = cel G h b := by
  show celR G b _ (up2 h.2.1 a k v b) _ _ _ = _
  rw [up2_ne _ _ _ hb]
  rfl
theorem cel_sia {G : GG} {h : AH} {a k : Nat} {v : Int32} {b : Nat} (hb : b ≠ a) : cel G (sia h a k v) b = cel G h b := by
  show celR G b _ _ (up2 h.2.2.1 a k v b) _ _ = _
  rw [up2_ne _ _ _ hb]
  rfl
theorem cel_sir {G : GG} {h : AH} {a : Nat} {g : Nat → Int32} {b : Nat} (hb : b ≠ a) : cel G (sir h a g) b = cel G h b := by
  show celR G b _ _ (upr h.2.2.1 a g b) _ _ = _
  rw [upr_ne _ _ hb]
  rfl
theorem cel_sla {G : GG} {h : AH} {a k : Nat} {v : Int64} {b : Nat} (hb : b ≠ a) : cel G (sla h a k v) b = cel G h b := by
  show celR G b _ _ _ (up2 h.2.2.2.1 a k v b) _ = _
  rw [up2_ne _ _ _ hb]
  rfl
theorem cel_sra {G : GG} {h : AH} {a k : Nat} {v : Nat} {b : Nat} (hb : b ≠ a) : cel G (sra h a k v) b = cel G h b := by
  show celR G b _ _ _ _ (up2 h.2.2.2.2 a k v b) = _
  rw [up2_ne _ _ _ hb]
  rfl
