abbrev fr_X0 : va_E := .inr (0, [.int 0, .int 0, .int 0, .int 0, .int 0, .int 0, .null, .null, .null, .null, .null, .null, .null, .null, .null, .null, .null, .null, .null])
theorem df_X0 : ∀ j, j < 19 → defaultValue (tyX0 j) = vp_V [.int 0, .int 0, .int 0, .int 0, .int 0, .int 0, .null, .null, .null, .null, .null, .null, .null, .null, .null, .null, .null, .null, .null] j
  | 0, _ => rfl
  | 1, _ => rfl
  | 2, _ => rfl
  | 3, _ => rfl
  | 4, _ => rfl
  | 5, _ => rfl
  | 6, _ => rfl
  | 7, _ => rfl
  | 8, _ => rfl
  | 9, _ => rfl
  | 10, _ => rfl
  | 11, _ => rfl
  | 12, _ => rfl
  | 13, _ => rfl
  | 14, _ => rfl
  | 15, _ => rfl
  | 16, _ => rfl
  | 17, _ => rfl
  | 18, _ => rfl
  | j + 19, h => absurd h (by omega)
abbrev fr_X1 : va_E := .inr (1, [.null, .null])
theorem df_X1 : ∀ j, j < 2 → defaultValue (tyX1 j) = vp_V [.null, .null] j
  | 0, _ => rfl
  | 1, _ => rfl
  | j + 2, h => absurd h (by omega)
abbrev fr_X2 : va_E := .inr (2, [.int 0, .int 0, .int 0, .null, .null])
theorem df_X2 : ∀ j, j < 5 → defaultValue (tyX2 j) = vp_V [.int 0, .int 0, .int 0, .null, .null] j
  | 0, _ => rfl
  | 1, _ => rfl
  | 2, _ => rfl
  | 3, _ => rfl
  | 4, _ => rfl
  | j + 5, h => absurd h (by omega)
abbrev fr_X3 : va_E := .inr (3, [.null, .null])
theorem df_X3 : ∀ j, j < 2 → defaultValue (tyX3 j) = vp_V [.null, .null] j
  | 0, _ => rfl
  | 1, _ => rfl
  | j + 2, h => absurd h (by omega)
abbrev fr_X4 : va_E := .inr (4, [.int 0, .null, .null, .int 0, .int 0, .int 0])
theorem df_X4 : ∀ j, j < 6 → defaultValue (tyX4 j) = vp_V [.int 0, .null, .null, .int 0, .int 0, .int 0] j
  | 0, _ => rfl
  | 1, _ => rfl
  | 2, _ => rfl
  | 3, _ => rfl
  | 4, _ => rfl
  | 5, _ => rfl
  | j + 6, h => absurd h (by omega)
abbrev fr_X5 : va_E := .inr (5, [.int 0, .int 0, .int 0, .int 0])
theorem df_X5 : ∀ j, j < 4 → defaultValue (tyX5 j) = vp_V [.int 0, .int 0, .int 0, .int 0] j
  | 0, _ => rfl
  | 1, _ => rfl
  | 2, _ => rfl
  | 3, _ => rfl
  | j + 4, h => absurd h (by omega)
abbrev fr_X6 : va_E := .inr (6, [.int 0, .int 0, .int 0, .int 0, .null, .null])
theorem df_X6 : ∀ j, j < 6 → defaultValue (tyX6 j) = vp_V [.int 0, .int 0, .int 0, .int 0, .null, .null] j
  | 0, _ => rfl
  | 1, _ => rfl
  | 2, _ => rfl
  | 3, _ => rfl
  | 4, _ => rfl
  | 5, _ => rfl
  | j + 6, h => absurd h (by omega)
abbrev fr_X7 : va_E := .inr (7, [.int 0, .int 0, .int 0, .int 0, .int 0, .null, .int 0, .int 0, .int 0])
theorem df_X7 : ∀ j, j < 9 → defaultValue (tyX7 j) = vp_V [.int 0, .int 0, .int 0, .int 0, .int 0, .null, .int 0, .int 0, .int 0] j
  | 0, _ => rfl
  | 1, _ => rfl
  | 2, _ => rfl
  | 3, _ => rfl
  | 4, _ => rfl
  | 5, _ => rfl
  | 6, _ => rfl
  | 7, _ => rfl
  | 8, _ => rfl
  | j + 9, h => absurd h (by omega)
abbrev fr_X8 : va_E := .inr (8, [.int 0, .null, .null])
theorem df_X8 : ∀ j, j < 3 → defaultValue (tyX8 j) = vp_V [.int 0, .null, .null] j
  | 0, _ => rfl
  | 1, _ => rfl
  | 2, _ => rfl
  | j + 3, h => absurd h (by omega)
abbrev fr_X9 : va_E := .inr (9, [.null, .null, .null, .null, .null, .null, .null, .null])
theorem df_X9 : ∀ j, j < 8 → defaultValue (tyX9 j) = vp_V [.null, .null, .null, .null, .null, .null, .null, .null] j
  | 0, _ => rfl
  | 1, _ => rfl
  | 2, _ => rfl
  | 3, _ => rfl
  | 4, _ => rfl
  | 5, _ => rfl
  | 6, _ => rfl
  | 7, _ => rfl
  | j + 8, h => absurd h (by omega)
abbrev fr_X10 : va_E := .inr (10, [.null, .null])
theorem df_X10 : ∀ j, j < 2 → defaultValue (tyX10 j) = vp_V [.null, .null] j
  | 0, _ => rfl
  | 1, _ => rfl
  | j + 2, h => absurd h (by omega)
abbrev fr_X11 : va_E := .inr (11, [.null, .null, .null, .null, .null, .null, .null, .null, .null, .null, .int 0, .null, .null, .null, .null, .null, .null, .null, .null])
theorem df_X11 : ∀ j, j < 19 → defaultValue (tyX11 j) = vp_V [.null, .null, .null, .null, .null, .null, .null, .null, .null, .null, .int 0, .null, .null, .null, .null, .null, .null, .null, .null] j
  | 0, _ => rfl
  | 1, _ => rfl
  | 2, _ => rfl
  | 3, _ => rfl
  | 4, _ => rfl
  | 5, _ => rfl
  | 6, _ => rfl
  | 7, _ => rfl
  | 8, _ => rfl
  | 9, _ => rfl
  | 10, _ => rfl
  | 11, _ => rfl
  | 12, _ => rfl
  | 13, _ => rfl
  | 14, _ => rfl
  | 15, _ => rfl
  | 16, _ => rfl
  | 17, _ => rfl
  | 18, _ => rfl
  | j + 19, h => absurd h (by omega)
abbrev fr_X12 : va_E := .inr (12, [.null, .null, .int 0, .null, .null, .null, .null, .null, .null, .null, .null, .null, .null, .null, .null, .null, .null, .null, .null, .null, .null, .null, .null, .null, .null, .null, .null, .int 0, .int 0, .int 0, .int 0, .int 0, .int 0, .int 0, .int 0, .int 0, .int 0, .null, .null, .null, .int 0, .null, .null, .null, .null, .null, .null, .int 0, .long 0, .int 0, .int 0, .null, .int 0, .null, .null, .int 0, .null, .null, .null, .null])
theorem df_X12 : ∀ j, j < 60 → defaultValue (tyX12 j) = vp_V [.null, .null, .int 0, .null, .null, .null, .null, .null, .null, .null, .null, .null, .null, .null, .null, .null, .null, .null, .null, .null, .null, .null, .null, .null, .null, .null, .null, .int 0, .int 0, .int 0, .int 0, .int 0, .int 0, .int 0, .int 0, .int 0, .int 0, .null, .null, .null, .int 0, .null, .null, .null, .null, .null, .null, .int 0, .long 0, .int 0, .int 0, .null, .int 0, .null, .null, .int 0, .null, .null, .null, .null] j
  | 0, _ => rfl
  | 1, _ => rfl
  | 2, _ => rfl
  | 3, _ => rfl
  | 4, _ => rfl
  | 5, _ => rfl
  | 6, _ => rfl
  | 7, _ => rfl
  | 8, _ => rfl
  | 9, _ => rfl
  | 10, _ => rfl
  | 11, _ => rfl
  | 12, _ => rfl
  | 13, _ => rfl
  | 14, _ => rfl
  | 15, _ => rfl
  | 16, _ => rfl
  | 17, _ => rfl
  | 18, _ => rfl
  | 19, _ => rfl
  | 20, _ => rfl
  | 21, _ => rfl
  | 22, _ => rfl
  | 23, _ => rfl
  | 24, _ => rfl
  | 25, _ => rfl
  | 26, _ => rfl
  | 27, _ => rfl
  | 28, _ => rfl
  | 29, _ => rfl
  | 30, _ => rfl
  | 31, _ => rfl
  | 32, _ => rfl
  | 33, _ => rfl
  | 34, _ => rfl
  | 35, _ => rfl
  | 36, _ => rfl
  | 37, _ => rfl
  | 38, _ => rfl
  | 39, _ => rfl
  | 40, _ => rfl
  | 41, _ => rfl
  | 42, _ => rfl
  | 43, _ => rfl
  | 44, _ => rfl
  | 45, _ => rfl
  | 46, _ => rfl
  | 47, _ => rfl
  | 48, _ => rfl
  | 49, _ => rfl
  | 50, _ => rfl
  | 51, _ => rfl
  | 52, _ => rfl
  | 53, _ => rfl
  | 54, _ => rfl
  | 55, _ => rfl
  | 56, _ => rfl
  | 57, _ => rfl
  | 58, _ => rfl
  | 59, _ => rfl
  | j + 60, h => absurd h (by omega)
def svB (G : GG) : Nat → Nat → Option Nat
  | 0 => fun _ => none
  | k + 1 => va_up (svB G k) k (some (ad G (67 + 18 * k)))
def svW (G : GG) : Nat → Nat → Option Nat
  | 0 => fun _ => none
  | k + 1 => va_up (svW G k) k (some (ad G (175 + 3 * k)))
theorem ap_last {T : List va_E} {a : va_E} {k : Nat} (h : T.length = k) : (T ++ [a])[k]? = some a := by
  subst h
  simp
theorem ap_set {T : List va_E} {a b : va_E} {k : Nat} (h : T.length = k) : (T ++ [a]).set k b = T ++ [b] := by
  subst h
  simp
theorem ap_at {T B : List va_E} {a : va_E} {k : Nat} (h : T[k]? = some a) : (T ++ B)[k]? = some a := by
  rw [List.getElem?_append_left (List.getElem?_eq_some_iff.mp h).1]
  exact h
theorem hd_at5 {a b c d e x : va_E} {T B : List va_E} {k : Nat} (h : T.length = k) (hB : B[0]? = some x) : (a :: b :: c :: d :: e :: (T ++ B))[k + 5]? = some x := by
  subst h
  show (T ++ B)[T.length]? = _
  rw [List.getElem?_append_right (Nat.le_refl _), Nat.sub_self]
  exact hB
def blk_X7 (G : GG) (n : Nat) : List va_E := [.inr (7, [.int 0, .int 0, .int (-1), .int 0, .int 0, .ref (ad G (n + 1)), .int 0, .int 0, .int 0]), .inl (gA G 0, 500, .inl (fun _ => 0))]
theorem blk_X7_len (G : GG) (n : Nat) : (blk_X7 G n).length = 2 := rfl
theorem blk_hd_X7 (G : GG) (n : Nat) : (blk_X7 G n)[0]? = some (.inr (7, [.int 0, .int 0, .int (-1), .int 0, .int 0, .ref (ad G (n + 1)), .int 0, .int 0, .int 0])) := rfl
set_option maxRecDepth 20000 in
theorem c_X7_init (G : GG) (n : Nat) : Sp2 G 1 1 500 mX7_init [.ref (ad G n)] n [fr_X7] (blk_X7 G n) := by
  refine sp2_of pf_X7_init (Nat.le_of_ble_eq_true rfl) ?_
  show J2 G mX7_init 1 1 500 (fun pre => K1 G 1 500 (pre ++ blk_X7 G n)) n 0 [(0, .ref (ad G n))] [] [fr_X7] 0 0
  refine m_aload_n 0 dX7_init_0 rfl ?_
  refine m_obj rfl km_RX7_3 (by decide) (Nat.le_of_ble_eq_true rfl) dX7_init_1 ?_
  refine m_aload_n 0 dX7_init_4 rfl ?_
  refine m_iconst (-1) dX7_init_5 (by decide) ?_
  refine m_put (k0 := 2) (k1 := 0) (l' := [.inr (7, [.int 0, .int 0, .int (-1), .int 0, .int 0, .null, .int 0, .int 0, .int 0])]) tyX7 rfl rfl ku_7 tyX7_ok nmX7 rfl (by decide) rfl rfl kf_RX7_9 rfl rfl rfl rfl (Nat.le_of_ble_eq_true rfl) rfl dX7_init_6 ?_
  refine m_aload_n 0 dX7_init_9 rfl ?_
  refine m_sipush 500 dX7_init_10 (by decide) ?_
  refine m_newI (N := 500) (k1 := 1) (r := (n + 1)) (l' := [.inr (7, [.int 0, .int 0, .int (-1), .int 0, .int 0, .null, .int 0, .int 0, .int 0]), .inl (gA G 0, 500, .inl (fun _ => 0))]) rfl (by decide) (by decide) (by decide) (by decide) (by decide) rfl rfl dX7_init_13 ?_
  refine m_putF (k0 := 5) (k1 := 0) (l' := [.inr (7, [.int 0, .int 0, .int (-1), .int 0, .int 0, .ref (ad G (n + 1)), .int 0, .int 0, .int 0]), .inl (gA G 0, 500, .inl (fun _ => 0))]) tyX7 rfl rfl ku_7 tyX7_ok nmX7 rfl (by decide) rfl rfl rfl rfl kf_RX7_15 rfl rfl rfl rfl (Nat.le_of_ble_eq_true rfl) rfl dX7_init_15 ?_
  exact m_ret (by decide) (by decide) dX7_init_18 rfl
def blk_X5 (G : GG) (n : Nat) : List va_E := [.inr (5, [.int 2, .int 20, .int 3, .int 0])]
theorem blk_X5_len (G : GG) (n : Nat) : (blk_X5 G n).length = 1 := rfl
theorem blk_hd_X5 (G : GG) (n : Nat) : (blk_X5 G n)[0]? = some (.inr (5, [.int 2, .int 20, .int 3, .int 0])) := rfl
set_option maxRecDepth 20000 in
theorem c_X5_init (G : GG) (n : Nat) : Sp2 G 1 0 0 mX5_init [.ref (ad G n)] n [fr_X5] (blk_X5 G n) := by
  refine sp2_of pf_X5_init (Nat.le_of_ble_eq_true rfl) ?_
  show J2 G mX5_init 1 0 0 (fun pre => K1 G 0 0 (pre ++ blk_X5 G n)) n 0 [(0, .ref (ad G n))] [] [fr_X5] 0 0
  refine m_aload_n 0 dX5_init_0 rfl ?_
  refine m_obj rfl km_RX5_3 (by decide) (Nat.le_of_ble_eq_true rfl) dX5_init_1 ?_
  refine m_aload_n 0 dX5_init_4 rfl ?_
  refine m_iconst 2 dX5_init_5 (by decide) ?_
  refine m_put (k0 := 0) (k1 := 0) (l' := [.inr (5, [.int 2, .int 0, .int 0, .int 0])]) tyX5 rfl rfl ku_5 tyX5_ok nmX5 rfl (by decide) rfl rfl kf_RX5_9 rfl rfl rfl rfl (Nat.le_of_ble_eq_true rfl) rfl dX5_init_6 ?_
  refine m_aload_n 0 dX5_init_9 rfl ?_
  refine m_bipush 20 dX5_init_10 (by decide) ?_
  refine m_put (k0 := 1) (k1 := 0) (l' := [.inr (5, [.int 2, .int 20, .int 0, .int 0])]) tyX5 rfl rfl ku_5 tyX5_ok nmX5 rfl (by decide) rfl rfl kf_RX5_15 rfl rfl rfl rfl (Nat.le_of_ble_eq_true rfl) rfl dX5_init_12 ?_
  refine m_aload_n 0 dX5_init_15 rfl ?_
  refine m_iconst 3 dX5_init_16 (by decide) ?_
  refine m_put (k0 := 2) (k1 := 0) (l' := [.inr (5, [.int 2, .int 20, .int 3, .int 0])]) tyX5 rfl rfl ku_5 tyX5_ok nmX5 rfl (by decide) rfl rfl kf_RX5_18 rfl rfl rfl rfl (Nat.le_of_ble_eq_true rfl) rfl dX5_init_17 ?_
  exact m_ret (by decide) (by decide) dX5_init_20 rfl
def blk_X3 (G : GG) (n : Nat) : List va_E := [.inr (3, [.ref (ad G (n + 1)), .ref (ad G (n + 2))]), .inl (gA G 0, 40, .inl (pF (fun _ => 0) (-1) 40)), .inl (gA G 0, 40, .inl (fun _ => 0))]
theorem blk_X3_len (G : GG) (n : Nat) : (blk_X3 G n).length = 3 := rfl
theorem blk_hd_X3 (G : GG) (n : Nat) : (blk_X3 G n)[0]? = some (.inr (3, [.ref (ad G (n + 1)), .ref (ad G (n + 2))])) := rfl
set_option maxRecDepth 20000 in
theorem c_X3_init (G : GG) (n : Nat) : Sp2 G 2 2 80 mX3_init [.ref (ad G n)] n [fr_X3] (blk_X3 G n) := by
  refine sp2_of pf_X3_init (Nat.le_of_ble_eq_true rfl) ?_
  show J2 G mX3_init 2 2 80 (fun pre => K1 G 2 80 (pre ++ blk_X3 G n)) n 0 [(0, .ref (ad G n))] [] [fr_X3] 0 0
  refine m_aload_n 0 dX3_init_0 rfl ?_
  refine m_obj rfl km_RX3_3 (by decide) (Nat.le_of_ble_eq_true rfl) dX3_init_1 ?_
  refine m_aload_n 0 dX3_init_4 rfl ?_
  refine m_bipush 40 dX3_init_5 (by decide) ?_
  refine m_newI (N := 40) (k1 := 1) (r := (n + 1)) (l' := [.inr (3, [.null, .null]), .inl (gA G 0, 40, .inl (fun _ => 0))]) rfl (by decide) (by decide) (by decide) (by decide) (by decide) rfl rfl dX3_init_7 ?_
  refine m_putF (k0 := 0) (k1 := 0) (l' := [.inr (3, [.ref (ad G (n + 1)), .null]), .inl (gA G 0, 40, .inl (fun _ => 0))]) tyX3 rfl rfl ku_3 tyX3_ok nmX3 rfl (by decide) rfl rfl rfl rfl kf_RX3_9 rfl rfl rfl rfl (Nat.le_of_ble_eq_true rfl) rfl dX3_init_9 ?_
  refine m_aload_n 0 dX3_init_12 rfl ?_
  refine m_bipush 40 dX3_init_13 (by decide) ?_
  refine m_newI (N := 40) (k1 := 2) (r := (n + 2)) (l' := [.inr (3, [.ref (ad G (n + 1)), .null]), .inl (gA G 0, 40, .inl (fun _ => 0)), .inl (gA G 0, 40, .inl (fun _ => 0))]) rfl (by decide) (by decide) (by decide) (by decide) (by decide) rfl rfl dX3_init_15 ?_
  refine m_putF (k0 := 1) (k1 := 0) (l' := [.inr (3, [.ref (ad G (n + 1)), .ref (ad G (n + 2))]), .inl (gA G 0, 40, .inl (fun _ => 0)), .inl (gA G 0, 40, .inl (fun _ => 0))]) tyX3 rfl rfl ku_3 tyX3_ok nmX3 rfl (by decide) rfl rfl rfl rfl kf_RX3_15 rfl rfl rfl rfl (Nat.le_of_ble_eq_true rfl) rfl dX3_init_17 ?_
  refine m_aload_n 0 dX3_init_20 rfl ?_
  refine m_get (k0 := 0) (k1 := 0) rfl rfl ku_3 rfl (by decide) rfl kf_RX3_9 rfl rfl dX3_init_21 ?_
  refine m_iconst (-1) dX3_init_24 (by decide) ?_
  have kk : J2 G mX3_init 2 2 80 (fun pre => K1 G 2 80 (pre ++ blk_X3 G n)) n 28 [(0, .ref (ad G n))] [] [.inr (3, [.ref (ad G (n + 1)), .ref (ad G (n + 2))]), .inl (gA G 0, 40, .inl (pF (fun _ => 0) (-1) 40)), .inl (gA G 0, 40, .inl (fun _ => 0))] (0 + 1 + 1) (0 + 40 + 40) := m_ret (by decide) (by decide) dX3_init_28 rfl
  exact fun pre hn => k_callS (d' := 1) (As := [.ref (ad G (n + 1)), .int (-1)]) (cs' := pre ++ [.inr (3, [.ref (ad G (n + 1)), .ref (ad G (n + 2))]), .inl (gA G 0, 40, .inl (pF (fun _ => 0) (-1) 40)), .inl (gA G 0, 40, .inl (fun _ => 0))]) (c2_fill G _ _ (n + 1) 40 (fun _ => 0) (-1) (by decide) (p_get (k := 1) hn rfl) (p_set (k := 1) hn rfl)) cv_RX3_18 rfl (by decide) rfl rfl (Nat.le_of_ble_eq_true rfl) (by decide) (by decide) dX3_init_25 (kk pre hn)
def tl_X0_1 (G : GG) (n : Nat) : List va_E := [.inl (gA G 0, 40, .inl (fun _ => 0))]
theorem tl_X0_1_len (G : GG) (n : Nat) : (tl_X0_1 G n).length = 1 := rfl
def tl_X0_2 (G : GG) (n : Nat) : List va_E := tl_X0_1 G n ++ [.inl (gA G 0, 40, .inl (fun _ => 0))]
theorem tl_X0_2_len (G : GG) (n : Nat) : (tl_X0_2 G n).length = 2 := len_app1 _ (tl_X0_1_len G n)
def tl_X0_3 (G : GG) (n : Nat) : List va_E := tl_X0_2 G n ++ [.inl (gA G 0, 40, .inl (fun _ => 0))]
theorem tl_X0_3_len (G : GG) (n : Nat) : (tl_X0_3 G n).length = 3 := len_app1 _ (tl_X0_2_len G n)
def tl_X0_4 (G : GG) (n : Nat) : List va_E := tl_X0_3 G n ++ [.inl (gA G 0, 40, .inl (fun _ => 0))]
theorem tl_X0_4_len (G : GG) (n : Nat) : (tl_X0_4 G n).length = 4 := len_app1 _ (tl_X0_3_len G n)
def tl_X0_5 (G : GG) (n : Nat) : List va_E := tl_X0_4 G n ++ [.inl (gA G 0, 40, .inl (fun _ => 0))]
theorem tl_X0_5_len (G : GG) (n : Nat) : (tl_X0_5 G n).length = 5 := len_app1 _ (tl_X0_4_len G n)
def tl_X0_6 (G : GG) (n : Nat) : List va_E := tl_X0_5 G n ++ [.inl (gA G 0, 40, .inl (fun _ => 0))]
theorem tl_X0_6_len (G : GG) (n : Nat) : (tl_X0_6 G n).length = 6 := len_app1 _ (tl_X0_5_len G n)
def tl_X0_7 (G : GG) (n : Nat) : List va_E := tl_X0_6 G n ++ blk_X3 G (n + 7)
theorem tl_X0_7_len (G : GG) (n : Nat) : (tl_X0_7 G n).length = 9 := len_app (tl_X0_6_len G n) (blk_X3_len G (n + 7))
def tl_X0_8 (G : GG) (n : Nat) : List va_E := tl_X0_7 G n ++ blk_X3 G (n + 10)
theorem tl_X0_8_len (G : GG) (n : Nat) : (tl_X0_8 G n).length = 12 := len_app (tl_X0_7_len G n) (blk_X3_len G (n + 10))
def tl_X0_9 (G : GG) (n : Nat) : List va_E := tl_X0_8 G n ++ [.inl (gA G 0, 4, .inl (fun _ => 0))]
theorem tl_X0_9_len (G : GG) (n : Nat) : (tl_X0_9 G n).length = 13 := len_app1 _ (tl_X0_8_len G n)
def tl_X0_10 (G : GG) (n : Nat) : List va_E := tl_X0_9 G n ++ [.inl (gA G 0, 4, .inl (fun _ => 0))]
theorem tl_X0_10_len (G : GG) (n : Nat) : (tl_X0_10 G n).length = 14 := len_app1 _ (tl_X0_9_len G n)
def tl_X0_11 (G : GG) (n : Nat) : List va_E := tl_X0_10 G n ++ [.inl (gA G 0, 8, .inl (fun _ => 0))]
theorem tl_X0_11_len (G : GG) (n : Nat) : (tl_X0_11 G n).length = 15 := len_app1 _ (tl_X0_10_len G n)
def tl_X0_12 (G : GG) (n : Nat) : List va_E := tl_X0_11 G n ++ [.inl (gA G 0, 8, .inl (fun _ => 0))]
theorem tl_X0_12_len (G : GG) (n : Nat) : (tl_X0_12 G n).length = 16 := len_app1 _ (tl_X0_11_len G n)
def tl_X0_13 (G : GG) (n : Nat) : List va_E := tl_X0_12 G n ++ [.inl (gA G 0, 8, .inl (fun _ => 0))]
theorem tl_X0_13_len (G : GG) (n : Nat) : (tl_X0_13 G n).length = 17 := len_app1 _ (tl_X0_12_len G n)
def blk_X0 (G : GG) (n : Nat) : List va_E := .inr (0, [.int 0, .int 0, .int 0, .int 0, .int 0, .int 0, .ref (ad G (n + 1)), .ref (ad G (n + 2)), .ref (ad G (n + 3)), .ref (ad G (n + 4)), .ref (ad G (n + 5)), .ref (ad G (n + 6)), .ref (ad G (n + 7)), .ref (ad G (n + 10)), .ref (ad G (n + 13)), .ref (ad G (n + 14)), .ref (ad G (n + 15)), .ref (ad G (n + 16)), .ref (ad G (n + 17))]) :: tl_X0_13 G n
theorem blk_X0_len (G : GG) (n : Nat) : (blk_X0 G n).length = 18 := (congrArg Nat.succ (tl_X0_13_len G n))
theorem blk_hd_X0 (G : GG) (n : Nat) : (blk_X0 G n)[0]? = some (.inr (0, [.int 0, .int 0, .int 0, .int 0, .int 0, .int 0, .ref (ad G (n + 1)), .ref (ad G (n + 2)), .ref (ad G (n + 3)), .ref (ad G (n + 4)), .ref (ad G (n + 5)), .ref (ad G (n + 6)), .ref (ad G (n + 7)), .ref (ad G (n + 10)), .ref (ad G (n + 13)), .ref (ad G (n + 14)), .ref (ad G (n + 15)), .ref (ad G (n + 16)), .ref (ad G (n + 17))])) := rfl
set_option maxRecDepth 20000 in
theorem c_X0_init (G : GG) (n : Nat) : Sp2 G 3 17 436 mX0_init [.ref (ad G n)] n [fr_X0] (blk_X0 G n) := by
  refine sp2_of pf_X0_init (Nat.le_of_ble_eq_true rfl) ?_
  show J2 G mX0_init 3 17 436 (fun pre => K1 G 17 436 (pre ++ blk_X0 G n)) n 0 [(0, .ref (ad G n))] [] [fr_X0] 0 0
  refine m_aload_n 0 dX0_init_0 rfl ?_
  refine m_obj rfl km_RX0_3 (by decide) (Nat.le_of_ble_eq_true rfl) dX0_init_1 ?_
  refine m_aload_n 0 dX0_init_4 rfl ?_
  refine m_bipush 40 dX0_init_5 (by decide) ?_
  refine m_newI (N := 40) (k1 := 1) (r := (n + 1)) (l' := .inr (0, [.int 0, .int 0, .int 0, .int 0, .int 0, .int 0, .null, .null, .null, .null, .null, .null, .null, .null, .null, .null, .null, .null, .null]) :: tl_X0_1 G n) rfl (by decide) (by decide) (by decide) (by decide) (by decide) rfl rfl dX0_init_7 ?_
  refine m_putF (k0 := 6) (k1 := 0) (l' := .inr (0, [.int 0, .int 0, .int 0, .int 0, .int 0, .int 0, .ref (ad G (n + 1)), .null, .null, .null, .null, .null, .null, .null, .null, .null, .null, .null, .null]) :: tl_X0_1 G n) tyX0 rfl rfl ku_0 tyX0_ok nmX0 rfl (by decide) rfl rfl rfl rfl kf_RX0_9 rfl rfl rfl rfl (Nat.le_of_ble_eq_true rfl) rfl dX0_init_9 ?_
  refine m_aload_n 0 dX0_init_12 rfl ?_
  refine m_bipush 40 dX0_init_13 (by decide) ?_
  refine m_newI (N := 40) (k1 := 2) (r := (n + 2)) (l' := .inr (0, [.int 0, .int 0, .int 0, .int 0, .int 0, .int 0, .ref (ad G (n + 1)), .null, .null, .null, .null, .null, .null, .null, .null, .null, .null, .null, .null]) :: tl_X0_2 G n) rfl (by decide) (by decide) (by decide) (by decide) (by decide) (congrArg Nat.succ (tl_X0_1_len G n)) rfl dX0_init_15 ?_
  refine m_putF (k0 := 7) (k1 := 0) (l' := .inr (0, [.int 0, .int 0, .int 0, .int 0, .int 0, .int 0, .ref (ad G (n + 1)), .ref (ad G (n + 2)), .null, .null, .null, .null, .null, .null, .null, .null, .null, .null, .null]) :: tl_X0_2 G n) tyX0 rfl rfl ku_0 tyX0_ok nmX0 rfl (by decide) rfl rfl rfl rfl kf_RX0_15 rfl rfl rfl rfl (Nat.le_of_ble_eq_true rfl) rfl dX0_init_17 ?_
  refine m_aload_n 0 dX0_init_20 rfl ?_
  refine m_bipush 40 dX0_init_21 (by decide) ?_
  refine m_newI (N := 40) (k1 := 3) (r := (n + 3)) (l' := .inr (0, [.int 0, .int 0, .int 0, .int 0, .int 0, .int 0, .ref (ad G (n + 1)), .ref (ad G (n + 2)), .null, .null, .null, .null, .null, .null, .null, .null, .null, .null, .null]) :: tl_X0_3 G n) rfl (by decide) (by decide) (by decide) (by decide) (by decide) (congrArg Nat.succ (tl_X0_2_len G n)) rfl dX0_init_23 ?_
  refine m_putF (k0 := 8) (k1 := 0) (l' := .inr (0, [.int 0, .int 0, .int 0, .int 0, .int 0, .int 0, .ref (ad G (n + 1)), .ref (ad G (n + 2)), .ref (ad G (n + 3)), .null, .null, .null, .null, .null, .null, .null, .null, .null, .null]) :: tl_X0_3 G n) tyX0 rfl rfl ku_0 tyX0_ok nmX0 rfl (by decide) rfl rfl rfl rfl kf_RX0_18 rfl rfl rfl rfl (Nat.le_of_ble_eq_true rfl) rfl dX0_init_25 ?_
  refine m_aload_n 0 dX0_init_28 rfl ?_
  refine m_bipush 40 dX0_init_29 (by decide) ?_
  refine m_newI (N := 40) (k1 := 4) (r := (n + 4)) (l' := .inr (0, [.int 0, .int 0, .int 0, .int 0, .int 0, .int 0, .ref (ad G (n + 1)), .ref (ad G (n + 2)), .ref (ad G (n + 3)), .null, .null, .null, .null, .null, .null, .null, .null, .null, .null]) :: tl_X0_4 G n) rfl (by decide) (by decide) (by decide) (by decide) (by decide) (congrArg Nat.succ (tl_X0_3_len G n)) rfl dX0_init_31 ?_
  refine m_putF (k0 := 9) (k1 := 0) (l' := .inr (0, [.int 0, .int 0, .int 0, .int 0, .int 0, .int 0, .ref (ad G (n + 1)), .ref (ad G (n + 2)), .ref (ad G (n + 3)), .ref (ad G (n + 4)), .null, .null, .null, .null, .null, .null, .null, .null, .null]) :: tl_X0_4 G n) tyX0 rfl rfl ku_0 tyX0_ok nmX0 rfl (by decide) rfl rfl rfl rfl kf_RX0_21 rfl rfl rfl rfl (Nat.le_of_ble_eq_true rfl) rfl dX0_init_33 ?_
  refine m_aload_n 0 dX0_init_36 rfl ?_
  refine m_bipush 40 dX0_init_37 (by decide) ?_
  refine m_newI (N := 40) (k1 := 5) (r := (n + 5)) (l' := .inr (0, [.int 0, .int 0, .int 0, .int 0, .int 0, .int 0, .ref (ad G (n + 1)), .ref (ad G (n + 2)), .ref (ad G (n + 3)), .ref (ad G (n + 4)), .null, .null, .null, .null, .null, .null, .null, .null, .null]) :: tl_X0_5 G n) rfl (by decide) (by decide) (by decide) (by decide) (by decide) (congrArg Nat.succ (tl_X0_4_len G n)) rfl dX0_init_39 ?_
  refine m_putF (k0 := 10) (k1 := 0) (l' := .inr (0, [.int 0, .int 0, .int 0, .int 0, .int 0, .int 0, .ref (ad G (n + 1)), .ref (ad G (n + 2)), .ref (ad G (n + 3)), .ref (ad G (n + 4)), .ref (ad G (n + 5)), .null, .null, .null, .null, .null, .null, .null, .null]) :: tl_X0_5 G n) tyX0 rfl rfl ku_0 tyX0_ok nmX0 rfl (by decide) rfl rfl rfl rfl kf_RX0_24 rfl rfl rfl rfl (Nat.le_of_ble_eq_true rfl) rfl dX0_init_41 ?_
  refine m_aload_n 0 dX0_init_44 rfl ?_
  refine m_bipush 40 dX0_init_45 (by decide) ?_
  refine m_newI (N := 40) (k1 := 6) (r := (n + 6)) (l' := .inr (0, [.int 0, .int 0, .int 0, .int 0, .int 0, .int 0, .ref (ad G (n + 1)), .ref (ad G (n + 2)), .ref (ad G (n + 3)), .ref (ad G (n + 4)), .ref (ad G (n + 5)), .null, .null, .null, .null, .null, .null, .null, .null]) :: tl_X0_6 G n) rfl (by decide) (by decide) (by decide) (by decide) (by decide) (congrArg Nat.succ (tl_X0_5_len G n)) rfl dX0_init_47 ?_
  refine m_putF (k0 := 11) (k1 := 0) (l' := .inr (0, [.int 0, .int 0, .int 0, .int 0, .int 0, .int 0, .ref (ad G (n + 1)), .ref (ad G (n + 2)), .ref (ad G (n + 3)), .ref (ad G (n + 4)), .ref (ad G (n + 5)), .ref (ad G (n + 6)), .null, .null, .null, .null, .null, .null, .null]) :: tl_X0_6 G n) tyX0 rfl rfl ku_0 tyX0_ok nmX0 rfl (by decide) rfl rfl rfl rfl kf_RX0_27 rfl rfl rfl rfl (Nat.le_of_ble_eq_true rfl) rfl dX0_init_49 ?_
  refine m_aload_n 0 dX0_init_52 rfl ?_
  refine m_new (k1 := 7) (r := (n + 7)) (l' := (.inr (0, [.int 0, .int 0, .int 0, .int 0, .int 0, .int 0, .ref (ad G (n + 1)), .ref (ad G (n + 2)), .ref (ad G (n + 3)), .ref (ad G (n + 4)), .ref (ad G (n + 5)), .ref (ad G (n + 6)), .null, .null, .null, .null, .null, .null, .null]) :: tl_X0_6 G n) ++ [fr_X3]) tyX3 rfl rfl ku_3 tyX3_ok rfl kl_RX0_30 kx_ThumbBook_Glass kn_ThumbBook_Glass df_X3 (by decide) (by decide) (congrArg Nat.succ (tl_X0_6_len G n)) rfl dX0_init_53 ?_
  refine m_dup dX0_init_56 rfl ?_
  refine m_callI (l1 := .inr (0, [.int 0, .int 0, .int 0, .int 0, .int 0, .int 0, .ref (ad G (n + 1)), .ref (ad G (n + 2)), .ref (ad G (n + 3)), .ref (ad G (n + 4)), .ref (ad G (n + 5)), .ref (ad G (n + 6)), .null, .null, .null, .null, .null, .null, .null]) :: tl_X0_6 G n) (l' := .inr (0, [.int 0, .int 0, .int 0, .int 0, .int 0, .int 0, .ref (ad G (n + 1)), .ref (ad G (n + 2)), .ref (ad G (n + 3)), .ref (ad G (n + 4)), .ref (ad G (n + 5)), .ref (ad G (n + 6)), .null, .null, .null, .null, .null, .null, .null]) :: tl_X0_7 G n) (c_X3_init G (n + 7)) (congrArg (fun z => n + z) (congrArg Nat.succ (tl_X0_6_len G n))) rfl rfl rfl kc_yX3_init rfl kn_ThumbBook_Glass km_RX0_32 ki_yX3_init rfl ⟨by decide, by decide, by decide +kernel⟩ (by decide) (by decide) (Nat.le_of_ble_eq_true rfl) (by decide) (by decide) dX0_init_57 ?_
  refine m_putF (k0 := 12) (k1 := 0) (l' := .inr (0, [.int 0, .int 0, .int 0, .int 0, .int 0, .int 0, .ref (ad G (n + 1)), .ref (ad G (n + 2)), .ref (ad G (n + 3)), .ref (ad G (n + 4)), .ref (ad G (n + 5)), .ref (ad G (n + 6)), .ref (ad G (n + 7)), .null, .null, .null, .null, .null, .null]) :: tl_X0_7 G n) tyX0 rfl rfl ku_0 tyX0_ok nmX0 rfl (by decide) rfl rfl rfl rfl kf_RX0_33 rfl rfl rfl rfl (Nat.le_of_ble_eq_true rfl) rfl dX0_init_60 ?_
  refine m_aload_n 0 dX0_init_63 rfl ?_
  refine m_new (k1 := 10) (r := (n + 10)) (l' := (.inr (0, [.int 0, .int 0, .int 0, .int 0, .int 0, .int 0, .ref (ad G (n + 1)), .ref (ad G (n + 2)), .ref (ad G (n + 3)), .ref (ad G (n + 4)), .ref (ad G (n + 5)), .ref (ad G (n + 6)), .ref (ad G (n + 7)), .null, .null, .null, .null, .null, .null]) :: tl_X0_7 G n) ++ [fr_X3]) tyX3 rfl rfl ku_3 tyX3_ok rfl kl_RX0_30 kx_ThumbBook_Glass kn_ThumbBook_Glass df_X3 (by decide) (by decide) (congrArg Nat.succ (tl_X0_7_len G n)) rfl dX0_init_64 ?_
  refine m_dup dX0_init_67 rfl ?_
  refine m_callI (l1 := .inr (0, [.int 0, .int 0, .int 0, .int 0, .int 0, .int 0, .ref (ad G (n + 1)), .ref (ad G (n + 2)), .ref (ad G (n + 3)), .ref (ad G (n + 4)), .ref (ad G (n + 5)), .ref (ad G (n + 6)), .ref (ad G (n + 7)), .null, .null, .null, .null, .null, .null]) :: tl_X0_7 G n) (l' := .inr (0, [.int 0, .int 0, .int 0, .int 0, .int 0, .int 0, .ref (ad G (n + 1)), .ref (ad G (n + 2)), .ref (ad G (n + 3)), .ref (ad G (n + 4)), .ref (ad G (n + 5)), .ref (ad G (n + 6)), .ref (ad G (n + 7)), .null, .null, .null, .null, .null, .null]) :: tl_X0_8 G n) (c_X3_init G (n + 10)) (congrArg (fun z => n + z) (congrArg Nat.succ (tl_X0_7_len G n))) rfl rfl rfl kc_yX3_init rfl kn_ThumbBook_Glass km_RX0_32 ki_yX3_init rfl ⟨by decide, by decide, by decide +kernel⟩ (by decide) (by decide) (Nat.le_of_ble_eq_true rfl) (by decide) (by decide) dX0_init_68 ?_
  refine m_putF (k0 := 13) (k1 := 0) (l' := .inr (0, [.int 0, .int 0, .int 0, .int 0, .int 0, .int 0, .ref (ad G (n + 1)), .ref (ad G (n + 2)), .ref (ad G (n + 3)), .ref (ad G (n + 4)), .ref (ad G (n + 5)), .ref (ad G (n + 6)), .ref (ad G (n + 7)), .ref (ad G (n + 10)), .null, .null, .null, .null, .null]) :: tl_X0_8 G n) tyX0 rfl rfl ku_0 tyX0_ok nmX0 rfl (by decide) rfl rfl rfl rfl kf_RX0_37 rfl rfl rfl rfl (Nat.le_of_ble_eq_true rfl) rfl dX0_init_71 ?_
  refine m_aload_n 0 dX0_init_74 rfl ?_
  refine m_iconst 4 dX0_init_75 (by decide) ?_
  refine m_newI (N := 4) (k1 := 13) (r := (n + 13)) (l' := .inr (0, [.int 0, .int 0, .int 0, .int 0, .int 0, .int 0, .ref (ad G (n + 1)), .ref (ad G (n + 2)), .ref (ad G (n + 3)), .ref (ad G (n + 4)), .ref (ad G (n + 5)), .ref (ad G (n + 6)), .ref (ad G (n + 7)), .ref (ad G (n + 10)), .null, .null, .null, .null, .null]) :: tl_X0_9 G n) rfl (by decide) (by decide) (by decide) (by decide) (by decide) (congrArg Nat.succ (tl_X0_8_len G n)) rfl dX0_init_76 ?_
  refine m_putF (k0 := 14) (k1 := 0) (l' := .inr (0, [.int 0, .int 0, .int 0, .int 0, .int 0, .int 0, .ref (ad G (n + 1)), .ref (ad G (n + 2)), .ref (ad G (n + 3)), .ref (ad G (n + 4)), .ref (ad G (n + 5)), .ref (ad G (n + 6)), .ref (ad G (n + 7)), .ref (ad G (n + 10)), .ref (ad G (n + 13)), .null, .null, .null, .null]) :: tl_X0_9 G n) tyX0 rfl rfl ku_0 tyX0_ok nmX0 rfl (by decide) rfl rfl rfl rfl kf_RX0_40 rfl rfl rfl rfl (Nat.le_of_ble_eq_true rfl) rfl dX0_init_78 ?_
  refine m_aload_n 0 dX0_init_81 rfl ?_
  refine m_iconst 4 dX0_init_82 (by decide) ?_
  refine m_newI (N := 4) (k1 := 14) (r := (n + 14)) (l' := .inr (0, [.int 0, .int 0, .int 0, .int 0, .int 0, .int 0, .ref (ad G (n + 1)), .ref (ad G (n + 2)), .ref (ad G (n + 3)), .ref (ad G (n + 4)), .ref (ad G (n + 5)), .ref (ad G (n + 6)), .ref (ad G (n + 7)), .ref (ad G (n + 10)), .ref (ad G (n + 13)), .null, .null, .null, .null]) :: tl_X0_10 G n) rfl (by decide) (by decide) (by decide) (by decide) (by decide) (congrArg Nat.succ (tl_X0_9_len G n)) rfl dX0_init_83 ?_
  refine m_putF (k0 := 15) (k1 := 0) (l' := .inr (0, [.int 0, .int 0, .int 0, .int 0, .int 0, .int 0, .ref (ad G (n + 1)), .ref (ad G (n + 2)), .ref (ad G (n + 3)), .ref (ad G (n + 4)), .ref (ad G (n + 5)), .ref (ad G (n + 6)), .ref (ad G (n + 7)), .ref (ad G (n + 10)), .ref (ad G (n + 13)), .ref (ad G (n + 14)), .null, .null, .null]) :: tl_X0_10 G n) tyX0 rfl rfl ku_0 tyX0_ok nmX0 rfl (by decide) rfl rfl rfl rfl kf_RX0_43 rfl rfl rfl rfl (Nat.le_of_ble_eq_true rfl) rfl dX0_init_85 ?_
  refine m_aload_n 0 dX0_init_88 rfl ?_
  refine m_bipush 8 dX0_init_89 (by decide) ?_
  refine m_newI (N := 8) (k1 := 15) (r := (n + 15)) (l' := .inr (0, [.int 0, .int 0, .int 0, .int 0, .int 0, .int 0, .ref (ad G (n + 1)), .ref (ad G (n + 2)), .ref (ad G (n + 3)), .ref (ad G (n + 4)), .ref (ad G (n + 5)), .ref (ad G (n + 6)), .ref (ad G (n + 7)), .ref (ad G (n + 10)), .ref (ad G (n + 13)), .ref (ad G (n + 14)), .null, .null, .null]) :: tl_X0_11 G n) rfl (by decide) (by decide) (by decide) (by decide) (by decide) (congrArg Nat.succ (tl_X0_10_len G n)) rfl dX0_init_91 ?_
  refine m_putF (k0 := 16) (k1 := 0) (l' := .inr (0, [.int 0, .int 0, .int 0, .int 0, .int 0, .int 0, .ref (ad G (n + 1)), .ref (ad G (n + 2)), .ref (ad G (n + 3)), .ref (ad G (n + 4)), .ref (ad G (n + 5)), .ref (ad G (n + 6)), .ref (ad G (n + 7)), .ref (ad G (n + 10)), .ref (ad G (n + 13)), .ref (ad G (n + 14)), .ref (ad G (n + 15)), .null, .null]) :: tl_X0_11 G n) tyX0 rfl rfl ku_0 tyX0_ok nmX0 rfl (by decide) rfl rfl rfl rfl kf_RX0_46 rfl rfl rfl rfl (Nat.le_of_ble_eq_true rfl) rfl dX0_init_93 ?_
  refine m_aload_n 0 dX0_init_96 rfl ?_
  refine m_bipush 8 dX0_init_97 (by decide) ?_
  refine m_newI (N := 8) (k1 := 16) (r := (n + 16)) (l' := .inr (0, [.int 0, .int 0, .int 0, .int 0, .int 0, .int 0, .ref (ad G (n + 1)), .ref (ad G (n + 2)), .ref (ad G (n + 3)), .ref (ad G (n + 4)), .ref (ad G (n + 5)), .ref (ad G (n + 6)), .ref (ad G (n + 7)), .ref (ad G (n + 10)), .ref (ad G (n + 13)), .ref (ad G (n + 14)), .ref (ad G (n + 15)), .null, .null]) :: tl_X0_12 G n) rfl (by decide) (by decide) (by decide) (by decide) (by decide) (congrArg Nat.succ (tl_X0_11_len G n)) rfl dX0_init_99 ?_
  refine m_putF (k0 := 17) (k1 := 0) (l' := .inr (0, [.int 0, .int 0, .int 0, .int 0, .int 0, .int 0, .ref (ad G (n + 1)), .ref (ad G (n + 2)), .ref (ad G (n + 3)), .ref (ad G (n + 4)), .ref (ad G (n + 5)), .ref (ad G (n + 6)), .ref (ad G (n + 7)), .ref (ad G (n + 10)), .ref (ad G (n + 13)), .ref (ad G (n + 14)), .ref (ad G (n + 15)), .ref (ad G (n + 16)), .null]) :: tl_X0_12 G n) tyX0 rfl rfl ku_0 tyX0_ok nmX0 rfl (by decide) rfl rfl rfl rfl kf_RX0_49 rfl rfl rfl rfl (Nat.le_of_ble_eq_true rfl) rfl dX0_init_101 ?_
  refine m_aload_n 0 dX0_init_104 rfl ?_
  refine m_bipush 8 dX0_init_105 (by decide) ?_
  refine m_newI (N := 8) (k1 := 17) (r := (n + 17)) (l' := .inr (0, [.int 0, .int 0, .int 0, .int 0, .int 0, .int 0, .ref (ad G (n + 1)), .ref (ad G (n + 2)), .ref (ad G (n + 3)), .ref (ad G (n + 4)), .ref (ad G (n + 5)), .ref (ad G (n + 6)), .ref (ad G (n + 7)), .ref (ad G (n + 10)), .ref (ad G (n + 13)), .ref (ad G (n + 14)), .ref (ad G (n + 15)), .ref (ad G (n + 16)), .null]) :: tl_X0_13 G n) rfl (by decide) (by decide) (by decide) (by decide) (by decide) (congrArg Nat.succ (tl_X0_12_len G n)) rfl dX0_init_107 ?_
  refine m_putF (k0 := 18) (k1 := 0) (l' := .inr (0, [.int 0, .int 0, .int 0, .int 0, .int 0, .int 0, .ref (ad G (n + 1)), .ref (ad G (n + 2)), .ref (ad G (n + 3)), .ref (ad G (n + 4)), .ref (ad G (n + 5)), .ref (ad G (n + 6)), .ref (ad G (n + 7)), .ref (ad G (n + 10)), .ref (ad G (n + 13)), .ref (ad G (n + 14)), .ref (ad G (n + 15)), .ref (ad G (n + 16)), .ref (ad G (n + 17))]) :: tl_X0_13 G n) tyX0 rfl rfl ku_0 tyX0_ok nmX0 rfl (by decide) rfl rfl rfl rfl kf_RX0_52 rfl rfl rfl rfl (Nat.le_of_ble_eq_true rfl) rfl dX0_init_109 ?_
  exact m_ret (by decide) (by decide) dX0_init_112 rfl
def blk_X10 (G : GG) (n : Nat) : List va_E := [.inr (10, [.ref (ad G (n + 1)), .ref (ad G (n + 2))]), .inl (gA G 0, 12, .inl (fun _ => 0)), .inl (gA G 0, 12, .inl (fun _ => 0))]
theorem blk_X10_len (G : GG) (n : Nat) : (blk_X10 G n).length = 3 := rfl
theorem blk_hd_X10 (G : GG) (n : Nat) : (blk_X10 G n)[0]? = some (.inr (10, [.ref (ad G (n + 1)), .ref (ad G (n + 2))])) := rfl
set_option maxRecDepth 20000 in
theorem c_X10_init (G : GG) (n : Nat) : Sp2 G 1 2 24 mX10_init [.ref (ad G n)] n [fr_X10] (blk_X10 G n) := by
  refine sp2_of pf_X10_init (Nat.le_of_ble_eq_true rfl) ?_
  show J2 G mX10_init 1 2 24 (fun pre => K1 G 2 24 (pre ++ blk_X10 G n)) n 0 [(0, .ref (ad G n))] [] [fr_X10] 0 0
  refine m_aload_n 0 dX10_init_0 rfl ?_
  refine m_obj rfl km_RX10_3 (by decide) (Nat.le_of_ble_eq_true rfl) dX10_init_1 ?_
  refine m_aload_n 0 dX10_init_4 rfl ?_
  refine m_bipush 12 dX10_init_5 (by decide) ?_
  refine m_newI (N := 12) (k1 := 1) (r := (n + 1)) (l' := [.inr (10, [.null, .null]), .inl (gA G 0, 12, .inl (fun _ => 0))]) rfl (by decide) (by decide) (by decide) (by decide) (by decide) rfl rfl dX10_init_7 ?_
  refine m_putF (k0 := 0) (k1 := 0) (l' := [.inr (10, [.ref (ad G (n + 1)), .null]), .inl (gA G 0, 12, .inl (fun _ => 0))]) tyX10 rfl rfl ku_10 tyX10_ok nmX10 rfl (by decide) rfl rfl rfl rfl kf_RX10_9 rfl rfl rfl rfl (Nat.le_of_ble_eq_true rfl) rfl dX10_init_9 ?_
  refine m_aload_n 0 dX10_init_12 rfl ?_
  refine m_bipush 12 dX10_init_13 (by decide) ?_
  refine m_newI (N := 12) (k1 := 2) (r := (n + 2)) (l' := [.inr (10, [.ref (ad G (n + 1)), .null]), .inl (gA G 0, 12, .inl (fun _ => 0)), .inl (gA G 0, 12, .inl (fun _ => 0))]) rfl (by decide) (by decide) (by decide) (by decide) (by decide) rfl rfl dX10_init_15 ?_
  refine m_putF (k0 := 1) (k1 := 0) (l' := [.inr (10, [.ref (ad G (n + 1)), .ref (ad G (n + 2))]), .inl (gA G 0, 12, .inl (fun _ => 0)), .inl (gA G 0, 12, .inl (fun _ => 0))]) tyX10 rfl rfl ku_10 tyX10_ok nmX10 rfl (by decide) rfl rfl rfl rfl kf_RX10_15 rfl rfl rfl rfl (Nat.le_of_ble_eq_true rfl) rfl dX10_init_17 ?_
  exact m_ret (by decide) (by decide) dX10_init_20 rfl
def blk_X8 (G : GG) (n : Nat) : List va_E := [.inr (8, [.int 0, .ref (ad G (n + 1)), .ref (ad G (n + 2))]), .inl (gA G 0, 20, .inl (fun _ => 0)), .inl (gA G 0, 20, .inl (fun _ => 0))]
theorem blk_X8_len (G : GG) (n : Nat) : (blk_X8 G n).length = 3 := rfl
theorem blk_hd_X8 (G : GG) (n : Nat) : (blk_X8 G n)[0]? = some (.inr (8, [.int 0, .ref (ad G (n + 1)), .ref (ad G (n + 2))])) := rfl
set_option maxRecDepth 20000 in
theorem c_X8_init (G : GG) (n : Nat) : Sp2 G 1 2 40 mX8_init [.ref (ad G n)] n [fr_X8] (blk_X8 G n) := by
  refine sp2_of pf_X8_init (Nat.le_of_ble_eq_true rfl) ?_
  show J2 G mX8_init 1 2 40 (fun pre => K1 G 2 40 (pre ++ blk_X8 G n)) n 0 [(0, .ref (ad G n))] [] [fr_X8] 0 0
  refine m_aload_n 0 dX8_init_0 rfl ?_
  refine m_obj rfl km_RX8_3 (by decide) (Nat.le_of_ble_eq_true rfl) dX8_init_1 ?_
  refine m_aload_n 0 dX8_init_4 rfl ?_
  refine m_bipush 20 dX8_init_5 (by decide) ?_
  refine m_newI (N := 20) (k1 := 1) (r := (n + 1)) (l' := [.inr (8, [.int 0, .null, .null]), .inl (gA G 0, 20, .inl (fun _ => 0))]) rfl (by decide) (by decide) (by decide) (by decide) (by decide) rfl rfl dX8_init_7 ?_
  refine m_putF (k0 := 1) (k1 := 0) (l' := [.inr (8, [.int 0, .ref (ad G (n + 1)), .null]), .inl (gA G 0, 20, .inl (fun _ => 0))]) tyX8 rfl rfl ku_8 tyX8_ok nmX8 rfl (by decide) rfl rfl rfl rfl kf_RX8_9 rfl rfl rfl rfl (Nat.le_of_ble_eq_true rfl) rfl dX8_init_9 ?_
  refine m_aload_n 0 dX8_init_12 rfl ?_
  refine m_bipush 20 dX8_init_13 (by decide) ?_
  refine m_newI (N := 20) (k1 := 2) (r := (n + 2)) (l' := [.inr (8, [.int 0, .ref (ad G (n + 1)), .null]), .inl (gA G 0, 20, .inl (fun _ => 0)), .inl (gA G 0, 20, .inl (fun _ => 0))]) rfl (by decide) (by decide) (by decide) (by decide) (by decide) rfl rfl dX8_init_15 ?_
  refine m_putF (k0 := 2) (k1 := 0) (l' := [.inr (8, [.int 0, .ref (ad G (n + 1)), .ref (ad G (n + 2))]), .inl (gA G 0, 20, .inl (fun _ => 0)), .inl (gA G 0, 20, .inl (fun _ => 0))]) tyX8 rfl rfl ku_8 tyX8_ok nmX8 rfl (by decide) rfl rfl rfl rfl kf_RX8_15 rfl rfl rfl rfl (Nat.le_of_ble_eq_true rfl) rfl dX8_init_17 ?_
  exact m_ret (by decide) (by decide) dX8_init_20 rfl
def blk_X9 (G : GG) (n : Nat) : List va_E := [.inr (9, [.ref (ad G (n + 1)), .ref (ad G (n + 2)), .ref (ad G (n + 3)), .ref (ad G (n + 4)), .ref (ad G (n + 5)), .ref (ad G (n + 6)), .ref (ad G (n + 7)), .ref (ad G (n + 8))]), .inl (gA G 0, 40, .inl (fun _ => 0)), .inl (gA G 0, 40, .inl (fun _ => 0)), .inl (gA G 0, 40, .inl (fun _ => 0)), .inl (gA G 0, 40, .inl (fun _ => 0)), .inl (gA G 0, 40, .inl (fun _ => 0)), .inl (gA G 0, 12, .inl (fun _ => 0)), .inl (gA G 0, 12, .inl (fun _ => 0)), .inl (gA G 0, 12, .inl (fun _ => 0))]
theorem blk_X9_len (G : GG) (n : Nat) : (blk_X9 G n).length = 9 := rfl
theorem blk_hd_X9 (G : GG) (n : Nat) : (blk_X9 G n)[0]? = some (.inr (9, [.ref (ad G (n + 1)), .ref (ad G (n + 2)), .ref (ad G (n + 3)), .ref (ad G (n + 4)), .ref (ad G (n + 5)), .ref (ad G (n + 6)), .ref (ad G (n + 7)), .ref (ad G (n + 8))])) := rfl
set_option maxRecDepth 20000 in
theorem c_X9_init (G : GG) (n : Nat) : Sp2 G 1 8 236 mX9_init [.ref (ad G n)] n [fr_X9] (blk_X9 G n) := by
  refine sp2_of pf_X9_init (Nat.le_of_ble_eq_true rfl) ?_
  show J2 G mX9_init 1 8 236 (fun pre => K1 G 8 236 (pre ++ blk_X9 G n)) n 0 [(0, .ref (ad G n))] [] [fr_X9] 0 0
  refine m_aload_n 0 dX9_init_0 rfl ?_
  refine m_obj rfl km_RX9_3 (by decide) (Nat.le_of_ble_eq_true rfl) dX9_init_1 ?_
  refine m_aload_n 0 dX9_init_4 rfl ?_
  refine m_bipush 40 dX9_init_5 (by decide) ?_
  refine m_newI (N := 40) (k1 := 1) (r := (n + 1)) (l' := [.inr (9, [.null, .null, .null, .null, .null, .null, .null, .null]), .inl (gA G 0, 40, .inl (fun _ => 0))]) rfl (by decide) (by decide) (by decide) (by decide) (by decide) rfl rfl dX9_init_7 ?_
  refine m_putF (k0 := 0) (k1 := 0) (l' := [.inr (9, [.ref (ad G (n + 1)), .null, .null, .null, .null, .null, .null, .null]), .inl (gA G 0, 40, .inl (fun _ => 0))]) tyX9 rfl rfl ku_9 tyX9_ok nmX9 rfl (by decide) rfl rfl rfl rfl kf_RX9_9 rfl rfl rfl rfl (Nat.le_of_ble_eq_true rfl) rfl dX9_init_9 ?_
  refine m_aload_n 0 dX9_init_12 rfl ?_
  refine m_bipush 40 dX9_init_13 (by decide) ?_
  refine m_newI (N := 40) (k1 := 2) (r := (n + 2)) (l' := [.inr (9, [.ref (ad G (n + 1)), .null, .null, .null, .null, .null, .null, .null]), .inl (gA G 0, 40, .inl (fun _ => 0)), .inl (gA G 0, 40, .inl (fun _ => 0))]) rfl (by decide) (by decide) (by decide) (by decide) (by decide) rfl rfl dX9_init_15 ?_
  refine m_putF (k0 := 1) (k1 := 0) (l' := [.inr (9, [.ref (ad G (n + 1)), .ref (ad G (n + 2)), .null, .null, .null, .null, .null, .null]), .inl (gA G 0, 40, .inl (fun _ => 0)), .inl (gA G 0, 40, .inl (fun _ => 0))]) tyX9 rfl rfl ku_9 tyX9_ok nmX9 rfl (by decide) rfl rfl rfl rfl kf_RX9_15 rfl rfl rfl rfl (Nat.le_of_ble_eq_true rfl) rfl dX9_init_17 ?_
  refine m_aload_n 0 dX9_init_20 rfl ?_
  refine m_bipush 40 dX9_init_21 (by decide) ?_
  refine m_newI (N := 40) (k1 := 3) (r := (n + 3)) (l' := [.inr (9, [.ref (ad G (n + 1)), .ref (ad G (n + 2)), .null, .null, .null, .null, .null, .null]), .inl (gA G 0, 40, .inl (fun _ => 0)), .inl (gA G 0, 40, .inl (fun _ => 0)), .inl (gA G 0, 40, .inl (fun _ => 0))]) rfl (by decide) (by decide) (by decide) (by decide) (by decide) rfl rfl dX9_init_23 ?_
  refine m_putF (k0 := 2) (k1 := 0) (l' := [.inr (9, [.ref (ad G (n + 1)), .ref (ad G (n + 2)), .ref (ad G (n + 3)), .null, .null, .null, .null, .null]), .inl (gA G 0, 40, .inl (fun _ => 0)), .inl (gA G 0, 40, .inl (fun _ => 0)), .inl (gA G 0, 40, .inl (fun _ => 0))]) tyX9 rfl rfl ku_9 tyX9_ok nmX9 rfl (by decide) rfl rfl rfl rfl kf_RX9_18 rfl rfl rfl rfl (Nat.le_of_ble_eq_true rfl) rfl dX9_init_25 ?_
  refine m_aload_n 0 dX9_init_28 rfl ?_
  refine m_bipush 40 dX9_init_29 (by decide) ?_
  refine m_newI (N := 40) (k1 := 4) (r := (n + 4)) (l' := [.inr (9, [.ref (ad G (n + 1)), .ref (ad G (n + 2)), .ref (ad G (n + 3)), .null, .null, .null, .null, .null]), .inl (gA G 0, 40, .inl (fun _ => 0)), .inl (gA G 0, 40, .inl (fun _ => 0)), .inl (gA G 0, 40, .inl (fun _ => 0)), .inl (gA G 0, 40, .inl (fun _ => 0))]) rfl (by decide) (by decide) (by decide) (by decide) (by decide) rfl rfl dX9_init_31 ?_
  refine m_putF (k0 := 3) (k1 := 0) (l' := [.inr (9, [.ref (ad G (n + 1)), .ref (ad G (n + 2)), .ref (ad G (n + 3)), .ref (ad G (n + 4)), .null, .null, .null, .null]), .inl (gA G 0, 40, .inl (fun _ => 0)), .inl (gA G 0, 40, .inl (fun _ => 0)), .inl (gA G 0, 40, .inl (fun _ => 0)), .inl (gA G 0, 40, .inl (fun _ => 0))]) tyX9 rfl rfl ku_9 tyX9_ok nmX9 rfl (by decide) rfl rfl rfl rfl kf_RX9_21 rfl rfl rfl rfl (Nat.le_of_ble_eq_true rfl) rfl dX9_init_33 ?_
  refine m_aload_n 0 dX9_init_36 rfl ?_
  refine m_bipush 40 dX9_init_37 (by decide) ?_
  refine m_newI (N := 40) (k1 := 5) (r := (n + 5)) (l' := [.inr (9, [.ref (ad G (n + 1)), .ref (ad G (n + 2)), .ref (ad G (n + 3)), .ref (ad G (n + 4)), .null, .null, .null, .null]), .inl (gA G 0, 40, .inl (fun _ => 0)), .inl (gA G 0, 40, .inl (fun _ => 0)), .inl (gA G 0, 40, .inl (fun _ => 0)), .inl (gA G 0, 40, .inl (fun _ => 0)), .inl (gA G 0, 40, .inl (fun _ => 0))]) rfl (by decide) (by decide) (by decide) (by decide) (by decide) rfl rfl dX9_init_39 ?_
  refine m_putF (k0 := 4) (k1 := 0) (l' := [.inr (9, [.ref (ad G (n + 1)), .ref (ad G (n + 2)), .ref (ad G (n + 3)), .ref (ad G (n + 4)), .ref (ad G (n + 5)), .null, .null, .null]), .inl (gA G 0, 40, .inl (fun _ => 0)), .inl (gA G 0, 40, .inl (fun _ => 0)), .inl (gA G 0, 40, .inl (fun _ => 0)), .inl (gA G 0, 40, .inl (fun _ => 0)), .inl (gA G 0, 40, .inl (fun _ => 0))]) tyX9 rfl rfl ku_9 tyX9_ok nmX9 rfl (by decide) rfl rfl rfl rfl kf_RX9_24 rfl rfl rfl rfl (Nat.le_of_ble_eq_true rfl) rfl dX9_init_41 ?_
  refine m_aload_n 0 dX9_init_44 rfl ?_
  refine m_bipush 12 dX9_init_45 (by decide) ?_
  refine m_newI (N := 12) (k1 := 6) (r := (n + 6)) (l' := [.inr (9, [.ref (ad G (n + 1)), .ref (ad G (n + 2)), .ref (ad G (n + 3)), .ref (ad G (n + 4)), .ref (ad G (n + 5)), .null, .null, .null]), .inl (gA G 0, 40, .inl (fun _ => 0)), .inl (gA G 0, 40, .inl (fun _ => 0)), .inl (gA G 0, 40, .inl (fun _ => 0)), .inl (gA G 0, 40, .inl (fun _ => 0)), .inl (gA G 0, 40, .inl (fun _ => 0)), .inl (gA G 0, 12, .inl (fun _ => 0))]) rfl (by decide) (by decide) (by decide) (by decide) (by decide) rfl rfl dX9_init_47 ?_
  refine m_putF (k0 := 5) (k1 := 0) (l' := [.inr (9, [.ref (ad G (n + 1)), .ref (ad G (n + 2)), .ref (ad G (n + 3)), .ref (ad G (n + 4)), .ref (ad G (n + 5)), .ref (ad G (n + 6)), .null, .null]), .inl (gA G 0, 40, .inl (fun _ => 0)), .inl (gA G 0, 40, .inl (fun _ => 0)), .inl (gA G 0, 40, .inl (fun _ => 0)), .inl (gA G 0, 40, .inl (fun _ => 0)), .inl (gA G 0, 40, .inl (fun _ => 0)), .inl (gA G 0, 12, .inl (fun _ => 0))]) tyX9 rfl rfl ku_9 tyX9_ok nmX9 rfl (by decide) rfl rfl rfl rfl kf_RX9_27 rfl rfl rfl rfl (Nat.le_of_ble_eq_true rfl) rfl dX9_init_49 ?_
  refine m_aload_n 0 dX9_init_52 rfl ?_
  refine m_bipush 12 dX9_init_53 (by decide) ?_
  refine m_newI (N := 12) (k1 := 7) (r := (n + 7)) (l' := [.inr (9, [.ref (ad G (n + 1)), .ref (ad G (n + 2)), .ref (ad G (n + 3)), .ref (ad G (n + 4)), .ref (ad G (n + 5)), .ref (ad G (n + 6)), .null, .null]), .inl (gA G 0, 40, .inl (fun _ => 0)), .inl (gA G 0, 40, .inl (fun _ => 0)), .inl (gA G 0, 40, .inl (fun _ => 0)), .inl (gA G 0, 40, .inl (fun _ => 0)), .inl (gA G 0, 40, .inl (fun _ => 0)), .inl (gA G 0, 12, .inl (fun _ => 0)), .inl (gA G 0, 12, .inl (fun _ => 0))]) rfl (by decide) (by decide) (by decide) (by decide) (by decide) rfl rfl dX9_init_55 ?_
  refine m_putF (k0 := 6) (k1 := 0) (l' := [.inr (9, [.ref (ad G (n + 1)), .ref (ad G (n + 2)), .ref (ad G (n + 3)), .ref (ad G (n + 4)), .ref (ad G (n + 5)), .ref (ad G (n + 6)), .ref (ad G (n + 7)), .null]), .inl (gA G 0, 40, .inl (fun _ => 0)), .inl (gA G 0, 40, .inl (fun _ => 0)), .inl (gA G 0, 40, .inl (fun _ => 0)), .inl (gA G 0, 40, .inl (fun _ => 0)), .inl (gA G 0, 40, .inl (fun _ => 0)), .inl (gA G 0, 12, .inl (fun _ => 0)), .inl (gA G 0, 12, .inl (fun _ => 0))]) tyX9 rfl rfl ku_9 tyX9_ok nmX9 rfl (by decide) rfl rfl rfl rfl kf_RX9_30 rfl rfl rfl rfl (Nat.le_of_ble_eq_true rfl) rfl dX9_init_57 ?_
  refine m_aload_n 0 dX9_init_60 rfl ?_
  refine m_bipush 12 dX9_init_61 (by decide) ?_
  refine m_newI (N := 12) (k1 := 8) (r := (n + 8)) (l' := [.inr (9, [.ref (ad G (n + 1)), .ref (ad G (n + 2)), .ref (ad G (n + 3)), .ref (ad G (n + 4)), .ref (ad G (n + 5)), .ref (ad G (n + 6)), .ref (ad G (n + 7)), .null]), .inl (gA G 0, 40, .inl (fun _ => 0)), .inl (gA G 0, 40, .inl (fun _ => 0)), .inl (gA G 0, 40, .inl (fun _ => 0)), .inl (gA G 0, 40, .inl (fun _ => 0)), .inl (gA G 0, 40, .inl (fun _ => 0)), .inl (gA G 0, 12, .inl (fun _ => 0)), .inl (gA G 0, 12, .inl (fun _ => 0)), .inl (gA G 0, 12, .inl (fun _ => 0))]) rfl (by decide) (by decide) (by decide) (by decide) (by decide) rfl rfl dX9_init_63 ?_
  refine m_putF (k0 := 7) (k1 := 0) (l' := [.inr (9, [.ref (ad G (n + 1)), .ref (ad G (n + 2)), .ref (ad G (n + 3)), .ref (ad G (n + 4)), .ref (ad G (n + 5)), .ref (ad G (n + 6)), .ref (ad G (n + 7)), .ref (ad G (n + 8))]), .inl (gA G 0, 40, .inl (fun _ => 0)), .inl (gA G 0, 40, .inl (fun _ => 0)), .inl (gA G 0, 40, .inl (fun _ => 0)), .inl (gA G 0, 40, .inl (fun _ => 0)), .inl (gA G 0, 40, .inl (fun _ => 0)), .inl (gA G 0, 12, .inl (fun _ => 0)), .inl (gA G 0, 12, .inl (fun _ => 0)), .inl (gA G 0, 12, .inl (fun _ => 0))]) tyX9 rfl rfl ku_9 tyX9_ok nmX9 rfl (by decide) rfl rfl rfl rfl kf_RX9_33 rfl rfl rfl rfl (Nat.le_of_ble_eq_true rfl) rfl dX9_init_65 ?_
  exact m_ret (by decide) (by decide) dX9_init_68 rfl
def blk_X1 (G : GG) (n : Nat) : List va_E := [.inr (1, [.ref (ad G (n + 1)), .ref (ad G (n + 2))]), .inl (gA G 0, 381, .inl (fun _ => 0)), .inl (gA G 0, 381, .inl (fun _ => 0))]
theorem blk_X1_len (G : GG) (n : Nat) : (blk_X1 G n).length = 3 := rfl
theorem blk_hd_X1 (G : GG) (n : Nat) : (blk_X1 G n)[0]? = some (.inr (1, [.ref (ad G (n + 1)), .ref (ad G (n + 2))])) := rfl
set_option maxRecDepth 20000 in
theorem c_X1_init (G : GG) (n : Nat) : Sp2 G 1 2 762 mX1_init [.ref (ad G n)] n [fr_X1] (blk_X1 G n) := by
  refine sp2_of pf_X1_init (Nat.le_of_ble_eq_true rfl) ?_
  show J2 G mX1_init 1 2 762 (fun pre => K1 G 2 762 (pre ++ blk_X1 G n)) n 0 [(0, .ref (ad G n))] [] [fr_X1] 0 0
  refine m_aload_n 0 dX1_init_0 rfl ?_
  refine m_obj rfl km_RX1_1 (by decide) (Nat.le_of_ble_eq_true rfl) dX1_init_1 ?_
  refine m_aload_n 0 dX1_init_4 rfl ?_
  refine m_sipush 381 dX1_init_5 (by decide) ?_
  refine m_newI (N := 381) (k1 := 1) (r := (n + 1)) (l' := [.inr (1, [.null, .null]), .inl (gA G 0, 381, .inl (fun _ => 0))]) rfl (by decide) (by decide) (by decide) (by decide) (by decide) rfl rfl dX1_init_8 ?_
  refine m_putF (k0 := 0) (k1 := 0) (l' := [.inr (1, [.ref (ad G (n + 1)), .null]), .inl (gA G 0, 381, .inl (fun _ => 0))]) tyX1 rfl rfl ku_1 tyX1_ok nmX1 rfl (by decide) rfl rfl rfl rfl kf_RX1_9 rfl rfl rfl rfl (Nat.le_of_ble_eq_true rfl) rfl dX1_init_10 ?_
  refine m_aload_n 0 dX1_init_13 rfl ?_
  refine m_sipush 381 dX1_init_14 (by decide) ?_
  refine m_newI (N := 381) (k1 := 2) (r := (n + 2)) (l' := [.inr (1, [.ref (ad G (n + 1)), .null]), .inl (gA G 0, 381, .inl (fun _ => 0)), .inl (gA G 0, 381, .inl (fun _ => 0))]) rfl (by decide) (by decide) (by decide) (by decide) (by decide) rfl rfl dX1_init_17 ?_
  refine m_putF (k0 := 1) (k1 := 0) (l' := [.inr (1, [.ref (ad G (n + 1)), .ref (ad G (n + 2))]), .inl (gA G 0, 381, .inl (fun _ => 0)), .inl (gA G 0, 381, .inl (fun _ => 0))]) tyX1 rfl rfl ku_1 tyX1_ok nmX1 rfl (by decide) rfl rfl rfl rfl kf_RX1_13 rfl rfl rfl rfl (Nat.le_of_ble_eq_true rfl) rfl dX1_init_19 ?_
  exact m_ret (by decide) (by decide) dX1_init_22 rfl
def blk_X4 (G : GG) (n : Nat) : List va_E := [.inr (4, [.int 0, .ref (ad G (n + 1)), .ref (ad G (n + 2)), .int 0, .int 0, .int 0]), .inl (gA G 0, 12, .inl (fun _ => 0)), .inl (gA G 0, 12, .inl (fun _ => 0))]
theorem blk_X4_len (G : GG) (n : Nat) : (blk_X4 G n).length = 3 := rfl
theorem blk_hd_X4 (G : GG) (n : Nat) : (blk_X4 G n)[0]? = some (.inr (4, [.int 0, .ref (ad G (n + 1)), .ref (ad G (n + 2)), .int 0, .int 0, .int 0])) := rfl
set_option maxRecDepth 20000 in
theorem c_X4_init (G : GG) (n : Nat) : Sp2 G 1 2 24 mX4_init [.ref (ad G n)] n [fr_X4] (blk_X4 G n) := by
  refine sp2_of pf_X4_init (Nat.le_of_ble_eq_true rfl) ?_
  show J2 G mX4_init 1 2 24 (fun pre => K1 G 2 24 (pre ++ blk_X4 G n)) n 0 [(0, .ref (ad G n))] [] [fr_X4] 0 0
  refine m_aload_n 0 dX4_init_0 rfl ?_
  refine m_obj rfl km_RX4_3 (by decide) (Nat.le_of_ble_eq_true rfl) dX4_init_1 ?_
  refine m_aload_n 0 dX4_init_4 rfl ?_
  refine m_bipush 12 dX4_init_5 (by decide) ?_
  refine m_newI (N := 12) (k1 := 1) (r := (n + 1)) (l' := [.inr (4, [.int 0, .null, .null, .int 0, .int 0, .int 0]), .inl (gA G 0, 12, .inl (fun _ => 0))]) rfl (by decide) (by decide) (by decide) (by decide) (by decide) rfl rfl dX4_init_7 ?_
  refine m_putF (k0 := 1) (k1 := 0) (l' := [.inr (4, [.int 0, .ref (ad G (n + 1)), .null, .int 0, .int 0, .int 0]), .inl (gA G 0, 12, .inl (fun _ => 0))]) tyX4 rfl rfl ku_4 tyX4_ok nmX4 rfl (by decide) rfl rfl rfl rfl kf_RX4_9 rfl rfl rfl rfl (Nat.le_of_ble_eq_true rfl) rfl dX4_init_9 ?_
  refine m_aload_n 0 dX4_init_12 rfl ?_
  refine m_bipush 12 dX4_init_13 (by decide) ?_
  refine m_newI (N := 12) (k1 := 2) (r := (n + 2)) (l' := [.inr (4, [.int 0, .ref (ad G (n + 1)), .null, .int 0, .int 0, .int 0]), .inl (gA G 0, 12, .inl (fun _ => 0)), .inl (gA G 0, 12, .inl (fun _ => 0))]) rfl (by decide) (by decide) (by decide) (by decide) (by decide) rfl rfl dX4_init_15 ?_
  refine m_putF (k0 := 2) (k1 := 0) (l' := [.inr (4, [.int 0, .ref (ad G (n + 1)), .ref (ad G (n + 2)), .int 0, .int 0, .int 0]), .inl (gA G 0, 12, .inl (fun _ => 0)), .inl (gA G 0, 12, .inl (fun _ => 0))]) tyX4 rfl rfl ku_4 tyX4_ok nmX4 rfl (by decide) rfl rfl rfl rfl kf_RX4_15 rfl rfl rfl rfl (Nat.le_of_ble_eq_true rfl) rfl dX4_init_17 ?_
  exact m_ret (by decide) (by decide) dX4_init_20 rfl
def blk_X2 (G : GG) (n : Nat) : List va_E := [.inr (2, [.int 0, .int 0, .int 0, .ref (ad G (n + 1)), .ref (ad G (n + 2))]), .inl (gA G 0, 40, .inl (fun _ => 0)), .inl (gA G 0, 40, .inl (fun _ => 0))]
theorem blk_X2_len (G : GG) (n : Nat) : (blk_X2 G n).length = 3 := rfl
theorem blk_hd_X2 (G : GG) (n : Nat) : (blk_X2 G n)[0]? = some (.inr (2, [.int 0, .int 0, .int 0, .ref (ad G (n + 1)), .ref (ad G (n + 2))])) := rfl
set_option maxRecDepth 20000 in
theorem c_X2_init (G : GG) (n : Nat) : Sp2 G 1 2 80 mX2_init [.ref (ad G n)] n [fr_X2] (blk_X2 G n) := by
  refine sp2_of pf_X2_init (Nat.le_of_ble_eq_true rfl) ?_
  show J2 G mX2_init 1 2 80 (fun pre => K1 G 2 80 (pre ++ blk_X2 G n)) n 0 [(0, .ref (ad G n))] [] [fr_X2] 0 0
  refine m_aload_n 0 dX2_init_0 rfl ?_
  refine m_obj rfl km_RX2_3 (by decide) (Nat.le_of_ble_eq_true rfl) dX2_init_1 ?_
  refine m_aload_n 0 dX2_init_4 rfl ?_
  refine m_bipush 40 dX2_init_5 (by decide) ?_
  refine m_newI (N := 40) (k1 := 1) (r := (n + 1)) (l' := [.inr (2, [.int 0, .int 0, .int 0, .null, .null]), .inl (gA G 0, 40, .inl (fun _ => 0))]) rfl (by decide) (by decide) (by decide) (by decide) (by decide) rfl rfl dX2_init_7 ?_
  refine m_putF (k0 := 3) (k1 := 0) (l' := [.inr (2, [.int 0, .int 0, .int 0, .ref (ad G (n + 1)), .null]), .inl (gA G 0, 40, .inl (fun _ => 0))]) tyX2 rfl rfl ku_2 tyX2_ok nmX2 rfl (by decide) rfl rfl rfl rfl kf_RX2_9 rfl rfl rfl rfl (Nat.le_of_ble_eq_true rfl) rfl dX2_init_9 ?_
  refine m_aload_n 0 dX2_init_12 rfl ?_
  refine m_bipush 40 dX2_init_13 (by decide) ?_
  refine m_newI (N := 40) (k1 := 2) (r := (n + 2)) (l' := [.inr (2, [.int 0, .int 0, .int 0, .ref (ad G (n + 1)), .null]), .inl (gA G 0, 40, .inl (fun _ => 0)), .inl (gA G 0, 40, .inl (fun _ => 0))]) rfl (by decide) (by decide) (by decide) (by decide) (by decide) rfl rfl dX2_init_15 ?_
  refine m_putF (k0 := 4) (k1 := 0) (l' := [.inr (2, [.int 0, .int 0, .int 0, .ref (ad G (n + 1)), .ref (ad G (n + 2))]), .inl (gA G 0, 40, .inl (fun _ => 0)), .inl (gA G 0, 40, .inl (fun _ => 0))]) tyX2 rfl rfl ku_2 tyX2_ok nmX2 rfl (by decide) rfl rfl rfl rfl kf_RX2_15 rfl rfl rfl rfl (Nat.le_of_ble_eq_true rfl) rfl dX2_init_17 ?_
  exact m_ret (by decide) (by decide) dX2_init_20 rfl
def blk_X6 (G : GG) (n : Nat) : List va_E := [.inr (6, [.int 0, .int 0, .int 0, .int 0, .ref (ad G (n + 1)), .ref (ad G (n + 2))]), .inl (gA G 0, 40, .inl (fun _ => 0)), .inl (gA G 0, 40, .inl (fun _ => 0))]
theorem blk_X6_len (G : GG) (n : Nat) : (blk_X6 G n).length = 3 := rfl
theorem blk_hd_X6 (G : GG) (n : Nat) : (blk_X6 G n)[0]? = some (.inr (6, [.int 0, .int 0, .int 0, .int 0, .ref (ad G (n + 1)), .ref (ad G (n + 2))])) := rfl
set_option maxRecDepth 20000 in
theorem c_X6_init (G : GG) (n : Nat) : Sp2 G 1 2 80 mX6_init [.ref (ad G n)] n [fr_X6] (blk_X6 G n) := by
  refine sp2_of pf_X6_init (Nat.le_of_ble_eq_true rfl) ?_
  show J2 G mX6_init 1 2 80 (fun pre => K1 G 2 80 (pre ++ blk_X6 G n)) n 0 [(0, .ref (ad G n))] [] [fr_X6] 0 0
  refine m_aload_n 0 dX6_init_0 rfl ?_
  refine m_obj rfl km_RX6_3 (by decide) (Nat.le_of_ble_eq_true rfl) dX6_init_1 ?_
  refine m_aload_n 0 dX6_init_4 rfl ?_
  refine m_bipush 40 dX6_init_5 (by decide) ?_
  refine m_newI (N := 40) (k1 := 1) (r := (n + 1)) (l' := [.inr (6, [.int 0, .int 0, .int 0, .int 0, .null, .null]), .inl (gA G 0, 40, .inl (fun _ => 0))]) rfl (by decide) (by decide) (by decide) (by decide) (by decide) rfl rfl dX6_init_7 ?_
  refine m_putF (k0 := 4) (k1 := 0) (l' := [.inr (6, [.int 0, .int 0, .int 0, .int 0, .ref (ad G (n + 1)), .null]), .inl (gA G 0, 40, .inl (fun _ => 0))]) tyX6 rfl rfl ku_6 tyX6_ok nmX6 rfl (by decide) rfl rfl rfl rfl kf_RX6_9 rfl rfl rfl rfl (Nat.le_of_ble_eq_true rfl) rfl dX6_init_9 ?_
  refine m_aload_n 0 dX6_init_12 rfl ?_
  refine m_bipush 40 dX6_init_13 (by decide) ?_
  refine m_newI (N := 40) (k1 := 2) (r := (n + 2)) (l' := [.inr (6, [.int 0, .int 0, .int 0, .int 0, .ref (ad G (n + 1)), .null]), .inl (gA G 0, 40, .inl (fun _ => 0)), .inl (gA G 0, 40, .inl (fun _ => 0))]) rfl (by decide) (by decide) (by decide) (by decide) (by decide) rfl rfl dX6_init_15 ?_
  refine m_putF (k0 := 5) (k1 := 0) (l' := [.inr (6, [.int 0, .int 0, .int 0, .int 0, .ref (ad G (n + 1)), .ref (ad G (n + 2))]), .inl (gA G 0, 40, .inl (fun _ => 0)), .inl (gA G 0, 40, .inl (fun _ => 0))]) tyX6 rfl rfl ku_6 tyX6_ok nmX6 rfl (by decide) rfl rfl rfl rfl kf_RX6_15 rfl rfl rfl rfl (Nat.le_of_ble_eq_true rfl) rfl dX6_init_17 ?_
  exact m_ret (by decide) (by decide) dX6_init_20 rfl
def tl_X11_1 (G : GG) : List va_E := blk_X5 G 5
theorem tl_X11_1_len (G : GG) : (tl_X11_1 G).length = 1 := (blk_X5_len G 5)
def tl_X11_2 (G : GG) : List va_E := tl_X11_1 G ++ blk_X0 G 6
theorem tl_X11_2_len (G : GG) : (tl_X11_2 G).length = 19 := len_app (tl_X11_1_len G) (blk_X0_len G 6)
def tl_X11_3 (G : GG) : List va_E := tl_X11_2 G ++ blk_X10 G 24
theorem tl_X11_3_len (G : GG) : (tl_X11_3 G).length = 22 := len_app (tl_X11_2_len G) (blk_X10_len G 24)
def tl_X11_4 (G : GG) : List va_E := tl_X11_3 G ++ blk_X5 G 27
theorem tl_X11_4_len (G : GG) : (tl_X11_4 G).length = 23 := len_app (tl_X11_3_len G) (blk_X5_len G 27)
def tl_X11_5 (G : GG) : List va_E := tl_X11_4 G ++ blk_X8 G 28
theorem tl_X11_5_len (G : GG) : (tl_X11_5 G).length = 26 := len_app (tl_X11_4_len G) (blk_X8_len G 28)
def tl_X11_6 (G : GG) : List va_E := tl_X11_5 G ++ [.inl (gA G 0, 4, .inl (fun _ => 0))]
theorem tl_X11_6_len (G : GG) : (tl_X11_6 G).length = 27 := len_app1 _ (tl_X11_5_len G)
def tl_X11_7 (G : GG) : List va_E := tl_X11_6 G ++ [.inl (gA G 0, 4, .inl (fun _ => 0))]
theorem tl_X11_7_len (G : GG) : (tl_X11_7 G).length = 28 := len_app1 _ (tl_X11_6_len G)
def tl_X11_8 (G : GG) : List va_E := tl_X11_7 G ++ blk_X9 G 33
theorem tl_X11_8_len (G : GG) : (tl_X11_8 G).length = 37 := len_app (tl_X11_7_len G) (blk_X9_len G 33)
def tl_X11_9 (G : GG) : List va_E := tl_X11_8 G ++ blk_X9 G 42
theorem tl_X11_9_len (G : GG) : (tl_X11_9 G).length = 46 := len_app (tl_X11_8_len G) (blk_X9_len G 42)
def tl_X11_10 (G : GG) : List va_E := tl_X11_9 G ++ blk_X1 G 51
theorem tl_X11_10_len (G : GG) : (tl_X11_10 G).length = 49 := len_app (tl_X11_9_len G) (blk_X1_len G 51)
def tl_X11_11 (G : GG) : List va_E := tl_X11_10 G ++ blk_X4 G 54
theorem tl_X11_11_len (G : GG) : (tl_X11_11 G).length = 52 := len_app (tl_X11_10_len G) (blk_X4_len G 54)
def tl_X11_12 (G : GG) : List va_E := tl_X11_11 G ++ blk_X2 G 57
theorem tl_X11_12_len (G : GG) : (tl_X11_12 G).length = 55 := len_app (tl_X11_11_len G) (blk_X2_len G 57)
def tl_X11_13 (G : GG) : List va_E := tl_X11_12 G ++ blk_X6 G 60
theorem tl_X11_13_len (G : GG) : (tl_X11_13 G).length = 58 := len_app (tl_X11_12_len G) (blk_X6_len G 60)
def tl_X11_14 (G : GG) : List va_E := tl_X11_13 G ++ blk_X3 G 63
theorem tl_X11_14_len (G : GG) : (tl_X11_14 G).length = 61 := len_app (tl_X11_13_len G) (blk_X3_len G 63)
def tl_X11_15 (G : GG) : List va_E := tl_X11_14 G ++ [.inl (gA G 0, 40, .inl (fun _ => 0))]
theorem tl_X11_15_len (G : GG) : (tl_X11_15 G).length = 62 := len_app1 _ (tl_X11_14_len G)
def tl_X11_16 (G : GG) : List va_E := tl_X11_15 G ++ blk_X0 G 67
theorem tl_X11_16_len (G : GG) : (tl_X11_16 G).length = 80 := len_app (tl_X11_15_len G) (blk_X0_len G 67)
def tl_X11_17 (G : GG) : List va_E := tl_X11_16 G ++ blk_X0 G 85
theorem tl_X11_17_len (G : GG) : (tl_X11_17 G).length = 98 := len_app (tl_X11_16_len G) (blk_X0_len G 85)
def tl_X11_18 (G : GG) : List va_E := tl_X11_17 G ++ blk_X0 G 103
theorem tl_X11_18_len (G : GG) : (tl_X11_18 G).length = 116 := len_app (tl_X11_17_len G) (blk_X0_len G 103)
def tl_X11_19 (G : GG) : List va_E := tl_X11_18 G ++ blk_X0 G 121
theorem tl_X11_19_len (G : GG) : (tl_X11_19 G).length = 134 := len_app (tl_X11_18_len G) (blk_X0_len G 121)
def tl_X11_20 (G : GG) : List va_E := tl_X11_19 G ++ blk_X0 G 139
theorem tl_X11_20_len (G : GG) : (tl_X11_20 G).length = 152 := len_app (tl_X11_19_len G) (blk_X0_len G 139)
def tl_X11_21 (G : GG) : List va_E := tl_X11_20 G ++ blk_X0 G 157
theorem tl_X11_21_len (G : GG) : (tl_X11_21 G).length = 170 := len_app (tl_X11_20_len G) (blk_X0_len G 157)
def tl_X11_22 (G : GG) : List va_E := tl_X11_21 G ++ blk_X10 G 175
theorem tl_X11_22_len (G : GG) : (tl_X11_22 G).length = 173 := len_app (tl_X11_21_len G) (blk_X10_len G 175)
def tl_X11_23 (G : GG) : List va_E := tl_X11_22 G ++ blk_X10 G 178
theorem tl_X11_23_len (G : GG) : (tl_X11_23 G).length = 176 := len_app (tl_X11_22_len G) (blk_X10_len G 178)
def tl_X11_24 (G : GG) : List va_E := tl_X11_23 G ++ blk_X10 G 181
theorem tl_X11_24_len (G : GG) : (tl_X11_24 G).length = 179 := len_app (tl_X11_23_len G) (blk_X10_len G 181)
def tl_X11_25 (G : GG) : List va_E := tl_X11_24 G ++ blk_X10 G 184
theorem tl_X11_25_len (G : GG) : (tl_X11_25 G).length = 182 := len_app (tl_X11_24_len G) (blk_X10_len G 184)
def tl_X11_26 (G : GG) : List va_E := tl_X11_25 G ++ blk_X10 G 187
theorem tl_X11_26_len (G : GG) : (tl_X11_26 G).length = 185 := len_app (tl_X11_25_len G) (blk_X10_len G 187)
def tl_X11_27 (G : GG) : List va_E := tl_X11_26 G ++ blk_X10 G 190
theorem tl_X11_27_len (G : GG) : (tl_X11_27 G).length = 188 := len_app (tl_X11_26_len G) (blk_X10_len G 190)
def blk_X11 (G : GG) : List va_E := .inr (11, [.ref (ad G 1), .ref (ad G 3), .ref (ad G 4), .ref (ad G 5), .ref (ad G 6), .ref (ad G 24), .ref (ad G 27), .ref (ad G 28), .ref (ad G 31), .ref (ad G 32), .int 0, .ref (ad G 33), .ref (ad G 42), .ref (ad G 51), .ref (ad G 54), .ref (ad G 57), .ref (ad G 60), .ref (ad G 63), .ref (ad G 66)]) :: .inr (7, [.int 0, .int 0, .int (-1), .int 0, .int 0, .ref (ad G (1 + 1)), .int 0, .int 0, .int 0]) :: .inl (gA G 0, 500, .inl (fun _ => 0)) :: .inl (gA G 2, 6, .inr (.inr (.inr (.inr (svB G 6))))) :: .inl (gA G 3, 6, .inr (.inr (.inr (.inr (svW G 6))))) :: tl_X11_27 G
set_option maxRecDepth 20000 in
theorem c_X11_init (G : GG) : Sp2 G 4 192 5522 mX11_init [.ref (ad G 0)] 0 [fr_X11] (blk_X11 G) := by
  refine sp2_of pf_X11_init (Nat.le_of_ble_eq_true rfl) ?_
  show J2 G mX11_init 4 192 5522 (fun pre => K1 G 192 5522 (pre ++ blk_X11 G)) 0 0 [(0, .ref (ad G 0))] [] [fr_X11] 0 0
  refine m_aload_n 0 dX11_init_0 rfl ?_
  refine m_obj rfl km_RX11_1 (by decide) (Nat.le_of_ble_eq_true rfl) dX11_init_1 ?_
  refine m_aload_n 0 dX11_init_4 rfl ?_
  refine m_new (k1 := 1) (r := 1) (l' := [.inr (11, [.null, .null, .null, .null, .null, .null, .null, .null, .null, .null, .int 0, .null, .null, .null, .null, .null, .null, .null, .null])] ++ [fr_X7]) tyX7 rfl rfl ku_7 tyX7_ok rfl kl_RX11_7 kx_ThumbBook_Script kn_ThumbBook_Script df_X7 (by decide) (by decide) rfl rfl dX11_init_5 ?_
  refine m_dup dX11_init_8 rfl ?_
  refine m_callIN (l1 := [.inr (11, [.null, .null, .null, .null, .null, .null, .null, .null, .null, .null, .int 0, .null, .null, .null, .null, .null, .null, .null, .null])]) (l' := [.inr (11, [.null, .null, .null, .null, .null, .null, .null, .null, .null, .null, .int 0, .null, .null, .null, .null, .null, .null, .null, .null]), .inr (7, [.int 0, .int 0, .int (-1), .int 0, .int 0, .ref (ad G (1 + 1)), .int 0, .int 0, .int 0]), .inl (gA G 0, 500, .inl (fun _ => 0))]) (c_X7_init G 1) (congrArg (fun z => 0 + z) rfl) rfl rfl rfl kc_yX7_init rfl kn_ThumbBook_Script (List.mem_of_getElem? (i := 0) rfl) ki_yX7_init rfl ⟨by decide, by decide, by decide +kernel⟩ (by decide) (by decide) (Nat.le_of_ble_eq_true rfl) (by decide) (by decide) dX11_init_9 ?_
  refine m_putF (k0 := 0) (k1 := 0) (l' := [.inr (11, [.ref (ad G 1), .null, .null, .null, .null, .null, .null, .null, .null, .null, .int 0, .null, .null, .null, .null, .null, .null, .null, .null]), .inr (7, [.int 0, .int 0, .int (-1), .int 0, .int 0, .ref (ad G (1 + 1)), .int 0, .int 0, .int 0]), .inl (gA G 0, 500, .inl (fun _ => 0))]) tyX11 rfl rfl ku_11 tyX11_ok nmX11 rfl (by decide) rfl rfl rfl rfl kf_RX11_10 rfl rfl rfl rfl (Nat.le_of_ble_eq_true rfl) rfl dX11_init_12 ?_
  refine m_aload_n 0 dX11_init_15 rfl ?_
  refine m_bipush 6 dX11_init_16 (by decide) ?_
  refine m_anew (t0 := 2) (N := 6) (k1 := 3) (r := 3) (l' := [.inr (11, [.ref (ad G 1), .null, .null, .null, .null, .null, .null, .null, .null, .null, .int 0, .null, .null, .null, .null, .null, .null, .null, .null]), .inr (7, [.int 0, .int 0, .int (-1), .int 0, .int 0, .ref (ad G (1 + 1)), .int 0, .int 0, .int 0]), .inl (gA G 0, 500, .inl (fun _ => 0)), .inl (gA G 2, 6, .inr (.inr (.inr (.inr (svB G 0)))))]) rfl rfl kl_RX11_16 (List.mem_of_getElem? (i := 0) rfl) rfl (by decide) (by decide) (by decide) (by decide) (by decide) rfl rfl dX11_init_18 ?_
  refine m_putF (k0 := 1) (k1 := 0) (l' := [.inr (11, [.ref (ad G 1), .ref (ad G 3), .null, .null, .null, .null, .null, .null, .null, .null, .int 0, .null, .null, .null, .null, .null, .null, .null, .null]), .inr (7, [.int 0, .int 0, .int (-1), .int 0, .int 0, .ref (ad G (1 + 1)), .int 0, .int 0, .int 0]), .inl (gA G 0, 500, .inl (fun _ => 0)), .inl (gA G 2, 6, .inr (.inr (.inr (.inr (svB G 0)))))]) tyX11 rfl rfl ku_11 tyX11_ok nmX11 rfl (by decide) rfl rfl rfl rfl kf_RX11_18 rfl rfl rfl rfl (Nat.le_of_ble_eq_true rfl) rfl dX11_init_21 ?_
  refine m_aload_n 0 dX11_init_24 rfl ?_
  refine m_bipush 6 dX11_init_25 (by decide) ?_
  refine m_anew (t0 := 3) (N := 6) (k1 := 4) (r := 4) (l' := [.inr (11, [.ref (ad G 1), .ref (ad G 3), .null, .null, .null, .null, .null, .null, .null, .null, .int 0, .null, .null, .null, .null, .null, .null, .null, .null]), .inr (7, [.int 0, .int 0, .int (-1), .int 0, .int 0, .ref (ad G (1 + 1)), .int 0, .int 0, .int 0]), .inl (gA G 0, 500, .inl (fun _ => 0)), .inl (gA G 2, 6, .inr (.inr (.inr (.inr (svB G 0))))), .inl (gA G 3, 6, .inr (.inr (.inr (.inr (svW G 0)))))]) rfl rfl kl_RX11_22 (List.mem_of_getElem? (i := 1) rfl) rfl (by decide) (by decide) (by decide) (by decide) (by decide) rfl rfl dX11_init_27 ?_
  refine m_putF (k0 := 2) (k1 := 0) (l' := [.inr (11, [.ref (ad G 1), .ref (ad G 3), .ref (ad G 4), .null, .null, .null, .null, .null, .null, .null, .int 0, .null, .null, .null, .null, .null, .null, .null, .null]), .inr (7, [.int 0, .int 0, .int (-1), .int 0, .int 0, .ref (ad G (1 + 1)), .int 0, .int 0, .int 0]), .inl (gA G 0, 500, .inl (fun _ => 0)), .inl (gA G 2, 6, .inr (.inr (.inr (.inr (svB G 0))))), .inl (gA G 3, 6, .inr (.inr (.inr (.inr (svW G 0)))))]) tyX11 rfl rfl ku_11 tyX11_ok nmX11 rfl (by decide) rfl rfl rfl rfl kf_RX11_24 rfl rfl rfl rfl (Nat.le_of_ble_eq_true rfl) rfl dX11_init_30 ?_
  refine m_aload_n 0 dX11_init_33 rfl ?_
  refine m_new (k1 := 5) (r := 5) (l' := [.inr (11, [.ref (ad G 1), .ref (ad G 3), .ref (ad G 4), .null, .null, .null, .null, .null, .null, .null, .int 0, .null, .null, .null, .null, .null, .null, .null, .null]), .inr (7, [.int 0, .int 0, .int (-1), .int 0, .int 0, .ref (ad G (1 + 1)), .int 0, .int 0, .int 0]), .inl (gA G 0, 500, .inl (fun _ => 0)), .inl (gA G 2, 6, .inr (.inr (.inr (.inr (svB G 0))))), .inl (gA G 3, 6, .inr (.inr (.inr (.inr (svW G 0)))))] ++ [fr_X5]) tyX5 rfl rfl ku_5 tyX5_ok rfl kl_RX11_28 kx_ThumbBook_Law kn_ThumbBook_Law df_X5 (by decide) (by decide) rfl rfl dX11_init_34 ?_
  refine m_dup dX11_init_37 rfl ?_
  refine m_callIN (l1 := [.inr (11, [.ref (ad G 1), .ref (ad G 3), .ref (ad G 4), .null, .null, .null, .null, .null, .null, .null, .int 0, .null, .null, .null, .null, .null, .null, .null, .null]), .inr (7, [.int 0, .int 0, .int (-1), .int 0, .int 0, .ref (ad G (1 + 1)), .int 0, .int 0, .int 0]), .inl (gA G 0, 500, .inl (fun _ => 0)), .inl (gA G 2, 6, .inr (.inr (.inr (.inr (svB G 0))))), .inl (gA G 3, 6, .inr (.inr (.inr (.inr (svW G 0)))))]) (l' := .inr (11, [.ref (ad G 1), .ref (ad G 3), .ref (ad G 4), .null, .null, .null, .null, .null, .null, .null, .int 0, .null, .null, .null, .null, .null, .null, .null, .null]) :: .inr (7, [.int 0, .int 0, .int (-1), .int 0, .int 0, .ref (ad G (1 + 1)), .int 0, .int 0, .int 0]) :: .inl (gA G 0, 500, .inl (fun _ => 0)) :: .inl (gA G 2, 6, .inr (.inr (.inr (.inr (svB G 0))))) :: .inl (gA G 3, 6, .inr (.inr (.inr (.inr (svW G 0))))) :: tl_X11_1 G) (c_X5_init G 5) (congrArg (fun z => 0 + z) rfl) rfl rfl rfl kc_yX5_init rfl kn_ThumbBook_Law (List.mem_of_getElem? (i := 1) rfl) ki_yX5_init rfl ⟨by decide, by decide, by decide +kernel⟩ (by decide) (by decide) (Nat.le_of_ble_eq_true rfl) (by decide) (by decide) dX11_init_38 ?_
  refine m_put (k0 := 3) (k1 := 0) (l' := .inr (11, [.ref (ad G 1), .ref (ad G 3), .ref (ad G 4), .ref (ad G 5), .null, .null, .null, .null, .null, .null, .int 0, .null, .null, .null, .null, .null, .null, .null, .null]) :: .inr (7, [.int 0, .int 0, .int (-1), .int 0, .int 0, .ref (ad G (1 + 1)), .int 0, .int 0, .int 0]) :: .inl (gA G 0, 500, .inl (fun _ => 0)) :: .inl (gA G 2, 6, .inr (.inr (.inr (.inr (svB G 0))))) :: .inl (gA G 3, 6, .inr (.inr (.inr (.inr (svW G 0))))) :: tl_X11_1 G) tyX11 rfl rfl ku_11 tyX11_ok nmX11 rfl (by decide) rfl rfl kf_RX11_31 rfl rfl rfl rfl (Nat.le_of_ble_eq_true rfl) rfl dX11_init_41 ?_
  refine m_aload_n 0 dX11_init_44 rfl ?_
  refine m_new (k1 := 6) (r := 6) (l' := (.inr (11, [.ref (ad G 1), .ref (ad G 3), .ref (ad G 4), .ref (ad G 5), .null, .null, .null, .null, .null, .null, .int 0, .null, .null, .null, .null, .null, .null, .null, .null]) :: .inr (7, [.int 0, .int 0, .int (-1), .int 0, .int 0, .ref (ad G (1 + 1)), .int 0, .int 0, .int 0]) :: .inl (gA G 0, 500, .inl (fun _ => 0)) :: .inl (gA G 2, 6, .inr (.inr (.inr (.inr (svB G 0))))) :: .inl (gA G 3, 6, .inr (.inr (.inr (.inr (svW G 0))))) :: tl_X11_1 G) ++ [fr_X0]) tyX0 rfl rfl ku_0 tyX0_ok rfl kl_RX11_16 kx_ThumbBook_Book kn_ThumbBook_Book df_X0 (by decide) (by decide) (congrArg Nat.succ (congrArg Nat.succ (congrArg Nat.succ (congrArg Nat.succ (congrArg Nat.succ (tl_X11_1_len G)))))) rfl dX11_init_45 ?_
  refine m_dup dX11_init_48 rfl ?_
  refine m_callIN (l1 := .inr (11, [.ref (ad G 1), .ref (ad G 3), .ref (ad G 4), .ref (ad G 5), .null, .null, .null, .null, .null, .null, .int 0, .null, .null, .null, .null, .null, .null, .null, .null]) :: .inr (7, [.int 0, .int 0, .int (-1), .int 0, .int 0, .ref (ad G (1 + 1)), .int 0, .int 0, .int 0]) :: .inl (gA G 0, 500, .inl (fun _ => 0)) :: .inl (gA G 2, 6, .inr (.inr (.inr (.inr (svB G 0))))) :: .inl (gA G 3, 6, .inr (.inr (.inr (.inr (svW G 0))))) :: tl_X11_1 G) (l' := .inr (11, [.ref (ad G 1), .ref (ad G 3), .ref (ad G 4), .ref (ad G 5), .null, .null, .null, .null, .null, .null, .int 0, .null, .null, .null, .null, .null, .null, .null, .null]) :: .inr (7, [.int 0, .int 0, .int (-1), .int 0, .int 0, .ref (ad G (1 + 1)), .int 0, .int 0, .int 0]) :: .inl (gA G 0, 500, .inl (fun _ => 0)) :: .inl (gA G 2, 6, .inr (.inr (.inr (.inr (svB G 0))))) :: .inl (gA G 3, 6, .inr (.inr (.inr (.inr (svW G 0))))) :: tl_X11_2 G) (c_X0_init G 6) (congrArg (fun z => 0 + z) (congrArg Nat.succ (congrArg Nat.succ (congrArg Nat.succ (congrArg Nat.succ (congrArg Nat.succ (tl_X11_1_len G))))))) rfl rfl rfl kc_yX0_init rfl kn_ThumbBook_Book (List.mem_of_getElem? (i := 2) rfl) ki_yX0_init rfl ⟨by decide, by decide, by decide +kernel⟩ (by decide) (by decide) (Nat.le_of_ble_eq_true rfl) (by decide) (by decide) dX11_init_49 ?_
  refine m_put (k0 := 4) (k1 := 0) (l' := .inr (11, [.ref (ad G 1), .ref (ad G 3), .ref (ad G 4), .ref (ad G 5), .ref (ad G 6), .null, .null, .null, .null, .null, .int 0, .null, .null, .null, .null, .null, .null, .null, .null]) :: .inr (7, [.int 0, .int 0, .int (-1), .int 0, .int 0, .ref (ad G (1 + 1)), .int 0, .int 0, .int 0]) :: .inl (gA G 0, 500, .inl (fun _ => 0)) :: .inl (gA G 2, 6, .inr (.inr (.inr (.inr (svB G 0))))) :: .inl (gA G 3, 6, .inr (.inr (.inr (.inr (svW G 0))))) :: tl_X11_2 G) tyX11 rfl rfl ku_11 tyX11_ok nmX11 rfl (by decide) rfl rfl kf_RX11_36 rfl rfl rfl rfl (Nat.le_of_ble_eq_true rfl) rfl dX11_init_52 ?_
  refine m_aload_n 0 dX11_init_55 rfl ?_
  refine m_new (k1 := 24) (r := 24) (l' := (.inr (11, [.ref (ad G 1), .ref (ad G 3), .ref (ad G 4), .ref (ad G 5), .ref (ad G 6), .null, .null, .null, .null, .null, .int 0, .null, .null, .null, .null, .null, .null, .null, .null]) :: .inr (7, [.int 0, .int 0, .int (-1), .int 0, .int 0, .ref (ad G (1 + 1)), .int 0, .int 0, .int 0]) :: .inl (gA G 0, 500, .inl (fun _ => 0)) :: .inl (gA G 2, 6, .inr (.inr (.inr (.inr (svB G 0))))) :: .inl (gA G 3, 6, .inr (.inr (.inr (.inr (svW G 0))))) :: tl_X11_2 G) ++ [fr_X10]) tyX10 rfl rfl ku_10 tyX10_ok rfl kl_RX11_22 kx_ThumbBook_Way kn_ThumbBook_Way df_X10 (by decide) (by decide) (congrArg Nat.succ (congrArg Nat.succ (congrArg Nat.succ (congrArg Nat.succ (congrArg Nat.succ (tl_X11_2_len G)))))) rfl dX11_init_56 ?_
  refine m_dup dX11_init_59 rfl ?_
  refine m_callIN (l1 := .inr (11, [.ref (ad G 1), .ref (ad G 3), .ref (ad G 4), .ref (ad G 5), .ref (ad G 6), .null, .null, .null, .null, .null, .int 0, .null, .null, .null, .null, .null, .null, .null, .null]) :: .inr (7, [.int 0, .int 0, .int (-1), .int 0, .int 0, .ref (ad G (1 + 1)), .int 0, .int 0, .int 0]) :: .inl (gA G 0, 500, .inl (fun _ => 0)) :: .inl (gA G 2, 6, .inr (.inr (.inr (.inr (svB G 0))))) :: .inl (gA G 3, 6, .inr (.inr (.inr (.inr (svW G 0))))) :: tl_X11_2 G) (l' := .inr (11, [.ref (ad G 1), .ref (ad G 3), .ref (ad G 4), .ref (ad G 5), .ref (ad G 6), .null, .null, .null, .null, .null, .int 0, .null, .null, .null, .null, .null, .null, .null, .null]) :: .inr (7, [.int 0, .int 0, .int (-1), .int 0, .int 0, .ref (ad G (1 + 1)), .int 0, .int 0, .int 0]) :: .inl (gA G 0, 500, .inl (fun _ => 0)) :: .inl (gA G 2, 6, .inr (.inr (.inr (.inr (svB G 0))))) :: .inl (gA G 3, 6, .inr (.inr (.inr (.inr (svW G 0))))) :: tl_X11_3 G) (c_X10_init G 24) (congrArg (fun z => 0 + z) (congrArg Nat.succ (congrArg Nat.succ (congrArg Nat.succ (congrArg Nat.succ (congrArg Nat.succ (tl_X11_2_len G))))))) rfl rfl rfl kc_yX10_init rfl kn_ThumbBook_Way (List.mem_of_getElem? (i := 3) rfl) ki_yX10_init rfl ⟨by decide, by decide, by decide +kernel⟩ (by decide) (by decide) (Nat.le_of_ble_eq_true rfl) (by decide) (by decide) dX11_init_60 ?_
  refine m_put (k0 := 5) (k1 := 0) (l' := .inr (11, [.ref (ad G 1), .ref (ad G 3), .ref (ad G 4), .ref (ad G 5), .ref (ad G 6), .ref (ad G 24), .null, .null, .null, .null, .int 0, .null, .null, .null, .null, .null, .null, .null, .null]) :: .inr (7, [.int 0, .int 0, .int (-1), .int 0, .int 0, .ref (ad G (1 + 1)), .int 0, .int 0, .int 0]) :: .inl (gA G 0, 500, .inl (fun _ => 0)) :: .inl (gA G 2, 6, .inr (.inr (.inr (.inr (svB G 0))))) :: .inl (gA G 3, 6, .inr (.inr (.inr (.inr (svW G 0))))) :: tl_X11_3 G) tyX11 rfl rfl ku_11 tyX11_ok nmX11 rfl (by decide) rfl rfl kf_RX11_41 rfl rfl rfl rfl (Nat.le_of_ble_eq_true rfl) rfl dX11_init_63 ?_
  refine m_aload_n 0 dX11_init_66 rfl ?_
  refine m_new (k1 := 27) (r := 27) (l' := (.inr (11, [.ref (ad G 1), .ref (ad G 3), .ref (ad G 4), .ref (ad G 5), .ref (ad G 6), .ref (ad G 24), .null, .null, .null, .null, .int 0, .null, .null, .null, .null, .null, .null, .null, .null]) :: .inr (7, [.int 0, .int 0, .int (-1), .int 0, .int 0, .ref (ad G (1 + 1)), .int 0, .int 0, .int 0]) :: .inl (gA G 0, 500, .inl (fun _ => 0)) :: .inl (gA G 2, 6, .inr (.inr (.inr (.inr (svB G 0))))) :: .inl (gA G 3, 6, .inr (.inr (.inr (.inr (svW G 0))))) :: tl_X11_3 G) ++ [fr_X5]) tyX5 rfl rfl ku_5 tyX5_ok rfl kl_RX11_28 kx_ThumbBook_Law kn_ThumbBook_Law df_X5 (by decide) (by decide) (congrArg Nat.succ (congrArg Nat.succ (congrArg Nat.succ (congrArg Nat.succ (congrArg Nat.succ (tl_X11_3_len G)))))) rfl dX11_init_67 ?_
  refine m_dup dX11_init_70 rfl ?_
  refine m_callIN (l1 := .inr (11, [.ref (ad G 1), .ref (ad G 3), .ref (ad G 4), .ref (ad G 5), .ref (ad G 6), .ref (ad G 24), .null, .null, .null, .null, .int 0, .null, .null, .null, .null, .null, .null, .null, .null]) :: .inr (7, [.int 0, .int 0, .int (-1), .int 0, .int 0, .ref (ad G (1 + 1)), .int 0, .int 0, .int 0]) :: .inl (gA G 0, 500, .inl (fun _ => 0)) :: .inl (gA G 2, 6, .inr (.inr (.inr (.inr (svB G 0))))) :: .inl (gA G 3, 6, .inr (.inr (.inr (.inr (svW G 0))))) :: tl_X11_3 G) (l' := .inr (11, [.ref (ad G 1), .ref (ad G 3), .ref (ad G 4), .ref (ad G 5), .ref (ad G 6), .ref (ad G 24), .null, .null, .null, .null, .int 0, .null, .null, .null, .null, .null, .null, .null, .null]) :: .inr (7, [.int 0, .int 0, .int (-1), .int 0, .int 0, .ref (ad G (1 + 1)), .int 0, .int 0, .int 0]) :: .inl (gA G 0, 500, .inl (fun _ => 0)) :: .inl (gA G 2, 6, .inr (.inr (.inr (.inr (svB G 0))))) :: .inl (gA G 3, 6, .inr (.inr (.inr (.inr (svW G 0))))) :: tl_X11_4 G) (c_X5_init G 27) (congrArg (fun z => 0 + z) (congrArg Nat.succ (congrArg Nat.succ (congrArg Nat.succ (congrArg Nat.succ (congrArg Nat.succ (tl_X11_3_len G))))))) rfl rfl rfl kc_yX5_init rfl kn_ThumbBook_Law (List.mem_of_getElem? (i := 1) rfl) ki_yX5_init rfl ⟨by decide, by decide, by decide +kernel⟩ (by decide) (by decide) (Nat.le_of_ble_eq_true rfl) (by decide) (by decide) dX11_init_71 ?_
  refine m_put (k0 := 6) (k1 := 0) (l' := .inr (11, [.ref (ad G 1), .ref (ad G 3), .ref (ad G 4), .ref (ad G 5), .ref (ad G 6), .ref (ad G 24), .ref (ad G 27), .null, .null, .null, .int 0, .null, .null, .null, .null, .null, .null, .null, .null]) :: .inr (7, [.int 0, .int 0, .int (-1), .int 0, .int 0, .ref (ad G (1 + 1)), .int 0, .int 0, .int 0]) :: .inl (gA G 0, 500, .inl (fun _ => 0)) :: .inl (gA G 2, 6, .inr (.inr (.inr (.inr (svB G 0))))) :: .inl (gA G 3, 6, .inr (.inr (.inr (.inr (svW G 0))))) :: tl_X11_4 G) tyX11 rfl rfl ku_11 tyX11_ok nmX11 rfl (by decide) rfl rfl kf_RX11_45 rfl rfl rfl rfl (Nat.le_of_ble_eq_true rfl) rfl dX11_init_74 ?_
  refine m_aload_n 0 dX11_init_77 rfl ?_
  refine m_new (k1 := 28) (r := 28) (l' := (.inr (11, [.ref (ad G 1), .ref (ad G 3), .ref (ad G 4), .ref (ad G 5), .ref (ad G 6), .ref (ad G 24), .ref (ad G 27), .null, .null, .null, .int 0, .null, .null, .null, .null, .null, .null, .null, .null]) :: .inr (7, [.int 0, .int 0, .int (-1), .int 0, .int 0, .ref (ad G (1 + 1)), .int 0, .int 0, .int 0]) :: .inl (gA G 0, 500, .inl (fun _ => 0)) :: .inl (gA G 2, 6, .inr (.inr (.inr (.inr (svB G 0))))) :: .inl (gA G 3, 6, .inr (.inr (.inr (.inr (svW G 0))))) :: tl_X11_4 G) ++ [fr_X8]) tyX8 rfl rfl ku_8 tyX8_ok rfl kl_RX11_48 kx_ThumbBook_Trials kn_ThumbBook_Trials df_X8 (by decide) (by decide) (congrArg Nat.succ (congrArg Nat.succ (congrArg Nat.succ (congrArg Nat.succ (congrArg Nat.succ (tl_X11_4_len G)))))) rfl dX11_init_78 ?_
  refine m_dup dX11_init_81 rfl ?_
  refine m_callIN (l1 := .inr (11, [.ref (ad G 1), .ref (ad G 3), .ref (ad G 4), .ref (ad G 5), .ref (ad G 6), .ref (ad G 24), .ref (ad G 27), .null, .null, .null, .int 0, .null, .null, .null, .null, .null, .null, .null, .null]) :: .inr (7, [.int 0, .int 0, .int (-1), .int 0, .int 0, .ref (ad G (1 + 1)), .int 0, .int 0, .int 0]) :: .inl (gA G 0, 500, .inl (fun _ => 0)) :: .inl (gA G 2, 6, .inr (.inr (.inr (.inr (svB G 0))))) :: .inl (gA G 3, 6, .inr (.inr (.inr (.inr (svW G 0))))) :: tl_X11_4 G) (l' := .inr (11, [.ref (ad G 1), .ref (ad G 3), .ref (ad G 4), .ref (ad G 5), .ref (ad G 6), .ref (ad G 24), .ref (ad G 27), .null, .null, .null, .int 0, .null, .null, .null, .null, .null, .null, .null, .null]) :: .inr (7, [.int 0, .int 0, .int (-1), .int 0, .int 0, .ref (ad G (1 + 1)), .int 0, .int 0, .int 0]) :: .inl (gA G 0, 500, .inl (fun _ => 0)) :: .inl (gA G 2, 6, .inr (.inr (.inr (.inr (svB G 0))))) :: .inl (gA G 3, 6, .inr (.inr (.inr (.inr (svW G 0))))) :: tl_X11_5 G) (c_X8_init G 28) (congrArg (fun z => 0 + z) (congrArg Nat.succ (congrArg Nat.succ (congrArg Nat.succ (congrArg Nat.succ (congrArg Nat.succ (tl_X11_4_len G))))))) rfl rfl rfl kc_yX8_init rfl kn_ThumbBook_Trials (List.mem_of_getElem? (i := 4) rfl) ki_yX8_init rfl ⟨by decide, by decide, by decide +kernel⟩ (by decide) (by decide) (Nat.le_of_ble_eq_true rfl) (by decide) (by decide) dX11_init_82 ?_
  refine m_putF (k0 := 7) (k1 := 0) (l' := .inr (11, [.ref (ad G 1), .ref (ad G 3), .ref (ad G 4), .ref (ad G 5), .ref (ad G 6), .ref (ad G 24), .ref (ad G 27), .ref (ad G 28), .null, .null, .int 0, .null, .null, .null, .null, .null, .null, .null, .null]) :: .inr (7, [.int 0, .int 0, .int (-1), .int 0, .int 0, .ref (ad G (1 + 1)), .int 0, .int 0, .int 0]) :: .inl (gA G 0, 500, .inl (fun _ => 0)) :: .inl (gA G 2, 6, .inr (.inr (.inr (.inr (svB G 0))))) :: .inl (gA G 3, 6, .inr (.inr (.inr (.inr (svW G 0))))) :: tl_X11_5 G) tyX11 rfl rfl ku_11 tyX11_ok nmX11 rfl (by decide) rfl rfl rfl rfl kf_RX11_51 rfl rfl rfl rfl (Nat.le_of_ble_eq_true rfl) rfl dX11_init_85 ?_
  refine m_aload_n 0 dX11_init_88 rfl ?_
  refine m_iconst 4 dX11_init_89 (by decide) ?_
  refine m_newI (N := 4) (k1 := 31) (r := 31) (l' := .inr (11, [.ref (ad G 1), .ref (ad G 3), .ref (ad G 4), .ref (ad G 5), .ref (ad G 6), .ref (ad G 24), .ref (ad G 27), .ref (ad G 28), .null, .null, .int 0, .null, .null, .null, .null, .null, .null, .null, .null]) :: .inr (7, [.int 0, .int 0, .int (-1), .int 0, .int 0, .ref (ad G (1 + 1)), .int 0, .int 0, .int 0]) :: .inl (gA G 0, 500, .inl (fun _ => 0)) :: .inl (gA G 2, 6, .inr (.inr (.inr (.inr (svB G 0))))) :: .inl (gA G 3, 6, .inr (.inr (.inr (.inr (svW G 0))))) :: tl_X11_6 G) rfl (by decide) (by decide) (by decide) (by decide) (by decide) (congrArg Nat.succ (congrArg Nat.succ (congrArg Nat.succ (congrArg Nat.succ (congrArg Nat.succ (tl_X11_5_len G)))))) rfl dX11_init_90 ?_
  refine m_putF (k0 := 8) (k1 := 0) (l' := .inr (11, [.ref (ad G 1), .ref (ad G 3), .ref (ad G 4), .ref (ad G 5), .ref (ad G 6), .ref (ad G 24), .ref (ad G 27), .ref (ad G 28), .ref (ad G 31), .null, .int 0, .null, .null, .null, .null, .null, .null, .null, .null]) :: .inr (7, [.int 0, .int 0, .int (-1), .int 0, .int 0, .ref (ad G (1 + 1)), .int 0, .int 0, .int 0]) :: .inl (gA G 0, 500, .inl (fun _ => 0)) :: .inl (gA G 2, 6, .inr (.inr (.inr (.inr (svB G 0))))) :: .inl (gA G 3, 6, .inr (.inr (.inr (.inr (svW G 0))))) :: tl_X11_6 G) tyX11 rfl rfl ku_11 tyX11_ok nmX11 rfl (by decide) rfl rfl rfl rfl kf_RX11_55 rfl rfl rfl rfl (Nat.le_of_ble_eq_true rfl) rfl dX11_init_92 ?_
  refine m_aload_n 0 dX11_init_95 rfl ?_
  refine m_iconst 4 dX11_init_96 (by decide) ?_
  refine m_newI (N := 4) (k1 := 32) (r := 32) (l' := .inr (11, [.ref (ad G 1), .ref (ad G 3), .ref (ad G 4), .ref (ad G 5), .ref (ad G 6), .ref (ad G 24), .ref (ad G 27), .ref (ad G 28), .ref (ad G 31), .null, .int 0, .null, .null, .null, .null, .null, .null, .null, .null]) :: .inr (7, [.int 0, .int 0, .int (-1), .int 0, .int 0, .ref (ad G (1 + 1)), .int 0, .int 0, .int 0]) :: .inl (gA G 0, 500, .inl (fun _ => 0)) :: .inl (gA G 2, 6, .inr (.inr (.inr (.inr (svB G 0))))) :: .inl (gA G 3, 6, .inr (.inr (.inr (.inr (svW G 0))))) :: tl_X11_7 G) rfl (by decide) (by decide) (by decide) (by decide) (by decide) (congrArg Nat.succ (congrArg Nat.succ (congrArg Nat.succ (congrArg Nat.succ (congrArg Nat.succ (tl_X11_6_len G)))))) rfl dX11_init_97 ?_
  refine m_putF (k0 := 9) (k1 := 0) (l' := .inr (11, [.ref (ad G 1), .ref (ad G 3), .ref (ad G 4), .ref (ad G 5), .ref (ad G 6), .ref (ad G 24), .ref (ad G 27), .ref (ad G 28), .ref (ad G 31), .ref (ad G 32), .int 0, .null, .null, .null, .null, .null, .null, .null, .null]) :: .inr (7, [.int 0, .int 0, .int (-1), .int 0, .int 0, .ref (ad G (1 + 1)), .int 0, .int 0, .int 0]) :: .inl (gA G 0, 500, .inl (fun _ => 0)) :: .inl (gA G 2, 6, .inr (.inr (.inr (.inr (svB G 0))))) :: .inl (gA G 3, 6, .inr (.inr (.inr (.inr (svW G 0))))) :: tl_X11_7 G) tyX11 rfl rfl ku_11 tyX11_ok nmX11 rfl (by decide) rfl rfl rfl rfl kf_RX11_59 rfl rfl rfl rfl (Nat.le_of_ble_eq_true rfl) rfl dX11_init_99 ?_
  refine m_aload_n 0 dX11_init_102 rfl ?_
  refine m_new (k1 := 33) (r := 33) (l' := (.inr (11, [.ref (ad G 1), .ref (ad G 3), .ref (ad G 4), .ref (ad G 5), .ref (ad G 6), .ref (ad G 24), .ref (ad G 27), .ref (ad G 28), .ref (ad G 31), .ref (ad G 32), .int 0, .null, .null, .null, .null, .null, .null, .null, .null]) :: .inr (7, [.int 0, .int 0, .int (-1), .int 0, .int 0, .ref (ad G (1 + 1)), .int 0, .int 0, .int 0]) :: .inl (gA G 0, 500, .inl (fun _ => 0)) :: .inl (gA G 2, 6, .inr (.inr (.inr (.inr (svB G 0))))) :: .inl (gA G 3, 6, .inr (.inr (.inr (.inr (svW G 0))))) :: tl_X11_7 G) ++ [fr_X9]) tyX9 rfl rfl ku_9 tyX9_ok rfl kl_RX11_62 kx_ThumbBook_Undone kn_ThumbBook_Undone df_X9 (by decide) (by decide) (congrArg Nat.succ (congrArg Nat.succ (congrArg Nat.succ (congrArg Nat.succ (congrArg Nat.succ (tl_X11_7_len G)))))) rfl dX11_init_103 ?_
  refine m_dup dX11_init_106 rfl ?_
  refine m_callIN (l1 := .inr (11, [.ref (ad G 1), .ref (ad G 3), .ref (ad G 4), .ref (ad G 5), .ref (ad G 6), .ref (ad G 24), .ref (ad G 27), .ref (ad G 28), .ref (ad G 31), .ref (ad G 32), .int 0, .null, .null, .null, .null, .null, .null, .null, .null]) :: .inr (7, [.int 0, .int 0, .int (-1), .int 0, .int 0, .ref (ad G (1 + 1)), .int 0, .int 0, .int 0]) :: .inl (gA G 0, 500, .inl (fun _ => 0)) :: .inl (gA G 2, 6, .inr (.inr (.inr (.inr (svB G 0))))) :: .inl (gA G 3, 6, .inr (.inr (.inr (.inr (svW G 0))))) :: tl_X11_7 G) (l' := .inr (11, [.ref (ad G 1), .ref (ad G 3), .ref (ad G 4), .ref (ad G 5), .ref (ad G 6), .ref (ad G 24), .ref (ad G 27), .ref (ad G 28), .ref (ad G 31), .ref (ad G 32), .int 0, .null, .null, .null, .null, .null, .null, .null, .null]) :: .inr (7, [.int 0, .int 0, .int (-1), .int 0, .int 0, .ref (ad G (1 + 1)), .int 0, .int 0, .int 0]) :: .inl (gA G 0, 500, .inl (fun _ => 0)) :: .inl (gA G 2, 6, .inr (.inr (.inr (.inr (svB G 0))))) :: .inl (gA G 3, 6, .inr (.inr (.inr (.inr (svW G 0))))) :: tl_X11_8 G) (c_X9_init G 33) (congrArg (fun z => 0 + z) (congrArg Nat.succ (congrArg Nat.succ (congrArg Nat.succ (congrArg Nat.succ (congrArg Nat.succ (tl_X11_7_len G))))))) rfl rfl rfl kc_yX9_init rfl kn_ThumbBook_Undone (List.mem_of_getElem? (i := 5) rfl) ki_yX9_init rfl ⟨by decide, by decide, by decide +kernel⟩ (by decide) (by decide) (Nat.le_of_ble_eq_true rfl) (by decide) (by decide) dX11_init_107 ?_
  refine m_putF (k0 := 11) (k1 := 0) (l' := .inr (11, [.ref (ad G 1), .ref (ad G 3), .ref (ad G 4), .ref (ad G 5), .ref (ad G 6), .ref (ad G 24), .ref (ad G 27), .ref (ad G 28), .ref (ad G 31), .ref (ad G 32), .int 0, .ref (ad G 33), .null, .null, .null, .null, .null, .null, .null]) :: .inr (7, [.int 0, .int 0, .int (-1), .int 0, .int 0, .ref (ad G (1 + 1)), .int 0, .int 0, .int 0]) :: .inl (gA G 0, 500, .inl (fun _ => 0)) :: .inl (gA G 2, 6, .inr (.inr (.inr (.inr (svB G 0))))) :: .inl (gA G 3, 6, .inr (.inr (.inr (.inr (svW G 0))))) :: tl_X11_8 G) tyX11 rfl rfl ku_11 tyX11_ok nmX11 rfl (by decide) rfl rfl rfl rfl kf_RX11_65 rfl rfl rfl rfl (Nat.le_of_ble_eq_true rfl) rfl dX11_init_110 ?_
  refine m_aload_n 0 dX11_init_113 rfl ?_
  refine m_new (k1 := 42) (r := 42) (l' := (.inr (11, [.ref (ad G 1), .ref (ad G 3), .ref (ad G 4), .ref (ad G 5), .ref (ad G 6), .ref (ad G 24), .ref (ad G 27), .ref (ad G 28), .ref (ad G 31), .ref (ad G 32), .int 0, .ref (ad G 33), .null, .null, .null, .null, .null, .null, .null]) :: .inr (7, [.int 0, .int 0, .int (-1), .int 0, .int 0, .ref (ad G (1 + 1)), .int 0, .int 0, .int 0]) :: .inl (gA G 0, 500, .inl (fun _ => 0)) :: .inl (gA G 2, 6, .inr (.inr (.inr (.inr (svB G 0))))) :: .inl (gA G 3, 6, .inr (.inr (.inr (.inr (svW G 0))))) :: tl_X11_8 G) ++ [fr_X9]) tyX9 rfl rfl ku_9 tyX9_ok rfl kl_RX11_62 kx_ThumbBook_Undone kn_ThumbBook_Undone df_X9 (by decide) (by decide) (congrArg Nat.succ (congrArg Nat.succ (congrArg Nat.succ (congrArg Nat.succ (congrArg Nat.succ (tl_X11_8_len G)))))) rfl dX11_init_114 ?_
  refine m_dup dX11_init_117 rfl ?_
  refine m_callIN (l1 := .inr (11, [.ref (ad G 1), .ref (ad G 3), .ref (ad G 4), .ref (ad G 5), .ref (ad G 6), .ref (ad G 24), .ref (ad G 27), .ref (ad G 28), .ref (ad G 31), .ref (ad G 32), .int 0, .ref (ad G 33), .null, .null, .null, .null, .null, .null, .null]) :: .inr (7, [.int 0, .int 0, .int (-1), .int 0, .int 0, .ref (ad G (1 + 1)), .int 0, .int 0, .int 0]) :: .inl (gA G 0, 500, .inl (fun _ => 0)) :: .inl (gA G 2, 6, .inr (.inr (.inr (.inr (svB G 0))))) :: .inl (gA G 3, 6, .inr (.inr (.inr (.inr (svW G 0))))) :: tl_X11_8 G) (l' := .inr (11, [.ref (ad G 1), .ref (ad G 3), .ref (ad G 4), .ref (ad G 5), .ref (ad G 6), .ref (ad G 24), .ref (ad G 27), .ref (ad G 28), .ref (ad G 31), .ref (ad G 32), .int 0, .ref (ad G 33), .null, .null, .null, .null, .null, .null, .null]) :: .inr (7, [.int 0, .int 0, .int (-1), .int 0, .int 0, .ref (ad G (1 + 1)), .int 0, .int 0, .int 0]) :: .inl (gA G 0, 500, .inl (fun _ => 0)) :: .inl (gA G 2, 6, .inr (.inr (.inr (.inr (svB G 0))))) :: .inl (gA G 3, 6, .inr (.inr (.inr (.inr (svW G 0))))) :: tl_X11_9 G) (c_X9_init G 42) (congrArg (fun z => 0 + z) (congrArg Nat.succ (congrArg Nat.succ (congrArg Nat.succ (congrArg Nat.succ (congrArg Nat.succ (tl_X11_8_len G))))))) rfl rfl rfl kc_yX9_init rfl kn_ThumbBook_Undone (List.mem_of_getElem? (i := 5) rfl) ki_yX9_init rfl ⟨by decide, by decide, by decide +kernel⟩ (by decide) (by decide) (Nat.le_of_ble_eq_true rfl) (by decide) (by decide) dX11_init_118 ?_
  refine m_putF (k0 := 12) (k1 := 0) (l' := .inr (11, [.ref (ad G 1), .ref (ad G 3), .ref (ad G 4), .ref (ad G 5), .ref (ad G 6), .ref (ad G 24), .ref (ad G 27), .ref (ad G 28), .ref (ad G 31), .ref (ad G 32), .int 0, .ref (ad G 33), .ref (ad G 42), .null, .null, .null, .null, .null, .null]) :: .inr (7, [.int 0, .int 0, .int (-1), .int 0, .int 0, .ref (ad G (1 + 1)), .int 0, .int 0, .int 0]) :: .inl (gA G 0, 500, .inl (fun _ => 0)) :: .inl (gA G 2, 6, .inr (.inr (.inr (.inr (svB G 0))))) :: .inl (gA G 3, 6, .inr (.inr (.inr (.inr (svW G 0))))) :: tl_X11_9 G) tyX11 rfl rfl ku_11 tyX11_ok nmX11 rfl (by decide) rfl rfl rfl rfl kf_RX11_69 rfl rfl rfl rfl (Nat.le_of_ble_eq_true rfl) rfl dX11_init_121 ?_
  refine m_aload_n 0 dX11_init_124 rfl ?_
  refine m_new (k1 := 51) (r := 51) (l' := (.inr (11, [.ref (ad G 1), .ref (ad G 3), .ref (ad G 4), .ref (ad G 5), .ref (ad G 6), .ref (ad G 24), .ref (ad G 27), .ref (ad G 28), .ref (ad G 31), .ref (ad G 32), .int 0, .ref (ad G 33), .ref (ad G 42), .null, .null, .null, .null, .null, .null]) :: .inr (7, [.int 0, .int 0, .int (-1), .int 0, .int 0, .ref (ad G (1 + 1)), .int 0, .int 0, .int 0]) :: .inl (gA G 0, 500, .inl (fun _ => 0)) :: .inl (gA G 2, 6, .inr (.inr (.inr (.inr (svB G 0))))) :: .inl (gA G 3, 6, .inr (.inr (.inr (.inr (svW G 0))))) :: tl_X11_9 G) ++ [fr_X1]) tyX1 rfl rfl ku_1 tyX1_ok rfl kl_RX11_72 kx_ThumbBook_Chance kn_ThumbBook_Chance df_X1 (by decide) (by decide) (congrArg Nat.succ (congrArg Nat.succ (congrArg Nat.succ (congrArg Nat.succ (congrArg Nat.succ (tl_X11_9_len G)))))) rfl dX11_init_125 ?_
  refine m_dup dX11_init_128 rfl ?_
  refine m_callIN (l1 := .inr (11, [.ref (ad G 1), .ref (ad G 3), .ref (ad G 4), .ref (ad G 5), .ref (ad G 6), .ref (ad G 24), .ref (ad G 27), .ref (ad G 28), .ref (ad G 31), .ref (ad G 32), .int 0, .ref (ad G 33), .ref (ad G 42), .null, .null, .null, .null, .null, .null]) :: .inr (7, [.int 0, .int 0, .int (-1), .int 0, .int 0, .ref (ad G (1 + 1)), .int 0, .int 0, .int 0]) :: .inl (gA G 0, 500, .inl (fun _ => 0)) :: .inl (gA G 2, 6, .inr (.inr (.inr (.inr (svB G 0))))) :: .inl (gA G 3, 6, .inr (.inr (.inr (.inr (svW G 0))))) :: tl_X11_9 G) (l' := .inr (11, [.ref (ad G 1), .ref (ad G 3), .ref (ad G 4), .ref (ad G 5), .ref (ad G 6), .ref (ad G 24), .ref (ad G 27), .ref (ad G 28), .ref (ad G 31), .ref (ad G 32), .int 0, .ref (ad G 33), .ref (ad G 42), .null, .null, .null, .null, .null, .null]) :: .inr (7, [.int 0, .int 0, .int (-1), .int 0, .int 0, .ref (ad G (1 + 1)), .int 0, .int 0, .int 0]) :: .inl (gA G 0, 500, .inl (fun _ => 0)) :: .inl (gA G 2, 6, .inr (.inr (.inr (.inr (svB G 0))))) :: .inl (gA G 3, 6, .inr (.inr (.inr (.inr (svW G 0))))) :: tl_X11_10 G) (c_X1_init G 51) (congrArg (fun z => 0 + z) (congrArg Nat.succ (congrArg Nat.succ (congrArg Nat.succ (congrArg Nat.succ (congrArg Nat.succ (tl_X11_9_len G))))))) rfl rfl rfl kc_yX1_init rfl kn_ThumbBook_Chance (List.mem_of_getElem? (i := 6) rfl) ki_yX1_init rfl ⟨by decide, by decide, by decide +kernel⟩ (by decide) (by decide) (Nat.le_of_ble_eq_true rfl) (by decide) (by decide) dX11_init_129 ?_
  refine m_putF (k0 := 13) (k1 := 0) (l' := .inr (11, [.ref (ad G 1), .ref (ad G 3), .ref (ad G 4), .ref (ad G 5), .ref (ad G 6), .ref (ad G 24), .ref (ad G 27), .ref (ad G 28), .ref (ad G 31), .ref (ad G 32), .int 0, .ref (ad G 33), .ref (ad G 42), .ref (ad G 51), .null, .null, .null, .null, .null]) :: .inr (7, [.int 0, .int 0, .int (-1), .int 0, .int 0, .ref (ad G (1 + 1)), .int 0, .int 0, .int 0]) :: .inl (gA G 0, 500, .inl (fun _ => 0)) :: .inl (gA G 2, 6, .inr (.inr (.inr (.inr (svB G 0))))) :: .inl (gA G 3, 6, .inr (.inr (.inr (.inr (svW G 0))))) :: tl_X11_10 G) tyX11 rfl rfl ku_11 tyX11_ok nmX11 rfl (by decide) rfl rfl rfl rfl kf_RX11_75 rfl rfl rfl rfl (Nat.le_of_ble_eq_true rfl) rfl dX11_init_132 ?_
  refine m_aload_n 0 dX11_init_135 rfl ?_
  refine m_new (k1 := 54) (r := 54) (l' := (.inr (11, [.ref (ad G 1), .ref (ad G 3), .ref (ad G 4), .ref (ad G 5), .ref (ad G 6), .ref (ad G 24), .ref (ad G 27), .ref (ad G 28), .ref (ad G 31), .ref (ad G 32), .int 0, .ref (ad G 33), .ref (ad G 42), .ref (ad G 51), .null, .null, .null, .null, .null]) :: .inr (7, [.int 0, .int 0, .int (-1), .int 0, .int 0, .ref (ad G (1 + 1)), .int 0, .int 0, .int 0]) :: .inl (gA G 0, 500, .inl (fun _ => 0)) :: .inl (gA G 2, 6, .inr (.inr (.inr (.inr (svB G 0))))) :: .inl (gA G 3, 6, .inr (.inr (.inr (.inr (svW G 0))))) :: tl_X11_10 G) ++ [fr_X4]) tyX4 rfl rfl ku_4 tyX4_ok rfl kl_RX11_79 kx_ThumbBook_Humps kn_ThumbBook_Humps df_X4 (by decide) (by decide) (congrArg Nat.succ (congrArg Nat.succ (congrArg Nat.succ (congrArg Nat.succ (congrArg Nat.succ (tl_X11_10_len G)))))) rfl dX11_init_136 ?_
  refine m_dup dX11_init_139 rfl ?_
  refine m_callIN (l1 := .inr (11, [.ref (ad G 1), .ref (ad G 3), .ref (ad G 4), .ref (ad G 5), .ref (ad G 6), .ref (ad G 24), .ref (ad G 27), .ref (ad G 28), .ref (ad G 31), .ref (ad G 32), .int 0, .ref (ad G 33), .ref (ad G 42), .ref (ad G 51), .null, .null, .null, .null, .null]) :: .inr (7, [.int 0, .int 0, .int (-1), .int 0, .int 0, .ref (ad G (1 + 1)), .int 0, .int 0, .int 0]) :: .inl (gA G 0, 500, .inl (fun _ => 0)) :: .inl (gA G 2, 6, .inr (.inr (.inr (.inr (svB G 0))))) :: .inl (gA G 3, 6, .inr (.inr (.inr (.inr (svW G 0))))) :: tl_X11_10 G) (l' := .inr (11, [.ref (ad G 1), .ref (ad G 3), .ref (ad G 4), .ref (ad G 5), .ref (ad G 6), .ref (ad G 24), .ref (ad G 27), .ref (ad G 28), .ref (ad G 31), .ref (ad G 32), .int 0, .ref (ad G 33), .ref (ad G 42), .ref (ad G 51), .null, .null, .null, .null, .null]) :: .inr (7, [.int 0, .int 0, .int (-1), .int 0, .int 0, .ref (ad G (1 + 1)), .int 0, .int 0, .int 0]) :: .inl (gA G 0, 500, .inl (fun _ => 0)) :: .inl (gA G 2, 6, .inr (.inr (.inr (.inr (svB G 0))))) :: .inl (gA G 3, 6, .inr (.inr (.inr (.inr (svW G 0))))) :: tl_X11_11 G) (c_X4_init G 54) (congrArg (fun z => 0 + z) (congrArg Nat.succ (congrArg Nat.succ (congrArg Nat.succ (congrArg Nat.succ (congrArg Nat.succ (tl_X11_10_len G))))))) rfl rfl rfl kc_yX4_init rfl kn_ThumbBook_Humps (List.mem_of_getElem? (i := 7) rfl) ki_yX4_init rfl ⟨by decide, by decide, by decide +kernel⟩ (by decide) (by decide) (Nat.le_of_ble_eq_true rfl) (by decide) (by decide) dX11_init_140 ?_
  refine m_putF (k0 := 14) (k1 := 0) (l' := .inr (11, [.ref (ad G 1), .ref (ad G 3), .ref (ad G 4), .ref (ad G 5), .ref (ad G 6), .ref (ad G 24), .ref (ad G 27), .ref (ad G 28), .ref (ad G 31), .ref (ad G 32), .int 0, .ref (ad G 33), .ref (ad G 42), .ref (ad G 51), .ref (ad G 54), .null, .null, .null, .null]) :: .inr (7, [.int 0, .int 0, .int (-1), .int 0, .int 0, .ref (ad G (1 + 1)), .int 0, .int 0, .int 0]) :: .inl (gA G 0, 500, .inl (fun _ => 0)) :: .inl (gA G 2, 6, .inr (.inr (.inr (.inr (svB G 0))))) :: .inl (gA G 3, 6, .inr (.inr (.inr (.inr (svW G 0))))) :: tl_X11_11 G) tyX11 rfl rfl ku_11 tyX11_ok nmX11 rfl (by decide) rfl rfl rfl rfl kf_RX11_82 rfl rfl rfl rfl (Nat.le_of_ble_eq_true rfl) rfl dX11_init_143 ?_
  refine m_aload_n 0 dX11_init_146 rfl ?_
  refine m_new (k1 := 57) (r := 57) (l' := (.inr (11, [.ref (ad G 1), .ref (ad G 3), .ref (ad G 4), .ref (ad G 5), .ref (ad G 6), .ref (ad G 24), .ref (ad G 27), .ref (ad G 28), .ref (ad G 31), .ref (ad G 32), .int 0, .ref (ad G 33), .ref (ad G 42), .ref (ad G 51), .ref (ad G 54), .null, .null, .null, .null]) :: .inr (7, [.int 0, .int 0, .int (-1), .int 0, .int 0, .ref (ad G (1 + 1)), .int 0, .int 0, .int 0]) :: .inl (gA G 0, 500, .inl (fun _ => 0)) :: .inl (gA G 2, 6, .inr (.inr (.inr (.inr (svB G 0))))) :: .inl (gA G 3, 6, .inr (.inr (.inr (.inr (svW G 0))))) :: tl_X11_11 G) ++ [fr_X2]) tyX2 rfl rfl ku_2 tyX2_ok rfl kl_RX11_86 kx_ThumbBook_Fit kn_ThumbBook_Fit df_X2 (by decide) (by decide) (congrArg Nat.succ (congrArg Nat.succ (congrArg Nat.succ (congrArg Nat.succ (congrArg Nat.succ (tl_X11_11_len G)))))) rfl dX11_init_147 ?_
  refine m_dup dX11_init_150 rfl ?_
  refine m_callIN (l1 := .inr (11, [.ref (ad G 1), .ref (ad G 3), .ref (ad G 4), .ref (ad G 5), .ref (ad G 6), .ref (ad G 24), .ref (ad G 27), .ref (ad G 28), .ref (ad G 31), .ref (ad G 32), .int 0, .ref (ad G 33), .ref (ad G 42), .ref (ad G 51), .ref (ad G 54), .null, .null, .null, .null]) :: .inr (7, [.int 0, .int 0, .int (-1), .int 0, .int 0, .ref (ad G (1 + 1)), .int 0, .int 0, .int 0]) :: .inl (gA G 0, 500, .inl (fun _ => 0)) :: .inl (gA G 2, 6, .inr (.inr (.inr (.inr (svB G 0))))) :: .inl (gA G 3, 6, .inr (.inr (.inr (.inr (svW G 0))))) :: tl_X11_11 G) (l' := .inr (11, [.ref (ad G 1), .ref (ad G 3), .ref (ad G 4), .ref (ad G 5), .ref (ad G 6), .ref (ad G 24), .ref (ad G 27), .ref (ad G 28), .ref (ad G 31), .ref (ad G 32), .int 0, .ref (ad G 33), .ref (ad G 42), .ref (ad G 51), .ref (ad G 54), .null, .null, .null, .null]) :: .inr (7, [.int 0, .int 0, .int (-1), .int 0, .int 0, .ref (ad G (1 + 1)), .int 0, .int 0, .int 0]) :: .inl (gA G 0, 500, .inl (fun _ => 0)) :: .inl (gA G 2, 6, .inr (.inr (.inr (.inr (svB G 0))))) :: .inl (gA G 3, 6, .inr (.inr (.inr (.inr (svW G 0))))) :: tl_X11_12 G) (c_X2_init G 57) (congrArg (fun z => 0 + z) (congrArg Nat.succ (congrArg Nat.succ (congrArg Nat.succ (congrArg Nat.succ (congrArg Nat.succ (tl_X11_11_len G))))))) rfl rfl rfl kc_yX2_init rfl kn_ThumbBook_Fit (List.mem_of_getElem? (i := 8) rfl) ki_yX2_init rfl ⟨by decide, by decide, by decide +kernel⟩ (by decide) (by decide) (Nat.le_of_ble_eq_true rfl) (by decide) (by decide) dX11_init_151 ?_
  refine m_putF (k0 := 15) (k1 := 0) (l' := .inr (11, [.ref (ad G 1), .ref (ad G 3), .ref (ad G 4), .ref (ad G 5), .ref (ad G 6), .ref (ad G 24), .ref (ad G 27), .ref (ad G 28), .ref (ad G 31), .ref (ad G 32), .int 0, .ref (ad G 33), .ref (ad G 42), .ref (ad G 51), .ref (ad G 54), .ref (ad G 57), .null, .null, .null]) :: .inr (7, [.int 0, .int 0, .int (-1), .int 0, .int 0, .ref (ad G (1 + 1)), .int 0, .int 0, .int 0]) :: .inl (gA G 0, 500, .inl (fun _ => 0)) :: .inl (gA G 2, 6, .inr (.inr (.inr (.inr (svB G 0))))) :: .inl (gA G 3, 6, .inr (.inr (.inr (.inr (svW G 0))))) :: tl_X11_12 G) tyX11 rfl rfl ku_11 tyX11_ok nmX11 rfl (by decide) rfl rfl rfl rfl kf_RX11_89 rfl rfl rfl rfl (Nat.le_of_ble_eq_true rfl) rfl dX11_init_154 ?_
  refine m_aload_n 0 dX11_init_157 rfl ?_
  refine m_new (k1 := 60) (r := 60) (l' := (.inr (11, [.ref (ad G 1), .ref (ad G 3), .ref (ad G 4), .ref (ad G 5), .ref (ad G 6), .ref (ad G 24), .ref (ad G 27), .ref (ad G 28), .ref (ad G 31), .ref (ad G 32), .int 0, .ref (ad G 33), .ref (ad G 42), .ref (ad G 51), .ref (ad G 54), .ref (ad G 57), .null, .null, .null]) :: .inr (7, [.int 0, .int 0, .int (-1), .int 0, .int 0, .ref (ad G (1 + 1)), .int 0, .int 0, .int 0]) :: .inl (gA G 0, 500, .inl (fun _ => 0)) :: .inl (gA G 2, 6, .inr (.inr (.inr (.inr (svB G 0))))) :: .inl (gA G 3, 6, .inr (.inr (.inr (.inr (svW G 0))))) :: tl_X11_12 G) ++ [fr_X6]) tyX6 rfl rfl ku_6 tyX6_ok rfl kl_RX11_93 kx_ThumbBook_Order kn_ThumbBook_Order df_X6 (by decide) (by decide) (congrArg Nat.succ (congrArg Nat.succ (congrArg Nat.succ (congrArg Nat.succ (congrArg Nat.succ (tl_X11_12_len G)))))) rfl dX11_init_158 ?_
  refine m_dup dX11_init_161 rfl ?_
  refine m_callIN (l1 := .inr (11, [.ref (ad G 1), .ref (ad G 3), .ref (ad G 4), .ref (ad G 5), .ref (ad G 6), .ref (ad G 24), .ref (ad G 27), .ref (ad G 28), .ref (ad G 31), .ref (ad G 32), .int 0, .ref (ad G 33), .ref (ad G 42), .ref (ad G 51), .ref (ad G 54), .ref (ad G 57), .null, .null, .null]) :: .inr (7, [.int 0, .int 0, .int (-1), .int 0, .int 0, .ref (ad G (1 + 1)), .int 0, .int 0, .int 0]) :: .inl (gA G 0, 500, .inl (fun _ => 0)) :: .inl (gA G 2, 6, .inr (.inr (.inr (.inr (svB G 0))))) :: .inl (gA G 3, 6, .inr (.inr (.inr (.inr (svW G 0))))) :: tl_X11_12 G) (l' := .inr (11, [.ref (ad G 1), .ref (ad G 3), .ref (ad G 4), .ref (ad G 5), .ref (ad G 6), .ref (ad G 24), .ref (ad G 27), .ref (ad G 28), .ref (ad G 31), .ref (ad G 32), .int 0, .ref (ad G 33), .ref (ad G 42), .ref (ad G 51), .ref (ad G 54), .ref (ad G 57), .null, .null, .null]) :: .inr (7, [.int 0, .int 0, .int (-1), .int 0, .int 0, .ref (ad G (1 + 1)), .int 0, .int 0, .int 0]) :: .inl (gA G 0, 500, .inl (fun _ => 0)) :: .inl (gA G 2, 6, .inr (.inr (.inr (.inr (svB G 0))))) :: .inl (gA G 3, 6, .inr (.inr (.inr (.inr (svW G 0))))) :: tl_X11_13 G) (c_X6_init G 60) (congrArg (fun z => 0 + z) (congrArg Nat.succ (congrArg Nat.succ (congrArg Nat.succ (congrArg Nat.succ (congrArg Nat.succ (tl_X11_12_len G))))))) rfl rfl rfl kc_yX6_init rfl kn_ThumbBook_Order (List.mem_of_getElem? (i := 9) rfl) ki_yX6_init rfl ⟨by decide, by decide, by decide +kernel⟩ (by decide) (by decide) (Nat.le_of_ble_eq_true rfl) (by decide) (by decide) dX11_init_162 ?_
  refine m_putF (k0 := 16) (k1 := 0) (l' := .inr (11, [.ref (ad G 1), .ref (ad G 3), .ref (ad G 4), .ref (ad G 5), .ref (ad G 6), .ref (ad G 24), .ref (ad G 27), .ref (ad G 28), .ref (ad G 31), .ref (ad G 32), .int 0, .ref (ad G 33), .ref (ad G 42), .ref (ad G 51), .ref (ad G 54), .ref (ad G 57), .ref (ad G 60), .null, .null]) :: .inr (7, [.int 0, .int 0, .int (-1), .int 0, .int 0, .ref (ad G (1 + 1)), .int 0, .int 0, .int 0]) :: .inl (gA G 0, 500, .inl (fun _ => 0)) :: .inl (gA G 2, 6, .inr (.inr (.inr (.inr (svB G 0))))) :: .inl (gA G 3, 6, .inr (.inr (.inr (.inr (svW G 0))))) :: tl_X11_13 G) tyX11 rfl rfl ku_11 tyX11_ok nmX11 rfl (by decide) rfl rfl rfl rfl kf_RX11_96 rfl rfl rfl rfl (Nat.le_of_ble_eq_true rfl) rfl dX11_init_165 ?_
  refine m_aload_n 0 dX11_init_168 rfl ?_
  refine m_new (k1 := 63) (r := 63) (l' := (.inr (11, [.ref (ad G 1), .ref (ad G 3), .ref (ad G 4), .ref (ad G 5), .ref (ad G 6), .ref (ad G 24), .ref (ad G 27), .ref (ad G 28), .ref (ad G 31), .ref (ad G 32), .int 0, .ref (ad G 33), .ref (ad G 42), .ref (ad G 51), .ref (ad G 54), .ref (ad G 57), .ref (ad G 60), .null, .null]) :: .inr (7, [.int 0, .int 0, .int (-1), .int 0, .int 0, .ref (ad G (1 + 1)), .int 0, .int 0, .int 0]) :: .inl (gA G 0, 500, .inl (fun _ => 0)) :: .inl (gA G 2, 6, .inr (.inr (.inr (.inr (svB G 0))))) :: .inl (gA G 3, 6, .inr (.inr (.inr (.inr (svW G 0))))) :: tl_X11_13 G) ++ [fr_X3]) tyX3 rfl rfl ku_3 tyX3_ok rfl kl_RX11_100 kx_ThumbBook_Glass kn_ThumbBook_Glass df_X3 (by decide) (by decide) (congrArg Nat.succ (congrArg Nat.succ (congrArg Nat.succ (congrArg Nat.succ (congrArg Nat.succ (tl_X11_13_len G)))))) rfl dX11_init_169 ?_
  refine m_dup dX11_init_172 rfl ?_
  refine m_callI (l1 := .inr (11, [.ref (ad G 1), .ref (ad G 3), .ref (ad G 4), .ref (ad G 5), .ref (ad G 6), .ref (ad G 24), .ref (ad G 27), .ref (ad G 28), .ref (ad G 31), .ref (ad G 32), .int 0, .ref (ad G 33), .ref (ad G 42), .ref (ad G 51), .ref (ad G 54), .ref (ad G 57), .ref (ad G 60), .null, .null]) :: .inr (7, [.int 0, .int 0, .int (-1), .int 0, .int 0, .ref (ad G (1 + 1)), .int 0, .int 0, .int 0]) :: .inl (gA G 0, 500, .inl (fun _ => 0)) :: .inl (gA G 2, 6, .inr (.inr (.inr (.inr (svB G 0))))) :: .inl (gA G 3, 6, .inr (.inr (.inr (.inr (svW G 0))))) :: tl_X11_13 G) (l' := .inr (11, [.ref (ad G 1), .ref (ad G 3), .ref (ad G 4), .ref (ad G 5), .ref (ad G 6), .ref (ad G 24), .ref (ad G 27), .ref (ad G 28), .ref (ad G 31), .ref (ad G 32), .int 0, .ref (ad G 33), .ref (ad G 42), .ref (ad G 51), .ref (ad G 54), .ref (ad G 57), .ref (ad G 60), .null, .null]) :: .inr (7, [.int 0, .int 0, .int (-1), .int 0, .int 0, .ref (ad G (1 + 1)), .int 0, .int 0, .int 0]) :: .inl (gA G 0, 500, .inl (fun _ => 0)) :: .inl (gA G 2, 6, .inr (.inr (.inr (.inr (svB G 0))))) :: .inl (gA G 3, 6, .inr (.inr (.inr (.inr (svW G 0))))) :: tl_X11_14 G) (c_X3_init G 63) (congrArg (fun z => 0 + z) (congrArg Nat.succ (congrArg Nat.succ (congrArg Nat.succ (congrArg Nat.succ (congrArg Nat.succ (tl_X11_13_len G))))))) rfl rfl rfl kc_yX3_init rfl kn_ThumbBook_Glass km_RX11_102 ki_yX3_init rfl ⟨by decide, by decide, by decide +kernel⟩ (by decide) (by decide) (Nat.le_of_ble_eq_true rfl) (by decide) (by decide) dX11_init_173 ?_
  refine m_putF (k0 := 17) (k1 := 0) (l' := .inr (11, [.ref (ad G 1), .ref (ad G 3), .ref (ad G 4), .ref (ad G 5), .ref (ad G 6), .ref (ad G 24), .ref (ad G 27), .ref (ad G 28), .ref (ad G 31), .ref (ad G 32), .int 0, .ref (ad G 33), .ref (ad G 42), .ref (ad G 51), .ref (ad G 54), .ref (ad G 57), .ref (ad G 60), .ref (ad G 63), .null]) :: .inr (7, [.int 0, .int 0, .int (-1), .int 0, .int 0, .ref (ad G (1 + 1)), .int 0, .int 0, .int 0]) :: .inl (gA G 0, 500, .inl (fun _ => 0)) :: .inl (gA G 2, 6, .inr (.inr (.inr (.inr (svB G 0))))) :: .inl (gA G 3, 6, .inr (.inr (.inr (.inr (svW G 0))))) :: tl_X11_14 G) tyX11 rfl rfl ku_11 tyX11_ok nmX11 rfl (by decide) rfl rfl rfl rfl kf_RX11_103 rfl rfl rfl rfl (Nat.le_of_ble_eq_true rfl) rfl dX11_init_176 ?_
  refine m_aload_n 0 dX11_init_179 rfl ?_
  refine m_bipush 40 dX11_init_180 (by decide) ?_
  refine m_newI (N := 40) (k1 := 66) (r := 66) (l' := .inr (11, [.ref (ad G 1), .ref (ad G 3), .ref (ad G 4), .ref (ad G 5), .ref (ad G 6), .ref (ad G 24), .ref (ad G 27), .ref (ad G 28), .ref (ad G 31), .ref (ad G 32), .int 0, .ref (ad G 33), .ref (ad G 42), .ref (ad G 51), .ref (ad G 54), .ref (ad G 57), .ref (ad G 60), .ref (ad G 63), .null]) :: .inr (7, [.int 0, .int 0, .int (-1), .int 0, .int 0, .ref (ad G (1 + 1)), .int 0, .int 0, .int 0]) :: .inl (gA G 0, 500, .inl (fun _ => 0)) :: .inl (gA G 2, 6, .inr (.inr (.inr (.inr (svB G 0))))) :: .inl (gA G 3, 6, .inr (.inr (.inr (.inr (svW G 0))))) :: tl_X11_15 G) rfl (by decide) (by decide) (by decide) (by decide) (by decide) (congrArg Nat.succ (congrArg Nat.succ (congrArg Nat.succ (congrArg Nat.succ (congrArg Nat.succ (tl_X11_14_len G)))))) rfl dX11_init_182 ?_
  refine m_putF (k0 := 18) (k1 := 0) (l' := .inr (11, [.ref (ad G 1), .ref (ad G 3), .ref (ad G 4), .ref (ad G 5), .ref (ad G 6), .ref (ad G 24), .ref (ad G 27), .ref (ad G 28), .ref (ad G 31), .ref (ad G 32), .int 0, .ref (ad G 33), .ref (ad G 42), .ref (ad G 51), .ref (ad G 54), .ref (ad G 57), .ref (ad G 60), .ref (ad G 63), .ref (ad G 66)]) :: .inr (7, [.int 0, .int 0, .int (-1), .int 0, .int 0, .ref (ad G (1 + 1)), .int 0, .int 0, .int 0]) :: .inl (gA G 0, 500, .inl (fun _ => 0)) :: .inl (gA G 2, 6, .inr (.inr (.inr (.inr (svB G 0))))) :: .inl (gA G 3, 6, .inr (.inr (.inr (.inr (svW G 0))))) :: tl_X11_15 G) tyX11 rfl rfl ku_11 tyX11_ok nmX11 rfl (by decide) rfl rfl rfl rfl kf_RX11_107 rfl rfl rfl rfl (Nat.le_of_ble_eq_true rfl) rfl dX11_init_184 ?_
  refine m_iconst 0 dX11_init_187 (by decide) ?_
  refine m_istore_n (lv' := [(1, .int 0), (0, .ref (ad G 0))]) dX11_init_188 (by decide) rfl ?_
  refine m_iload_n 0 dX11_init_189 rfl ?_
  refine m_bipush 6 dX11_init_190 (by decide) ?_
  refine m_icmp_ge 214 dX11_init_192 (by decide) (fun z => absurd z (by decide)) (fun z => ?_)
  refine m_aload_n 1 dX11_init_195 rfl ?_
  refine m_get (k0 := 1) (k1 := 0) rfl rfl ku_11 rfl (by decide) rfl kf_RX11_18 rfl rfl dX11_init_196 ?_
  refine m_iload_n 0 dX11_init_199 rfl ?_
  refine m_new (k1 := 67) (r := 67) (l' := (.inr (11, [.ref (ad G 1), .ref (ad G 3), .ref (ad G 4), .ref (ad G 5), .ref (ad G 6), .ref (ad G 24), .ref (ad G 27), .ref (ad G 28), .ref (ad G 31), .ref (ad G 32), .int 0, .ref (ad G 33), .ref (ad G 42), .ref (ad G 51), .ref (ad G 54), .ref (ad G 57), .ref (ad G 60), .ref (ad G 63), .ref (ad G 66)]) :: .inr (7, [.int 0, .int 0, .int (-1), .int 0, .int 0, .ref (ad G (1 + 1)), .int 0, .int 0, .int 0]) :: .inl (gA G 0, 500, .inl (fun _ => 0)) :: .inl (gA G 2, 6, .inr (.inr (.inr (.inr (svB G 0))))) :: .inl (gA G 3, 6, .inr (.inr (.inr (.inr (svW G 0))))) :: tl_X11_15 G) ++ [fr_X0]) tyX0 rfl rfl ku_0 tyX0_ok rfl kl_RX11_16 kx_ThumbBook_Book kn_ThumbBook_Book df_X0 (by decide) (by decide) (congrArg Nat.succ (congrArg Nat.succ (congrArg Nat.succ (congrArg Nat.succ (congrArg Nat.succ (tl_X11_15_len G)))))) rfl dX11_init_200 ?_
  refine m_dup dX11_init_203 rfl ?_
  refine m_callIN (l1 := .inr (11, [.ref (ad G 1), .ref (ad G 3), .ref (ad G 4), .ref (ad G 5), .ref (ad G 6), .ref (ad G 24), .ref (ad G 27), .ref (ad G 28), .ref (ad G 31), .ref (ad G 32), .int 0, .ref (ad G 33), .ref (ad G 42), .ref (ad G 51), .ref (ad G 54), .ref (ad G 57), .ref (ad G 60), .ref (ad G 63), .ref (ad G 66)]) :: .inr (7, [.int 0, .int 0, .int (-1), .int 0, .int 0, .ref (ad G (1 + 1)), .int 0, .int 0, .int 0]) :: .inl (gA G 0, 500, .inl (fun _ => 0)) :: .inl (gA G 2, 6, .inr (.inr (.inr (.inr (svB G 0))))) :: .inl (gA G 3, 6, .inr (.inr (.inr (.inr (svW G 0))))) :: tl_X11_15 G) (l' := .inr (11, [.ref (ad G 1), .ref (ad G 3), .ref (ad G 4), .ref (ad G 5), .ref (ad G 6), .ref (ad G 24), .ref (ad G 27), .ref (ad G 28), .ref (ad G 31), .ref (ad G 32), .int 0, .ref (ad G 33), .ref (ad G 42), .ref (ad G 51), .ref (ad G 54), .ref (ad G 57), .ref (ad G 60), .ref (ad G 63), .ref (ad G 66)]) :: .inr (7, [.int 0, .int 0, .int (-1), .int 0, .int 0, .ref (ad G (1 + 1)), .int 0, .int 0, .int 0]) :: .inl (gA G 0, 500, .inl (fun _ => 0)) :: .inl (gA G 2, 6, .inr (.inr (.inr (.inr (svB G 0))))) :: .inl (gA G 3, 6, .inr (.inr (.inr (.inr (svW G 0))))) :: tl_X11_16 G) (c_X0_init G 67) (congrArg (fun z => 0 + z) (congrArg Nat.succ (congrArg Nat.succ (congrArg Nat.succ (congrArg Nat.succ (congrArg Nat.succ (tl_X11_15_len G))))))) rfl rfl rfl kc_yX0_init rfl kn_ThumbBook_Book (List.mem_of_getElem? (i := 2) rfl) ki_yX0_init rfl ⟨by decide, by decide, by decide +kernel⟩ (by decide) (by decide) (Nat.le_of_ble_eq_true rfl) (by decide) (by decide) dX11_init_204 ?_
  refine m_aast (t0 := 2) (k1 := 3) (k2 := 67) (ci := 0) (q0 := (RX0, TX0, 19)) (l' := .inr (11, [.ref (ad G 1), .ref (ad G 3), .ref (ad G 4), .ref (ad G 5), .ref (ad G 6), .ref (ad G 24), .ref (ad G 27), .ref (ad G 28), .ref (ad G 31), .ref (ad G 32), .int 0, .ref (ad G 33), .ref (ad G 42), .ref (ad G 51), .ref (ad G 54), .ref (ad G 57), .ref (ad G 60), .ref (ad G 63), .ref (ad G 66)]) :: .inr (7, [.int 0, .int 0, .int (-1), .int 0, .int 0, .ref (ad G (1 + 1)), .int 0, .int 0, .int 0]) :: .inl (gA G 0, 500, .inl (fun _ => 0)) :: .inl (gA G 2, 6, .inr (.inr (.inr (.inr (svB G 1))))) :: .inl (gA G 3, 6, .inr (.inr (.inr (.inr (svW G 0))))) :: tl_X11_16 G) rfl rfl rfl rfl (hd_at5 (tl_X11_15_len G) (blk_hd_X0 G 67)) rfl (ib_in (by decide)) (by rw [show Int32.toNatClampNeg 0 = 0 from by decide]; rfl) dX11_init_207 ?_
  refine m_iinc (v := 1) (lv' := [(1, .int 1), (0, .ref (ad G 0))]) 0 dX11_init_208 rfl (by decide) (by decide) rfl ?_
  refine m_goto 189 dX11_init_211 (by decide) ?_
  refine m_iload_n 0 dX11_init_189 rfl ?_
  refine m_bipush 6 dX11_init_190 (by decide) ?_
  refine m_icmp_ge 214 dX11_init_192 (by decide) (fun z => absurd z (by decide)) (fun z => ?_)
  refine m_aload_n 1 dX11_init_195 rfl ?_
  refine m_get (k0 := 1) (k1 := 0) rfl rfl ku_11 rfl (by decide) rfl kf_RX11_18 rfl rfl dX11_init_196 ?_
  refine m_iload_n 0 dX11_init_199 rfl ?_
  refine m_new (k1 := 85) (r := 85) (l' := (.inr (11, [.ref (ad G 1), .ref (ad G 3), .ref (ad G 4), .ref (ad G 5), .ref (ad G 6), .ref (ad G 24), .ref (ad G 27), .ref (ad G 28), .ref (ad G 31), .ref (ad G 32), .int 0, .ref (ad G 33), .ref (ad G 42), .ref (ad G 51), .ref (ad G 54), .ref (ad G 57), .ref (ad G 60), .ref (ad G 63), .ref (ad G 66)]) :: .inr (7, [.int 0, .int 0, .int (-1), .int 0, .int 0, .ref (ad G (1 + 1)), .int 0, .int 0, .int 0]) :: .inl (gA G 0, 500, .inl (fun _ => 0)) :: .inl (gA G 2, 6, .inr (.inr (.inr (.inr (svB G 1))))) :: .inl (gA G 3, 6, .inr (.inr (.inr (.inr (svW G 0))))) :: tl_X11_16 G) ++ [fr_X0]) tyX0 rfl rfl ku_0 tyX0_ok rfl kl_RX11_16 kx_ThumbBook_Book kn_ThumbBook_Book df_X0 (by decide) (by decide) (congrArg Nat.succ (congrArg Nat.succ (congrArg Nat.succ (congrArg Nat.succ (congrArg Nat.succ (tl_X11_16_len G)))))) rfl dX11_init_200 ?_
  refine m_dup dX11_init_203 rfl ?_
  refine m_callIN (l1 := .inr (11, [.ref (ad G 1), .ref (ad G 3), .ref (ad G 4), .ref (ad G 5), .ref (ad G 6), .ref (ad G 24), .ref (ad G 27), .ref (ad G 28), .ref (ad G 31), .ref (ad G 32), .int 0, .ref (ad G 33), .ref (ad G 42), .ref (ad G 51), .ref (ad G 54), .ref (ad G 57), .ref (ad G 60), .ref (ad G 63), .ref (ad G 66)]) :: .inr (7, [.int 0, .int 0, .int (-1), .int 0, .int 0, .ref (ad G (1 + 1)), .int 0, .int 0, .int 0]) :: .inl (gA G 0, 500, .inl (fun _ => 0)) :: .inl (gA G 2, 6, .inr (.inr (.inr (.inr (svB G 1))))) :: .inl (gA G 3, 6, .inr (.inr (.inr (.inr (svW G 0))))) :: tl_X11_16 G) (l' := .inr (11, [.ref (ad G 1), .ref (ad G 3), .ref (ad G 4), .ref (ad G 5), .ref (ad G 6), .ref (ad G 24), .ref (ad G 27), .ref (ad G 28), .ref (ad G 31), .ref (ad G 32), .int 0, .ref (ad G 33), .ref (ad G 42), .ref (ad G 51), .ref (ad G 54), .ref (ad G 57), .ref (ad G 60), .ref (ad G 63), .ref (ad G 66)]) :: .inr (7, [.int 0, .int 0, .int (-1), .int 0, .int 0, .ref (ad G (1 + 1)), .int 0, .int 0, .int 0]) :: .inl (gA G 0, 500, .inl (fun _ => 0)) :: .inl (gA G 2, 6, .inr (.inr (.inr (.inr (svB G 1))))) :: .inl (gA G 3, 6, .inr (.inr (.inr (.inr (svW G 0))))) :: tl_X11_17 G) (c_X0_init G 85) (congrArg (fun z => 0 + z) (congrArg Nat.succ (congrArg Nat.succ (congrArg Nat.succ (congrArg Nat.succ (congrArg Nat.succ (tl_X11_16_len G))))))) rfl rfl rfl kc_yX0_init rfl kn_ThumbBook_Book (List.mem_of_getElem? (i := 2) rfl) ki_yX0_init rfl ⟨by decide, by decide, by decide +kernel⟩ (by decide) (by decide) (Nat.le_of_ble_eq_true rfl) (by decide) (by decide) dX11_init_204 ?_
  refine m_aast (t0 := 2) (k1 := 3) (k2 := 85) (ci := 0) (q0 := (RX0, TX0, 19)) (l' := .inr (11, [.ref (ad G 1), .ref (ad G 3), .ref (ad G 4), .ref (ad G 5), .ref (ad G 6), .ref (ad G 24), .ref (ad G 27), .ref (ad G 28), .ref (ad G 31), .ref (ad G 32), .int 0, .ref (ad G 33), .ref (ad G 42), .ref (ad G 51), .ref (ad G 54), .ref (ad G 57), .ref (ad G 60), .ref (ad G 63), .ref (ad G 66)]) :: .inr (7, [.int 0, .int 0, .int (-1), .int 0, .int 0, .ref (ad G (1 + 1)), .int 0, .int 0, .int 0]) :: .inl (gA G 0, 500, .inl (fun _ => 0)) :: .inl (gA G 2, 6, .inr (.inr (.inr (.inr (svB G 2))))) :: .inl (gA G 3, 6, .inr (.inr (.inr (.inr (svW G 0))))) :: tl_X11_17 G) rfl rfl rfl rfl (hd_at5 (tl_X11_16_len G) (blk_hd_X0 G 85)) rfl (ib_in (by decide)) (by rw [show Int32.toNatClampNeg 1 = 1 from by decide]; rfl) dX11_init_207 ?_
  refine m_iinc (v := 2) (lv' := [(1, .int 2), (0, .ref (ad G 0))]) 0 dX11_init_208 rfl (by decide) (by decide) rfl ?_
  refine m_goto 189 dX11_init_211 (by decide) ?_
  refine m_iload_n 0 dX11_init_189 rfl ?_
  refine m_bipush 6 dX11_init_190 (by decide) ?_
  refine m_icmp_ge 214 dX11_init_192 (by decide) (fun z => absurd z (by decide)) (fun z => ?_)
  refine m_aload_n 1 dX11_init_195 rfl ?_
  refine m_get (k0 := 1) (k1 := 0) rfl rfl ku_11 rfl (by decide) rfl kf_RX11_18 rfl rfl dX11_init_196 ?_
  refine m_iload_n 0 dX11_init_199 rfl ?_
  refine m_new (k1 := 103) (r := 103) (l' := (.inr (11, [.ref (ad G 1), .ref (ad G 3), .ref (ad G 4), .ref (ad G 5), .ref (ad G 6), .ref (ad G 24), .ref (ad G 27), .ref (ad G 28), .ref (ad G 31), .ref (ad G 32), .int 0, .ref (ad G 33), .ref (ad G 42), .ref (ad G 51), .ref (ad G 54), .ref (ad G 57), .ref (ad G 60), .ref (ad G 63), .ref (ad G 66)]) :: .inr (7, [.int 0, .int 0, .int (-1), .int 0, .int 0, .ref (ad G (1 + 1)), .int 0, .int 0, .int 0]) :: .inl (gA G 0, 500, .inl (fun _ => 0)) :: .inl (gA G 2, 6, .inr (.inr (.inr (.inr (svB G 2))))) :: .inl (gA G 3, 6, .inr (.inr (.inr (.inr (svW G 0))))) :: tl_X11_17 G) ++ [fr_X0]) tyX0 rfl rfl ku_0 tyX0_ok rfl kl_RX11_16 kx_ThumbBook_Book kn_ThumbBook_Book df_X0 (by decide) (by decide) (congrArg Nat.succ (congrArg Nat.succ (congrArg Nat.succ (congrArg Nat.succ (congrArg Nat.succ (tl_X11_17_len G)))))) rfl dX11_init_200 ?_
  refine m_dup dX11_init_203 rfl ?_
  refine m_callIN (l1 := .inr (11, [.ref (ad G 1), .ref (ad G 3), .ref (ad G 4), .ref (ad G 5), .ref (ad G 6), .ref (ad G 24), .ref (ad G 27), .ref (ad G 28), .ref (ad G 31), .ref (ad G 32), .int 0, .ref (ad G 33), .ref (ad G 42), .ref (ad G 51), .ref (ad G 54), .ref (ad G 57), .ref (ad G 60), .ref (ad G 63), .ref (ad G 66)]) :: .inr (7, [.int 0, .int 0, .int (-1), .int 0, .int 0, .ref (ad G (1 + 1)), .int 0, .int 0, .int 0]) :: .inl (gA G 0, 500, .inl (fun _ => 0)) :: .inl (gA G 2, 6, .inr (.inr (.inr (.inr (svB G 2))))) :: .inl (gA G 3, 6, .inr (.inr (.inr (.inr (svW G 0))))) :: tl_X11_17 G) (l' := .inr (11, [.ref (ad G 1), .ref (ad G 3), .ref (ad G 4), .ref (ad G 5), .ref (ad G 6), .ref (ad G 24), .ref (ad G 27), .ref (ad G 28), .ref (ad G 31), .ref (ad G 32), .int 0, .ref (ad G 33), .ref (ad G 42), .ref (ad G 51), .ref (ad G 54), .ref (ad G 57), .ref (ad G 60), .ref (ad G 63), .ref (ad G 66)]) :: .inr (7, [.int 0, .int 0, .int (-1), .int 0, .int 0, .ref (ad G (1 + 1)), .int 0, .int 0, .int 0]) :: .inl (gA G 0, 500, .inl (fun _ => 0)) :: .inl (gA G 2, 6, .inr (.inr (.inr (.inr (svB G 2))))) :: .inl (gA G 3, 6, .inr (.inr (.inr (.inr (svW G 0))))) :: tl_X11_18 G) (c_X0_init G 103) (congrArg (fun z => 0 + z) (congrArg Nat.succ (congrArg Nat.succ (congrArg Nat.succ (congrArg Nat.succ (congrArg Nat.succ (tl_X11_17_len G))))))) rfl rfl rfl kc_yX0_init rfl kn_ThumbBook_Book (List.mem_of_getElem? (i := 2) rfl) ki_yX0_init rfl ⟨by decide, by decide, by decide +kernel⟩ (by decide) (by decide) (Nat.le_of_ble_eq_true rfl) (by decide) (by decide) dX11_init_204 ?_
  refine m_aast (t0 := 2) (k1 := 3) (k2 := 103) (ci := 0) (q0 := (RX0, TX0, 19)) (l' := .inr (11, [.ref (ad G 1), .ref (ad G 3), .ref (ad G 4), .ref (ad G 5), .ref (ad G 6), .ref (ad G 24), .ref (ad G 27), .ref (ad G 28), .ref (ad G 31), .ref (ad G 32), .int 0, .ref (ad G 33), .ref (ad G 42), .ref (ad G 51), .ref (ad G 54), .ref (ad G 57), .ref (ad G 60), .ref (ad G 63), .ref (ad G 66)]) :: .inr (7, [.int 0, .int 0, .int (-1), .int 0, .int 0, .ref (ad G (1 + 1)), .int 0, .int 0, .int 0]) :: .inl (gA G 0, 500, .inl (fun _ => 0)) :: .inl (gA G 2, 6, .inr (.inr (.inr (.inr (svB G 3))))) :: .inl (gA G 3, 6, .inr (.inr (.inr (.inr (svW G 0))))) :: tl_X11_18 G) rfl rfl rfl rfl (hd_at5 (tl_X11_17_len G) (blk_hd_X0 G 103)) rfl (ib_in (by decide)) (by rw [show Int32.toNatClampNeg 2 = 2 from by decide]; rfl) dX11_init_207 ?_
  refine m_iinc (v := 3) (lv' := [(1, .int 3), (0, .ref (ad G 0))]) 0 dX11_init_208 rfl (by decide) (by decide) rfl ?_
  refine m_goto 189 dX11_init_211 (by decide) ?_
  refine m_iload_n 0 dX11_init_189 rfl ?_
  refine m_bipush 6 dX11_init_190 (by decide) ?_
  refine m_icmp_ge 214 dX11_init_192 (by decide) (fun z => absurd z (by decide)) (fun z => ?_)
  refine m_aload_n 1 dX11_init_195 rfl ?_
  refine m_get (k0 := 1) (k1 := 0) rfl rfl ku_11 rfl (by decide) rfl kf_RX11_18 rfl rfl dX11_init_196 ?_
  refine m_iload_n 0 dX11_init_199 rfl ?_
  refine m_new (k1 := 121) (r := 121) (l' := (.inr (11, [.ref (ad G 1), .ref (ad G 3), .ref (ad G 4), .ref (ad G 5), .ref (ad G 6), .ref (ad G 24), .ref (ad G 27), .ref (ad G 28), .ref (ad G 31), .ref (ad G 32), .int 0, .ref (ad G 33), .ref (ad G 42), .ref (ad G 51), .ref (ad G 54), .ref (ad G 57), .ref (ad G 60), .ref (ad G 63), .ref (ad G 66)]) :: .inr (7, [.int 0, .int 0, .int (-1), .int 0, .int 0, .ref (ad G (1 + 1)), .int 0, .int 0, .int 0]) :: .inl (gA G 0, 500, .inl (fun _ => 0)) :: .inl (gA G 2, 6, .inr (.inr (.inr (.inr (svB G 3))))) :: .inl (gA G 3, 6, .inr (.inr (.inr (.inr (svW G 0))))) :: tl_X11_18 G) ++ [fr_X0]) tyX0 rfl rfl ku_0 tyX0_ok rfl kl_RX11_16 kx_ThumbBook_Book kn_ThumbBook_Book df_X0 (by decide) (by decide) (congrArg Nat.succ (congrArg Nat.succ (congrArg Nat.succ (congrArg Nat.succ (congrArg Nat.succ (tl_X11_18_len G)))))) rfl dX11_init_200 ?_
  refine m_dup dX11_init_203 rfl ?_
  refine m_callIN (l1 := .inr (11, [.ref (ad G 1), .ref (ad G 3), .ref (ad G 4), .ref (ad G 5), .ref (ad G 6), .ref (ad G 24), .ref (ad G 27), .ref (ad G 28), .ref (ad G 31), .ref (ad G 32), .int 0, .ref (ad G 33), .ref (ad G 42), .ref (ad G 51), .ref (ad G 54), .ref (ad G 57), .ref (ad G 60), .ref (ad G 63), .ref (ad G 66)]) :: .inr (7, [.int 0, .int 0, .int (-1), .int 0, .int 0, .ref (ad G (1 + 1)), .int 0, .int 0, .int 0]) :: .inl (gA G 0, 500, .inl (fun _ => 0)) :: .inl (gA G 2, 6, .inr (.inr (.inr (.inr (svB G 3))))) :: .inl (gA G 3, 6, .inr (.inr (.inr (.inr (svW G 0))))) :: tl_X11_18 G) (l' := .inr (11, [.ref (ad G 1), .ref (ad G 3), .ref (ad G 4), .ref (ad G 5), .ref (ad G 6), .ref (ad G 24), .ref (ad G 27), .ref (ad G 28), .ref (ad G 31), .ref (ad G 32), .int 0, .ref (ad G 33), .ref (ad G 42), .ref (ad G 51), .ref (ad G 54), .ref (ad G 57), .ref (ad G 60), .ref (ad G 63), .ref (ad G 66)]) :: .inr (7, [.int 0, .int 0, .int (-1), .int 0, .int 0, .ref (ad G (1 + 1)), .int 0, .int 0, .int 0]) :: .inl (gA G 0, 500, .inl (fun _ => 0)) :: .inl (gA G 2, 6, .inr (.inr (.inr (.inr (svB G 3))))) :: .inl (gA G 3, 6, .inr (.inr (.inr (.inr (svW G 0))))) :: tl_X11_19 G) (c_X0_init G 121) (congrArg (fun z => 0 + z) (congrArg Nat.succ (congrArg Nat.succ (congrArg Nat.succ (congrArg Nat.succ (congrArg Nat.succ (tl_X11_18_len G))))))) rfl rfl rfl kc_yX0_init rfl kn_ThumbBook_Book (List.mem_of_getElem? (i := 2) rfl) ki_yX0_init rfl ⟨by decide, by decide, by decide +kernel⟩ (by decide) (by decide) (Nat.le_of_ble_eq_true rfl) (by decide) (by decide) dX11_init_204 ?_
  refine m_aast (t0 := 2) (k1 := 3) (k2 := 121) (ci := 0) (q0 := (RX0, TX0, 19)) (l' := .inr (11, [.ref (ad G 1), .ref (ad G 3), .ref (ad G 4), .ref (ad G 5), .ref (ad G 6), .ref (ad G 24), .ref (ad G 27), .ref (ad G 28), .ref (ad G 31), .ref (ad G 32), .int 0, .ref (ad G 33), .ref (ad G 42), .ref (ad G 51), .ref (ad G 54), .ref (ad G 57), .ref (ad G 60), .ref (ad G 63), .ref (ad G 66)]) :: .inr (7, [.int 0, .int 0, .int (-1), .int 0, .int 0, .ref (ad G (1 + 1)), .int 0, .int 0, .int 0]) :: .inl (gA G 0, 500, .inl (fun _ => 0)) :: .inl (gA G 2, 6, .inr (.inr (.inr (.inr (svB G 4))))) :: .inl (gA G 3, 6, .inr (.inr (.inr (.inr (svW G 0))))) :: tl_X11_19 G) rfl rfl rfl rfl (hd_at5 (tl_X11_18_len G) (blk_hd_X0 G 121)) rfl (ib_in (by decide)) (by rw [show Int32.toNatClampNeg 3 = 3 from by decide]; rfl) dX11_init_207 ?_
  refine m_iinc (v := 4) (lv' := [(1, .int 4), (0, .ref (ad G 0))]) 0 dX11_init_208 rfl (by decide) (by decide) rfl ?_
  refine m_goto 189 dX11_init_211 (by decide) ?_
  refine m_iload_n 0 dX11_init_189 rfl ?_
  refine m_bipush 6 dX11_init_190 (by decide) ?_
  refine m_icmp_ge 214 dX11_init_192 (by decide) (fun z => absurd z (by decide)) (fun z => ?_)
  refine m_aload_n 1 dX11_init_195 rfl ?_
  refine m_get (k0 := 1) (k1 := 0) rfl rfl ku_11 rfl (by decide) rfl kf_RX11_18 rfl rfl dX11_init_196 ?_
  refine m_iload_n 0 dX11_init_199 rfl ?_
  refine m_new (k1 := 139) (r := 139) (l' := (.inr (11, [.ref (ad G 1), .ref (ad G 3), .ref (ad G 4), .ref (ad G 5), .ref (ad G 6), .ref (ad G 24), .ref (ad G 27), .ref (ad G 28), .ref (ad G 31), .ref (ad G 32), .int 0, .ref (ad G 33), .ref (ad G 42), .ref (ad G 51), .ref (ad G 54), .ref (ad G 57), .ref (ad G 60), .ref (ad G 63), .ref (ad G 66)]) :: .inr (7, [.int 0, .int 0, .int (-1), .int 0, .int 0, .ref (ad G (1 + 1)), .int 0, .int 0, .int 0]) :: .inl (gA G 0, 500, .inl (fun _ => 0)) :: .inl (gA G 2, 6, .inr (.inr (.inr (.inr (svB G 4))))) :: .inl (gA G 3, 6, .inr (.inr (.inr (.inr (svW G 0))))) :: tl_X11_19 G) ++ [fr_X0]) tyX0 rfl rfl ku_0 tyX0_ok rfl kl_RX11_16 kx_ThumbBook_Book kn_ThumbBook_Book df_X0 (by decide) (by decide) (congrArg Nat.succ (congrArg Nat.succ (congrArg Nat.succ (congrArg Nat.succ (congrArg Nat.succ (tl_X11_19_len G)))))) rfl dX11_init_200 ?_
  refine m_dup dX11_init_203 rfl ?_
  refine m_callIN (l1 := .inr (11, [.ref (ad G 1), .ref (ad G 3), .ref (ad G 4), .ref (ad G 5), .ref (ad G 6), .ref (ad G 24), .ref (ad G 27), .ref (ad G 28), .ref (ad G 31), .ref (ad G 32), .int 0, .ref (ad G 33), .ref (ad G 42), .ref (ad G 51), .ref (ad G 54), .ref (ad G 57), .ref (ad G 60), .ref (ad G 63), .ref (ad G 66)]) :: .inr (7, [.int 0, .int 0, .int (-1), .int 0, .int 0, .ref (ad G (1 + 1)), .int 0, .int 0, .int 0]) :: .inl (gA G 0, 500, .inl (fun _ => 0)) :: .inl (gA G 2, 6, .inr (.inr (.inr (.inr (svB G 4))))) :: .inl (gA G 3, 6, .inr (.inr (.inr (.inr (svW G 0))))) :: tl_X11_19 G) (l' := .inr (11, [.ref (ad G 1), .ref (ad G 3), .ref (ad G 4), .ref (ad G 5), .ref (ad G 6), .ref (ad G 24), .ref (ad G 27), .ref (ad G 28), .ref (ad G 31), .ref (ad G 32), .int 0, .ref (ad G 33), .ref (ad G 42), .ref (ad G 51), .ref (ad G 54), .ref (ad G 57), .ref (ad G 60), .ref (ad G 63), .ref (ad G 66)]) :: .inr (7, [.int 0, .int 0, .int (-1), .int 0, .int 0, .ref (ad G (1 + 1)), .int 0, .int 0, .int 0]) :: .inl (gA G 0, 500, .inl (fun _ => 0)) :: .inl (gA G 2, 6, .inr (.inr (.inr (.inr (svB G 4))))) :: .inl (gA G 3, 6, .inr (.inr (.inr (.inr (svW G 0))))) :: tl_X11_20 G) (c_X0_init G 139) (congrArg (fun z => 0 + z) (congrArg Nat.succ (congrArg Nat.succ (congrArg Nat.succ (congrArg Nat.succ (congrArg Nat.succ (tl_X11_19_len G))))))) rfl rfl rfl kc_yX0_init rfl kn_ThumbBook_Book (List.mem_of_getElem? (i := 2) rfl) ki_yX0_init rfl ⟨by decide, by decide, by decide +kernel⟩ (by decide) (by decide) (Nat.le_of_ble_eq_true rfl) (by decide) (by decide) dX11_init_204 ?_
  refine m_aast (t0 := 2) (k1 := 3) (k2 := 139) (ci := 0) (q0 := (RX0, TX0, 19)) (l' := .inr (11, [.ref (ad G 1), .ref (ad G 3), .ref (ad G 4), .ref (ad G 5), .ref (ad G 6), .ref (ad G 24), .ref (ad G 27), .ref (ad G 28), .ref (ad G 31), .ref (ad G 32), .int 0, .ref (ad G 33), .ref (ad G 42), .ref (ad G 51), .ref (ad G 54), .ref (ad G 57), .ref (ad G 60), .ref (ad G 63), .ref (ad G 66)]) :: .inr (7, [.int 0, .int 0, .int (-1), .int 0, .int 0, .ref (ad G (1 + 1)), .int 0, .int 0, .int 0]) :: .inl (gA G 0, 500, .inl (fun _ => 0)) :: .inl (gA G 2, 6, .inr (.inr (.inr (.inr (svB G 5))))) :: .inl (gA G 3, 6, .inr (.inr (.inr (.inr (svW G 0))))) :: tl_X11_20 G) rfl rfl rfl rfl (hd_at5 (tl_X11_19_len G) (blk_hd_X0 G 139)) rfl (ib_in (by decide)) (by rw [show Int32.toNatClampNeg 4 = 4 from by decide]; rfl) dX11_init_207 ?_
  refine m_iinc (v := 5) (lv' := [(1, .int 5), (0, .ref (ad G 0))]) 0 dX11_init_208 rfl (by decide) (by decide) rfl ?_
  refine m_goto 189 dX11_init_211 (by decide) ?_
  refine m_iload_n 0 dX11_init_189 rfl ?_
  refine m_bipush 6 dX11_init_190 (by decide) ?_
  refine m_icmp_ge 214 dX11_init_192 (by decide) (fun z => absurd z (by decide)) (fun z => ?_)
  refine m_aload_n 1 dX11_init_195 rfl ?_
  refine m_get (k0 := 1) (k1 := 0) rfl rfl ku_11 rfl (by decide) rfl kf_RX11_18 rfl rfl dX11_init_196 ?_
  refine m_iload_n 0 dX11_init_199 rfl ?_
  refine m_new (k1 := 157) (r := 157) (l' := (.inr (11, [.ref (ad G 1), .ref (ad G 3), .ref (ad G 4), .ref (ad G 5), .ref (ad G 6), .ref (ad G 24), .ref (ad G 27), .ref (ad G 28), .ref (ad G 31), .ref (ad G 32), .int 0, .ref (ad G 33), .ref (ad G 42), .ref (ad G 51), .ref (ad G 54), .ref (ad G 57), .ref (ad G 60), .ref (ad G 63), .ref (ad G 66)]) :: .inr (7, [.int 0, .int 0, .int (-1), .int 0, .int 0, .ref (ad G (1 + 1)), .int 0, .int 0, .int 0]) :: .inl (gA G 0, 500, .inl (fun _ => 0)) :: .inl (gA G 2, 6, .inr (.inr (.inr (.inr (svB G 5))))) :: .inl (gA G 3, 6, .inr (.inr (.inr (.inr (svW G 0))))) :: tl_X11_20 G) ++ [fr_X0]) tyX0 rfl rfl ku_0 tyX0_ok rfl kl_RX11_16 kx_ThumbBook_Book kn_ThumbBook_Book df_X0 (by decide) (by decide) (congrArg Nat.succ (congrArg Nat.succ (congrArg Nat.succ (congrArg Nat.succ (congrArg Nat.succ (tl_X11_20_len G)))))) rfl dX11_init_200 ?_
  refine m_dup dX11_init_203 rfl ?_
  refine m_callIN (l1 := .inr (11, [.ref (ad G 1), .ref (ad G 3), .ref (ad G 4), .ref (ad G 5), .ref (ad G 6), .ref (ad G 24), .ref (ad G 27), .ref (ad G 28), .ref (ad G 31), .ref (ad G 32), .int 0, .ref (ad G 33), .ref (ad G 42), .ref (ad G 51), .ref (ad G 54), .ref (ad G 57), .ref (ad G 60), .ref (ad G 63), .ref (ad G 66)]) :: .inr (7, [.int 0, .int 0, .int (-1), .int 0, .int 0, .ref (ad G (1 + 1)), .int 0, .int 0, .int 0]) :: .inl (gA G 0, 500, .inl (fun _ => 0)) :: .inl (gA G 2, 6, .inr (.inr (.inr (.inr (svB G 5))))) :: .inl (gA G 3, 6, .inr (.inr (.inr (.inr (svW G 0))))) :: tl_X11_20 G) (l' := .inr (11, [.ref (ad G 1), .ref (ad G 3), .ref (ad G 4), .ref (ad G 5), .ref (ad G 6), .ref (ad G 24), .ref (ad G 27), .ref (ad G 28), .ref (ad G 31), .ref (ad G 32), .int 0, .ref (ad G 33), .ref (ad G 42), .ref (ad G 51), .ref (ad G 54), .ref (ad G 57), .ref (ad G 60), .ref (ad G 63), .ref (ad G 66)]) :: .inr (7, [.int 0, .int 0, .int (-1), .int 0, .int 0, .ref (ad G (1 + 1)), .int 0, .int 0, .int 0]) :: .inl (gA G 0, 500, .inl (fun _ => 0)) :: .inl (gA G 2, 6, .inr (.inr (.inr (.inr (svB G 5))))) :: .inl (gA G 3, 6, .inr (.inr (.inr (.inr (svW G 0))))) :: tl_X11_21 G) (c_X0_init G 157) (congrArg (fun z => 0 + z) (congrArg Nat.succ (congrArg Nat.succ (congrArg Nat.succ (congrArg Nat.succ (congrArg Nat.succ (tl_X11_20_len G))))))) rfl rfl rfl kc_yX0_init rfl kn_ThumbBook_Book (List.mem_of_getElem? (i := 2) rfl) ki_yX0_init rfl ⟨by decide, by decide, by decide +kernel⟩ (by decide) (by decide) (Nat.le_of_ble_eq_true rfl) (by decide) (by decide) dX11_init_204 ?_
  refine m_aast (t0 := 2) (k1 := 3) (k2 := 157) (ci := 0) (q0 := (RX0, TX0, 19)) (l' := .inr (11, [.ref (ad G 1), .ref (ad G 3), .ref (ad G 4), .ref (ad G 5), .ref (ad G 6), .ref (ad G 24), .ref (ad G 27), .ref (ad G 28), .ref (ad G 31), .ref (ad G 32), .int 0, .ref (ad G 33), .ref (ad G 42), .ref (ad G 51), .ref (ad G 54), .ref (ad G 57), .ref (ad G 60), .ref (ad G 63), .ref (ad G 66)]) :: .inr (7, [.int 0, .int 0, .int (-1), .int 0, .int 0, .ref (ad G (1 + 1)), .int 0, .int 0, .int 0]) :: .inl (gA G 0, 500, .inl (fun _ => 0)) :: .inl (gA G 2, 6, .inr (.inr (.inr (.inr (svB G 6))))) :: .inl (gA G 3, 6, .inr (.inr (.inr (.inr (svW G 0))))) :: tl_X11_21 G) rfl rfl rfl rfl (hd_at5 (tl_X11_20_len G) (blk_hd_X0 G 157)) rfl (ib_in (by decide)) (by rw [show Int32.toNatClampNeg 5 = 5 from by decide]; rfl) dX11_init_207 ?_
  refine m_iinc (v := 6) (lv' := [(1, .int 6), (0, .ref (ad G 0))]) 0 dX11_init_208 rfl (by decide) (by decide) rfl ?_
  refine m_goto 189 dX11_init_211 (by decide) ?_
  refine m_iload_n 0 dX11_init_189 rfl ?_
  refine m_bipush 6 dX11_init_190 (by decide) ?_
  refine m_icmp_ge 214 dX11_init_192 (by decide) (fun z => ?_) (fun z => absurd z (by decide))
  refine m_iconst 0 dX11_init_214 (by decide) ?_
  refine m_istore_n (lv' := [(1, .int 0), (0, .ref (ad G 0))]) dX11_init_215 (by decide) rfl ?_
  refine m_iload_n 0 dX11_init_216 rfl ?_
  refine m_bipush 6 dX11_init_217 (by decide) ?_
  refine m_icmp_ge 241 dX11_init_219 (by decide) (fun z => absurd z (by decide)) (fun z => ?_)
  refine m_aload_n 1 dX11_init_222 rfl ?_
  refine m_get (k0 := 2) (k1 := 0) rfl rfl ku_11 rfl (by decide) rfl kf_RX11_24 rfl rfl dX11_init_223 ?_
  refine m_iload_n 0 dX11_init_226 rfl ?_
  refine m_new (k1 := 175) (r := 175) (l' := (.inr (11, [.ref (ad G 1), .ref (ad G 3), .ref (ad G 4), .ref (ad G 5), .ref (ad G 6), .ref (ad G 24), .ref (ad G 27), .ref (ad G 28), .ref (ad G 31), .ref (ad G 32), .int 0, .ref (ad G 33), .ref (ad G 42), .ref (ad G 51), .ref (ad G 54), .ref (ad G 57), .ref (ad G 60), .ref (ad G 63), .ref (ad G 66)]) :: .inr (7, [.int 0, .int 0, .int (-1), .int 0, .int 0, .ref (ad G (1 + 1)), .int 0, .int 0, .int 0]) :: .inl (gA G 0, 500, .inl (fun _ => 0)) :: .inl (gA G 2, 6, .inr (.inr (.inr (.inr (svB G 6))))) :: .inl (gA G 3, 6, .inr (.inr (.inr (.inr (svW G 0))))) :: tl_X11_21 G) ++ [fr_X10]) tyX10 rfl rfl ku_10 tyX10_ok rfl kl_RX11_22 kx_ThumbBook_Way kn_ThumbBook_Way df_X10 (by decide) (by decide) (congrArg Nat.succ (congrArg Nat.succ (congrArg Nat.succ (congrArg Nat.succ (congrArg Nat.succ (tl_X11_21_len G)))))) rfl dX11_init_227 ?_
  refine m_dup dX11_init_230 rfl ?_
  refine m_callIN (l1 := .inr (11, [.ref (ad G 1), .ref (ad G 3), .ref (ad G 4), .ref (ad G 5), .ref (ad G 6), .ref (ad G 24), .ref (ad G 27), .ref (ad G 28), .ref (ad G 31), .ref (ad G 32), .int 0, .ref (ad G 33), .ref (ad G 42), .ref (ad G 51), .ref (ad G 54), .ref (ad G 57), .ref (ad G 60), .ref (ad G 63), .ref (ad G 66)]) :: .inr (7, [.int 0, .int 0, .int (-1), .int 0, .int 0, .ref (ad G (1 + 1)), .int 0, .int 0, .int 0]) :: .inl (gA G 0, 500, .inl (fun _ => 0)) :: .inl (gA G 2, 6, .inr (.inr (.inr (.inr (svB G 6))))) :: .inl (gA G 3, 6, .inr (.inr (.inr (.inr (svW G 0))))) :: tl_X11_21 G) (l' := .inr (11, [.ref (ad G 1), .ref (ad G 3), .ref (ad G 4), .ref (ad G 5), .ref (ad G 6), .ref (ad G 24), .ref (ad G 27), .ref (ad G 28), .ref (ad G 31), .ref (ad G 32), .int 0, .ref (ad G 33), .ref (ad G 42), .ref (ad G 51), .ref (ad G 54), .ref (ad G 57), .ref (ad G 60), .ref (ad G 63), .ref (ad G 66)]) :: .inr (7, [.int 0, .int 0, .int (-1), .int 0, .int 0, .ref (ad G (1 + 1)), .int 0, .int 0, .int 0]) :: .inl (gA G 0, 500, .inl (fun _ => 0)) :: .inl (gA G 2, 6, .inr (.inr (.inr (.inr (svB G 6))))) :: .inl (gA G 3, 6, .inr (.inr (.inr (.inr (svW G 0))))) :: tl_X11_22 G) (c_X10_init G 175) (congrArg (fun z => 0 + z) (congrArg Nat.succ (congrArg Nat.succ (congrArg Nat.succ (congrArg Nat.succ (congrArg Nat.succ (tl_X11_21_len G))))))) rfl rfl rfl kc_yX10_init rfl kn_ThumbBook_Way (List.mem_of_getElem? (i := 3) rfl) ki_yX10_init rfl ⟨by decide, by decide, by decide +kernel⟩ (by decide) (by decide) (Nat.le_of_ble_eq_true rfl) (by decide) (by decide) dX11_init_231 ?_
  refine m_aast (t0 := 3) (k1 := 4) (k2 := 175) (ci := 10) (q0 := (RX10, TX10, 2)) (l' := .inr (11, [.ref (ad G 1), .ref (ad G 3), .ref (ad G 4), .ref (ad G 5), .ref (ad G 6), .ref (ad G 24), .ref (ad G 27), .ref (ad G 28), .ref (ad G 31), .ref (ad G 32), .int 0, .ref (ad G 33), .ref (ad G 42), .ref (ad G 51), .ref (ad G 54), .ref (ad G 57), .ref (ad G 60), .ref (ad G 63), .ref (ad G 66)]) :: .inr (7, [.int 0, .int 0, .int (-1), .int 0, .int 0, .ref (ad G (1 + 1)), .int 0, .int 0, .int 0]) :: .inl (gA G 0, 500, .inl (fun _ => 0)) :: .inl (gA G 2, 6, .inr (.inr (.inr (.inr (svB G 6))))) :: .inl (gA G 3, 6, .inr (.inr (.inr (.inr (svW G 1))))) :: tl_X11_22 G) rfl rfl rfl rfl (hd_at5 (tl_X11_21_len G) (blk_hd_X10 G 175)) rfl (ib_in (by decide)) (by rw [show Int32.toNatClampNeg 0 = 0 from by decide]; rfl) dX11_init_234 ?_
  refine m_iinc (v := 1) (lv' := [(1, .int 1), (0, .ref (ad G 0))]) 0 dX11_init_235 rfl (by decide) (by decide) rfl ?_
  refine m_goto 216 dX11_init_238 (by decide) ?_
  refine m_iload_n 0 dX11_init_216 rfl ?_
  refine m_bipush 6 dX11_init_217 (by decide) ?_
  refine m_icmp_ge 241 dX11_init_219 (by decide) (fun z => absurd z (by decide)) (fun z => ?_)
  refine m_aload_n 1 dX11_init_222 rfl ?_
  refine m_get (k0 := 2) (k1 := 0) rfl rfl ku_11 rfl (by decide) rfl kf_RX11_24 rfl rfl dX11_init_223 ?_
  refine m_iload_n 0 dX11_init_226 rfl ?_
  refine m_new (k1 := 178) (r := 178) (l' := (.inr (11, [.ref (ad G 1), .ref (ad G 3), .ref (ad G 4), .ref (ad G 5), .ref (ad G 6), .ref (ad G 24), .ref (ad G 27), .ref (ad G 28), .ref (ad G 31), .ref (ad G 32), .int 0, .ref (ad G 33), .ref (ad G 42), .ref (ad G 51), .ref (ad G 54), .ref (ad G 57), .ref (ad G 60), .ref (ad G 63), .ref (ad G 66)]) :: .inr (7, [.int 0, .int 0, .int (-1), .int 0, .int 0, .ref (ad G (1 + 1)), .int 0, .int 0, .int 0]) :: .inl (gA G 0, 500, .inl (fun _ => 0)) :: .inl (gA G 2, 6, .inr (.inr (.inr (.inr (svB G 6))))) :: .inl (gA G 3, 6, .inr (.inr (.inr (.inr (svW G 1))))) :: tl_X11_22 G) ++ [fr_X10]) tyX10 rfl rfl ku_10 tyX10_ok rfl kl_RX11_22 kx_ThumbBook_Way kn_ThumbBook_Way df_X10 (by decide) (by decide) (congrArg Nat.succ (congrArg Nat.succ (congrArg Nat.succ (congrArg Nat.succ (congrArg Nat.succ (tl_X11_22_len G)))))) rfl dX11_init_227 ?_
  refine m_dup dX11_init_230 rfl ?_
  refine m_callIN (l1 := .inr (11, [.ref (ad G 1), .ref (ad G 3), .ref (ad G 4), .ref (ad G 5), .ref (ad G 6), .ref (ad G 24), .ref (ad G 27), .ref (ad G 28), .ref (ad G 31), .ref (ad G 32), .int 0, .ref (ad G 33), .ref (ad G 42), .ref (ad G 51), .ref (ad G 54), .ref (ad G 57), .ref (ad G 60), .ref (ad G 63), .ref (ad G 66)]) :: .inr (7, [.int 0, .int 0, .int (-1), .int 0, .int 0, .ref (ad G (1 + 1)), .int 0, .int 0, .int 0]) :: .inl (gA G 0, 500, .inl (fun _ => 0)) :: .inl (gA G 2, 6, .inr (.inr (.inr (.inr (svB G 6))))) :: .inl (gA G 3, 6, .inr (.inr (.inr (.inr (svW G 1))))) :: tl_X11_22 G) (l' := .inr (11, [.ref (ad G 1), .ref (ad G 3), .ref (ad G 4), .ref (ad G 5), .ref (ad G 6), .ref (ad G 24), .ref (ad G 27), .ref (ad G 28), .ref (ad G 31), .ref (ad G 32), .int 0, .ref (ad G 33), .ref (ad G 42), .ref (ad G 51), .ref (ad G 54), .ref (ad G 57), .ref (ad G 60), .ref (ad G 63), .ref (ad G 66)]) :: .inr (7, [.int 0, .int 0, .int (-1), .int 0, .int 0, .ref (ad G (1 + 1)), .int 0, .int 0, .int 0]) :: .inl (gA G 0, 500, .inl (fun _ => 0)) :: .inl (gA G 2, 6, .inr (.inr (.inr (.inr (svB G 6))))) :: .inl (gA G 3, 6, .inr (.inr (.inr (.inr (svW G 1))))) :: tl_X11_23 G) (c_X10_init G 178) (congrArg (fun z => 0 + z) (congrArg Nat.succ (congrArg Nat.succ (congrArg Nat.succ (congrArg Nat.succ (congrArg Nat.succ (tl_X11_22_len G))))))) rfl rfl rfl kc_yX10_init rfl kn_ThumbBook_Way (List.mem_of_getElem? (i := 3) rfl) ki_yX10_init rfl ⟨by decide, by decide, by decide +kernel⟩ (by decide) (by decide) (Nat.le_of_ble_eq_true rfl) (by decide) (by decide) dX11_init_231 ?_
  refine m_aast (t0 := 3) (k1 := 4) (k2 := 178) (ci := 10) (q0 := (RX10, TX10, 2)) (l' := .inr (11, [.ref (ad G 1), .ref (ad G 3), .ref (ad G 4), .ref (ad G 5), .ref (ad G 6), .ref (ad G 24), .ref (ad G 27), .ref (ad G 28), .ref (ad G 31), .ref (ad G 32), .int 0, .ref (ad G 33), .ref (ad G 42), .ref (ad G 51), .ref (ad G 54), .ref (ad G 57), .ref (ad G 60), .ref (ad G 63), .ref (ad G 66)]) :: .inr (7, [.int 0, .int 0, .int (-1), .int 0, .int 0, .ref (ad G (1 + 1)), .int 0, .int 0, .int 0]) :: .inl (gA G 0, 500, .inl (fun _ => 0)) :: .inl (gA G 2, 6, .inr (.inr (.inr (.inr (svB G 6))))) :: .inl (gA G 3, 6, .inr (.inr (.inr (.inr (svW G 2))))) :: tl_X11_23 G) rfl rfl rfl rfl (hd_at5 (tl_X11_22_len G) (blk_hd_X10 G 178)) rfl (ib_in (by decide)) (by rw [show Int32.toNatClampNeg 1 = 1 from by decide]; rfl) dX11_init_234 ?_
  refine m_iinc (v := 2) (lv' := [(1, .int 2), (0, .ref (ad G 0))]) 0 dX11_init_235 rfl (by decide) (by decide) rfl ?_
  refine m_goto 216 dX11_init_238 (by decide) ?_
  refine m_iload_n 0 dX11_init_216 rfl ?_
  refine m_bipush 6 dX11_init_217 (by decide) ?_
  refine m_icmp_ge 241 dX11_init_219 (by decide) (fun z => absurd z (by decide)) (fun z => ?_)
  refine m_aload_n 1 dX11_init_222 rfl ?_
  refine m_get (k0 := 2) (k1 := 0) rfl rfl ku_11 rfl (by decide) rfl kf_RX11_24 rfl rfl dX11_init_223 ?_
  refine m_iload_n 0 dX11_init_226 rfl ?_
  refine m_new (k1 := 181) (r := 181) (l' := (.inr (11, [.ref (ad G 1), .ref (ad G 3), .ref (ad G 4), .ref (ad G 5), .ref (ad G 6), .ref (ad G 24), .ref (ad G 27), .ref (ad G 28), .ref (ad G 31), .ref (ad G 32), .int 0, .ref (ad G 33), .ref (ad G 42), .ref (ad G 51), .ref (ad G 54), .ref (ad G 57), .ref (ad G 60), .ref (ad G 63), .ref (ad G 66)]) :: .inr (7, [.int 0, .int 0, .int (-1), .int 0, .int 0, .ref (ad G (1 + 1)), .int 0, .int 0, .int 0]) :: .inl (gA G 0, 500, .inl (fun _ => 0)) :: .inl (gA G 2, 6, .inr (.inr (.inr (.inr (svB G 6))))) :: .inl (gA G 3, 6, .inr (.inr (.inr (.inr (svW G 2))))) :: tl_X11_23 G) ++ [fr_X10]) tyX10 rfl rfl ku_10 tyX10_ok rfl kl_RX11_22 kx_ThumbBook_Way kn_ThumbBook_Way df_X10 (by decide) (by decide) (congrArg Nat.succ (congrArg Nat.succ (congrArg Nat.succ (congrArg Nat.succ (congrArg Nat.succ (tl_X11_23_len G)))))) rfl dX11_init_227 ?_
  refine m_dup dX11_init_230 rfl ?_
  refine m_callIN (l1 := .inr (11, [.ref (ad G 1), .ref (ad G 3), .ref (ad G 4), .ref (ad G 5), .ref (ad G 6), .ref (ad G 24), .ref (ad G 27), .ref (ad G 28), .ref (ad G 31), .ref (ad G 32), .int 0, .ref (ad G 33), .ref (ad G 42), .ref (ad G 51), .ref (ad G 54), .ref (ad G 57), .ref (ad G 60), .ref (ad G 63), .ref (ad G 66)]) :: .inr (7, [.int 0, .int 0, .int (-1), .int 0, .int 0, .ref (ad G (1 + 1)), .int 0, .int 0, .int 0]) :: .inl (gA G 0, 500, .inl (fun _ => 0)) :: .inl (gA G 2, 6, .inr (.inr (.inr (.inr (svB G 6))))) :: .inl (gA G 3, 6, .inr (.inr (.inr (.inr (svW G 2))))) :: tl_X11_23 G) (l' := .inr (11, [.ref (ad G 1), .ref (ad G 3), .ref (ad G 4), .ref (ad G 5), .ref (ad G 6), .ref (ad G 24), .ref (ad G 27), .ref (ad G 28), .ref (ad G 31), .ref (ad G 32), .int 0, .ref (ad G 33), .ref (ad G 42), .ref (ad G 51), .ref (ad G 54), .ref (ad G 57), .ref (ad G 60), .ref (ad G 63), .ref (ad G 66)]) :: .inr (7, [.int 0, .int 0, .int (-1), .int 0, .int 0, .ref (ad G (1 + 1)), .int 0, .int 0, .int 0]) :: .inl (gA G 0, 500, .inl (fun _ => 0)) :: .inl (gA G 2, 6, .inr (.inr (.inr (.inr (svB G 6))))) :: .inl (gA G 3, 6, .inr (.inr (.inr (.inr (svW G 2))))) :: tl_X11_24 G) (c_X10_init G 181) (congrArg (fun z => 0 + z) (congrArg Nat.succ (congrArg Nat.succ (congrArg Nat.succ (congrArg Nat.succ (congrArg Nat.succ (tl_X11_23_len G))))))) rfl rfl rfl kc_yX10_init rfl kn_ThumbBook_Way (List.mem_of_getElem? (i := 3) rfl) ki_yX10_init rfl ⟨by decide, by decide, by decide +kernel⟩ (by decide) (by decide) (Nat.le_of_ble_eq_true rfl) (by decide) (by decide) dX11_init_231 ?_
  refine m_aast (t0 := 3) (k1 := 4) (k2 := 181) (ci := 10) (q0 := (RX10, TX10, 2)) (l' := .inr (11, [.ref (ad G 1), .ref (ad G 3), .ref (ad G 4), .ref (ad G 5), .ref (ad G 6), .ref (ad G 24), .ref (ad G 27), .ref (ad G 28), .ref (ad G 31), .ref (ad G 32), .int 0, .ref (ad G 33), .ref (ad G 42), .ref (ad G 51), .ref (ad G 54), .ref (ad G 57), .ref (ad G 60), .ref (ad G 63), .ref (ad G 66)]) :: .inr (7, [.int 0, .int 0, .int (-1), .int 0, .int 0, .ref (ad G (1 + 1)), .int 0, .int 0, .int 0]) :: .inl (gA G 0, 500, .inl (fun _ => 0)) :: .inl (gA G 2, 6, .inr (.inr (.inr (.inr (svB G 6))))) :: .inl (gA G 3, 6, .inr (.inr (.inr (.inr (svW G 3))))) :: tl_X11_24 G) rfl rfl rfl rfl (hd_at5 (tl_X11_23_len G) (blk_hd_X10 G 181)) rfl (ib_in (by decide)) (by rw [show Int32.toNatClampNeg 2 = 2 from by decide]; rfl) dX11_init_234 ?_
  refine m_iinc (v := 3) (lv' := [(1, .int 3), (0, .ref (ad G 0))]) 0 dX11_init_235 rfl (by decide) (by decide) rfl ?_
  refine m_goto 216 dX11_init_238 (by decide) ?_
  refine m_iload_n 0 dX11_init_216 rfl ?_
  refine m_bipush 6 dX11_init_217 (by decide) ?_
  refine m_icmp_ge 241 dX11_init_219 (by decide) (fun z => absurd z (by decide)) (fun z => ?_)
  refine m_aload_n 1 dX11_init_222 rfl ?_
  refine m_get (k0 := 2) (k1 := 0) rfl rfl ku_11 rfl (by decide) rfl kf_RX11_24 rfl rfl dX11_init_223 ?_
  refine m_iload_n 0 dX11_init_226 rfl ?_
  refine m_new (k1 := 184) (r := 184) (l' := (.inr (11, [.ref (ad G 1), .ref (ad G 3), .ref (ad G 4), .ref (ad G 5), .ref (ad G 6), .ref (ad G 24), .ref (ad G 27), .ref (ad G 28), .ref (ad G 31), .ref (ad G 32), .int 0, .ref (ad G 33), .ref (ad G 42), .ref (ad G 51), .ref (ad G 54), .ref (ad G 57), .ref (ad G 60), .ref (ad G 63), .ref (ad G 66)]) :: .inr (7, [.int 0, .int 0, .int (-1), .int 0, .int 0, .ref (ad G (1 + 1)), .int 0, .int 0, .int 0]) :: .inl (gA G 0, 500, .inl (fun _ => 0)) :: .inl (gA G 2, 6, .inr (.inr (.inr (.inr (svB G 6))))) :: .inl (gA G 3, 6, .inr (.inr (.inr (.inr (svW G 3))))) :: tl_X11_24 G) ++ [fr_X10]) tyX10 rfl rfl ku_10 tyX10_ok rfl kl_RX11_22 kx_ThumbBook_Way kn_ThumbBook_Way df_X10 (by decide) (by decide) (congrArg Nat.succ (congrArg Nat.succ (congrArg Nat.succ (congrArg Nat.succ (congrArg Nat.succ (tl_X11_24_len G)))))) rfl dX11_init_227 ?_
  refine m_dup dX11_init_230 rfl ?_
  refine m_callIN (l1 := .inr (11, [.ref (ad G 1), .ref (ad G 3), .ref (ad G 4), .ref (ad G 5), .ref (ad G 6), .ref (ad G 24), .ref (ad G 27), .ref (ad G 28), .ref (ad G 31), .ref (ad G 32), .int 0, .ref (ad G 33), .ref (ad G 42), .ref (ad G 51), .ref (ad G 54), .ref (ad G 57), .ref (ad G 60), .ref (ad G 63), .ref (ad G 66)]) :: .inr (7, [.int 0, .int 0, .int (-1), .int 0, .int 0, .ref (ad G (1 + 1)), .int 0, .int 0, .int 0]) :: .inl (gA G 0, 500, .inl (fun _ => 0)) :: .inl (gA G 2, 6, .inr (.inr (.inr (.inr (svB G 6))))) :: .inl (gA G 3, 6, .inr (.inr (.inr (.inr (svW G 3))))) :: tl_X11_24 G) (l' := .inr (11, [.ref (ad G 1), .ref (ad G 3), .ref (ad G 4), .ref (ad G 5), .ref (ad G 6), .ref (ad G 24), .ref (ad G 27), .ref (ad G 28), .ref (ad G 31), .ref (ad G 32), .int 0, .ref (ad G 33), .ref (ad G 42), .ref (ad G 51), .ref (ad G 54), .ref (ad G 57), .ref (ad G 60), .ref (ad G 63), .ref (ad G 66)]) :: .inr (7, [.int 0, .int 0, .int (-1), .int 0, .int 0, .ref (ad G (1 + 1)), .int 0, .int 0, .int 0]) :: .inl (gA G 0, 500, .inl (fun _ => 0)) :: .inl (gA G 2, 6, .inr (.inr (.inr (.inr (svB G 6))))) :: .inl (gA G 3, 6, .inr (.inr (.inr (.inr (svW G 3))))) :: tl_X11_25 G) (c_X10_init G 184) (congrArg (fun z => 0 + z) (congrArg Nat.succ (congrArg Nat.succ (congrArg Nat.succ (congrArg Nat.succ (congrArg Nat.succ (tl_X11_24_len G))))))) rfl rfl rfl kc_yX10_init rfl kn_ThumbBook_Way (List.mem_of_getElem? (i := 3) rfl) ki_yX10_init rfl ⟨by decide, by decide, by decide +kernel⟩ (by decide) (by decide) (Nat.le_of_ble_eq_true rfl) (by decide) (by decide) dX11_init_231 ?_
  refine m_aast (t0 := 3) (k1 := 4) (k2 := 184) (ci := 10) (q0 := (RX10, TX10, 2)) (l' := .inr (11, [.ref (ad G 1), .ref (ad G 3), .ref (ad G 4), .ref (ad G 5), .ref (ad G 6), .ref (ad G 24), .ref (ad G 27), .ref (ad G 28), .ref (ad G 31), .ref (ad G 32), .int 0, .ref (ad G 33), .ref (ad G 42), .ref (ad G 51), .ref (ad G 54), .ref (ad G 57), .ref (ad G 60), .ref (ad G 63), .ref (ad G 66)]) :: .inr (7, [.int 0, .int 0, .int (-1), .int 0, .int 0, .ref (ad G (1 + 1)), .int 0, .int 0, .int 0]) :: .inl (gA G 0, 500, .inl (fun _ => 0)) :: .inl (gA G 2, 6, .inr (.inr (.inr (.inr (svB G 6))))) :: .inl (gA G 3, 6, .inr (.inr (.inr (.inr (svW G 4))))) :: tl_X11_25 G) rfl rfl rfl rfl (hd_at5 (tl_X11_24_len G) (blk_hd_X10 G 184)) rfl (ib_in (by decide)) (by rw [show Int32.toNatClampNeg 3 = 3 from by decide]; rfl) dX11_init_234 ?_
  refine m_iinc (v := 4) (lv' := [(1, .int 4), (0, .ref (ad G 0))]) 0 dX11_init_235 rfl (by decide) (by decide) rfl ?_
  refine m_goto 216 dX11_init_238 (by decide) ?_
  refine m_iload_n 0 dX11_init_216 rfl ?_
  refine m_bipush 6 dX11_init_217 (by decide) ?_
  refine m_icmp_ge 241 dX11_init_219 (by decide) (fun z => absurd z (by decide)) (fun z => ?_)
  refine m_aload_n 1 dX11_init_222 rfl ?_
  refine m_get (k0 := 2) (k1 := 0) rfl rfl ku_11 rfl (by decide) rfl kf_RX11_24 rfl rfl dX11_init_223 ?_
  refine m_iload_n 0 dX11_init_226 rfl ?_
  refine m_new (k1 := 187) (r := 187) (l' := (.inr (11, [.ref (ad G 1), .ref (ad G 3), .ref (ad G 4), .ref (ad G 5), .ref (ad G 6), .ref (ad G 24), .ref (ad G 27), .ref (ad G 28), .ref (ad G 31), .ref (ad G 32), .int 0, .ref (ad G 33), .ref (ad G 42), .ref (ad G 51), .ref (ad G 54), .ref (ad G 57), .ref (ad G 60), .ref (ad G 63), .ref (ad G 66)]) :: .inr (7, [.int 0, .int 0, .int (-1), .int 0, .int 0, .ref (ad G (1 + 1)), .int 0, .int 0, .int 0]) :: .inl (gA G 0, 500, .inl (fun _ => 0)) :: .inl (gA G 2, 6, .inr (.inr (.inr (.inr (svB G 6))))) :: .inl (gA G 3, 6, .inr (.inr (.inr (.inr (svW G 4))))) :: tl_X11_25 G) ++ [fr_X10]) tyX10 rfl rfl ku_10 tyX10_ok rfl kl_RX11_22 kx_ThumbBook_Way kn_ThumbBook_Way df_X10 (by decide) (by decide) (congrArg Nat.succ (congrArg Nat.succ (congrArg Nat.succ (congrArg Nat.succ (congrArg Nat.succ (tl_X11_25_len G)))))) rfl dX11_init_227 ?_
  refine m_dup dX11_init_230 rfl ?_
  refine m_callIN (l1 := .inr (11, [.ref (ad G 1), .ref (ad G 3), .ref (ad G 4), .ref (ad G 5), .ref (ad G 6), .ref (ad G 24), .ref (ad G 27), .ref (ad G 28), .ref (ad G 31), .ref (ad G 32), .int 0, .ref (ad G 33), .ref (ad G 42), .ref (ad G 51), .ref (ad G 54), .ref (ad G 57), .ref (ad G 60), .ref (ad G 63), .ref (ad G 66)]) :: .inr (7, [.int 0, .int 0, .int (-1), .int 0, .int 0, .ref (ad G (1 + 1)), .int 0, .int 0, .int 0]) :: .inl (gA G 0, 500, .inl (fun _ => 0)) :: .inl (gA G 2, 6, .inr (.inr (.inr (.inr (svB G 6))))) :: .inl (gA G 3, 6, .inr (.inr (.inr (.inr (svW G 4))))) :: tl_X11_25 G) (l' := .inr (11, [.ref (ad G 1), .ref (ad G 3), .ref (ad G 4), .ref (ad G 5), .ref (ad G 6), .ref (ad G 24), .ref (ad G 27), .ref (ad G 28), .ref (ad G 31), .ref (ad G 32), .int 0, .ref (ad G 33), .ref (ad G 42), .ref (ad G 51), .ref (ad G 54), .ref (ad G 57), .ref (ad G 60), .ref (ad G 63), .ref (ad G 66)]) :: .inr (7, [.int 0, .int 0, .int (-1), .int 0, .int 0, .ref (ad G (1 + 1)), .int 0, .int 0, .int 0]) :: .inl (gA G 0, 500, .inl (fun _ => 0)) :: .inl (gA G 2, 6, .inr (.inr (.inr (.inr (svB G 6))))) :: .inl (gA G 3, 6, .inr (.inr (.inr (.inr (svW G 4))))) :: tl_X11_26 G) (c_X10_init G 187) (congrArg (fun z => 0 + z) (congrArg Nat.succ (congrArg Nat.succ (congrArg Nat.succ (congrArg Nat.succ (congrArg Nat.succ (tl_X11_25_len G))))))) rfl rfl rfl kc_yX10_init rfl kn_ThumbBook_Way (List.mem_of_getElem? (i := 3) rfl) ki_yX10_init rfl ⟨by decide, by decide, by decide +kernel⟩ (by decide) (by decide) (Nat.le_of_ble_eq_true rfl) (by decide) (by decide) dX11_init_231 ?_
  refine m_aast (t0 := 3) (k1 := 4) (k2 := 187) (ci := 10) (q0 := (RX10, TX10, 2)) (l' := .inr (11, [.ref (ad G 1), .ref (ad G 3), .ref (ad G 4), .ref (ad G 5), .ref (ad G 6), .ref (ad G 24), .ref (ad G 27), .ref (ad G 28), .ref (ad G 31), .ref (ad G 32), .int 0, .ref (ad G 33), .ref (ad G 42), .ref (ad G 51), .ref (ad G 54), .ref (ad G 57), .ref (ad G 60), .ref (ad G 63), .ref (ad G 66)]) :: .inr (7, [.int 0, .int 0, .int (-1), .int 0, .int 0, .ref (ad G (1 + 1)), .int 0, .int 0, .int 0]) :: .inl (gA G 0, 500, .inl (fun _ => 0)) :: .inl (gA G 2, 6, .inr (.inr (.inr (.inr (svB G 6))))) :: .inl (gA G 3, 6, .inr (.inr (.inr (.inr (svW G 5))))) :: tl_X11_26 G) rfl rfl rfl rfl (hd_at5 (tl_X11_25_len G) (blk_hd_X10 G 187)) rfl (ib_in (by decide)) (by rw [show Int32.toNatClampNeg 4 = 4 from by decide]; rfl) dX11_init_234 ?_
  refine m_iinc (v := 5) (lv' := [(1, .int 5), (0, .ref (ad G 0))]) 0 dX11_init_235 rfl (by decide) (by decide) rfl ?_
  refine m_goto 216 dX11_init_238 (by decide) ?_
  refine m_iload_n 0 dX11_init_216 rfl ?_
  refine m_bipush 6 dX11_init_217 (by decide) ?_
  refine m_icmp_ge 241 dX11_init_219 (by decide) (fun z => absurd z (by decide)) (fun z => ?_)
  refine m_aload_n 1 dX11_init_222 rfl ?_
  refine m_get (k0 := 2) (k1 := 0) rfl rfl ku_11 rfl (by decide) rfl kf_RX11_24 rfl rfl dX11_init_223 ?_
  refine m_iload_n 0 dX11_init_226 rfl ?_
  refine m_new (k1 := 190) (r := 190) (l' := (.inr (11, [.ref (ad G 1), .ref (ad G 3), .ref (ad G 4), .ref (ad G 5), .ref (ad G 6), .ref (ad G 24), .ref (ad G 27), .ref (ad G 28), .ref (ad G 31), .ref (ad G 32), .int 0, .ref (ad G 33), .ref (ad G 42), .ref (ad G 51), .ref (ad G 54), .ref (ad G 57), .ref (ad G 60), .ref (ad G 63), .ref (ad G 66)]) :: .inr (7, [.int 0, .int 0, .int (-1), .int 0, .int 0, .ref (ad G (1 + 1)), .int 0, .int 0, .int 0]) :: .inl (gA G 0, 500, .inl (fun _ => 0)) :: .inl (gA G 2, 6, .inr (.inr (.inr (.inr (svB G 6))))) :: .inl (gA G 3, 6, .inr (.inr (.inr (.inr (svW G 5))))) :: tl_X11_26 G) ++ [fr_X10]) tyX10 rfl rfl ku_10 tyX10_ok rfl kl_RX11_22 kx_ThumbBook_Way kn_ThumbBook_Way df_X10 (by decide) (by decide) (congrArg Nat.succ (congrArg Nat.succ (congrArg Nat.succ (congrArg Nat.succ (congrArg Nat.succ (tl_X11_26_len G)))))) rfl dX11_init_227 ?_
  refine m_dup dX11_init_230 rfl ?_
  refine m_callIN (l1 := .inr (11, [.ref (ad G 1), .ref (ad G 3), .ref (ad G 4), .ref (ad G 5), .ref (ad G 6), .ref (ad G 24), .ref (ad G 27), .ref (ad G 28), .ref (ad G 31), .ref (ad G 32), .int 0, .ref (ad G 33), .ref (ad G 42), .ref (ad G 51), .ref (ad G 54), .ref (ad G 57), .ref (ad G 60), .ref (ad G 63), .ref (ad G 66)]) :: .inr (7, [.int 0, .int 0, .int (-1), .int 0, .int 0, .ref (ad G (1 + 1)), .int 0, .int 0, .int 0]) :: .inl (gA G 0, 500, .inl (fun _ => 0)) :: .inl (gA G 2, 6, .inr (.inr (.inr (.inr (svB G 6))))) :: .inl (gA G 3, 6, .inr (.inr (.inr (.inr (svW G 5))))) :: tl_X11_26 G) (l' := .inr (11, [.ref (ad G 1), .ref (ad G 3), .ref (ad G 4), .ref (ad G 5), .ref (ad G 6), .ref (ad G 24), .ref (ad G 27), .ref (ad G 28), .ref (ad G 31), .ref (ad G 32), .int 0, .ref (ad G 33), .ref (ad G 42), .ref (ad G 51), .ref (ad G 54), .ref (ad G 57), .ref (ad G 60), .ref (ad G 63), .ref (ad G 66)]) :: .inr (7, [.int 0, .int 0, .int (-1), .int 0, .int 0, .ref (ad G (1 + 1)), .int 0, .int 0, .int 0]) :: .inl (gA G 0, 500, .inl (fun _ => 0)) :: .inl (gA G 2, 6, .inr (.inr (.inr (.inr (svB G 6))))) :: .inl (gA G 3, 6, .inr (.inr (.inr (.inr (svW G 5))))) :: tl_X11_27 G) (c_X10_init G 190) (congrArg (fun z => 0 + z) (congrArg Nat.succ (congrArg Nat.succ (congrArg Nat.succ (congrArg Nat.succ (congrArg Nat.succ (tl_X11_26_len G))))))) rfl rfl rfl kc_yX10_init rfl kn_ThumbBook_Way (List.mem_of_getElem? (i := 3) rfl) ki_yX10_init rfl ⟨by decide, by decide, by decide +kernel⟩ (by decide) (by decide) (Nat.le_of_ble_eq_true rfl) (by decide) (by decide) dX11_init_231 ?_
  refine m_aast (t0 := 3) (k1 := 4) (k2 := 190) (ci := 10) (q0 := (RX10, TX10, 2)) (l' := .inr (11, [.ref (ad G 1), .ref (ad G 3), .ref (ad G 4), .ref (ad G 5), .ref (ad G 6), .ref (ad G 24), .ref (ad G 27), .ref (ad G 28), .ref (ad G 31), .ref (ad G 32), .int 0, .ref (ad G 33), .ref (ad G 42), .ref (ad G 51), .ref (ad G 54), .ref (ad G 57), .ref (ad G 60), .ref (ad G 63), .ref (ad G 66)]) :: .inr (7, [.int 0, .int 0, .int (-1), .int 0, .int 0, .ref (ad G (1 + 1)), .int 0, .int 0, .int 0]) :: .inl (gA G 0, 500, .inl (fun _ => 0)) :: .inl (gA G 2, 6, .inr (.inr (.inr (.inr (svB G 6))))) :: .inl (gA G 3, 6, .inr (.inr (.inr (.inr (svW G 6))))) :: tl_X11_27 G) rfl rfl rfl rfl (hd_at5 (tl_X11_26_len G) (blk_hd_X10 G 190)) rfl (ib_in (by decide)) (by rw [show Int32.toNatClampNeg 5 = 5 from by decide]; rfl) dX11_init_234 ?_
  refine m_iinc (v := 6) (lv' := [(1, .int 6), (0, .ref (ad G 0))]) 0 dX11_init_235 rfl (by decide) (by decide) rfl ?_
  refine m_goto 216 dX11_init_238 (by decide) ?_
  refine m_iload_n 0 dX11_init_216 rfl ?_
  refine m_bipush 6 dX11_init_217 (by decide) ?_
  refine m_icmp_ge 241 dX11_init_219 (by decide) (fun z => ?_) (fun z => absurd z (by decide))
  exact m_ret (by decide) (by decide) dX11_init_241 rfl
def tl_X12_1 (G : GG) : List va_E := [.inl (gA G 4, 4, .inr (.inr (.inr (.inr (va_up (va_up (va_up (va_up (fun _ => none) 0 (some (gK G 24))) 1 (some (gK G 25))) 2 (some (gK G 26))) 3 (some (gK G 27)))))))]
theorem tl_X12_1_len (G : GG) : (tl_X12_1 G).length = 1 := rfl
def tl_X12_2 (G : GG) : List va_E := tl_X12_1 G ++ [.inl (gA G 4, 3, .inr (.inr (.inr (.inr (va_up (va_up (va_up (fun _ => none) 0 (some (gK G 28))) 1 (some (gK G 29))) 2 (some (gK G 30)))))))]
theorem tl_X12_2_len (G : GG) : (tl_X12_2 G).length = 2 := len_app1 _ (tl_X12_1_len G)
def tl_X12_3 (G : GG) : List va_E := tl_X12_2 G ++ [.inl (gA G 0, 8, .inl (fun _ => 0))]
theorem tl_X12_3_len (G : GG) : (tl_X12_3 G).length = 3 := len_app1 _ (tl_X12_2_len G)
def tl_X12_4 (G : GG) : List va_E := tl_X12_3 G ++ [.inl (gA G 0, 8, .inl (fun _ => 0))]
theorem tl_X12_4_len (G : GG) : (tl_X12_4 G).length = 4 := len_app1 _ (tl_X12_3_len G)
def tl_X12_5 (G : GG) : List va_E := tl_X12_4 G ++ [.inl (gA G 0, 8, .inl (fun _ => 0))]
theorem tl_X12_5_len (G : GG) : (tl_X12_5 G).length = 5 := len_app1 _ (tl_X12_4_len G)
def tl_X12_6 (G : GG) : List va_E := tl_X12_5 G ++ [.inl (gA G 0, 8, .inl (fun _ => 0))]
theorem tl_X12_6_len (G : GG) : (tl_X12_6 G).length = 6 := len_app1 _ (tl_X12_5_len G)
def tl_X12_7 (G : GG) : List va_E := tl_X12_6 G ++ [.inl (gA G 0, 8, .inl (fun _ => 0))]
theorem tl_X12_7_len (G : GG) : (tl_X12_7 G).length = 7 := len_app1 _ (tl_X12_6_len G)
def tl_X12_8 (G : GG) : List va_E := tl_X12_7 G ++ [.inl (gA G 0, 8, .inl (fun _ => 0))]
theorem tl_X12_8_len (G : GG) : (tl_X12_8 G).length = 8 := len_app1 _ (tl_X12_7_len G)
def tl_X12_9 (G : GG) : List va_E := tl_X12_8 G ++ [.inl (gA G 0, 320, .inl (fun _ => 0))]
theorem tl_X12_9_len (G : GG) : (tl_X12_9 G).length = 9 := len_app1 _ (tl_X12_8_len G)
def tl_X12_10 (G : GG) : List va_E := tl_X12_9 G ++ [.inl (gA G 0, 320, .inl (fun _ => 0))]
theorem tl_X12_10_len (G : GG) : (tl_X12_10 G).length = 10 := len_app1 _ (tl_X12_9_len G)
def tl_X12_11 (G : GG) : List va_E := tl_X12_10 G ++ [.inl (gA G 0, 320, .inl (fun _ => 0))]
theorem tl_X12_11_len (G : GG) : (tl_X12_11 G).length = 11 := len_app1 _ (tl_X12_10_len G)
def tl_X12_12 (G : GG) : List va_E := tl_X12_11 G ++ [.inl (gA G 0, 320, .inl (fun _ => 0))]
theorem tl_X12_12_len (G : GG) : (tl_X12_12 G).length = 12 := len_app1 _ (tl_X12_11_len G)
def tl_X12_13 (G : GG) : List va_E := tl_X12_12 G ++ [.inl (gA G 0, 320, .inl (fun _ => 0))]
theorem tl_X12_13_len (G : GG) : (tl_X12_13 G).length = 13 := len_app1 _ (tl_X12_12_len G)
def tl_X12_14 (G : GG) : List va_E := tl_X12_13 G ++ [.inl (gA G 0, 320, .inl (fun _ => 0))]
theorem tl_X12_14_len (G : GG) : (tl_X12_14 G).length = 14 := len_app1 _ (tl_X12_13_len G)
def tl_X12_15 (G : GG) : List va_E := tl_X12_14 G ++ [.inl (gA G 0, 320, .inl (fun _ => 0))]
theorem tl_X12_15_len (G : GG) : (tl_X12_15 G).length = 15 := len_app1 _ (tl_X12_14_len G)
def tl_X12_16 (G : GG) : List va_E := tl_X12_15 G ++ [.inl (gA G 0, 320, .inl (fun _ => 0))]
theorem tl_X12_16_len (G : GG) : (tl_X12_16 G).length = 16 := len_app1 _ (tl_X12_15_len G)
def tl_X12_17 (G : GG) : List va_E := tl_X12_16 G ++ [.inl (gA G 0, 32, .inl (fun _ => 0))]
theorem tl_X12_17_len (G : GG) : (tl_X12_17 G).length = 17 := len_app1 _ (tl_X12_16_len G)
def tl_X12_18 (G : GG) : List va_E := tl_X12_17 G ++ [.inl (gA G 0, 32, .inl (fun _ => 0))]
theorem tl_X12_18_len (G : GG) : (tl_X12_18 G).length = 18 := len_app1 _ (tl_X12_17_len G)
def tl_X12_19 (G : GG) : List va_E := tl_X12_18 G ++ [.inl (gA G 0, 64, .inl (fun _ => 0))]
theorem tl_X12_19_len (G : GG) : (tl_X12_19 G).length = 19 := len_app1 _ (tl_X12_18_len G)
def tl_X12_20 (G : GG) : List va_E := tl_X12_19 G ++ [.inl (gA G 0, 64, .inl (fun _ => 0))]
theorem tl_X12_20_len (G : GG) : (tl_X12_20 G).length = 20 := len_app1 _ (tl_X12_19_len G)
def tl_X12_21 (G : GG) : List va_E := tl_X12_20 G ++ [.inl (gA G 0, 64, .inl (fun _ => 0))]
theorem tl_X12_21_len (G : GG) : (tl_X12_21 G).length = 21 := len_app1 _ (tl_X12_20_len G)
def tl_X12_22 (G : GG) : List va_E := tl_X12_21 G ++ [.inl (gA G 0, 6, .inl (upd (upd (upd (upd (upd (upd (fun _ => 0) 0 2) 1 20) 2 3) 3 0) 4 0) 5 0))]
theorem tl_X12_22_len (G : GG) : (tl_X12_22 G).length = 22 := len_app1 _ (tl_X12_21_len G)
def tl_X12_23 (G : GG) : List va_E := tl_X12_22 G ++ [.inl (gA G 0, 84, .inl (fun _ => 0))]
theorem tl_X12_23_len (G : GG) : (tl_X12_23 G).length = 23 := len_app1 _ (tl_X12_22_len G)
def tl_X12_24 (G : GG) : List va_E := tl_X12_23 G ++ [.inl (gA G 0, 84, .inl (fun _ => 0))]
theorem tl_X12_24_len (G : GG) : (tl_X12_24 G).length = 24 := len_app1 _ (tl_X12_23_len G)
def tl_X12_25 (G : GG) : List va_E := tl_X12_24 G ++ [.inl (gA G 0, 4, .inl (fun _ => 0))]
theorem tl_X12_25_len (G : GG) : (tl_X12_25 G).length = 25 := len_app1 _ (tl_X12_24_len G)
def tl_X12_26 (G : GG) : List va_E := tl_X12_25 G ++ [.inl (gA G 0, 500, .inl (fun _ => 0))]
theorem tl_X12_26_len (G : GG) : (tl_X12_26 G).length = 26 := len_app1 _ (tl_X12_25_len G)
def tl_X12_27 (G : GG) : List va_E := tl_X12_26 G ++ [.inl (gA G 0, 40, .inl (fun _ => 0))]
theorem tl_X12_27_len (G : GG) : (tl_X12_27 G).length = 27 := len_app1 _ (tl_X12_26_len G)
def tl_X12_28 (G : GG) : List va_E := tl_X12_27 G ++ [.inl (gA G 0, 40, .inl (fun _ => 0))]
theorem tl_X12_28_len (G : GG) : (tl_X12_28 G).length = 28 := len_app1 _ (tl_X12_27_len G)
def tl_X12_29 (G : GG) : List va_E := tl_X12_28 G ++ [.inl (gA G 0, 40, .inl (fun _ => 0))]
theorem tl_X12_29_len (G : GG) : (tl_X12_29 G).length = 29 := len_app1 _ (tl_X12_28_len G)
def tl_X12_30 (G : GG) : List va_E := tl_X12_29 G ++ [.inl (gA G 1, 800, .inr (.inl (fun _ => 0)))]
theorem tl_X12_30_len (G : GG) : (tl_X12_30 G).length = 30 := len_app1 _ (tl_X12_29_len G)
def tl_X12_31 (G : GG) : List va_E := tl_X12_30 G ++ [.inl (gA G 1, 800, .inr (.inl (fun _ => 0)))]
theorem tl_X12_31_len (G : GG) : (tl_X12_31 G).length = 31 := len_app1 _ (tl_X12_30_len G)
def tl_X12_32 (G : GG) : List va_E := tl_X12_31 G ++ [.inl (gA G 0, 12, .inl (fun _ => 0))]
theorem tl_X12_32_len (G : GG) : (tl_X12_32 G).length = 32 := len_app1 _ (tl_X12_31_len G)
def tl_X12_33 (G : GG) : List va_E := tl_X12_32 G ++ [.inl (gA G 0, 12, .inl (fun _ => 0))]
theorem tl_X12_33_len (G : GG) : (tl_X12_33 G).length = 33 := len_app1 _ (tl_X12_32_len G)
def tl_X12_34 (G : GG) : List va_E := tl_X12_33 G ++ [.inl (gA G 0, 5, .inl (fun _ => 0))]
theorem tl_X12_34_len (G : GG) : (tl_X12_34 G).length = 34 := len_app1 _ (tl_X12_33_len G)
def tl_X12_35 (G : GG) : List va_E := tl_X12_34 G ++ [.inl (gA G 0, 5, .inl (fun _ => 0))]
theorem tl_X12_35_len (G : GG) : (tl_X12_35 G).length = 35 := len_app1 _ (tl_X12_34_len G)
def tl_X12_36 (G : GG) : List va_E := tl_X12_35 G ++ [.inl (gA G 0, 40, .inl (fun _ => 0))]
theorem tl_X12_36_len (G : GG) : (tl_X12_36 G).length = 36 := len_app1 _ (tl_X12_35_len G)
def tl_X12_37 (G : GG) : List va_E := tl_X12_36 G ++ [.inl (gA G 0, 20, .inl (fun _ => 0))]
theorem tl_X12_37_len (G : GG) : (tl_X12_37 G).length = 37 := len_app1 _ (tl_X12_36_len G)
def tl_X12_38 (G : GG) : List va_E := tl_X12_37 G ++ [.inl (gA G 0, 20, .inl (fun _ => 0))]
theorem tl_X12_38_len (G : GG) : (tl_X12_38 G).length = 38 := len_app1 _ (tl_X12_37_len G)
def tl_X12_39 (G : GG) : List va_E := tl_X12_38 G ++ [.inl (gA G 0, 240, .inl (fun _ => 0))]
theorem tl_X12_39_len (G : GG) : (tl_X12_39 G).length = 39 := len_app1 _ (tl_X12_38_len G)
def tl_X12_40 (G : GG) : List va_E := tl_X12_39 G ++ [.inl (gA G 0, 240, .inl (fun _ => 0))]
theorem tl_X12_40_len (G : GG) : (tl_X12_40 G).length = 40 := len_app1 _ (tl_X12_39_len G)
def tl_X12_41 (G : GG) : List va_E := tl_X12_40 G ++ [.inl (gA G 0, 6, .inl (fun _ => 0))]
theorem tl_X12_41_len (G : GG) : (tl_X12_41 G).length = 41 := len_app1 _ (tl_X12_40_len G)
def tl_X12_42 (G : GG) : List va_E := tl_X12_41 G ++ [.inl (gA G 0, 4, .inl (fun _ => 0))]
theorem tl_X12_42_len (G : GG) : (tl_X12_42 G).length = 42 := len_app1 _ (tl_X12_41_len G)
abbrev mlM : Nat := 23
def lM (G : GG) : List va_E := .inr (12, [.ref (ad G 194), .ref (ad G 195), .int 0, .ref (ad G 196), .ref (ad G 197), .ref (ad G 198), .ref (ad G 199), .ref (ad G 200), .ref (ad G 201), .ref (ad G 202), .ref (ad G 203), .ref (ad G 204), .ref (ad G 205), .ref (ad G 206), .ref (ad G 207), .ref (ad G 208), .ref (ad G 209), .ref (ad G 210), .ref (ad G 211), .ref (ad G 212), .ref (ad G 213), .ref (ad G 214), .ref (ad G 215), .ref (ad G 216), .ref (ad G 217), .ref (ad G 218), .ref (ad G 219), .int 0, .int 0, .int 0, .int 0, .int 0, .int 0, .int 0, .int 0, .int 0, .int (-1), .ref (ad G 220), .ref (ad G 221), .ref (ad G 222), .int 0, .ref (ad G 223), .ref (ad G 224), .ref (ad G 225), .ref (ad G 226), .ref (ad G 227), .ref (ad G 228), .int 0, .long 0, .int (-1), .int 0, .ref (ad G 229), .int 0, .ref (ad G 230), .ref (ad G 231), .int 0, .ref (ad G 232), .ref (ad G 233), .ref (ad G 234), .ref (ad G 235)]) :: tl_X12_42 G
def blk_X12 (G : GG) : List va_E := (lM G).set 23 (.inl (gA G 0, 84, .inl (pF (fun _ => 0) (-1) 84)))
theorem tm_23 (G : GG) : (tl_X12_23 G)[22]? = some (.inl (gA G 0, 84, .inl (fun _ => 0))) := ap_last (tl_X12_22_len G)
theorem tm_24 (G : GG) : (tl_X12_24 G)[22]? = some (.inl (gA G 0, 84, .inl (fun _ => 0))) := ap_at (tm_23 G)
theorem tm_25 (G : GG) : (tl_X12_25 G)[22]? = some (.inl (gA G 0, 84, .inl (fun _ => 0))) := ap_at (tm_24 G)
theorem tm_26 (G : GG) : (tl_X12_26 G)[22]? = some (.inl (gA G 0, 84, .inl (fun _ => 0))) := ap_at (tm_25 G)
theorem tm_27 (G : GG) : (tl_X12_27 G)[22]? = some (.inl (gA G 0, 84, .inl (fun _ => 0))) := ap_at (tm_26 G)
theorem tm_28 (G : GG) : (tl_X12_28 G)[22]? = some (.inl (gA G 0, 84, .inl (fun _ => 0))) := ap_at (tm_27 G)
theorem tm_29 (G : GG) : (tl_X12_29 G)[22]? = some (.inl (gA G 0, 84, .inl (fun _ => 0))) := ap_at (tm_28 G)
theorem tm_30 (G : GG) : (tl_X12_30 G)[22]? = some (.inl (gA G 0, 84, .inl (fun _ => 0))) := ap_at (tm_29 G)
theorem tm_31 (G : GG) : (tl_X12_31 G)[22]? = some (.inl (gA G 0, 84, .inl (fun _ => 0))) := ap_at (tm_30 G)
theorem tm_32 (G : GG) : (tl_X12_32 G)[22]? = some (.inl (gA G 0, 84, .inl (fun _ => 0))) := ap_at (tm_31 G)
theorem tm_33 (G : GG) : (tl_X12_33 G)[22]? = some (.inl (gA G 0, 84, .inl (fun _ => 0))) := ap_at (tm_32 G)
theorem tm_34 (G : GG) : (tl_X12_34 G)[22]? = some (.inl (gA G 0, 84, .inl (fun _ => 0))) := ap_at (tm_33 G)
theorem tm_35 (G : GG) : (tl_X12_35 G)[22]? = some (.inl (gA G 0, 84, .inl (fun _ => 0))) := ap_at (tm_34 G)
theorem tm_36 (G : GG) : (tl_X12_36 G)[22]? = some (.inl (gA G 0, 84, .inl (fun _ => 0))) := ap_at (tm_35 G)
theorem tm_37 (G : GG) : (tl_X12_37 G)[22]? = some (.inl (gA G 0, 84, .inl (fun _ => 0))) := ap_at (tm_36 G)
theorem tm_38 (G : GG) : (tl_X12_38 G)[22]? = some (.inl (gA G 0, 84, .inl (fun _ => 0))) := ap_at (tm_37 G)
theorem tm_39 (G : GG) : (tl_X12_39 G)[22]? = some (.inl (gA G 0, 84, .inl (fun _ => 0))) := ap_at (tm_38 G)
theorem tm_40 (G : GG) : (tl_X12_40 G)[22]? = some (.inl (gA G 0, 84, .inl (fun _ => 0))) := ap_at (tm_39 G)
theorem tm_41 (G : GG) : (tl_X12_41 G)[22]? = some (.inl (gA G 0, 84, .inl (fun _ => 0))) := ap_at (tm_40 G)
theorem tm_42 (G : GG) : (tl_X12_42 G)[22]? = some (.inl (gA G 0, 84, .inl (fun _ => 0))) := ap_at (tm_41 G)
theorem lM_at (G : GG) : (lM G)[23]? = some (.inl (gA G 0, 84, .inl (fun _ => 0))) := by
  unfold lM
  rw [List.getElem?_cons_succ]
  exact tm_42 G
set_option maxRecDepth 20000 in
theorem c2_modL (G : GG) : ∀ (w i : Nat), i + w = 84 → J2 G mX12_init 1 42 5873 (fun pre => K1 G 42 5873 (pre ++ blk_X12 G)) 193 421 [(1, .int (Int32.ofNat i)), (0, .ref (ad G 193))] [] ((lM G).set 23 (.inl (gA G 0, 84, .inl (pF (fun _ => 0) (-1) i)))) 42 5873 := by
  have hlt : 23 < (lM G).length := (List.getElem?_eq_some_iff.mp (lM_at G)).1
  intro w
  induction w with
  | zero =>
    intro i hi
    have e : i = 84 := by omega
    subst e
    refine m_iload_n 0 dX12_init_421 rfl ?_
    refine m_bipush 84 dX12_init_422 (by decide) ?_
    refine m_icmp_ge 440 dX12_init_424 (by decide) (fun z => ?_) (fun z => absurd z (by decide))
    exact m_ret (by decide) (by decide) dX12_init_440 rfl
  | succ w ih =>
    intro i hi
    refine m_iload_n 0 dX12_init_421 rfl ?_
    refine m_bipush 84 dX12_init_422 (by decide) ?_
    refine m_icmp_ge 440 dX12_init_424 (by decide) (fun z => absurd ((o32_le (a := 84) (by omega) (by omega)).mp z) (by omega)) (fun z => ?_)
    refine m_aload_n 1 dX12_init_427 rfl ?_
    refine m_get (k0 := 23) (k1 := 0) rfl rfl ku_12 rfl (by decide) rfl kf_RX12_90 (by rw [List.getElem?_set_ne (by decide)]; rfl) rfl dX12_init_428 ?_
    refine m_iload_n 0 dX12_init_431 rfl ?_
    refine m_iconst (-1) dX12_init_432 (by decide) ?_
    refine m_iast (k1 := 23) (l' := (lM G).set 23 (.inl (gA G 0, 84, .inl (pF (fun _ => 0) (-1) (i + 1))))) rfl (List.getElem?_set_self hlt) (o32_in (by omega) (by decide)) (by rw [List.set_set, o32_cl (by omega), pF_s]) dX12_init_433 ?_
    refine m_iinc (v := Int32.ofNat (i + 1)) (lv' := [(1, .int (Int32.ofNat (i + 1))), (0, .ref (ad G 193))]) 0 dX12_init_434 rfl (o32_s i) (by decide) rfl ?_
    refine m_goto 421 dX12_init_437 (by decide) ?_
    exact ih (i + 1) (by omega)
