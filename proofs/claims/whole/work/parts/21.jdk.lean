def f_J7_fill_53178_l5 (a0 : Nat) (v1 : Int32) (v3 : Int32) (n0 : Nat) : Nat → Int32 → AH → Option (AH)
  | 0, _, _ => none
  | n + 1, v2, h => if v3 ≤ v2 then some h else gd (ib v2 n0 = true) (lt (sia h a0 (cl v2) v1) (fun h3 => f_J7_fill_53178_l5 a0 v1 v3 n0 n (v2 + 1) h3))
def f_J7_fill_53178 (a0 n0 : Nat) (v1 : Int32) (h : AH) : Option (AH) := bnd (f_J7_fill_53178_l5 a0 v1 (Int32.ofNat n0) n0 FU 0 h) (fun q4 => some q4)
set_option maxRecDepth 20000 in
theorem cl_J7_fill_53178_5 (G : GG) (K : KQ) (a0 : Nat) (v1 : Int32) (v3 : Int32) {n0 : Nat} (s0 : SH a0 = (20, n0)) : ∀ (n : Nat) (v2 : Int32) (h : AH) (r : AH), f_J7_fill_53178_l5 a0 v1 v3 n0 n v2 h = some r → J G mJ7_fill_53178 1 0 0 K 20 [] [] r → J G mJ7_fill_53178 1 0 0 K 5 [(0, .ref (ad G a0)), (1, .int v1), (2, .int v2), (3, .int v3)] [] h := by
  intro n
  induction n with
  | zero => intro v2 h r hL; cases hL
  | succ n ih =>
    intro v2 h r hL kE
    unfold f_J7_fill_53178_l5 at hL
    refine j_iload_n 2 dJ7_fill_53178_5 rfl ?_
    refine j_iload_n 3 dJ7_fill_53178_6 rfl ?_
    refine j_icmp_ge 20 dJ7_fill_53178_7 (by decide) (fun z1 => ?_) (fun z1 => ?_)
    · replace hL := (if_pos z1).symm.trans hL
      cases hL
      refine j_sub [] rfl ?_
      exact kE 
    · replace hL := (if_neg z1).symm.trans hL
      refine j_aload_n 0 dJ7_fill_53178_10 rfl ?_
      refine j_iload_n 2 dJ7_fill_53178_11 rfl ?_
      refine j_iload_n 1 dJ7_fill_53178_12 rfl ?_
      obtain ⟨g2, hL⟩ := gd_ex hL
      refine j_iast s0 (ib_in g2) dJ7_fill_53178_13 ?_
      obtain ⟨h3, eh3, hL⟩ := lt_ex hL
      refine j_heap eh3 ?_
      refine j_iinc (lv' := [(2, .int (v2 + 1)), (0, .ref (ad G a0)), (1, .int v1), (3, .int v3)]) 2 dJ7_fill_53178_14 rfl rfl (by decide) rfl ?_
      refine j_goto 5 dJ7_fill_53178_17 (by decide) ?_
      refine j_sub [1, 2, 0, 3] rfl ?_
      exact ih (v2 + 1) h3 r hL kE

set_option maxRecDepth 20000 in
theorem c_J7_fill_53178 (G : GG) (a0 n0 : Nat) (s0 : SH a0 = (20, n0)) (v1 : Int32) (h : AH) (r : AH) (hL : f_J7_fill_53178 a0 n0 v1 h = some r) : SpV G 1 mJ7_fill_53178 [.ref (ad G a0), .int v1] h r := by
  refine sp_v pf_J7_fill_53178 (Nat.le_of_ble_eq_true rfl) ?_
  show J G mJ7_fill_53178 1 0 0 (KMv G r) 0 [(0, .ref (ad G a0)), (1, .int v1)] [] h
  obtain ⟨K, hK⟩ : ∃ K, K = KMv G r := ⟨_, rfl⟩
  rw [← hK]
  unfold f_J7_fill_53178 at hL
  refine j_iconst 0 dJ7_fill_53178_0 (by decide) ?_
  refine j_istore_n (lv' := [(2, .int 0), (0, .ref (ad G a0)), (1, .int v1)]) dJ7_fill_53178_1 (by decide) rfl ?_
  refine j_aload_n 1 dJ7_fill_53178_2 rfl ?_
  refine j_alen s0 dJ7_fill_53178_3 ?_
  refine j_istore_n (lv' := [(3, .int (Int32.ofNat n0)), (2, .int 0), (0, .ref (ad G a0)), (1, .int v1)]) dJ7_fill_53178_4 (by decide) rfl ?_
  obtain ⟨q4, hq4, hL⟩ := bnd_ex hL
  refine j_sub [2, 3, 1, 0] rfl ?_
  refine cl_J7_fill_53178_5 G K a0 v1 (Int32.ofNat n0) s0 FU 0 h q4 hq4 ?_
  cases hL
  exact j_retv dJ7_fill_53178_20 rfl hK

def f_J9_max_7cf53 (v0 : Int32) (v1 : Int32) : Int32 := if v0 < v1 then v1 else v0
set_option maxRecDepth 20000 in
theorem c_J9_max_7cf53 (G : GG) (v0 : Int32) (v1 : Int32) (h : AH) : SpI G 1 mJ9_max_7cf53 [.int v0, .int v1] h (f_J9_max_7cf53 v0 v1) h := by
  obtain ⟨r, hL⟩ : ∃ r, f_J9_max_7cf53 v0 v1 = r := ⟨_, rfl⟩
  rw [hL]
  refine sp_i pf_J9_max_7cf53 (Nat.le_of_ble_eq_true rfl) ?_
  show J G mJ9_max_7cf53 1 0 0 (KMi G r h) 0 [(0, .int v0), (1, .int v1)] [] h
  obtain ⟨K, hK⟩ : ∃ K, K = KMi G r h := ⟨_, rfl⟩
  rw [← hK]
  unfold f_J9_max_7cf53 at hL
  refine j_iload_n 0 dJ9_max_7cf53_0 rfl ?_
  refine j_iload_n 1 dJ9_max_7cf53_1 rfl ?_
  refine j_icmp_lt 9 dJ9_max_7cf53_2 (by decide) (fun z1 => ?_) (fun z1 => ?_)
  · replace hL := (if_pos z1).symm.trans hL
    refine j_iload_n 1 dJ9_max_7cf53_9 rfl ?_
    subst hL
    exact j_reti dJ9_max_7cf53_10 rfl hK
  · replace hL := (if_neg z1).symm.trans hL
    refine j_iload_n 0 dJ9_max_7cf53_5 rfl ?_
    refine j_goto 10 dJ9_max_7cf53_6 (by decide) ?_
    subst hL
    exact j_reti dJ9_max_7cf53_10 rfl hK

def f_J9_min_7cf53 (v0 : Int32) (v1 : Int32) : Int32 := if v1 < v0 then v1 else v0
set_option maxRecDepth 20000 in
theorem c_J9_min_7cf53 (G : GG) (v0 : Int32) (v1 : Int32) (h : AH) : SpI G 1 mJ9_min_7cf53 [.int v0, .int v1] h (f_J9_min_7cf53 v0 v1) h := by
  obtain ⟨r, hL⟩ : ∃ r, f_J9_min_7cf53 v0 v1 = r := ⟨_, rfl⟩
  rw [hL]
  refine sp_i pf_J9_min_7cf53 (Nat.le_of_ble_eq_true rfl) ?_
  show J G mJ9_min_7cf53 1 0 0 (KMi G r h) 0 [(0, .int v0), (1, .int v1)] [] h
  obtain ⟨K, hK⟩ : ∃ K, K = KMi G r h := ⟨_, rfl⟩
  rw [← hK]
  unfold f_J9_min_7cf53 at hL
  refine j_iload_n 0 dJ9_min_7cf53_0 rfl ?_
  refine j_iload_n 1 dJ9_min_7cf53_1 rfl ?_
  refine j_icmp_gt 9 dJ9_min_7cf53_2 (by decide) (fun z1 => ?_) (fun z1 => ?_)
  · replace hL := (if_pos z1).symm.trans hL
    refine j_iload_n 1 dJ9_min_7cf53_9 rfl ?_
    subst hL
    exact j_reti dJ9_min_7cf53_10 rfl hK
  · replace hL := (if_neg z1).symm.trans hL
    refine j_iload_n 0 dJ9_min_7cf53_5 rfl ?_
    refine j_goto 10 dJ9_min_7cf53_6 (by decide) ?_
    subst hL
    exact j_reti dJ9_min_7cf53_10 rfl hK

def f_J9_floorMod_7cf53 (v0 : Int32) (v1 : Int32) : Option (Int32) := gd (¬ v1 = 0) (if 0 ≤ (v0 ^^^ v1) then some (v0 - v0 / v1 * v1) else if (v0 - v0 / v1 * v1) = 0 then some (v0 - v0 / v1 * v1) else some ((v0 - v0 / v1 * v1) + v1))
set_option maxRecDepth 20000 in
theorem c_J9_floorMod_7cf53 (G : GG) (v0 : Int32) (v1 : Int32) (h : AH) (r : Int32) (hL : f_J9_floorMod_7cf53 v0 v1 = some r) : SpI G 1 mJ9_floorMod_7cf53 [.int v0, .int v1] h r h := by
  refine sp_i pf_J9_floorMod_7cf53 (Nat.le_of_ble_eq_true rfl) ?_
  show J G mJ9_floorMod_7cf53 1 0 0 (KMi G r h) 0 [(0, .int v0), (1, .int v1)] [] h
  obtain ⟨K, hK⟩ : ∃ K, K = KMi G r h := ⟨_, rfl⟩
  rw [← hK]
  unfold f_J9_floorMod_7cf53 at hL
  refine j_iload_n 0 dJ9_floorMod_7cf53_0 rfl ?_
  refine j_iload_n 1 dJ9_floorMod_7cf53_1 rfl ?_
  obtain ⟨g1, hL⟩ := gd_ex hL
  refine j_irem dJ9_floorMod_7cf53_2 g1 ?_
  refine j_istore_n (lv' := [(2, .int (v0 - v0 / v1 * v1)), (0, .int v0), (1, .int v1)]) dJ9_floorMod_7cf53_3 (by decide) rfl ?_
  refine j_iload_n 1 dJ9_floorMod_7cf53_4 rfl ?_
  refine j_iload_n 2 dJ9_floorMod_7cf53_5 rfl ?_
  refine j_ixor dJ9_floorMod_7cf53_6 ?_
  refine j_if_ge 18 dJ9_floorMod_7cf53_7 (by decide) (fun z2 => ?_) (fun z2 => ?_)
  · replace hL := (if_pos z2).symm.trans hL
    refine j_iload_n 0 dJ9_floorMod_7cf53_18 rfl ?_
    cases hL
    exact j_reti dJ9_floorMod_7cf53_19 rfl hK
  · replace hL := (if_neg z2).symm.trans hL
    refine j_iload_n 0 dJ9_floorMod_7cf53_10 rfl ?_
    refine j_if_eq 18 dJ9_floorMod_7cf53_11 (by decide) (fun z3 => ?_) (fun z3 => ?_)
    · replace hL := (if_pos z3).symm.trans hL
      refine j_iload_n 0 dJ9_floorMod_7cf53_18 rfl ?_
      cases hL
      exact j_reti dJ9_floorMod_7cf53_19 rfl hK
    · replace hL := (if_neg z3).symm.trans hL
      refine j_iload_n 0 dJ9_floorMod_7cf53_14 rfl ?_
      refine j_iload_n 2 dJ9_floorMod_7cf53_15 rfl ?_
      refine j_iadd dJ9_floorMod_7cf53_16 ?_
      cases hL
      exact j_reti dJ9_floorMod_7cf53_17 rfl hK

def f_J9_floorDiv_f86c9 (v0 : Int64) (v2 : Int64) : Option (Int64) := gd (¬ v2 = 0) (if 0 ≤ (lg_cmp (v0 ^^^ v2) 0) then some (v0 / v2) else if (lg_cmp ((v0 / v2) * v2) v0) = 0 then some (v0 / v2) else some ((v0 / v2) - 1))
set_option maxRecDepth 20000 in
theorem c_J9_floorDiv_f86c9 (G : GG) (v0 : Int64) (v2 : Int64) (h : AH) (r : Int64) (hL : f_J9_floorDiv_f86c9 v0 v2 = some r) : SpL G 1 mJ9_floorDiv_f86c9 [.long v0, .long v2] h r h := by
  refine sp_l pf_J9_floorDiv_f86c9 (Nat.le_of_ble_eq_true rfl) ?_
  show J G mJ9_floorDiv_f86c9 1 0 0 (KMl G r h) 0 [(0, .long v0), (2, .long v2)] [] h
  obtain ⟨K, hK⟩ : ∃ K, K = KMl G r h := ⟨_, rfl⟩
  rw [← hK]
  unfold f_J9_floorDiv_f86c9 at hL
  refine j_lload_n 0 dJ9_floorDiv_f86c9_0 rfl ?_
  refine j_lload_n 1 dJ9_floorDiv_f86c9_1 rfl ?_
  obtain ⟨g1, hL⟩ := gd_ex hL
  refine j_ldiv dJ9_floorDiv_f86c9_2 g1 ?_
  refine j_lstore (lv' := [(4, .long (v0 / v2)), (0, .long v0), (2, .long v2)]) dJ9_floorDiv_f86c9_3 (by decide) rfl ?_
  refine j_lload_n 1 dJ9_floorDiv_f86c9_5 rfl ?_
  refine j_lload_n 2 dJ9_floorDiv_f86c9_6 rfl ?_
  refine j_lxor dJ9_floorDiv_f86c9_7 ?_
  refine j_lconst 0 dJ9_floorDiv_f86c9_8 (by decide) ?_
  refine j_lcmp dJ9_floorDiv_f86c9_9 ?_
  refine j_if_ge 27 dJ9_floorDiv_f86c9_10 (by decide) (fun z2 => ?_) (fun z2 => ?_)
  · replace hL := (if_pos z2).symm.trans hL
    refine j_lload 0 dJ9_floorDiv_f86c9_27 rfl ?_
    cases hL
    exact j_retl dJ9_floorDiv_f86c9_29 rfl hK
  · replace hL := (if_neg z2).symm.trans hL
    refine j_lload 0 dJ9_floorDiv_f86c9_13 rfl ?_
    refine j_lload_n 2 dJ9_floorDiv_f86c9_15 rfl ?_
    refine j_lmul dJ9_floorDiv_f86c9_16 ?_
    refine j_lload_n 1 dJ9_floorDiv_f86c9_17 rfl ?_
    refine j_lcmp dJ9_floorDiv_f86c9_18 ?_
    refine j_if_eq 27 dJ9_floorDiv_f86c9_19 (by decide) (fun z3 => ?_) (fun z3 => ?_)
    · replace hL := (if_pos z3).symm.trans hL
      refine j_lload 0 dJ9_floorDiv_f86c9_27 rfl ?_
      cases hL
      exact j_retl dJ9_floorDiv_f86c9_29 rfl hK
    · replace hL := (if_neg z3).symm.trans hL
      refine j_lload 0 dJ9_floorDiv_f86c9_22 rfl ?_
      refine j_lconst 1 dJ9_floorDiv_f86c9_24 (by decide) ?_
      refine j_lsub dJ9_floorDiv_f86c9_25 ?_
      cases hL
      exact j_retl dJ9_floorDiv_f86c9_26 rfl hK

def f_J9_abs_0f7a4 (v0 : Int32) : Int32 := if 0 ≤ v0 then v0 else (-v0)
set_option maxRecDepth 20000 in
theorem c_J9_abs_0f7a4 (G : GG) (v0 : Int32) (h : AH) : SpI G 1 mJ9_abs_0f7a4 [.int v0] h (f_J9_abs_0f7a4 v0) h := by
  obtain ⟨r, hL⟩ : ∃ r, f_J9_abs_0f7a4 v0 = r := ⟨_, rfl⟩
  rw [hL]
  refine sp_i pf_J9_abs_0f7a4 (Nat.le_of_ble_eq_true rfl) ?_
  show J G mJ9_abs_0f7a4 1 0 0 (KMi G r h) 0 [(0, .int v0)] [] h
  obtain ⟨K, hK⟩ : ∃ K, K = KMi G r h := ⟨_, rfl⟩
  rw [← hK]
  unfold f_J9_abs_0f7a4 at hL
  refine j_iload_n 0 dJ9_abs_0f7a4_0 rfl ?_
  refine j_if_ge 9 dJ9_abs_0f7a4_1 (by decide) (fun z1 => ?_) (fun z1 => ?_)
  · replace hL := (if_pos z1).symm.trans hL
    refine j_iload_n 0 dJ9_abs_0f7a4_9 rfl ?_
    subst hL
    exact j_reti dJ9_abs_0f7a4_10 rfl hK
  · replace hL := (if_neg z1).symm.trans hL
    refine j_iload_n 0 dJ9_abs_0f7a4_4 rfl ?_
    refine j_ineg dJ9_abs_0f7a4_5 ?_
    refine j_goto 10 dJ9_abs_0f7a4_6 (by decide) ?_
    subst hL
    exact j_reti dJ9_abs_0f7a4_10 rfl hK

def f_J9_abs_067f4 (v0 : Int64) : Int64 := if 0 ≤ (lg_cmp v0 0) then v0 else (-v0)
set_option maxRecDepth 20000 in
theorem c_J9_abs_067f4 (G : GG) (v0 : Int64) (h : AH) : SpL G 1 mJ9_abs_067f4 [.long v0] h (f_J9_abs_067f4 v0) h := by
  obtain ⟨r, hL⟩ : ∃ r, f_J9_abs_067f4 v0 = r := ⟨_, rfl⟩
  rw [hL]
  refine sp_l pf_J9_abs_067f4 (Nat.le_of_ble_eq_true rfl) ?_
  show J G mJ9_abs_067f4 1 0 0 (KMl G r h) 0 [(0, .long v0)] [] h
  obtain ⟨K, hK⟩ : ∃ K, K = KMl G r h := ⟨_, rfl⟩
  rw [← hK]
  unfold f_J9_abs_067f4 at hL
  refine j_lload_n 0 dJ9_abs_067f4_0 rfl ?_
  refine j_lconst 0 dJ9_abs_067f4_1 (by decide) ?_
  refine j_lcmp dJ9_abs_067f4_2 ?_
  refine j_if_ge 11 dJ9_abs_067f4_3 (by decide) (fun z1 => ?_) (fun z1 => ?_)
  · replace hL := (if_pos z1).symm.trans hL
    refine j_lload_n 0 dJ9_abs_067f4_11 rfl ?_
    subst hL
    exact j_retl dJ9_abs_067f4_12 rfl hK
  · replace hL := (if_neg z1).symm.trans hL
    refine j_lload_n 0 dJ9_abs_067f4_6 rfl ?_
    refine j_lneg dJ9_abs_067f4_7 ?_
    refine j_goto 12 dJ9_abs_067f4_8 (by decide) ?_
    subst hL
    exact j_retl dJ9_abs_067f4_12 rfl hK

def f_J9_floorDiv_7cf53 (v0 : Int32) (v1 : Int32) : Option (Int32) := gd (¬ v1 = 0) (if 0 ≤ (v0 ^^^ v1) then some (v0 / v1) else if ((v0 / v1) * v1) = v0 then some (v0 / v1) else some ((v0 / v1) - 1))
set_option maxRecDepth 20000 in
theorem c_J9_floorDiv_7cf53 (G : GG) (v0 : Int32) (v1 : Int32) (h : AH) (r : Int32) (hL : f_J9_floorDiv_7cf53 v0 v1 = some r) : SpI G 1 mJ9_floorDiv_7cf53 [.int v0, .int v1] h r h := by
  refine sp_i pf_J9_floorDiv_7cf53 (Nat.le_of_ble_eq_true rfl) ?_
  show J G mJ9_floorDiv_7cf53 1 0 0 (KMi G r h) 0 [(0, .int v0), (1, .int v1)] [] h
  obtain ⟨K, hK⟩ : ∃ K, K = KMi G r h := ⟨_, rfl⟩
  rw [← hK]
  unfold f_J9_floorDiv_7cf53 at hL
  refine j_iload_n 0 dJ9_floorDiv_7cf53_0 rfl ?_
  refine j_iload_n 1 dJ9_floorDiv_7cf53_1 rfl ?_
  obtain ⟨g1, hL⟩ := gd_ex hL
  refine j_idiv dJ9_floorDiv_7cf53_2 g1 ?_
  refine j_istore_n (lv' := [(2, .int (v0 / v1)), (0, .int v0), (1, .int v1)]) dJ9_floorDiv_7cf53_3 (by decide) rfl ?_
  refine j_iload_n 1 dJ9_floorDiv_7cf53_4 rfl ?_
  refine j_iload_n 2 dJ9_floorDiv_7cf53_5 rfl ?_
  refine j_ixor dJ9_floorDiv_7cf53_6 ?_
  refine j_if_ge 21 dJ9_floorDiv_7cf53_7 (by decide) (fun z2 => ?_) (fun z2 => ?_)
  · replace hL := (if_pos z2).symm.trans hL
    refine j_iload_n 0 dJ9_floorDiv_7cf53_21 rfl ?_
    cases hL
    exact j_reti dJ9_floorDiv_7cf53_22 rfl hK
  · replace hL := (if_neg z2).symm.trans hL
    refine j_iload_n 0 dJ9_floorDiv_7cf53_10 rfl ?_
    refine j_iload_n 2 dJ9_floorDiv_7cf53_11 rfl ?_
    refine j_imul dJ9_floorDiv_7cf53_12 ?_
    refine j_iload_n 1 dJ9_floorDiv_7cf53_13 rfl ?_
    refine j_icmp_eq 21 dJ9_floorDiv_7cf53_14 (by decide) (fun z3 => ?_) (fun z3 => ?_)
    · replace hL := (if_pos z3).symm.trans hL
      refine j_iload_n 0 dJ9_floorDiv_7cf53_21 rfl ?_
      cases hL
      exact j_reti dJ9_floorDiv_7cf53_22 rfl hK
    · replace hL := (if_neg z3).symm.trans hL
      refine j_iload_n 0 dJ9_floorDiv_7cf53_17 rfl ?_
      refine j_iconst 1 dJ9_floorDiv_7cf53_18 (by decide) ?_
      refine j_isub dJ9_floorDiv_7cf53_19 ?_
      cases hL
      exact j_reti dJ9_floorDiv_7cf53_20 rfl hK

