def f_X9_widest_l7 (a0 : Nat) (a1 : Nat) (h : AH) : Nat → Int32 → Int32 → Int32 → Option ((Int32) ⊕ (Int32))
  | 0, _, _, _ => none
  | n + 1, v2, v3, v4 => if (hfi h a1 0) ≤ v4 then some (.inl v2) else bnd (f_X9_isStrange a0 v4 h) (fun q2 => if q2 = true then some (.inr v4) else gd (ib v4 40 = true) (gd (ib v4 40 = true) (if ((hia h (a0 + 4) (cl v4)) - (hia h (a0 + 3) (cl v4))) ≤ v3 then f_X9_widest_l7 a0 a1 h n v2 v3 (v4 + 1) else gd (ib v4 40 = true) (gd (ib v4 40 = true) (f_X9_widest_l7 a0 a1 h n v4 ((hia h (a0 + 4) (cl v4)) - (hia h (a0 + 3) (cl v4))) (v4 + 1))))))
def f_X9_widest (a0 : Nat) (a1 : Nat) (h : AH) : Option (Int32) := bnd (f_X9_widest_l7 a0 a1 h FU (-1) (-1) 0) (fun q9 => Sum.elim (fun xq9 => some xq9) (fun xq9 => some xq9) q9)
set_option maxRecDepth 20000 in
theorem cl_X9_widest_7 (G : GG) (K : KQ) (a0 : Nat) (a1 : Nat) (s0 : SH a0 = (9, 0)) (s1 : SH a1 = (0, 0)) : ∀ (n : Nat) (v2 : Int32) (v3 : Int32) (v4 : Int32) (h : AH) (r : (Int32) ⊕ (Int32)), f_X9_widest_l7 a0 a1 h n v2 v3 v4 = some r → (∀ x, r = .inl x → J G mX9_widest 2 0 0 K 72 [(2, .int x)] [] h) → (∀ x, r = .inr x → K = KMi G x h) → J G mX9_widest 2 0 0 K 7 [(0, .ref (ad G a0)), (1, .ref (ad G a1)), (2, .int v2), (3, .int v3), (4, .int v4)] [] h := by
  intro n
  induction n with
  | zero => intro v2 v3 v4 h r hL; cases hL
  | succ n ih =>
    intro v2 v3 v4 h r hL kE kR
    unfold f_X9_widest_l7 at hL
    refine j_iload 4 dX9_widest_7 rfl ?_
    refine j_aload_n 1 dX9_widest_9 rfl ?_
    refine jg_RX9_36 rfl s1 dX9_widest_10 ?_
    refine j_icmp_ge 72 dX9_widest_13 (by decide) (fun z1 => ?_) (fun z1 => ?_)
    · replace hL := (if_pos z1).symm.trans hL
      cases hL
      refine j_sub [2] rfl ?_
      exact kE _ rfl
    · replace hL := (if_neg z1).symm.trans hL
      refine j_aload_n 0 dX9_widest_16 rfl ?_
      refine j_iload 4 dX9_widest_17 rfl ?_
      obtain ⟨q2, hq2, hL⟩ := bnd_ex hL
      refine j_callVi (c_X9_isStrange G a0 s0 v4 h _ hq2) cv_RX9_88 rfl s0 (by decide) rfl (by decide) rfl rfl (Nat.le_of_ble_eq_true rfl) dX9_widest_19 (by decide) ?_
      refine j_ifz_eq 28 dX9_widest_22 (by decide) (fun z3 => ?_) (fun z3 => ?_)
      · replace hL := (if_neg z3).symm.trans hL
        refine j_aload_n 0 dX9_widest_28 rfl ?_
        refine jg_RX9_21 rfl s0 dX9_widest_29 ?_
        refine j_iload 4 dX9_widest_32 rfl ?_
        obtain ⟨g4, hL⟩ := gd_ex hL
        refine j_iald (shf_9_3 s0) (ib_in g4) dX9_widest_34 ?_
        refine j_aload_n 0 dX9_widest_35 rfl ?_
        refine jg_RX9_18 rfl s0 dX9_widest_36 ?_
        refine j_iload 4 dX9_widest_39 rfl ?_
        obtain ⟨g5, hL⟩ := gd_ex hL
        refine j_iald (shf_9_2 s0) (ib_in g5) dX9_widest_41 ?_
        refine j_isub dX9_widest_42 ?_
        refine j_iload_n 3 dX9_widest_43 rfl ?_
        refine j_icmp_le 66 dX9_widest_44 (by decide) (fun z6 => ?_) (fun z6 => ?_)
        · replace hL := (if_pos z6).symm.trans hL
          refine j_iinc (lv' := [(4, .int (v4 + 1)), (0, .ref (ad G a0)), (1, .ref (ad G a1)), (2, .int v2), (3, .int v3)]) 4 dX9_widest_66 rfl rfl (by decide) rfl ?_
          refine j_goto 7 dX9_widest_69 (by decide) ?_
          refine j_sub [1, 2, 3, 4, 0] rfl ?_
          exact ih v2 v3 (v4 + 1) h r hL kE kR
        · replace hL := (if_neg z6).symm.trans hL
          refine j_aload_n 0 dX9_widest_47 rfl ?_
          refine jg_RX9_21 rfl s0 dX9_widest_48 ?_
          refine j_iload 4 dX9_widest_51 rfl ?_
          obtain ⟨g7, hL⟩ := gd_ex hL
          refine j_iald (shf_9_3 s0) (ib_in g7) dX9_widest_53 ?_
          refine j_aload_n 0 dX9_widest_54 rfl ?_
          refine jg_RX9_18 rfl s0 dX9_widest_55 ?_
          refine j_iload 4 dX9_widest_58 rfl ?_
          obtain ⟨g8, hL⟩ := gd_ex hL
          refine j_iald (shf_9_2 s0) (ib_in g8) dX9_widest_60 ?_
          refine j_isub dX9_widest_61 ?_
          refine j_istore_n (lv' := [(3, .int ((hia h (a0 + 4) (cl v4)) - (hia h (a0 + 3) (cl v4)))), (0, .ref (ad G a0)), (1, .ref (ad G a1)), (2, .int v2), (4, .int v4)]) dX9_widest_62 (by decide) rfl ?_
          refine j_iload 4 dX9_widest_63 rfl ?_
          refine j_istore_n (lv' := [(2, .int v4), (3, .int ((hia h (a0 + 4) (cl v4)) - (hia h (a0 + 3) (cl v4)))), (0, .ref (ad G a0)), (1, .ref (ad G a1)), (4, .int v4)]) dX9_widest_65 (by decide) rfl ?_
          refine j_iinc (lv' := [(4, .int (v4 + 1)), (2, .int v4), (3, .int ((hia h (a0 + 4) (cl v4)) - (hia h (a0 + 3) (cl v4)))), (0, .ref (ad G a0)), (1, .ref (ad G a1))]) 4 dX9_widest_66 rfl rfl (by decide) rfl ?_
          refine j_goto 7 dX9_widest_69 (by decide) ?_
          refine j_sub [3, 4, 1, 2, 0] rfl ?_
          exact ih v4 ((hia h (a0 + 4) (cl v4)) - (hia h (a0 + 3) (cl v4))) (v4 + 1) h r hL kE kR
      · replace hL := (if_pos z3).symm.trans hL
        refine j_iload 4 dX9_widest_25 rfl ?_
        cases hL
        exact j_reti dX9_widest_27 rfl (kR _ rfl)

set_option maxRecDepth 20000 in
theorem c_X9_widest (G : GG) (a0 : Nat) (s0 : SH a0 = (9, 0)) (a1 : Nat) (s1 : SH a1 = (0, 0)) (h : AH) (r : Int32) (hL : f_X9_widest a0 a1 h = some r) : SpI G 2 mX9_widest [.ref (ad G a0), .ref (ad G a1)] h r h := by
  refine sp_i pf_X9_widest (Nat.le_of_ble_eq_true rfl) ?_
  show J G mX9_widest 2 0 0 (KMi G r h) 0 [(0, .ref (ad G a0)), (1, .ref (ad G a1))] [] h
  obtain ⟨K, hK⟩ : ∃ K, K = KMi G r h := ⟨_, rfl⟩
  rw [← hK]
  unfold f_X9_widest at hL
  refine j_iconst (-1) dX9_widest_0 (by decide) ?_
  refine j_istore_n (lv' := [(2, .int (-1)), (0, .ref (ad G a0)), (1, .ref (ad G a1))]) dX9_widest_1 (by decide) rfl ?_
  refine j_iconst (-1) dX9_widest_2 (by decide) ?_
  refine j_istore_n (lv' := [(3, .int (-1)), (2, .int (-1)), (0, .ref (ad G a0)), (1, .ref (ad G a1))]) dX9_widest_3 (by decide) rfl ?_
  refine j_iconst 0 dX9_widest_4 (by decide) ?_
  refine j_istore (lv' := [(4, .int 0), (3, .int (-1)), (2, .int (-1)), (0, .ref (ad G a0)), (1, .ref (ad G a1))]) dX9_widest_5 (by decide) rfl ?_
  obtain ⟨q9, hq9, hL⟩ := bnd_ex hL
  refine j_sub [3, 4, 2, 1, 0] rfl ?_
  refine cl_X9_widest_7 G K a0 a1 s0 s1 FU (-1) (-1) 0 h q9 hq9 (fun xq9 eq9 => ?_) (fun xq9 eq9 => ?_)
  · subst eq9
    refine j_iload_n 0 dX9_widest_72 rfl ?_
    cases hL
    exact j_reti dX9_widest_73 rfl hK
  · subst eq9
    cases hL
    exact hK

def f_X3_copy (a0 : Nat) (a1 : Nat) (h : AH) : Option (AH) := gd (cpOK 0 0 40 40 40) (lt (sir h (a0 + 1) (va_cpy (hia h (a1 + 1)) (hia h (a0 + 1)) (cl 0) (cl 0) (cl 40))) (fun h2 => gd (cpOK 0 0 40 40 40) (lt (sir h2 (a0 + 2) (va_cpy (hia h2 (a1 + 2)) (hia h2 (a0 + 2)) (cl 0) (cl 0) (cl 40))) (fun h4 => some h4))))
set_option maxRecDepth 20000 in
theorem c_X3_copy (G : GG) (a0 : Nat) (s0 : SH a0 = (3, 0)) (a1 : Nat) (s1 : SH a1 = (3, 0)) (h : AH) (r : AH) (hL : f_X3_copy a0 a1 h = some r) : SpV G 1 mX3_copy [.ref (ad G a0), .ref (ad G a1)] h r := by
  refine sp_v pf_X3_copy (Nat.le_of_ble_eq_true rfl) ?_
  show J G mX3_copy 1 0 0 (KMv G r) 0 [(0, .ref (ad G a0)), (1, .ref (ad G a1))] [] h
  obtain ⟨K, hK⟩ : ∃ K, K = KMv G r := ⟨_, rfl⟩
  rw [← hK]
  unfold f_X3_copy at hL
  refine j_aload_n 1 dX3_copy_0 rfl ?_
  refine jg_RX3_9 rfl s1 dX3_copy_1 ?_
  refine j_iconst 0 dX3_copy_4 (by decide) ?_
  refine j_aload_n 0 dX3_copy_5 rfl ?_
  refine jg_RX3_9 rfl s0 dX3_copy_6 ?_
  refine j_iconst 0 dX3_copy_9 (by decide) ?_
  refine j_bipush 40 dX3_copy_10 (by decide) ?_
  obtain ⟨g1, hL⟩ := gd_ex hL
  refine j_copy rfl km_RX3_24 kv_java_lang_System_arraycopy__Ljava_lang_Object_ILjava_lang_Object_II_V (shf_3_0 s1) (shf_3_0 s0) (by decide) g1.1 g1.2.1 g1.2.2.1 g1.2.2.2.1 g1.2.2.2.2 (by decide) dX3_copy_12 ?_ kt_java_lang_System_arraycopy__Ljava_lang_Object_ILjava_lang_Object_II_V
  obtain ⟨h2, eh2, hL⟩ := lt_ex hL
  refine j_heap eh2 ?_
  refine j_aload_n 1 dX3_copy_15 rfl ?_
  refine jg_RX3_15 rfl s1 dX3_copy_16 ?_
  refine j_iconst 0 dX3_copy_19 (by decide) ?_
  refine j_aload_n 0 dX3_copy_20 rfl ?_
  refine jg_RX3_15 rfl s0 dX3_copy_21 ?_
  refine j_iconst 0 dX3_copy_24 (by decide) ?_
  refine j_bipush 40 dX3_copy_25 (by decide) ?_
  obtain ⟨g3, hL⟩ := gd_ex hL
  refine j_copy rfl km_RX3_24 kv_java_lang_System_arraycopy__Ljava_lang_Object_ILjava_lang_Object_II_V (shf_3_1 s1) (shf_3_1 s0) (by decide) g3.1 g3.2.1 g3.2.2.1 g3.2.2.2.1 g3.2.2.2.2 (by decide) dX3_copy_27 ?_ kt_java_lang_System_arraycopy__Ljava_lang_Object_ILjava_lang_Object_II_V
  obtain ⟨h4, eh4, hL⟩ := lt_ex hL
  refine j_heap eh4 ?_
  cases hL
  exact j_retv dX3_copy_30 rfl hK

def f_X11_image_l2  : Nat → Int32 → AH → Option (AH)
  | 0, _, _ => none
  | n + 1, v1, h => if 6 ≤ v1 then some h else gd (ib v1 6 = true) (gd (SH (hra h 3 (cl v1)) = (0, 0)) (gd (ib v1 6 = true) (gd (SH (hra h 3 (cl v1)) = (0, 0)) (bnd (f_X3_copy (hra h 3 (cl v1) + 10) (hra h 3 (cl v1) + 7) h) (fun q6 => f_X11_image_l2 n (v1 + 1) q6)))))
def f_X11_image  (h : AH) : Option (AH) := bnd (f_X11_image_l2 FU 0 h) (fun q7 => gd (cpOK 0 0 4 4 4) (lt (sir q7 32 (va_cpy (hia q7 31) (hia q7 32) (cl 0) (cl 0) (cl 4))) (fun h9 => lt (sfi h9 0 10 1) (fun h10 => some h10))))
set_option maxRecDepth 20000 in
theorem cl_X11_image_2 (G : GG) (K : KQ)   : ∀ (n : Nat) (v1 : Int32) (h : AH) (r : AH), f_X11_image_l2 n v1 h = some r → J G mX11_image 2 0 0 K 35 [(0, .ref (ad G 0))] [] r → J G mX11_image 2 0 0 K 2 [(0, .ref (ad G 0)), (1, .int v1)] [] h := by
  intro n
  induction n with
  | zero => intro v1 h r hL; cases hL
  | succ n ih =>
    intro v1 h r hL kE
    unfold f_X11_image_l2 at hL
    refine j_iload_n 1 dX11_image_2 rfl ?_
    refine j_bipush 6 dX11_image_3 (by decide) ?_
    refine j_icmp_ge 35 dX11_image_5 (by decide) (fun z1 => ?_) (fun z1 => ?_)
    · replace hL := (if_pos z1).symm.trans hL
      cases hL
      refine j_sub [0] rfl ?_
      exact kE 
    · replace hL := (if_neg z1).symm.trans hL
      refine j_aload_n 0 dX11_image_8 rfl ?_
      refine jg_RX11_18 rfl sh_0 dX11_image_9 ?_
      refine j_iload_n 1 dX11_image_12 rfl ?_
      obtain ⟨g2, hL⟩ := gd_ex hL
      refine j_aldB (shf_11_1 sh_0) (ib_in g2) dX11_image_13 ?_
      obtain ⟨g3, hL⟩ := gd_ex hL
      refine jg_RX11_409 rfl g3 dX11_image_14 ?_
      refine j_aload_n 0 dX11_image_17 rfl ?_
      refine jg_RX11_18 rfl sh_0 dX11_image_18 ?_
      refine j_iload_n 1 dX11_image_21 rfl ?_
      obtain ⟨g4, hL⟩ := gd_ex hL
      refine j_aldB (shf_11_1 sh_0) (ib_in g4) dX11_image_22 ?_
      obtain ⟨g5, hL⟩ := gd_ex hL
      refine jg_RX11_250 rfl g5 dX11_image_23 ?_
      obtain ⟨q6, hq6, hL⟩ := bnd_ex hL
      refine j_callVv (c_X3_copy G (hra h 3 (cl v1) + 10) (shf_0_13 g3) (hra h 3 (cl v1) + 7) (shf_0_12 g5) h _ hq6) cv_RX11_412 rfl (shf_0_13 g3) (by decide) rfl (by decide) rfl rfl (Nat.le_of_ble_eq_true rfl) dX11_image_26 (by decide) ?_
      refine j_iinc (lv' := [(1, .int (v1 + 1)), (0, .ref (ad G 0))]) 1 dX11_image_29 rfl rfl (by decide) rfl ?_
      refine j_goto 2 dX11_image_32 (by decide) ?_
      refine j_sub [1, 0] rfl ?_
      exact ih (v1 + 1) q6 r hL kE

set_option maxRecDepth 20000 in
theorem c_X11_image (G : GG)  (h : AH) (r : AH) (hL : f_X11_image h = some r) : SpV G 2 mX11_image [.ref (ad G 0)] h r := by
  refine sp_v pf_X11_image (Nat.le_of_ble_eq_true rfl) ?_
  show J G mX11_image 2 0 0 (KMv G r) 0 [(0, .ref (ad G 0))] [] h
  obtain ⟨K, hK⟩ : ∃ K, K = KMv G r := ⟨_, rfl⟩
  rw [← hK]
  unfold f_X11_image at hL
  refine j_iconst 0 dX11_image_0 (by decide) ?_
  refine j_istore_n (lv' := [(1, .int 0), (0, .ref (ad G 0))]) dX11_image_1 (by decide) rfl ?_
  obtain ⟨q7, hq7, hL⟩ := bnd_ex hL
  refine j_sub [1, 0] rfl ?_
  refine cl_X11_image_2 G K  FU 0 h q7 hq7 ?_
  refine j_aload_n 0 dX11_image_35 rfl ?_
  refine jg_RX11_55 rfl sh_0 dX11_image_36 ?_
  refine j_iconst 0 dX11_image_39 (by decide) ?_
  refine j_aload_n 0 dX11_image_40 rfl ?_
  refine jg_RX11_59 rfl sh_0 dX11_image_41 ?_
  refine j_iconst 0 dX11_image_44 (by decide) ?_
  refine j_iconst 4 dX11_image_45 (by decide) ?_
  obtain ⟨g8, hL⟩ := gd_ex hL
  refine j_copy rfl km_RX11_416 kv_java_lang_System_arraycopy__Ljava_lang_Object_ILjava_lang_Object_II_V (shf_11_8 sh_0) (shf_11_9 sh_0) (by decide) g8.1 g8.2.1 g8.2.2.1 g8.2.2.2.1 g8.2.2.2.2 (by decide) dX11_image_46 ?_ kt_java_lang_System_arraycopy__Ljava_lang_Object_ILjava_lang_Object_II_V
  obtain ⟨h9, eh9, hL⟩ := lt_ex hL
  refine j_heap eh9 ?_
  refine j_aload_n 0 dX11_image_49 rfl ?_
  refine j_iconst 1 dX11_image_50 (by decide) ?_
  refine jp_RX11_422 rfl sh_0 rfl rfl dX11_image_51 ?_
  obtain ⟨h10, eh10, hL⟩ := lt_ex hL
  refine j_heap eh10 ?_
  cases hL
  exact j_retv dX11_image_54 rfl hK

def f_X11_restore_l11  : Nat → Int32 → AH → Option (AH)
  | 0, _, _ => none
  | n + 1, v1, h => if 6 ≤ v1 then some h else gd (ib v1 6 = true) (gd (SH (hra h 3 (cl v1)) = (0, 0)) (gd (ib v1 6 = true) (gd (SH (hra h 3 (cl v1)) = (0, 0)) (bnd (f_X3_copy (hra h 3 (cl v1) + 7) (hra h 3 (cl v1) + 10) h) (fun q7 => f_X11_restore_l11 n (v1 + 1) q7)))))
def f_X11_restore  (h : AH) : Option (Bool × AH) := if (hfi h 0 10) = 0 then some (false, h) else bnd (f_X11_restore_l11 FU 0 h) (fun q8 => gd (cpOK 0 0 4 4 4) (lt (sir q8 31 (va_cpy (hia q8 32) (hia q8 31) (cl 0) (cl 0) (cl 4))) (fun h10 => some (true, h10))))
set_option maxRecDepth 20000 in
theorem cl_X11_restore_11 (G : GG) (K : KQ)   : ∀ (n : Nat) (v1 : Int32) (h : AH) (r : AH), f_X11_restore_l11 n v1 h = some r → J G mX11_restore 2 0 0 K 44 [(0, .ref (ad G 0))] [] r → J G mX11_restore 2 0 0 K 11 [(0, .ref (ad G 0)), (1, .int v1)] [] h := by
  intro n
  induction n with
  | zero => intro v1 h r hL; cases hL
  | succ n ih =>
    intro v1 h r hL kE
    unfold f_X11_restore_l11 at hL
    refine j_iload_n 1 dX11_restore_11 rfl ?_
    refine j_bipush 6 dX11_restore_12 (by decide) ?_
    refine j_icmp_ge 44 dX11_restore_14 (by decide) (fun z2 => ?_) (fun z2 => ?_)
    · replace hL := (if_pos z2).symm.trans hL
      cases hL
      refine j_sub [0] rfl ?_
      exact kE 
    · replace hL := (if_neg z2).symm.trans hL
      refine j_aload_n 0 dX11_restore_17 rfl ?_
      refine jg_RX11_18 rfl sh_0 dX11_restore_18 ?_
      refine j_iload_n 1 dX11_restore_21 rfl ?_
      obtain ⟨g3, hL⟩ := gd_ex hL
      refine j_aldB (shf_11_1 sh_0) (ib_in g3) dX11_restore_22 ?_
      obtain ⟨g4, hL⟩ := gd_ex hL
      refine jg_RX11_250 rfl g4 dX11_restore_23 ?_
      refine j_aload_n 0 dX11_restore_26 rfl ?_
      refine jg_RX11_18 rfl sh_0 dX11_restore_27 ?_
      refine j_iload_n 1 dX11_restore_30 rfl ?_
      obtain ⟨g5, hL⟩ := gd_ex hL
      refine j_aldB (shf_11_1 sh_0) (ib_in g5) dX11_restore_31 ?_
      obtain ⟨g6, hL⟩ := gd_ex hL
      refine jg_RX11_409 rfl g6 dX11_restore_32 ?_
      obtain ⟨q7, hq7, hL⟩ := bnd_ex hL
      refine j_callVv (c_X3_copy G (hra h 3 (cl v1) + 7) (shf_0_12 g4) (hra h 3 (cl v1) + 10) (shf_0_13 g6) h _ hq7) cv_RX11_412 rfl (shf_0_12 g4) (by decide) rfl (by decide) rfl rfl (Nat.le_of_ble_eq_true rfl) dX11_restore_35 (by decide) ?_
      refine j_iinc (lv' := [(1, .int (v1 + 1)), (0, .ref (ad G 0))]) 1 dX11_restore_38 rfl rfl (by decide) rfl ?_
      refine j_goto 11 dX11_restore_41 (by decide) ?_
      refine j_sub [1, 0] rfl ?_
      exact ih (v1 + 1) q7 r hL kE

set_option maxRecDepth 20000 in
theorem c_X11_restore (G : GG)  (h : AH) (r : Bool × AH) (hL : f_X11_restore h = some r) : SpI G 2 mX11_restore [.ref (ad G 0)] h (bI r.1) r.2 := by
  refine sp_i pf_X11_restore (Nat.le_of_ble_eq_true rfl) ?_
  show J G mX11_restore 2 0 0 (KMi G (bI r.1) r.2) 0 [(0, .ref (ad G 0))] [] h
  obtain ⟨K, hK⟩ : ∃ K, K = KMi G (bI r.1) r.2 := ⟨_, rfl⟩
  rw [← hK]
  unfold f_X11_restore at hL
  refine j_aload_n 0 dX11_restore_0 rfl ?_
  refine jg_RX11_422 rfl sh_0 dX11_restore_1 ?_
  refine j_if_ne 9 dX11_restore_4 (by decide) (fun z1 => ?_) (fun z1 => ?_)
  · replace hL := (if_neg z1).symm.trans hL
    refine j_iconst 0 dX11_restore_9 (by decide) ?_
    refine j_istore_n (lv' := [(1, .int 0), (0, .ref (ad G 0))]) dX11_restore_10 (by decide) rfl ?_
    obtain ⟨q8, hq8, hL⟩ := bnd_ex hL
    refine j_sub [1, 0] rfl ?_
    refine cl_X11_restore_11 G K  FU 0 h q8 hq8 ?_
    refine j_aload_n 0 dX11_restore_44 rfl ?_
    refine jg_RX11_59 rfl sh_0 dX11_restore_45 ?_
    refine j_iconst 0 dX11_restore_48 (by decide) ?_
    refine j_aload_n 0 dX11_restore_49 rfl ?_
    refine jg_RX11_55 rfl sh_0 dX11_restore_50 ?_
    refine j_iconst 0 dX11_restore_53 (by decide) ?_
    refine j_iconst 4 dX11_restore_54 (by decide) ?_
    obtain ⟨g9, hL⟩ := gd_ex hL
    refine j_copy rfl km_RX11_416 kv_java_lang_System_arraycopy__Ljava_lang_Object_ILjava_lang_Object_II_V (shf_11_9 sh_0) (shf_11_8 sh_0) (by decide) g9.1 g9.2.1 g9.2.2.1 g9.2.2.2.1 g9.2.2.2.2 (by decide) dX11_restore_55 ?_ kt_java_lang_System_arraycopy__Ljava_lang_Object_ILjava_lang_Object_II_V
    obtain ⟨h10, eh10, hL⟩ := lt_ex hL
    refine j_heap eh10 ?_
    refine j_iconst 1 dX11_restore_58 (by decide) ?_
    cases hL
    exact j_ret1 dX11_restore_59 rfl hK
  · replace hL := (if_pos z1).symm.trans hL
    refine j_iconst 0 dX11_restore_7 (by decide) ?_
    cases hL
    exact j_ret0 dX11_restore_8 rfl hK

