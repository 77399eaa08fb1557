def f_X10_writeLine (a0 : Nat) (a1 : Nat) (h : AH) : Option (AH) := bnd (f_X7_takes a1 12 h) (fun q1 => if q1.1 = true then bnd (f_X7_number a1 0 11 q1.2) (fun q3 => gd (ib q3.1 12 = true) (lt (fun  (h8 : AH) => bnd (f_X7_number a1 1 99 h8) (fun q9 => bnd (f_X7_takes a1 13 q9.2) (fun q10 => lt (fun (x14 : Int32) (h15 : AH) => if (hfi h15 a1 1) = 0 then gd (ib q3.1 12 = true) (lt (sia h15 (a0 + 1) (cl q3.1) q9.1) (fun h18 => gd (ib q3.1 12 = true) (lt (sia h18 (a0 + 2) (cl q3.1) x14) (fun h20 => some h20)))) else some h15) (fun j12 => if q10.1 = true then bnd (f_X7_number a1 0 50 q10.2) (fun q13 => j12 q13.1 q13.2) else j12 0 q10.2)))) (fun j6 => if (hia q3.2 (a0 + 1) (cl q3.1)) ≤ 0 then j6  q3.2 else bnd (f_X7_blame a1 5 (hfi q3.2 a1 4) q3.2) (fun q7 => j6  q7)))) else bnd (f_X7_blame a1 1 (hfi q1.2 a1 3) q1.2) (fun q21 => some q21))
set_option maxRecDepth 20000 in
theorem c_X10_writeLine (G : GG) (a0 : Nat) (s0 : SH a0 = (10, 0)) (a1 : Nat) (s1 : SH a1 = (7, 0)) (h : AH) (r : AH) (hL : f_X10_writeLine a0 a1 h = some r) : SpV G 7 mX10_writeLine [.ref (ad G a0), .ref (ad G a1)] h r := by
  refine sp_v pf_X10_writeLine (Nat.le_of_ble_eq_true rfl) ?_
  show J G mX10_writeLine 7 0 0 (KMv G r) 0 [(0, .ref (ad G a0)), (1, .ref (ad G a1))] [] h
  obtain ⟨K, hK⟩ : ∃ K, K = KMv G r := ⟨_, rfl⟩
  rw [← hK]
  unfold f_X10_writeLine at hL
  refine j_aload_n 1 dX10_writeLine_0 rfl ?_
  refine j_ldcS rfl (List.mem_of_getElem? (i := 12) rfl) dX10_writeLine_1 ?_
  obtain ⟨q1, hq1, hL⟩ := bnd_ex hL
  refine j_callVi (c_X7_takes G a1 s1 12 h _ hq1) cv_RX10_39 rfl s1 (by decide) rfl (by decide) rfl rfl (Nat.le_of_ble_eq_true rfl) dX10_writeLine_3 (by decide) ?_
  refine j_ifz_ne 19 dX10_writeLine_6 (by decide) (fun z2 => ?_) (fun z2 => ?_)
  · replace hL := (if_pos z2).symm.trans hL
    refine j_aload_n 1 dX10_writeLine_19 rfl ?_
    refine j_iconst 0 dX10_writeLine_20 (by decide) ?_
    refine j_bipush 11 dX10_writeLine_21 (by decide) ?_
    obtain ⟨q3, hq3, hL⟩ := bnd_ex hL
    refine j_callVi (c_X7_number G a1 s1 0 11 q1.2 _ hq3) cv_RX10_51 rfl s1 (by decide) rfl (by decide) rfl rfl (Nat.le_of_ble_eq_true rfl) dX10_writeLine_23 (by decide) ?_
    refine j_istore_n (lv' := [(2, .int q3.1), (0, .ref (ad G a0)), (1, .ref (ad G a1))]) dX10_writeLine_26 (by decide) rfl ?_
    refine j_aload_n 1 dX10_writeLine_27 rfl ?_
    refine jg_RX10_9 rfl s0 dX10_writeLine_28 ?_
    refine j_iload_n 0 dX10_writeLine_31 rfl ?_
    obtain ⟨g4, hL⟩ := gd_ex hL
    refine j_iald (shf_10_0 s0) (ib_in g4) dX10_writeLine_32 ?_
    obtain ⟨j6, ej6, hL⟩ := lt_ex hL
    have kj6 : ∀  (h8 : AH), j6  h8 = some r → J G mX10_writeLine 7 0 0 K 45 [(0, .ref (ad G a0)), (1, .ref (ad G a1)), (2, .int q3.1)] [] h8 := by
      intro  h8 hL
      rw [ej6] at hL
      replace hL : (bnd (f_X7_number a1 1 99 h8) (fun q9 => bnd (f_X7_takes a1 13 q9.2) (fun q10 => lt (fun (x14 : Int32) (h15 : AH) => if (hfi h15 a1 1) = 0 then gd (ib q3.1 12 = true) (lt (sia h15 (a0 + 1) (cl q3.1) q9.1) (fun h18 => gd (ib q3.1 12 = true) (lt (sia h18 (a0 + 2) (cl q3.1) x14) (fun h20 => some h20)))) else some h15) (fun j12 => if q10.1 = true then bnd (f_X7_number a1 0 50 q10.2) (fun q13 => j12 q13.1 q13.2) else j12 0 q10.2)))) = some r := hL
      refine j_aload_n 1 dX10_writeLine_45 rfl ?_
      refine j_iconst 1 dX10_writeLine_46 (by decide) ?_
      refine j_bipush 99 dX10_writeLine_47 (by decide) ?_
      obtain ⟨q9, hq9, hL⟩ := bnd_ex hL
      refine j_callVi (c_X7_number G a1 s1 1 99 h8 _ hq9) cv_RX10_51 rfl s1 (by decide) rfl (by decide) rfl rfl (Nat.le_of_ble_eq_true rfl) dX10_writeLine_49 (by decide) ?_
      refine j_istore_n (lv' := [(3, .int q9.1), (0, .ref (ad G a0)), (1, .ref (ad G a1)), (2, .int q3.1)]) dX10_writeLine_52 (by decide) rfl ?_
      refine j_aload_n 2 dX10_writeLine_53 rfl ?_
      refine j_ldcS rfl (List.mem_of_getElem? (i := 13) rfl) dX10_writeLine_54 ?_
      obtain ⟨q10, hq10, hL⟩ := bnd_ex hL
      refine j_callVi (c_X7_takes G a1 s1 13 q9.2 _ hq10) cv_RX10_39 rfl s1 (by decide) rfl (by decide) rfl rfl (Nat.le_of_ble_eq_true rfl) dX10_writeLine_56 (by decide) ?_
      obtain ⟨j12, ej12, hL⟩ := lt_ex hL
      have kj12 : ∀ (x14 : Int32) (h15 : AH), j12 x14 h15 = some r → J G mX10_writeLine 7 0 0 K 73 [(0, .ref (ad G a0)), (1, .ref (ad G a1)), (2, .int q3.1), (3, .int q9.1)] [.int x14] h15 := by
        intro x14 h15 hL
        rw [ej12] at hL
        replace hL : (if (hfi h15 a1 1) = 0 then gd (ib q3.1 12 = true) (lt (sia h15 (a0 + 1) (cl q3.1) q9.1) (fun h18 => gd (ib q3.1 12 = true) (lt (sia h18 (a0 + 2) (cl q3.1) x14) (fun h20 => some h20)))) else some h15) = some r := hL
        refine j_istore (lv' := [(4, .int x14), (0, .ref (ad G a0)), (1, .ref (ad G a1)), (2, .int q3.1), (3, .int q9.1)]) dX10_writeLine_73 (by decide) rfl ?_
        refine j_aload_n 2 dX10_writeLine_75 rfl ?_
        refine jg_RX10_60 rfl s1 dX10_writeLine_76 ?_
        refine j_if_ne 97 dX10_writeLine_79 (by decide) (fun z16 => ?_) (fun z16 => ?_)
        · replace hL := (if_neg z16).symm.trans hL
          cases hL
          exact j_retv dX10_writeLine_97 rfl hK
        · replace hL := (if_pos z16).symm.trans hL
          refine j_aload_n 1 dX10_writeLine_82 rfl ?_
          refine jg_RX10_9 rfl s0 dX10_writeLine_83 ?_
          refine j_iload_n 3 dX10_writeLine_86 rfl ?_
          refine j_iload_n 4 dX10_writeLine_87 rfl ?_
          obtain ⟨g17, hL⟩ := gd_ex hL
          refine j_iast (shf_10_0 s0) (ib_in g17) dX10_writeLine_88 ?_
          obtain ⟨h18, eh18, hL⟩ := lt_ex hL
          refine j_heap eh18 ?_
          refine j_aload_n 1 dX10_writeLine_89 rfl ?_
          refine jg_RX10_15 rfl s0 dX10_writeLine_90 ?_
          refine j_iload_n 3 dX10_writeLine_93 rfl ?_
          refine j_iload 0 dX10_writeLine_94 rfl ?_
          obtain ⟨g19, hL⟩ := gd_ex hL
          refine j_iast (shf_10_1 s0) (ib_in g19) dX10_writeLine_96 ?_
          obtain ⟨h20, eh20, hL⟩ := lt_ex hL
          refine j_heap eh20 ?_
          cases hL
          exact j_retv dX10_writeLine_97 rfl hK
      refine j_ifz_eq 72 dX10_writeLine_59 (by decide) (fun z11 => ?_) (fun z11 => ?_)
      · replace hL := (if_neg z11).symm.trans hL
        refine j_iconst 0 dX10_writeLine_72 (by decide) ?_
        refine j_sub [1, 2, 3, 0] rfl ?_
        exact kj12 0 q10.2 hL
      · replace hL := (if_pos z11).symm.trans hL
        refine j_aload_n 2 dX10_writeLine_62 rfl ?_
        refine j_iconst 0 dX10_writeLine_63 (by decide) ?_
        refine j_bipush 50 dX10_writeLine_64 (by decide) ?_
        obtain ⟨q13, hq13, hL⟩ := bnd_ex hL
        refine j_callVi (c_X7_number G a1 s1 0 50 q10.2 _ hq13) cv_RX10_51 rfl s1 (by decide) rfl (by decide) rfl rfl (Nat.le_of_ble_eq_true rfl) dX10_writeLine_66 (by decide) ?_
        refine j_goto 73 dX10_writeLine_69 (by decide) ?_
        refine j_sub [1, 2, 3, 0] rfl ?_
        exact kj12 q13.1 q13.2 hL
    refine j_if_le 45 dX10_writeLine_33 (by decide) (fun z5 => ?_) (fun z5 => ?_)
    · replace hL := (if_pos z5).symm.trans hL
      refine j_sub [1, 2, 0] rfl ?_
      exact kj6  q3.2 hL
    · replace hL := (if_neg z5).symm.trans hL
      refine j_aload_n 2 dX10_writeLine_36 rfl ?_
      refine j_iconst 5 dX10_writeLine_37 (by decide) ?_
      refine j_aload_n 2 dX10_writeLine_38 rfl ?_
      refine jg_RX10_55 rfl s1 dX10_writeLine_39 ?_
      obtain ⟨q7, hq7, hL⟩ := bnd_ex hL
      refine j_callVv (c_X7_blame G a1 s1 5 (hfi q3.2 a1 4) q3.2 _ hq7) cv_RX10_47 rfl s1 (by decide) rfl (by decide) rfl rfl (Nat.le_of_ble_eq_true rfl) dX10_writeLine_42 (by decide) ?_
      refine j_sub [1, 2, 0] rfl ?_
      exact kj6  q7 hL
  · replace hL := (if_neg z2).symm.trans hL
    refine j_aload_n 1 dX10_writeLine_9 rfl ?_
    refine j_iconst 1 dX10_writeLine_10 (by decide) ?_
    refine j_aload_n 1 dX10_writeLine_11 rfl ?_
    refine jg_RX10_43 rfl s1 dX10_writeLine_12 ?_
    obtain ⟨q21, hq21, hL⟩ := bnd_ex hL
    refine j_callVv (c_X7_blame G a1 s1 1 (hfi q1.2 a1 3) q1.2 _ hq21) cv_RX10_47 rfl s1 (by decide) rfl (by decide) rfl rfl (Nat.le_of_ble_eq_true rfl) dX10_writeLine_15 (by decide) ?_
    cases hL
    exact j_retv dX10_writeLine_18 rfl hK

def f_X10_write_l18 (a0 : Nat) (a1 : Nat) : Nat → Int32 → AH → Option (AH)
  | 0, _, _ => none
  | n + 1, v2, h => if 500 ≤ v2 then some h else if (f_X7_hasMore a1 h) = true then bnd (f_X10_writeLine a0 a1 h) (fun q5 => bnd (f_X7_endLine a1 q5) (fun q6 => f_X10_write_l18 a0 a1 n (v2 + 1) q6)) else some h
def f_X10_write (a0 : Nat) (a1 : Nat) (h : AH) : Option (AH) := bnd (f_J7_fill_53178 (a0 + 1) 12 0 h) (fun q1 => bnd (f_J7_fill_53178 (a0 + 2) 12 0 q1) (fun q2 => bnd (f_X10_write_l18 a0 a1 FU 0 q2) (fun q7 => some q7)))
set_option maxRecDepth 20000 in
theorem cl_X10_write_18 (G : GG) (K : KQ) (a0 : Nat) (a1 : Nat) (s0 : SH a0 = (10, 0)) (s1 : SH a1 = (7, 0)) : ∀ (n : Nat) (v2 : Int32) (h : AH) (r : AH), f_X10_write_l18 a0 a1 n v2 h = some r → J G mX10_write 8 0 0 K 47 [] [] r → J G mX10_write 8 0 0 K 18 [(0, .ref (ad G a0)), (1, .ref (ad G a1)), (2, .int v2)] [] h := by
  intro n
  induction n with
  | zero => intro v2 h r hL; cases hL
  | succ n ih =>
    intro v2 h r hL kE
    unfold f_X10_write_l18 at hL
    refine j_iload_n 2 dX10_write_18 rfl ?_
    refine j_sipush 500 dX10_write_19 (by decide) ?_
    refine j_icmp_ge 47 dX10_write_22 (by decide) (fun z3 => ?_) (fun z3 => ?_)
    · replace hL := (if_pos z3).symm.trans hL
      cases hL
      refine j_sub [] rfl ?_
      exact kE 
    · replace hL := (if_neg z3).symm.trans hL
      refine j_aload_n 1 dX10_write_25 rfl ?_
      refine j_callVi (c_X7_hasMore G a1 s1 h) cv_RX10_24 rfl s1 (by decide) rfl (by decide) rfl rfl (Nat.le_of_ble_eq_true rfl) dX10_write_26 (by decide) ?_
      refine j_ifz_eq 47 dX10_write_29 (by decide) (fun z4 => ?_) (fun z4 => ?_)
      · replace hL := (if_neg z4).symm.trans hL
        cases hL
        refine j_sub [] rfl ?_
        exact kE 
      · replace hL := (if_pos z4).symm.trans hL
        refine j_aload_n 0 dX10_write_32 rfl ?_
        refine j_aload_n 1 dX10_write_33 rfl ?_
        obtain ⟨q5, hq5, hL⟩ := bnd_ex hL
        refine j_callVv (c_X10_writeLine G a0 s0 a1 s1 h _ hq5) cv_RX10_30 rfl s0 (by decide) rfl (by decide) rfl rfl (Nat.le_of_ble_eq_true rfl) dX10_write_34 (by decide) ?_
        refine j_aload_n 1 dX10_write_37 rfl ?_
        obtain ⟨q6, hq6, hL⟩ := bnd_ex hL
        refine j_callVv (c_X7_endLine G a1 s1 q5 _ hq6) cv_RX10_34 rfl s1 (by decide) rfl (by decide) rfl rfl (Nat.le_of_ble_eq_true rfl) dX10_write_38 (by decide) ?_
        refine j_iinc (lv' := [(2, .int (v2 + 1)), (0, .ref (ad G a0)), (1, .ref (ad G a1))]) 2 dX10_write_41 rfl rfl (by decide) rfl ?_
        refine j_goto 18 dX10_write_44 (by decide) ?_
        refine j_sub [1, 2, 0] rfl ?_
        exact ih (v2 + 1) q6 r hL kE

set_option maxRecDepth 20000 in
theorem c_X10_write (G : GG) (a0 : Nat) (s0 : SH a0 = (10, 0)) (a1 : Nat) (s1 : SH a1 = (7, 0)) (h : AH) (r : AH) (hL : f_X10_write a0 a1 h = some r) : SpV G 8 mX10_write [.ref (ad G a0), .ref (ad G a1)] h r := by
  refine sp_v pf_X10_write (Nat.le_of_ble_eq_true rfl) ?_
  show J G mX10_write 8 0 0 (KMv G r) 0 [(0, .ref (ad G a0)), (1, .ref (ad G a1))] [] h
  obtain ⟨K, hK⟩ : ∃ K, K = KMv G r := ⟨_, rfl⟩
  rw [← hK]
  unfold f_X10_write at hL
  refine j_aload_n 0 dX10_write_0 rfl ?_
  refine jg_RX10_9 rfl s0 dX10_write_1 ?_
  refine j_iconst 0 dX10_write_4 (by decide) ?_
  obtain ⟨q1, hq1, hL⟩ := bnd_ex hL
  refine j_callSv (c_J7_fill_53178 G (a0 + 1) 12 (shf_10_0 s0) 0 h _ hq1) cv_RX10_18 rfl (by decide) rfl rfl (Nat.le_of_ble_eq_true rfl) dX10_write_5 (by decide) ?_
  refine j_aload_n 0 dX10_write_8 rfl ?_
  refine jg_RX10_15 rfl s0 dX10_write_9 ?_
  refine j_iconst 0 dX10_write_12 (by decide) ?_
  obtain ⟨q2, hq2, hL⟩ := bnd_ex hL
  refine j_callSv (c_J7_fill_53178 G (a0 + 2) 12 (shf_10_1 s0) 0 q1 _ hq2) cv_RX10_18 rfl (by decide) rfl rfl (Nat.le_of_ble_eq_true rfl) dX10_write_13 (by decide) ?_
  refine j_iconst 0 dX10_write_16 (by decide) ?_
  refine j_istore_n (lv' := [(2, .int 0), (0, .ref (ad G a0)), (1, .ref (ad G a1))]) dX10_write_17 (by decide) rfl ?_
  obtain ⟨q7, hq7, hL⟩ := bnd_ex hL
  refine j_sub [1, 2, 0] rfl ?_
  refine cl_X10_write_18 G K a0 a1 s0 s1 FU 0 q2 q7 hq7 ?_
  cases hL
  exact j_retv dX10_write_47 rfl hK

def f_X11_fault  (h : AH) : Int32 := (hfi h 1 2)
set_option maxRecDepth 20000 in
theorem c_X11_fault (G : GG)  (h : AH) : SpI G 1 mX11_fault [.ref (ad G 0)] h (f_X11_fault h) h := by
  obtain ⟨r, hL⟩ : ∃ r, f_X11_fault h = r := ⟨_, rfl⟩
  rw [hL]
  refine sp_i pf_X11_fault (Nat.le_of_ble_eq_true rfl) ?_
  show J G mX11_fault 1 0 0 (KMi G r h) 0 [(0, .ref (ad G 0))] [] h
  obtain ⟨K, hK⟩ : ∃ K, K = KMi G r h := ⟨_, rfl⟩
  rw [← hK]
  unfold f_X11_fault at hL
  refine j_aload_n 0 dX11_fault_0 rfl ?_
  refine jg_RX11_10 rfl sh_0 dX11_fault_1 ?_
  refine jg_RX11_145 rfl (shf_11_0 sh_0) dX11_fault_4 ?_
  subst hL
  exact j_reti dX11_fault_7 rfl hK

def f_X3_wasRead (a0 : Nat) (v1 : Int32) (h : AH) : Option (Bool) := gd (ib v1 40 = true) (if (hia h (a0 + 1) (cl v1)) = (-1) then some false else some true)
set_option maxRecDepth 20000 in
theorem c_X3_wasRead (G : GG) (a0 : Nat) (s0 : SH a0 = (3, 0)) (v1 : Int32) (h : AH) (r : Bool) (hL : f_X3_wasRead a0 v1 h = some r) : SpI G 1 mX3_wasRead [.ref (ad G a0), .int v1] h (bI r) h := by
  refine sp_i pf_X3_wasRead (Nat.le_of_ble_eq_true rfl) ?_
  show J G mX3_wasRead 1 0 0 (KMi G (bI r) h) 0 [(0, .ref (ad G a0)), (1, .int v1)] [] h
  obtain ⟨K, hK⟩ : ∃ K, K = KMi G (bI r) h := ⟨_, rfl⟩
  rw [← hK]
  unfold f_X3_wasRead at hL
  refine j_aload_n 0 dX3_wasRead_0 rfl ?_
  refine jg_RX3_9 rfl s0 dX3_wasRead_1 ?_
  refine j_iload_n 1 dX3_wasRead_4 rfl ?_
  obtain ⟨g1, hL⟩ := gd_ex hL
  refine j_iald (shf_3_0 s0) (ib_in g1) dX3_wasRead_5 ?_
  refine j_iconst (-1) dX3_wasRead_6 (by decide) ?_
  refine j_icmp_eq 14 dX3_wasRead_7 (by decide) (fun z2 => ?_) (fun z2 => ?_)
  · replace hL := (if_pos z2).symm.trans hL
    refine j_iconst 0 dX3_wasRead_14 (by decide) ?_
    cases hL
    exact j_ret0 dX3_wasRead_15 rfl hK
  · replace hL := (if_neg z2).symm.trans hL
    refine j_iconst 1 dX3_wasRead_10 (by decide) ?_
    refine j_goto 15 dX3_wasRead_11 (by decide) ?_
    cases hL
    exact j_ret1 dX3_wasRead_15 rfl hK

def f_X3_readAll_l2 (a0 : Nat) (v1 : Int32) (h : AH) : Nat → Int32 → Option ((Unit) ⊕ (Bool))
  | 0, _ => none
  | n + 1, v2 => if v1 ≤ v2 then some (.inl ()) else bnd (f_X3_wasRead a0 v2 h) (fun q2 => if q2 = true then f_X3_readAll_l2 a0 v1 h n (v2 + 1) else some (.inr false))
def f_X3_readAll (a0 : Nat) (v1 : Int32) (h : AH) : Option (Bool) := bnd (f_X3_readAll_l2 a0 v1 h FU 0) (fun q4 => Sum.elim (fun xq4 => if v1 ≤ 0 then some false else some true) (fun xq4 => some xq4) q4)
set_option maxRecDepth 20000 in
theorem cl_X3_readAll_2 (G : GG) (K : KQ) (a0 : Nat) (v1 : Int32) (s0 : SH a0 = (3, 0)) : ∀ (n : Nat) (v2 : Int32) (h : AH) (r : (Unit) ⊕ (Bool)), f_X3_readAll_l2 a0 v1 h n v2 = some r → (∀ x, r = .inl x → J G mX3_readAll 2 0 0 K 23 [(1, .int v1)] [] h) → (∀ x, r = .inr x → K = KMi G (bI x) h) → J G mX3_readAll 2 0 0 K 2 [(0, .ref (ad G a0)), (1, .int v1), (2, .int v2)] [] h := by
  intro n
  induction n with
  | zero => intro v2 h r hL; cases hL
  | succ n ih =>
    intro v2 h r hL kE kR
    unfold f_X3_readAll_l2 at hL
    refine j_iload_n 2 dX3_readAll_2 rfl ?_
    refine j_iload_n 1 dX3_readAll_3 rfl ?_
    refine j_icmp_ge 23 dX3_readAll_4 (by decide) (fun z1 => ?_) (fun z1 => ?_)
    · replace hL := (if_pos z1).symm.trans hL
      cases hL
      refine j_sub [1] rfl ?_
      exact kE _ rfl
    · replace hL := (if_neg z1).symm.trans hL
      refine j_aload_n 0 dX3_readAll_7 rfl ?_
      refine j_iload_n 2 dX3_readAll_8 rfl ?_
      obtain ⟨q2, hq2, hL⟩ := bnd_ex hL
      refine j_callVi (c_X3_wasRead G a0 s0 v2 h _ hq2) cv_RX3_30 rfl s0 (by decide) rfl (by decide) rfl rfl (Nat.le_of_ble_eq_true rfl) dX3_readAll_9 (by decide) ?_
      refine j_ifz_ne 17 dX3_readAll_12 (by decide) (fun z3 => ?_) (fun z3 => ?_)
      · replace hL := (if_pos z3).symm.trans hL
        refine j_iinc (lv' := [(2, .int (v2 + 1)), (0, .ref (ad G a0)), (1, .int v1)]) 2 dX3_readAll_17 rfl rfl (by decide) rfl ?_
        refine j_goto 2 dX3_readAll_20 (by decide) ?_
        refine j_sub [1, 2, 0] rfl ?_
        exact ih (v2 + 1) h r hL kE kR
      · replace hL := (if_neg z3).symm.trans hL
        refine j_iconst 0 dX3_readAll_15 (by decide) ?_
        cases hL
        exact j_ret0 dX3_readAll_16 rfl (kR _ rfl)

set_option maxRecDepth 20000 in
theorem c_X3_readAll (G : GG) (a0 : Nat) (s0 : SH a0 = (3, 0)) (v1 : Int32) (h : AH) (r : Bool) (hL : f_X3_readAll a0 v1 h = some r) : SpI G 2 mX3_readAll [.ref (ad G a0), .int v1] h (bI r) h := by
  refine sp_i pf_X3_readAll (Nat.le_of_ble_eq_true rfl) ?_
  show J G mX3_readAll 2 0 0 (KMi G (bI r) h) 0 [(0, .ref (ad G a0)), (1, .int v1)] [] h
  obtain ⟨K, hK⟩ : ∃ K, K = KMi G (bI r) h := ⟨_, rfl⟩
  rw [← hK]
  unfold f_X3_readAll at hL
  refine j_iconst 0 dX3_readAll_0 (by decide) ?_
  refine j_istore_n (lv' := [(2, .int 0), (0, .ref (ad G a0)), (1, .int v1)]) dX3_readAll_1 (by decide) rfl ?_
  obtain ⟨q4, hq4, hL⟩ := bnd_ex hL
  refine j_sub [1, 2, 0] rfl ?_
  refine cl_X3_readAll_2 G K a0 v1 s0 FU 0 h q4 hq4 (fun xq4 eq4 => ?_) (fun xq4 eq4 => ?_)
  · subst eq4
    refine j_iload_n 0 dX3_readAll_23 rfl ?_
    refine j_if_le 31 dX3_readAll_24 (by decide) (fun z5 => ?_) (fun z5 => ?_)
    · replace hL := (if_pos z5).symm.trans hL
      refine j_iconst 0 dX3_readAll_31 (by decide) ?_
      cases hL
      exact j_ret0 dX3_readAll_32 rfl hK
    · replace hL := (if_neg z5).symm.trans hL
      refine j_iconst 1 dX3_readAll_27 (by decide) ?_
      refine j_goto 32 dX3_readAll_28 (by decide) ?_
      cases hL
      exact j_ret1 dX3_readAll_32 rfl hK
  · subst eq4
    cases hL
    exact hK

def f_X0_isKnown (a0 : Nat) (h : AH) : Option (Bool) := bnd (f_X3_readAll (a0 + 7) (hfi h a0 0) h) (fun q1 => some q1)
set_option maxRecDepth 20000 in
theorem c_X0_isKnown (G : GG) (a0 : Nat) (s0 : SH a0 = (0, 0)) (h : AH) (r : Bool) (hL : f_X0_isKnown a0 h = some r) : SpI G 3 mX0_isKnown [.ref (ad G a0)] h (bI r) h := by
  refine sp_i pf_X0_isKnown (Nat.le_of_ble_eq_true rfl) ?_
  show J G mX0_isKnown 3 0 0 (KMi G (bI r) h) 0 [(0, .ref (ad G a0))] [] h
  obtain ⟨K, hK⟩ : ∃ K, K = KMi G (bI r) h := ⟨_, rfl⟩
  rw [← hK]
  unfold f_X0_isKnown at hL
  refine j_aload_n 0 dX0_isKnown_0 rfl ?_
  refine jg_RX0_33 rfl s0 dX0_isKnown_1 ?_
  refine j_aload_n 0 dX0_isKnown_4 rfl ?_
  refine jg_RX0_71 rfl s0 dX0_isKnown_5 ?_
  obtain ⟨q1, hq1, hL⟩ := bnd_ex hL
  refine j_callVi (c_X3_readAll G (a0 + 7) (shf_0_12 s0) (hfi h a0 0) h _ hq1) cv_RX0_132 rfl (shf_0_12 s0) (by decide) rfl (by decide) rfl rfl (Nat.le_of_ble_eq_true rfl) dX0_isKnown_8 (by decide) ?_
  cases hL
  exact j_retz dX0_isKnown_11 rfl hK

def f_X10_yearly (a0 : Nat) (v1 : Int32) (v2 : Int32) (h : AH) : Option (Int32) := gd (ib v1 12 = true) (if 0 ≤ (100 - ((hia h (a0 + 2) (cl v1)) * v2)) then gd (ib v1 12 = true) (some (((hia h (a0 + 1) (cl v1)) * (100 - ((hia h (a0 + 2) (cl v1)) * v2))) / 100)) else some 0)
set_option maxRecDepth 20000 in
theorem c_X10_yearly (G : GG) (a0 : Nat) (s0 : SH a0 = (10, 0)) (v1 : Int32) (v2 : Int32) (h : AH) (r : Int32) (hL : f_X10_yearly a0 v1 v2 h = some r) : SpI G 1 mX10_yearly [.ref (ad G a0), .int v1, .int v2] h r h := by
  refine sp_i pf_X10_yearly (Nat.le_of_ble_eq_true rfl) ?_
  show J G mX10_yearly 1 0 0 (KMi G r h) 0 [(0, .ref (ad G a0)), (1, .int v1), (2, .int v2)] [] h
  obtain ⟨K, hK⟩ : ∃ K, K = KMi G r h := ⟨_, rfl⟩
  rw [← hK]
  unfold f_X10_yearly at hL
  refine j_bipush 100 dX10_yearly_0 (by decide) ?_
  refine j_aload_n 0 dX10_yearly_2 rfl ?_
  refine jg_RX10_15 rfl s0 dX10_yearly_3 ?_
  refine j_iload_n 1 dX10_yearly_6 rfl ?_
  obtain ⟨g1, hL⟩ := gd_ex hL
  refine j_iald (shf_10_1 s0) (ib_in g1) dX10_yearly_7 ?_
  refine j_iload_n 2 dX10_yearly_8 rfl ?_
  refine j_imul dX10_yearly_9 ?_
  refine j_isub dX10_yearly_10 ?_
  refine j_istore_n (lv' := [(3, .int (100 - ((hia h (a0 + 2) (cl v1)) * v2))), (0, .ref (ad G a0)), (1, .int v1), (2, .int v2)]) dX10_yearly_11 (by decide) rfl ?_
  refine j_iload_n 0 dX10_yearly_12 rfl ?_
  refine j_if_ge 20 dX10_yearly_13 (by decide) (fun z2 => ?_) (fun z2 => ?_)
  · replace hL := (if_pos z2).symm.trans hL
    refine j_aload_n 1 dX10_yearly_20 rfl ?_
    refine jg_RX10_9 rfl s0 dX10_yearly_21 ?_
    refine j_iload_n 2 dX10_yearly_24 rfl ?_
    obtain ⟨g3, hL⟩ := gd_ex hL
    refine j_iald (shf_10_0 s0) (ib_in g3) dX10_yearly_25 ?_
    refine j_iload_n 0 dX10_yearly_26 rfl ?_
    refine j_imul dX10_yearly_27 ?_
    refine j_bipush 100 dX10_yearly_28 (by decide) ?_
    refine j_idiv dX10_yearly_30 (by decide) ?_
    cases hL
    exact j_reti dX10_yearly_31 rfl hK
  · replace hL := (if_neg z2).symm.trans hL
    refine j_iconst 0 dX10_yearly_16 (by decide) ?_
    refine j_goto 31 dX10_yearly_17 (by decide) ?_
    cases hL
    exact j_reti dX10_yearly_31 rfl hK

def f_X0_addReader (a0 : Nat) (v1 : Int32) (v2 : Int32) (v3 : Int32) (h : AH) : Option (AH) := if 8 ≤ (hfi h a0 5) then some h else gd (ib (hfi h a0 5) 8 = true) (lt (sia h (a0 + 15) (cl (hfi h a0 5)) v1) (fun h3 => gd (ib (hfi h3 a0 5) 8 = true) (lt (sia h3 (a0 + 16) (cl (hfi h3 a0 5)) v2) (fun h5 => gd (ib (hfi h5 a0 5) 8 = true) (lt (sia h5 (a0 + 17) (cl (hfi h5 a0 5)) v3) (fun h7 => lt (sfi h7 a0 5 ((hfi h7 a0 5) + 1)) (fun h8 => some h8)))))))
set_option maxRecDepth 20000 in
theorem c_X0_addReader (G : GG) (a0 : Nat) (s0 : SH a0 = (0, 0)) (v1 : Int32) (v2 : Int32) (v3 : Int32) (h : AH) (r : AH) (hL : f_X0_addReader a0 v1 v2 v3 h = some r) : SpV G 1 mX0_addReader [.ref (ad G a0), .int v1, .int v2, .int v3] h r := by
  refine sp_v pf_X0_addReader (Nat.le_of_ble_eq_true rfl) ?_
  show J G mX0_addReader 1 0 0 (KMv G r) 0 [(0, .ref (ad G a0)), (1, .int v1), (2, .int v2), (3, .int v3)] [] h
  obtain ⟨K, hK⟩ : ∃ K, K = KMv G r := ⟨_, rfl⟩
  rw [← hK]
  unfold f_X0_addReader at hL
  refine j_aload_n 0 dX0_addReader_0 rfl ?_
  refine jg_RX0_87 rfl s0 dX0_addReader_1 ?_
  refine j_bipush 8 dX0_addReader_4 (by decide) ?_
  refine j_icmp_ge 49 dX0_addReader_6 (by decide) (fun z1 => ?_) (fun z1 => ?_)
  · replace hL := (if_pos z1).symm.trans hL
    cases hL
    exact j_retv dX0_addReader_49 rfl hK
  · replace hL := (if_neg z1).symm.trans hL
    refine j_aload_n 0 dX0_addReader_9 rfl ?_
    refine jg_RX0_46 rfl s0 dX0_addReader_10 ?_
    refine j_aload_n 0 dX0_addReader_13 rfl ?_
    refine jg_RX0_87 rfl s0 dX0_addReader_14 ?_
    refine j_iload_n 1 dX0_addReader_17 rfl ?_
    obtain ⟨g2, hL⟩ := gd_ex hL
    refine j_iast (shf_0_16 s0) (ib_in g2) dX0_addReader_18 ?_
    obtain ⟨h3, eh3, hL⟩ := lt_ex hL
    refine j_heap eh3 ?_
    refine j_aload_n 0 dX0_addReader_19 rfl ?_
    refine jg_RX0_49 rfl s0 dX0_addReader_20 ?_
    refine j_aload_n 0 dX0_addReader_23 rfl ?_
    refine jg_RX0_87 rfl s0 dX0_addReader_24 ?_
    refine j_iload_n 2 dX0_addReader_27 rfl ?_
    obtain ⟨g4, hL⟩ := gd_ex hL
    refine j_iast (shf_0_17 s0) (ib_in g4) dX0_addReader_28 ?_
    obtain ⟨h5, eh5, hL⟩ := lt_ex hL
    refine j_heap eh5 ?_
    refine j_aload_n 0 dX0_addReader_29 rfl ?_
    refine jg_RX0_52 rfl s0 dX0_addReader_30 ?_
    refine j_aload_n 0 dX0_addReader_33 rfl ?_
    refine jg_RX0_87 rfl s0 dX0_addReader_34 ?_
    refine j_iload_n 3 dX0_addReader_37 rfl ?_
    obtain ⟨g6, hL⟩ := gd_ex hL
    refine j_iast (shf_0_18 s0) (ib_in g6) dX0_addReader_38 ?_
    obtain ⟨h7, eh7, hL⟩ := lt_ex hL
    refine j_heap eh7 ?_
    refine j_aload_n 0 dX0_addReader_39 rfl ?_
    refine j_dup dX0_addReader_40 rfl ?_
    refine jg_RX0_87 rfl s0 dX0_addReader_41 ?_
    refine j_iconst 1 dX0_addReader_44 (by decide) ?_
    refine j_iadd dX0_addReader_45 ?_
    refine jp_RX0_87 rfl s0 dX0_addReader_46 ?_
    obtain ⟨h8, eh8, hL⟩ := lt_ex hL
    refine j_heap eh8 ?_
    cases hL
    exact j_retv dX0_addReader_49 rfl hK

def f_X0_turned_l18 (a0 : Nat) (a1 : Nat) (v2 : Int32) (v4 : Int32) (v5 : Int32) (h : AH) : Nat → Int32 → Int32 → Option (Int32)
  | 0, _, _ => none
  | n + 1, v6, v7 => if (hfi h a0 5) ≤ v7 then some v6 else gd (ib v7 8 = true) (gd (ib v7 8 = true) (if (f_J9_min_7cf53 v4 (hia h (a0 + 17) (cl v7))) < (f_J9_max_7cf53 v5 (hia h (a0 + 16) (cl v7))) then f_X0_turned_l18 a0 a1 v2 v4 v5 h n v6 (v7 + 1) else gd (ib v7 8 = true) (gd (ib (hia h (a0 + 15) (cl v7)) 6 = true) (gd (SH (hra h a1 (cl (hia h (a0 + 15) (cl v7)))) = (10, 0)) (gd (ib v2 40 = true) (gd (ib v2 40 = true) (bnd (f_X10_yearly (hra h a1 (cl (hia h (a0 + 15) (cl v7)))) (hia h (a0 + 1) (cl v2)) (hia h (a0 + 3) (cl v2)) h) (fun q11 => f_X0_turned_l18 a0 a1 v2 v4 v5 h n (v6 + ((((f_J9_min_7cf53 v4 (hia h (a0 + 17) (cl v7))) - (f_J9_max_7cf53 v5 (hia h (a0 + 16) (cl v7)))) + 1) * q11)) (v7 + 1)))))))))
def f_X0_turned (a0 : Nat) (a1 : Nat) (v2 : Int32) (v3 : Int32) (v4 : Int32) (h : AH) : Option (Int32) := gd (ib v2 40 = true) (bnd (f_X0_turned_l18 a0 a1 v2 v4 (f_J9_max_7cf53 v3 (hia h (a0 + 5) (cl v2))) h FU 0 0) (fun q12 => some q12))
set_option maxRecDepth 20000 in
theorem cl_X0_turned_18 (G : GG) (K : KQ) (a0 : Nat) (a1 : Nat) (v2 : Int32) (v4 : Int32) (v5 : Int32) (s0 : SH a0 = (0, 0)) (s1 : SH a1 = (23, 6)) : ∀ (n : Nat) (v6 : Int32) (v7 : Int32) (h : AH) (r : Int32), f_X0_turned_l18 a0 a1 v2 v4 v5 h n v6 v7 = some r → J G mX0_turned 2 0 0 K 105 [(6, .int r)] [] h → J G mX0_turned 2 0 0 K 18 [(0, .ref (ad G a0)), (1, .ref (ad G a1)), (2, .int v2), (4, .int v4), (5, .int v5), (6, .int v6), (7, .int v7)] [] h := by
  intro n
  induction n with
  | zero => intro v6 v7 h r hL; cases hL
  | succ n ih =>
    intro v6 v7 h r hL kE
    unfold f_X0_turned_l18 at hL
    refine j_iload 6 dX0_turned_18 rfl ?_
    refine j_aload_n 0 dX0_turned_20 rfl ?_
    refine jg_RX0_87 rfl s0 dX0_turned_21 ?_
    refine j_icmp_ge 105 dX0_turned_24 (by decide) (fun z2 => ?_) (fun z2 => ?_)
    · replace hL := (if_pos z2).symm.trans hL
      cases hL
      refine j_sub [5] rfl ?_
      exact kE 
    · replace hL := (if_neg z2).symm.trans hL
      refine j_iload 4 dX0_turned_27 rfl ?_
      refine j_aload_n 0 dX0_turned_29 rfl ?_
      refine jg_RX0_49 rfl s0 dX0_turned_30 ?_
      refine j_iload 6 dX0_turned_33 rfl ?_
      obtain ⟨g3, hL⟩ := gd_ex hL
      refine j_iald (shf_0_17 s0) (ib_in g3) dX0_turned_35 ?_
      refine j_callSi (c_J9_max_7cf53 G v5 (hia h (a0 + 16) (cl v7)) h) cv_RX0_136 rfl (by decide) rfl rfl (Nat.le_of_ble_eq_true rfl) dX0_turned_36 (by decide) ?_
      refine j_istore (lv' := [(8, .int (f_J9_max_7cf53 v5 (hia h (a0 + 16) (cl v7)))), (0, .ref (ad G a0)), (1, .ref (ad G a1)), (2, .int v2), (4, .int v4), (5, .int v5), (6, .int v6), (7, .int v7)]) dX0_turned_39 (by decide) rfl ?_
      refine j_iload 4 dX0_turned_41 rfl ?_
      refine j_aload_n 1 dX0_turned_43 rfl ?_
      refine jg_RX0_52 rfl s0 dX0_turned_44 ?_
      refine j_iload 7 dX0_turned_47 rfl ?_
      obtain ⟨g4, hL⟩ := gd_ex hL
      refine j_iald (shf_0_18 s0) (ib_in g4) dX0_turned_49 ?_
      refine j_callSi (c_J9_min_7cf53 G v4 (hia h (a0 + 17) (cl v7)) h) cv_RX0_141 rfl (by decide) rfl rfl (Nat.le_of_ble_eq_true rfl) dX0_turned_50 (by decide) ?_
      refine j_istore (lv' := [(9, .int (f_J9_min_7cf53 v4 (hia h (a0 + 17) (cl v7)))), (8, .int (f_J9_max_7cf53 v5 (hia h (a0 + 16) (cl v7)))), (0, .ref (ad G a0)), (1, .ref (ad G a1)), (2, .int v2), (4, .int v4), (5, .int v5), (6, .int v6), (7, .int v7)]) dX0_turned_53 (by decide) rfl ?_
      refine j_iload 1 dX0_turned_55 rfl ?_
      refine j_iload 0 dX0_turned_57 rfl ?_
      refine j_icmp_gt 99 dX0_turned_59 (by decide) (fun z5 => ?_) (fun z5 => ?_)
      · replace hL := (if_pos z5).symm.trans hL
        refine j_iinc (lv' := [(7, .int (v7 + 1)), (9, .int (f_J9_min_7cf53 v4 (hia h (a0 + 17) (cl v7)))), (8, .int (f_J9_max_7cf53 v5 (hia h (a0 + 16) (cl v7)))), (0, .ref (ad G a0)), (1, .ref (ad G a1)), (2, .int v2), (4, .int v4), (5, .int v5), (6, .int v6)]) 8 dX0_turned_99 rfl rfl (by decide) rfl ?_
        refine j_goto 18 dX0_turned_102 (by decide) ?_
        refine j_sub [3, 4, 5, 6, 7, 8, 0] rfl ?_
        exact ih v6 (v7 + 1) h r hL kE
      · replace hL := (if_neg z5).symm.trans hL
        refine j_iload 7 dX0_turned_62 rfl ?_
        refine j_iload 0 dX0_turned_64 rfl ?_
        refine j_iload 1 dX0_turned_66 rfl ?_
        refine j_isub dX0_turned_68 ?_
        refine j_iconst 1 dX0_turned_69 (by decide) ?_
        refine j_iadd dX0_turned_70 ?_
        refine j_aload_n 3 dX0_turned_71 rfl ?_
        refine j_aload_n 2 dX0_turned_72 rfl ?_
        refine jg_RX0_46 rfl s0 dX0_turned_73 ?_
        refine j_iload 8 dX0_turned_76 rfl ?_
        obtain ⟨g6, hL⟩ := gd_ex hL
        refine j_iald (shf_0_16 s0) (ib_in g6) dX0_turned_78 ?_
        obtain ⟨g7, hL⟩ := gd_ex hL
        refine j_aldW s1 (ib_in g7) dX0_turned_79 ?_
        obtain ⟨g8, hL⟩ := gd_ex hL
        refine j_aload_n 2 dX0_turned_80 rfl ?_
        refine jg_RX0_9 rfl s0 dX0_turned_81 ?_
        refine j_iload_n 4 dX0_turned_84 rfl ?_
        obtain ⟨g9, hL⟩ := gd_ex hL
        refine j_iald (shf_0_6 s0) (ib_in g9) dX0_turned_85 ?_
        refine j_aload_n 2 dX0_turned_86 rfl ?_
        refine jg_RX0_18 rfl s0 dX0_turned_87 ?_
        refine j_iload_n 4 dX0_turned_90 rfl ?_
        obtain ⟨g10, hL⟩ := gd_ex hL
        refine j_iald (shf_0_8 s0) (ib_in g10) dX0_turned_91 ?_
        obtain ⟨q11, hq11, hL⟩ := bnd_ex hL
        refine j_callVi (c_X10_yearly G (hra h a1 (cl (hia h (a0 + 15) (cl v7)))) g8 (hia h (a0 + 1) (cl v2)) (hia h (a0 + 3) (cl v2)) h _ hq11) cv_RX0_144 rfl g8 (by decide) rfl (by decide) rfl rfl (Nat.le_of_ble_eq_true rfl) dX0_turned_92 (by decide) ?_
        refine j_imul dX0_turned_95 ?_
        refine j_iadd dX0_turned_96 ?_
        refine j_istore (lv' := [(6, .int (v6 + ((((f_J9_min_7cf53 v4 (hia h (a0 + 17) (cl v7))) - (f_J9_max_7cf53 v5 (hia h (a0 + 16) (cl v7)))) + 1) * q11))), (9, .int (f_J9_min_7cf53 v4 (hia h (a0 + 17) (cl v7)))), (8, .int (f_J9_max_7cf53 v5 (hia h (a0 + 16) (cl v7)))), (0, .ref (ad G a0)), (1, .ref (ad G a1)), (2, .int v2), (4, .int v4), (5, .int v5), (7, .int v7)]) dX0_turned_97 (by decide) rfl ?_
        refine j_iinc (lv' := [(7, .int (v7 + 1)), (6, .int (v6 + ((((f_J9_min_7cf53 v4 (hia h (a0 + 17) (cl v7))) - (f_J9_max_7cf53 v5 (hia h (a0 + 16) (cl v7)))) + 1) * q11))), (9, .int (f_J9_min_7cf53 v4 (hia h (a0 + 17) (cl v7)))), (8, .int (f_J9_max_7cf53 v5 (hia h (a0 + 16) (cl v7)))), (0, .ref (ad G a0)), (1, .ref (ad G a1)), (2, .int v2), (4, .int v4), (5, .int v5)]) 8 dX0_turned_99 rfl rfl (by decide) rfl ?_
        refine j_goto 18 dX0_turned_102 (by decide) ?_
        refine j_sub [4, 5, 6, 7, 8, 1, 0] rfl ?_
        exact ih (v6 + ((((f_J9_min_7cf53 v4 (hia h (a0 + 17) (cl v7))) - (f_J9_max_7cf53 v5 (hia h (a0 + 16) (cl v7)))) + 1) * q11)) (v7 + 1) h r hL kE

set_option maxRecDepth 20000 in
theorem c_X0_turned (G : GG) (a0 : Nat) (s0 : SH a0 = (0, 0)) (a1 : Nat) (s1 : SH a1 = (23, 6)) (v2 : Int32) (v3 : Int32) (v4 : Int32) (h : AH) (r : Int32) (hL : f_X0_turned a0 a1 v2 v3 v4 h = some r) : SpI G 2 mX0_turned [.ref (ad G a0), .ref (ad G a1), .int v2, .int v3, .int v4] h r h := by
  refine sp_i pf_X0_turned (Nat.le_of_ble_eq_true rfl) ?_
  show J G mX0_turned 2 0 0 (KMi G r h) 0 [(0, .ref (ad G a0)), (1, .ref (ad G a1)), (2, .int v2), (3, .int v3), (4, .int v4)] [] h
  obtain ⟨K, hK⟩ : ∃ K, K = KMi G r h := ⟨_, rfl⟩
  rw [← hK]
  unfold f_X0_turned at hL
  refine j_iload_n 3 dX0_turned_0 rfl ?_
  refine j_aload_n 0 dX0_turned_1 rfl ?_
  refine jg_RX0_24 rfl s0 dX0_turned_2 ?_
  refine j_iload_n 2 dX0_turned_5 rfl ?_
  obtain ⟨g1, hL⟩ := gd_ex hL
  refine j_iald (shf_0_10 s0) (ib_in g1) dX0_turned_6 ?_
  refine j_callSi (c_J9_max_7cf53 G v3 (hia h (a0 + 5) (cl v2)) h) cv_RX0_136 rfl (by decide) rfl rfl (Nat.le_of_ble_eq_true rfl) dX0_turned_7 (by decide) ?_
  refine j_istore (lv' := [(5, .int (f_J9_max_7cf53 v3 (hia h (a0 + 5) (cl v2)))), (0, .ref (ad G a0)), (1, .ref (ad G a1)), (2, .int v2), (3, .int v3), (4, .int v4)]) dX0_turned_10 (by decide) rfl ?_
  refine j_iconst 0 dX0_turned_12 (by decide) ?_
  refine j_istore (lv' := [(6, .int 0), (5, .int (f_J9_max_7cf53 v3 (hia h (a0 + 5) (cl v2)))), (0, .ref (ad G a0)), (1, .ref (ad G a1)), (2, .int v2), (3, .int v3), (4, .int v4)]) dX0_turned_13 (by decide) rfl ?_
  refine j_iconst 0 dX0_turned_15 (by decide) ?_
  refine j_istore (lv' := [(7, .int 0), (6, .int 0), (5, .int (f_J9_max_7cf53 v3 (hia h (a0 + 5) (cl v2)))), (0, .ref (ad G a0)), (1, .ref (ad G a1)), (2, .int v2), (3, .int v3), (4, .int v4)]) dX0_turned_16 (by decide) rfl ?_
  obtain ⟨q12, hq12, hL⟩ := bnd_ex hL
  refine j_sub [3, 4, 5, 7, 2, 1, 0] rfl ?_
  refine cl_X0_turned_18 G K a0 a1 v2 v4 (f_J9_max_7cf53 v3 (hia h (a0 + 5) (cl v2))) s0 s1 FU 0 0 h q12 hq12 ?_
  refine j_iload 0 dX0_turned_105 rfl ?_
  cases hL
  exact j_reti dX0_turned_107 rfl hK

def f_X0_ownDirt_l9 (a0 : Nat) (a1 : Nat) (a2 : Nat) (v3 : Int32) (h : AH) : Nat → Int32 → Int32 → Int32 → Option (Int32 × Int32)
  | 0, _, _, _ => none
  | n + 1, v4, v5, v6 => if (hfi h a0 4) ≤ v6 then some (v4, v5) else gd (ib v6 4 = true) (bnd (f_X0_turned a0 a1 v3 v5 (hia h (a0 + 13) (cl v6)) h) (fun q3 => gd (ib v6 4 = true) (gd (ib v6 4 = true) (f_X0_ownDirt_l9 a0 a1 a2 v3 h n (Int64.toInt32 ((((v4 + ((hfi h a2 0) * q3)).toInt64) * ((100 - (hia h (a0 + 14) (cl v6))).toInt64)) / 100)) ((hia h (a0 + 13) (cl v6)) + 1) (v6 + 1)))))
def f_X0_ownDirt (a0 : Nat) (a1 : Nat) (a2 : Nat) (v3 : Int32) (h : AH) : Option (Int32) := bnd (f_X0_ownDirt_l9 a0 a1 a2 v3 h FU 0 0 0) (fun q6 => bnd (f_X0_turned a0 a1 v3 q6.2 500 h) (fun q7 => some (q6.1 + ((hfi h a2 0) * q7))))
set_option maxRecDepth 20000 in
theorem cl_X0_ownDirt_9 (G : GG) (K : KQ) (a0 : Nat) (a1 : Nat) (a2 : Nat) (v3 : Int32) (s0 : SH a0 = (0, 0)) (s1 : SH a1 = (23, 6)) (s2 : SH a2 = (5, 0)) : ∀ (n : Nat) (v4 : Int32) (v5 : Int32) (v6 : Int32) (h : AH) (r : Int32 × Int32), f_X0_ownDirt_l9 a0 a1 a2 v3 h n v4 v5 v6 = some r → J G mX0_ownDirt 3 0 0 K 82 [(0, .ref (ad G a0)), (1, .ref (ad G a1)), (2, .ref (ad G a2)), (3, .int v3), (4, .int r.1), (5, .int r.2)] [] h → J G mX0_ownDirt 3 0 0 K 9 [(0, .ref (ad G a0)), (1, .ref (ad G a1)), (2, .ref (ad G a2)), (3, .int v3), (4, .int v4), (5, .int v5), (6, .int v6)] [] h := by
  intro n
  induction n with
  | zero => intro v4 v5 v6 h r hL; cases hL
  | succ n ih =>
    intro v4 v5 v6 h r hL kE
    unfold f_X0_ownDirt_l9 at hL
    refine j_iload 6 dX0_ownDirt_9 rfl ?_
    refine j_aload_n 0 dX0_ownDirt_11 rfl ?_
    refine jg_RX0_84 rfl s0 dX0_ownDirt_12 ?_
    refine j_icmp_ge 82 dX0_ownDirt_15 (by decide) (fun z1 => ?_) (fun z1 => ?_)
    · replace hL := (if_pos z1).symm.trans hL
      cases hL
      refine j_sub [0, 1, 2, 3, 4, 5] rfl ?_
      exact kE 
    · replace hL := (if_neg z1).symm.trans hL
      refine j_iload 4 dX0_ownDirt_18 rfl ?_
      refine j_aload_n 2 dX0_ownDirt_20 rfl ?_
      refine jg_RX0_149 rfl s2 dX0_ownDirt_21 ?_
      refine j_aload_n 0 dX0_ownDirt_24 rfl ?_
      refine j_aload_n 1 dX0_ownDirt_25 rfl ?_
      refine j_iload_n 3 dX0_ownDirt_26 rfl ?_
      refine j_iload 5 dX0_ownDirt_27 rfl ?_
      refine j_aload_n 0 dX0_ownDirt_29 rfl ?_
      refine jg_RX0_40 rfl s0 dX0_ownDirt_30 ?_
      refine j_iload 6 dX0_ownDirt_33 rfl ?_
      obtain ⟨g2, hL⟩ := gd_ex hL
      refine j_iald (shf_0_14 s0) (ib_in g2) dX0_ownDirt_35 ?_
      obtain ⟨q3, hq3, hL⟩ := bnd_ex hL
      refine j_callVi (c_X0_turned G a0 s0 a1 s1 v3 v5 (hia h (a0 + 13) (cl v6)) h _ hq3) cv_RX0_154 rfl s0 (by decide) rfl (by decide) rfl rfl (Nat.le_of_ble_eq_true rfl) dX0_ownDirt_36 (by decide) ?_
      refine j_imul dX0_ownDirt_39 ?_
      refine j_iadd dX0_ownDirt_40 ?_
      refine j_istore (lv' := [(4, .int (v4 + ((hfi h a2 0) * q3))), (0, .ref (ad G a0)), (1, .ref (ad G a1)), (2, .ref (ad G a2)), (3, .int v3), (5, .int v5), (6, .int v6)]) dX0_ownDirt_41 (by decide) rfl ?_
      refine j_iload 0 dX0_ownDirt_43 rfl ?_
      refine j_i2l dX0_ownDirt_45 ?_
      refine j_bipush 100 dX0_ownDirt_46 (by decide) ?_
      refine j_aload_n 1 dX0_ownDirt_48 rfl ?_
      refine jg_RX0_43 rfl s0 dX0_ownDirt_49 ?_
      refine j_iload 6 dX0_ownDirt_52 rfl ?_
      obtain ⟨g4, hL⟩ := gd_ex hL
      refine j_iald (shf_0_15 s0) (ib_in g4) dX0_ownDirt_54 ?_
      refine j_isub dX0_ownDirt_55 ?_
      refine j_i2l dX0_ownDirt_56 ?_
      refine j_lmul dX0_ownDirt_57 ?_
      refine j_ldc2 rfl kk_RX0_158 dX0_ownDirt_58 ?_
      refine j_ldiv dX0_ownDirt_61 (by decide) ?_
      refine j_l2i dX0_ownDirt_62 ?_
      refine j_istore (lv' := [(4, .int (Int64.toInt32 ((((v4 + ((hfi h a2 0) * q3)).toInt64) * ((100 - (hia h (a0 + 14) (cl v6))).toInt64)) / 100))), (0, .ref (ad G a0)), (1, .ref (ad G a1)), (2, .ref (ad G a2)), (3, .int v3), (5, .int v5), (6, .int v6)]) dX0_ownDirt_63 (by decide) rfl ?_
      refine j_aload_n 1 dX0_ownDirt_65 rfl ?_
      refine jg_RX0_40 rfl s0 dX0_ownDirt_66 ?_
      refine j_iload 6 dX0_ownDirt_69 rfl ?_
      obtain ⟨g5, hL⟩ := gd_ex hL
      refine j_iald (shf_0_14 s0) (ib_in g5) dX0_ownDirt_71 ?_
      refine j_iconst 1 dX0_ownDirt_72 (by decide) ?_
      refine j_iadd dX0_ownDirt_73 ?_
      refine j_istore (lv' := [(5, .int ((hia h (a0 + 13) (cl v6)) + 1)), (4, .int (Int64.toInt32 ((((v4 + ((hfi h a2 0) * q3)).toInt64) * ((100 - (hia h (a0 + 14) (cl v6))).toInt64)) / 100))), (0, .ref (ad G a0)), (1, .ref (ad G a1)), (2, .ref (ad G a2)), (3, .int v3), (6, .int v6)]) dX0_ownDirt_74 (by decide) rfl ?_
      refine j_iinc (lv' := [(6, .int (v6 + 1)), (5, .int ((hia h (a0 + 13) (cl v6)) + 1)), (4, .int (Int64.toInt32 ((((v4 + ((hfi h a2 0) * q3)).toInt64) * ((100 - (hia h (a0 + 14) (cl v6))).toInt64)) / 100))), (0, .ref (ad G a0)), (1, .ref (ad G a1)), (2, .ref (ad G a2)), (3, .int v3)]) 6 dX0_ownDirt_76 rfl rfl (by decide) rfl ?_
      refine j_goto 9 dX0_ownDirt_79 (by decide) ?_
      refine j_sub [3, 4, 5, 6, 2, 1, 0] rfl ?_
      exact ih (Int64.toInt32 ((((v4 + ((hfi h a2 0) * q3)).toInt64) * ((100 - (hia h (a0 + 14) (cl v6))).toInt64)) / 100)) ((hia h (a0 + 13) (cl v6)) + 1) (v6 + 1) h r hL kE

set_option maxRecDepth 20000 in
theorem c_X0_ownDirt (G : GG) (a0 : Nat) (s0 : SH a0 = (0, 0)) (a1 : Nat) (s1 : SH a1 = (23, 6)) (a2 : Nat) (s2 : SH a2 = (5, 0)) (v3 : Int32) (h : AH) (r : Int32) (hL : f_X0_ownDirt a0 a1 a2 v3 h = some r) : SpI G 3 mX0_ownDirt [.ref (ad G a0), .ref (ad G a1), .ref (ad G a2), .int v3] h r h := by
  refine sp_i pf_X0_ownDirt (Nat.le_of_ble_eq_true rfl) ?_
  show J G mX0_ownDirt 3 0 0 (KMi G r h) 0 [(0, .ref (ad G a0)), (1, .ref (ad G a1)), (2, .ref (ad G a2)), (3, .int v3)] [] h
  obtain ⟨K, hK⟩ : ∃ K, K = KMi G r h := ⟨_, rfl⟩
  rw [← hK]
  unfold f_X0_ownDirt at hL
  refine j_iconst 0 dX0_ownDirt_0 (by decide) ?_
  refine j_istore (lv' := [(4, .int 0), (0, .ref (ad G a0)), (1, .ref (ad G a1)), (2, .ref (ad G a2)), (3, .int v3)]) dX0_ownDirt_1 (by decide) rfl ?_
  refine j_iconst 0 dX0_ownDirt_3 (by decide) ?_
  refine j_istore (lv' := [(5, .int 0), (4, .int 0), (0, .ref (ad G a0)), (1, .ref (ad G a1)), (2, .ref (ad G a2)), (3, .int v3)]) dX0_ownDirt_4 (by decide) rfl ?_
  refine j_iconst 0 dX0_ownDirt_6 (by decide) ?_
  refine j_istore (lv' := [(6, .int 0), (5, .int 0), (4, .int 0), (0, .ref (ad G a0)), (1, .ref (ad G a1)), (2, .ref (ad G a2)), (3, .int v3)]) dX0_ownDirt_7 (by decide) rfl ?_
  obtain ⟨q6, hq6, hL⟩ := bnd_ex hL
  refine j_sub [3, 4, 5, 6, 2, 1, 0] rfl ?_
  refine cl_X0_ownDirt_9 G K a0 a1 a2 v3 s0 s1 s2 FU 0 0 0 h q6 hq6 ?_
  refine j_iload 4 dX0_ownDirt_82 rfl ?_
  refine j_aload_n 2 dX0_ownDirt_84 rfl ?_
  refine jg_RX0_149 rfl s2 dX0_ownDirt_85 ?_
  refine j_aload_n 0 dX0_ownDirt_88 rfl ?_
  refine j_aload_n 1 dX0_ownDirt_89 rfl ?_
  refine j_iload_n 3 dX0_ownDirt_90 rfl ?_
  refine j_iload 5 dX0_ownDirt_91 rfl ?_
  refine j_sipush 500 dX0_ownDirt_93 (by decide) ?_
  obtain ⟨q7, hq7, hL⟩ := bnd_ex hL
  refine j_callVi (c_X0_turned G a0 s0 a1 s1 v3 q6.2 500 h _ hq7) cv_RX0_154 rfl s0 (by decide) rfl (by decide) rfl rfl (Nat.le_of_ble_eq_true rfl) dX0_ownDirt_96 (by decide) ?_
  refine j_imul dX0_ownDirt_99 ?_
  refine j_iadd dX0_ownDirt_100 ?_
  cases hL
  exact j_reti dX0_ownDirt_101 rfl hK

def f_X5_through (a0 : Nat) (v1 : Int32) (h : AH) : Option (Int32) := some (Int64.toInt32 ((v1.toInt64 * ((hfi h a0 1).toInt64)) / 100))
set_option maxRecDepth 20000 in
theorem c_X5_through (G : GG) (a0 : Nat) (s0 : SH a0 = (5, 0)) (v1 : Int32) (h : AH) (r : Int32) (hL : f_X5_through a0 v1 h = some r) : SpI G 1 mX5_through [.ref (ad G a0), .int v1] h r h := by
  refine sp_i pf_X5_through (Nat.le_of_ble_eq_true rfl) ?_
  show J G mX5_through 1 0 0 (KMi G r h) 0 [(0, .ref (ad G a0)), (1, .int v1)] [] h
  obtain ⟨K, hK⟩ : ∃ K, K = KMi G r h := ⟨_, rfl⟩
  rw [← hK]
  unfold f_X5_through at hL
  refine j_iload_n 1 dX5_through_0 rfl ?_
  refine j_i2l dX5_through_1 ?_
  refine j_aload_n 0 dX5_through_2 rfl ?_
  refine jg_RX5_15 rfl s0 dX5_through_3 ?_
  refine j_i2l dX5_through_6 ?_
  refine j_lmul dX5_through_7 ?_
  refine j_ldc2 rfl kk_RX5_63 dX5_through_8 ?_
  refine j_ldiv dX5_through_11 (by decide) ?_
  refine j_l2i dX5_through_12 ?_
  cases hL
  exact j_reti dX5_through_13 rfl hK

def f_X0_fillAll_l6 (a0 : Nat) (a1 : Nat) (a2 : Nat) (a3 : Nat) (n1 : Nat) : Nat → Int32 → Int32 → AH → Option (AH)
  | 0, _, _, _ => none
  | n + 1, v4, v5, h => if (hfi h a0 0) ≤ v5 then some h else if (Int32.ofNat n1) ≤ v5 then some h else bnd (f_X0_ownDirt a0 a2 a3 v5 h) (fun q3 => gd (ib v5 40 = true) (bnd (f_X5_through a3 v4 h) (fun q5 => gd (ib v5 n1 = true) (lt (sia h a1 (cl v5) ((q3 + (hia h (a0 + 6) (cl v5))) + q5)) (fun h7 => f_X0_fillAll_l6 a0 a1 a2 a3 n1 n ((q3 + (hia h (a0 + 6) (cl v5))) + q5) (v5 + 1) h7)))))
def f_X0_fillAll (a0 : Nat) (a1 n1 : Nat) (a2 : Nat) (a3 : Nat) (h : AH) : Option (AH) := bnd (f_X0_fillAll_l6 a0 a1 a2 a3 n1 FU 0 0 h) (fun q8 => some q8)
set_option maxRecDepth 20000 in
theorem cl_X0_fillAll_6 (G : GG) (K : KQ) (a0 : Nat) (a1 : Nat) (a2 : Nat) (a3 : Nat) {n1 : Nat} (s0 : SH a0 = (0, 0)) (s1 : SH a1 = (20, n1)) (s2 : SH a2 = (23, 6)) (s3 : SH a3 = (5, 0)) : ∀ (n : Nat) (v4 : Int32) (v5 : Int32) (h : AH) (r : AH), f_X0_fillAll_l6 a0 a1 a2 a3 n1 n v4 v5 h = some r → J G mX0_fillAll 4 0 0 K 59 [] [] r → J G mX0_fillAll 4 0 0 K 6 [(0, .ref (ad G a0)), (1, .ref (ad G a1)), (2, .ref (ad G a2)), (3, .ref (ad G a3)), (4, .int v4), (5, .int v5)] [] h := by
  intro n
  induction n with
  | zero => intro v4 v5 h r hL; cases hL
  | succ n ih =>
    intro v4 v5 h r hL kE
    unfold f_X0_fillAll_l6 at hL
    refine j_iload 5 dX0_fillAll_6 rfl ?_
    refine j_aload_n 0 dX0_fillAll_8 rfl ?_
    refine jg_RX0_71 rfl s0 dX0_fillAll_9 ?_
    refine j_icmp_ge 59 dX0_fillAll_12 (by decide) (fun z1 => ?_) (fun z1 => ?_)
    · replace hL := (if_pos z1).symm.trans hL
      cases hL
      refine j_sub [] rfl ?_
      exact kE 
    · replace hL := (if_neg z1).symm.trans hL
      refine j_iload 5 dX0_fillAll_15 rfl ?_
      refine j_aload_n 1 dX0_fillAll_17 rfl ?_
      refine j_alen s1 dX0_fillAll_18 ?_
      refine j_icmp_ge 59 dX0_fillAll_19 (by decide) (fun z2 => ?_) (fun z2 => ?_)
      · replace hL := (if_pos z2).symm.trans hL
        cases hL
        refine j_sub [] rfl ?_
        exact kE 
      · replace hL := (if_neg z2).symm.trans hL
        refine j_aload_n 0 dX0_fillAll_22 rfl ?_
        refine j_aload_n 2 dX0_fillAll_23 rfl ?_
        refine j_aload_n 3 dX0_fillAll_24 rfl ?_
        refine j_iload 5 dX0_fillAll_25 rfl ?_
        obtain ⟨q3, hq3, hL⟩ := bnd_ex hL
        refine j_callVi (c_X0_ownDirt G a0 s0 a2 s2 a3 s3 v5 h _ hq3) cv_RX0_160 rfl s0 (by decide) rfl (by decide) rfl rfl (Nat.le_of_ble_eq_true rfl) dX0_fillAll_27 (by decide) ?_
        refine j_aload_n 0 dX0_fillAll_30 rfl ?_
        refine jg_RX0_27 rfl s0 dX0_fillAll_31 ?_
        refine j_iload 5 dX0_fillAll_34 rfl ?_
        obtain ⟨g4, hL⟩ := gd_ex hL
        refine j_iald (shf_0_11 s0) (ib_in g4) dX0_fillAll_36 ?_
        refine j_iadd dX0_fillAll_37 ?_
        refine j_aload_n 3 dX0_fillAll_38 rfl ?_
        refine j_iload 4 dX0_fillAll_39 rfl ?_
        obtain ⟨q5, hq5, hL⟩ := bnd_ex hL
        refine j_callVi (c_X5_through G a3 s3 v4 h _ hq5) cv_RX0_164 rfl s3 (by decide) rfl (by decide) rfl rfl (Nat.le_of_ble_eq_true rfl) dX0_fillAll_41 (by decide) ?_
        refine j_iadd dX0_fillAll_44 ?_
        refine j_istore (lv' := [(4, .int ((q3 + (hia h (a0 + 6) (cl v5))) + q5)), (0, .ref (ad G a0)), (1, .ref (ad G a1)), (2, .ref (ad G a2)), (3, .ref (ad G a3)), (5, .int v5)]) dX0_fillAll_45 (by decide) rfl ?_
        refine j_aload_n 2 dX0_fillAll_47 rfl ?_
        refine j_iload 5 dX0_fillAll_48 rfl ?_
        refine j_iload 0 dX0_fillAll_50 rfl ?_
        obtain ⟨g6, hL⟩ := gd_ex hL
        refine j_iast s1 (ib_in g6) dX0_fillAll_52 ?_
        obtain ⟨h7, eh7, hL⟩ := lt_ex hL
        refine j_heap eh7 ?_
        refine j_iinc (lv' := [(5, .int (v5 + 1)), (4, .int ((q3 + (hia h (a0 + 6) (cl v5))) + q5)), (0, .ref (ad G a0)), (1, .ref (ad G a1)), (2, .ref (ad G a2)), (3, .ref (ad G a3))]) 5 dX0_fillAll_53 rfl rfl (by decide) rfl ?_
        refine j_goto 6 dX0_fillAll_56 (by decide) ?_
        refine j_sub [2, 3, 4, 5, 1, 0] rfl ?_
        exact ih ((q3 + (hia h (a0 + 6) (cl v5))) + q5) (v5 + 1) h7 r hL kE

set_option maxRecDepth 20000 in
theorem c_X0_fillAll (G : GG) (a0 : Nat) (s0 : SH a0 = (0, 0)) (a1 n1 : Nat) (s1 : SH a1 = (20, n1)) (a2 : Nat) (s2 : SH a2 = (23, 6)) (a3 : Nat) (s3 : SH a3 = (5, 0)) (h : AH) (r : AH) (hL : f_X0_fillAll a0 a1 n1 a2 a3 h = some r) : SpV G 4 mX0_fillAll [.ref (ad G a0), .ref (ad G a1), .ref (ad G a2), .ref (ad G a3)] h r := by
  refine sp_v pf_X0_fillAll (Nat.le_of_ble_eq_true rfl) ?_
  show J G mX0_fillAll 4 0 0 (KMv G r) 0 [(0, .ref (ad G a0)), (1, .ref (ad G a1)), (2, .ref (ad G a2)), (3, .ref (ad G a3))] [] h
  obtain ⟨K, hK⟩ : ∃ K, K = KMv G r := ⟨_, rfl⟩
  rw [← hK]
  unfold f_X0_fillAll at hL
  refine j_iconst 0 dX0_fillAll_0 (by decide) ?_
  refine j_istore (lv' := [(4, .int 0), (0, .ref (ad G a0)), (1, .ref (ad G a1)), (2, .ref (ad G a2)), (3, .ref (ad G a3))]) dX0_fillAll_1 (by decide) rfl ?_
  refine j_iconst 0 dX0_fillAll_3 (by decide) ?_
  refine j_istore (lv' := [(5, .int 0), (4, .int 0), (0, .ref (ad G a0)), (1, .ref (ad G a1)), (2, .ref (ad G a2)), (3, .ref (ad G a3))]) dX0_fillAll_4 (by decide) rfl ?_
  obtain ⟨q8, hq8, hL⟩ := bnd_ex hL
  refine j_sub [2, 3, 4, 5, 1, 0] rfl ?_
  refine cl_X0_fillAll_6 G K a0 a1 a2 a3 s0 s1 s2 s3 FU 0 0 h q8 hq8 ?_
  cases hL
  exact j_retv dX0_fillAll_59 rfl hK

def f_X0_bare (a0 : Nat) (v1 : Int32) (h : AH) : Option (Int32) := gd (ib v1 40 = true) (if (v1 - v1 / 2 * 2) = 1 then some ((hia h (a0 + 4) (cl v1)) + (hfi h a0 3)) else some ((hia h (a0 + 4) (cl v1)) + 0))
set_option maxRecDepth 20000 in
theorem c_X0_bare (G : GG) (a0 : Nat) (s0 : SH a0 = (0, 0)) (v1 : Int32) (h : AH) (r : Int32) (hL : f_X0_bare a0 v1 h = some r) : SpI G 1 mX0_bare [.ref (ad G a0), .int v1] h r h := by
  refine sp_i pf_X0_bare (Nat.le_of_ble_eq_true rfl) ?_
  show J G mX0_bare 1 0 0 (KMi G r h) 0 [(0, .ref (ad G a0)), (1, .int v1)] [] h
  obtain ⟨K, hK⟩ : ∃ K, K = KMi G r h := ⟨_, rfl⟩
  rw [← hK]
  unfold f_X0_bare at hL
  refine j_aload_n 0 dX0_bare_0 rfl ?_
  refine jg_RX0_21 rfl s0 dX0_bare_1 ?_
  refine j_iload_n 1 dX0_bare_4 rfl ?_
  obtain ⟨g1, hL⟩ := gd_ex hL
  refine j_iald (shf_0_9 s0) (ib_in g1) dX0_bare_5 ?_
  refine j_iload_n 1 dX0_bare_6 rfl ?_
  refine j_iconst 2 dX0_bare_7 (by decide) ?_
  refine j_irem dX0_bare_8 (by decide) ?_
  refine j_iconst 1 dX0_bare_9 (by decide) ?_
  refine j_icmp_ne 20 dX0_bare_10 (by decide) (fun z2 => ?_) (fun z2 => ?_)
  · replace hL := (if_neg z2).symm.trans hL
    refine j_iconst 0 dX0_bare_20 (by decide) ?_
    refine j_iadd dX0_bare_21 ?_
    cases hL
    exact j_reti dX0_bare_22 rfl hK
  · replace hL := (if_pos z2).symm.trans hL
    refine j_aload_n 0 dX0_bare_13 rfl ?_
    refine jg_RX0_81 rfl s0 dX0_bare_14 ?_
    refine j_goto 21 dX0_bare_17 (by decide) ?_
    refine j_iadd dX0_bare_21 ?_
    cases hL
    exact j_reti dX0_bare_22 rfl hK

def f_X11_fillShades_l18 (a1 : Nat) : Nat → Int32 → AH → Option (AH)
  | 0, _, _ => none
  | n + 1, v2, h => if (hfi h a1 0) ≤ v2 then some h else gd (ib v2 40 = true) (bnd (f_X0_bare a1 v2 h) (fun q5 => gd (ib v2 40 = true) (lt (sia h 66 (cl v2) ((hia h 66 (cl v2)) + q5)) (fun h7 => f_X11_fillShades_l18 a1 n (v2 + 1) h7))))
def f_X11_fillShades (a1 : Nat) (h : AH) : Option (AH) := gd (SH (hra h 0 3) = (5, 0)) (bnd (f_X0_fillAll a1 66 40 4 (hra h 0 3) h) (fun q2 => bnd (f_X11_fillShades_l18 a1 FU 0 q2) (fun q8 => some q8)))
set_option maxRecDepth 20000 in
theorem cl_X11_fillShades_18 (G : GG) (K : KQ) (a1 : Nat) (s1 : SH a1 = (0, 0)) : ∀ (n : Nat) (v2 : Int32) (h : AH) (r : AH), f_X11_fillShades_l18 a1 n v2 h = some r → J G mX11_fillShades 5 0 0 K 46 [] [] r → J G mX11_fillShades 5 0 0 K 18 [(0, .ref (ad G 0)), (1, .ref (ad G a1)), (2, .int v2)] [] h := by
  intro n
  induction n with
  | zero => intro v2 h r hL; cases hL
  | succ n ih =>
    intro v2 h r hL kE
    unfold f_X11_fillShades_l18 at hL
    refine j_iload_n 2 dX11_fillShades_18 rfl ?_
    refine j_aload_n 1 dX11_fillShades_19 rfl ?_
    refine jg_RX11_164 rfl s1 dX11_fillShades_20 ?_
    refine j_icmp_ge 46 dX11_fillShades_23 (by decide) (fun z3 => ?_) (fun z3 => ?_)
    · replace hL := (if_pos z3).symm.trans hL
      cases hL
      refine j_sub [] rfl ?_
      exact kE 
    · replace hL := (if_neg z3).symm.trans hL
      refine j_aload_n 0 dX11_fillShades_26 rfl ?_
      refine jg_RX11_107 rfl sh_0 dX11_fillShades_27 ?_
      refine j_iload_n 2 dX11_fillShades_30 rfl ?_
      refine j_dup2 dX11_fillShades_31 rfl rfl ?_
      obtain ⟨g4, hL⟩ := gd_ex hL
      refine j_iald (shf_11_18 sh_0) (ib_in g4) dX11_fillShades_32 ?_
      refine j_aload_n 1 dX11_fillShades_33 rfl ?_
      refine j_iload_n 2 dX11_fillShades_34 rfl ?_
      obtain ⟨q5, hq5, hL⟩ := bnd_ex hL
      refine j_callVi (c_X0_bare G a1 s1 v2 h _ hq5) cv_RX11_236 rfl s1 (by decide) rfl (by decide) rfl rfl (Nat.le_of_ble_eq_true rfl) dX11_fillShades_35 (by decide) ?_
      refine j_iadd dX11_fillShades_38 ?_
      obtain ⟨g6, hL⟩ := gd_ex hL
      refine j_iast (shf_11_18 sh_0) (ib_in g6) dX11_fillShades_39 ?_
      obtain ⟨h7, eh7, hL⟩ := lt_ex hL
      refine j_heap eh7 ?_
      refine j_iinc (lv' := [(2, .int (v2 + 1)), (0, .ref (ad G 0)), (1, .ref (ad G a1))]) 2 dX11_fillShades_40 rfl rfl (by decide) rfl ?_
      refine j_goto 18 dX11_fillShades_43 (by decide) ?_
      refine j_sub [1, 2, 0] rfl ?_
      exact ih (v2 + 1) h7 r hL kE

set_option maxRecDepth 20000 in
theorem c_X11_fillShades (G : GG) (a1 : Nat) (s1 : SH a1 = (0, 0)) (h : AH) (r : AH) (hL : f_X11_fillShades a1 h = some r) : SpV G 5 mX11_fillShades [.ref (ad G 0), .ref (ad G a1)] h r := by
  refine sp_v pf_X11_fillShades (Nat.le_of_ble_eq_true rfl) ?_
  show J G mX11_fillShades 5 0 0 (KMv G r) 0 [(0, .ref (ad G 0)), (1, .ref (ad G a1))] [] h
  obtain ⟨K, hK⟩ : ∃ K, K = KMv G r := ⟨_, rfl⟩
  rw [← hK]
  unfold f_X11_fillShades at hL
  refine j_aload_n 1 dX11_fillShades_0 rfl ?_
  refine j_aload_n 0 dX11_fillShades_1 rfl ?_
  refine jg_RX11_107 rfl sh_0 dX11_fillShades_2 ?_
  refine j_aload_n 0 dX11_fillShades_5 rfl ?_
  refine jg_RX11_24 rfl sh_0 dX11_fillShades_6 ?_
  refine j_aload_n 0 dX11_fillShades_9 rfl ?_
  refine jg_RX11_31 rfl sh_0 dX11_fillShades_10 ?_
  obtain ⟨g1, hL⟩ := gd_ex hL
  obtain ⟨q2, hq2, hL⟩ := bnd_ex hL
  refine j_callVv (c_X0_fillAll G a1 s1 66 40 (shf_11_18 sh_0) 4 (shf_11_2 sh_0) (hra h 0 3) g1 h _ hq2) cv_RX11_232 rfl s1 (by decide) rfl (by decide) rfl rfl (Nat.le_of_ble_eq_true rfl) dX11_fillShades_13 (by decide) ?_
  refine j_iconst 0 dX11_fillShades_16 (by decide) ?_
  refine j_istore_n (lv' := [(2, .int 0), (0, .ref (ad G 0)), (1, .ref (ad G a1))]) dX11_fillShades_17 (by decide) rfl ?_
  obtain ⟨q8, hq8, hL⟩ := bnd_ex hL
  refine j_sub [1, 2, 0] rfl ?_
  refine cl_X11_fillShades_18 G K a1 s1 FU 0 q2 q8 hq8 ?_
  cases hL
  exact j_retv dX11_fillShades_46 rfl hK

def f_X11_stepped (v0 : Int32) : Int32 := ((v0 * 1103515245) + 12345)
set_option maxRecDepth 20000 in
theorem c_X11_stepped (G : GG) (v0 : Int32) (h : AH) : SpI G 1 mX11_stepped [.int v0] h (f_X11_stepped v0) h := by
  obtain ⟨r, hL⟩ : ∃ r, f_X11_stepped v0 = r := ⟨_, rfl⟩
  rw [hL]
  refine sp_i pf_X11_stepped (Nat.le_of_ble_eq_true rfl) ?_
  show J G mX11_stepped 1 0 0 (KMi G r h) 0 [(0, .int v0)] [] h
  obtain ⟨K, hK⟩ : ∃ K, K = KMi G r h := ⟨_, rfl⟩
  rw [← hK]
  unfold f_X11_stepped at hL
  refine j_iload_n 0 dX11_stepped_0 rfl ?_
  refine j_ldcw rfl kk_RX11_465 dX11_stepped_1 ?_
  refine j_imul dX11_stepped_4 ?_
  refine j_sipush 12345 dX11_stepped_5 (by decide) ?_
  refine j_iadd dX11_stepped_8 ?_
  subst hL
  exact j_reti dX11_stepped_9 rfl hK

def f_X11_reading (v1 : Int32) (v2 : Int32) (h : AH) : Option (Int32) := gd (SH (hra h 0 3) = (5, 0)) (gd (ib v1 40 = true) (if 1 ≤ ((2 * (hfi h (hra h 0 3) 2)) + 1) then bnd (f_J9_floorMod_7cf53 (((Int32.toUInt32 v2 >>> (Int32.toUInt32 16 &&& Int32.toUInt32 31)).toInt32) &&& 32767) ((2 * (hfi h (hra h 0 3) 2)) + 1)) (fun q4 => gd (SH (hra h 0 3) = (5, 0)) (some (f_J9_max_7cf53 0 (((hia h 66 (cl v1)) + q4) - (hfi h (hra h 0 3) 2))))) else bnd (f_J9_floorMod_7cf53 (((Int32.toUInt32 v2 >>> (Int32.toUInt32 16 &&& Int32.toUInt32 31)).toInt32) &&& 32767) 1) (fun q6 => gd (SH (hra h 0 3) = (5, 0)) (some (f_J9_max_7cf53 0 (((hia h 66 (cl v1)) + q6) - (hfi h (hra h 0 3) 2)))))))
set_option maxRecDepth 20000 in
theorem c_X11_reading (G : GG) (v1 : Int32) (v2 : Int32) (h : AH) (r : Int32) (hL : f_X11_reading v1 v2 h = some r) : SpI G 2 mX11_reading [.ref (ad G 0), .int v1, .int v2] h r h := by
  refine sp_i pf_X11_reading (Nat.le_of_ble_eq_true rfl) ?_
  show J G mX11_reading 2 0 0 (KMi G r h) 0 [(0, .ref (ad G 0)), (1, .int v1), (2, .int v2)] [] h
  obtain ⟨K, hK⟩ : ∃ K, K = KMi G r h := ⟨_, rfl⟩
  rw [← hK]
  unfold f_X11_reading at hL
  refine j_iconst 2 dX11_reading_0 (by decide) ?_
  refine j_aload_n 0 dX11_reading_1 rfl ?_
  refine jg_RX11_31 rfl sh_0 dX11_reading_2 ?_
  obtain ⟨g1, hL⟩ := gd_ex hL
  refine jg_RX11_154 rfl g1 dX11_reading_5 ?_
  refine j_imul dX11_reading_8 ?_
  refine j_iconst 1 dX11_reading_9 (by decide) ?_
  refine j_iadd dX11_reading_10 ?_
  refine j_istore_n (lv' := [(3, .int ((2 * (hfi h (hra h 0 3) 2)) + 1)), (0, .ref (ad G 0)), (1, .int v1), (2, .int v2)]) dX11_reading_11 (by decide) rfl ?_
  refine j_iload_n 3 dX11_reading_12 rfl ?_
  refine j_bipush 16 dX11_reading_13 (by decide) ?_
  refine j_iushr dX11_reading_15 ?_
  refine j_sipush 32767 dX11_reading_16 (by decide) ?_
  refine j_iand dX11_reading_19 ?_
  refine j_istore (lv' := [(4, .int (((Int32.toUInt32 v2 >>> (Int32.toUInt32 16 &&& Int32.toUInt32 31)).toInt32) &&& 32767)), (3, .int ((2 * (hfi h (hra h 0 3) 2)) + 1)), (0, .ref (ad G 0)), (1, .int v1), (2, .int v2)]) dX11_reading_20 (by decide) rfl ?_
  refine j_iconst 0 dX11_reading_22 (by decide) ?_
  refine j_aload_n 2 dX11_reading_23 rfl ?_
  refine jg_RX11_107 rfl sh_0 dX11_reading_24 ?_
  refine j_iload_n 3 dX11_reading_27 rfl ?_
  obtain ⟨g2, hL⟩ := gd_ex hL
  refine j_iald (shf_11_18 sh_0) (ib_in g2) dX11_reading_28 ?_
  refine j_iload 0 dX11_reading_29 rfl ?_
  refine j_iload_n 1 dX11_reading_31 rfl ?_
  refine j_iconst 1 dX11_reading_32 (by decide) ?_
  refine j_icmp_ge 40 dX11_reading_33 (by decide) (fun z3 => ?_) (fun z3 => ?_)
  · replace hL := (if_pos z3).symm.trans hL
    refine j_iload_n 1 dX11_reading_40 rfl ?_
    obtain ⟨q4, hq4, hL⟩ := bnd_ex hL
    refine j_callSi (c_J9_floorMod_7cf53 G (((Int32.toUInt32 v2 >>> (Int32.toUInt32 16 &&& Int32.toUInt32 31)).toInt32) &&& 32767) ((2 * (hfi h (hra h 0 3) 2)) + 1) h _ hq4) cv_RX11_462 rfl (by decide) rfl rfl (Nat.le_of_ble_eq_true rfl) dX11_reading_41 (by decide) ?_
    refine j_iadd dX11_reading_44 ?_
    refine j_aload_n 2 dX11_reading_45 rfl ?_
    refine jg_RX11_31 rfl sh_0 dX11_reading_46 ?_
    obtain ⟨g5, hL⟩ := gd_ex hL
    refine jg_RX11_154 rfl g5 dX11_reading_49 ?_
    refine j_isub dX11_reading_52 ?_
    refine j_callSi (c_J9_max_7cf53 G 0 (((hia h 66 (cl v1)) + q4) - (hfi h (hra h 0 3) 2)) h) cv_RX11_386 rfl (by decide) rfl rfl (Nat.le_of_ble_eq_true rfl) dX11_reading_53 (by decide) ?_
    cases hL
    exact j_reti dX11_reading_56 rfl hK
  · replace hL := (if_neg z3).symm.trans hL
    refine j_iconst 1 dX11_reading_36 (by decide) ?_
    refine j_goto 41 dX11_reading_37 (by decide) ?_
    obtain ⟨q6, hq6, hL⟩ := bnd_ex hL
    refine j_callSi (c_J9_floorMod_7cf53 G (((Int32.toUInt32 v2 >>> (Int32.toUInt32 16 &&& Int32.toUInt32 31)).toInt32) &&& 32767) 1 h _ hq6) cv_RX11_462 rfl (by decide) rfl rfl (Nat.le_of_ble_eq_true rfl) dX11_reading_41 (by decide) ?_
    refine j_iadd dX11_reading_44 ?_
    refine j_aload_n 2 dX11_reading_45 rfl ?_
    refine jg_RX11_31 rfl sh_0 dX11_reading_46 ?_
    obtain ⟨g7, hL⟩ := gd_ex hL
    refine jg_RX11_154 rfl g7 dX11_reading_49 ?_
    refine j_isub dX11_reading_52 ?_
    refine j_callSi (c_J9_max_7cf53 G 0 (((hia h 66 (cl v1)) + q6) - (hfi h (hra h 0 3) 2)) h) cv_RX11_386 rfl (by decide) rfl rfl (Nat.le_of_ble_eq_true rfl) dX11_reading_53 (by decide) ?_
    cases hL
    exact j_reti dX11_reading_56 rfl hK

def f_X3_take (a0 : Nat) (v1 : Int32) (v2 : Int32) (v3 : Int32) (h : AH) : Option (Bool × AH) := if v2 < 0 then some (false, h) else if v2 ≤ 999999 then bnd (f_X3_wasRead a0 v1 h) (fun q3 => lt (fun (x8 : Int32) (x9 : Int32) => if x8 ≤ x9 then gd (ib v1 40 = true) (lt (sia h (a0 + 1) (cl v1) x8) (fun h12 => gd (ib v1 40 = true) (lt (sia h12 (a0 + 2) (cl v1) x9) (fun h14 => some (true, h14))))) else some (false, h)) (fun j5 => if q3 = true then gd (ib v1 40 = true) (gd (ib v1 40 = true) (j5 (f_J9_max_7cf53 (f_J9_max_7cf53 0 (v2 - v3)) (hia h (a0 + 1) (cl v1))) (f_J9_min_7cf53 (v2 + v3) (hia h (a0 + 2) (cl v1))))) else j5 (f_J9_max_7cf53 0 (v2 - v3)) (v2 + v3))) else some (false, h)
set_option maxRecDepth 20000 in
theorem c_X3_take (G : GG) (a0 : Nat) (s0 : SH a0 = (3, 0)) (v1 : Int32) (v2 : Int32) (v3 : Int32) (h : AH) (r : Bool × AH) (hL : f_X3_take a0 v1 v2 v3 h = some r) : SpI G 2 mX3_take [.ref (ad G a0), .int v1, .int v2, .int v3] h (bI r.1) r.2 := by
  refine sp_i pf_X3_take (Nat.le_of_ble_eq_true rfl) ?_
  show J G mX3_take 2 0 0 (KMi G (bI r.1) r.2) 0 [(0, .ref (ad G a0)), (1, .int v1), (2, .int v2), (3, .int v3)] [] h
  obtain ⟨K, hK⟩ : ∃ K, K = KMi G (bI r.1) r.2 := ⟨_, rfl⟩
  rw [← hK]
  unfold f_X3_take at hL
  refine j_iload_n 2 dX3_take_0 rfl ?_
  refine j_if_lt 10 dX3_take_1 (by decide) (fun z1 => ?_) (fun z1 => ?_)
  · replace hL := (if_pos z1).symm.trans hL
    refine j_iconst 0 dX3_take_10 (by decide) ?_
    cases hL
    exact j_ret0 dX3_take_11 rfl hK
  · replace hL := (if_neg z1).symm.trans hL
    refine j_iload_n 2 dX3_take_4 rfl ?_
    refine j_ldc rfl kk_RX3_34 dX3_take_5 ?_
    refine j_icmp_le 12 dX3_take_7 (by decide) (fun z2 => ?_) (fun z2 => ?_)
    · replace hL := (if_pos z2).symm.trans hL
      refine j_iconst 0 dX3_take_12 (by decide) ?_
      refine j_iload_n 2 dX3_take_13 rfl ?_
      refine j_iload_n 3 dX3_take_14 rfl ?_
      refine j_isub dX3_take_15 ?_
      refine j_callSi (c_J9_max_7cf53 G 0 (v2 - v3) h) cv_RX3_35 rfl (by decide) rfl rfl (Nat.le_of_ble_eq_true rfl) dX3_take_16 (by decide) ?_
      refine j_istore (lv' := [(4, .int (f_J9_max_7cf53 0 (v2 - v3))), (0, .ref (ad G a0)), (1, .int v1), (2, .int v2), (3, .int v3)]) dX3_take_19 (by decide) rfl ?_
      refine j_iload_n 3 dX3_take_21 rfl ?_
      refine j_iload_n 4 dX3_take_22 rfl ?_
      refine j_iadd dX3_take_23 ?_
      refine j_istore (lv' := [(5, .int (v2 + v3)), (4, .int (f_J9_max_7cf53 0 (v2 - v3))), (0, .ref (ad G a0)), (1, .int v1), (2, .int v2), (3, .int v3)]) dX3_take_24 (by decide) rfl ?_
      refine j_aload_n 2 dX3_take_26 rfl ?_
      refine j_iload_n 3 dX3_take_27 rfl ?_
      obtain ⟨q3, hq3, hL⟩ := bnd_ex hL
      refine j_callVi (c_X3_wasRead G a0 s0 v1 h _ hq3) cv_RX3_30 rfl s0 (by decide) rfl (by decide) rfl rfl (Nat.le_of_ble_eq_true rfl) dX3_take_28 (by decide) ?_
      obtain ⟨j5, ej5, hL⟩ := lt_ex hL
      have kj5 : ∀ (x8 : Int32) (x9 : Int32), j5 x8 x9 = some r → J G mX3_take 2 0 0 K 60 [(0, .ref (ad G a0)), (1, .int v1), (4, .int x8), (5, .int x9)] [] h := by
        intro x8 x9 hL
        rw [ej5] at hL
        replace hL : (if x8 ≤ x9 then gd (ib v1 40 = true) (lt (sia h (a0 + 1) (cl v1) x8) (fun h12 => gd (ib v1 40 = true) (lt (sia h12 (a0 + 2) (cl v1) x9) (fun h14 => some (true, h14))))) else some (false, h)) = some r := hL
        refine j_iload 2 dX3_take_60 rfl ?_
        refine j_iload 3 dX3_take_62 rfl ?_
        refine j_icmp_le 69 dX3_take_64 (by decide) (fun z10 => ?_) (fun z10 => ?_)
        · replace hL := (if_pos z10).symm.trans hL
          refine j_aload_n 0 dX3_take_69 rfl ?_
          refine jg_RX3_9 rfl s0 dX3_take_70 ?_
          refine j_iload_n 1 dX3_take_73 rfl ?_
          refine j_iload 2 dX3_take_74 rfl ?_
          obtain ⟨g11, hL⟩ := gd_ex hL
          refine j_iast (shf_3_0 s0) (ib_in g11) dX3_take_76 ?_
          obtain ⟨h12, eh12, hL⟩ := lt_ex hL
          refine j_heap eh12 ?_
          refine j_aload_n 0 dX3_take_77 rfl ?_
          refine jg_RX3_15 rfl s0 dX3_take_78 ?_
          refine j_iload_n 1 dX3_take_81 rfl ?_
          refine j_iload 3 dX3_take_82 rfl ?_
          obtain ⟨g13, hL⟩ := gd_ex hL
          refine j_iast (shf_3_1 s0) (ib_in g13) dX3_take_84 ?_
          obtain ⟨h14, eh14, hL⟩ := lt_ex hL
          refine j_heap eh14 ?_
          refine j_iconst 1 dX3_take_85 (by decide) ?_
          cases hL
          exact j_ret1 dX3_take_86 rfl hK
        · replace hL := (if_neg z10).symm.trans hL
          refine j_iconst 0 dX3_take_67 (by decide) ?_
          cases hL
          exact j_ret0 dX3_take_68 rfl hK
      refine j_ifz_eq 60 dX3_take_31 (by decide) (fun z4 => ?_) (fun z4 => ?_)
      · replace hL := (if_neg z4).symm.trans hL
        refine j_sub [2, 3, 1, 0] rfl ?_
        exact kj5 (f_J9_max_7cf53 0 (v2 - v3)) (v2 + v3) hL
      · replace hL := (if_pos z4).symm.trans hL
        refine j_iload 1 dX3_take_34 rfl ?_
        refine j_aload_n 2 dX3_take_36 rfl ?_
        refine jg_RX3_9 rfl s0 dX3_take_37 ?_
        refine j_iload_n 3 dX3_take_40 rfl ?_
        obtain ⟨g6, hL⟩ := gd_ex hL
        refine j_iald (shf_3_0 s0) (ib_in g6) dX3_take_41 ?_
        refine j_callSi (c_J9_max_7cf53 G (f_J9_max_7cf53 0 (v2 - v3)) (hia h (a0 + 1) (cl v1)) h) cv_RX3_35 rfl (by decide) rfl rfl (Nat.le_of_ble_eq_true rfl) dX3_take_42 (by decide) ?_
        refine j_istore (lv' := [(4, .int (f_J9_max_7cf53 (f_J9_max_7cf53 0 (v2 - v3)) (hia h (a0 + 1) (cl v1)))), (5, .int (v2 + v3)), (0, .ref (ad G a0)), (1, .int v1), (2, .int v2), (3, .int v3)]) dX3_take_45 (by decide) rfl ?_
        refine j_iload 1 dX3_take_47 rfl ?_
        refine j_aload_n 2 dX3_take_49 rfl ?_
        refine jg_RX3_15 rfl s0 dX3_take_50 ?_
        refine j_iload_n 3 dX3_take_53 rfl ?_
        obtain ⟨g7, hL⟩ := gd_ex hL
        refine j_iald (shf_3_1 s0) (ib_in g7) dX3_take_54 ?_
        refine j_callSi (c_J9_min_7cf53 G (v2 + v3) (hia h (a0 + 2) (cl v1)) h) cv_RX3_41 rfl (by decide) rfl rfl (Nat.le_of_ble_eq_true rfl) dX3_take_55 (by decide) ?_
        refine j_istore (lv' := [(5, .int (f_J9_min_7cf53 (v2 + v3) (hia h (a0 + 2) (cl v1)))), (4, .int (f_J9_max_7cf53 (f_J9_max_7cf53 0 (v2 - v3)) (hia h (a0 + 1) (cl v1)))), (0, .ref (ad G a0)), (1, .int v1), (2, .int v2), (3, .int v3)]) dX3_take_58 (by decide) rfl ?_
        refine j_sub [2, 3, 1, 0] rfl ?_
        exact kj5 (f_J9_max_7cf53 (f_J9_max_7cf53 0 (v2 - v3)) (hia h (a0 + 1) (cl v1))) (f_J9_min_7cf53 (v2 + v3) (hia h (a0 + 2) (cl v1))) hL
    · replace hL := (if_neg z2).symm.trans hL
      refine j_iconst 0 dX3_take_10 (by decide) ?_
      cases hL
      exact j_ret0 dX3_take_11 rfl hK

def f_X0_bareHigh (a0 : Nat) (a1 : Nat) (v2 : Int32) (h : AH) : Option (Int32) := gd (ib v2 40 = true) (bnd (f_X0_bare a0 v2 h) (fun q2 => some (f_J9_max_7cf53 0 ((hia h (a1 + 2) (cl v2)) - q2))))
set_option maxRecDepth 20000 in
theorem c_X0_bareHigh (G : GG) (a0 : Nat) (s0 : SH a0 = (0, 0)) (a1 : Nat) (s1 : SH a1 = (3, 0)) (v2 : Int32) (h : AH) (r : Int32) (hL : f_X0_bareHigh a0 a1 v2 h = some r) : SpI G 2 mX0_bareHigh [.ref (ad G a0), .ref (ad G a1), .int v2] h r h := by
  refine sp_i pf_X0_bareHigh (Nat.le_of_ble_eq_true rfl) ?_
  show J G mX0_bareHigh 2 0 0 (KMi G r h) 0 [(0, .ref (ad G a0)), (1, .ref (ad G a1)), (2, .int v2)] [] h
  obtain ⟨K, hK⟩ : ∃ K, K = KMi G r h := ⟨_, rfl⟩
  rw [← hK]
  unfold f_X0_bareHigh at hL
  refine j_iconst 0 dX0_bareHigh_0 (by decide) ?_
  refine j_aload_n 1 dX0_bareHigh_1 rfl ?_
  refine jg_RX0_174 rfl s1 dX0_bareHigh_2 ?_
  refine j_iload_n 2 dX0_bareHigh_5 rfl ?_
  obtain ⟨g1, hL⟩ := gd_ex hL
  refine j_iald (shf_3_1 s1) (ib_in g1) dX0_bareHigh_6 ?_
  refine j_aload_n 0 dX0_bareHigh_7 rfl ?_
  refine j_iload_n 2 dX0_bareHigh_8 rfl ?_
  obtain ⟨q2, hq2, hL⟩ := bnd_ex hL
  refine j_callVi (c_X0_bare G a0 s0 v2 h _ hq2) cv_RX0_171 rfl s0 (by decide) rfl (by decide) rfl rfl (Nat.le_of_ble_eq_true rfl) dX0_bareHigh_9 (by decide) ?_
  refine j_isub dX0_bareHigh_12 ?_
  refine j_callSi (c_J9_max_7cf53 G 0 ((hia h (a1 + 2) (cl v2)) - q2) h) cv_RX0_136 rfl (by decide) rfl rfl (Nat.le_of_ble_eq_true rfl) dX0_bareHigh_13 (by decide) ?_
  cases hL
  exact j_reti dX0_bareHigh_16 rfl hK

def f_X0_bareLow (a0 : Nat) (a1 : Nat) (v2 : Int32) (h : AH) : Option (Int32) := gd (ib v2 40 = true) (bnd (f_X0_bare a0 v2 h) (fun q2 => some (f_J9_max_7cf53 0 ((hia h (a1 + 1) (cl v2)) - q2))))
set_option maxRecDepth 20000 in
theorem c_X0_bareLow (G : GG) (a0 : Nat) (s0 : SH a0 = (0, 0)) (a1 : Nat) (s1 : SH a1 = (3, 0)) (v2 : Int32) (h : AH) (r : Int32) (hL : f_X0_bareLow a0 a1 v2 h = some r) : SpI G 2 mX0_bareLow [.ref (ad G a0), .ref (ad G a1), .int v2] h r h := by
  refine sp_i pf_X0_bareLow (Nat.le_of_ble_eq_true rfl) ?_
  show J G mX0_bareLow 2 0 0 (KMi G r h) 0 [(0, .ref (ad G a0)), (1, .ref (ad G a1)), (2, .int v2)] [] h
  obtain ⟨K, hK⟩ : ∃ K, K = KMi G r h := ⟨_, rfl⟩
  rw [← hK]
  unfold f_X0_bareLow at hL
  refine j_iconst 0 dX0_bareLow_0 (by decide) ?_
  refine j_aload_n 1 dX0_bareLow_1 rfl ?_
  refine jg_RX0_168 rfl s1 dX0_bareLow_2 ?_
  refine j_iload_n 2 dX0_bareLow_5 rfl ?_
  obtain ⟨g1, hL⟩ := gd_ex hL
  refine j_iald (shf_3_0 s1) (ib_in g1) dX0_bareLow_6 ?_
  refine j_aload_n 0 dX0_bareLow_7 rfl ?_
  refine j_iload_n 2 dX0_bareLow_8 rfl ?_
  obtain ⟨q2, hq2, hL⟩ := bnd_ex hL
  refine j_callVi (c_X0_bare G a0 s0 v2 h _ hq2) cv_RX0_171 rfl s0 (by decide) rfl (by decide) rfl rfl (Nat.le_of_ble_eq_true rfl) dX0_bareLow_9 (by decide) ?_
  refine j_isub dX0_bareLow_12 ?_
  refine j_callSi (c_J9_max_7cf53 G 0 ((hia h (a1 + 1) (cl v2)) - q2) h) cv_RX0_136 rfl (by decide) rfl rfl (Nat.le_of_ble_eq_true rfl) dX0_bareLow_13 (by decide) ?_
  cases hL
  exact j_reti dX0_bareLow_16 rfl hK

def f_X11_cutUp (v0 : Int64) (v2 : Int64) : Option (Int32) := if 0 ≤ (lg_cmp v2 1) then bnd (f_J9_floorDiv_f86c9 (-v0) v2) (fun q2 => some (Int64.toInt32 (-q2))) else some 0
set_option maxRecDepth 20000 in
theorem c_X11_cutUp (G : GG) (v0 : Int64) (v2 : Int64) (h : AH) (r : Int32) (hL : f_X11_cutUp v0 v2 = some r) : SpI G 2 mX11_cutUp [.long v0, .long v2] h r h := by
  refine sp_i pf_X11_cutUp (Nat.le_of_ble_eq_true rfl) ?_
  show J G mX11_cutUp 2 0 0 (KMi G r h) 0 [(0, .long v0), (2, .long v2)] [] h
  obtain ⟨K, hK⟩ : ∃ K, K = KMi G r h := ⟨_, rfl⟩
  rw [← hK]
  unfold f_X11_cutUp at hL
  refine j_lload_n 1 dX11_cutUp_0 rfl ?_
  refine j_lconst 1 dX11_cutUp_1 (by decide) ?_
  refine j_lcmp dX11_cutUp_2 ?_
  refine j_if_ge 10 dX11_cutUp_3 (by decide) (fun z1 => ?_) (fun z1 => ?_)
  · replace hL := (if_pos z1).symm.trans hL
    refine j_lload_n 0 dX11_cutUp_10 rfl ?_
    refine j_lneg dX11_cutUp_11 ?_
    refine j_lload_n 1 dX11_cutUp_12 rfl ?_
    obtain ⟨q2, hq2, hL⟩ := bnd_ex hL
    refine j_callSl (c_J9_floorDiv_f86c9 G (-v0) v2 h _ hq2) cv_RX11_466 rfl (by decide) rfl rfl (Nat.le_of_ble_eq_true rfl) dX11_cutUp_13 (by decide) ?_
    refine j_lneg dX11_cutUp_16 ?_
    refine j_l2i dX11_cutUp_17 ?_
    cases hL
    exact j_reti dX11_cutUp_18 rfl hK
  · replace hL := (if_neg z1).symm.trans hL
    refine j_iconst 0 dX11_cutUp_6 (by decide) ?_
    refine j_goto 18 dX11_cutUp_7 (by decide) ?_
    cases hL
    exact j_reti dX11_cutUp_18 rfl hK

def f_X11_cutDown (v0 : Int64) (v2 : Int64) : Option (Int32) := if 0 ≤ (lg_cmp v2 1) then bnd (f_J9_floorDiv_f86c9 v0 v2) (fun q2 => some (Int64.toInt32 q2)) else some 0
set_option maxRecDepth 20000 in
theorem c_X11_cutDown (G : GG) (v0 : Int64) (v2 : Int64) (h : AH) (r : Int32) (hL : f_X11_cutDown v0 v2 = some r) : SpI G 2 mX11_cutDown [.long v0, .long v2] h r h := by
  refine sp_i pf_X11_cutDown (Nat.le_of_ble_eq_true rfl) ?_
  show J G mX11_cutDown 2 0 0 (KMi G r h) 0 [(0, .long v0), (2, .long v2)] [] h
  obtain ⟨K, hK⟩ : ∃ K, K = KMi G r h := ⟨_, rfl⟩
  rw [← hK]
  unfold f_X11_cutDown at hL
  refine j_lload_n 1 dX11_cutDown_0 rfl ?_
  refine j_lconst 1 dX11_cutDown_1 (by decide) ?_
  refine j_lcmp dX11_cutDown_2 ?_
  refine j_if_ge 10 dX11_cutDown_3 (by decide) (fun z1 => ?_) (fun z1 => ?_)
  · replace hL := (if_pos z1).symm.trans hL
    refine j_lload_n 0 dX11_cutDown_10 rfl ?_
    refine j_lload_n 1 dX11_cutDown_11 rfl ?_
    obtain ⟨q2, hq2, hL⟩ := bnd_ex hL
    refine j_callSl (c_J9_floorDiv_f86c9 G v0 v2 h _ hq2) cv_RX11_466 rfl (by decide) rfl rfl (Nat.le_of_ble_eq_true rfl) dX11_cutDown_12 (by decide) ?_
    refine j_l2i dX11_cutDown_15 ?_
    cases hL
    exact j_reti dX11_cutDown_16 rfl hK
  · replace hL := (if_neg z1).symm.trans hL
    refine j_iconst 0 dX11_cutDown_6 (by decide) ?_
    refine j_goto 16 dX11_cutDown_7 (by decide) ?_
    cases hL
    exact j_reti dX11_cutDown_16 rfl hK

def f_X9_isStrange (a0 : Nat) (v1 : Int32) (h : AH) : Option (Bool) := gd (ib v1 40 = true) (gd (ib v1 40 = true) (if (hia h (a0 + 3) (cl v1)) ≤ (hia h (a0 + 4) (cl v1)) then some false else some true))
set_option maxRecDepth 20000 in
theorem c_X9_isStrange (G : GG) (a0 : Nat) (s0 : SH a0 = (9, 0)) (v1 : Int32) (h : AH) (r : Bool) (hL : f_X9_isStrange a0 v1 h = some r) : SpI G 1 mX9_isStrange [.ref (ad G a0), .int v1] h (bI r) h := by
  refine sp_i pf_X9_isStrange (Nat.le_of_ble_eq_true rfl) ?_
  show J G mX9_isStrange 1 0 0 (KMi G (bI r) h) 0 [(0, .ref (ad G a0)), (1, .int v1)] [] h
  obtain ⟨K, hK⟩ : ∃ K, K = KMi G (bI r) h := ⟨_, rfl⟩
  rw [← hK]
  unfold f_X9_isStrange at hL
  refine j_aload_n 0 dX9_isStrange_0 rfl ?_
  refine jg_RX9_18 rfl s0 dX9_isStrange_1 ?_
  refine j_iload_n 1 dX9_isStrange_4 rfl ?_
  obtain ⟨g1, hL⟩ := gd_ex hL
  refine j_iald (shf_9_2 s0) (ib_in g1) dX9_isStrange_5 ?_
  refine j_aload_n 0 dX9_isStrange_6 rfl ?_
  refine jg_RX9_21 rfl s0 dX9_isStrange_7 ?_
  refine j_iload_n 1 dX9_isStrange_10 rfl ?_
  obtain ⟨g2, hL⟩ := gd_ex hL
  refine j_iald (shf_9_3 s0) (ib_in g2) dX9_isStrange_11 ?_
  refine j_icmp_le 19 dX9_isStrange_12 (by decide) (fun z3 => ?_) (fun z3 => ?_)
  · replace hL := (if_pos z3).symm.trans hL
    refine j_iconst 0 dX9_isStrange_19 (by decide) ?_
    cases hL
    exact j_ret0 dX9_isStrange_20 rfl hK
  · replace hL := (if_neg z3).symm.trans hL
    refine j_iconst 1 dX9_isStrange_15 (by decide) ?_
    refine j_goto 20 dX9_isStrange_16 (by decide) ?_
    cases hL
    exact j_ret1 dX9_isStrange_20 rfl hK

def f_X9_fillLeaf (a0 : Nat) (a1 : Nat) (a2 : Nat) (a3 : Nat) (v4 : Int32) (v5 : Bool) (h : AH) : Option (AH) := gd (ib v4 40 = true) (lt (sia h (a0 + 1) (cl v4) 0) (fun h2 => gd (ib v4 40 = true) (lt (sia h2 (a0 + 2) (cl v4) 0) (fun h4 => lt (fun  (h25 : AH) => gd (ib v4 40 = true) (bnd (f_X11_cutUp ((f_J9_max_7cf53 0 (hia h25 (a0 + 1) (cl v4))).toInt64) ((hfi h25 a3 0).toInt64)) (fun q27 => gd (ib v4 40 = true) (lt (sia h25 (a0 + 3) (cl v4) q27) (fun h29 => gd (ib v4 40 = true) (bnd (f_X11_cutDown ((hia h29 (a0 + 2) (cl v4)).toInt64) ((hfi h29 a3 0).toInt64)) (fun q31 => gd (ib v4 40 = true) (lt (sia h29 (a0 + 4) (cl v4) q31) (fun h33 => bnd (f_X9_isStrange a0 v4 h33) (fun q34 => if q34 = true then gd (ib v4 40 = true) (lt (sia h33 (a0 + 5) (cl v4) 0) (fun h41 => some h41)) else gd (ib v4 40 = true) (gd (ib v4 40 = true) (gd (ib v4 40 = true) (lt (sia h33 (a0 + 5) (cl v4) ((hia h33 (a0 + 3) (cl v4)) + (hia h33 (a0 + 4) (cl v4)))) (fun h39 => some h39)))))))))))))) (fun j6 => if v5 = true then lt (fun (x11 : Int32) => lt (fun (x16 : Int32) => bnd (f_X0_bareLow a1 a2 v4 h4) (fun q17 => gd (ib v4 40 = true) (gd (ib v4 40 = true) (lt (sia h4 (a0 + 1) (cl v4) ((q17 - x11) - (hia h4 (a1 + 6) (cl v4)))) (fun h20 => bnd (f_X0_bareHigh a1 a2 v4 h20) (fun q21 => gd (ib v4 40 = true) (gd (ib v4 40 = true) (lt (sia h20 (a0 + 2) (cl v4) ((q21 - x16) - (hia h20 (a1 + 6) (cl v4)))) (fun h24 => j6  h24))))))))) (fun j13 => if v4 = 0 then j13 0 else bnd (f_X0_bareLow a1 a2 (v4 - 1) h4) (fun q14 => bnd (f_X5_through a3 q14 h4) (fun q15 => j13 q15)))) (fun j8 => if v4 = 0 then j8 0 else bnd (f_X0_bareHigh a1 a2 (v4 - 1) h4) (fun q9 => bnd (f_X5_through a3 q9 h4) (fun q10 => j8 q10))) else j6  h4)))))
set_option maxRecDepth 20000 in
theorem c_X9_fillLeaf (G : GG) (a0 : Nat) (s0 : SH a0 = (9, 0)) (a1 : Nat) (s1 : SH a1 = (0, 0)) (a2 : Nat) (s2 : SH a2 = (3, 0)) (a3 : Nat) (s3 : SH a3 = (5, 0)) (v4 : Int32) (v5 : Bool) (h : AH) (r : AH) (hL : f_X9_fillLeaf a0 a1 a2 a3 v4 v5 h = some r) : SpV G 3 mX9_fillLeaf [.ref (ad G a0), .ref (ad G a1), .ref (ad G a2), .ref (ad G a3), .int v4, .int (bI v5)] h r := by
  refine sp_v pf_X9_fillLeaf (Nat.le_of_ble_eq_true rfl) ?_
  show J G mX9_fillLeaf 3 0 0 (KMv G r) 0 [(0, .ref (ad G a0)), (1, .ref (ad G a1)), (2, .ref (ad G a2)), (3, .ref (ad G a3)), (4, .int v4), (5, .int (bI v5))] [] h
  obtain ⟨K, hK⟩ : ∃ K, K = KMv G r := ⟨_, rfl⟩
  rw [← hK]
  unfold f_X9_fillLeaf at hL
  refine j_aload_n 0 dX9_fillLeaf_0 rfl ?_
  refine jg_RX9_9 rfl s0 dX9_fillLeaf_1 ?_
  refine j_iload 4 dX9_fillLeaf_4 rfl ?_
  refine j_iconst 0 dX9_fillLeaf_6 (by decide) ?_
  obtain ⟨g1, hL⟩ := gd_ex hL
  refine j_iast (shf_9_0 s0) (ib_in g1) dX9_fillLeaf_7 ?_
  obtain ⟨h2, eh2, hL⟩ := lt_ex hL
  refine j_heap eh2 ?_
  refine j_aload_n 0 dX9_fillLeaf_8 rfl ?_
  refine jg_RX9_15 rfl s0 dX9_fillLeaf_9 ?_
  refine j_iload 4 dX9_fillLeaf_12 rfl ?_
  refine j_iconst 0 dX9_fillLeaf_14 (by decide) ?_
  obtain ⟨g3, hL⟩ := gd_ex hL
  refine j_iast (shf_9_1 s0) (ib_in g3) dX9_fillLeaf_15 ?_
  obtain ⟨h4, eh4, hL⟩ := lt_ex hL
  refine j_heap eh4 ?_
  refine j_iload 5 dX9_fillLeaf_16 rfl ?_
  obtain ⟨j6, ej6, hL⟩ := lt_ex hL
  have kj6 : ∀  (h25 : AH), j6  h25 = some r → J G mX9_fillLeaf 3 0 0 K 119 [(0, .ref (ad G a0)), (3, .ref (ad G a3)), (4, .int v4)] [] h25 := by
    intro  h25 hL
    rw [ej6] at hL
    replace hL : (gd (ib v4 40 = true) (bnd (f_X11_cutUp ((f_J9_max_7cf53 0 (hia h25 (a0 + 1) (cl v4))).toInt64) ((hfi h25 a3 0).toInt64)) (fun q27 => gd (ib v4 40 = true) (lt (sia h25 (a0 + 3) (cl v4) q27) (fun h29 => gd (ib v4 40 = true) (bnd (f_X11_cutDown ((hia h29 (a0 + 2) (cl v4)).toInt64) ((hfi h29 a3 0).toInt64)) (fun q31 => gd (ib v4 40 = true) (lt (sia h29 (a0 + 4) (cl v4) q31) (fun h33 => bnd (f_X9_isStrange a0 v4 h33) (fun q34 => if q34 = true then gd (ib v4 40 = true) (lt (sia h33 (a0 + 5) (cl v4) 0) (fun h41 => some h41)) else gd (ib v4 40 = true) (gd (ib v4 40 = true) (gd (ib v4 40 = true) (lt (sia h33 (a0 + 5) (cl v4) ((hia h33 (a0 + 3) (cl v4)) + (hia h33 (a0 + 4) (cl v4)))) (fun h39 => some h39)))))))))))))) = some r := hL
    refine j_aload_n 0 dX9_fillLeaf_119 rfl ?_
    refine jg_RX9_18 rfl s0 dX9_fillLeaf_120 ?_
    refine j_iload 2 dX9_fillLeaf_123 rfl ?_
    refine j_iconst 0 dX9_fillLeaf_125 (by decide) ?_
    refine j_aload_n 0 dX9_fillLeaf_126 rfl ?_
    refine jg_RX9_9 rfl s0 dX9_fillLeaf_127 ?_
    refine j_iload 2 dX9_fillLeaf_130 rfl ?_
    obtain ⟨g26, hL⟩ := gd_ex hL
    refine j_iald (shf_9_0 s0) (ib_in g26) dX9_fillLeaf_132 ?_
    refine j_callSi (c_J9_max_7cf53 G 0 (hia h25 (a0 + 1) (cl v4)) h25) cv_RX9_72 rfl (by decide) rfl rfl (Nat.le_of_ble_eq_true rfl) dX9_fillLeaf_133 (by decide) ?_
    refine j_i2l dX9_fillLeaf_136 ?_
    refine j_aload_n 1 dX9_fillLeaf_137 rfl ?_
    refine jg_RX9_78 rfl s3 dX9_fillLeaf_138 ?_
    refine j_i2l dX9_fillLeaf_141 ?_
    obtain ⟨q27, hq27, hL⟩ := bnd_ex hL
    refine j_callNi (c_X11_cutUp G ((f_J9_max_7cf53 0 (hia h25 (a0 + 1) (cl v4))).toInt64) ((hfi h25 a3 0).toInt64) h25 _ hq27) cv_RX9_81 rfl (by decide) rfl rfl (Nat.le_of_ble_eq_true rfl) dX9_fillLeaf_142 (by decide) ?_
    obtain ⟨g28, hL⟩ := gd_ex hL
    refine j_iast (shf_9_2 s0) (ib_in g28) dX9_fillLeaf_145 ?_
    obtain ⟨h29, eh29, hL⟩ := lt_ex hL
    refine j_heap eh29 ?_
    refine j_aload_n 0 dX9_fillLeaf_146 rfl ?_
    refine jg_RX9_21 rfl s0 dX9_fillLeaf_147 ?_
    refine j_iload 2 dX9_fillLeaf_150 rfl ?_
    refine j_aload_n 0 dX9_fillLeaf_152 rfl ?_
    refine jg_RX9_15 rfl s0 dX9_fillLeaf_153 ?_
    refine j_iload 2 dX9_fillLeaf_156 rfl ?_
    obtain ⟨g30, hL⟩ := gd_ex hL
    refine j_iald (shf_9_1 s0) (ib_in g30) dX9_fillLeaf_158 ?_
    refine j_i2l dX9_fillLeaf_159 ?_
    refine j_aload_n 1 dX9_fillLeaf_160 rfl ?_
    refine jg_RX9_78 rfl s3 dX9_fillLeaf_161 ?_
    refine j_i2l dX9_fillLeaf_164 ?_
    obtain ⟨q31, hq31, hL⟩ := bnd_ex hL
    refine j_callNi (c_X11_cutDown G ((hia h29 (a0 + 2) (cl v4)).toInt64) ((hfi h29 a3 0).toInt64) h29 _ hq31) cv_RX9_85 rfl (by decide) rfl rfl (Nat.le_of_ble_eq_true rfl) dX9_fillLeaf_165 (by decide) ?_
    obtain ⟨g32, hL⟩ := gd_ex hL
    refine j_iast (shf_9_3 s0) (ib_in g32) dX9_fillLeaf_168 ?_
    obtain ⟨h33, eh33, hL⟩ := lt_ex hL
    refine j_heap eh33 ?_
    refine j_aload_n 0 dX9_fillLeaf_169 rfl ?_
    refine jg_RX9_24 rfl s0 dX9_fillLeaf_170 ?_
    refine j_iload 2 dX9_fillLeaf_173 rfl ?_
    refine j_aload_n 0 dX9_fillLeaf_175 rfl ?_
    refine j_iload 2 dX9_fillLeaf_176 rfl ?_
    obtain ⟨q34, hq34, hL⟩ := bnd_ex hL
    refine j_callVi (c_X9_isStrange G a0 s0 v4 h33 _ hq34) cv_RX9_88 rfl s0 (by decide) rfl (by decide) rfl rfl (Nat.le_of_ble_eq_true rfl) dX9_fillLeaf_178 (by decide) ?_
    refine j_ifz_eq 188 dX9_fillLeaf_181 (by decide) (fun z35 => ?_) (fun z35 => ?_)
    · replace hL := (if_neg z35).symm.trans hL
      refine j_aload_n 0 dX9_fillLeaf_188 rfl ?_
      refine jg_RX9_18 rfl s0 dX9_fillLeaf_189 ?_
      refine j_iload 2 dX9_fillLeaf_192 rfl ?_
      obtain ⟨g36, hL⟩ := gd_ex hL
      refine j_iald (shf_9_2 s0) (ib_in g36) dX9_fillLeaf_194 ?_
      refine j_aload_n 0 dX9_fillLeaf_195 rfl ?_
      refine jg_RX9_21 rfl s0 dX9_fillLeaf_196 ?_
      refine j_iload 2 dX9_fillLeaf_199 rfl ?_
      obtain ⟨g37, hL⟩ := gd_ex hL
      refine j_iald (shf_9_3 s0) (ib_in g37) dX9_fillLeaf_201 ?_
      refine j_iadd dX9_fillLeaf_202 ?_
      obtain ⟨g38, hL⟩ := gd_ex hL
      refine j_iast (shf_9_4 s0) (ib_in g38) dX9_fillLeaf_203 ?_
      obtain ⟨h39, eh39, hL⟩ := lt_ex hL
      refine j_heap eh39 ?_
      cases hL
      exact j_retv dX9_fillLeaf_204 rfl hK
    · replace hL := (if_pos z35).symm.trans hL
      refine j_iconst 0 dX9_fillLeaf_184 (by decide) ?_
      refine j_goto 203 dX9_fillLeaf_185 (by decide) ?_
      obtain ⟨g40, hL⟩ := gd_ex hL
      refine j_iast (shf_9_4 s0) (ib_in g40) dX9_fillLeaf_203 ?_
      obtain ⟨h41, eh41, hL⟩ := lt_ex hL
      refine j_heap eh41 ?_
      cases hL
      exact j_retv dX9_fillLeaf_204 rfl hK
  refine j_ifz_eq 119 dX9_fillLeaf_18 (by decide) (fun z5 => ?_) (fun z5 => ?_)
  · replace hL := (if_neg z5).symm.trans hL
    refine j_sub [0, 3, 4] rfl ?_
    exact kj6  h4 hL
  · replace hL := (if_pos z5).symm.trans hL
    refine j_iload 4 dX9_fillLeaf_21 rfl ?_
    obtain ⟨j8, ej8, hL⟩ := lt_ex hL
    have kj8 : ∀ (x11 : Int32), j8 x11 = some r → J G mX9_fillLeaf 3 0 0 K 43 [(0, .ref (ad G a0)), (1, .ref (ad G a1)), (2, .ref (ad G a2)), (3, .ref (ad G a3)), (4, .int v4)] [.int x11] h4 := by
      intro x11 hL
      rw [ej8] at hL
      replace hL : (lt (fun (x16 : Int32) => bnd (f_X0_bareLow a1 a2 v4 h4) (fun q17 => gd (ib v4 40 = true) (gd (ib v4 40 = true) (lt (sia h4 (a0 + 1) (cl v4) ((q17 - x11) - (hia h4 (a1 + 6) (cl v4)))) (fun h20 => bnd (f_X0_bareHigh a1 a2 v4 h20) (fun q21 => gd (ib v4 40 = true) (gd (ib v4 40 = true) (lt (sia h20 (a0 + 2) (cl v4) ((q21 - x16) - (hia h20 (a1 + 6) (cl v4)))) (fun h24 => j6  h24))))))))) (fun j13 => if v4 = 0 then j13 0 else bnd (f_X0_bareLow a1 a2 (v4 - 1) h4) (fun q14 => bnd (f_X5_through a3 q14 h4) (fun q15 => j13 q15)))) = some r := hL
      refine j_istore (lv' := [(6, .int x11), (0, .ref (ad G a0)), (1, .ref (ad G a1)), (2, .ref (ad G a2)), (3, .ref (ad G a3)), (4, .int v4)]) dX9_fillLeaf_43 (by decide) rfl ?_
      refine j_iload 5 dX9_fillLeaf_45 rfl ?_
      obtain ⟨j13, ej13, hL⟩ := lt_ex hL
      have kj13 : ∀ (x16 : Int32), j13 x16 = some r → J G mX9_fillLeaf 3 0 0 K 67 [(0, .ref (ad G a0)), (1, .ref (ad G a1)), (2, .ref (ad G a2)), (3, .ref (ad G a3)), (4, .int v4), (6, .int x11)] [.int x16] h4 := by
        intro x16 hL
        rw [ej13] at hL
        replace hL : (bnd (f_X0_bareLow a1 a2 v4 h4) (fun q17 => gd (ib v4 40 = true) (gd (ib v4 40 = true) (lt (sia h4 (a0 + 1) (cl v4) ((q17 - x11) - (hia h4 (a1 + 6) (cl v4)))) (fun h20 => bnd (f_X0_bareHigh a1 a2 v4 h20) (fun q21 => gd (ib v4 40 = true) (gd (ib v4 40 = true) (lt (sia h20 (a0 + 2) (cl v4) ((q21 - x16) - (hia h20 (a1 + 6) (cl v4)))) (fun h24 => j6  h24))))))))) = some r := hL
        refine j_istore (lv' := [(7, .int x16), (0, .ref (ad G a0)), (1, .ref (ad G a1)), (2, .ref (ad G a2)), (3, .ref (ad G a3)), (4, .int v4), (6, .int x11)]) dX9_fillLeaf_67 (by decide) rfl ?_
        refine j_aload_n 1 dX9_fillLeaf_69 rfl ?_
        refine jg_RX9_9 rfl s0 dX9_fillLeaf_70 ?_
        refine j_iload 5 dX9_fillLeaf_73 rfl ?_
        refine j_aload_n 2 dX9_fillLeaf_75 rfl ?_
        refine j_aload_n 3 dX9_fillLeaf_76 rfl ?_
        refine j_iload 5 dX9_fillLeaf_77 rfl ?_
        obtain ⟨q17, hq17, hL⟩ := bnd_ex hL
        refine j_callVi (c_X0_bareLow G a1 s1 a2 s2 v4 h4 _ hq17) cv_RX9_66 rfl s1 (by decide) rfl (by decide) rfl rfl (Nat.le_of_ble_eq_true rfl) dX9_fillLeaf_79 (by decide) ?_
        refine j_iload 6 dX9_fillLeaf_82 rfl ?_
        refine j_isub dX9_fillLeaf_84 ?_
        refine j_aload_n 2 dX9_fillLeaf_85 rfl ?_
        refine jg_RX9_69 rfl s1 dX9_fillLeaf_86 ?_
        refine j_iload 5 dX9_fillLeaf_89 rfl ?_
        obtain ⟨g18, hL⟩ := gd_ex hL
        refine j_iald (shf_0_11 s1) (ib_in g18) dX9_fillLeaf_91 ?_
        refine j_isub dX9_fillLeaf_92 ?_
        obtain ⟨g19, hL⟩ := gd_ex hL
        refine j_iast (shf_9_0 s0) (ib_in g19) dX9_fillLeaf_93 ?_
        obtain ⟨h20, eh20, hL⟩ := lt_ex hL
        refine j_heap eh20 ?_
        refine j_aload_n 1 dX9_fillLeaf_94 rfl ?_
        refine jg_RX9_15 rfl s0 dX9_fillLeaf_95 ?_
        refine j_iload 5 dX9_fillLeaf_98 rfl ?_
        refine j_aload_n 2 dX9_fillLeaf_100 rfl ?_
        refine j_aload_n 3 dX9_fillLeaf_101 rfl ?_
        refine j_iload 5 dX9_fillLeaf_102 rfl ?_
        obtain ⟨q21, hq21, hL⟩ := bnd_ex hL
        refine j_callVi (c_X0_bareHigh G a1 s1 a2 s2 v4 h20 _ hq21) cv_RX9_56 rfl s1 (by decide) rfl (by decide) rfl rfl (Nat.le_of_ble_eq_true rfl) dX9_fillLeaf_104 (by decide) ?_
        refine j_iload 0 dX9_fillLeaf_107 rfl ?_
        refine j_isub dX9_fillLeaf_109 ?_
        refine j_aload_n 2 dX9_fillLeaf_110 rfl ?_
        refine jg_RX9_69 rfl s1 dX9_fillLeaf_111 ?_
        refine j_iload 5 dX9_fillLeaf_114 rfl ?_
        obtain ⟨g22, hL⟩ := gd_ex hL
        refine j_iald (shf_0_11 s1) (ib_in g22) dX9_fillLeaf_116 ?_
        refine j_isub dX9_fillLeaf_117 ?_
        obtain ⟨g23, hL⟩ := gd_ex hL
        refine j_iast (shf_9_1 s0) (ib_in g23) dX9_fillLeaf_118 ?_
        obtain ⟨h24, eh24, hL⟩ := lt_ex hL
        refine j_heap eh24 ?_
        refine j_sub [1, 4, 5] rfl ?_
        exact kj6  h24 hL
      refine j_if_ne 54 dX9_fillLeaf_47 (by decide) (fun z12 => ?_) (fun z12 => ?_)
      · replace hL := (if_neg z12).symm.trans hL
        refine j_aload_n 4 dX9_fillLeaf_54 rfl ?_
        refine j_aload_n 2 dX9_fillLeaf_55 rfl ?_
        refine j_aload_n 3 dX9_fillLeaf_56 rfl ?_
        refine j_iload 5 dX9_fillLeaf_57 rfl ?_
        refine j_iconst 1 dX9_fillLeaf_59 (by decide) ?_
        refine j_isub dX9_fillLeaf_60 ?_
        obtain ⟨q14, hq14, hL⟩ := bnd_ex hL
        refine j_callVi (c_X0_bareLow G a1 s1 a2 s2 (v4 - 1) h4 _ hq14) cv_RX9_66 rfl s1 (by decide) rfl (by decide) rfl rfl (Nat.le_of_ble_eq_true rfl) dX9_fillLeaf_61 (by decide) ?_
        obtain ⟨q15, hq15, hL⟩ := bnd_ex hL
        refine j_callVi (c_X5_through G a3 s3 q14 h4 _ hq15) cv_RX9_60 rfl s3 (by decide) rfl (by decide) rfl rfl (Nat.le_of_ble_eq_true rfl) dX9_fillLeaf_64 (by decide) ?_
        refine j_sub [1, 2, 3, 4, 5, 0] rfl ?_
        exact kj13 q15 hL
      · replace hL := (if_pos z12).symm.trans hL
        refine j_iconst 0 dX9_fillLeaf_50 (by decide) ?_
        refine j_goto 67 dX9_fillLeaf_51 (by decide) ?_
        refine j_sub [1, 2, 3, 4, 5, 0] rfl ?_
        exact kj13 0 hL
    refine j_if_ne 30 dX9_fillLeaf_23 (by decide) (fun z7 => ?_) (fun z7 => ?_)
    · replace hL := (if_neg z7).symm.trans hL
      refine j_aload_n 3 dX9_fillLeaf_30 rfl ?_
      refine j_aload_n 1 dX9_fillLeaf_31 rfl ?_
      refine j_aload_n 2 dX9_fillLeaf_32 rfl ?_
      refine j_iload 4 dX9_fillLeaf_33 rfl ?_
      refine j_iconst 1 dX9_fillLeaf_35 (by decide) ?_
      refine j_isub dX9_fillLeaf_36 ?_
      obtain ⟨q9, hq9, hL⟩ := bnd_ex hL
      refine j_callVi (c_X0_bareHigh G a1 s1 a2 s2 (v4 - 1) h4 _ hq9) cv_RX9_56 rfl s1 (by decide) rfl (by decide) rfl rfl (Nat.le_of_ble_eq_true rfl) dX9_fillLeaf_37 (by decide) ?_
      obtain ⟨q10, hq10, hL⟩ := bnd_ex hL
      refine j_callVi (c_X5_through G a3 s3 q9 h4 _ hq10) cv_RX9_60 rfl s3 (by decide) rfl (by decide) rfl rfl (Nat.le_of_ble_eq_true rfl) dX9_fillLeaf_40 (by decide) ?_
      refine j_sub [0, 1, 2, 3, 4] rfl ?_
      exact kj8 q10 hL
    · replace hL := (if_pos z7).symm.trans hL
      refine j_iconst 0 dX9_fillLeaf_26 (by decide) ?_
      refine j_goto 43 dX9_fillLeaf_27 (by decide) ?_
      refine j_sub [0, 1, 2, 3, 4] rfl ?_
      exact kj8 0 hL

def f_X9_fillLights_l18 (a0 : Nat) (a1 : Nat) : Nat → Int32 → AH → Option (AH)
  | 0, _, _ => none
  | n + 1, v2, h => if (hfi h a1 0) ≤ v2 then some h else gd (ib v2 40 = true) (gd (ib (hia h (a1 + 1) (cl v2)) 12 = true) (gd (ib v2 40 = true) (gd (ib (hia h (a1 + 1) (cl v2)) 12 = true) (lt (sia h (a0 + 6) (cl (hia h (a1 + 1) (cl v2))) ((hia h (a0 + 6) (cl (hia h (a1 + 1) (cl v2)))) + (hia h (a0 + 5) (cl v2)))) (fun h8 => gd (ib v2 40 = true) (gd (ib (hia h8 (a1 + 1) (cl v2)) 12 = true) (gd (ib (hia h8 (a1 + 1) (cl v2)) 12 = true) (lt (sia h8 (a0 + 7) (cl (hia h8 (a1 + 1) (cl v2))) ((hia h8 (a0 + 7) (cl (hia h8 (a1 + 1) (cl v2)))) + 1)) (fun h12 => f_X9_fillLights_l18 a0 a1 n (v2 + 1) h12)))))))))
def f_X9_fillLights_l69 (a0 : Nat) : Nat → Int32 → AH → Option (AH)
  | 0, _, _ => none
  | n + 1, v2, h => if 12 ≤ v2 then some h else gd (ib v2 12 = true) (gd (ib v2 12 = true) (bnd (f_X11_cutDown ((hia h (a0 + 6) (cl v2)).toInt64) (2 * ((hia h (a0 + 7) (cl v2)).toInt64))) (fun q17 => gd (ib v2 12 = true) (lt (sia h (a0 + 6) (cl v2) q17) (fun h19 => f_X9_fillLights_l69 a0 n (v2 + 1) h19)))))
def f_X9_fillLights (a0 : Nat) (a1 : Nat) (h : AH) : Option (AH) := bnd (f_J7_fill_53178 (a0 + 6) 12 0 h) (fun q1 => bnd (f_J7_fill_53178 (a0 + 7) 12 0 q1) (fun q2 => bnd (f_X9_fillLights_l18 a0 a1 FU 0 q2) (fun q13 => bnd (f_X9_fillLights_l69 a0 FU 0 q13) (fun q20 => some q20))))
set_option maxRecDepth 20000 in
theorem cl_X9_fillLights_18 (G : GG) (K : KQ) (a0 : Nat) (a1 : Nat) (s0 : SH a0 = (9, 0)) (s1 : SH a1 = (0, 0)) : ∀ (n : Nat) (v2 : Int32) (h : AH) (r : AH), f_X9_fillLights_l18 a0 a1 n v2 h = some r → J G mX9_fillLights 3 0 0 K 67 [(0, .ref (ad G a0))] [] r → J G mX9_fillLights 3 0 0 K 18 [(0, .ref (ad G a0)), (1, .ref (ad G a1)), (2, .int v2)] [] h := by
  intro n
  induction n with
  | zero => intro v2 h r hL; cases hL
  | succ n ih =>
    intro v2 h r hL kE
    unfold f_X9_fillLights_l18 at hL
    refine j_iload_n 2 dX9_fillLights_18 rfl ?_
    refine j_aload_n 1 dX9_fillLights_19 rfl ?_
    refine jg_RX9_36 rfl s1 dX9_fillLights_20 ?_
    refine j_icmp_ge 67 dX9_fillLights_23 (by decide) (fun z3 => ?_) (fun z3 => ?_)
    · replace hL := (if_pos z3).symm.trans hL
      cases hL
      refine j_sub [0] rfl ?_
      exact kE 
    · replace hL := (if_neg z3).symm.trans hL
      refine j_aload_n 0 dX9_fillLights_26 rfl ?_
      refine jg_RX9_27 rfl s0 dX9_fillLights_27 ?_
      refine j_aload_n 1 dX9_fillLights_30 rfl ?_
      refine jg_RX9_97 rfl s1 dX9_fillLights_31 ?_
      refine j_iload_n 2 dX9_fillLights_34 rfl ?_
      obtain ⟨g4, hL⟩ := gd_ex hL
      refine j_iald (shf_0_6 s1) (ib_in g4) dX9_fillLights_35 ?_
      refine j_dup2 dX9_fillLights_36 rfl rfl ?_
      obtain ⟨g5, hL⟩ := gd_ex hL
      refine j_iald (shf_9_5 s0) (ib_in g5) dX9_fillLights_37 ?_
      refine j_aload_n 0 dX9_fillLights_38 rfl ?_
      refine jg_RX9_24 rfl s0 dX9_fillLights_39 ?_
      refine j_iload_n 2 dX9_fillLights_42 rfl ?_
      obtain ⟨g6, hL⟩ := gd_ex hL
      refine j_iald (shf_9_4 s0) (ib_in g6) dX9_fillLights_43 ?_
      refine j_iadd dX9_fillLights_44 ?_
      obtain ⟨g7, hL⟩ := gd_ex hL
      refine j_iast (shf_9_5 s0) (ib_in g7) dX9_fillLights_45 ?_
      obtain ⟨h8, eh8, hL⟩ := lt_ex hL
      refine j_heap eh8 ?_
      refine j_aload_n 0 dX9_fillLights_46 rfl ?_
      refine jg_RX9_30 rfl s0 dX9_fillLights_47 ?_
      refine j_aload_n 1 dX9_fillLights_50 rfl ?_
      refine jg_RX9_97 rfl s1 dX9_fillLights_51 ?_
      refine j_iload_n 2 dX9_fillLights_54 rfl ?_
      obtain ⟨g9, hL⟩ := gd_ex hL
      refine j_iald (shf_0_6 s1) (ib_in g9) dX9_fillLights_55 ?_
      refine j_dup2 dX9_fillLights_56 rfl rfl ?_
      obtain ⟨g10, hL⟩ := gd_ex hL
      refine j_iald (shf_9_6 s0) (ib_in g10) dX9_fillLights_57 ?_
      refine j_iconst 1 dX9_fillLights_58 (by decide) ?_
      refine j_iadd dX9_fillLights_59 ?_
      obtain ⟨g11, hL⟩ := gd_ex hL
      refine j_iast (shf_9_6 s0) (ib_in g11) dX9_fillLights_60 ?_
      obtain ⟨h12, eh12, hL⟩ := lt_ex hL
      refine j_heap eh12 ?_
      refine j_iinc (lv' := [(2, .int (v2 + 1)), (0, .ref (ad G a0)), (1, .ref (ad G a1))]) 2 dX9_fillLights_61 rfl rfl (by decide) rfl ?_
      refine j_goto 18 dX9_fillLights_64 (by decide) ?_
      refine j_sub [1, 2, 0] rfl ?_
      exact ih (v2 + 1) h12 r hL kE

set_option maxRecDepth 20000 in
theorem cl_X9_fillLights_69 (G : GG) (K : KQ) (a0 : Nat) (s0 : SH a0 = (9, 0)) : ∀ (n : Nat) (v2 : Int32) (h : AH) (r : AH), f_X9_fillLights_l69 a0 n v2 h = some r → J G mX9_fillLights 3 0 0 K 108 [] [] r → J G mX9_fillLights 3 0 0 K 69 [(0, .ref (ad G a0)), (2, .int v2)] [] h := by
  intro n
  induction n with
  | zero => intro v2 h r hL; cases hL
  | succ n ih =>
    intro v2 h r hL kE
    unfold f_X9_fillLights_l69 at hL
    refine j_iload_n 1 dX9_fillLights_69 rfl ?_
    refine j_bipush 12 dX9_fillLights_70 (by decide) ?_
    refine j_icmp_ge 108 dX9_fillLights_72 (by decide) (fun z14 => ?_) (fun z14 => ?_)
    · replace hL := (if_pos z14).symm.trans hL
      cases hL
      refine j_sub [] rfl ?_
      exact kE 
    · replace hL := (if_neg z14).symm.trans hL
      refine j_aload_n 0 dX9_fillLights_75 rfl ?_
      refine jg_RX9_27 rfl s0 dX9_fillLights_76 ?_
      refine j_iload_n 1 dX9_fillLights_79 rfl ?_
      refine j_aload_n 0 dX9_fillLights_80 rfl ?_
      refine jg_RX9_27 rfl s0 dX9_fillLights_81 ?_
      refine j_iload_n 1 dX9_fillLights_84 rfl ?_
      obtain ⟨g15, hL⟩ := gd_ex hL
      refine j_iald (shf_9_5 s0) (ib_in g15) dX9_fillLights_85 ?_
      refine j_i2l dX9_fillLights_86 ?_
      refine j_ldc2 rfl kk_RX9_100 dX9_fillLights_87 ?_
      refine j_aload_n 0 dX9_fillLights_90 rfl ?_
      refine jg_RX9_30 rfl s0 dX9_fillLights_91 ?_
      refine j_iload_n 1 dX9_fillLights_94 rfl ?_
      obtain ⟨g16, hL⟩ := gd_ex hL
      refine j_iald (shf_9_6 s0) (ib_in g16) dX9_fillLights_95 ?_
      refine j_i2l dX9_fillLights_96 ?_
      refine j_lmul dX9_fillLights_97 ?_
      obtain ⟨q17, hq17, hL⟩ := bnd_ex hL
      refine j_callNi (c_X11_cutDown G ((hia h (a0 + 6) (cl v2)).toInt64) (2 * ((hia h (a0 + 7) (cl v2)).toInt64)) h _ hq17) cv_RX9_85 rfl (by decide) rfl rfl (Nat.le_of_ble_eq_true rfl) dX9_fillLights_98 (by decide) ?_
      obtain ⟨g18, hL⟩ := gd_ex hL
      refine j_iast (shf_9_5 s0) (ib_in g18) dX9_fillLights_101 ?_
      obtain ⟨h19, eh19, hL⟩ := lt_ex hL
      refine j_heap eh19 ?_
      refine j_iinc (lv' := [(2, .int (v2 + 1)), (0, .ref (ad G a0))]) 1 dX9_fillLights_102 rfl rfl (by decide) rfl ?_
      refine j_goto 69 dX9_fillLights_105 (by decide) ?_
      refine j_sub [1, 0] rfl ?_
      exact ih (v2 + 1) h19 r hL kE

set_option maxRecDepth 20000 in
theorem c_X9_fillLights (G : GG) (a0 : Nat) (s0 : SH a0 = (9, 0)) (a1 : Nat) (s1 : SH a1 = (0, 0)) (h : AH) (r : AH) (hL : f_X9_fillLights a0 a1 h = some r) : SpV G 3 mX9_fillLights [.ref (ad G a0), .ref (ad G a1)] h r := by
  refine sp_v pf_X9_fillLights (Nat.le_of_ble_eq_true rfl) ?_
  show J G mX9_fillLights 3 0 0 (KMv G r) 0 [(0, .ref (ad G a0)), (1, .ref (ad G a1))] [] h
  obtain ⟨K, hK⟩ : ∃ K, K = KMv G r := ⟨_, rfl⟩
  rw [← hK]
  unfold f_X9_fillLights at hL
  refine j_aload_n 0 dX9_fillLights_0 rfl ?_
  refine jg_RX9_27 rfl s0 dX9_fillLights_1 ?_
  refine j_iconst 0 dX9_fillLights_4 (by decide) ?_
  obtain ⟨q1, hq1, hL⟩ := bnd_ex hL
  refine j_callSv (c_J7_fill_53178 G (a0 + 6) 12 (shf_9_5 s0) 0 h _ hq1) cv_RX9_91 rfl (by decide) rfl rfl (Nat.le_of_ble_eq_true rfl) dX9_fillLights_5 (by decide) ?_
  refine j_aload_n 0 dX9_fillLights_8 rfl ?_
  refine jg_RX9_30 rfl s0 dX9_fillLights_9 ?_
  refine j_iconst 0 dX9_fillLights_12 (by decide) ?_
  obtain ⟨q2, hq2, hL⟩ := bnd_ex hL
  refine j_callSv (c_J7_fill_53178 G (a0 + 7) 12 (shf_9_6 s0) 0 q1 _ hq2) cv_RX9_91 rfl (by decide) rfl rfl (Nat.le_of_ble_eq_true rfl) dX9_fillLights_13 (by decide) ?_
  refine j_iconst 0 dX9_fillLights_16 (by decide) ?_
  refine j_istore_n (lv' := [(2, .int 0), (0, .ref (ad G a0)), (1, .ref (ad G a1))]) dX9_fillLights_17 (by decide) rfl ?_
  obtain ⟨q13, hq13, hL⟩ := bnd_ex hL
  refine j_sub [1, 2, 0] rfl ?_
  refine cl_X9_fillLights_18 G K a0 a1 s0 s1 FU 0 q2 q13 hq13 ?_
  refine j_iconst 0 dX9_fillLights_67 (by decide) ?_
  refine j_istore_n (lv' := [(2, .int 0), (0, .ref (ad G a0))]) dX9_fillLights_68 (by decide) rfl ?_
  obtain ⟨q20, hq20, hL⟩ := bnd_ex hL
  refine j_sub [1, 0] rfl ?_
  refine cl_X9_fillLights_69 G K a0 s0 FU 0 q13 q20 hq20 ?_
  cases hL
  exact j_retv dX9_fillLights_108 rfl hK

def f_X9_fill_l3 (a0 : Nat) (a1 : Nat) (a2 : Nat) (a3 : Nat) : Nat → Int32 → AH → Option (AH)
  | 0, _, _ => none
  | n + 1, v4, h => if (hfi h a1 0) ≤ v4 then some h else bnd (f_X3_wasRead a2 v4 h) (fun q2 => lt (fun (x8 : Bool) => bnd (f_X9_fillLeaf a0 a1 a2 a3 v4 x8 h) (fun q9 => f_X9_fill_l3 a0 a1 a2 a3 n (v4 + 1) q9)) (fun j4 => if q2 = true then if v4 = 0 then j4 true else bnd (f_X3_wasRead a2 (v4 - 1) h) (fun q6 => if q6 = true then j4 true else j4 false) else j4 false))
def f_X9_fill (a0 : Nat) (a1 : Nat) (a2 : Nat) (a3 : Nat) (h : AH) : Option (AH) := bnd (f_X9_fill_l3 a0 a1 a2 a3 FU 0 h) (fun q10 => bnd (f_X9_fillLights a0 a1 q10) (fun q11 => some q11))
set_option maxRecDepth 20000 in
theorem cl_X9_fill_3 (G : GG) (K : KQ) (a0 : Nat) (a1 : Nat) (a2 : Nat) (a3 : Nat) (s0 : SH a0 = (9, 0)) (s1 : SH a1 = (0, 0)) (s2 : SH a2 = (3, 0)) (s3 : SH a3 = (5, 0)) : ∀ (n : Nat) (v4 : Int32) (h : AH) (r : AH), f_X9_fill_l3 a0 a1 a2 a3 n v4 h = some r → J G mX9_fill 4 0 0 K 61 [(0, .ref (ad G a0)), (1, .ref (ad G a1))] [] r → J G mX9_fill 4 0 0 K 3 [(0, .ref (ad G a0)), (1, .ref (ad G a1)), (2, .ref (ad G a2)), (3, .ref (ad G a3)), (4, .int v4)] [] h := by
  intro n
  induction n with
  | zero => intro v4 h r hL; cases hL
  | succ n ih =>
    intro v4 h r hL kE
    unfold f_X9_fill_l3 at hL
    refine j_iload 4 dX9_fill_3 rfl ?_
    refine j_aload_n 1 dX9_fill_5 rfl ?_
    refine jg_RX9_36 rfl s1 dX9_fill_6 ?_
    refine j_icmp_ge 61 dX9_fill_9 (by decide) (fun z1 => ?_) (fun z1 => ?_)
    · replace hL := (if_pos z1).symm.trans hL
      cases hL
      refine j_sub [0, 1] rfl ?_
      exact kE 
    · replace hL := (if_neg z1).symm.trans hL
      refine j_aload_n 2 dX9_fill_12 rfl ?_
      refine j_iload 4 dX9_fill_13 rfl ?_
      obtain ⟨q2, hq2, hL⟩ := bnd_ex hL
      refine j_callVi (c_X3_wasRead G a2 s2 v4 h _ hq2) cv_RX9_42 rfl s2 (by decide) rfl (by decide) rfl rfl (Nat.le_of_ble_eq_true rfl) dX9_fill_15 (by decide) ?_
      obtain ⟨j4, ej4, hL⟩ := lt_ex hL
      have kj4 : ∀ (x8 : Bool), j4 x8 = some r → J G mX9_fill 4 0 0 K 42 [(0, .ref (ad G a0)), (1, .ref (ad G a1)), (2, .ref (ad G a2)), (3, .ref (ad G a3)), (4, .int v4)] [.int (bI x8)] h := by
        intro x8 hL
        rw [ej4] at hL
        replace hL : (bnd (f_X9_fillLeaf a0 a1 a2 a3 v4 x8 h) (fun q9 => f_X9_fill_l3 a0 a1 a2 a3 n (v4 + 1) q9)) = some r := hL
        refine j_istore (lv' := [(5, .int (bI x8)), (0, .ref (ad G a0)), (1, .ref (ad G a1)), (2, .ref (ad G a2)), (3, .ref (ad G a3)), (4, .int v4)]) dX9_fill_42 (by decide) rfl ?_
        refine j_aload_n 1 dX9_fill_44 rfl ?_
        refine j_aload_n 2 dX9_fill_45 rfl ?_
        refine j_aload_n 3 dX9_fill_46 rfl ?_
        refine j_aload_n 4 dX9_fill_47 rfl ?_
        refine j_iload 5 dX9_fill_48 rfl ?_
        refine j_iload 0 dX9_fill_50 rfl ?_
        obtain ⟨q9, hq9, hL⟩ := bnd_ex hL
        refine j_callVv (c_X9_fillLeaf G a0 s0 a1 s1 a2 s2 a3 s3 v4 x8 h _ hq9) cv_RX9_48 rfl s0 (by decide) rfl (by decide) rfl rfl (Nat.le_of_ble_eq_true rfl) dX9_fill_52 (by decide) ?_
        refine j_iinc (lv' := [(4, .int (v4 + 1)), (5, .int (bI x8)), (0, .ref (ad G a0)), (1, .ref (ad G a1)), (2, .ref (ad G a2)), (3, .ref (ad G a3))]) 5 dX9_fill_55 rfl rfl (by decide) rfl ?_
        refine j_goto 3 dX9_fill_58 (by decide) ?_
        refine j_sub [2, 3, 4, 5, 0] rfl ?_
        exact ih (v4 + 1) q9 r hL kE
      refine j_ifz_eq 41 dX9_fill_18 (by decide) (fun z3 => ?_) (fun z3 => ?_)
      · replace hL := (if_neg z3).symm.trans hL
        refine j_iconst 0 dX9_fill_41 (by decide) ?_
        refine j_sub [0, 1, 2, 3, 4] rfl ?_
        exact kj4 false hL
      · replace hL := (if_pos z3).symm.trans hL
        refine j_iload 4 dX9_fill_21 rfl ?_
        refine j_if_eq 37 dX9_fill_23 (by decide) (fun z5 => ?_) (fun z5 => ?_)
        · replace hL := (if_pos z5).symm.trans hL
          refine j_iconst 1 dX9_fill_37 (by decide) ?_
          refine j_goto 42 dX9_fill_38 (by decide) ?_
          refine j_sub [0, 1, 2, 3, 4] rfl ?_
          exact kj4 true hL
        · replace hL := (if_neg z5).symm.trans hL
          refine j_aload_n 2 dX9_fill_26 rfl ?_
          refine j_iload 4 dX9_fill_27 rfl ?_
          refine j_iconst 1 dX9_fill_29 (by decide) ?_
          refine j_isub dX9_fill_30 ?_
          obtain ⟨q6, hq6, hL⟩ := bnd_ex hL
          refine j_callVi (c_X3_wasRead G a2 s2 (v4 - 1) h _ hq6) cv_RX9_42 rfl s2 (by decide) rfl (by decide) rfl rfl (Nat.le_of_ble_eq_true rfl) dX9_fill_31 (by decide) ?_
          refine j_ifz_eq 41 dX9_fill_34 (by decide) (fun z7 => ?_) (fun z7 => ?_)
          · replace hL := (if_neg z7).symm.trans hL
            refine j_iconst 0 dX9_fill_41 (by decide) ?_
            refine j_sub [0, 1, 2, 3, 4] rfl ?_
            exact kj4 false hL
          · replace hL := (if_pos z7).symm.trans hL
            refine j_iconst 1 dX9_fill_37 (by decide) ?_
            refine j_goto 42 dX9_fill_38 (by decide) ?_
            refine j_sub [0, 1, 2, 3, 4] rfl ?_
            exact kj4 true hL

set_option maxRecDepth 20000 in
theorem c_X9_fill (G : GG) (a0 : Nat) (s0 : SH a0 = (9, 0)) (a1 : Nat) (s1 : SH a1 = (0, 0)) (a2 : Nat) (s2 : SH a2 = (3, 0)) (a3 : Nat) (s3 : SH a3 = (5, 0)) (h : AH) (r : AH) (hL : f_X9_fill a0 a1 a2 a3 h = some r) : SpV G 4 mX9_fill [.ref (ad G a0), .ref (ad G a1), .ref (ad G a2), .ref (ad G a3)] h r := by
  refine sp_v pf_X9_fill (Nat.le_of_ble_eq_true rfl) ?_
  show J G mX9_fill 4 0 0 (KMv G r) 0 [(0, .ref (ad G a0)), (1, .ref (ad G a1)), (2, .ref (ad G a2)), (3, .ref (ad G a3))] [] h
  obtain ⟨K, hK⟩ : ∃ K, K = KMv G r := ⟨_, rfl⟩
  rw [← hK]
  unfold f_X9_fill at hL
  refine j_iconst 0 dX9_fill_0 (by decide) ?_
  refine j_istore (lv' := [(4, .int 0), (0, .ref (ad G a0)), (1, .ref (ad G a1)), (2, .ref (ad G a2)), (3, .ref (ad G a3))]) dX9_fill_1 (by decide) rfl ?_
  obtain ⟨q10, hq10, hL⟩ := bnd_ex hL
  refine j_sub [1, 2, 3, 4, 0] rfl ?_
  refine cl_X9_fill_3 G K a0 a1 a2 a3 s0 s1 s2 s3 FU 0 h q10 hq10 ?_
  refine j_aload_n 0 dX9_fill_61 rfl ?_
  refine j_aload_n 1 dX9_fill_62 rfl ?_
  obtain ⟨q11, hq11, hL⟩ := bnd_ex hL
  refine j_callVv (c_X9_fillLights G a0 s0 a1 s1 q10 _ hq11) cv_RX9_52 rfl s0 (by decide) rfl (by decide) rfl rfl (Nat.le_of_ble_eq_true rfl) dX9_fill_63 (by decide) ?_
  cases hL
  exact j_retv dX9_fill_66 rfl hK

def f_X11_compared (v0 : Int32) (v1 : Int32) : Int32 := if v0 ≤ v1 then if v1 ≤ v0 then 0 else (-1) else 1
set_option maxRecDepth 20000 in
theorem c_X11_compared (G : GG) (v0 : Int32) (v1 : Int32) (h : AH) : SpI G 1 mX11_compared [.int v0, .int v1] h (f_X11_compared v0 v1) h := by
  obtain ⟨r, hL⟩ : ∃ r, f_X11_compared v0 v1 = r := ⟨_, rfl⟩
  rw [hL]
  refine sp_i pf_X11_compared (Nat.le_of_ble_eq_true rfl) ?_
  show J G mX11_compared 1 0 0 (KMi G r h) 0 [(0, .int v0), (1, .int v1)] [] h
  obtain ⟨K, hK⟩ : ∃ K, K = KMi G r h := ⟨_, rfl⟩
  rw [← hK]
  unfold f_X11_compared at hL
  refine j_iload_n 0 dX11_compared_0 rfl ?_
  refine j_iload_n 1 dX11_compared_1 rfl ?_
  refine j_icmp_le 9 dX11_compared_2 (by decide) (fun z1 => ?_) (fun z1 => ?_)
  · replace hL := (if_pos z1).symm.trans hL
    refine j_iload_n 0 dX11_compared_9 rfl ?_
    refine j_iload_n 1 dX11_compared_10 rfl ?_
    refine j_icmp_ge 18 dX11_compared_11 (by decide) (fun z2 => ?_) (fun z2 => ?_)
    · replace hL := (if_pos z2).symm.trans hL
      refine j_iconst 0 dX11_compared_18 (by decide) ?_
      subst hL
      exact j_reti dX11_compared_19 rfl hK
    · replace hL := (if_neg z2).symm.trans hL
      refine j_iconst (-1) dX11_compared_14 (by decide) ?_
      refine j_goto 19 dX11_compared_15 (by decide) ?_
      subst hL
      exact j_reti dX11_compared_19 rfl hK
  · replace hL := (if_neg z1).symm.trans hL
    refine j_iconst 1 dX11_compared_5 (by decide) ?_
    refine j_goto 19 dX11_compared_6 (by decide) ?_
    subst hL
    exact j_reti dX11_compared_19 rfl hK

