def f_X9_pairs_l20 (a0 : Nat) (a1 : Nat) (v2 : Bool) (v4 : Int32) (h : AH) : Nat → Int32 → Int32 → Option (Int32)
  | 0, _, _ => none
  | n + 1, v3, v5 => if (hfi h a1 0) ≤ v5 then some v3 else gd (ib v4 40 = true) (gd (ib v5 40 = true) (gd (ib v4 40 = true) (gd (ib v5 40 = true) (if (hia h (a1 + 2) (cl v4)) = (hia h (a1 + 2) (cl v5)) then if v2 = true then if (f_X11_compared (hia h (a0 + 5) (cl v4)) (hia h (a0 + 5) (cl v5))) = 1 then f_X9_pairs_l20 a0 a1 v2 v4 h n (v3 + 1) (v5 + 1) else f_X9_pairs_l20 a0 a1 v2 v4 h n v3 (v5 + 1) else if (f_X11_compared (hia h (a0 + 5) (cl v4)) (hia h (a0 + 5) (cl v5))) = (-1) then f_X9_pairs_l20 a0 a1 v2 v4 h n (v3 + 1) (v5 + 1) else f_X9_pairs_l20 a0 a1 v2 v4 h n v3 (v5 + 1) else f_X9_pairs_l20 a0 a1 v2 v4 h n v3 (v5 + 1)))))
def f_X9_pairs_l5 (a0 : Nat) (a1 : Nat) (v2 : Bool) (h : AH) : Nat → Int32 → Int32 → Option (Int32)
  | 0, _, _ => none
  | n + 1, v3, v4 => if (hfi h a1 0) ≤ v4 then some v3 else bnd (f_X9_pairs_l20 a0 a1 v2 v4 h FU v3 (v4 + 1)) (fun q11 => f_X9_pairs_l5 a0 a1 v2 h n q11 (v4 + 1))
def f_X9_pairs (a0 : Nat) (a1 : Nat) (v2 : Bool) (h : AH) : Option (Int32) := bnd (f_X9_pairs_l5 a0 a1 v2 h FU 0 0) (fun q12 => some q12)
set_option maxRecDepth 20000 in
theorem cl_X9_pairs_20 (G : GG) (K : KQ) (a0 : Nat) (a1 : Nat) (v2 : Bool) (v4 : Int32) (s0 : SH a0 = (9, 0)) (s1 : SH a1 = (0, 0)) : ∀ (n : Nat) (v3 : Int32) (v5 : Int32) (h : AH) (r : Int32), f_X9_pairs_l20 a0 a1 v2 v4 h n v3 v5 = some r → J G mX9_pairs 2 0 0 K 88 [(0, .ref (ad G a0)), (1, .ref (ad G a1)), (2, .int (bI v2)), (3, .int r), (4, .int v4)] [] h → J G mX9_pairs 2 0 0 K 20 [(0, .ref (ad G a0)), (1, .ref (ad G a1)), (2, .int (bI v2)), (3, .int v3), (4, .int v4), (5, .int v5)] [] h := by
  intro n
  induction n with
  | zero => intro v3 v5 h r hL; cases hL
  | succ n ih =>
    intro v3 v5 h r hL kE
    unfold f_X9_pairs_l20 at hL
    refine j_iload 5 dX9_pairs_20 rfl ?_
    refine j_aload_n 1 dX9_pairs_22 rfl ?_
    refine jg_RX9_36 rfl s1 dX9_pairs_23 ?_
    refine j_icmp_ge 88 dX9_pairs_26 (by decide) (fun z2 => ?_) (fun z2 => ?_)
    · replace hL := (if_pos z2).symm.trans hL
      cases hL
      refine j_sub [0, 1, 2, 3, 4] rfl ?_
      exact kE 
    · replace hL := (if_neg z2).symm.trans hL
      refine j_aload_n 0 dX9_pairs_29 rfl ?_
      refine jg_RX9_24 rfl s0 dX9_pairs_30 ?_
      refine j_iload 4 dX9_pairs_33 rfl ?_
      obtain ⟨g3, hL⟩ := gd_ex hL
      refine j_iald (shf_9_4 s0) (ib_in g3) dX9_pairs_35 ?_
      refine j_aload_n 0 dX9_pairs_36 rfl ?_
      refine jg_RX9_24 rfl s0 dX9_pairs_37 ?_
      refine j_iload 5 dX9_pairs_40 rfl ?_
      obtain ⟨g4, hL⟩ := gd_ex hL
      refine j_iald (shf_9_4 s0) (ib_in g4) dX9_pairs_42 ?_
      refine j_callNi (c_X11_compared G (hia h (a0 + 5) (cl v4)) (hia h (a0 + 5) (cl v5)) h) cv_RX9_102 rfl (by decide) rfl rfl (Nat.le_of_ble_eq_true rfl) dX9_pairs_43 (by decide) ?_
      refine j_istore (lv' := [(6, .int (f_X11_compared (hia h (a0 + 5) (cl v4)) (hia h (a0 + 5) (cl v5)))), (0, .ref (ad G a0)), (1, .ref (ad G a1)), (2, .int (bI v2)), (3, .int v3), (4, .int v4), (5, .int v5)]) dX9_pairs_46 (by decide) rfl ?_
      refine j_aload_n 2 dX9_pairs_48 rfl ?_
      refine jg_RX9_105 rfl s1 dX9_pairs_49 ?_
      refine j_iload 5 dX9_pairs_52 rfl ?_
      obtain ⟨g5, hL⟩ := gd_ex hL
      refine j_iald (shf_0_7 s1) (ib_in g5) dX9_pairs_54 ?_
      refine j_aload_n 2 dX9_pairs_55 rfl ?_
      refine jg_RX9_105 rfl s1 dX9_pairs_56 ?_
      refine j_iload 6 dX9_pairs_59 rfl ?_
      obtain ⟨g6, hL⟩ := gd_ex hL
      refine j_iald (shf_0_7 s1) (ib_in g6) dX9_pairs_61 ?_
      refine j_icmp_ne 82 dX9_pairs_62 (by decide) (fun z7 => ?_) (fun z7 => ?_)
      · replace hL := (if_neg z7).symm.trans hL
        refine j_iinc (lv' := [(5, .int (v5 + 1)), (6, .int (f_X11_compared (hia h (a0 + 5) (cl v4)) (hia h (a0 + 5) (cl v5)))), (0, .ref (ad G a0)), (1, .ref (ad G a1)), (2, .int (bI v2)), (3, .int v3), (4, .int v4)]) 6 dX9_pairs_82 rfl rfl (by decide) rfl ?_
        refine j_goto 20 dX9_pairs_85 (by decide) ?_
        refine j_sub [2, 3, 4, 5, 6, 0] rfl ?_
        exact ih v3 (v5 + 1) h r hL kE
      · replace hL := (if_pos z7).symm.trans hL
        refine j_iload 0 dX9_pairs_65 rfl ?_
        refine j_iload_n 3 dX9_pairs_67 rfl ?_
        refine j_ifz_eq 75 dX9_pairs_68 (by decide) (fun z8 => ?_) (fun z8 => ?_)
        · replace hL := (if_neg z8).symm.trans hL
          refine j_iconst (-1) dX9_pairs_75 (by decide) ?_
          refine j_icmp_ne 82 dX9_pairs_76 (by decide) (fun z9 => ?_) (fun z9 => ?_)
          · replace hL := (if_neg z9).symm.trans hL
            refine j_iinc (lv' := [(5, .int (v5 + 1)), (6, .int (f_X11_compared (hia h (a0 + 5) (cl v4)) (hia h (a0 + 5) (cl v5)))), (0, .ref (ad G a0)), (1, .ref (ad G a1)), (2, .int (bI v2)), (3, .int v3), (4, .int v4)]) 6 dX9_pairs_82 rfl rfl (by decide) rfl ?_
            refine j_goto 20 dX9_pairs_85 (by decide) ?_
            refine j_sub [2, 3, 4, 5, 6, 0] rfl ?_
            exact ih v3 (v5 + 1) h r hL kE
          · replace hL := (if_pos z9).symm.trans hL
            refine j_iinc (lv' := [(3, .int (v3 + 1)), (6, .int (f_X11_compared (hia h (a0 + 5) (cl v4)) (hia h (a0 + 5) (cl v5)))), (0, .ref (ad G a0)), (1, .ref (ad G a1)), (2, .int (bI v2)), (4, .int v4), (5, .int v5)]) 4 dX9_pairs_79 rfl rfl (by decide) rfl ?_
            refine j_iinc (lv' := [(5, .int (v5 + 1)), (3, .int (v3 + 1)), (6, .int (f_X11_compared (hia h (a0 + 5) (cl v4)) (hia h (a0 + 5) (cl v5)))), (0, .ref (ad G a0)), (1, .ref (ad G a1)), (2, .int (bI v2)), (4, .int v4)]) 6 dX9_pairs_82 rfl rfl (by decide) rfl ?_
            refine j_goto 20 dX9_pairs_85 (by decide) ?_
            refine j_sub [3, 4, 5, 1, 6, 0] rfl ?_
            exact ih (v3 + 1) (v5 + 1) h r hL kE
        · replace hL := (if_pos z8).symm.trans hL
          refine j_iconst 1 dX9_pairs_71 (by decide) ?_
          refine j_goto 76 dX9_pairs_72 (by decide) ?_
          refine j_icmp_ne 82 dX9_pairs_76 (by decide) (fun z10 => ?_) (fun z10 => ?_)
          · replace hL := (if_neg z10).symm.trans hL
            refine j_iinc (lv' := [(5, .int (v5 + 1)), (6, .int (f_X11_compared (hia h (a0 + 5) (cl v4)) (hia h (a0 + 5) (cl v5)))), (0, .ref (ad G a0)), (1, .ref (ad G a1)), (2, .int (bI v2)), (3, .int v3), (4, .int v4)]) 6 dX9_pairs_82 rfl rfl (by decide) rfl ?_
            refine j_goto 20 dX9_pairs_85 (by decide) ?_
            refine j_sub [2, 3, 4, 5, 6, 0] rfl ?_
            exact ih v3 (v5 + 1) h r hL kE
          · replace hL := (if_pos z10).symm.trans hL
            refine j_iinc (lv' := [(3, .int (v3 + 1)), (6, .int (f_X11_compared (hia h (a0 + 5) (cl v4)) (hia h (a0 + 5) (cl v5)))), (0, .ref (ad G a0)), (1, .ref (ad G a1)), (2, .int (bI v2)), (4, .int v4), (5, .int v5)]) 4 dX9_pairs_79 rfl rfl (by decide) rfl ?_
            refine j_iinc (lv' := [(5, .int (v5 + 1)), (3, .int (v3 + 1)), (6, .int (f_X11_compared (hia h (a0 + 5) (cl v4)) (hia h (a0 + 5) (cl v5)))), (0, .ref (ad G a0)), (1, .ref (ad G a1)), (2, .int (bI v2)), (4, .int v4)]) 6 dX9_pairs_82 rfl rfl (by decide) rfl ?_
            refine j_goto 20 dX9_pairs_85 (by decide) ?_
            refine j_sub [3, 4, 5, 1, 6, 0] rfl ?_
            exact ih (v3 + 1) (v5 + 1) h r hL kE

set_option maxRecDepth 20000 in
theorem cl_X9_pairs_5 (G : GG) (K : KQ) (a0 : Nat) (a1 : Nat) (v2 : Bool) (s0 : SH a0 = (9, 0)) (s1 : SH a1 = (0, 0)) : ∀ (n : Nat) (v3 : Int32) (v4 : Int32) (h : AH) (r : Int32), f_X9_pairs_l5 a0 a1 v2 h n v3 v4 = some r → J G mX9_pairs 2 0 0 K 94 [(3, .int r)] [] h → J G mX9_pairs 2 0 0 K 5 [(0, .ref (ad G a0)), (1, .ref (ad G a1)), (2, .int (bI v2)), (3, .int v3), (4, .int v4)] [] h := by
  intro n
  induction n with
  | zero => intro v3 v4 h r hL; cases hL
  | succ n ih =>
    intro v3 v4 h r hL kE
    unfold f_X9_pairs_l5 at hL
    refine j_iload 4 dX9_pairs_5 rfl ?_
    refine j_aload_n 1 dX9_pairs_7 rfl ?_
    refine jg_RX9_36 rfl s1 dX9_pairs_8 ?_
    refine j_icmp_ge 94 dX9_pairs_11 (by decide) (fun z1 => ?_) (fun z1 => ?_)
    · replace hL := (if_pos z1).symm.trans hL
      cases hL
      refine j_sub [3] rfl ?_
      exact kE 
    · replace hL := (if_neg z1).symm.trans hL
      refine j_iload 4 dX9_pairs_14 rfl ?_
      refine j_iconst 1 dX9_pairs_16 (by decide) ?_
      refine j_iadd dX9_pairs_17 ?_
      refine j_istore (lv' := [(5, .int (v4 + 1)), (0, .ref (ad G a0)), (1, .ref (ad G a1)), (2, .int (bI v2)), (3, .int v3), (4, .int v4)]) dX9_pairs_18 (by decide) rfl ?_
      obtain ⟨q11, hq11, hL⟩ := bnd_ex hL
      refine j_sub [1, 2, 3, 4, 5, 0] rfl ?_
      refine cl_X9_pairs_20 G K a0 a1 v2 v4 s0 s1 FU v3 (v4 + 1) h q11 hq11 ?_
      refine j_iinc (lv' := [(4, .int (v4 + 1)), (0, .ref (ad G a0)), (1, .ref (ad G a1)), (2, .int (bI v2)), (3, .int q11)]) 4 dX9_pairs_88 rfl rfl (by decide) rfl ?_
      refine j_goto 5 dX9_pairs_91 (by decide) ?_
      refine j_sub [1, 2, 3, 4, 0] rfl ?_
      exact ih q11 (v4 + 1) h r hL kE

set_option maxRecDepth 20000 in
theorem c_X9_pairs (G : GG) (a0 : Nat) (s0 : SH a0 = (9, 0)) (a1 : Nat) (s1 : SH a1 = (0, 0)) (v2 : Bool) (h : AH) (r : Int32) (hL : f_X9_pairs a0 a1 v2 h = some r) : SpI G 2 mX9_pairs [.ref (ad G a0), .ref (ad G a1), .int (bI v2)] h r h := by
  refine sp_i pf_X9_pairs (Nat.le_of_ble_eq_true rfl) ?_
  show J G mX9_pairs 2 0 0 (KMi G r h) 0 [(0, .ref (ad G a0)), (1, .ref (ad G a1)), (2, .int (bI v2))] [] h
  obtain ⟨K, hK⟩ : ∃ K, K = KMi G r h := ⟨_, rfl⟩
  rw [← hK]
  unfold f_X9_pairs at hL
  refine j_iconst 0 dX9_pairs_0 (by decide) ?_
  refine j_istore_n (lv' := [(3, .int 0), (0, .ref (ad G a0)), (1, .ref (ad G a1)), (2, .int (bI v2))]) dX9_pairs_1 (by decide) rfl ?_
  refine j_iconst 0 dX9_pairs_2 (by decide) ?_
  refine j_istore (lv' := [(4, .int 0), (3, .int 0), (0, .ref (ad G a0)), (1, .ref (ad G a1)), (2, .int (bI v2))]) dX9_pairs_3 (by decide) rfl ?_
  obtain ⟨q12, hq12, hL⟩ := bnd_ex hL
  refine j_sub [2, 3, 4, 1, 0] rfl ?_
  refine cl_X9_pairs_5 G K a0 a1 v2 s0 s1 FU 0 0 h q12 hq12 ?_
  refine j_iload_n 0 dX9_pairs_94 rfl ?_
  cases hL
  exact j_reti dX9_pairs_95 rfl hK

def f_X1_mix_l4 (a0 : Nat) (v1 : Int32) : Nat → Int32 → Int32 → AH → Option (AH)
  | 0, _, _, _ => none
  | n + 1, v2, v3, h => if 380 < v3 then some h else gd (ib v3 381 = true) (lt (fun (x6 : Int32) => bnd (f_X11_cutDown x6.toInt64 v1.toInt64) (fun q7 => gd (ib v3 381 = true) (lt (sia h (a0 + 2) (cl v3) q7) (fun h9 => f_X1_mix_l4 a0 v1 n x6 (v3 + 1) h9)))) (fun j4 => if v3 < v1 then j4 (v2 + (hia h (a0 + 1) (cl v3))) else gd (ib (v3 - v1) 381 = true) (j4 ((v2 + (hia h (a0 + 1) (cl v3))) - (hia h (a0 + 1) (cl (v3 - v1)))))))
def f_X1_mix (a0 : Nat) (v1 : Int32) (h : AH) : Option (AH) := bnd (f_X1_mix_l4 a0 v1 FU 0 0 h) (fun q10 => gd (cpOK 0 0 381 381 381) (lt (sir q10 (a0 + 1) (va_cpy (hia q10 (a0 + 2)) (hia q10 (a0 + 1)) (cl 0) (cl 0) (cl 381))) (fun h12 => some h12)))
set_option maxRecDepth 20000 in
theorem cl_X1_mix_4 (G : GG) (K : KQ) (a0 : Nat) (v1 : Int32) (s0 : SH a0 = (1, 0)) : ∀ (n : Nat) (v2 : Int32) (v3 : Int32) (h : AH) (r : AH), f_X1_mix_l4 a0 v1 n v2 v3 h = some r → J G mX1_mix 3 0 0 K 55 [(0, .ref (ad G a0))] [] r → J G mX1_mix 3 0 0 K 4 [(0, .ref (ad G a0)), (1, .int v1), (2, .int v2), (3, .int v3)] [] h := by
  intro n
  induction n with
  | zero => intro v2 v3 h r hL; cases hL
  | succ n ih =>
    intro v2 v3 h r hL kE
    unfold f_X1_mix_l4 at hL
    refine j_iload_n 3 dX1_mix_4 rfl ?_
    refine j_sipush 380 dX1_mix_5 (by decide) ?_
    refine j_icmp_gt 55 dX1_mix_8 (by decide) (fun z1 => ?_) (fun z1 => ?_)
    · replace hL := (if_pos z1).symm.trans hL
      cases hL
      refine j_sub [0] rfl ?_
      exact kE 
    · replace hL := (if_neg z1).symm.trans hL
      refine j_iload_n 2 dX1_mix_11 rfl ?_
      refine j_aload_n 0 dX1_mix_12 rfl ?_
      refine jg_RX1_9 rfl s0 dX1_mix_13 ?_
      refine j_iload_n 3 dX1_mix_16 rfl ?_
      obtain ⟨g2, hL⟩ := gd_ex hL
      refine j_iald (shf_1_0 s0) (ib_in g2) dX1_mix_17 ?_
      refine j_iadd dX1_mix_18 ?_
      refine j_istore_n (lv' := [(2, .int (v2 + (hia h (a0 + 1) (cl v3)))), (0, .ref (ad G a0)), (1, .int v1), (3, .int v3)]) dX1_mix_19 (by decide) rfl ?_
      refine j_iload_n 3 dX1_mix_20 rfl ?_
      refine j_iload_n 2 dX1_mix_21 rfl ?_
      obtain ⟨j4, ej4, hL⟩ := lt_ex hL
      have kj4 : ∀ (x6 : Int32), j4 x6 = some r → J G mX1_mix 3 0 0 K 36 [(0, .ref (ad G a0)), (1, .int v1), (2, .int x6), (3, .int v3)] [] h := by
        intro x6 hL
        rw [ej4] at hL
        replace hL : (bnd (f_X11_cutDown x6.toInt64 v1.toInt64) (fun q7 => gd (ib v3 381 = true) (lt (sia h (a0 + 2) (cl v3) q7) (fun h9 => f_X1_mix_l4 a0 v1 n x6 (v3 + 1) h9)))) = some r := hL
        refine j_aload_n 0 dX1_mix_36 rfl ?_
        refine jg_RX1_13 rfl s0 dX1_mix_37 ?_
        refine j_iload_n 3 dX1_mix_40 rfl ?_
        refine j_iload_n 2 dX1_mix_41 rfl ?_
        refine j_i2l dX1_mix_42 ?_
        refine j_iload_n 1 dX1_mix_43 rfl ?_
        refine j_i2l dX1_mix_44 ?_
        obtain ⟨q7, hq7, hL⟩ := bnd_ex hL
        refine j_callNi (c_X11_cutDown G x6.toInt64 v1.toInt64 h _ hq7) cv_RX1_42 rfl (by decide) rfl rfl (Nat.le_of_ble_eq_true rfl) dX1_mix_45 (by decide) ?_
        obtain ⟨g8, hL⟩ := gd_ex hL
        refine j_iast (shf_1_1 s0) (ib_in g8) dX1_mix_48 ?_
        obtain ⟨h9, eh9, hL⟩ := lt_ex hL
        refine j_heap eh9 ?_
        refine j_iinc (lv' := [(3, .int (v3 + 1)), (0, .ref (ad G a0)), (1, .int v1), (2, .int x6)]) 3 dX1_mix_49 rfl rfl (by decide) rfl ?_
        refine j_goto 4 dX1_mix_52 (by decide) ?_
        refine j_sub [1, 2, 3, 0] rfl ?_
        exact ih x6 (v3 + 1) h9 r hL kE
      refine j_icmp_lt 36 dX1_mix_22 (by decide) (fun z3 => ?_) (fun z3 => ?_)
      · replace hL := (if_pos z3).symm.trans hL
        refine j_sub [1, 2, 0, 3] rfl ?_
        exact kj4 (v2 + (hia h (a0 + 1) (cl v3))) hL
      · replace hL := (if_neg z3).symm.trans hL
        refine j_iload_n 0 dX1_mix_25 rfl ?_
        refine j_aload_n 1 dX1_mix_26 rfl ?_
        refine jg_RX1_9 rfl s0 dX1_mix_27 ?_
        refine j_iload_n 3 dX1_mix_30 rfl ?_
        refine j_iload_n 2 dX1_mix_31 rfl ?_
        refine j_isub dX1_mix_32 ?_
        obtain ⟨g5, hL⟩ := gd_ex hL
        refine j_iald (shf_1_0 s0) (ib_in g5) dX1_mix_33 ?_
        refine j_isub dX1_mix_34 ?_
        refine j_istore_n (lv' := [(2, .int ((v2 + (hia h (a0 + 1) (cl v3))) - (hia h (a0 + 1) (cl (v3 - v1))))), (0, .ref (ad G a0)), (1, .int v1), (3, .int v3)]) dX1_mix_35 (by decide) rfl ?_
        refine j_sub [1, 2, 0, 3] rfl ?_
        exact kj4 ((v2 + (hia h (a0 + 1) (cl v3))) - (hia h (a0 + 1) (cl (v3 - v1)))) hL

set_option maxRecDepth 20000 in
theorem c_X1_mix (G : GG) (a0 : Nat) (s0 : SH a0 = (1, 0)) (v1 : Int32) (h : AH) (r : AH) (hL : f_X1_mix a0 v1 h = some r) : SpV G 3 mX1_mix [.ref (ad G a0), .int v1] h r := by
  refine sp_v pf_X1_mix (Nat.le_of_ble_eq_true rfl) ?_
  show J G mX1_mix 3 0 0 (KMv G r) 0 [(0, .ref (ad G a0)), (1, .int v1)] [] h
  obtain ⟨K, hK⟩ : ∃ K, K = KMv G r := ⟨_, rfl⟩
  rw [← hK]
  unfold f_X1_mix at hL
  refine j_iconst 0 dX1_mix_0 (by decide) ?_
  refine j_istore_n (lv' := [(2, .int 0), (0, .ref (ad G a0)), (1, .int v1)]) dX1_mix_1 (by decide) rfl ?_
  refine j_iconst 0 dX1_mix_2 (by decide) ?_
  refine j_istore_n (lv' := [(3, .int 0), (2, .int 0), (0, .ref (ad G a0)), (1, .int v1)]) dX1_mix_3 (by decide) rfl ?_
  obtain ⟨q10, hq10, hL⟩ := bnd_ex hL
  refine j_sub [2, 3, 1, 0] rfl ?_
  refine cl_X1_mix_4 G K a0 v1 s0 FU 0 0 h q10 hq10 ?_
  refine j_aload_n 0 dX1_mix_55 rfl ?_
  refine jg_RX1_13 rfl s0 dX1_mix_56 ?_
  refine j_iconst 0 dX1_mix_59 (by decide) ?_
  refine j_aload_n 0 dX1_mix_60 rfl ?_
  refine jg_RX1_9 rfl s0 dX1_mix_61 ?_
  refine j_iconst 0 dX1_mix_64 (by decide) ?_
  refine j_sipush 381 dX1_mix_65 (by decide) ?_
  obtain ⟨g11, hL⟩ := gd_ex hL
  refine j_copy rfl km_RX1_48 kv_java_lang_System_arraycopy__Ljava_lang_Object_ILjava_lang_Object_II_V (shf_1_1 s0) (shf_1_0 s0) (by decide) g11.1 g11.2.1 g11.2.2.1 g11.2.2.2.1 g11.2.2.2.2 (by decide) dX1_mix_68 ?_ kt_java_lang_System_arraycopy__Ljava_lang_Object_ILjava_lang_Object_II_V
  obtain ⟨h12, eh12, hL⟩ := lt_ex hL
  refine j_heap eh12 ?_
  cases hL
  exact j_retv dX1_mix_71 rfl hK

def f_X1_ofAtLeast_l18 (a0 : Nat) (a1 : Nat) : Nat → Int32 → AH → Option (AH)
  | 0, _, _ => none
  | n + 1, v3, h => if (hfi h a1 0) ≤ v3 then some h else gd (ib v3 40 = true) (if (hia h (a1 + 3) (cl v3)) ≤ 0 then f_X1_ofAtLeast_l18 a0 a1 n (v3 + 1) h else gd (ib v3 40 = true) (bnd (f_X1_mix a0 ((hia h (a1 + 3) (cl v3)) + 1) h) (fun q8 => f_X1_ofAtLeast_l18 a0 a1 n (v3 + 1) q8)))
def f_X1_ofAtLeast_l62 (a0 : Nat) (h : AH) : Nat → Int32 → Int32 → Option (Int32)
  | 0, _, _ => none
  | n + 1, v3, v4 => if 380 < v4 then some v3 else gd (ib v4 381 = true) (f_X1_ofAtLeast_l62 a0 h n (v3 + (hia h (a0 + 1) (cl v4))) (v4 + 1))
def f_X1_ofAtLeast (a0 : Nat) (a1 : Nat) (v2 : Int32) (h : AH) : Option (Int32 × AH) := bnd (f_J7_fill_53178 (a0 + 1) 381 0 h) (fun q1 => gd (ib 0 381 = true) (lt (sia q1 (a0 + 1) (cl 0) 1000000) (fun h3 => bnd (f_X1_ofAtLeast_l18 a0 a1 FU 0 h3) (fun q9 => bnd (f_X1_ofAtLeast_l62 a0 q9 FU 0 (f_J9_max_7cf53 0 v2)) (fun q12 => some (q12, q9))))))
set_option maxRecDepth 20000 in
theorem cl_X1_ofAtLeast_18 (G : GG) (K : KQ) (a0 : Nat) (a1 : Nat) (v2 : Int32) (s0 : SH a0 = (1, 0)) (s1 : SH a1 = (0, 0)) : ∀ (n : Nat) (v3 : Int32) (h : AH) (r : AH), f_X1_ofAtLeast_l18 a0 a1 n v3 h = some r → J G mX1_ofAtLeast 4 0 0 K 53 [(0, .ref (ad G a0)), (2, .int v2)] [] r → J G mX1_ofAtLeast 4 0 0 K 18 [(0, .ref (ad G a0)), (1, .ref (ad G a1)), (2, .int v2), (3, .int v3)] [] h := by
  intro n
  induction n with
  | zero => intro v3 h r hL; cases hL
  | succ n ih =>
    intro v3 h r hL kE
    unfold f_X1_ofAtLeast_l18 at hL
    refine j_iload_n 3 dX1_ofAtLeast_18 rfl ?_
    refine j_aload_n 1 dX1_ofAtLeast_19 rfl ?_
    refine jg_RX1_23 rfl s1 dX1_ofAtLeast_20 ?_
    refine j_icmp_ge 53 dX1_ofAtLeast_23 (by decide) (fun z4 => ?_) (fun z4 => ?_)
    · replace hL := (if_pos z4).symm.trans hL
      cases hL
      refine j_sub [0, 2] rfl ?_
      exact kE 
    · replace hL := (if_neg z4).symm.trans hL
      refine j_aload_n 1 dX1_ofAtLeast_26 rfl ?_
      refine jg_RX1_29 rfl s1 dX1_ofAtLeast_27 ?_
      refine j_iload_n 3 dX1_ofAtLeast_30 rfl ?_
      obtain ⟨g5, hL⟩ := gd_ex hL
      refine j_iald (shf_0_8 s1) (ib_in g5) dX1_ofAtLeast_31 ?_
      refine j_if_le 47 dX1_ofAtLeast_32 (by decide) (fun z6 => ?_) (fun z6 => ?_)
      · replace hL := (if_pos z6).symm.trans hL
        refine j_iinc (lv' := [(3, .int (v3 + 1)), (0, .ref (ad G a0)), (1, .ref (ad G a1)), (2, .int v2)]) 3 dX1_ofAtLeast_47 rfl rfl (by decide) rfl ?_
        refine j_goto 18 dX1_ofAtLeast_50 (by decide) ?_
        refine j_sub [1, 2, 3, 0] rfl ?_
        exact ih (v3 + 1) h r hL kE
      · replace hL := (if_neg z6).symm.trans hL
        refine j_aload_n 0 dX1_ofAtLeast_35 rfl ?_
        refine j_aload_n 1 dX1_ofAtLeast_36 rfl ?_
        refine jg_RX1_29 rfl s1 dX1_ofAtLeast_37 ?_
        refine j_iload_n 3 dX1_ofAtLeast_40 rfl ?_
        obtain ⟨g7, hL⟩ := gd_ex hL
        refine j_iald (shf_0_8 s1) (ib_in g7) dX1_ofAtLeast_41 ?_
        refine j_iconst 1 dX1_ofAtLeast_42 (by decide) ?_
        refine j_iadd dX1_ofAtLeast_43 ?_
        obtain ⟨q8, hq8, hL⟩ := bnd_ex hL
        refine j_callVv (c_X1_mix G a0 s0 ((hia h (a1 + 3) (cl v3)) + 1) h _ hq8) cv_RX1_32 rfl s0 (by decide) rfl (by decide) rfl rfl (Nat.le_of_ble_eq_true rfl) dX1_ofAtLeast_44 (by decide) ?_
        refine j_iinc (lv' := [(3, .int (v3 + 1)), (0, .ref (ad G a0)), (1, .ref (ad G a1)), (2, .int v2)]) 3 dX1_ofAtLeast_47 rfl rfl (by decide) rfl ?_
        refine j_goto 18 dX1_ofAtLeast_50 (by decide) ?_
        refine j_sub [1, 2, 3, 0] rfl ?_
        exact ih (v3 + 1) q8 r hL kE

set_option maxRecDepth 20000 in
theorem cl_X1_ofAtLeast_62 (G : GG) (K : KQ) (a0 : Nat) (s0 : SH a0 = (1, 0)) : ∀ (n : Nat) (v3 : Int32) (v4 : Int32) (h : AH) (r : Int32), f_X1_ofAtLeast_l62 a0 h n v3 v4 = some r → J G mX1_ofAtLeast 4 0 0 K 86 [(3, .int r)] [] h → J G mX1_ofAtLeast 4 0 0 K 62 [(0, .ref (ad G a0)), (3, .int v3), (4, .int v4)] [] h := by
  intro n
  induction n with
  | zero => intro v3 v4 h r hL; cases hL
  | succ n ih =>
    intro v3 v4 h r hL kE
    unfold f_X1_ofAtLeast_l62 at hL
    refine j_iload 2 dX1_ofAtLeast_62 rfl ?_
    refine j_sipush 380 dX1_ofAtLeast_64 (by decide) ?_
    refine j_icmp_gt 86 dX1_ofAtLeast_67 (by decide) (fun z10 => ?_) (fun z10 => ?_)
    · replace hL := (if_pos z10).symm.trans hL
      cases hL
      refine j_sub [1] rfl ?_
      exact kE 
    · replace hL := (if_neg z10).symm.trans hL
      refine j_iload_n 1 dX1_ofAtLeast_70 rfl ?_
      refine j_aload_n 0 dX1_ofAtLeast_71 rfl ?_
      refine jg_RX1_9 rfl s0 dX1_ofAtLeast_72 ?_
      refine j_iload 2 dX1_ofAtLeast_75 rfl ?_
      obtain ⟨g11, hL⟩ := gd_ex hL
      refine j_iald (shf_1_0 s0) (ib_in g11) dX1_ofAtLeast_77 ?_
      refine j_iadd dX1_ofAtLeast_78 ?_
      refine j_istore_n (lv' := [(3, .int (v3 + (hia h (a0 + 1) (cl v4)))), (0, .ref (ad G a0)), (4, .int v4)]) dX1_ofAtLeast_79 (by decide) rfl ?_
      refine j_iinc (lv' := [(4, .int (v4 + 1)), (3, .int (v3 + (hia h (a0 + 1) (cl v4)))), (0, .ref (ad G a0))]) 2 dX1_ofAtLeast_80 rfl rfl (by decide) rfl ?_
      refine j_goto 62 dX1_ofAtLeast_83 (by decide) ?_
      refine j_sub [2, 1, 0] rfl ?_
      exact ih (v3 + (hia h (a0 + 1) (cl v4))) (v4 + 1) h r hL kE

set_option maxRecDepth 20000 in
theorem c_X1_ofAtLeast (G : GG) (a0 : Nat) (s0 : SH a0 = (1, 0)) (a1 : Nat) (s1 : SH a1 = (0, 0)) (v2 : Int32) (h : AH) (r : Int32 × AH) (hL : f_X1_ofAtLeast a0 a1 v2 h = some r) : SpI G 4 mX1_ofAtLeast [.ref (ad G a0), .ref (ad G a1), .int v2] h r.1 r.2 := by
  refine sp_i pf_X1_ofAtLeast (Nat.le_of_ble_eq_true rfl) ?_
  show J G mX1_ofAtLeast 4 0 0 (KMi G r.1 r.2) 0 [(0, .ref (ad G a0)), (1, .ref (ad G a1)), (2, .int v2)] [] h
  obtain ⟨K, hK⟩ : ∃ K, K = KMi G r.1 r.2 := ⟨_, rfl⟩
  rw [← hK]
  unfold f_X1_ofAtLeast at hL
  refine j_aload_n 0 dX1_ofAtLeast_0 rfl ?_
  refine jg_RX1_9 rfl s0 dX1_ofAtLeast_1 ?_
  refine j_iconst 0 dX1_ofAtLeast_4 (by decide) ?_
  obtain ⟨q1, hq1, hL⟩ := bnd_ex hL
  refine j_callSv (c_J7_fill_53178 G (a0 + 1) 381 (shf_1_0 s0) 0 h _ hq1) cv_RX1_16 rfl (by decide) rfl rfl (Nat.le_of_ble_eq_true rfl) dX1_ofAtLeast_5 (by decide) ?_
  refine j_aload_n 0 dX1_ofAtLeast_8 rfl ?_
  refine jg_RX1_9 rfl s0 dX1_ofAtLeast_9 ?_
  refine j_iconst 0 dX1_ofAtLeast_12 (by decide) ?_
  refine j_ldc rfl kk_RX1_22 dX1_ofAtLeast_13 ?_
  obtain ⟨g2, hL⟩ := gd_ex hL
  refine j_iast (shf_1_0 s0) (ib_in g2) dX1_ofAtLeast_15 ?_
  obtain ⟨h3, eh3, hL⟩ := lt_ex hL
  refine j_heap eh3 ?_
  refine j_iconst 0 dX1_ofAtLeast_16 (by decide) ?_
  refine j_istore_n (lv' := [(3, .int 0), (0, .ref (ad G a0)), (1, .ref (ad G a1)), (2, .int v2)]) dX1_ofAtLeast_17 (by decide) rfl ?_
  obtain ⟨q9, hq9, hL⟩ := bnd_ex hL
  refine j_sub [1, 2, 3, 0] rfl ?_
  refine cl_X1_ofAtLeast_18 G K a0 a1 v2 s0 s1 FU 0 h3 q9 hq9 ?_
  refine j_iconst 0 dX1_ofAtLeast_53 (by decide) ?_
  refine j_istore_n (lv' := [(3, .int 0), (0, .ref (ad G a0)), (2, .int v2)]) dX1_ofAtLeast_54 (by decide) rfl ?_
  refine j_iconst 0 dX1_ofAtLeast_55 (by decide) ?_
  refine j_iload_n 2 dX1_ofAtLeast_56 rfl ?_
  refine j_callSi (c_J9_max_7cf53 G 0 v2 q9) cv_RX1_36 rfl (by decide) rfl rfl (Nat.le_of_ble_eq_true rfl) dX1_ofAtLeast_57 (by decide) ?_
  refine j_istore (lv' := [(4, .int (f_J9_max_7cf53 0 v2)), (3, .int 0), (0, .ref (ad G a0)), (2, .int v2)]) dX1_ofAtLeast_60 (by decide) rfl ?_
  obtain ⟨q12, hq12, hL⟩ := bnd_ex hL
  refine j_sub [2, 1, 0] rfl ?_
  refine cl_X1_ofAtLeast_62 G K a0 s0 FU 0 (f_J9_max_7cf53 0 v2) q9 q12 hq12 ?_
  refine j_iload_n 0 dX1_ofAtLeast_86 rfl ?_
  cases hL
  exact j_reti dX1_ofAtLeast_87 rfl hK

def f_X4_insert_l5 (a0 : Nat) (v2 : Int32) : Nat → Int32 → AH → Option (Int32 × AH)
  | 0, _, _ => none
  | n + 1, v3, h => if v3 ≤ 0 then some (v3, h) else gd (ib (v3 - 1) 12 = true) (if (hia h (a0 + 2) (cl (v3 - 1))) ≤ v2 then some (v3, h) else gd (ib (v3 - 1) 12 = true) (gd (ib v3 12 = true) (lt (sia h (a0 + 2) (cl v3) (hia h (a0 + 2) (cl (v3 - 1)))) (fun h6 => gd (ib (v3 - 1) 12 = true) (gd (ib v3 12 = true) (lt (sia h6 (a0 + 1) (cl v3) (hia h6 (a0 + 1) (cl (v3 - 1)))) (fun h9 => f_X4_insert_l5 a0 v2 n (v3 + (-1)) h9)))))))
def f_X4_insert (a0 : Nat) (v1 : Int32) (v2 : Int32) (h : AH) : Option (AH) := bnd (f_X4_insert_l5 a0 v2 FU (hfi h a0 0) h) (fun q10 => gd (ib q10.1 12 = true) (lt (sia q10.2 (a0 + 2) (cl q10.1) v2) (fun h12 => gd (ib q10.1 12 = true) (lt (sia h12 (a0 + 1) (cl q10.1) v1) (fun h14 => lt (sfi h14 a0 0 ((hfi h14 a0 0) + 1)) (fun h15 => some h15))))))
set_option maxRecDepth 20000 in
theorem cl_X4_insert_5 (G : GG) (K : KQ) (a0 : Nat) (v1 : Int32) (v2 : Int32) (s0 : SH a0 = (4, 0)) : ∀ (n : Nat) (v3 : Int32) (h : AH) (r : Int32 × AH), f_X4_insert_l5 a0 v2 n v3 h = some r → J G mX4_insert 1 0 0 K 55 [(0, .ref (ad G a0)), (1, .int v1), (2, .int v2), (3, .int r.1)] [] r.2 → J G mX4_insert 1 0 0 K 5 [(0, .ref (ad G a0)), (1, .int v1), (2, .int v2), (3, .int v3)] [] h := by
  intro n
  induction n with
  | zero => intro v3 h r hL; cases hL
  | succ n ih =>
    intro v3 h r hL kE
    unfold f_X4_insert_l5 at hL
    refine j_iload_n 3 dX4_insert_5 rfl ?_
    refine j_if_le 55 dX4_insert_6 (by decide) (fun z1 => ?_) (fun z1 => ?_)
    · replace hL := (if_pos z1).symm.trans hL
      cases hL
      refine j_sub [0, 1, 2, 3] rfl ?_
      exact kE 
    · replace hL := (if_neg z1).symm.trans hL
      refine j_aload_n 0 dX4_insert_9 rfl ?_
      refine jg_RX4_15 rfl s0 dX4_insert_10 ?_
      refine j_iload_n 3 dX4_insert_13 rfl ?_
      refine j_iconst 1 dX4_insert_14 (by decide) ?_
      refine j_isub dX4_insert_15 ?_
      obtain ⟨g2, hL⟩ := gd_ex hL
      refine j_iald (shf_4_2 s0) (ib_in g2) dX4_insert_16 ?_
      refine j_iload_n 2 dX4_insert_17 rfl ?_
      refine j_icmp_le 55 dX4_insert_18 (by decide) (fun z3 => ?_) (fun z3 => ?_)
      · replace hL := (if_pos z3).symm.trans hL
        cases hL
        refine j_sub [0, 1, 2, 3] rfl ?_
        exact kE 
      · replace hL := (if_neg z3).symm.trans hL
        refine j_aload_n 0 dX4_insert_21 rfl ?_
        refine jg_RX4_15 rfl s0 dX4_insert_22 ?_
        refine j_iload_n 3 dX4_insert_25 rfl ?_
        refine j_aload_n 0 dX4_insert_26 rfl ?_
        refine jg_RX4_15 rfl s0 dX4_insert_27 ?_
        refine j_iload_n 3 dX4_insert_30 rfl ?_
        refine j_iconst 1 dX4_insert_31 (by decide) ?_
        refine j_isub dX4_insert_32 ?_
        obtain ⟨g4, hL⟩ := gd_ex hL
        refine j_iald (shf_4_2 s0) (ib_in g4) dX4_insert_33 ?_
        obtain ⟨g5, hL⟩ := gd_ex hL
        refine j_iast (shf_4_2 s0) (ib_in g5) dX4_insert_34 ?_
        obtain ⟨h6, eh6, hL⟩ := lt_ex hL
        refine j_heap eh6 ?_
        refine j_aload_n 0 dX4_insert_35 rfl ?_
        refine jg_RX4_9 rfl s0 dX4_insert_36 ?_
        refine j_iload_n 3 dX4_insert_39 rfl ?_
        refine j_aload_n 0 dX4_insert_40 rfl ?_
        refine jg_RX4_9 rfl s0 dX4_insert_41 ?_
        refine j_iload_n 3 dX4_insert_44 rfl ?_
        refine j_iconst 1 dX4_insert_45 (by decide) ?_
        refine j_isub dX4_insert_46 ?_
        obtain ⟨g7, hL⟩ := gd_ex hL
        refine j_iald (shf_4_1 s0) (ib_in g7) dX4_insert_47 ?_
        obtain ⟨g8, hL⟩ := gd_ex hL
        refine j_iast (shf_4_1 s0) (ib_in g8) dX4_insert_48 ?_
        obtain ⟨h9, eh9, hL⟩ := lt_ex hL
        refine j_heap eh9 ?_
        refine j_iinc (lv' := [(3, .int (v3 + (-1))), (0, .ref (ad G a0)), (1, .int v1), (2, .int v2)]) 3 dX4_insert_49 rfl rfl (by decide) rfl ?_
        refine j_goto 5 dX4_insert_52 (by decide) ?_
        refine j_sub [1, 2, 3, 0] rfl ?_
        exact ih (v3 + (-1)) h9 r hL kE

set_option maxRecDepth 20000 in
theorem c_X4_insert (G : GG) (a0 : Nat) (s0 : SH a0 = (4, 0)) (v1 : Int32) (v2 : Int32) (h : AH) (r : AH) (hL : f_X4_insert a0 v1 v2 h = some r) : SpV G 1 mX4_insert [.ref (ad G a0), .int v1, .int v2] h r := by
  refine sp_v pf_X4_insert (Nat.le_of_ble_eq_true rfl) ?_
  show J G mX4_insert 1 0 0 (KMv G r) 0 [(0, .ref (ad G a0)), (1, .int v1), (2, .int v2)] [] h
  obtain ⟨K, hK⟩ : ∃ K, K = KMv G r := ⟨_, rfl⟩
  rw [← hK]
  unfold f_X4_insert at hL
  refine j_aload_n 0 dX4_insert_0 rfl ?_
  refine jg_RX4_18 rfl s0 dX4_insert_1 ?_
  refine j_istore_n (lv' := [(3, .int (hfi h a0 0)), (0, .ref (ad G a0)), (1, .int v1), (2, .int v2)]) dX4_insert_4 (by decide) rfl ?_
  obtain ⟨q10, hq10, hL⟩ := bnd_ex hL
  refine j_sub [1, 2, 3, 0] rfl ?_
  refine cl_X4_insert_5 G K a0 v1 v2 s0 FU (hfi h a0 0) h q10 hq10 ?_
  refine j_aload_n 0 dX4_insert_55 rfl ?_
  refine jg_RX4_15 rfl s0 dX4_insert_56 ?_
  refine j_iload_n 3 dX4_insert_59 rfl ?_
  refine j_iload_n 2 dX4_insert_60 rfl ?_
  obtain ⟨g11, hL⟩ := gd_ex hL
  refine j_iast (shf_4_2 s0) (ib_in g11) dX4_insert_61 ?_
  obtain ⟨h12, eh12, hL⟩ := lt_ex hL
  refine j_heap eh12 ?_
  refine j_aload_n 0 dX4_insert_62 rfl ?_
  refine jg_RX4_9 rfl s0 dX4_insert_63 ?_
  refine j_iload_n 3 dX4_insert_66 rfl ?_
  refine j_iload_n 1 dX4_insert_67 rfl ?_
  obtain ⟨g13, hL⟩ := gd_ex hL
  refine j_iast (shf_4_1 s0) (ib_in g13) dX4_insert_68 ?_
  obtain ⟨h14, eh14, hL⟩ := lt_ex hL
  refine j_heap eh14 ?_
  refine j_aload_n 0 dX4_insert_69 rfl ?_
  refine j_dup dX4_insert_70 rfl ?_
  refine jg_RX4_18 rfl s0 dX4_insert_71 ?_
  refine j_iconst 1 dX4_insert_74 (by decide) ?_
  refine j_iadd dX4_insert_75 ?_
  refine jp_RX4_18 rfl s0 dX4_insert_76 ?_
  obtain ⟨h15, eh15, hL⟩ := lt_ex hL
  refine j_heap eh15 ?_
  cases hL
  exact j_retv dX4_insert_79 rfl hK

def f_X4_sort_l7 (a0 : Nat) (a1 : Nat) : Nat → Int32 → AH → Option (AH)
  | 0, _, _ => none
  | n + 1, v2, h => if 12 ≤ v2 then some h else gd (ib v2 12 = true) (if (hia h (a1 + 7) (cl v2)) ≤ 0 then f_X4_sort_l7 a0 a1 n (v2 + 1) h else gd (ib v2 12 = true) (bnd (f_X4_insert a0 v2 (hia h (a1 + 6) (cl v2)) h) (fun q6 => f_X4_sort_l7 a0 a1 n (v2 + 1) q6)))
def f_X4_sort (a0 : Nat) (a1 : Nat) (h : AH) : Option (AH) := lt (sfi h a0 0 0) (fun h1 => bnd (f_X4_sort_l7 a0 a1 FU 0 h1) (fun q7 => some q7))
set_option maxRecDepth 20000 in
theorem cl_X4_sort_7 (G : GG) (K : KQ) (a0 : Nat) (a1 : Nat) (s0 : SH a0 = (4, 0)) (s1 : SH a1 = (9, 0)) : ∀ (n : Nat) (v2 : Int32) (h : AH) (r : AH), f_X4_sort_l7 a0 a1 n v2 h = some r → J G mX4_sort 2 0 0 K 39 [] [] r → J G mX4_sort 2 0 0 K 7 [(0, .ref (ad G a0)), (1, .ref (ad G a1)), (2, .int v2)] [] h := by
  intro n
  induction n with
  | zero => intro v2 h r hL; cases hL
  | succ n ih =>
    intro v2 h r hL kE
    unfold f_X4_sort_l7 at hL
    refine j_iload_n 2 dX4_sort_7 rfl ?_
    refine j_bipush 12 dX4_sort_8 (by decide) ?_
    refine j_icmp_ge 39 dX4_sort_10 (by decide) (fun z2 => ?_) (fun z2 => ?_)
    · replace hL := (if_pos z2).symm.trans hL
      cases hL
      refine j_sub [] rfl ?_
      exact kE 
    · replace hL := (if_neg z2).symm.trans hL
      refine j_aload_n 1 dX4_sort_13 rfl ?_
      refine jg_RX4_22 rfl s1 dX4_sort_14 ?_
      refine j_iload_n 2 dX4_sort_17 rfl ?_
      obtain ⟨g3, hL⟩ := gd_ex hL
      refine j_iald (shf_9_6 s1) (ib_in g3) dX4_sort_18 ?_
      refine j_if_le 33 dX4_sort_19 (by decide) (fun z4 => ?_) (fun z4 => ?_)
      · replace hL := (if_pos z4).symm.trans hL
        refine j_iinc (lv' := [(2, .int (v2 + 1)), (0, .ref (ad G a0)), (1, .ref (ad G a1))]) 2 dX4_sort_33 rfl rfl (by decide) rfl ?_
        refine j_goto 7 dX4_sort_36 (by decide) ?_
        refine j_sub [1, 2, 0] rfl ?_
        exact ih (v2 + 1) h r hL kE
      · replace hL := (if_neg z4).symm.trans hL
        refine j_aload_n 0 dX4_sort_22 rfl ?_
        refine j_iload_n 2 dX4_sort_23 rfl ?_
        refine j_aload_n 1 dX4_sort_24 rfl ?_
        refine jg_RX4_27 rfl s1 dX4_sort_25 ?_
        refine j_iload_n 2 dX4_sort_28 rfl ?_
        obtain ⟨g5, hL⟩ := gd_ex hL
        refine j_iald (shf_9_5 s1) (ib_in g5) dX4_sort_29 ?_
        obtain ⟨q6, hq6, hL⟩ := bnd_ex hL
        refine j_callVv (c_X4_insert G a0 s0 v2 (hia h (a1 + 6) (cl v2)) h _ hq6) cv_RX4_30 rfl s0 (by decide) rfl (by decide) rfl rfl (Nat.le_of_ble_eq_true rfl) dX4_sort_30 (by decide) ?_
        refine j_iinc (lv' := [(2, .int (v2 + 1)), (0, .ref (ad G a0)), (1, .ref (ad G a1))]) 2 dX4_sort_33 rfl rfl (by decide) rfl ?_
        refine j_goto 7 dX4_sort_36 (by decide) ?_
        refine j_sub [1, 2, 0] rfl ?_
        exact ih (v2 + 1) q6 r hL kE

set_option maxRecDepth 20000 in
theorem c_X4_sort (G : GG) (a0 : Nat) (s0 : SH a0 = (4, 0)) (a1 : Nat) (s1 : SH a1 = (9, 0)) (h : AH) (r : AH) (hL : f_X4_sort a0 a1 h = some r) : SpV G 2 mX4_sort [.ref (ad G a0), .ref (ad G a1)] h r := by
  refine sp_v pf_X4_sort (Nat.le_of_ble_eq_true rfl) ?_
  show J G mX4_sort 2 0 0 (KMv G r) 0 [(0, .ref (ad G a0)), (1, .ref (ad G a1))] [] h
  obtain ⟨K, hK⟩ : ∃ K, K = KMv G r := ⟨_, rfl⟩
  rw [← hK]
  unfold f_X4_sort at hL
  refine j_aload_n 0 dX4_sort_0 rfl ?_
  refine j_iconst 0 dX4_sort_1 (by decide) ?_
  refine jp_RX4_18 rfl s0 dX4_sort_2 ?_
  obtain ⟨h1, eh1, hL⟩ := lt_ex hL
  refine j_heap eh1 ?_
  refine j_iconst 0 dX4_sort_5 (by decide) ?_
  refine j_istore_n (lv' := [(2, .int 0), (0, .ref (ad G a0)), (1, .ref (ad G a1))]) dX4_sort_6 (by decide) rfl ?_
  obtain ⟨q7, hq7, hL⟩ := bnd_ex hL
  refine j_sub [1, 2, 0] rfl ?_
  refine cl_X4_sort_7 G K a0 a1 s0 s1 FU 0 h1 q7 hq7 ?_
  cases hL
  exact j_retv dX4_sort_39 rfl hK

def f_X4_lastEnd (a0 : Nat) (v1 : Bool) (h : AH) : Int32 := if v1 = true then ((hfi h a0 0) - 1) else (hfi h a0 0)
set_option maxRecDepth 20000 in
theorem c_X4_lastEnd (G : GG) (a0 : Nat) (s0 : SH a0 = (4, 0)) (v1 : Bool) (h : AH) : SpI G 1 mX4_lastEnd [.ref (ad G a0), .int (bI v1)] h (f_X4_lastEnd a0 v1 h) h := by
  obtain ⟨r, hL⟩ : ∃ r, f_X4_lastEnd a0 v1 h = r := ⟨_, rfl⟩
  rw [hL]
  refine sp_i pf_X4_lastEnd (Nat.le_of_ble_eq_true rfl) ?_
  show J G mX4_lastEnd 1 0 0 (KMi G r h) 0 [(0, .ref (ad G a0)), (1, .int (bI v1))] [] h
  obtain ⟨K, hK⟩ : ∃ K, K = KMi G r h := ⟨_, rfl⟩
  rw [← hK]
  unfold f_X4_lastEnd at hL
  refine j_iload_n 1 dX4_lastEnd_0 rfl ?_
  refine j_ifz_eq 13 dX4_lastEnd_1 (by decide) (fun z1 => ?_) (fun z1 => ?_)
  · replace hL := (if_neg z1).symm.trans hL
    refine j_aload_n 0 dX4_lastEnd_13 rfl ?_
    refine jg_RX4_18 rfl s0 dX4_lastEnd_14 ?_
    subst hL
    exact j_reti dX4_lastEnd_17 rfl hK
  · replace hL := (if_pos z1).symm.trans hL
    refine j_aload_n 0 dX4_lastEnd_4 rfl ?_
    refine jg_RX4_18 rfl s0 dX4_lastEnd_5 ?_
    refine j_iconst 1 dX4_lastEnd_8 (by decide) ?_
    refine j_isub dX4_lastEnd_9 ?_
    refine j_goto 17 dX4_lastEnd_10 (by decide) ?_
    subst hL
    exact j_reti dX4_lastEnd_17 rfl hK

def f_X4_spread_l22 (a0 : Nat) (v2 : Int32) (h : AH) : Nat → Int64 → Int64 → Int32 → Option (Int64 × Int64)
  | 0, _, _, _ => none
  | n + 1, v5, v7, v9 => if v2 ≤ v9 then some (v5, v7) else gd (ib v9 12 = true) (gd (ib v9 12 = true) (gd (ib v9 12 = true) (f_X4_spread_l22 a0 v2 h n (v5 + ((hia h (a0 + 2) (cl v9)).toInt64)) (v7 + (((hia h (a0 + 2) (cl v9)).toInt64) * ((hia h (a0 + 2) (cl v9)).toInt64))) (v9 + 1))))
def f_X4_spread (a0 : Nat) (v1 : Int32) (v2 : Int32) (h : AH) : Option (Int64) := if 0 ≤ (lg_cmp ((v2 - v1).toInt64) 1) then bnd (f_X4_spread_l22 a0 v2 h FU 0 0 v1) (fun q6 => gd (¬ ((v2 - v1).toInt64) = 0) (some ((1000 * ((((v2 - v1).toInt64) * q6.2) - (q6.1 * q6.1))) / ((v2 - v1).toInt64)))) else some 0
set_option maxRecDepth 20000 in
theorem cl_X4_spread_22 (G : GG) (K : KQ) (a0 : Nat) (v2 : Int32) (v3 : Int64) (s0 : SH a0 = (4, 0)) : ∀ (n : Nat) (v5 : Int64) (v7 : Int64) (v9 : Int32) (h : AH) (r : Int64 × Int64), f_X4_spread_l22 a0 v2 h n v5 v7 v9 = some r → J G mX4_spread 1 0 0 K 69 [(3, .long v3), (5, .long r.1), (7, .long r.2)] [] h → J G mX4_spread 1 0 0 K 22 [(0, .ref (ad G a0)), (2, .int v2), (3, .long v3), (5, .long v5), (7, .long v7), (9, .int v9)] [] h := by
  intro n
  induction n with
  | zero => intro v5 v7 v9 h r hL; cases hL
  | succ n ih =>
    intro v5 v7 v9 h r hL kE
    unfold f_X4_spread_l22 at hL
    refine j_iload 5 dX4_spread_22 rfl ?_
    refine j_iload_n 1 dX4_spread_24 rfl ?_
    refine j_icmp_ge 69 dX4_spread_25 (by decide) (fun z2 => ?_) (fun z2 => ?_)
    · replace hL := (if_pos z2).symm.trans hL
      cases hL
      refine j_sub [2, 3, 4] rfl ?_
      exact kE 
    · replace hL := (if_neg z2).symm.trans hL
      refine j_lload 3 dX4_spread_28 rfl ?_
      refine j_aload_n 0 dX4_spread_30 rfl ?_
      refine jg_RX4_15 rfl s0 dX4_spread_31 ?_
      refine j_iload 5 dX4_spread_34 rfl ?_
      obtain ⟨g3, hL⟩ := gd_ex hL
      refine j_iald (shf_4_2 s0) (ib_in g3) dX4_spread_36 ?_
      refine j_i2l dX4_spread_37 ?_
      refine j_ladd dX4_spread_38 ?_
      refine j_lstore (lv' := [(5, .long (v5 + ((hia h (a0 + 2) (cl v9)).toInt64))), (0, .ref (ad G a0)), (2, .int v2), (3, .long v3), (7, .long v7), (9, .int v9)]) dX4_spread_39 (by decide) rfl ?_
      refine j_lload 4 dX4_spread_41 rfl ?_
      refine j_aload_n 1 dX4_spread_43 rfl ?_
      refine jg_RX4_15 rfl s0 dX4_spread_44 ?_
      refine j_iload 5 dX4_spread_47 rfl ?_
      obtain ⟨g4, hL⟩ := gd_ex hL
      refine j_iald (shf_4_2 s0) (ib_in g4) dX4_spread_49 ?_
      refine j_i2l dX4_spread_50 ?_
      refine j_aload_n 1 dX4_spread_51 rfl ?_
      refine jg_RX4_15 rfl s0 dX4_spread_52 ?_
      refine j_iload 5 dX4_spread_55 rfl ?_
      obtain ⟨g5, hL⟩ := gd_ex hL
      refine j_iald (shf_4_2 s0) (ib_in g5) dX4_spread_57 ?_
      refine j_i2l dX4_spread_58 ?_
      refine j_lmul dX4_spread_59 ?_
      refine j_ladd dX4_spread_60 ?_
      refine j_lstore (lv' := [(7, .long (v7 + (((hia h (a0 + 2) (cl v9)).toInt64) * ((hia h (a0 + 2) (cl v9)).toInt64)))), (5, .long (v5 + ((hia h (a0 + 2) (cl v9)).toInt64))), (0, .ref (ad G a0)), (2, .int v2), (3, .long v3), (9, .int v9)]) dX4_spread_61 (by decide) rfl ?_
      refine j_iinc (lv' := [(9, .int (v9 + 1)), (7, .long (v7 + (((hia h (a0 + 2) (cl v9)).toInt64) * ((hia h (a0 + 2) (cl v9)).toInt64)))), (5, .long (v5 + ((hia h (a0 + 2) (cl v9)).toInt64))), (0, .ref (ad G a0)), (2, .int v2), (3, .long v3)]) 5 dX4_spread_63 rfl rfl (by decide) rfl ?_
      refine j_goto 22 dX4_spread_66 (by decide) ?_
      refine j_sub [3, 4, 5, 2, 1, 0] rfl ?_
      exact ih (v5 + ((hia h (a0 + 2) (cl v9)).toInt64)) (v7 + (((hia h (a0 + 2) (cl v9)).toInt64) * ((hia h (a0 + 2) (cl v9)).toInt64))) (v9 + 1) h r hL kE

set_option maxRecDepth 20000 in
theorem c_X4_spread (G : GG) (a0 : Nat) (s0 : SH a0 = (4, 0)) (v1 : Int32) (v2 : Int32) (h : AH) (r : Int64) (hL : f_X4_spread a0 v1 v2 h = some r) : SpL G 1 mX4_spread [.ref (ad G a0), .int v1, .int v2] h r h := by
  refine sp_l pf_X4_spread (Nat.le_of_ble_eq_true rfl) ?_
  show J G mX4_spread 1 0 0 (KMl G r h) 0 [(0, .ref (ad G a0)), (1, .int v1), (2, .int v2)] [] h
  obtain ⟨K, hK⟩ : ∃ K, K = KMl G r h := ⟨_, rfl⟩
  rw [← hK]
  unfold f_X4_spread at hL
  refine j_iload_n 2 dX4_spread_0 rfl ?_
  refine j_iload_n 1 dX4_spread_1 rfl ?_
  refine j_isub dX4_spread_2 ?_
  refine j_i2l dX4_spread_3 ?_
  refine j_lstore_n (lv' := [(3, .long ((v2 - v1).toInt64)), (0, .ref (ad G a0)), (1, .int v1), (2, .int v2)]) dX4_spread_4 (by decide) rfl ?_
  refine j_lload_n 0 dX4_spread_5 rfl ?_
  refine j_lconst 1 dX4_spread_6 (by decide) ?_
  refine j_lcmp dX4_spread_7 ?_
  refine j_if_ge 13 dX4_spread_8 (by decide) (fun z1 => ?_) (fun z1 => ?_)
  · replace hL := (if_pos z1).symm.trans hL
    refine j_lconst 0 dX4_spread_13 (by decide) ?_
    refine j_lstore (lv' := [(5, .long 0), (3, .long ((v2 - v1).toInt64)), (0, .ref (ad G a0)), (1, .int v1), (2, .int v2)]) dX4_spread_14 (by decide) rfl ?_
    refine j_lconst 0 dX4_spread_16 (by decide) ?_
    refine j_lstore (lv' := [(7, .long 0), (5, .long 0), (3, .long ((v2 - v1).toInt64)), (0, .ref (ad G a0)), (1, .int v1), (2, .int v2)]) dX4_spread_17 (by decide) rfl ?_
    refine j_iload_n 4 dX4_spread_19 rfl ?_
    refine j_istore (lv' := [(9, .int v1), (7, .long 0), (5, .long 0), (3, .long ((v2 - v1).toInt64)), (0, .ref (ad G a0)), (1, .int v1), (2, .int v2)]) dX4_spread_20 (by decide) rfl ?_
    obtain ⟨q6, hq6, hL⟩ := bnd_ex hL
    refine j_sub [4, 6, 3, 2, 1, 0] rfl ?_
    refine cl_X4_spread_22 G K a0 v2 ((v2 - v1).toInt64) s0 FU 0 0 v1 h q6 hq6 ?_
    refine j_ldc2 rfl kk_RX4_53 dX4_spread_69 ?_
    refine j_lload_n 0 dX4_spread_72 rfl ?_
    refine j_lload 2 dX4_spread_73 rfl ?_
    refine j_lmul dX4_spread_75 ?_
    refine j_lload 1 dX4_spread_76 rfl ?_
    refine j_lload 1 dX4_spread_78 rfl ?_
    refine j_lmul dX4_spread_80 ?_
    refine j_lsub dX4_spread_81 ?_
    refine j_lmul dX4_spread_82 ?_
    refine j_lload_n 0 dX4_spread_83 rfl ?_
    obtain ⟨g7, hL⟩ := gd_ex hL
    refine j_ldiv dX4_spread_84 g7 ?_
    cases hL
    exact j_retl dX4_spread_85 rfl hK
  · replace hL := (if_neg z1).symm.trans hL
    refine j_lconst 0 dX4_spread_11 (by decide) ?_
    cases hL
    exact j_retl dX4_spread_12 rfl hK

def f_X4_part_l93 (a0 : Nat) (v1 : Int32) (v4 : Int32) (v5 : Int32) : Nat → Int64 → Int32 → AH → Option (Int64 × AH)
  | 0, _, _, _ => none
  | n + 1, v2, v6, h => lt (fun (x20 : Bool) => if (f_X4_lastEnd a0 x20 h) < v6 then some (v2, h) else bnd (f_X4_spread a0 0 v4 h) (fun q22 => bnd (f_X4_spread a0 v4 v5 h) (fun q23 => bnd (f_X4_spread a0 v5 v6 h) (fun q24 => bnd (f_X4_spread a0 v6 (hfi h a0 0) h) (fun q25 => if (lg_cmp v2 (-1)) = 0 then lt (sfi h a0 3 v4) (fun h27 => lt (sfi h27 a0 4 v5) (fun h28 => lt (sfi h28 a0 5 v6) (fun h29 => f_X4_part_l93 a0 v1 v4 v5 n (((q22 + q23) + q24) + q25) (v6 + 1) h29))) else if 0 ≤ (lg_cmp (((q22 + q23) + q24) + q25) v2) then f_X4_part_l93 a0 v1 v4 v5 n v2 (v6 + 1) h else lt (sfi h a0 3 v4) (fun h31 => lt (sfi h31 a0 4 v5) (fun h32 => lt (sfi h32 a0 5 v6) (fun h33 => f_X4_part_l93 a0 v1 v4 v5 n (((q22 + q23) + q24) + q25) (v6 + 1) h33)))))))) (fun j19 => if v1 ≤ 3 then j19 false else j19 true)
def f_X4_part_l56 (a0 : Nat) (v1 : Int32) (v4 : Int32) : Nat → Int64 → Int32 → AH → Option (Int64 × AH)
  | 0, _, _, _ => none
  | n + 1, v2, v5, h => lt (fun (x13 : Bool) => if (f_X4_lastEnd a0 x13 h) < v5 then some (v2, h) else lt (fun (x17 : Int32) => bnd (f_X4_part_l93 a0 v1 v4 v5 FU v2 x17 h) (fun q34 => f_X4_part_l56 a0 v1 v4 n q34.1 (v5 + 1) q34.2)) (fun j16 => if v1 ≤ 3 then j16 (hfi h a0 0) else j16 (v5 + 1))) (fun j12 => if v1 ≤ 2 then j12 false else j12 true)
def f_X4_part_l19 (a0 : Nat) (v1 : Int32) : Nat → Int64 → Int32 → AH → Option (Int64 × AH)
  | 0, _, _, _ => none
  | n + 1, v2, v4, h => lt (fun (x6 : Bool) => if (f_X4_lastEnd a0 x6 h) < v4 then some (v2, h) else lt (fun (x10 : Int32) => bnd (f_X4_part_l56 a0 v1 v4 FU v2 x10 h) (fun q35 => f_X4_part_l19 a0 v1 n q35.1 (v4 + 1) q35.2)) (fun j9 => if v1 ≤ 2 then j9 (hfi h a0 0) else j9 (v4 + 1))) (fun j5 => if v1 ≤ 1 then j5 false else j5 true)
def f_X4_part (a0 : Nat) (v1 : Int32) (h : AH) : Option (Int64 × AH) := lt (fun (x3 : Int32) => bnd (f_X4_part_l19 a0 v1 FU (-1) x3 h) (fun q36 => some (q36.1, q36.2))) (fun j2 => if v1 ≤ 1 then j2 (hfi h a0 0) else j2 1)
set_option maxRecDepth 20000 in
theorem cl_X4_part_93 (G : GG) (K : KQ) (a0 : Nat) (v1 : Int32) (v4 : Int32) (v5 : Int32) (s0 : SH a0 = (4, 0)) : ∀ (n : Nat) (v2 : Int64) (v6 : Int32) (h : AH) (r : Int64 × AH), f_X4_part_l93 a0 v1 v4 v5 n v2 v6 h = some r → J G mX4_part 2 0 0 K 192 [(0, .ref (ad G a0)), (1, .int v1), (2, .long r.1), (4, .int v4), (5, .int v5)] [] r.2 → J G mX4_part 2 0 0 K 93 [(0, .ref (ad G a0)), (1, .int v1), (2, .long v2), (4, .int v4), (5, .int v5), (6, .int v6)] [] h := by
  intro n
  induction n with
  | zero => intro v2 v6 h r hL; cases hL
  | succ n ih =>
    intro v2 v6 h r hL kE
    unfold f_X4_part_l93 at hL
    refine j_iload 5 dX4_part_93 rfl ?_
    refine j_aload_n 0 dX4_part_95 rfl ?_
    refine j_iload_n 1 dX4_part_96 rfl ?_
    refine j_iconst 3 dX4_part_97 (by decide) ?_
    obtain ⟨j19, ej19, hL⟩ := lt_ex hL
    have kj19 : ∀ (x20 : Bool), j19 x20 = some r → J G mX4_part 2 0 0 K 106 [(0, .ref (ad G a0)), (1, .int v1), (2, .long v2), (4, .int v4), (5, .int v5), (6, .int v6)] [.int (bI x20), .ref (ad G a0), .int v6] h := by
      intro x20 hL
      rw [ej19] at hL
      replace hL : (if (f_X4_lastEnd a0 x20 h) < v6 then some (v2, h) else bnd (f_X4_spread a0 0 v4 h) (fun q22 => bnd (f_X4_spread a0 v4 v5 h) (fun q23 => bnd (f_X4_spread a0 v5 v6 h) (fun q24 => bnd (f_X4_spread a0 v6 (hfi h a0 0) h) (fun q25 => if (lg_cmp v2 (-1)) = 0 then lt (sfi h a0 3 v4) (fun h27 => lt (sfi h27 a0 4 v5) (fun h28 => lt (sfi h28 a0 5 v6) (fun h29 => f_X4_part_l93 a0 v1 v4 v5 n (((q22 + q23) + q24) + q25) (v6 + 1) h29))) else if 0 ≤ (lg_cmp (((q22 + q23) + q24) + q25) v2) then f_X4_part_l93 a0 v1 v4 v5 n v2 (v6 + 1) h else lt (sfi h a0 3 v4) (fun h31 => lt (sfi h31 a0 4 v5) (fun h32 => lt (sfi h32 a0 5 v6) (fun h33 => f_X4_part_l93 a0 v1 v4 v5 n (((q22 + q23) + q24) + q25) (v6 + 1) h33)))))))) = some r := hL
      refine j_callVi (c_X4_lastEnd G a0 s0 x20 h) cv_RX4_36 rfl s0 (by decide) rfl (by decide) rfl rfl (Nat.le_of_ble_eq_true rfl) dX4_part_106 (by decide) ?_
      refine j_icmp_gt 192 dX4_part_109 (by decide) (fun z21 => ?_) (fun z21 => ?_)
      · replace hL := (if_pos z21).symm.trans hL
        cases hL
        refine j_sub [0, 1, 2, 3, 4] rfl ?_
        exact kE 
      · replace hL := (if_neg z21).symm.trans hL
        refine j_aload_n 0 dX4_part_112 rfl ?_
        refine j_iconst 0 dX4_part_113 (by decide) ?_
        refine j_iload 3 dX4_part_114 rfl ?_
        obtain ⟨q22, hq22, hL⟩ := bnd_ex hL
        refine j_callVl (c_X4_spread G a0 s0 0 v4 h _ hq22) cv_RX4_40 rfl s0 (by decide) rfl (by decide) rfl rfl (Nat.le_of_ble_eq_true rfl) dX4_part_116 (by decide) ?_
        refine j_aload_n 0 dX4_part_119 rfl ?_
        refine j_iload 3 dX4_part_120 rfl ?_
        refine j_iload 4 dX4_part_122 rfl ?_
        obtain ⟨q23, hq23, hL⟩ := bnd_ex hL
        refine j_callVl (c_X4_spread G a0 s0 v4 v5 h _ hq23) cv_RX4_40 rfl s0 (by decide) rfl (by decide) rfl rfl (Nat.le_of_ble_eq_true rfl) dX4_part_124 (by decide) ?_
        refine j_ladd dX4_part_127 ?_
        refine j_aload_n 0 dX4_part_128 rfl ?_
        refine j_iload 4 dX4_part_129 rfl ?_
        refine j_iload 5 dX4_part_131 rfl ?_
        obtain ⟨q24, hq24, hL⟩ := bnd_ex hL
        refine j_callVl (c_X4_spread G a0 s0 v5 v6 h _ hq24) cv_RX4_40 rfl s0 (by decide) rfl (by decide) rfl rfl (Nat.le_of_ble_eq_true rfl) dX4_part_133 (by decide) ?_
        refine j_ladd dX4_part_136 ?_
        refine j_aload_n 0 dX4_part_137 rfl ?_
        refine j_iload 5 dX4_part_138 rfl ?_
        refine j_aload_n 0 dX4_part_140 rfl ?_
        refine jg_RX4_18 rfl s0 dX4_part_141 ?_
        obtain ⟨q25, hq25, hL⟩ := bnd_ex hL
        refine j_callVl (c_X4_spread G a0 s0 v6 (hfi h a0 0) h _ hq25) cv_RX4_40 rfl s0 (by decide) rfl (by decide) rfl rfl (Nat.le_of_ble_eq_true rfl) dX4_part_144 (by decide) ?_
        refine j_ladd dX4_part_147 ?_
        refine j_lstore (lv' := [(7, .long (((q22 + q23) + q24) + q25)), (0, .ref (ad G a0)), (1, .int v1), (2, .long v2), (4, .int v4), (5, .int v5), (6, .int v6)]) dX4_part_148 (by decide) rfl ?_
        refine j_lload_n 3 dX4_part_150 rfl ?_
        refine j_ldc2 rfl kk_RX4_34 dX4_part_151 ?_
        refine j_lcmp dX4_part_154 ?_
        refine j_if_eq 165 dX4_part_155 (by decide) (fun z26 => ?_) (fun z26 => ?_)
        · replace hL := (if_pos z26).symm.trans hL
          refine j_lload 0 dX4_part_165 rfl ?_
          refine j_lstore_n (lv' := [(2, .long (((q22 + q23) + q24) + q25)), (7, .long (((q22 + q23) + q24) + q25)), (0, .ref (ad G a0)), (1, .int v1), (4, .int v4), (5, .int v5), (6, .int v6)]) dX4_part_167 (by decide) rfl ?_
          refine j_aload_n 2 dX4_part_168 rfl ?_
          refine j_iload 4 dX4_part_169 rfl ?_
          refine jp_RX4_44 rfl s0 dX4_part_171 ?_
          obtain ⟨h27, eh27, hL⟩ := lt_ex hL
          refine j_heap eh27 ?_
          refine j_aload_n 2 dX4_part_174 rfl ?_
          refine j_iload 5 dX4_part_175 rfl ?_
          refine jp_RX4_47 rfl s0 dX4_part_177 ?_
          obtain ⟨h28, eh28, hL⟩ := lt_ex hL
          refine j_heap eh28 ?_
          refine j_aload_n 2 dX4_part_180 rfl ?_
          refine j_iload 6 dX4_part_181 rfl ?_
          refine jp_RX4_50 rfl s0 dX4_part_183 ?_
          obtain ⟨h29, eh29, hL⟩ := lt_ex hL
          refine j_heap eh29 ?_
          refine j_iinc (lv' := [(6, .int (v6 + 1)), (2, .long (((q22 + q23) + q24) + q25)), (7, .long (((q22 + q23) + q24) + q25)), (0, .ref (ad G a0)), (1, .int v1), (4, .int v4), (5, .int v5)]) 6 dX4_part_186 rfl rfl (by decide) rfl ?_
          refine j_goto 93 dX4_part_189 (by decide) ?_
          refine j_sub [3, 4, 1, 5, 6, 0] rfl ?_
          exact ih (((q22 + q23) + q24) + q25) (v6 + 1) h29 r hL kE
        · replace hL := (if_neg z26).symm.trans hL
          refine j_lload 0 dX4_part_158 rfl ?_
          refine j_lload_n 3 dX4_part_160 rfl ?_
          refine j_lcmp dX4_part_161 ?_
          refine j_if_ge 186 dX4_part_162 (by decide) (fun z30 => ?_) (fun z30 => ?_)
          · replace hL := (if_pos z30).symm.trans hL
            refine j_iinc (lv' := [(6, .int (v6 + 1)), (7, .long (((q22 + q23) + q24) + q25)), (0, .ref (ad G a0)), (1, .int v1), (2, .long v2), (4, .int v4), (5, .int v5)]) 6 dX4_part_186 rfl rfl (by decide) rfl ?_
            refine j_goto 93 dX4_part_189 (by decide) ?_
            refine j_sub [2, 3, 4, 5, 6, 0] rfl ?_
            exact ih v2 (v6 + 1) h r hL kE
          · replace hL := (if_neg z30).symm.trans hL
            refine j_lload 0 dX4_part_165 rfl ?_
            refine j_lstore_n (lv' := [(2, .long (((q22 + q23) + q24) + q25)), (7, .long (((q22 + q23) + q24) + q25)), (0, .ref (ad G a0)), (1, .int v1), (4, .int v4), (5, .int v5), (6, .int v6)]) dX4_part_167 (by decide) rfl ?_
            refine j_aload_n 2 dX4_part_168 rfl ?_
            refine j_iload 4 dX4_part_169 rfl ?_
            refine jp_RX4_44 rfl s0 dX4_part_171 ?_
            obtain ⟨h31, eh31, hL⟩ := lt_ex hL
            refine j_heap eh31 ?_
            refine j_aload_n 2 dX4_part_174 rfl ?_
            refine j_iload 5 dX4_part_175 rfl ?_
            refine jp_RX4_47 rfl s0 dX4_part_177 ?_
            obtain ⟨h32, eh32, hL⟩ := lt_ex hL
            refine j_heap eh32 ?_
            refine j_aload_n 2 dX4_part_180 rfl ?_
            refine j_iload 6 dX4_part_181 rfl ?_
            refine jp_RX4_50 rfl s0 dX4_part_183 ?_
            obtain ⟨h33, eh33, hL⟩ := lt_ex hL
            refine j_heap eh33 ?_
            refine j_iinc (lv' := [(6, .int (v6 + 1)), (2, .long (((q22 + q23) + q24) + q25)), (7, .long (((q22 + q23) + q24) + q25)), (0, .ref (ad G a0)), (1, .int v1), (4, .int v4), (5, .int v5)]) 6 dX4_part_186 rfl rfl (by decide) rfl ?_
            refine j_goto 93 dX4_part_189 (by decide) ?_
            refine j_sub [3, 4, 1, 5, 6, 0] rfl ?_
            exact ih (((q22 + q23) + q24) + q25) (v6 + 1) h33 r hL kE
    refine j_icmp_le 105 dX4_part_98 (by decide) (fun z18 => ?_) (fun z18 => ?_)
    · replace hL := (if_pos z18).symm.trans hL
      refine j_iconst 0 dX4_part_105 (by decide) ?_
      refine j_sub [0, 1, 2, 3, 4, 5] rfl ?_
      exact kj19 false hL
    · replace hL := (if_neg z18).symm.trans hL
      refine j_iconst 1 dX4_part_101 (by decide) ?_
      refine j_goto 106 dX4_part_102 (by decide) ?_
      refine j_sub [0, 1, 2, 3, 4, 5] rfl ?_
      exact kj19 true hL

set_option maxRecDepth 20000 in
theorem cl_X4_part_56 (G : GG) (K : KQ) (a0 : Nat) (v1 : Int32) (v4 : Int32) (s0 : SH a0 = (4, 0)) : ∀ (n : Nat) (v2 : Int64) (v5 : Int32) (h : AH) (r : Int64 × AH), f_X4_part_l56 a0 v1 v4 n v2 v5 h = some r → J G mX4_part 2 0 0 K 198 [(0, .ref (ad G a0)), (1, .int v1), (2, .long r.1), (4, .int v4)] [] r.2 → J G mX4_part 2 0 0 K 56 [(0, .ref (ad G a0)), (1, .int v1), (2, .long v2), (4, .int v4), (5, .int v5)] [] h := by
  intro n
  induction n with
  | zero => intro v2 v5 h r hL; cases hL
  | succ n ih =>
    intro v2 v5 h r hL kE
    unfold f_X4_part_l56 at hL
    refine j_iload 4 dX4_part_56 rfl ?_
    refine j_aload_n 0 dX4_part_58 rfl ?_
    refine j_iload_n 1 dX4_part_59 rfl ?_
    refine j_iconst 2 dX4_part_60 (by decide) ?_
    obtain ⟨j12, ej12, hL⟩ := lt_ex hL
    have kj12 : ∀ (x13 : Bool), j12 x13 = some r → J G mX4_part 2 0 0 K 69 [(0, .ref (ad G a0)), (1, .int v1), (2, .long v2), (4, .int v4), (5, .int v5)] [.int (bI x13), .ref (ad G a0), .int v5] h := by
      intro x13 hL
      rw [ej12] at hL
      replace hL : (if (f_X4_lastEnd a0 x13 h) < v5 then some (v2, h) else lt (fun (x17 : Int32) => bnd (f_X4_part_l93 a0 v1 v4 v5 FU v2 x17 h) (fun q34 => f_X4_part_l56 a0 v1 v4 n q34.1 (v5 + 1) q34.2)) (fun j16 => if v1 ≤ 3 then j16 (hfi h a0 0) else j16 (v5 + 1))) = some r := hL
      refine j_callVi (c_X4_lastEnd G a0 s0 x13 h) cv_RX4_36 rfl s0 (by decide) rfl (by decide) rfl rfl (Nat.le_of_ble_eq_true rfl) dX4_part_69 (by decide) ?_
      refine j_icmp_gt 198 dX4_part_72 (by decide) (fun z14 => ?_) (fun z14 => ?_)
      · replace hL := (if_pos z14).symm.trans hL
        cases hL
        refine j_sub [0, 1, 2, 3] rfl ?_
        exact kE 
      · replace hL := (if_neg z14).symm.trans hL
        refine j_iload_n 1 dX4_part_75 rfl ?_
        refine j_iconst 3 dX4_part_76 (by decide) ?_
        obtain ⟨j16, ej16, hL⟩ := lt_ex hL
        have kj16 : ∀ (x17 : Int32), j16 x17 = some r → J G mX4_part 2 0 0 K 91 [(0, .ref (ad G a0)), (1, .int v1), (2, .long v2), (4, .int v4), (5, .int v5)] [.int x17] h := by
          intro x17 hL
          rw [ej16] at hL
          replace hL : (bnd (f_X4_part_l93 a0 v1 v4 v5 FU v2 x17 h) (fun q34 => f_X4_part_l56 a0 v1 v4 n q34.1 (v5 + 1) q34.2)) = some r := hL
          refine j_istore (lv' := [(6, .int x17), (0, .ref (ad G a0)), (1, .int v1), (2, .long v2), (4, .int v4), (5, .int v5)]) dX4_part_91 (by decide) rfl ?_
          obtain ⟨q34, hq34, hL⟩ := bnd_ex hL
          refine j_sub [1, 2, 3, 4, 5, 0] rfl ?_
          refine cl_X4_part_93 G K a0 v1 v4 v5 s0 FU v2 x17 h q34 hq34 ?_
          refine j_iinc (lv' := [(5, .int (v5 + 1)), (0, .ref (ad G a0)), (1, .int v1), (2, .long q34.1), (4, .int v4)]) 4 dX4_part_192 rfl rfl (by decide) rfl ?_
          refine j_goto 56 dX4_part_195 (by decide) ?_
          refine j_sub [1, 2, 3, 4, 0] rfl ?_
          exact ih q34.1 (v5 + 1) q34.2 r hL kE
        refine j_icmp_le 87 dX4_part_77 (by decide) (fun z15 => ?_) (fun z15 => ?_)
        · replace hL := (if_pos z15).symm.trans hL
          refine j_aload_n 0 dX4_part_87 rfl ?_
          refine jg_RX4_18 rfl s0 dX4_part_88 ?_
          refine j_sub [0, 1, 2, 3, 4] rfl ?_
          exact kj16 (hfi h a0 0) hL
        · replace hL := (if_neg z15).symm.trans hL
          refine j_iload 4 dX4_part_80 rfl ?_
          refine j_iconst 1 dX4_part_82 (by decide) ?_
          refine j_iadd dX4_part_83 ?_
          refine j_goto 91 dX4_part_84 (by decide) ?_
          refine j_sub [0, 1, 2, 3, 4] rfl ?_
          exact kj16 (v5 + 1) hL
    refine j_icmp_le 68 dX4_part_61 (by decide) (fun z11 => ?_) (fun z11 => ?_)
    · replace hL := (if_pos z11).symm.trans hL
      refine j_iconst 0 dX4_part_68 (by decide) ?_
      refine j_sub [0, 1, 2, 3, 4] rfl ?_
      exact kj12 false hL
    · replace hL := (if_neg z11).symm.trans hL
      refine j_iconst 1 dX4_part_64 (by decide) ?_
      refine j_goto 69 dX4_part_65 (by decide) ?_
      refine j_sub [0, 1, 2, 3, 4] rfl ?_
      exact kj12 true hL

set_option maxRecDepth 20000 in
theorem cl_X4_part_19 (G : GG) (K : KQ) (a0 : Nat) (v1 : Int32) (s0 : SH a0 = (4, 0)) : ∀ (n : Nat) (v2 : Int64) (v4 : Int32) (h : AH) (r : Int64 × AH), f_X4_part_l19 a0 v1 n v2 v4 h = some r → J G mX4_part 2 0 0 K 204 [(2, .long r.1)] [] r.2 → J G mX4_part 2 0 0 K 19 [(0, .ref (ad G a0)), (1, .int v1), (2, .long v2), (4, .int v4)] [] h := by
  intro n
  induction n with
  | zero => intro v2 v4 h r hL; cases hL
  | succ n ih =>
    intro v2 v4 h r hL kE
    unfold f_X4_part_l19 at hL
    refine j_iload 3 dX4_part_19 rfl ?_
    refine j_aload_n 0 dX4_part_21 rfl ?_
    refine j_iload_n 1 dX4_part_22 rfl ?_
    refine j_iconst 1 dX4_part_23 (by decide) ?_
    obtain ⟨j5, ej5, hL⟩ := lt_ex hL
    have kj5 : ∀ (x6 : Bool), j5 x6 = some r → J G mX4_part 2 0 0 K 32 [(0, .ref (ad G a0)), (1, .int v1), (2, .long v2), (4, .int v4)] [.int (bI x6), .ref (ad G a0), .int v4] h := by
      intro x6 hL
      rw [ej5] at hL
      replace hL : (if (f_X4_lastEnd a0 x6 h) < v4 then some (v2, h) else lt (fun (x10 : Int32) => bnd (f_X4_part_l56 a0 v1 v4 FU v2 x10 h) (fun q35 => f_X4_part_l19 a0 v1 n q35.1 (v4 + 1) q35.2)) (fun j9 => if v1 ≤ 2 then j9 (hfi h a0 0) else j9 (v4 + 1))) = some r := hL
      refine j_callVi (c_X4_lastEnd G a0 s0 x6 h) cv_RX4_36 rfl s0 (by decide) rfl (by decide) rfl rfl (Nat.le_of_ble_eq_true rfl) dX4_part_32 (by decide) ?_
      refine j_icmp_gt 204 dX4_part_35 (by decide) (fun z7 => ?_) (fun z7 => ?_)
      · replace hL := (if_pos z7).symm.trans hL
        cases hL
        refine j_sub [2] rfl ?_
        exact kE 
      · replace hL := (if_neg z7).symm.trans hL
        refine j_iload_n 1 dX4_part_38 rfl ?_
        refine j_iconst 2 dX4_part_39 (by decide) ?_
        obtain ⟨j9, ej9, hL⟩ := lt_ex hL
        have kj9 : ∀ (x10 : Int32), j9 x10 = some r → J G mX4_part 2 0 0 K 54 [(0, .ref (ad G a0)), (1, .int v1), (2, .long v2), (4, .int v4)] [.int x10] h := by
          intro x10 hL
          rw [ej9] at hL
          replace hL : (bnd (f_X4_part_l56 a0 v1 v4 FU v2 x10 h) (fun q35 => f_X4_part_l19 a0 v1 n q35.1 (v4 + 1) q35.2)) = some r := hL
          refine j_istore (lv' := [(5, .int x10), (0, .ref (ad G a0)), (1, .int v1), (2, .long v2), (4, .int v4)]) dX4_part_54 (by decide) rfl ?_
          obtain ⟨q35, hq35, hL⟩ := bnd_ex hL
          refine j_sub [1, 2, 3, 4, 0] rfl ?_
          refine cl_X4_part_56 G K a0 v1 v4 s0 FU v2 x10 h q35 hq35 ?_
          refine j_iinc (lv' := [(4, .int (v4 + 1)), (0, .ref (ad G a0)), (1, .int v1), (2, .long q35.1)]) 3 dX4_part_198 rfl rfl (by decide) rfl ?_
          refine j_goto 19 dX4_part_201 (by decide) ?_
          refine j_sub [1, 2, 3, 0] rfl ?_
          exact ih q35.1 (v4 + 1) q35.2 r hL kE
        refine j_icmp_le 50 dX4_part_40 (by decide) (fun z8 => ?_) (fun z8 => ?_)
        · replace hL := (if_pos z8).symm.trans hL
          refine j_aload_n 0 dX4_part_50 rfl ?_
          refine jg_RX4_18 rfl s0 dX4_part_51 ?_
          refine j_sub [0, 1, 2, 3] rfl ?_
          exact kj9 (hfi h a0 0) hL
        · replace hL := (if_neg z8).symm.trans hL
          refine j_iload 3 dX4_part_43 rfl ?_
          refine j_iconst 1 dX4_part_45 (by decide) ?_
          refine j_iadd dX4_part_46 ?_
          refine j_goto 54 dX4_part_47 (by decide) ?_
          refine j_sub [0, 1, 2, 3] rfl ?_
          exact kj9 (v4 + 1) hL
    refine j_icmp_le 31 dX4_part_24 (by decide) (fun z4 => ?_) (fun z4 => ?_)
    · replace hL := (if_pos z4).symm.trans hL
      refine j_iconst 0 dX4_part_31 (by decide) ?_
      refine j_sub [0, 1, 2, 3] rfl ?_
      exact kj5 false hL
    · replace hL := (if_neg z4).symm.trans hL
      refine j_iconst 1 dX4_part_27 (by decide) ?_
      refine j_goto 32 dX4_part_28 (by decide) ?_
      refine j_sub [0, 1, 2, 3] rfl ?_
      exact kj5 true hL

set_option maxRecDepth 20000 in
theorem c_X4_part (G : GG) (a0 : Nat) (s0 : SH a0 = (4, 0)) (v1 : Int32) (h : AH) (r : Int64 × AH) (hL : f_X4_part a0 v1 h = some r) : SpL G 2 mX4_part [.ref (ad G a0), .int v1] h r.1 r.2 := by
  refine sp_l pf_X4_part (Nat.le_of_ble_eq_true rfl) ?_
  show J G mX4_part 2 0 0 (KMl G r.1 r.2) 0 [(0, .ref (ad G a0)), (1, .int v1)] [] h
  obtain ⟨K, hK⟩ : ∃ K, K = KMl G r.1 r.2 := ⟨_, rfl⟩
  rw [← hK]
  unfold f_X4_part at hL
  refine j_ldc2 rfl kk_RX4_34 dX4_part_0 ?_
  refine j_lstore_n (lv' := [(2, .long (-1)), (0, .ref (ad G a0)), (1, .int v1)]) dX4_part_3 (by decide) rfl ?_
  refine j_iload_n 2 dX4_part_4 rfl ?_
  refine j_iconst 1 dX4_part_5 (by decide) ?_
  obtain ⟨j2, ej2, hL⟩ := lt_ex hL
  have kj2 : ∀ (x3 : Int32), j2 x3 = some r → J G mX4_part 2 0 0 K 17 [(0, .ref (ad G a0)), (1, .int v1), (2, .long (-1))] [.int x3] h := by
    intro x3 hL
    rw [ej2] at hL
    replace hL : (bnd (f_X4_part_l19 a0 v1 FU (-1) x3 h) (fun q36 => some (q36.1, q36.2))) = some r := hL
    refine j_istore (lv' := [(4, .int x3), (0, .ref (ad G a0)), (1, .int v1), (2, .long (-1))]) dX4_part_17 (by decide) rfl ?_
    obtain ⟨q36, hq36, hL⟩ := bnd_ex hL
    refine j_sub [1, 2, 3, 0] rfl ?_
    refine cl_X4_part_19 G K a0 v1 s0 FU (-1) x3 h q36 hq36 ?_
    refine j_lload_n 0 dX4_part_204 rfl ?_
    cases hL
    exact j_retl dX4_part_205 rfl hK
  refine j_icmp_le 13 dX4_part_6 (by decide) (fun z1 => ?_) (fun z1 => ?_)
  · replace hL := (if_pos z1).symm.trans hL
    refine j_aload_n 1 dX4_part_13 rfl ?_
    refine jg_RX4_18 rfl s0 dX4_part_14 ?_
    refine j_sub [1, 2, 0] rfl ?_
    exact kj2 (hfi h a0 0) hL
  · replace hL := (if_neg z1).symm.trans hL
    refine j_iconst 1 dX4_part_9 (by decide) ?_
    refine j_goto 17 dX4_part_10 (by decide) ?_
    refine j_sub [1, 2, 0] rfl ?_
    exact kj2 1 hL

def f_X4_groupOf_l2 (a0 : Nat) (v1 : Int32) (h : AH) : Nat → Int32 → Option (Int32)
  | 0, _ => none
  | n + 1, v2 => if ((hfi h a0 0) - 1) ≤ v2 then some v2 else gd (ib v2 12 = true) (if (hia h (a0 + 1) (cl v2)) = v1 then some v2 else f_X4_groupOf_l2 a0 v1 h n (v2 + 1))
def f_X4_groupOf (a0 : Nat) (v1 : Int32) (h : AH) : Option (Int32) := bnd (f_X4_groupOf_l2 a0 v1 h FU 0) (fun q4 => lt (fun (x7 : Bool) => lt (fun (x10 : Bool) => if q4 < (hfi h a0 5) then some (((bI x7) + (bI x10)) + 0) else some (((bI x7) + (bI x10)) + 1)) (fun j9 => if q4 < (hfi h a0 4) then j9 false else j9 true)) (fun j6 => if q4 < (hfi h a0 3) then j6 false else j6 true))
set_option maxRecDepth 20000 in
theorem cl_X4_groupOf_2 (G : GG) (K : KQ) (a0 : Nat) (v1 : Int32) (s0 : SH a0 = (4, 0)) : ∀ (n : Nat) (v2 : Int32) (h : AH) (r : Int32), f_X4_groupOf_l2 a0 v1 h n v2 = some r → J G mX4_groupOf 1 0 0 K 28 [(0, .ref (ad G a0)), (2, .int r)] [] h → J G mX4_groupOf 1 0 0 K 2 [(0, .ref (ad G a0)), (1, .int v1), (2, .int v2)] [] h := by
  intro n
  induction n with
  | zero => intro v2 h r hL; cases hL
  | succ n ih =>
    intro v2 h r hL kE
    unfold f_X4_groupOf_l2 at hL
    refine j_iload_n 2 dX4_groupOf_2 rfl ?_
    refine j_aload_n 0 dX4_groupOf_3 rfl ?_
    refine jg_RX4_18 rfl s0 dX4_groupOf_4 ?_
    refine j_iconst 1 dX4_groupOf_7 (by decide) ?_
    refine j_isub dX4_groupOf_8 ?_
    refine j_icmp_ge 28 dX4_groupOf_9 (by decide) (fun z1 => ?_) (fun z1 => ?_)
    · replace hL := (if_pos z1).symm.trans hL
      cases hL
      refine j_sub [0, 2] rfl ?_
      exact kE 
    · replace hL := (if_neg z1).symm.trans hL
      refine j_aload_n 0 dX4_groupOf_12 rfl ?_
      refine jg_RX4_9 rfl s0 dX4_groupOf_13 ?_
      refine j_iload_n 2 dX4_groupOf_16 rfl ?_
      obtain ⟨g2, hL⟩ := gd_ex hL
      refine j_iald (shf_4_1 s0) (ib_in g2) dX4_groupOf_17 ?_
      refine j_iload_n 1 dX4_groupOf_18 rfl ?_
      refine j_icmp_eq 28 dX4_groupOf_19 (by decide) (fun z3 => ?_) (fun z3 => ?_)
      · replace hL := (if_pos z3).symm.trans hL
        cases hL
        refine j_sub [0, 2] rfl ?_
        exact kE 
      · replace hL := (if_neg z3).symm.trans hL
        refine j_iinc (lv' := [(2, .int (v2 + 1)), (0, .ref (ad G a0)), (1, .int v1)]) 2 dX4_groupOf_22 rfl rfl (by decide) rfl ?_
        refine j_goto 2 dX4_groupOf_25 (by decide) ?_
        refine j_sub [1, 2, 0] rfl ?_
        exact ih (v2 + 1) h r hL kE

set_option maxRecDepth 20000 in
theorem c_X4_groupOf (G : GG) (a0 : Nat) (s0 : SH a0 = (4, 0)) (v1 : Int32) (h : AH) (r : Int32) (hL : f_X4_groupOf a0 v1 h = some r) : SpI G 1 mX4_groupOf [.ref (ad G a0), .int v1] h r h := by
  refine sp_i pf_X4_groupOf (Nat.le_of_ble_eq_true rfl) ?_
  show J G mX4_groupOf 1 0 0 (KMi G r h) 0 [(0, .ref (ad G a0)), (1, .int v1)] [] h
  obtain ⟨K, hK⟩ : ∃ K, K = KMi G r h := ⟨_, rfl⟩
  rw [← hK]
  unfold f_X4_groupOf at hL
  refine j_iconst 0 dX4_groupOf_0 (by decide) ?_
  refine j_istore_n (lv' := [(2, .int 0), (0, .ref (ad G a0)), (1, .int v1)]) dX4_groupOf_1 (by decide) rfl ?_
  obtain ⟨q4, hq4, hL⟩ := bnd_ex hL
  refine j_sub [1, 2, 0] rfl ?_
  refine cl_X4_groupOf_2 G K a0 v1 s0 FU 0 h q4 hq4 ?_
  refine j_iload_n 1 dX4_groupOf_28 rfl ?_
  refine j_aload_n 0 dX4_groupOf_29 rfl ?_
  refine jg_RX4_44 rfl s0 dX4_groupOf_30 ?_
  obtain ⟨j6, ej6, hL⟩ := lt_ex hL
  have kj6 : ∀ (x7 : Bool), j6 x7 = some r → J G mX4_groupOf 1 0 0 K 41 [(0, .ref (ad G a0)), (2, .int q4)] [.int (bI x7)] h := by
    intro x7 hL
    rw [ej6] at hL
    replace hL : (lt (fun (x10 : Bool) => if q4 < (hfi h a0 5) then some (((bI x7) + (bI x10)) + 0) else some (((bI x7) + (bI x10)) + 1)) (fun j9 => if q4 < (hfi h a0 4) then j9 false else j9 true)) = some r := hL
    refine j_iload_n 1 dX4_groupOf_41 rfl ?_
    refine j_aload_n 0 dX4_groupOf_42 rfl ?_
    refine jg_RX4_47 rfl s0 dX4_groupOf_43 ?_
    obtain ⟨j9, ej9, hL⟩ := lt_ex hL
    have kj9 : ∀ (x10 : Bool), j9 x10 = some r → J G mX4_groupOf 1 0 0 K 54 [(0, .ref (ad G a0)), (2, .int q4)] [.int (bI x10), .int (bI x7)] h := by
      intro x10 hL
      rw [ej9] at hL
      replace hL : (if q4 < (hfi h a0 5) then some (((bI x7) + (bI x10)) + 0) else some (((bI x7) + (bI x10)) + 1)) = some r := hL
      refine j_iadd dX4_groupOf_54 ?_
      refine j_iload_n 1 dX4_groupOf_55 rfl ?_
      refine j_aload_n 0 dX4_groupOf_56 rfl ?_
      refine jg_RX4_50 rfl s0 dX4_groupOf_57 ?_
      refine j_icmp_lt 67 dX4_groupOf_60 (by decide) (fun z11 => ?_) (fun z11 => ?_)
      · replace hL := (if_pos z11).symm.trans hL
        refine j_iconst 0 dX4_groupOf_67 (by decide) ?_
        refine j_iadd dX4_groupOf_68 ?_
        cases hL
        exact j_reti dX4_groupOf_69 rfl hK
      · replace hL := (if_neg z11).symm.trans hL
        refine j_iconst 1 dX4_groupOf_63 (by decide) ?_
        refine j_goto 68 dX4_groupOf_64 (by decide) ?_
        refine j_iadd dX4_groupOf_68 ?_
        cases hL
        exact j_reti dX4_groupOf_69 rfl hK
    refine j_icmp_lt 53 dX4_groupOf_46 (by decide) (fun z8 => ?_) (fun z8 => ?_)
    · replace hL := (if_pos z8).symm.trans hL
      refine j_iconst 0 dX4_groupOf_53 (by decide) ?_
      refine j_sub [0, 1] rfl ?_
      exact kj9 false hL
    · replace hL := (if_neg z8).symm.trans hL
      refine j_iconst 1 dX4_groupOf_49 (by decide) ?_
      refine j_goto 54 dX4_groupOf_50 (by decide) ?_
      refine j_sub [0, 1] rfl ?_
      exact kj9 true hL
  refine j_icmp_lt 40 dX4_groupOf_33 (by decide) (fun z5 => ?_) (fun z5 => ?_)
  · replace hL := (if_pos z5).symm.trans hL
    refine j_iconst 0 dX4_groupOf_40 (by decide) ?_
    refine j_sub [0, 1] rfl ?_
    exact kj6 false hL
  · replace hL := (if_neg z5).symm.trans hL
    refine j_iconst 1 dX4_groupOf_36 (by decide) ?_
    refine j_goto 41 dX4_groupOf_37 (by decide) ?_
    refine j_sub [0, 1] rfl ?_
    exact kj6 true hL

def f_X2_differing_l6 (a0 : Nat) (a1 : Nat) (v2 : Int32) (v3 : Int32) (v4 : Int32) (v5 : Int32) (n1 : Nat) (h : AH) : Nat → Int32 → Int32 → Option (Int32)
  | 0, _, _ => none
  | n + 1, v6, v7 => if v2 ≤ v7 then some v6 else if v5 ≤ v6 then some v6 else gd (ib v7 40 = true) (gd (ib v7 40 = true) (gd (ib v7 n1 = true) (f_X2_differing_l6 a0 a1 v2 v3 v4 v5 n1 h n (v6 + (f_J9_abs_0f7a4 (((v3 * (hia h (a0 + 1) (cl v7))) + (v4 * (hia h (a0 + 2) (cl v7)))) - (hia h a1 (cl v7))))) (v7 + 1))))
def f_X2_differing (a0 : Nat) (a1 n1 : Nat) (v2 : Int32) (v3 : Int32) (v4 : Int32) (v5 : Int32) (h : AH) : Option (Int32) := bnd (f_X2_differing_l6 a0 a1 v2 v3 v4 v5 n1 h FU 0 0) (fun q6 => some q6)
set_option maxRecDepth 20000 in
theorem cl_X2_differing_6 (G : GG) (K : KQ) (a0 : Nat) (a1 : Nat) (v2 : Int32) (v3 : Int32) (v4 : Int32) (v5 : Int32) {n1 : Nat} (s0 : SH a0 = (2, 0)) (s1 : SH a1 = (20, n1)) : ∀ (n : Nat) (v6 : Int32) (v7 : Int32) (h : AH) (r : Int32), f_X2_differing_l6 a0 a1 v2 v3 v4 v5 n1 h n v6 v7 = some r → J G mX2_differing 2 0 0 K 58 [(6, .int r)] [] h → J G mX2_differing 2 0 0 K 6 [(0, .ref (ad G a0)), (1, .ref (ad G a1)), (2, .int v2), (3, .int v3), (4, .int v4), (5, .int v5), (6, .int v6), (7, .int v7)] [] h := by
  intro n
  induction n with
  | zero => intro v6 v7 h r hL; cases hL
  | succ n ih =>
    intro v6 v7 h r hL kE
    unfold f_X2_differing_l6 at hL
    refine j_iload 7 dX2_differing_6 rfl ?_
    refine j_iload_n 2 dX2_differing_8 rfl ?_
    refine j_icmp_ge 58 dX2_differing_9 (by decide) (fun z1 => ?_) (fun z1 => ?_)
    · replace hL := (if_pos z1).symm.trans hL
      cases hL
      refine j_sub [6] rfl ?_
      exact kE 
    · replace hL := (if_neg z1).symm.trans hL
      refine j_iload 6 dX2_differing_12 rfl ?_
      refine j_iload 5 dX2_differing_14 rfl ?_
      refine j_icmp_ge 58 dX2_differing_16 (by decide) (fun z2 => ?_) (fun z2 => ?_)
      · replace hL := (if_pos z2).symm.trans hL
        cases hL
        refine j_sub [6] rfl ?_
        exact kE 
      · replace hL := (if_neg z2).symm.trans hL
        refine j_iload 6 dX2_differing_19 rfl ?_
        refine j_iload_n 3 dX2_differing_21 rfl ?_
        refine j_aload_n 0 dX2_differing_22 rfl ?_
        refine jg_RX2_9 rfl s0 dX2_differing_23 ?_
        refine j_iload 7 dX2_differing_26 rfl ?_
        obtain ⟨g3, hL⟩ := gd_ex hL
        refine j_iald (shf_2_3 s0) (ib_in g3) dX2_differing_28 ?_
        refine j_imul dX2_differing_29 ?_
        refine j_iload 4 dX2_differing_30 rfl ?_
        refine j_aload_n 0 dX2_differing_32 rfl ?_
        refine jg_RX2_15 rfl s0 dX2_differing_33 ?_
        refine j_iload 7 dX2_differing_36 rfl ?_
        obtain ⟨g4, hL⟩ := gd_ex hL
        refine j_iald (shf_2_4 s0) (ib_in g4) dX2_differing_38 ?_
        refine j_imul dX2_differing_39 ?_
        refine j_iadd dX2_differing_40 ?_
        refine j_aload_n 1 dX2_differing_41 rfl ?_
        refine j_iload 7 dX2_differing_42 rfl ?_
        obtain ⟨g5, hL⟩ := gd_ex hL
        refine j_iald s1 (ib_in g5) dX2_differing_44 ?_
        refine j_isub dX2_differing_45 ?_
        refine j_callSi (c_J9_abs_0f7a4 G (((v3 * (hia h (a0 + 1) (cl v7))) + (v4 * (hia h (a0 + 2) (cl v7)))) - (hia h a1 (cl v7))) h) cv_RX2_53 rfl (by decide) rfl rfl (Nat.le_of_ble_eq_true rfl) dX2_differing_46 (by decide) ?_
        refine j_iadd dX2_differing_49 ?_
        refine j_istore (lv' := [(6, .int (v6 + (f_J9_abs_0f7a4 (((v3 * (hia h (a0 + 1) (cl v7))) + (v4 * (hia h (a0 + 2) (cl v7)))) - (hia h a1 (cl v7)))))), (0, .ref (ad G a0)), (1, .ref (ad G a1)), (2, .int v2), (3, .int v3), (4, .int v4), (5, .int v5), (7, .int v7)]) dX2_differing_50 (by decide) rfl ?_
        refine j_iinc (lv' := [(7, .int (v7 + 1)), (6, .int (v6 + (f_J9_abs_0f7a4 (((v3 * (hia h (a0 + 1) (cl v7))) + (v4 * (hia h (a0 + 2) (cl v7)))) - (hia h a1 (cl v7)))))), (0, .ref (ad G a0)), (1, .ref (ad G a1)), (2, .int v2), (3, .int v3), (4, .int v4), (5, .int v5)]) 7 dX2_differing_52 rfl rfl (by decide) rfl ?_
        refine j_goto 6 dX2_differing_55 (by decide) ?_
        refine j_sub [2, 3, 4, 5, 6, 7, 1, 0] rfl ?_
        exact ih (v6 + (f_J9_abs_0f7a4 (((v3 * (hia h (a0 + 1) (cl v7))) + (v4 * (hia h (a0 + 2) (cl v7)))) - (hia h a1 (cl v7))))) (v7 + 1) h r hL kE

set_option maxRecDepth 20000 in
theorem c_X2_differing (G : GG) (a0 : Nat) (s0 : SH a0 = (2, 0)) (a1 n1 : Nat) (s1 : SH a1 = (20, n1)) (v2 : Int32) (v3 : Int32) (v4 : Int32) (v5 : Int32) (h : AH) (r : Int32) (hL : f_X2_differing a0 a1 n1 v2 v3 v4 v5 h = some r) : SpI G 2 mX2_differing [.ref (ad G a0), .ref (ad G a1), .int v2, .int v3, .int v4, .int v5] h r h := by
  refine sp_i pf_X2_differing (Nat.le_of_ble_eq_true rfl) ?_
  show J G mX2_differing 2 0 0 (KMi G r h) 0 [(0, .ref (ad G a0)), (1, .ref (ad G a1)), (2, .int v2), (3, .int v3), (4, .int v4), (5, .int v5)] [] h
  obtain ⟨K, hK⟩ : ∃ K, K = KMi G r h := ⟨_, rfl⟩
  rw [← hK]
  unfold f_X2_differing at hL
  refine j_iconst 0 dX2_differing_0 (by decide) ?_
  refine j_istore (lv' := [(6, .int 0), (0, .ref (ad G a0)), (1, .ref (ad G a1)), (2, .int v2), (3, .int v3), (4, .int v4), (5, .int v5)]) dX2_differing_1 (by decide) rfl ?_
  refine j_iconst 0 dX2_differing_3 (by decide) ?_
  refine j_istore (lv' := [(7, .int 0), (6, .int 0), (0, .ref (ad G a0)), (1, .ref (ad G a1)), (2, .int v2), (3, .int v3), (4, .int v4), (5, .int v5)]) dX2_differing_4 (by decide) rfl ?_
  obtain ⟨q6, hq6, hL⟩ := bnd_ex hL
  refine j_sub [2, 3, 4, 5, 6, 7, 1, 0] rfl ?_
  refine cl_X2_differing_6 G K a0 a1 v2 v3 v4 v5 s0 s1 FU 0 0 h q6 hq6 ?_
  refine j_iload 0 dX2_differing_58 rfl ?_
  cases hL
  exact j_reti dX2_differing_60 rfl hK

def f_X2_search_l3 (a0 : Nat) (a1 : Nat) (a3 : Nat) (a4 : Nat) : Nat → Int32 → AH → Option (AH)
  | 0, _, _ => none
  | n + 1, v5, h => if (hfi h a1 0) ≤ v5 then some h else gd (ib v5 40 = true) (gd (ib v5 40 = true) (bnd (f_X10_yearly a3 (hia h (a1 + 1) (cl v5)) (hia h (a1 + 3) (cl v5)) h) (fun q4 => gd (ib v5 40 = true) (lt (sia h (a0 + 1) (cl v5) (2 * q4)) (fun h6 => gd (ib v5 40 = true) (gd (ib v5 40 = true) (bnd (f_X10_yearly a4 (hia h6 (a1 + 1) (cl v5)) (hia h6 (a1 + 3) (cl v5)) h6) (fun q9 => gd (ib v5 40 = true) (lt (sia h6 (a0 + 2) (cl v5) (2 * q9)) (fun h11 => f_X2_search_l3 a0 a1 a3 a4 n (v5 + 1) h11))))))))))
def f_X2_search_l112 (a0 : Nat) (a1 : Nat) (a2 : Nat) (v5 : Int32) (v7 : Int32) (n2 : Nat) : Nat → Int32 → Int32 → AH → Option (Int32 × AH)
  | 0, _, _, _ => none
  | n + 1, v6, v8, h => if v5 < v8 then some (v6, h) else bnd (f_X2_differing a0 a2 n2 (hfi h a1 0) v7 v8 v6 h) (fun q15 => if v6 ≤ q15 then f_X2_search_l112 a0 a1 a2 v5 v7 n2 n v6 (v8 + 1) h else lt (sfi h a0 1 v7) (fun h17 => lt (sfi h17 a0 2 v8) (fun h18 => f_X2_search_l112 a0 a1 a2 v5 v7 n2 n q15 (v8 + 1) h18)))
def f_X2_search_l102 (a0 : Nat) (a1 : Nat) (a2 : Nat) (v5 : Int32) (n2 : Nat) : Nat → Int32 → Int32 → AH → Option (Int32 × AH)
  | 0, _, _, _ => none
  | n + 1, v6, v7, h => if 60 < v7 then some (v6, h) else bnd (f_X2_search_l112 a0 a1 a2 v5 v7 n2 FU v6 0 h) (fun q19 => f_X2_search_l102 a0 a1 a2 v5 n2 n q19.1 (v7 + 1) q19.2)
def f_X2_search (a0 : Nat) (a1 : Nat) (a2 n2 : Nat) (a3 : Nat) (a4 : Nat) (h : AH) : Option (Int32 × AH) := bnd (f_X2_search_l3 a0 a1 a3 a4 FU 0 h) (fun q12 => bnd (f_X2_search_l102 a0 a1 a2 60 n2 FU 2147483647 0 q12) (fun q20 => lt (sfi q20.2 a0 0 1) (fun h21 => some (q20.1, h21))))
set_option maxRecDepth 20000 in
theorem cl_X2_search_3 (G : GG) (K : KQ) (a0 : Nat) (a1 : Nat) (a2 : Nat) (a3 : Nat) (a4 : Nat) {n2 : Nat} (s0 : SH a0 = (2, 0)) (s1 : SH a1 = (0, 0)) (s2 : SH a2 = (20, n2)) (s3 : SH a3 = (10, 0)) (s4 : SH a4 = (10, 0)) : ∀ (n : Nat) (v5 : Int32) (h : AH) (r : AH), f_X2_search_l3 a0 a1 a3 a4 n v5 h = some r → J G mX2_search 3 0 0 K 82 [(0, .ref (ad G a0)), (1, .ref (ad G a1)), (2, .ref (ad G a2)), (4, .ref (ad G a4))] [] r → J G mX2_search 3 0 0 K 3 [(0, .ref (ad G a0)), (1, .ref (ad G a1)), (2, .ref (ad G a2)), (3, .ref (ad G a3)), (4, .ref (ad G a4)), (5, .int v5)] [] h := by
  intro n
  induction n with
  | zero => intro v5 h r hL; cases hL
  | succ n ih =>
    intro v5 h r hL kE
    unfold f_X2_search_l3 at hL
    refine j_iload 5 dX2_search_3 rfl ?_
    refine j_aload_n 1 dX2_search_5 rfl ?_
    refine jg_RX2_18 rfl s1 dX2_search_6 ?_
    refine j_icmp_ge 82 dX2_search_9 (by decide) (fun z1 => ?_) (fun z1 => ?_)
    · replace hL := (if_pos z1).symm.trans hL
      cases hL
      refine j_sub [0, 1, 2, 4] rfl ?_
      exact kE 
    · replace hL := (if_neg z1).symm.trans hL
      refine j_aload_n 0 dX2_search_12 rfl ?_
      refine jg_RX2_9 rfl s0 dX2_search_13 ?_
      refine j_iload 5 dX2_search_16 rfl ?_
      refine j_iconst 2 dX2_search_18 (by decide) ?_
      refine j_aload_n 3 dX2_search_19 rfl ?_
      refine j_aload_n 1 dX2_search_20 rfl ?_
      refine jg_RX2_24 rfl s1 dX2_search_21 ?_
      refine j_iload 5 dX2_search_24 rfl ?_
      obtain ⟨g2, hL⟩ := gd_ex hL
      refine j_iald (shf_0_6 s1) (ib_in g2) dX2_search_26 ?_
      refine j_aload_n 1 dX2_search_27 rfl ?_
      refine jg_RX2_27 rfl s1 dX2_search_28 ?_
      refine j_iload 5 dX2_search_31 rfl ?_
      obtain ⟨g3, hL⟩ := gd_ex hL
      refine j_iald (shf_0_8 s1) (ib_in g3) dX2_search_33 ?_
      obtain ⟨q4, hq4, hL⟩ := bnd_ex hL
      refine j_callVi (c_X10_yearly G a3 s3 (hia h (a1 + 1) (cl v5)) (hia h (a1 + 3) (cl v5)) h _ hq4) cv_RX2_30 rfl s3 (by decide) rfl (by decide) rfl rfl (Nat.le_of_ble_eq_true rfl) dX2_search_34 (by decide) ?_
      refine j_imul dX2_search_37 ?_
      obtain ⟨g5, hL⟩ := gd_ex hL
      refine j_iast (shf_2_3 s0) (ib_in g5) dX2_search_38 ?_
      obtain ⟨h6, eh6, hL⟩ := lt_ex hL
      refine j_heap eh6 ?_
      refine j_aload_n 0 dX2_search_39 rfl ?_
      refine jg_RX2_15 rfl s0 dX2_search_40 ?_
      refine j_iload 5 dX2_search_43 rfl ?_
      refine j_aload 4 dX2_search_45 rfl ?_
      refine j_ifnonnull 54 dX2_search_47 (by decide) ?_
      refine j_iconst 2 dX2_search_54 (by decide) ?_
      refine j_aload 4 dX2_search_55 rfl ?_
      refine j_aload_n 1 dX2_search_57 rfl ?_
      refine jg_RX2_24 rfl s1 dX2_search_58 ?_
      refine j_iload 5 dX2_search_61 rfl ?_
      obtain ⟨g7, hL⟩ := gd_ex hL
      refine j_iald (shf_0_6 s1) (ib_in g7) dX2_search_63 ?_
      refine j_aload_n 1 dX2_search_64 rfl ?_
      refine jg_RX2_27 rfl s1 dX2_search_65 ?_
      refine j_iload 5 dX2_search_68 rfl ?_
      obtain ⟨g8, hL⟩ := gd_ex hL
      refine j_iald (shf_0_8 s1) (ib_in g8) dX2_search_70 ?_
      obtain ⟨q9, hq9, hL⟩ := bnd_ex hL
      refine j_callVi (c_X10_yearly G a4 s4 (hia h6 (a1 + 1) (cl v5)) (hia h6 (a1 + 3) (cl v5)) h6 _ hq9) cv_RX2_30 rfl s4 (by decide) rfl (by decide) rfl rfl (Nat.le_of_ble_eq_true rfl) dX2_search_71 (by decide) ?_
      refine j_imul dX2_search_74 ?_
      obtain ⟨g10, hL⟩ := gd_ex hL
      refine j_iast (shf_2_4 s0) (ib_in g10) dX2_search_75 ?_
      obtain ⟨h11, eh11, hL⟩ := lt_ex hL
      refine j_heap eh11 ?_
      refine j_iinc (lv' := [(5, .int (v5 + 1)), (0, .ref (ad G a0)), (1, .ref (ad G a1)), (2, .ref (ad G a2)), (3, .ref (ad G a3)), (4, .ref (ad G a4))]) 5 dX2_search_76 rfl rfl (by decide) rfl ?_
      refine j_goto 3 dX2_search_79 (by decide) ?_
      refine j_sub [1, 2, 3, 4, 5, 0] rfl ?_
      exact ih (v5 + 1) h11 r hL kE

set_option maxRecDepth 20000 in
theorem cl_X2_search_112 (G : GG) (K : KQ) (a0 : Nat) (a1 : Nat) (a2 : Nat) (v5 : Int32) (v7 : Int32) {n2 : Nat} (s0 : SH a0 = (2, 0)) (s1 : SH a1 = (0, 0)) (s2 : SH a2 = (20, n2)) : ∀ (n : Nat) (v6 : Int32) (v8 : Int32) (h : AH) (r : Int32 × AH), f_X2_search_l112 a0 a1 a2 v5 v7 n2 n v6 v8 h = some r → J G mX2_search 3 0 0 K 165 [(0, .ref (ad G a0)), (1, .ref (ad G a1)), (2, .ref (ad G a2)), (5, .int v5), (6, .int r.1), (7, .int v7)] [] r.2 → J G mX2_search 3 0 0 K 112 [(0, .ref (ad G a0)), (1, .ref (ad G a1)), (2, .ref (ad G a2)), (5, .int v5), (6, .int v6), (7, .int v7), (8, .int v8)] [] h := by
  intro n
  induction n with
  | zero => intro v6 v8 h r hL; cases hL
  | succ n ih =>
    intro v6 v8 h r hL kE
    unfold f_X2_search_l112 at hL
    refine j_iload 6 dX2_search_112 rfl ?_
    refine j_iload 3 dX2_search_114 rfl ?_
    refine j_icmp_gt 165 dX2_search_116 (by decide) (fun z14 => ?_) (fun z14 => ?_)
    · replace hL := (if_pos z14).symm.trans hL
      cases hL
      refine j_sub [0, 1, 2, 3, 4, 5] rfl ?_
      exact kE 
    · replace hL := (if_neg z14).symm.trans hL
      refine j_aload_n 0 dX2_search_119 rfl ?_
      refine j_aload_n 2 dX2_search_120 rfl ?_
      refine j_aload_n 1 dX2_search_121 rfl ?_
      refine jg_RX2_18 rfl s1 dX2_search_122 ?_
      refine j_iload 5 dX2_search_125 rfl ?_
      refine j_iload 6 dX2_search_127 rfl ?_
      refine j_iload 4 dX2_search_129 rfl ?_
      obtain ⟨q15, hq15, hL⟩ := bnd_ex hL
      refine j_callVi (c_X2_differing G a0 s0 a2 n2 s2 (hfi h a1 0) v7 v8 v6 h _ hq15) cv_RX2_39 rfl s0 (by decide) rfl (by decide) rfl rfl (Nat.le_of_ble_eq_true rfl) dX2_search_131 (by decide) ?_
      refine j_istore (lv' := [(9, .int q15), (0, .ref (ad G a0)), (1, .ref (ad G a1)), (2, .ref (ad G a2)), (5, .int v5), (6, .int v6), (7, .int v7), (8, .int v8)]) dX2_search_134 (by decide) rfl ?_
      refine j_iload 0 dX2_search_136 rfl ?_
      refine j_iload 5 dX2_search_138 rfl ?_
      refine j_icmp_ge 159 dX2_search_140 (by decide) (fun z16 => ?_) (fun z16 => ?_)
      · replace hL := (if_pos z16).symm.trans hL
        refine j_iinc (lv' := [(8, .int (v8 + 1)), (9, .int q15), (0, .ref (ad G a0)), (1, .ref (ad G a1)), (2, .ref (ad G a2)), (5, .int v5), (6, .int v6), (7, .int v7)]) 7 dX2_search_159 rfl rfl (by decide) rfl ?_
        refine j_goto 112 dX2_search_162 (by decide) ?_
        refine j_sub [2, 3, 4, 5, 6, 7, 0] rfl ?_
        exact ih v6 (v8 + 1) h r hL kE
      · replace hL := (if_neg z16).symm.trans hL
        refine j_iload 0 dX2_search_143 rfl ?_
        refine j_istore (lv' := [(6, .int q15), (9, .int q15), (0, .ref (ad G a0)), (1, .ref (ad G a1)), (2, .ref (ad G a2)), (5, .int v5), (7, .int v7), (8, .int v8)]) dX2_search_145 (by decide) rfl ?_
        refine j_aload_n 2 dX2_search_147 rfl ?_
        refine j_iload 6 dX2_search_148 rfl ?_
        refine jp_RX2_43 rfl s0 dX2_search_150 ?_
        obtain ⟨h17, eh17, hL⟩ := lt_ex hL
        refine j_heap eh17 ?_
        refine j_aload_n 2 dX2_search_153 rfl ?_
        refine j_iload 7 dX2_search_154 rfl ?_
        refine jp_RX2_46 rfl s0 dX2_search_156 ?_
        obtain ⟨h18, eh18, hL⟩ := lt_ex hL
        refine j_heap eh18 ?_
        refine j_iinc (lv' := [(8, .int (v8 + 1)), (6, .int q15), (9, .int q15), (0, .ref (ad G a0)), (1, .ref (ad G a1)), (2, .ref (ad G a2)), (5, .int v5), (7, .int v7)]) 7 dX2_search_159 rfl rfl (by decide) rfl ?_
        refine j_goto 112 dX2_search_162 (by decide) ?_
        refine j_sub [3, 4, 5, 6, 1, 7, 0] rfl ?_
        exact ih q15 (v8 + 1) h18 r hL kE

set_option maxRecDepth 20000 in
theorem cl_X2_search_102 (G : GG) (K : KQ) (a0 : Nat) (a1 : Nat) (a2 : Nat) (v5 : Int32) {n2 : Nat} (s0 : SH a0 = (2, 0)) (s1 : SH a1 = (0, 0)) (s2 : SH a2 = (20, n2)) : ∀ (n : Nat) (v6 : Int32) (v7 : Int32) (h : AH) (r : Int32 × AH), f_X2_search_l102 a0 a1 a2 v5 n2 n v6 v7 h = some r → J G mX2_search 3 0 0 K 171 [(0, .ref (ad G a0)), (6, .int r.1)] [] r.2 → J G mX2_search 3 0 0 K 102 [(0, .ref (ad G a0)), (1, .ref (ad G a1)), (2, .ref (ad G a2)), (5, .int v5), (6, .int v6), (7, .int v7)] [] h := by
  intro n
  induction n with
  | zero => intro v6 v7 h r hL; cases hL
  | succ n ih =>
    intro v6 v7 h r hL kE
    unfold f_X2_search_l102 at hL
    refine j_iload 5 dX2_search_102 rfl ?_
    refine j_bipush 60 dX2_search_104 (by decide) ?_
    refine j_icmp_gt 171 dX2_search_106 (by decide) (fun z13 => ?_) (fun z13 => ?_)
    · replace hL := (if_pos z13).symm.trans hL
      cases hL
      refine j_sub [0, 4] rfl ?_
      exact kE 
    · replace hL := (if_neg z13).symm.trans hL
      refine j_iconst 0 dX2_search_109 (by decide) ?_
      refine j_istore (lv' := [(8, .int 0), (0, .ref (ad G a0)), (1, .ref (ad G a1)), (2, .ref (ad G a2)), (5, .int v5), (6, .int v6), (7, .int v7)]) dX2_search_110 (by decide) rfl ?_
      obtain ⟨q19, hq19, hL⟩ := bnd_ex hL
      refine j_sub [1, 2, 3, 4, 5, 6, 0] rfl ?_
      refine cl_X2_search_112 G K a0 a1 a2 v5 v7 s0 s1 s2 FU v6 0 h q19 hq19 ?_
      refine j_iinc (lv' := [(7, .int (v7 + 1)), (0, .ref (ad G a0)), (1, .ref (ad G a1)), (2, .ref (ad G a2)), (5, .int v5), (6, .int q19.1)]) 5 dX2_search_165 rfl rfl (by decide) rfl ?_
      refine j_goto 102 dX2_search_168 (by decide) ?_
      refine j_sub [1, 2, 3, 4, 5, 0] rfl ?_
      exact ih q19.1 (v7 + 1) q19.2 r hL kE

set_option maxRecDepth 20000 in
theorem c_X2_search (G : GG) (a0 : Nat) (s0 : SH a0 = (2, 0)) (a1 : Nat) (s1 : SH a1 = (0, 0)) (a2 n2 : Nat) (s2 : SH a2 = (20, n2)) (a3 : Nat) (s3 : SH a3 = (10, 0)) (a4 : Nat) (s4 : SH a4 = (10, 0)) (h : AH) (r : Int32 × AH) (hL : f_X2_search a0 a1 a2 n2 a3 a4 h = some r) : SpI G 3 mX2_search [.ref (ad G a0), .ref (ad G a1), .ref (ad G a2), .ref (ad G a3), .ref (ad G a4)] h r.1 r.2 := by
  refine sp_i pf_X2_search (Nat.le_of_ble_eq_true rfl) ?_
  show J G mX2_search 3 0 0 (KMi G r.1 r.2) 0 [(0, .ref (ad G a0)), (1, .ref (ad G a1)), (2, .ref (ad G a2)), (3, .ref (ad G a3)), (4, .ref (ad G a4))] [] h
  obtain ⟨K, hK⟩ : ∃ K, K = KMi G r.1 r.2 := ⟨_, rfl⟩
  rw [← hK]
  unfold f_X2_search at hL
  refine j_iconst 0 dX2_search_0 (by decide) ?_
  refine j_istore (lv' := [(5, .int 0), (0, .ref (ad G a0)), (1, .ref (ad G a1)), (2, .ref (ad G a2)), (3, .ref (ad G a3)), (4, .ref (ad G a4))]) dX2_search_1 (by decide) rfl ?_
  obtain ⟨q12, hq12, hL⟩ := bnd_ex hL
  refine j_sub [1, 2, 3, 4, 5, 0] rfl ?_
  refine cl_X2_search_3 G K a0 a1 a2 a3 a4 s0 s1 s2 s3 s4 FU 0 h q12 hq12 ?_
  refine j_aload 3 dX2_search_82 rfl ?_
  refine j_ifnonnull 91 dX2_search_84 (by decide) ?_
  refine j_bipush 60 dX2_search_91 (by decide) ?_
  refine j_istore (lv' := [(5, .int 60), (0, .ref (ad G a0)), (1, .ref (ad G a1)), (2, .ref (ad G a2)), (4, .ref (ad G a4))]) dX2_search_93 (by decide) rfl ?_
  refine j_ldc rfl kk_RX2_38 dX2_search_95 ?_
  refine j_istore (lv' := [(6, .int 2147483647), (5, .int 60), (0, .ref (ad G a0)), (1, .ref (ad G a1)), (2, .ref (ad G a2)), (4, .ref (ad G a4))]) dX2_search_97 (by decide) rfl ?_
  refine j_iconst 0 dX2_search_99 (by decide) ?_
  refine j_istore (lv' := [(7, .int 0), (6, .int 2147483647), (5, .int 60), (0, .ref (ad G a0)), (1, .ref (ad G a1)), (2, .ref (ad G a2)), (4, .ref (ad G a4))]) dX2_search_100 (by decide) rfl ?_
  obtain ⟨q20, hq20, hL⟩ := bnd_ex hL
  refine j_sub [3, 4, 5, 2, 1, 0] rfl ?_
  refine cl_X2_search_102 G K a0 a1 a2 60 s0 s1 s2 FU 2147483647 0 q12 q20 hq20 ?_
  refine j_aload_n 0 dX2_search_171 rfl ?_
  refine j_iconst 1 dX2_search_172 (by decide) ?_
  refine jp_RX2_49 rfl s0 rfl rfl dX2_search_173 ?_
  obtain ⟨h21, eh21, hL⟩ := lt_ex hL
  refine j_heap eh21 ?_
  refine j_iload 1 dX2_search_176 rfl ?_
  cases hL
  exact j_reti dX2_search_178 rfl hK

def f_X2_search_n_l3 (a0 : Nat) (a1 : Nat) (a3 : Nat) : Nat → Int32 → AH → Option (AH)
  | 0, _, _ => none
  | n + 1, v5, h => if (hfi h a1 0) ≤ v5 then some h else gd (ib v5 40 = true) (gd (ib v5 40 = true) (bnd (f_X10_yearly a3 (hia h (a1 + 1) (cl v5)) (hia h (a1 + 3) (cl v5)) h) (fun q4 => gd (ib v5 40 = true) (lt (sia h (a0 + 1) (cl v5) (2 * q4)) (fun h6 => gd (ib v5 40 = true) (lt (sia h6 (a0 + 2) (cl v5) 0) (fun h8 => f_X2_search_n_l3 a0 a1 a3 n (v5 + 1) h8)))))))
def f_X2_search_n_l112 (a0 : Nat) (a1 : Nat) (a2 : Nat) (v5 : Int32) (v7 : Int32) (n2 : Nat) : Nat → Int32 → Int32 → AH → Option (Int32 × AH)
  | 0, _, _, _ => none
  | n + 1, v6, v8, h => if v5 < v8 then some (v6, h) else bnd (f_X2_differing a0 a2 n2 (hfi h a1 0) v7 v8 v6 h) (fun q12 => if v6 ≤ q12 then f_X2_search_n_l112 a0 a1 a2 v5 v7 n2 n v6 (v8 + 1) h else lt (sfi h a0 1 v7) (fun h14 => lt (sfi h14 a0 2 v8) (fun h15 => f_X2_search_n_l112 a0 a1 a2 v5 v7 n2 n q12 (v8 + 1) h15)))
def f_X2_search_n_l102 (a0 : Nat) (a1 : Nat) (a2 : Nat) (v5 : Int32) (n2 : Nat) : Nat → Int32 → Int32 → AH → Option (Int32 × AH)
  | 0, _, _, _ => none
  | n + 1, v6, v7, h => if 60 < v7 then some (v6, h) else bnd (f_X2_search_n_l112 a0 a1 a2 v5 v7 n2 FU v6 0 h) (fun q16 => f_X2_search_n_l102 a0 a1 a2 v5 n2 n q16.1 (v7 + 1) q16.2)
def f_X2_search_n (a0 : Nat) (a1 : Nat) (a2 n2 : Nat) (a3 : Nat) (h : AH) : Option (Int32 × AH) := bnd (f_X2_search_n_l3 a0 a1 a3 FU 0 h) (fun q9 => bnd (f_X2_search_n_l102 a0 a1 a2 0 n2 FU 2147483647 0 q9) (fun q17 => lt (sfi q17.2 a0 0 1) (fun h18 => some (q17.1, h18))))
set_option maxRecDepth 20000 in
theorem cl_X2_search_n_3 (G : GG) (K : KQ) (a0 : Nat) (a1 : Nat) (a2 : Nat) (a3 : Nat) {n2 : Nat} (s0 : SH a0 = (2, 0)) (s1 : SH a1 = (0, 0)) (s2 : SH a2 = (20, n2)) (s3 : SH a3 = (10, 0)) : ∀ (n : Nat) (v5 : Int32) (h : AH) (r : AH), f_X2_search_n_l3 a0 a1 a3 n v5 h = some r → J G mX2_search 3 0 0 K 82 [(0, .ref (ad G a0)), (1, .ref (ad G a1)), (2, .ref (ad G a2)), (4, .null)] [] r → J G mX2_search 3 0 0 K 3 [(0, .ref (ad G a0)), (1, .ref (ad G a1)), (2, .ref (ad G a2)), (3, .ref (ad G a3)), (4, .null), (5, .int v5)] [] h := by
  intro n
  induction n with
  | zero => intro v5 h r hL; cases hL
  | succ n ih =>
    intro v5 h r hL kE
    unfold f_X2_search_n_l3 at hL
    refine j_iload 5 dX2_search_3 rfl ?_
    refine j_aload_n 1 dX2_search_5 rfl ?_
    refine jg_RX2_18 rfl s1 dX2_search_6 ?_
    refine j_icmp_ge 82 dX2_search_9 (by decide) (fun z1 => ?_) (fun z1 => ?_)
    · replace hL := (if_pos z1).symm.trans hL
      cases hL
      refine j_sub [0, 1, 2, 4] rfl ?_
      exact kE 
    · replace hL := (if_neg z1).symm.trans hL
      refine j_aload_n 0 dX2_search_12 rfl ?_
      refine jg_RX2_9 rfl s0 dX2_search_13 ?_
      refine j_iload 5 dX2_search_16 rfl ?_
      refine j_iconst 2 dX2_search_18 (by decide) ?_
      refine j_aload_n 3 dX2_search_19 rfl ?_
      refine j_aload_n 1 dX2_search_20 rfl ?_
      refine jg_RX2_24 rfl s1 dX2_search_21 ?_
      refine j_iload 5 dX2_search_24 rfl ?_
      obtain ⟨g2, hL⟩ := gd_ex hL
      refine j_iald (shf_0_6 s1) (ib_in g2) dX2_search_26 ?_
      refine j_aload_n 1 dX2_search_27 rfl ?_
      refine jg_RX2_27 rfl s1 dX2_search_28 ?_
      refine j_iload 5 dX2_search_31 rfl ?_
      obtain ⟨g3, hL⟩ := gd_ex hL
      refine j_iald (shf_0_8 s1) (ib_in g3) dX2_search_33 ?_
      obtain ⟨q4, hq4, hL⟩ := bnd_ex hL
      refine j_callVi (c_X10_yearly G a3 s3 (hia h (a1 + 1) (cl v5)) (hia h (a1 + 3) (cl v5)) h _ hq4) cv_RX2_30 rfl s3 (by decide) rfl (by decide) rfl rfl (Nat.le_of_ble_eq_true rfl) dX2_search_34 (by decide) ?_
      refine j_imul dX2_search_37 ?_
      obtain ⟨g5, hL⟩ := gd_ex hL
      refine j_iast (shf_2_3 s0) (ib_in g5) dX2_search_38 ?_
      obtain ⟨h6, eh6, hL⟩ := lt_ex hL
      refine j_heap eh6 ?_
      refine j_aload_n 0 dX2_search_39 rfl ?_
      refine jg_RX2_15 rfl s0 dX2_search_40 ?_
      refine j_iload 5 dX2_search_43 rfl ?_
      refine j_aloadN 4 dX2_search_45 rfl ?_
      refine j_ifnonnullN dX2_search_47 ?_
      refine j_iconst 0 dX2_search_50 (by decide) ?_
      refine j_goto 75 dX2_search_51 (by decide) ?_
      obtain ⟨g7, hL⟩ := gd_ex hL
      refine j_iast (shf_2_4 s0) (ib_in g7) dX2_search_75 ?_
      obtain ⟨h8, eh8, hL⟩ := lt_ex hL
      refine j_heap eh8 ?_
      refine j_iinc (lv' := [(5, .int (v5 + 1)), (0, .ref (ad G a0)), (1, .ref (ad G a1)), (2, .ref (ad G a2)), (3, .ref (ad G a3)), (4, .null)]) 5 dX2_search_76 rfl rfl (by decide) rfl ?_
      refine j_goto 3 dX2_search_79 (by decide) ?_
      refine j_sub [1, 2, 3, 4, 5, 0] rfl ?_
      exact ih (v5 + 1) h8 r hL kE

set_option maxRecDepth 20000 in
theorem cl_X2_search_n_112 (G : GG) (K : KQ) (a0 : Nat) (a1 : Nat) (a2 : Nat) (v5 : Int32) (v7 : Int32) {n2 : Nat} (s0 : SH a0 = (2, 0)) (s1 : SH a1 = (0, 0)) (s2 : SH a2 = (20, n2)) : ∀ (n : Nat) (v6 : Int32) (v8 : Int32) (h : AH) (r : Int32 × AH), f_X2_search_n_l112 a0 a1 a2 v5 v7 n2 n v6 v8 h = some r → J G mX2_search 3 0 0 K 165 [(0, .ref (ad G a0)), (1, .ref (ad G a1)), (2, .ref (ad G a2)), (5, .int v5), (6, .int r.1), (7, .int v7)] [] r.2 → J G mX2_search 3 0 0 K 112 [(0, .ref (ad G a0)), (1, .ref (ad G a1)), (2, .ref (ad G a2)), (5, .int v5), (6, .int v6), (7, .int v7), (8, .int v8)] [] h := by
  intro n
  induction n with
  | zero => intro v6 v8 h r hL; cases hL
  | succ n ih =>
    intro v6 v8 h r hL kE
    unfold f_X2_search_n_l112 at hL
    refine j_iload 6 dX2_search_112 rfl ?_
    refine j_iload 3 dX2_search_114 rfl ?_
    refine j_icmp_gt 165 dX2_search_116 (by decide) (fun z11 => ?_) (fun z11 => ?_)
    · replace hL := (if_pos z11).symm.trans hL
      cases hL
      refine j_sub [0, 1, 2, 3, 4, 5] rfl ?_
      exact kE 
    · replace hL := (if_neg z11).symm.trans hL
      refine j_aload_n 0 dX2_search_119 rfl ?_
      refine j_aload_n 2 dX2_search_120 rfl ?_
      refine j_aload_n 1 dX2_search_121 rfl ?_
      refine jg_RX2_18 rfl s1 dX2_search_122 ?_
      refine j_iload 5 dX2_search_125 rfl ?_
      refine j_iload 6 dX2_search_127 rfl ?_
      refine j_iload 4 dX2_search_129 rfl ?_
      obtain ⟨q12, hq12, hL⟩ := bnd_ex hL
      refine j_callVi (c_X2_differing G a0 s0 a2 n2 s2 (hfi h a1 0) v7 v8 v6 h _ hq12) cv_RX2_39 rfl s0 (by decide) rfl (by decide) rfl rfl (Nat.le_of_ble_eq_true rfl) dX2_search_131 (by decide) ?_
      refine j_istore (lv' := [(9, .int q12), (0, .ref (ad G a0)), (1, .ref (ad G a1)), (2, .ref (ad G a2)), (5, .int v5), (6, .int v6), (7, .int v7), (8, .int v8)]) dX2_search_134 (by decide) rfl ?_
      refine j_iload 0 dX2_search_136 rfl ?_
      refine j_iload 5 dX2_search_138 rfl ?_
      refine j_icmp_ge 159 dX2_search_140 (by decide) (fun z13 => ?_) (fun z13 => ?_)
      · replace hL := (if_pos z13).symm.trans hL
        refine j_iinc (lv' := [(8, .int (v8 + 1)), (9, .int q12), (0, .ref (ad G a0)), (1, .ref (ad G a1)), (2, .ref (ad G a2)), (5, .int v5), (6, .int v6), (7, .int v7)]) 7 dX2_search_159 rfl rfl (by decide) rfl ?_
        refine j_goto 112 dX2_search_162 (by decide) ?_
        refine j_sub [2, 3, 4, 5, 6, 7, 0] rfl ?_
        exact ih v6 (v8 + 1) h r hL kE
      · replace hL := (if_neg z13).symm.trans hL
        refine j_iload 0 dX2_search_143 rfl ?_
        refine j_istore (lv' := [(6, .int q12), (9, .int q12), (0, .ref (ad G a0)), (1, .ref (ad G a1)), (2, .ref (ad G a2)), (5, .int v5), (7, .int v7), (8, .int v8)]) dX2_search_145 (by decide) rfl ?_
        refine j_aload_n 2 dX2_search_147 rfl ?_
        refine j_iload 6 dX2_search_148 rfl ?_
        refine jp_RX2_43 rfl s0 dX2_search_150 ?_
        obtain ⟨h14, eh14, hL⟩ := lt_ex hL
        refine j_heap eh14 ?_
        refine j_aload_n 2 dX2_search_153 rfl ?_
        refine j_iload 7 dX2_search_154 rfl ?_
        refine jp_RX2_46 rfl s0 dX2_search_156 ?_
        obtain ⟨h15, eh15, hL⟩ := lt_ex hL
        refine j_heap eh15 ?_
        refine j_iinc (lv' := [(8, .int (v8 + 1)), (6, .int q12), (9, .int q12), (0, .ref (ad G a0)), (1, .ref (ad G a1)), (2, .ref (ad G a2)), (5, .int v5), (7, .int v7)]) 7 dX2_search_159 rfl rfl (by decide) rfl ?_
        refine j_goto 112 dX2_search_162 (by decide) ?_
        refine j_sub [3, 4, 5, 6, 1, 7, 0] rfl ?_
        exact ih q12 (v8 + 1) h15 r hL kE

set_option maxRecDepth 20000 in
theorem cl_X2_search_n_102 (G : GG) (K : KQ) (a0 : Nat) (a1 : Nat) (a2 : Nat) (v5 : Int32) {n2 : Nat} (s0 : SH a0 = (2, 0)) (s1 : SH a1 = (0, 0)) (s2 : SH a2 = (20, n2)) : ∀ (n : Nat) (v6 : Int32) (v7 : Int32) (h : AH) (r : Int32 × AH), f_X2_search_n_l102 a0 a1 a2 v5 n2 n v6 v7 h = some r → J G mX2_search 3 0 0 K 171 [(0, .ref (ad G a0)), (6, .int r.1)] [] r.2 → J G mX2_search 3 0 0 K 102 [(0, .ref (ad G a0)), (1, .ref (ad G a1)), (2, .ref (ad G a2)), (5, .int v5), (6, .int v6), (7, .int v7)] [] h := by
  intro n
  induction n with
  | zero => intro v6 v7 h r hL; cases hL
  | succ n ih =>
    intro v6 v7 h r hL kE
    unfold f_X2_search_n_l102 at hL
    refine j_iload 5 dX2_search_102 rfl ?_
    refine j_bipush 60 dX2_search_104 (by decide) ?_
    refine j_icmp_gt 171 dX2_search_106 (by decide) (fun z10 => ?_) (fun z10 => ?_)
    · replace hL := (if_pos z10).symm.trans hL
      cases hL
      refine j_sub [0, 4] rfl ?_
      exact kE 
    · replace hL := (if_neg z10).symm.trans hL
      refine j_iconst 0 dX2_search_109 (by decide) ?_
      refine j_istore (lv' := [(8, .int 0), (0, .ref (ad G a0)), (1, .ref (ad G a1)), (2, .ref (ad G a2)), (5, .int v5), (6, .int v6), (7, .int v7)]) dX2_search_110 (by decide) rfl ?_
      obtain ⟨q16, hq16, hL⟩ := bnd_ex hL
      refine j_sub [1, 2, 3, 4, 5, 6, 0] rfl ?_
      refine cl_X2_search_n_112 G K a0 a1 a2 v5 v7 s0 s1 s2 FU v6 0 h q16 hq16 ?_
      refine j_iinc (lv' := [(7, .int (v7 + 1)), (0, .ref (ad G a0)), (1, .ref (ad G a1)), (2, .ref (ad G a2)), (5, .int v5), (6, .int q16.1)]) 5 dX2_search_165 rfl rfl (by decide) rfl ?_
      refine j_goto 102 dX2_search_168 (by decide) ?_
      refine j_sub [1, 2, 3, 4, 5, 0] rfl ?_
      exact ih q16.1 (v7 + 1) q16.2 r hL kE

set_option maxRecDepth 20000 in
theorem c_X2_search_n (G : GG) (a0 : Nat) (s0 : SH a0 = (2, 0)) (a1 : Nat) (s1 : SH a1 = (0, 0)) (a2 n2 : Nat) (s2 : SH a2 = (20, n2)) (a3 : Nat) (s3 : SH a3 = (10, 0)) (h : AH) (r : Int32 × AH) (hL : f_X2_search_n a0 a1 a2 n2 a3 h = some r) : SpI G 3 mX2_search [.ref (ad G a0), .ref (ad G a1), .ref (ad G a2), .ref (ad G a3), .null] h r.1 r.2 := by
  refine sp_i pf_X2_search (Nat.le_of_ble_eq_true rfl) ?_
  show J G mX2_search 3 0 0 (KMi G r.1 r.2) 0 [(0, .ref (ad G a0)), (1, .ref (ad G a1)), (2, .ref (ad G a2)), (3, .ref (ad G a3)), (4, .null)] [] h
  obtain ⟨K, hK⟩ : ∃ K, K = KMi G r.1 r.2 := ⟨_, rfl⟩
  rw [← hK]
  unfold f_X2_search_n at hL
  refine j_iconst 0 dX2_search_0 (by decide) ?_
  refine j_istore (lv' := [(5, .int 0), (0, .ref (ad G a0)), (1, .ref (ad G a1)), (2, .ref (ad G a2)), (3, .ref (ad G a3)), (4, .null)]) dX2_search_1 (by decide) rfl ?_
  obtain ⟨q9, hq9, hL⟩ := bnd_ex hL
  refine j_sub [1, 2, 3, 4, 5, 0] rfl ?_
  refine cl_X2_search_n_3 G K a0 a1 a2 a3 s0 s1 s2 s3 FU 0 h q9 hq9 ?_
  refine j_aloadN 3 dX2_search_82 rfl ?_
  refine j_ifnonnullN dX2_search_84 ?_
  refine j_iconst 0 dX2_search_87 (by decide) ?_
  refine j_goto 93 dX2_search_88 (by decide) ?_
  refine j_istore (lv' := [(5, .int 0), (0, .ref (ad G a0)), (1, .ref (ad G a1)), (2, .ref (ad G a2)), (4, .null)]) dX2_search_93 (by decide) rfl ?_
  refine j_ldc rfl kk_RX2_38 dX2_search_95 ?_
  refine j_istore (lv' := [(6, .int 2147483647), (5, .int 0), (0, .ref (ad G a0)), (1, .ref (ad G a1)), (2, .ref (ad G a2)), (4, .null)]) dX2_search_97 (by decide) rfl ?_
  refine j_iconst 0 dX2_search_99 (by decide) ?_
  refine j_istore (lv' := [(7, .int 0), (6, .int 2147483647), (5, .int 0), (0, .ref (ad G a0)), (1, .ref (ad G a1)), (2, .ref (ad G a2)), (4, .null)]) dX2_search_100 (by decide) rfl ?_
  obtain ⟨q17, hq17, hL⟩ := bnd_ex hL
  refine j_sub [3, 4, 5, 2, 1, 0] rfl ?_
  refine cl_X2_search_n_102 G K a0 a1 a2 0 s0 s1 s2 FU 2147483647 0 q9 q17 hq17 ?_
  refine j_aload_n 0 dX2_search_171 rfl ?_
  refine j_iconst 1 dX2_search_172 (by decide) ?_
  refine jp_RX2_49 rfl s0 rfl rfl dX2_search_173 ?_
  obtain ⟨h18, eh18, hL⟩ := lt_ex hL
  refine j_heap eh18 ?_
  refine j_iload 1 dX2_search_176 rfl ?_
  cases hL
  exact j_reti dX2_search_178 rfl hK

def f_X10_tellsSome_l2 (a0 : Nat) (h : AH) : Nat → Int32 → Option ((Unit) ⊕ (Bool))
  | 0, _ => none
  | n + 1, v1 => if 12 ≤ v1 then some (.inl ()) else gd (ib v1 12 = true) (if (hia h (a0 + 1) (cl v1)) ≤ 0 then f_X10_tellsSome_l2 a0 h n (v1 + 1) else some (.inr true))
def f_X10_tellsSome (a0 : Nat) (h : AH) : Option (Bool) := bnd (f_X10_tellsSome_l2 a0 h FU 0) (fun q4 => Sum.elim (fun xq4 => some false) (fun xq4 => some xq4) q4)
set_option maxRecDepth 20000 in
theorem cl_X10_tellsSome_2 (G : GG) (K : KQ) (a0 : Nat) (s0 : SH a0 = (10, 0)) : ∀ (n : Nat) (v1 : Int32) (h : AH) (r : (Unit) ⊕ (Bool)), f_X10_tellsSome_l2 a0 h n v1 = some r → (∀ x, r = .inl x → J G mX10_tellsSome 1 0 0 K 25 [] [] h) → (∀ x, r = .inr x → K = KMi G (bI x) h) → J G mX10_tellsSome 1 0 0 K 2 [(0, .ref (ad G a0)), (1, .int v1)] [] h := by
  intro n
  induction n with
  | zero => intro v1 h r hL; cases hL
  | succ n ih =>
    intro v1 h r hL kE kR
    unfold f_X10_tellsSome_l2 at hL
    refine j_iload_n 1 dX10_tellsSome_2 rfl ?_
    refine j_bipush 12 dX10_tellsSome_3 (by decide) ?_
    refine j_icmp_ge 25 dX10_tellsSome_5 (by decide) (fun z1 => ?_) (fun z1 => ?_)
    · replace hL := (if_pos z1).symm.trans hL
      cases hL
      refine j_sub [] rfl ?_
      exact kE _ rfl
    · replace hL := (if_neg z1).symm.trans hL
      refine j_aload_n 0 dX10_tellsSome_8 rfl ?_
      refine jg_RX10_9 rfl s0 dX10_tellsSome_9 ?_
      refine j_iload_n 1 dX10_tellsSome_12 rfl ?_
      obtain ⟨g2, hL⟩ := gd_ex hL
      refine j_iald (shf_10_0 s0) (ib_in g2) dX10_tellsSome_13 ?_
      refine j_if_le 19 dX10_tellsSome_14 (by decide) (fun z3 => ?_) (fun z3 => ?_)
      · replace hL := (if_pos z3).symm.trans hL
        refine j_iinc (lv' := [(1, .int (v1 + 1)), (0, .ref (ad G a0))]) 1 dX10_tellsSome_19 rfl rfl (by decide) rfl ?_
        refine j_goto 2 dX10_tellsSome_22 (by decide) ?_
        refine j_sub [1, 0] rfl ?_
        exact ih (v1 + 1) h r hL kE kR
      · replace hL := (if_neg z3).symm.trans hL
        refine j_iconst 1 dX10_tellsSome_17 (by decide) ?_
        cases hL
        exact j_ret1 dX10_tellsSome_18 rfl (kR _ rfl)

set_option maxRecDepth 20000 in
theorem c_X10_tellsSome (G : GG) (a0 : Nat) (s0 : SH a0 = (10, 0)) (h : AH) (r : Bool) (hL : f_X10_tellsSome a0 h = some r) : SpI G 1 mX10_tellsSome [.ref (ad G a0)] h (bI r) h := by
  refine sp_i pf_X10_tellsSome (Nat.le_of_ble_eq_true rfl) ?_
  show J G mX10_tellsSome 1 0 0 (KMi G (bI r) h) 0 [(0, .ref (ad G a0))] [] h
  obtain ⟨K, hK⟩ : ∃ K, K = KMi G (bI r) h := ⟨_, rfl⟩
  rw [← hK]
  unfold f_X10_tellsSome at hL
  refine j_iconst 0 dX10_tellsSome_0 (by decide) ?_
  refine j_istore_n (lv' := [(1, .int 0), (0, .ref (ad G a0))]) dX10_tellsSome_1 (by decide) rfl ?_
  obtain ⟨q4, hq4, hL⟩ := bnd_ex hL
  refine j_sub [1, 0] rfl ?_
  refine cl_X10_tellsSome_2 G K a0 s0 FU 0 h q4 hq4 (fun xq4 eq4 => ?_) (fun xq4 eq4 => ?_)
  · subst eq4
    refine j_iconst 0 dX10_tellsSome_25 (by decide) ?_
    cases hL
    exact j_ret0 dX10_tellsSome_26 rfl hK
  · subst eq4
    cases hL
    exact hK

