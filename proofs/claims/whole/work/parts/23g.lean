def f_X12_image_l32 (v1 : Int32) : Nat → Int32 → AH → Option (AH)
  | 0, _, _ => none
  | n + 1, v2, h => gd (ib v1 8 = true) (if (hia h 196 (cl v1)) ≤ v2 then some h else gd (ib (f_X12_at v1 v2) 320 = true) (gd (ib (f_X12_at v1 v2) 240 = true) (lt (sia h 232 (cl (f_X12_at v1 v2)) (hia h 208 (cl (f_X12_at v1 v2)))) (fun h11 => gd (ib (f_X12_at v1 v2) 320 = true) (gd (ib (f_X12_at v1 v2) 240 = true) (lt (sia h11 233 (cl (f_X12_at v1 v2)) (hia h11 209 (cl (f_X12_at v1 v2)))) (fun h14 => f_X12_image_l32 v1 n (v2 + 1) h14)))))))
def f_X12_image_l12  : Nat → Int32 → AH → Option (AH)
  | 0, _, _ => none
  | n + 1, v1, h => if 6 ≤ v1 then some h else gd (ib v1 8 = true) (gd (ib v1 6 = true) (lt (sia h 234 (cl v1) (hia h 201 (cl v1))) (fun h6 => bnd (f_X12_image_l32 v1 FU 0 h6) (fun q15 => f_X12_image_l12 n (v1 + 1) q15))))
def f_X12_image_l96  : Nat → Int32 → AH → Option (AH)
  | 0, _, _ => none
  | n + 1, v1, h => if 4 ≤ v1 then some h else gd (ib v1 4 = true) (gd (ib v1 4 = true) (lt (sia h 235 (cl v1) (hia h 218 (cl v1))) (fun h20 => f_X12_image_l96 n (v1 + 1) h20)))
def f_X12_image  (h : AH) : Option (AH) := lt (sfi h 193 2 0) (fun h1 => lt (sfi h1 193 55 1) (fun h2 => bnd (f_X12_image_l12 FU 0 h2) (fun q16 => bnd (f_X12_image_l96 FU 0 q16) (fun q21 => some q21))))
set_option maxRecDepth 20000 in
theorem cl_X12_image_32 (G : GG) (K : KQ) (v1 : Int32)  : ∀ (n : Nat) (v2 : Int32) (h : AH) (r : AH), f_X12_image_l32 v1 n v2 h = some r → J G mX12_image 2 0 0 K 88 [(0, .ref (ad G 193)), (1, .int v1)] [] r → J G mX12_image 2 0 0 K 32 [(0, .ref (ad G 193)), (1, .int v1), (2, .int v2)] [] h := by
  intro n
  induction n with
  | zero => intro v2 h r hL; cases hL
  | succ n ih =>
    intro v2 h r hL kE
    unfold f_X12_image_l32 at hL
    refine j_iload_n 2 dX12_image_32 rfl ?_
    refine j_aload_n 0 dX12_image_33 rfl ?_
    refine jg_RX12_32 rfl sh_193 dX12_image_34 ?_
    refine j_iload_n 1 dX12_image_37 rfl ?_
    obtain ⟨g7, hL⟩ := gd_ex hL
    refine j_iald (shf_12_3 sh_193) (ib_in g7) dX12_image_38 ?_
    refine j_icmp_ge 88 dX12_image_39 (by decide) (fun z8 => ?_) (fun z8 => ?_)
    · replace hL := (if_pos z8).symm.trans hL
      cases hL
      refine j_sub [0, 1] rfl ?_
      exact kE 
    · replace hL := (if_neg z8).symm.trans hL
      refine j_aload_n 0 dX12_image_42 rfl ?_
      refine jg_RX12_146 rfl sh_193 dX12_image_43 ?_
      refine j_iload_n 1 dX12_image_46 rfl ?_
      refine j_iload_n 2 dX12_image_47 rfl ?_
      refine j_callSi (c_X12_at G v1 v2 h) cv_RX12_244 rfl (by decide) rfl rfl (Nat.le_of_ble_eq_true rfl) dX12_image_48 (by decide) ?_
      refine j_aload_n 0 dX12_image_51 rfl ?_
      refine jg_RX12_66 rfl sh_193 dX12_image_52 ?_
      refine j_iload_n 1 dX12_image_55 rfl ?_
      refine j_iload_n 2 dX12_image_56 rfl ?_
      refine j_callSi (c_X12_at G v1 v2 h) cv_RX12_244 rfl (by decide) rfl rfl (Nat.le_of_ble_eq_true rfl) dX12_image_57 (by decide) ?_
      obtain ⟨g9, hL⟩ := gd_ex hL
      refine j_iald (shf_12_15 sh_193) (ib_in g9) dX12_image_60 ?_
      obtain ⟨g10, hL⟩ := gd_ex hL
      refine j_iast (shf_12_56 sh_193) (ib_in g10) dX12_image_61 ?_
      obtain ⟨h11, eh11, hL⟩ := lt_ex hL
      refine j_heap eh11 ?_
      refine j_aload_n 0 dX12_image_62 rfl ?_
      refine jg_RX12_149 rfl sh_193 dX12_image_63 ?_
      refine j_iload_n 1 dX12_image_66 rfl ?_
      refine j_iload_n 2 dX12_image_67 rfl ?_
      refine j_callSi (c_X12_at G v1 v2 h11) cv_RX12_244 rfl (by decide) rfl rfl (Nat.le_of_ble_eq_true rfl) dX12_image_68 (by decide) ?_
      refine j_aload_n 0 dX12_image_71 rfl ?_
      refine jg_RX12_69 rfl sh_193 dX12_image_72 ?_
      refine j_iload_n 1 dX12_image_75 rfl ?_
      refine j_iload_n 2 dX12_image_76 rfl ?_
      refine j_callSi (c_X12_at G v1 v2 h11) cv_RX12_244 rfl (by decide) rfl rfl (Nat.le_of_ble_eq_true rfl) dX12_image_77 (by decide) ?_
      obtain ⟨g12, hL⟩ := gd_ex hL
      refine j_iald (shf_12_16 sh_193) (ib_in g12) dX12_image_80 ?_
      obtain ⟨g13, hL⟩ := gd_ex hL
      refine j_iast (shf_12_57 sh_193) (ib_in g13) dX12_image_81 ?_
      obtain ⟨h14, eh14, hL⟩ := lt_ex hL
      refine j_heap eh14 ?_
      refine j_iinc (lv' := [(2, .int (v2 + 1)), (0, .ref (ad G 193)), (1, .int v1)]) 2 dX12_image_82 rfl rfl (by decide) rfl ?_
      refine j_goto 32 dX12_image_85 (by decide) ?_
      refine j_sub [1, 2, 0] rfl ?_
      exact ih (v2 + 1) h14 r hL kE

set_option maxRecDepth 20000 in
theorem cl_X12_image_12 (G : GG) (K : KQ)   : ∀ (n : Nat) (v1 : Int32) (h : AH) (r : AH), f_X12_image_l12 n v1 h = some r → J G mX12_image 2 0 0 K 94 [(0, .ref (ad G 193))] [] r → J G mX12_image 2 0 0 K 12 [(0, .ref (ad G 193)), (1, .int v1)] [] h := by
  intro n
  induction n with
  | zero => intro v1 h r hL; cases hL
  | succ n ih =>
    intro v1 h r hL kE
    unfold f_X12_image_l12 at hL
    refine j_iload_n 1 dX12_image_12 rfl ?_
    refine j_bipush 6 dX12_image_13 (by decide) ?_
    refine j_icmp_ge 94 dX12_image_15 (by decide) (fun z3 => ?_) (fun z3 => ?_)
    · replace hL := (if_pos z3).symm.trans hL
      cases hL
      refine j_sub [0] rfl ?_
      exact kE 
    · replace hL := (if_neg z3).symm.trans hL
      refine j_aload_n 0 dX12_image_18 rfl ?_
      refine jg_RX12_152 rfl sh_193 dX12_image_19 ?_
      refine j_iload_n 1 dX12_image_22 rfl ?_
      refine j_aload_n 0 dX12_image_23 rfl ?_
      refine jg_RX12_47 rfl sh_193 dX12_image_24 ?_
      refine j_iload_n 1 dX12_image_27 rfl ?_
      obtain ⟨g4, hL⟩ := gd_ex hL
      refine j_iald (shf_12_8 sh_193) (ib_in g4) dX12_image_28 ?_
      obtain ⟨g5, hL⟩ := gd_ex hL
      refine j_iast (shf_12_58 sh_193) (ib_in g5) dX12_image_29 ?_
      obtain ⟨h6, eh6, hL⟩ := lt_ex hL
      refine j_heap eh6 ?_
      refine j_iconst 0 dX12_image_30 (by decide) ?_
      refine j_istore_n (lv' := [(2, .int 0), (0, .ref (ad G 193)), (1, .int v1)]) dX12_image_31 (by decide) rfl ?_
      obtain ⟨q15, hq15, hL⟩ := bnd_ex hL
      refine j_sub [1, 2, 0] rfl ?_
      refine cl_X12_image_32 G K v1 FU 0 h6 q15 hq15 ?_
      refine j_iinc (lv' := [(1, .int (v1 + 1)), (0, .ref (ad G 193))]) 1 dX12_image_88 rfl rfl (by decide) rfl ?_
      refine j_goto 12 dX12_image_91 (by decide) ?_
      refine j_sub [1, 0] rfl ?_
      exact ih (v1 + 1) q15 r hL kE

set_option maxRecDepth 20000 in
theorem cl_X12_image_96 (G : GG) (K : KQ)   : ∀ (n : Nat) (v1 : Int32) (h : AH) (r : AH), f_X12_image_l96 n v1 h = some r → J G mX12_image 2 0 0 K 119 [] [] r → J G mX12_image 2 0 0 K 96 [(0, .ref (ad G 193)), (1, .int v1)] [] h := by
  intro n
  induction n with
  | zero => intro v1 h r hL; cases hL
  | succ n ih =>
    intro v1 h r hL kE
    unfold f_X12_image_l96 at hL
    refine j_iload_n 1 dX12_image_96 rfl ?_
    refine j_iconst 4 dX12_image_97 (by decide) ?_
    refine j_icmp_ge 119 dX12_image_98 (by decide) (fun z17 => ?_) (fun z17 => ?_)
    · replace hL := (if_pos z17).symm.trans hL
      cases hL
      refine j_sub [] rfl ?_
      exact kE 
    · replace hL := (if_neg z17).symm.trans hL
      refine j_aload_n 0 dX12_image_101 rfl ?_
      refine jg_RX12_155 rfl sh_193 dX12_image_102 ?_
      refine j_iload_n 1 dX12_image_105 rfl ?_
      refine j_aload_n 0 dX12_image_106 rfl ?_
      refine jg_RX12_96 rfl sh_193 dX12_image_107 ?_
      refine j_iload_n 1 dX12_image_110 rfl ?_
      obtain ⟨g18, hL⟩ := gd_ex hL
      refine j_iald (shf_12_25 sh_193) (ib_in g18) dX12_image_111 ?_
      obtain ⟨g19, hL⟩ := gd_ex hL
      refine j_iast (shf_12_59 sh_193) (ib_in g19) dX12_image_112 ?_
      obtain ⟨h20, eh20, hL⟩ := lt_ex hL
      refine j_heap eh20 ?_
      refine j_iinc (lv' := [(1, .int (v1 + 1)), (0, .ref (ad G 193))]) 1 dX12_image_113 rfl rfl (by decide) rfl ?_
      refine j_goto 96 dX12_image_116 (by decide) ?_
      refine j_sub [1, 0] rfl ?_
      exact ih (v1 + 1) h20 r hL kE

set_option maxRecDepth 20000 in
theorem c_X12_image (G : GG)  (h : AH) (r : AH) (hL : f_X12_image h = some r) : SpV G 2 mX12_image [.ref (ad G 193)] h r := by
  refine sp_v pf_X12_image (Nat.le_of_ble_eq_true rfl) ?_
  show J G mX12_image 2 0 0 (KMv G r) 0 [(0, .ref (ad G 193))] [] h
  obtain ⟨K, hK⟩ : ∃ K, K = KMv G r := ⟨_, rfl⟩
  rw [← hK]
  unfold f_X12_image at hL
  refine j_aload_n 0 dX12_image_0 rfl ?_
  refine j_iconst 0 dX12_image_1 (by decide) ?_
  refine jp_RX12_158 rfl sh_193 dX12_image_2 ?_
  obtain ⟨h1, eh1, hL⟩ := lt_ex hL
  refine j_heap eh1 ?_
  refine j_aload_n 0 dX12_image_5 rfl ?_
  refine j_iconst 1 dX12_image_6 (by decide) ?_
  refine jp_RX12_455 rfl sh_193 rfl rfl dX12_image_7 ?_
  obtain ⟨h2, eh2, hL⟩ := lt_ex hL
  refine j_heap eh2 ?_
  refine j_iconst 0 dX12_image_10 (by decide) ?_
  refine j_istore_n (lv' := [(1, .int 0), (0, .ref (ad G 193))]) dX12_image_11 (by decide) rfl ?_
  obtain ⟨q16, hq16, hL⟩ := bnd_ex hL
  refine j_sub [1, 0] rfl ?_
  refine cl_X12_image_12 G K  FU 0 h2 q16 hq16 ?_
  refine j_iconst 0 dX12_image_94 (by decide) ?_
  refine j_istore_n (lv' := [(1, .int 0), (0, .ref (ad G 193))]) dX12_image_95 (by decide) rfl ?_
  obtain ⟨q21, hq21, hL⟩ := bnd_ex hL
  refine j_sub [1, 0] rfl ?_
  refine cl_X12_image_96 G K  FU 0 q16 q21 hq21 ?_
  cases hL
  exact j_retv dX12_image_119 rfl hK

def f_X12_restore_l45 (v1 : Int32) (v2 : Bool) : Nat → Int32 → AH → Option (AH)
  | 0, _, _ => none
  | n + 1, v3, h => gd (ib v1 8 = true) (if (hia h 196 (cl v1)) ≤ v3 then some h else lt (fun (x14 : Int32) => gd (ib (f_X12_at v1 v3) 320 = true) (lt (sia h 208 (cl (f_X12_at v1 v3)) x14) (fun h16 => if v2 = true then gd (ib (f_X12_at v1 v3) 240 = true) (gd (ib (f_X12_at v1 v3) 320 = true) (lt (sia h16 209 (cl (f_X12_at v1 v3)) (hia h16 233 (cl (f_X12_at v1 v3)))) (fun h22 => f_X12_restore_l45 v1 v2 n (v3 + 1) h22))) else gd (ib (f_X12_at v1 v3) 320 = true) (lt (sia h16 209 (cl (f_X12_at v1 v3)) 0) (fun h19 => f_X12_restore_l45 v1 v2 n (v3 + 1) h19))))) (fun j12 => if v2 = true then gd (ib (f_X12_at v1 v3) 240 = true) (j12 (hia h 232 (cl (f_X12_at v1 v3)))) else j12 (-1)))
def f_X12_restore_l16  : Nat → Int32 → AH → Option (AH)
  | 0, _, _ => none
  | n + 1, v1, h => if 6 ≤ v1 then some h else gd (ib v1 6 = true) (gd (ib v1 8 = true) (lt (fun (x8 : Bool) => bnd (f_X12_restore_l45 v1 x8 FU 0 h) (fun q23 => f_X12_restore_l16 n (v1 + 1) q23)) (fun j7 => if (hia h 234 (cl v1)) = (hia h 201 (cl v1)) then j7 true else j7 false)))
def f_X12_restore_l125  : Nat → Int32 → AH → Option (AH)
  | 0, _, _ => none
  | n + 1, v1, h => if 4 ≤ v1 then some h else gd (ib v1 4 = true) (gd (ib v1 4 = true) (lt (sia h 218 (cl v1) (hia h 235 (cl v1))) (fun h28 => f_X12_restore_l125 n (v1 + 1) h28)))
def f_X12_restore  (h : AH) : Option (Bool × AH) := lt (sfi h 193 2 0) (fun h1 => if (hfi h1 193 55) = 0 then some (false, h1) else bnd (f_X12_restore_l16 FU 0 h1) (fun q24 => bnd (f_X12_restore_l125 FU 0 q24) (fun q29 => some (true, q29))))
set_option maxRecDepth 20000 in
theorem cl_X12_restore_45 (G : GG) (K : KQ) (v1 : Int32) (v2 : Bool)  : ∀ (n : Nat) (v3 : Int32) (h : AH) (r : AH), f_X12_restore_l45 v1 v2 n v3 h = some r → J G mX12_restore 2 0 0 K 117 [(0, .ref (ad G 193)), (1, .int v1)] [] r → J G mX12_restore 2 0 0 K 45 [(0, .ref (ad G 193)), (1, .int v1), (2, .int (bI v2)), (3, .int v3)] [] h := by
  intro n
  induction n with
  | zero => intro v3 h r hL; cases hL
  | succ n ih =>
    intro v3 h r hL kE
    unfold f_X12_restore_l45 at hL
    refine j_iload_n 3 dX12_restore_45 rfl ?_
    refine j_aload_n 0 dX12_restore_46 rfl ?_
    refine jg_RX12_32 rfl sh_193 dX12_restore_47 ?_
    refine j_iload_n 1 dX12_restore_50 rfl ?_
    obtain ⟨g9, hL⟩ := gd_ex hL
    refine j_iald (shf_12_3 sh_193) (ib_in g9) dX12_restore_51 ?_
    refine j_icmp_ge 117 dX12_restore_52 (by decide) (fun z10 => ?_) (fun z10 => ?_)
    · replace hL := (if_pos z10).symm.trans hL
      cases hL
      refine j_sub [0, 1] rfl ?_
      exact kE 
    · replace hL := (if_neg z10).symm.trans hL
      refine j_aload_n 0 dX12_restore_55 rfl ?_
      refine jg_RX12_66 rfl sh_193 dX12_restore_56 ?_
      refine j_iload_n 1 dX12_restore_59 rfl ?_
      refine j_iload_n 3 dX12_restore_60 rfl ?_
      refine j_callSi (c_X12_at G v1 v3 h) cv_RX12_244 rfl (by decide) rfl rfl (Nat.le_of_ble_eq_true rfl) dX12_restore_61 (by decide) ?_
      refine j_iload_n 2 dX12_restore_64 rfl ?_
      obtain ⟨j12, ej12, hL⟩ := lt_ex hL
      have kj12 : ∀ (x14 : Int32), j12 x14 = some r → J G mX12_restore 2 0 0 K 82 [(0, .ref (ad G 193)), (1, .int v1), (2, .int (bI v2)), (3, .int v3)] [.int x14, .int (f_X12_at v1 v3), .ref (ad G 208)] h := by
        intro x14 hL
        rw [ej12] at hL
        replace hL : (gd (ib (f_X12_at v1 v3) 320 = true) (lt (sia h 208 (cl (f_X12_at v1 v3)) x14) (fun h16 => if v2 = true then gd (ib (f_X12_at v1 v3) 240 = true) (gd (ib (f_X12_at v1 v3) 320 = true) (lt (sia h16 209 (cl (f_X12_at v1 v3)) (hia h16 233 (cl (f_X12_at v1 v3)))) (fun h22 => f_X12_restore_l45 v1 v2 n (v3 + 1) h22))) else gd (ib (f_X12_at v1 v3) 320 = true) (lt (sia h16 209 (cl (f_X12_at v1 v3)) 0) (fun h19 => f_X12_restore_l45 v1 v2 n (v3 + 1) h19))))) = some r := hL
        obtain ⟨g15, hL⟩ := gd_ex hL
        refine j_iast (shf_12_15 sh_193) (ib_in g15) dX12_restore_82 ?_
        obtain ⟨h16, eh16, hL⟩ := lt_ex hL
        refine j_heap eh16 ?_
        refine j_aload_n 0 dX12_restore_83 rfl ?_
        refine jg_RX12_69 rfl sh_193 dX12_restore_84 ?_
        refine j_iload_n 1 dX12_restore_87 rfl ?_
        refine j_iload_n 3 dX12_restore_88 rfl ?_
        refine j_callSi (c_X12_at G v1 v3 h16) cv_RX12_244 rfl (by decide) rfl rfl (Nat.le_of_ble_eq_true rfl) dX12_restore_89 (by decide) ?_
        refine j_iload_n 2 dX12_restore_92 rfl ?_
        refine j_ifz_eq 109 dX12_restore_93 (by decide) (fun z17 => ?_) (fun z17 => ?_)
        · replace hL := (if_neg z17).symm.trans hL
          refine j_iconst 0 dX12_restore_109 (by decide) ?_
          obtain ⟨g18, hL⟩ := gd_ex hL
          refine j_iast (shf_12_16 sh_193) (ib_in g18) dX12_restore_110 ?_
          obtain ⟨h19, eh19, hL⟩ := lt_ex hL
          refine j_heap eh19 ?_
          refine j_iinc (lv' := [(3, .int (v3 + 1)), (0, .ref (ad G 193)), (1, .int v1), (2, .int (bI v2))]) 3 dX12_restore_111 rfl rfl (by decide) rfl ?_
          refine j_goto 45 dX12_restore_114 (by decide) ?_
          refine j_sub [1, 2, 3, 0] rfl ?_
          exact ih (v3 + 1) h19 r hL kE
        · replace hL := (if_pos z17).symm.trans hL
          refine j_aload_n 0 dX12_restore_96 rfl ?_
          refine jg_RX12_149 rfl sh_193 dX12_restore_97 ?_
          refine j_iload_n 1 dX12_restore_100 rfl ?_
          refine j_iload_n 3 dX12_restore_101 rfl ?_
          refine j_callSi (c_X12_at G v1 v3 h16) cv_RX12_244 rfl (by decide) rfl rfl (Nat.le_of_ble_eq_true rfl) dX12_restore_102 (by decide) ?_
          obtain ⟨g20, hL⟩ := gd_ex hL
          refine j_iald (shf_12_57 sh_193) (ib_in g20) dX12_restore_105 ?_
          refine j_goto 110 dX12_restore_106 (by decide) ?_
          obtain ⟨g21, hL⟩ := gd_ex hL
          refine j_iast (shf_12_16 sh_193) (ib_in g21) dX12_restore_110 ?_
          obtain ⟨h22, eh22, hL⟩ := lt_ex hL
          refine j_heap eh22 ?_
          refine j_iinc (lv' := [(3, .int (v3 + 1)), (0, .ref (ad G 193)), (1, .int v1), (2, .int (bI v2))]) 3 dX12_restore_111 rfl rfl (by decide) rfl ?_
          refine j_goto 45 dX12_restore_114 (by decide) ?_
          refine j_sub [1, 2, 3, 0] rfl ?_
          exact ih (v3 + 1) h22 r hL kE
      refine j_ifz_eq 81 dX12_restore_65 (by decide) (fun z11 => ?_) (fun z11 => ?_)
      · replace hL := (if_neg z11).symm.trans hL
        refine j_iconst (-1) dX12_restore_81 (by decide) ?_
        refine j_sub [0, 1, 2, 3] rfl ?_
        exact kj12 (-1) hL
      · replace hL := (if_pos z11).symm.trans hL
        refine j_aload_n 0 dX12_restore_68 rfl ?_
        refine jg_RX12_146 rfl sh_193 dX12_restore_69 ?_
        refine j_iload_n 1 dX12_restore_72 rfl ?_
        refine j_iload_n 3 dX12_restore_73 rfl ?_
        refine j_callSi (c_X12_at G v1 v3 h) cv_RX12_244 rfl (by decide) rfl rfl (Nat.le_of_ble_eq_true rfl) dX12_restore_74 (by decide) ?_
        obtain ⟨g13, hL⟩ := gd_ex hL
        refine j_iald (shf_12_56 sh_193) (ib_in g13) dX12_restore_77 ?_
        refine j_goto 82 dX12_restore_78 (by decide) ?_
        refine j_sub [0, 1, 2, 3] rfl ?_
        exact kj12 (hia h 232 (cl (f_X12_at v1 v3))) hL

set_option maxRecDepth 20000 in
theorem cl_X12_restore_16 (G : GG) (K : KQ)   : ∀ (n : Nat) (v1 : Int32) (h : AH) (r : AH), f_X12_restore_l16 n v1 h = some r → J G mX12_restore 2 0 0 K 123 [(0, .ref (ad G 193))] [] r → J G mX12_restore 2 0 0 K 16 [(0, .ref (ad G 193)), (1, .int v1)] [] h := by
  intro n
  induction n with
  | zero => intro v1 h r hL; cases hL
  | succ n ih =>
    intro v1 h r hL kE
    unfold f_X12_restore_l16 at hL
    refine j_iload_n 1 dX12_restore_16 rfl ?_
    refine j_bipush 6 dX12_restore_17 (by decide) ?_
    refine j_icmp_ge 123 dX12_restore_19 (by decide) (fun z3 => ?_) (fun z3 => ?_)
    · replace hL := (if_pos z3).symm.trans hL
      cases hL
      refine j_sub [0] rfl ?_
      exact kE 
    · replace hL := (if_neg z3).symm.trans hL
      refine j_aload_n 0 dX12_restore_22 rfl ?_
      refine jg_RX12_152 rfl sh_193 dX12_restore_23 ?_
      refine j_iload_n 1 dX12_restore_26 rfl ?_
      obtain ⟨g4, hL⟩ := gd_ex hL
      refine j_iald (shf_12_58 sh_193) (ib_in g4) dX12_restore_27 ?_
      refine j_aload_n 0 dX12_restore_28 rfl ?_
      refine jg_RX12_47 rfl sh_193 dX12_restore_29 ?_
      refine j_iload_n 1 dX12_restore_32 rfl ?_
      obtain ⟨g5, hL⟩ := gd_ex hL
      refine j_iald (shf_12_8 sh_193) (ib_in g5) dX12_restore_33 ?_
      obtain ⟨j7, ej7, hL⟩ := lt_ex hL
      have kj7 : ∀ (x8 : Bool), j7 x8 = some r → J G mX12_restore 2 0 0 K 42 [(0, .ref (ad G 193)), (1, .int v1)] [.int (bI x8)] h := by
        intro x8 hL
        rw [ej7] at hL
        replace hL : (bnd (f_X12_restore_l45 v1 x8 FU 0 h) (fun q23 => f_X12_restore_l16 n (v1 + 1) q23)) = some r := hL
        refine j_istore_n (lv' := [(2, .int (bI x8)), (0, .ref (ad G 193)), (1, .int v1)]) dX12_restore_42 (by decide) rfl ?_
        refine j_iconst 0 dX12_restore_43 (by decide) ?_
        refine j_istore_n (lv' := [(3, .int 0), (2, .int (bI x8)), (0, .ref (ad G 193)), (1, .int v1)]) dX12_restore_44 (by decide) rfl ?_
        obtain ⟨q23, hq23, hL⟩ := bnd_ex hL
        refine j_sub [2, 3, 1, 0] rfl ?_
        refine cl_X12_restore_45 G K v1 x8 FU 0 h q23 hq23 ?_
        refine j_iinc (lv' := [(1, .int (v1 + 1)), (0, .ref (ad G 193))]) 1 dX12_restore_117 rfl rfl (by decide) rfl ?_
        refine j_goto 16 dX12_restore_120 (by decide) ?_
        refine j_sub [1, 0] rfl ?_
        exact ih (v1 + 1) q23 r hL kE
      refine j_icmp_ne 41 dX12_restore_34 (by decide) (fun z6 => ?_) (fun z6 => ?_)
      · replace hL := (if_neg z6).symm.trans hL
        refine j_iconst 0 dX12_restore_41 (by decide) ?_
        refine j_sub [0, 1] rfl ?_
        exact kj7 false hL
      · replace hL := (if_pos z6).symm.trans hL
        refine j_iconst 1 dX12_restore_37 (by decide) ?_
        refine j_goto 42 dX12_restore_38 (by decide) ?_
        refine j_sub [0, 1] rfl ?_
        exact kj7 true hL

set_option maxRecDepth 20000 in
theorem cl_X12_restore_125 (G : GG) (K : KQ)   : ∀ (n : Nat) (v1 : Int32) (h : AH) (r : AH), f_X12_restore_l125 n v1 h = some r → J G mX12_restore 2 0 0 K 148 [] [] r → J G mX12_restore 2 0 0 K 125 [(0, .ref (ad G 193)), (1, .int v1)] [] h := by
  intro n
  induction n with
  | zero => intro v1 h r hL; cases hL
  | succ n ih =>
    intro v1 h r hL kE
    unfold f_X12_restore_l125 at hL
    refine j_iload_n 1 dX12_restore_125 rfl ?_
    refine j_iconst 4 dX12_restore_126 (by decide) ?_
    refine j_icmp_ge 148 dX12_restore_127 (by decide) (fun z25 => ?_) (fun z25 => ?_)
    · replace hL := (if_pos z25).symm.trans hL
      cases hL
      refine j_sub [] rfl ?_
      exact kE 
    · replace hL := (if_neg z25).symm.trans hL
      refine j_aload_n 0 dX12_restore_130 rfl ?_
      refine jg_RX12_96 rfl sh_193 dX12_restore_131 ?_
      refine j_iload_n 1 dX12_restore_134 rfl ?_
      refine j_aload_n 0 dX12_restore_135 rfl ?_
      refine jg_RX12_155 rfl sh_193 dX12_restore_136 ?_
      refine j_iload_n 1 dX12_restore_139 rfl ?_
      obtain ⟨g26, hL⟩ := gd_ex hL
      refine j_iald (shf_12_59 sh_193) (ib_in g26) dX12_restore_140 ?_
      obtain ⟨g27, hL⟩ := gd_ex hL
      refine j_iast (shf_12_25 sh_193) (ib_in g27) dX12_restore_141 ?_
      obtain ⟨h28, eh28, hL⟩ := lt_ex hL
      refine j_heap eh28 ?_
      refine j_iinc (lv' := [(1, .int (v1 + 1)), (0, .ref (ad G 193))]) 1 dX12_restore_142 rfl rfl (by decide) rfl ?_
      refine j_goto 125 dX12_restore_145 (by decide) ?_
      refine j_sub [1, 0] rfl ?_
      exact ih (v1 + 1) h28 r hL kE

set_option maxRecDepth 20000 in
theorem c_X12_restore (G : GG)  (h : AH) (r : Bool × AH) (hL : f_X12_restore h = some r) : SpI G 2 mX12_restore [.ref (ad G 193)] h (bI r.1) r.2 := by
  refine sp_i pf_X12_restore (Nat.le_of_ble_eq_true rfl) ?_
  show J G mX12_restore 2 0 0 (KMi G (bI r.1) r.2) 0 [(0, .ref (ad G 193))] [] h
  obtain ⟨K, hK⟩ : ∃ K, K = KMi G (bI r.1) r.2 := ⟨_, rfl⟩
  rw [← hK]
  unfold f_X12_restore at hL
  refine j_aload_n 0 dX12_restore_0 rfl ?_
  refine j_iconst 0 dX12_restore_1 (by decide) ?_
  refine jp_RX12_158 rfl sh_193 dX12_restore_2 ?_
  obtain ⟨h1, eh1, hL⟩ := lt_ex hL
  refine j_heap eh1 ?_
  refine j_aload_n 0 dX12_restore_5 rfl ?_
  refine jg_RX12_455 rfl sh_193 dX12_restore_6 ?_
  refine j_if_ne 14 dX12_restore_9 (by decide) (fun z2 => ?_) (fun z2 => ?_)
  · replace hL := (if_neg z2).symm.trans hL
    refine j_iconst 0 dX12_restore_14 (by decide) ?_
    refine j_istore_n (lv' := [(1, .int 0), (0, .ref (ad G 193))]) dX12_restore_15 (by decide) rfl ?_
    obtain ⟨q24, hq24, hL⟩ := bnd_ex hL
    refine j_sub [1, 0] rfl ?_
    refine cl_X12_restore_16 G K  FU 0 h1 q24 hq24 ?_
    refine j_iconst 0 dX12_restore_123 (by decide) ?_
    refine j_istore_n (lv' := [(1, .int 0), (0, .ref (ad G 193))]) dX12_restore_124 (by decide) rfl ?_
    obtain ⟨q29, hq29, hL⟩ := bnd_ex hL
    refine j_sub [1, 0] rfl ?_
    refine cl_X12_restore_125 G K  FU 0 q24 q29 hq29 ?_
    refine j_iconst 1 dX12_restore_148 (by decide) ?_
    cases hL
    exact j_ret1 dX12_restore_149 rfl hK
  · replace hL := (if_pos z2).symm.trans hL
    refine j_iconst 0 dX12_restore_12 (by decide) ?_
    cases hL
    exact j_ret0 dX12_restore_13 rfl hK

