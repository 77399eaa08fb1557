def f_X9_apartFrom_l10 (a0 : Nat) (a1 : Nat) (a2 : Nat) : Nat → Int32 → AH → Option (AH)
  | 0, _, _ => none
  | n + 1, v3, h => if (hfi h a1 0) ≤ v3 then some h else gd (ib v3 40 = true) (gd (ib (hia h (a1 + 1) (cl v3)) 12 = true) (gd (ib v3 40 = true) (gd (ib v3 40 = true) (bnd (f_X10_yearly a2 (hia h (a1 + 1) (cl v3)) (hia h (a1 + 3) (cl v3)) h) (fun q7 => gd (ib (hia h (a1 + 1) (cl v3)) 12 = true) (lt (sia h (a0 + 8) (cl (hia h (a1 + 1) (cl v3))) ((hia h (a0 + 8) (cl (hia h (a1 + 1) (cl v3)))) + q7)) (fun h9 => f_X9_apartFrom_l10 a0 a1 a2 n (v3 + 1) h9)))))))
def f_X9_apartFrom_l62 (a0 : Nat) : Nat → Int64 → Int64 → Int32 → AH → Option (Int64 × Int64 × AH)
  | 0, _, _, _, _ => none
  | n + 1, v3, v5, v7, h => if 12 ≤ v7 then some (v3, v5, h) else gd (ib v7 12 = true) (gd (ib v7 12 = true) (bnd (f_X11_cutDown ((hia h (a0 + 8) (cl v7)).toInt64) ((hia h (a0 + 7) (cl v7)).toInt64)) (fun q14 => gd (ib v7 12 = true) (lt (sia h (a0 + 8) (cl v7) q14) (fun h16 => gd (ib v7 12 = true) (gd (ib v7 12 = true) (f_X9_apartFrom_l62 a0 n (v3 + ((hia h16 (a0 + 8) (cl v7)).toInt64)) (v5 + ((hia h16 (a0 + 6) (cl v7)).toInt64)) (v7 + 1) h16)))))))
def f_X9_apartFrom_l131 (a0 : Nat) (v3 : Int64) (v5 : Int64) (h : AH) : Nat → Int64 → Int32 → Option (Int64)
  | 0, _, _ => none
  | n + 1, v7, v9 => if 12 ≤ v9 then some v7 else gd (ib v9 12 = true) (gd (ib v9 12 = true) (f_X9_apartFrom_l131 a0 v3 v5 h n (v7 + (f_J9_abs_067f4 ((((hia h (a0 + 6) (cl v9)).toInt64) * v3) - (((hia h (a0 + 8) (cl v9)).toInt64) * v5)))) (v9 + 1)))
def f_X9_apartFrom (a0 : Nat) (a1 : Nat) (a2 : Nat) (h : AH) : Option (Int64 × AH) := bnd (f_J7_fill_53178 (a0 + 8) 12 0 h) (fun q1 => bnd (f_X9_apartFrom_l10 a0 a1 a2 FU 0 q1) (fun q10 => bnd (f_X9_apartFrom_l62 a0 FU 0 0 0 q10) (fun q19 => bnd (f_X9_apartFrom_l131 a0 q19.1 q19.2.1 q19.2.2 FU 0 0) (fun q23 => some (q23, q19.2.2)))))
set_option maxRecDepth 20000 in
theorem cl_X9_apartFrom_10 (G : GG) (K : KQ) (a0 : Nat) (a1 : Nat) (a2 : Nat) (s0 : SH a0 = (9, 0)) (s1 : SH a1 = (0, 0)) (s2 : SH a2 = (10, 0)) : ∀ (n : Nat) (v3 : Int32) (h : AH) (r : AH), f_X9_apartFrom_l10 a0 a1 a2 n v3 h = some r → J G mX9_apartFrom 3 0 0 K 54 [(0, .ref (ad G a0))] [] r → J G mX9_apartFrom 3 0 0 K 10 [(0, .ref (ad G a0)), (1, .ref (ad G a1)), (2, .ref (ad G a2)), (3, .int v3)] [] h := by
  intro n
  induction n with
  | zero => intro v3 h r hL; cases hL
  | succ n ih =>
    intro v3 h r hL kE
    unfold f_X9_apartFrom_l10 at hL
    refine j_iload_n 3 dX9_apartFrom_10 rfl ?_
    refine j_aload_n 1 dX9_apartFrom_11 rfl ?_
    refine jg_RX9_36 rfl s1 dX9_apartFrom_12 ?_
    refine j_icmp_ge 54 dX9_apartFrom_15 (by decide) (fun z2 => ?_) (fun z2 => ?_)
    · replace hL := (if_pos z2).symm.trans hL
      cases hL
      refine j_sub [0] rfl ?_
      exact kE 
    · replace hL := (if_neg z2).symm.trans hL
      refine j_aload_n 0 dX9_apartFrom_18 rfl ?_
      refine jg_RX9_33 rfl s0 dX9_apartFrom_19 ?_
      refine j_aload_n 1 dX9_apartFrom_22 rfl ?_
      refine jg_RX9_97 rfl s1 dX9_apartFrom_23 ?_
      refine j_iload_n 3 dX9_apartFrom_26 rfl ?_
      obtain ⟨g3, hL⟩ := gd_ex hL
      refine j_iald (shf_0_6 s1) (ib_in g3) dX9_apartFrom_27 ?_
      refine j_dup2 dX9_apartFrom_28 rfl rfl ?_
      obtain ⟨g4, hL⟩ := gd_ex hL
      refine j_iald (shf_9_7 s0) (ib_in g4) dX9_apartFrom_29 ?_
      refine j_aload_n 2 dX9_apartFrom_30 rfl ?_
      refine j_aload_n 1 dX9_apartFrom_31 rfl ?_
      refine jg_RX9_97 rfl s1 dX9_apartFrom_32 ?_
      refine j_iload_n 3 dX9_apartFrom_35 rfl ?_
      obtain ⟨g5, hL⟩ := gd_ex hL
      refine j_iald (shf_0_6 s1) (ib_in g5) dX9_apartFrom_36 ?_
      refine j_aload_n 1 dX9_apartFrom_37 rfl ?_
      refine jg_RX9_108 rfl s1 dX9_apartFrom_38 ?_
      refine j_iload_n 3 dX9_apartFrom_41 rfl ?_
      obtain ⟨g6, hL⟩ := gd_ex hL
      refine j_iald (shf_0_8 s1) (ib_in g6) dX9_apartFrom_42 ?_
      obtain ⟨q7, hq7, hL⟩ := bnd_ex hL
      refine j_callVi (c_X10_yearly G a2 s2 (hia h (a1 + 1) (cl v3)) (hia h (a1 + 3) (cl v3)) h _ hq7) cv_RX9_111 rfl s2 (by decide) rfl (by decide) rfl rfl (Nat.le_of_ble_eq_true rfl) dX9_apartFrom_43 (by decide) ?_
      refine j_iadd dX9_apartFrom_46 ?_
      obtain ⟨g8, hL⟩ := gd_ex hL
      refine j_iast (shf_9_7 s0) (ib_in g8) dX9_apartFrom_47 ?_
      obtain ⟨h9, eh9, hL⟩ := lt_ex hL
      refine j_heap eh9 ?_
      refine j_iinc (lv' := [(3, .int (v3 + 1)), (0, .ref (ad G a0)), (1, .ref (ad G a1)), (2, .ref (ad G a2))]) 3 dX9_apartFrom_48 rfl rfl (by decide) rfl ?_
      refine j_goto 10 dX9_apartFrom_51 (by decide) ?_
      refine j_sub [1, 2, 3, 0] rfl ?_
      exact ih (v3 + 1) h9 r hL kE

set_option maxRecDepth 20000 in
theorem cl_X9_apartFrom_62 (G : GG) (K : KQ) (a0 : Nat) (s0 : SH a0 = (9, 0)) : ∀ (n : Nat) (v3 : Int64) (v5 : Int64) (v7 : Int32) (h : AH) (r : Int64 × Int64 × AH), f_X9_apartFrom_l62 a0 n v3 v5 v7 h = some r → J G mX9_apartFrom 3 0 0 K 125 [(0, .ref (ad G a0)), (3, .long r.1), (5, .long r.2.1)] [] r.2.2 → J G mX9_apartFrom 3 0 0 K 62 [(0, .ref (ad G a0)), (3, .long v3), (5, .long v5), (7, .int v7)] [] h := by
  intro n
  induction n with
  | zero => intro v3 v5 v7 h r hL; cases hL
  | succ n ih =>
    intro v3 v5 v7 h r hL kE
    unfold f_X9_apartFrom_l62 at hL
    refine j_iload 3 dX9_apartFrom_62 rfl ?_
    refine j_bipush 12 dX9_apartFrom_64 (by decide) ?_
    refine j_icmp_ge 125 dX9_apartFrom_66 (by decide) (fun z11 => ?_) (fun z11 => ?_)
    · replace hL := (if_pos z11).symm.trans hL
      cases hL
      refine j_sub [0, 1, 2] rfl ?_
      exact kE 
    · replace hL := (if_neg z11).symm.trans hL
      refine j_aload_n 0 dX9_apartFrom_69 rfl ?_
      refine jg_RX9_33 rfl s0 dX9_apartFrom_70 ?_
      refine j_iload 3 dX9_apartFrom_73 rfl ?_
      refine j_aload_n 0 dX9_apartFrom_75 rfl ?_
      refine jg_RX9_33 rfl s0 dX9_apartFrom_76 ?_
      refine j_iload 3 dX9_apartFrom_79 rfl ?_
      obtain ⟨g12, hL⟩ := gd_ex hL
      refine j_iald (shf_9_7 s0) (ib_in g12) dX9_apartFrom_81 ?_
      refine j_i2l dX9_apartFrom_82 ?_
      refine j_aload_n 0 dX9_apartFrom_83 rfl ?_
      refine jg_RX9_30 rfl s0 dX9_apartFrom_84 ?_
      refine j_iload 3 dX9_apartFrom_87 rfl ?_
      obtain ⟨g13, hL⟩ := gd_ex hL
      refine j_iald (shf_9_6 s0) (ib_in g13) dX9_apartFrom_89 ?_
      refine j_i2l dX9_apartFrom_90 ?_
      obtain ⟨q14, hq14, hL⟩ := bnd_ex hL
      refine j_callNi (c_X11_cutDown G ((hia h (a0 + 8) (cl v7)).toInt64) ((hia h (a0 + 7) (cl v7)).toInt64) h _ hq14) cv_RX9_85 rfl (by decide) rfl rfl (Nat.le_of_ble_eq_true rfl) dX9_apartFrom_91 (by decide) ?_
      obtain ⟨g15, hL⟩ := gd_ex hL
      refine j_iast (shf_9_7 s0) (ib_in g15) dX9_apartFrom_94 ?_
      obtain ⟨h16, eh16, hL⟩ := lt_ex hL
      refine j_heap eh16 ?_
      refine j_lload_n 1 dX9_apartFrom_95 rfl ?_
      refine j_aload_n 0 dX9_apartFrom_96 rfl ?_
      refine jg_RX9_33 rfl s0 dX9_apartFrom_97 ?_
      refine j_iload 3 dX9_apartFrom_100 rfl ?_
      obtain ⟨g17, hL⟩ := gd_ex hL
      refine j_iald (shf_9_7 s0) (ib_in g17) dX9_apartFrom_102 ?_
      refine j_i2l dX9_apartFrom_103 ?_
      refine j_ladd dX9_apartFrom_104 ?_
      refine j_lstore_n (lv' := [(3, .long (v3 + ((hia h16 (a0 + 8) (cl v7)).toInt64))), (0, .ref (ad G a0)), (5, .long v5), (7, .int v7)]) dX9_apartFrom_105 (by decide) rfl ?_
      refine j_lload 2 dX9_apartFrom_106 rfl ?_
      refine j_aload_n 1 dX9_apartFrom_108 rfl ?_
      refine jg_RX9_27 rfl s0 dX9_apartFrom_109 ?_
      refine j_iload 3 dX9_apartFrom_112 rfl ?_
      obtain ⟨g18, hL⟩ := gd_ex hL
      refine j_iald (shf_9_5 s0) (ib_in g18) dX9_apartFrom_114 ?_
      refine j_i2l dX9_apartFrom_115 ?_
      refine j_ladd dX9_apartFrom_116 ?_
      refine j_lstore (lv' := [(5, .long (v5 + ((hia h16 (a0 + 6) (cl v7)).toInt64))), (3, .long (v3 + ((hia h16 (a0 + 8) (cl v7)).toInt64))), (0, .ref (ad G a0)), (7, .int v7)]) dX9_apartFrom_117 (by decide) rfl ?_
      refine j_iinc (lv' := [(7, .int (v7 + 1)), (5, .long (v5 + ((hia h16 (a0 + 6) (cl v7)).toInt64))), (3, .long (v3 + ((hia h16 (a0 + 8) (cl v7)).toInt64))), (0, .ref (ad G a0))]) 3 dX9_apartFrom_119 rfl rfl (by decide) rfl ?_
      refine j_goto 62 dX9_apartFrom_122 (by decide) ?_
      refine j_sub [3, 2, 1, 0] rfl ?_
      exact ih (v3 + ((hia h16 (a0 + 8) (cl v7)).toInt64)) (v5 + ((hia h16 (a0 + 6) (cl v7)).toInt64)) (v7 + 1) h16 r hL kE

set_option maxRecDepth 20000 in
theorem cl_X9_apartFrom_131 (G : GG) (K : KQ) (a0 : Nat) (v3 : Int64) (v5 : Int64) (s0 : SH a0 = (9, 0)) : ∀ (n : Nat) (v7 : Int64) (v9 : Int32) (h : AH) (r : Int64), f_X9_apartFrom_l131 a0 v3 v5 h n v7 v9 = some r → J G mX9_apartFrom 3 0 0 K 174 [(7, .long r)] [] h → J G mX9_apartFrom 3 0 0 K 131 [(0, .ref (ad G a0)), (3, .long v3), (5, .long v5), (7, .long v7), (9, .int v9)] [] h := by
  intro n
  induction n with
  | zero => intro v7 v9 h r hL; cases hL
  | succ n ih =>
    intro v7 v9 h r hL kE
    unfold f_X9_apartFrom_l131 at hL
    refine j_iload 4 dX9_apartFrom_131 rfl ?_
    refine j_bipush 12 dX9_apartFrom_133 (by decide) ?_
    refine j_icmp_ge 174 dX9_apartFrom_135 (by decide) (fun z20 => ?_) (fun z20 => ?_)
    · replace hL := (if_pos z20).symm.trans hL
      cases hL
      refine j_sub [3] rfl ?_
      exact kE 
    · replace hL := (if_neg z20).symm.trans hL
      refine j_lload 3 dX9_apartFrom_138 rfl ?_
      refine j_aload_n 0 dX9_apartFrom_140 rfl ?_
      refine jg_RX9_27 rfl s0 dX9_apartFrom_141 ?_
      refine j_iload 4 dX9_apartFrom_144 rfl ?_
      obtain ⟨g21, hL⟩ := gd_ex hL
      refine j_iald (shf_9_5 s0) (ib_in g21) dX9_apartFrom_146 ?_
      refine j_i2l dX9_apartFrom_147 ?_
      refine j_lload_n 1 dX9_apartFrom_148 rfl ?_
      refine j_lmul dX9_apartFrom_149 ?_
      refine j_aload_n 0 dX9_apartFrom_150 rfl ?_
      refine jg_RX9_33 rfl s0 dX9_apartFrom_151 ?_
      refine j_iload 4 dX9_apartFrom_154 rfl ?_
      obtain ⟨g22, hL⟩ := gd_ex hL
      refine j_iald (shf_9_7 s0) (ib_in g22) dX9_apartFrom_156 ?_
      refine j_i2l dX9_apartFrom_157 ?_
      refine j_lload 2 dX9_apartFrom_158 rfl ?_
      refine j_lmul dX9_apartFrom_160 ?_
      refine j_lsub dX9_apartFrom_161 ?_
      refine j_callSl (c_J9_abs_067f4 G ((((hia h (a0 + 6) (cl v9)).toInt64) * v3) - (((hia h (a0 + 8) (cl v9)).toInt64) * v5)) h) cv_RX9_116 rfl (by decide) rfl rfl (Nat.le_of_ble_eq_true rfl) dX9_apartFrom_162 (by decide) ?_
      refine j_ladd dX9_apartFrom_165 ?_
      refine j_lstore (lv' := [(7, .long (v7 + (f_J9_abs_067f4 ((((hia h (a0 + 6) (cl v9)).toInt64) * v3) - (((hia h (a0 + 8) (cl v9)).toInt64) * v5))))), (0, .ref (ad G a0)), (3, .long v3), (5, .long v5), (9, .int v9)]) dX9_apartFrom_166 (by decide) rfl ?_
      refine j_iinc (lv' := [(9, .int (v9 + 1)), (7, .long (v7 + (f_J9_abs_067f4 ((((hia h (a0 + 6) (cl v9)).toInt64) * v3) - (((hia h (a0 + 8) (cl v9)).toInt64) * v5))))), (0, .ref (ad G a0)), (3, .long v3), (5, .long v5)]) 4 dX9_apartFrom_168 rfl rfl (by decide) rfl ?_
      refine j_goto 131 dX9_apartFrom_171 (by decide) ?_
      refine j_sub [2, 3, 4, 1, 0] rfl ?_
      exact ih (v7 + (f_J9_abs_067f4 ((((hia h (a0 + 6) (cl v9)).toInt64) * v3) - (((hia h (a0 + 8) (cl v9)).toInt64) * v5)))) (v9 + 1) h r hL kE

set_option maxRecDepth 20000 in
theorem c_X9_apartFrom (G : GG) (a0 : Nat) (s0 : SH a0 = (9, 0)) (a1 : Nat) (s1 : SH a1 = (0, 0)) (a2 : Nat) (s2 : SH a2 = (10, 0)) (h : AH) (r : Int64 × AH) (hL : f_X9_apartFrom a0 a1 a2 h = some r) : SpL G 3 mX9_apartFrom [.ref (ad G a0), .ref (ad G a1), .ref (ad G a2)] h r.1 r.2 := by
  refine sp_l pf_X9_apartFrom (Nat.le_of_ble_eq_true rfl) ?_
  show J G mX9_apartFrom 3 0 0 (KMl G r.1 r.2) 0 [(0, .ref (ad G a0)), (1, .ref (ad G a1)), (2, .ref (ad G a2))] [] h
  obtain ⟨K, hK⟩ : ∃ K, K = KMl G r.1 r.2 := ⟨_, rfl⟩
  rw [← hK]
  unfold f_X9_apartFrom at hL
  refine j_aload_n 0 dX9_apartFrom_0 rfl ?_
  refine jg_RX9_33 rfl s0 dX9_apartFrom_1 ?_
  refine j_iconst 0 dX9_apartFrom_4 (by decide) ?_
  obtain ⟨q1, hq1, hL⟩ := bnd_ex hL
  refine j_callSv (c_J7_fill_53178 G (a0 + 8) 12 (shf_9_7 s0) 0 h _ hq1) cv_RX9_91 rfl (by decide) rfl rfl (Nat.le_of_ble_eq_true rfl) dX9_apartFrom_5 (by decide) ?_
  refine j_iconst 0 dX9_apartFrom_8 (by decide) ?_
  refine j_istore_n (lv' := [(3, .int 0), (0, .ref (ad G a0)), (1, .ref (ad G a1)), (2, .ref (ad G a2))]) dX9_apartFrom_9 (by decide) rfl ?_
  obtain ⟨q10, hq10, hL⟩ := bnd_ex hL
  refine j_sub [1, 2, 3, 0] rfl ?_
  refine cl_X9_apartFrom_10 G K a0 a1 a2 s0 s1 s2 FU 0 q1 q10 hq10 ?_
  refine j_lconst 0 dX9_apartFrom_54 (by decide) ?_
  refine j_lstore_n (lv' := [(3, .long 0), (0, .ref (ad G a0))]) dX9_apartFrom_55 (by decide) rfl ?_
  refine j_lconst 0 dX9_apartFrom_56 (by decide) ?_
  refine j_lstore (lv' := [(5, .long 0), (3, .long 0), (0, .ref (ad G a0))]) dX9_apartFrom_57 (by decide) rfl ?_
  refine j_iconst 0 dX9_apartFrom_59 (by decide) ?_
  refine j_istore (lv' := [(7, .int 0), (5, .long 0), (3, .long 0), (0, .ref (ad G a0))]) dX9_apartFrom_60 (by decide) rfl ?_
  obtain ⟨q19, hq19, hL⟩ := bnd_ex hL
  refine j_sub [3, 2, 1, 0] rfl ?_
  refine cl_X9_apartFrom_62 G K a0 s0 FU 0 0 0 q10 q19 hq19 ?_
  refine j_lconst 0 dX9_apartFrom_125 (by decide) ?_
  refine j_lstore (lv' := [(7, .long 0), (0, .ref (ad G a0)), (3, .long q19.1), (5, .long q19.2.1)]) dX9_apartFrom_126 (by decide) rfl ?_
  refine j_iconst 0 dX9_apartFrom_128 (by decide) ?_
  refine j_istore (lv' := [(9, .int 0), (7, .long 0), (0, .ref (ad G a0)), (3, .long q19.1), (5, .long q19.2.1)]) dX9_apartFrom_129 (by decide) rfl ?_
  obtain ⟨q23, hq23, hL⟩ := bnd_ex hL
  refine j_sub [2, 3, 4, 1, 0] rfl ?_
  refine cl_X9_apartFrom_131 G K a0 q19.1 q19.2.1 s0 FU 0 0 q19.2.2 q23 hq23 ?_
  refine j_lload 0 dX9_apartFrom_174 rfl ?_
  cases hL
  exact j_retl dX9_apartFrom_176 rfl hK

def f_X11_ownerBy_l8 (a1 : Nat) (a2 : Nat) : Nat → Int32 → Int64 → Int32 → AH → Option (Int32 × AH)
  | 0, _, _, _, _ => none
  | n + 1, v3, v4, v6, h => if 6 ≤ v6 then some (v3, h) else gd (ib v6 6 = true) (gd (SH (hra h 4 (cl v6)) = (10, 0)) (bnd (f_X10_tellsSome (hra h 4 (cl v6)) h) (fun q4 => if q4 = true then gd (ib v6 6 = true) (gd (SH (hra h 4 (cl v6)) = (10, 0)) (bnd (f_X9_apartFrom a2 a1 (hra h 4 (cl v6)) h) (fun q8 => if v3 = (-1) then f_X11_ownerBy_l8 a1 a2 n v6 q8.1 (v6 + 1) q8.2 else if 0 ≤ (lg_cmp q8.1 v4) then f_X11_ownerBy_l8 a1 a2 n v3 v4 (v6 + 1) q8.2 else f_X11_ownerBy_l8 a1 a2 n v6 q8.1 (v6 + 1) q8.2))) else f_X11_ownerBy_l8 a1 a2 n v3 v4 (v6 + 1) h)))
def f_X11_ownerBy (a1 : Nat) (a2 : Nat) (h : AH) : Option (Int32 × AH) := bnd (f_X11_ownerBy_l8 a1 a2 FU (-1) 0 0 h) (fun q11 => some (q11.1, q11.2))
set_option maxRecDepth 20000 in
theorem cl_X11_ownerBy_8 (G : GG) (K : KQ) (a1 : Nat) (a2 : Nat) (s1 : SH a1 = (0, 0)) (s2 : SH a2 = (9, 0)) : ∀ (n : Nat) (v3 : Int32) (v4 : Int64) (v6 : Int32) (h : AH) (r : Int32 × AH), f_X11_ownerBy_l8 a1 a2 n v3 v4 v6 h = some r → J G mX11_ownerBy 4 0 0 K 68 [(3, .int r.1)] [] r.2 → J G mX11_ownerBy 4 0 0 K 8 [(0, .ref (ad G 0)), (1, .ref (ad G a1)), (2, .ref (ad G a2)), (3, .int v3), (4, .long v4), (6, .int v6)] [] h := by
  intro n
  induction n with
  | zero => intro v3 v4 v6 h r hL; cases hL
  | succ n ih =>
    intro v3 v4 v6 h r hL kE
    unfold f_X11_ownerBy_l8 at hL
    refine j_iload 5 dX11_ownerBy_8 rfl ?_
    refine j_bipush 6 dX11_ownerBy_10 (by decide) ?_
    refine j_icmp_ge 68 dX11_ownerBy_12 (by decide) (fun z1 => ?_) (fun z1 => ?_)
    · replace hL := (if_pos z1).symm.trans hL
      cases hL
      refine j_sub [3] rfl ?_
      exact kE 
    · replace hL := (if_neg z1).symm.trans hL
      refine j_aload_n 0 dX11_ownerBy_15 rfl ?_
      refine jg_RX11_24 rfl sh_0 dX11_ownerBy_16 ?_
      refine j_iload 5 dX11_ownerBy_19 rfl ?_
      obtain ⟨g2, hL⟩ := gd_ex hL
      refine j_aldW (shf_11_2 sh_0) (ib_in g2) dX11_ownerBy_21 ?_
      obtain ⟨g3, hL⟩ := gd_ex hL
      obtain ⟨q4, hq4, hL⟩ := bnd_ex hL
      refine j_callVi (c_X10_tellsSome G (hra h 4 (cl v6)) g3 h _ hq4) cv_RX11_452 rfl g3 (by decide) rfl (by decide) rfl rfl (Nat.le_of_ble_eq_true rfl) dX11_ownerBy_22 (by decide) ?_
      refine j_ifz_eq 62 dX11_ownerBy_25 (by decide) (fun z5 => ?_) (fun z5 => ?_)
      · replace hL := (if_neg z5).symm.trans hL
        refine j_iinc (lv' := [(6, .int (v6 + 1)), (0, .ref (ad G 0)), (1, .ref (ad G a1)), (2, .ref (ad G a2)), (3, .int v3), (4, .long v4)]) 5 dX11_ownerBy_62 rfl rfl (by decide) rfl ?_
        refine j_goto 8 dX11_ownerBy_65 (by decide) ?_
        refine j_sub [1, 2, 3, 4, 5, 0] rfl ?_
        exact ih v3 v4 (v6 + 1) h r hL kE
      · replace hL := (if_pos z5).symm.trans hL
        refine j_aload_n 2 dX11_ownerBy_28 rfl ?_
        refine j_aload_n 1 dX11_ownerBy_29 rfl ?_
        refine j_aload_n 0 dX11_ownerBy_30 rfl ?_
        refine jg_RX11_24 rfl sh_0 dX11_ownerBy_31 ?_
        refine j_iload 5 dX11_ownerBy_34 rfl ?_
        obtain ⟨g6, hL⟩ := gd_ex hL
        refine j_aldW (shf_11_2 sh_0) (ib_in g6) dX11_ownerBy_36 ?_
        obtain ⟨g7, hL⟩ := gd_ex hL
        obtain ⟨q8, hq8, hL⟩ := bnd_ex hL
        refine j_callVl (c_X9_apartFrom G a2 s2 a1 s1 (hra h 4 (cl v6)) g7 h _ hq8) cv_RX11_455 rfl s2 (by decide) rfl (by decide) rfl rfl (Nat.le_of_ble_eq_true rfl) dX11_ownerBy_37 (by decide) ?_
        refine j_lstore (lv' := [(7, .long q8.1), (0, .ref (ad G 0)), (1, .ref (ad G a1)), (2, .ref (ad G a2)), (3, .int v3), (4, .long v4), (6, .int v6)]) dX11_ownerBy_40 (by decide) rfl ?_
        refine j_iload_n 4 dX11_ownerBy_42 rfl ?_
        refine j_iconst (-1) dX11_ownerBy_43 (by decide) ?_
        refine j_icmp_eq 55 dX11_ownerBy_44 (by decide) (fun z9 => ?_) (fun z9 => ?_)
        · replace hL := (if_pos z9).symm.trans hL
          refine j_iload 6 dX11_ownerBy_55 rfl ?_
          refine j_istore_n (lv' := [(3, .int v6), (7, .long q8.1), (0, .ref (ad G 0)), (1, .ref (ad G a1)), (2, .ref (ad G a2)), (4, .long v4), (6, .int v6)]) dX11_ownerBy_57 (by decide) rfl ?_
          refine j_lload 1 dX11_ownerBy_58 rfl ?_
          refine j_lstore (lv' := [(4, .long q8.1), (3, .int v6), (7, .long q8.1), (0, .ref (ad G 0)), (1, .ref (ad G a1)), (2, .ref (ad G a2)), (6, .int v6)]) dX11_ownerBy_60 (by decide) rfl ?_
          refine j_iinc (lv' := [(6, .int (v6 + 1)), (4, .long q8.1), (3, .int v6), (7, .long q8.1), (0, .ref (ad G 0)), (1, .ref (ad G a1)), (2, .ref (ad G a2))]) 6 dX11_ownerBy_62 rfl rfl (by decide) rfl ?_
          refine j_goto 8 dX11_ownerBy_65 (by decide) ?_
          refine j_sub [4, 5, 6, 2, 1, 0] rfl ?_
          exact ih v6 q8.1 (v6 + 1) q8.2 r hL kE
        · replace hL := (if_neg z9).symm.trans hL
          refine j_lload 0 dX11_ownerBy_47 rfl ?_
          refine j_lload 5 dX11_ownerBy_49 rfl ?_
          refine j_lcmp dX11_ownerBy_51 ?_
          refine j_if_ge 62 dX11_ownerBy_52 (by decide) (fun z10 => ?_) (fun z10 => ?_)
          · replace hL := (if_pos z10).symm.trans hL
            refine j_iinc (lv' := [(6, .int (v6 + 1)), (7, .long q8.1), (0, .ref (ad G 0)), (1, .ref (ad G a1)), (2, .ref (ad G a2)), (3, .int v3), (4, .long v4)]) 6 dX11_ownerBy_62 rfl rfl (by decide) rfl ?_
            refine j_goto 8 dX11_ownerBy_65 (by decide) ?_
            refine j_sub [2, 3, 4, 5, 6, 0] rfl ?_
            exact ih v3 v4 (v6 + 1) q8.2 r hL kE
          · replace hL := (if_neg z10).symm.trans hL
            refine j_iload 6 dX11_ownerBy_55 rfl ?_
            refine j_istore_n (lv' := [(3, .int v6), (7, .long q8.1), (0, .ref (ad G 0)), (1, .ref (ad G a1)), (2, .ref (ad G a2)), (4, .long v4), (6, .int v6)]) dX11_ownerBy_57 (by decide) rfl ?_
            refine j_lload 1 dX11_ownerBy_58 rfl ?_
            refine j_lstore (lv' := [(4, .long q8.1), (3, .int v6), (7, .long q8.1), (0, .ref (ad G 0)), (1, .ref (ad G a1)), (2, .ref (ad G a2)), (6, .int v6)]) dX11_ownerBy_60 (by decide) rfl ?_
            refine j_iinc (lv' := [(6, .int (v6 + 1)), (4, .long q8.1), (3, .int v6), (7, .long q8.1), (0, .ref (ad G 0)), (1, .ref (ad G a1)), (2, .ref (ad G a2))]) 6 dX11_ownerBy_62 rfl rfl (by decide) rfl ?_
            refine j_goto 8 dX11_ownerBy_65 (by decide) ?_
            refine j_sub [4, 5, 6, 2, 1, 0] rfl ?_
            exact ih v6 q8.1 (v6 + 1) q8.2 r hL kE

set_option maxRecDepth 20000 in
theorem c_X11_ownerBy (G : GG) (a1 : Nat) (s1 : SH a1 = (0, 0)) (a2 : Nat) (s2 : SH a2 = (9, 0)) (h : AH) (r : Int32 × AH) (hL : f_X11_ownerBy a1 a2 h = some r) : SpI G 4 mX11_ownerBy [.ref (ad G 0), .ref (ad G a1), .ref (ad G a2)] h r.1 r.2 := by
  refine sp_i pf_X11_ownerBy (Nat.le_of_ble_eq_true rfl) ?_
  show J G mX11_ownerBy 4 0 0 (KMi G r.1 r.2) 0 [(0, .ref (ad G 0)), (1, .ref (ad G a1)), (2, .ref (ad G a2))] [] h
  obtain ⟨K, hK⟩ : ∃ K, K = KMi G r.1 r.2 := ⟨_, rfl⟩
  rw [← hK]
  unfold f_X11_ownerBy at hL
  refine j_iconst (-1) dX11_ownerBy_0 (by decide) ?_
  refine j_istore_n (lv' := [(3, .int (-1)), (0, .ref (ad G 0)), (1, .ref (ad G a1)), (2, .ref (ad G a2))]) dX11_ownerBy_1 (by decide) rfl ?_
  refine j_lconst 0 dX11_ownerBy_2 (by decide) ?_
  refine j_lstore (lv' := [(4, .long 0), (3, .int (-1)), (0, .ref (ad G 0)), (1, .ref (ad G a1)), (2, .ref (ad G a2))]) dX11_ownerBy_3 (by decide) rfl ?_
  refine j_iconst 0 dX11_ownerBy_5 (by decide) ?_
  refine j_istore (lv' := [(6, .int 0), (4, .long 0), (3, .int (-1)), (0, .ref (ad G 0)), (1, .ref (ad G a1)), (2, .ref (ad G a2))]) dX11_ownerBy_6 (by decide) rfl ?_
  obtain ⟨q11, hq11, hL⟩ := bnd_ex hL
  refine j_sub [3, 4, 5, 2, 1, 0] rfl ?_
  refine cl_X11_ownerBy_8 G K a1 a2 s1 s2 FU (-1) 0 0 h q11 hq11 ?_
  refine j_iload_n 0 dX11_ownerBy_68 rfl ?_
  cases hL
  exact j_reti dX11_ownerBy_69 rfl hK

def f_X6_fill_l10 (a0 : Nat) (a1 : Nat) (a2 : Nat) : Nat → Int32 → AH → Option (AH)
  | 0, _, _ => none
  | n + 1, v3, h => if (hfi h a0 3) ≤ v3 then some h else bnd (f_X0_bareHigh a1 (a1 + 7) v3 h) (fun q3 => gd (ib v3 40 = true) (gd (ib v3 40 = true) (lt (sia h (a0 + 1) (cl v3) (q3 - (hia h (a1 + 6) (cl v3)))) (fun h6 => bnd (f_X0_bareLow a1 (a1 + 7) v3 h6) (fun q7 => bnd (f_X5_through a2 q7 h6) (fun q8 => gd (ib v3 40 = true) (lt (sia h6 (a0 + 2) (cl v3) q8) (fun h10 => f_X6_fill_l10 a0 a1 a2 n (v3 + 1) h10))))))))
def f_X6_fill (a0 : Nat) (a1 : Nat) (a2 : Nat) (h : AH) : Option (AH) := lt (sfi h a0 3 (hfi h a1 0)) (fun h1 => bnd (f_X6_fill_l10 a0 a1 a2 FU 0 h1) (fun q11 => some q11))
set_option maxRecDepth 20000 in
theorem cl_X6_fill_10 (G : GG) (K : KQ) (a0 : Nat) (a1 : Nat) (a2 : Nat) (s0 : SH a0 = (6, 0)) (s1 : SH a1 = (0, 0)) (s2 : SH a2 = (5, 0)) : ∀ (n : Nat) (v3 : Int32) (h : AH) (r : AH), f_X6_fill_l10 a0 a1 a2 n v3 h = some r → J G mX6_fill 3 0 0 K 65 [] [] r → J G mX6_fill 3 0 0 K 10 [(0, .ref (ad G a0)), (1, .ref (ad G a1)), (2, .ref (ad G a2)), (3, .int v3)] [] h := by
  intro n
  induction n with
  | zero => intro v3 h r hL; cases hL
  | succ n ih =>
    intro v3 h r hL kE
    unfold f_X6_fill_l10 at hL
    refine j_iload_n 3 dX6_fill_10 rfl ?_
    refine j_aload_n 0 dX6_fill_11 rfl ?_
    refine jg_RX6_24 rfl s0 dX6_fill_12 ?_
    refine j_icmp_ge 65 dX6_fill_15 (by decide) (fun z2 => ?_) (fun z2 => ?_)
    · replace hL := (if_pos z2).symm.trans hL
      cases hL
      refine j_sub [] rfl ?_
      exact kE 
    · replace hL := (if_neg z2).symm.trans hL
      refine j_aload_n 0 dX6_fill_18 rfl ?_
      refine jg_RX6_9 rfl s0 dX6_fill_19 ?_
      refine j_iload_n 3 dX6_fill_22 rfl ?_
      refine j_aload_n 1 dX6_fill_23 rfl ?_
      refine j_aload_n 1 dX6_fill_24 rfl ?_
      refine jg_RX6_25 rfl s1 dX6_fill_25 ?_
      refine j_iload_n 3 dX6_fill_28 rfl ?_
      obtain ⟨q3, hq3, hL⟩ := bnd_ex hL
      refine j_callVi (c_X0_bareHigh G a1 s1 (a1 + 7) (shf_0_12 s1) v3 h _ hq3) cv_RX6_29 rfl s1 (by decide) rfl (by decide) rfl rfl (Nat.le_of_ble_eq_true rfl) dX6_fill_29 (by decide) ?_
      refine j_aload_n 1 dX6_fill_32 rfl ?_
      refine jg_RX6_33 rfl s1 dX6_fill_33 ?_
      refine j_iload_n 3 dX6_fill_36 rfl ?_
      obtain ⟨g4, hL⟩ := gd_ex hL
      refine j_iald (shf_0_11 s1) (ib_in g4) dX6_fill_37 ?_
      refine j_isub dX6_fill_38 ?_
      obtain ⟨g5, hL⟩ := gd_ex hL
      refine j_iast (shf_6_4 s0) (ib_in g5) dX6_fill_39 ?_
      obtain ⟨h6, eh6, hL⟩ := lt_ex hL
      refine j_heap eh6 ?_
      refine j_aload_n 0 dX6_fill_40 rfl ?_
      refine jg_RX6_15 rfl s0 dX6_fill_41 ?_
      refine j_iload_n 3 dX6_fill_44 rfl ?_
      refine j_aload_n 2 dX6_fill_45 rfl ?_
      refine j_aload_n 1 dX6_fill_46 rfl ?_
      refine j_aload_n 1 dX6_fill_47 rfl ?_
      refine jg_RX6_25 rfl s1 dX6_fill_48 ?_
      refine j_iload_n 3 dX6_fill_51 rfl ?_
      obtain ⟨q7, hq7, hL⟩ := bnd_ex hL
      refine j_callVi (c_X0_bareLow G a1 s1 (a1 + 7) (shf_0_12 s1) v3 h6 _ hq7) cv_RX6_36 rfl s1 (by decide) rfl (by decide) rfl rfl (Nat.le_of_ble_eq_true rfl) dX6_fill_52 (by decide) ?_
      obtain ⟨q8, hq8, hL⟩ := bnd_ex hL
      refine j_callVi (c_X5_through G a2 s2 q7 h6 _ hq8) cv_RX6_39 rfl s2 (by decide) rfl (by decide) rfl rfl (Nat.le_of_ble_eq_true rfl) dX6_fill_55 (by decide) ?_
      obtain ⟨g9, hL⟩ := gd_ex hL
      refine j_iast (shf_6_5 s0) (ib_in g9) dX6_fill_58 ?_
      obtain ⟨h10, eh10, hL⟩ := lt_ex hL
      refine j_heap eh10 ?_
      refine j_iinc (lv' := [(3, .int (v3 + 1)), (0, .ref (ad G a0)), (1, .ref (ad G a1)), (2, .ref (ad G a2))]) 3 dX6_fill_59 rfl rfl (by decide) rfl ?_
      refine j_goto 10 dX6_fill_62 (by decide) ?_
      refine j_sub [1, 2, 3, 0] rfl ?_
      exact ih (v3 + 1) h10 r hL kE

set_option maxRecDepth 20000 in
theorem c_X6_fill (G : GG) (a0 : Nat) (s0 : SH a0 = (6, 0)) (a1 : Nat) (s1 : SH a1 = (0, 0)) (a2 : Nat) (s2 : SH a2 = (5, 0)) (h : AH) (r : AH) (hL : f_X6_fill a0 a1 a2 h = some r) : SpV G 3 mX6_fill [.ref (ad G a0), .ref (ad G a1), .ref (ad G a2)] h r := by
  refine sp_v pf_X6_fill (Nat.le_of_ble_eq_true rfl) ?_
  show J G mX6_fill 3 0 0 (KMv G r) 0 [(0, .ref (ad G a0)), (1, .ref (ad G a1)), (2, .ref (ad G a2))] [] h
  obtain ⟨K, hK⟩ : ∃ K, K = KMv G r := ⟨_, rfl⟩
  rw [← hK]
  unfold f_X6_fill at hL
  refine j_aload_n 0 dX6_fill_0 rfl ?_
  refine j_aload_n 1 dX6_fill_1 rfl ?_
  refine jg_RX6_18 rfl s1 dX6_fill_2 ?_
  refine jp_RX6_24 rfl s0 dX6_fill_5 ?_
  obtain ⟨h1, eh1, hL⟩ := lt_ex hL
  refine j_heap eh1 ?_
  refine j_iconst 0 dX6_fill_8 (by decide) ?_
  refine j_istore_n (lv' := [(3, .int 0), (0, .ref (ad G a0)), (1, .ref (ad G a1)), (2, .ref (ad G a2))]) dX6_fill_9 (by decide) rfl ?_
  obtain ⟨q11, hq11, hL⟩ := bnd_ex hL
  refine j_sub [1, 2, 3, 0] rfl ?_
  refine cl_X6_fill_10 G K a0 a1 a2 s0 s1 s2 FU 0 h1 q11 hq11 ?_
  cases hL
  exact j_retv dX6_fill_65 rfl hK

def f_X6_lack (a0 : Nat) (v1 : Int32) (v2 : Int32) (h : AH) : Option (Int32) := if v2 < 0 then some 0 else if v2 < (hfi h a0 3) then lt (fun (x7 : Int32) => gd (ib v2 40 = true) (some (f_J9_max_7cf53 0 (x7 - (hia h (a0 + 1) (cl v2)))))) (fun j4 => if v1 < 0 then j4 0 else if v1 < (hfi h a0 3) then gd (ib v1 40 = true) (j4 (hia h (a0 + 2) (cl v1))) else j4 0) else some 0
set_option maxRecDepth 20000 in
theorem c_X6_lack (G : GG) (a0 : Nat) (s0 : SH a0 = (6, 0)) (v1 : Int32) (v2 : Int32) (h : AH) (r : Int32) (hL : f_X6_lack a0 v1 v2 h = some r) : SpI G 2 mX6_lack [.ref (ad G a0), .int v1, .int v2] h r h := by
  refine sp_i pf_X6_lack (Nat.le_of_ble_eq_true rfl) ?_
  show J G mX6_lack 2 0 0 (KMi G r h) 0 [(0, .ref (ad G a0)), (1, .int v1), (2, .int v2)] [] h
  obtain ⟨K, hK⟩ : ∃ K, K = KMi G r h := ⟨_, rfl⟩
  rw [← hK]
  unfold f_X6_lack at hL
  refine j_iload_n 2 dX6_lack_0 rfl ?_
  refine j_if_lt 12 dX6_lack_1 (by decide) (fun z1 => ?_) (fun z1 => ?_)
  · replace hL := (if_pos z1).symm.trans hL
    refine j_iconst 0 dX6_lack_12 (by decide) ?_
    cases hL
    exact j_reti dX6_lack_13 rfl hK
  · replace hL := (if_neg z1).symm.trans hL
    refine j_iload_n 2 dX6_lack_4 rfl ?_
    refine j_aload_n 0 dX6_lack_5 rfl ?_
    refine jg_RX6_24 rfl s0 dX6_lack_6 ?_
    refine j_icmp_lt 14 dX6_lack_9 (by decide) (fun z2 => ?_) (fun z2 => ?_)
    · replace hL := (if_pos z2).symm.trans hL
      refine j_iload_n 1 dX6_lack_14 rfl ?_
      obtain ⟨j4, ej4, hL⟩ := lt_ex hL
      have kj4 : ∀ (x7 : Int32), j4 x7 = some r → J G mX6_lack 2 0 0 K 36 [(0, .ref (ad G a0)), (2, .int v2)] [.int x7] h := by
        intro x7 hL
        rw [ej4] at hL
        replace hL : (gd (ib v2 40 = true) (some (f_J9_max_7cf53 0 (x7 - (hia h (a0 + 1) (cl v2)))))) = some r := hL
        refine j_istore_n (lv' := [(3, .int x7), (0, .ref (ad G a0)), (2, .int v2)]) dX6_lack_36 (by decide) rfl ?_
        refine j_iconst 0 dX6_lack_37 (by decide) ?_
        refine j_iload_n 0 dX6_lack_38 rfl ?_
        refine j_aload_n 1 dX6_lack_39 rfl ?_
        refine jg_RX6_9 rfl s0 dX6_lack_40 ?_
        refine j_iload_n 2 dX6_lack_43 rfl ?_
        obtain ⟨g8, hL⟩ := gd_ex hL
        refine j_iald (shf_6_4 s0) (ib_in g8) dX6_lack_44 ?_
        refine j_isub dX6_lack_45 ?_
        refine j_callSi (c_J9_max_7cf53 G 0 (x7 - (hia h (a0 + 1) (cl v2))) h) cv_RX6_68 rfl (by decide) rfl rfl (Nat.le_of_ble_eq_true rfl) dX6_lack_46 (by decide) ?_
        cases hL
        exact j_reti dX6_lack_49 rfl hK
      refine j_if_lt 26 dX6_lack_15 (by decide) (fun z3 => ?_) (fun z3 => ?_)
      · replace hL := (if_pos z3).symm.trans hL
        refine j_iconst 0 dX6_lack_26 (by decide) ?_
        refine j_goto 36 dX6_lack_27 (by decide) ?_
        refine j_sub [0, 2] rfl ?_
        exact kj4 0 hL
      · replace hL := (if_neg z3).symm.trans hL
        refine j_iload_n 1 dX6_lack_18 rfl ?_
        refine j_aload_n 0 dX6_lack_19 rfl ?_
        refine jg_RX6_24 rfl s0 dX6_lack_20 ?_
        refine j_icmp_lt 30 dX6_lack_23 (by decide) (fun z5 => ?_) (fun z5 => ?_)
        · replace hL := (if_pos z5).symm.trans hL
          refine j_aload_n 0 dX6_lack_30 rfl ?_
          refine jg_RX6_15 rfl s0 dX6_lack_31 ?_
          refine j_iload_n 1 dX6_lack_34 rfl ?_
          obtain ⟨g6, hL⟩ := gd_ex hL
          refine j_iald (shf_6_5 s0) (ib_in g6) dX6_lack_35 ?_
          refine j_sub [0, 2] rfl ?_
          exact kj4 (hia h (a0 + 2) (cl v1)) hL
        · replace hL := (if_neg z5).symm.trans hL
          refine j_iconst 0 dX6_lack_26 (by decide) ?_
          refine j_goto 36 dX6_lack_27 (by decide) ?_
          refine j_sub [0, 2] rfl ?_
          exact kj4 0 hL
    · replace hL := (if_neg z2).symm.trans hL
      refine j_iconst 0 dX6_lack_12 (by decide) ?_
      cases hL
      exact j_reti dX6_lack_13 rfl hK

def f_X6_want_l4 (a0 : Nat) (h : AH) : Nat → Int32 → Int32 → Option (Int32)
  | 0, _, _ => none
  | n + 1, v1, v2 => if (hfi h a0 3) ≤ v2 then some v1 else bnd (f_X6_lack a0 (v2 - 1) v2 h) (fun q2 => f_X6_want_l4 a0 h n (v1 + q2) (v2 + 1))
def f_X6_want (a0 : Nat) (h : AH) : Option (Int32) := bnd (f_X6_want_l4 a0 h FU 0 0) (fun q3 => some q3)
set_option maxRecDepth 20000 in
theorem cl_X6_want_4 (G : GG) (K : KQ) (a0 : Nat) (s0 : SH a0 = (6, 0)) : ∀ (n : Nat) (v1 : Int32) (v2 : Int32) (h : AH) (r : Int32), f_X6_want_l4 a0 h n v1 v2 = some r → J G mX6_want 3 0 0 K 29 [(1, .int r)] [] h → J G mX6_want 3 0 0 K 4 [(0, .ref (ad G a0)), (1, .int v1), (2, .int v2)] [] h := by
  intro n
  induction n with
  | zero => intro v1 v2 h r hL; cases hL
  | succ n ih =>
    intro v1 v2 h r hL kE
    unfold f_X6_want_l4 at hL
    refine j_iload_n 2 dX6_want_4 rfl ?_
    refine j_aload_n 0 dX6_want_5 rfl ?_
    refine jg_RX6_24 rfl s0 dX6_want_6 ?_
    refine j_icmp_ge 29 dX6_want_9 (by decide) (fun z1 => ?_) (fun z1 => ?_)
    · replace hL := (if_pos z1).symm.trans hL
      cases hL
      refine j_sub [1] rfl ?_
      exact kE 
    · replace hL := (if_neg z1).symm.trans hL
      refine j_iload_n 1 dX6_want_12 rfl ?_
      refine j_aload_n 0 dX6_want_13 rfl ?_
      refine j_iload_n 2 dX6_want_14 rfl ?_
      refine j_iconst 1 dX6_want_15 (by decide) ?_
      refine j_isub dX6_want_16 ?_
      refine j_iload_n 2 dX6_want_17 rfl ?_
      obtain ⟨q2, hq2, hL⟩ := bnd_ex hL
      refine j_callVi (c_X6_lack G a0 s0 (v2 - 1) v2 h _ hq2) cv_RX6_45 rfl s0 (by decide) rfl (by decide) rfl rfl (Nat.le_of_ble_eq_true rfl) dX6_want_18 (by decide) ?_
      refine j_iadd dX6_want_21 ?_
      refine j_istore_n (lv' := [(1, .int (v1 + q2)), (0, .ref (ad G a0)), (2, .int v2)]) dX6_want_22 (by decide) rfl ?_
      refine j_iinc (lv' := [(2, .int (v2 + 1)), (1, .int (v1 + q2)), (0, .ref (ad G a0))]) 2 dX6_want_23 rfl rfl (by decide) rfl ?_
      refine j_goto 4 dX6_want_26 (by decide) ?_
      refine j_sub [2, 1, 0] rfl ?_
      exact ih (v1 + q2) (v2 + 1) h r hL kE

set_option maxRecDepth 20000 in
theorem c_X6_want (G : GG) (a0 : Nat) (s0 : SH a0 = (6, 0)) (h : AH) (r : Int32) (hL : f_X6_want a0 h = some r) : SpI G 3 mX6_want [.ref (ad G a0)] h r h := by
  refine sp_i pf_X6_want (Nat.le_of_ble_eq_true rfl) ?_
  show J G mX6_want 3 0 0 (KMi G r h) 0 [(0, .ref (ad G a0))] [] h
  obtain ⟨K, hK⟩ : ∃ K, K = KMi G r h := ⟨_, rfl⟩
  rw [← hK]
  unfold f_X6_want at hL
  refine j_iconst 0 dX6_want_0 (by decide) ?_
  refine j_istore_n (lv' := [(1, .int 0), (0, .ref (ad G a0))]) dX6_want_1 (by decide) rfl ?_
  refine j_iconst 0 dX6_want_2 (by decide) ?_
  refine j_istore_n (lv' := [(2, .int 0), (1, .int 0), (0, .ref (ad G a0))]) dX6_want_3 (by decide) rfl ?_
  obtain ⟨q3, hq3, hL⟩ := bnd_ex hL
  refine j_sub [2, 1, 0] rfl ?_
  refine cl_X6_want_4 G K a0 s0 FU 0 0 h q3 hq3 ?_
  refine j_iload_n 0 dX6_want_29 rfl ?_
  cases hL
  exact j_reti dX6_want_30 rfl hK

def f_X6_otherAt (v0 : Int32) (v1 : Int32) : Int32 := if v0 ≤ v1 then (v1 + 1) else v1
set_option maxRecDepth 20000 in
theorem c_X6_otherAt (G : GG) (v0 : Int32) (v1 : Int32) (h : AH) : SpI G 1 mX6_otherAt [.int v0, .int v1] h (f_X6_otherAt v0 v1) h := by
  obtain ⟨r, hL⟩ : ∃ r, f_X6_otherAt v0 v1 = r := ⟨_, rfl⟩
  rw [hL]
  refine sp_i pf_X6_otherAt (Nat.le_of_ble_eq_true rfl) ?_
  show J G mX6_otherAt 1 0 0 (KMi G r h) 0 [(0, .int v0), (1, .int v1)] [] h
  obtain ⟨K, hK⟩ : ∃ K, K = KMi G r h := ⟨_, rfl⟩
  rw [← hK]
  unfold f_X6_otherAt at hL
  refine j_iload_n 1 dX6_otherAt_0 rfl ?_
  refine j_iload_n 0 dX6_otherAt_1 rfl ?_
  refine j_icmp_ge 9 dX6_otherAt_2 (by decide) (fun z1 => ?_) (fun z1 => ?_)
  · replace hL := (if_pos z1).symm.trans hL
    refine j_iload_n 1 dX6_otherAt_9 rfl ?_
    refine j_iconst 1 dX6_otherAt_10 (by decide) ?_
    refine j_iadd dX6_otherAt_11 ?_
    subst hL
    exact j_reti dX6_otherAt_12 rfl hK
  · replace hL := (if_neg z1).symm.trans hL
    refine j_iload_n 1 dX6_otherAt_5 rfl ?_
    refine j_goto 12 dX6_otherAt_6 (by decide) ?_
    subst hL
    exact j_reti dX6_otherAt_12 rfl hK

def f_X6_putAt (a0 : Nat) (v1 : Int32) (v2 : Int32) (h : AH) : Option (Int32) := bnd (f_X6_lack a0 (f_X6_otherAt v1 (v2 - 1)) v1 h) (fun q1 => bnd (f_X6_lack a0 v1 (f_X6_otherAt v1 v2) h) (fun q2 => bnd (f_X6_lack a0 (f_X6_otherAt v1 (v2 - 1)) (f_X6_otherAt v1 v2) h) (fun q3 => some ((q1 + q2) - q3))))
set_option maxRecDepth 20000 in
theorem c_X6_putAt (G : GG) (a0 : Nat) (s0 : SH a0 = (6, 0)) (v1 : Int32) (v2 : Int32) (h : AH) (r : Int32) (hL : f_X6_putAt a0 v1 v2 h = some r) : SpI G 3 mX6_putAt [.ref (ad G a0), .int v1, .int v2] h r h := by
  refine sp_i pf_X6_putAt (Nat.le_of_ble_eq_true rfl) ?_
  show J G mX6_putAt 3 0 0 (KMi G r h) 0 [(0, .ref (ad G a0)), (1, .int v1), (2, .int v2)] [] h
  obtain ⟨K, hK⟩ : ∃ K, K = KMi G r h := ⟨_, rfl⟩
  rw [← hK]
  unfold f_X6_putAt at hL
  refine j_iload_n 1 dX6_putAt_0 rfl ?_
  refine j_iload_n 2 dX6_putAt_1 rfl ?_
  refine j_iconst 1 dX6_putAt_2 (by decide) ?_
  refine j_isub dX6_putAt_3 ?_
  refine j_callSi (c_X6_otherAt G v1 (v2 - 1) h) cv_RX6_65 rfl (by decide) rfl rfl (Nat.le_of_ble_eq_true rfl) dX6_putAt_4 (by decide) ?_
  refine j_istore_n (lv' := [(3, .int (f_X6_otherAt v1 (v2 - 1))), (0, .ref (ad G a0)), (1, .int v1), (2, .int v2)]) dX6_putAt_7 (by decide) rfl ?_
  refine j_iload_n 2 dX6_putAt_8 rfl ?_
  refine j_iload_n 3 dX6_putAt_9 rfl ?_
  refine j_callSi (c_X6_otherAt G v1 v2 h) cv_RX6_65 rfl (by decide) rfl rfl (Nat.le_of_ble_eq_true rfl) dX6_putAt_10 (by decide) ?_
  refine j_istore (lv' := [(4, .int (f_X6_otherAt v1 v2)), (3, .int (f_X6_otherAt v1 (v2 - 1))), (0, .ref (ad G a0)), (1, .int v1), (2, .int v2)]) dX6_putAt_13 (by decide) rfl ?_
  refine j_aload_n 2 dX6_putAt_15 rfl ?_
  refine j_iload_n 1 dX6_putAt_16 rfl ?_
  refine j_iload_n 3 dX6_putAt_17 rfl ?_
  obtain ⟨q1, hq1, hL⟩ := bnd_ex hL
  refine j_callVi (c_X6_lack G a0 s0 (f_X6_otherAt v1 (v2 - 1)) v1 h _ hq1) cv_RX6_45 rfl s0 (by decide) rfl (by decide) rfl rfl (Nat.le_of_ble_eq_true rfl) dX6_putAt_18 (by decide) ?_
  refine j_aload_n 2 dX6_putAt_21 rfl ?_
  refine j_iload_n 3 dX6_putAt_22 rfl ?_
  refine j_iload 0 dX6_putAt_23 rfl ?_
  obtain ⟨q2, hq2, hL⟩ := bnd_ex hL
  refine j_callVi (c_X6_lack G a0 s0 v1 (f_X6_otherAt v1 v2) h _ hq2) cv_RX6_45 rfl s0 (by decide) rfl (by decide) rfl rfl (Nat.le_of_ble_eq_true rfl) dX6_putAt_25 (by decide) ?_
  refine j_iadd dX6_putAt_28 ?_
  refine j_aload_n 2 dX6_putAt_29 rfl ?_
  refine j_iload_n 1 dX6_putAt_30 rfl ?_
  refine j_iload 0 dX6_putAt_31 rfl ?_
  obtain ⟨q3, hq3, hL⟩ := bnd_ex hL
  refine j_callVi (c_X6_lack G a0 s0 (f_X6_otherAt v1 (v2 - 1)) (f_X6_otherAt v1 v2) h _ hq3) cv_RX6_45 rfl s0 (by decide) rfl (by decide) rfl rfl (Nat.le_of_ble_eq_true rfl) dX6_putAt_33 (by decide) ?_
  refine j_isub dX6_putAt_36 ?_
  cases hL
  exact j_reti dX6_putAt_37 rfl hK

def f_X6_findMove_l62 (a0 : Nat) (v3 : Int32) (v4 : Int32) : Nat → Int32 → Int32 → AH → Option (Int32 × AH)
  | 0, _, _, _ => none
  | n + 1, v2, v5, h => if (hfi h a0 3) ≤ v5 then some (v2, h) else bnd (f_X6_putAt a0 v3 v5 h) (fun q9 => if v5 = v3 then f_X6_findMove_l62 a0 v3 v4 n v2 (v5 + 1) h else if v2 ≤ (v4 + q9) then f_X6_findMove_l62 a0 v3 v4 n v2 (v5 + 1) h else lt (sfi h a0 0 v3) (fun h12 => lt (sfi h12 a0 1 v5) (fun h13 => f_X6_findMove_l62 a0 v3 v4 n (v4 + q9) (v5 + 1) h13)))
def f_X6_findMove_l19 (a0 : Nat) (v1 : Int32) : Nat → Int32 → Int32 → AH → Option (Int32 × AH)
  | 0, _, _, _ => none
  | n + 1, v2, v3, h => if (hfi h a0 3) ≤ v3 then some (v2, h) else bnd (f_X6_lack a0 (v3 - 1) v3 h) (fun q5 => bnd (f_X6_lack a0 v3 (v3 + 1) h) (fun q6 => bnd (f_X6_lack a0 (v3 - 1) (v3 + 1) h) (fun q7 => bnd (f_X6_findMove_l62 a0 v3 (((v1 - q5) - q6) + q7) FU v2 0 h) (fun q14 => f_X6_findMove_l19 a0 v1 n q14.1 (v3 + 1) q14.2))))
def f_X6_findMove (a0 : Nat) (h : AH) : Option (AH) := bnd (f_X6_want a0 h) (fun q1 => lt (sfi h a0 0 (-1)) (fun h2 => lt (sfi h2 a0 1 (-1)) (fun h3 => bnd (f_X6_findMove_l19 a0 q1 FU q1 0 h3) (fun q15 => if (hfi q15.2 a0 0) = (-1) then lt (sfi q15.2 a0 2 (-1)) (fun h18 => some h18) else lt (sfi q15.2 a0 2 q15.1) (fun h17 => some h17)))))
set_option maxRecDepth 20000 in
theorem cl_X6_findMove_62 (G : GG) (K : KQ) (a0 : Nat) (v1 : Int32) (v3 : Int32) (v4 : Int32) (s0 : SH a0 = (6, 0)) : ∀ (n : Nat) (v2 : Int32) (v5 : Int32) (h : AH) (r : Int32 × AH), f_X6_findMove_l62 a0 v3 v4 n v2 v5 h = some r → J G mX6_findMove 4 0 0 K 115 [(0, .ref (ad G a0)), (1, .int v1), (2, .int r.1), (3, .int v3)] [] r.2 → J G mX6_findMove 4 0 0 K 62 [(0, .ref (ad G a0)), (1, .int v1), (2, .int v2), (3, .int v3), (4, .int v4), (5, .int v5)] [] h := by
  intro n
  induction n with
  | zero => intro v2 v5 h r hL; cases hL
  | succ n ih =>
    intro v2 v5 h r hL kE
    unfold f_X6_findMove_l62 at hL
    refine j_iload 5 dX6_findMove_62 rfl ?_
    refine j_aload_n 0 dX6_findMove_64 rfl ?_
    refine jg_RX6_24 rfl s0 dX6_findMove_65 ?_
    refine j_icmp_ge 115 dX6_findMove_68 (by decide) (fun z8 => ?_) (fun z8 => ?_)
    · replace hL := (if_pos z8).symm.trans hL
      cases hL
      refine j_sub [0, 1, 2, 3] rfl ?_
      exact kE 
    · replace hL := (if_neg z8).symm.trans hL
      refine j_iload 4 dX6_findMove_71 rfl ?_
      refine j_aload_n 0 dX6_findMove_73 rfl ?_
      refine j_iload_n 3 dX6_findMove_74 rfl ?_
      refine j_iload 5 dX6_findMove_75 rfl ?_
      obtain ⟨q9, hq9, hL⟩ := bnd_ex hL
      refine j_callVi (c_X6_putAt G a0 s0 v3 v5 h _ hq9) cv_RX6_59 rfl s0 (by decide) rfl (by decide) rfl rfl (Nat.le_of_ble_eq_true rfl) dX6_findMove_77 (by decide) ?_
      refine j_iadd dX6_findMove_80 ?_
      refine j_istore (lv' := [(6, .int (v4 + q9)), (0, .ref (ad G a0)), (1, .int v1), (2, .int v2), (3, .int v3), (4, .int v4), (5, .int v5)]) dX6_findMove_81 (by decide) rfl ?_
      refine j_iload 6 dX6_findMove_83 rfl ?_
      refine j_iload_n 4 dX6_findMove_85 rfl ?_
      refine j_icmp_eq 109 dX6_findMove_86 (by decide) (fun z10 => ?_) (fun z10 => ?_)
      · replace hL := (if_pos z10).symm.trans hL
        refine j_iinc (lv' := [(5, .int (v5 + 1)), (6, .int (v4 + q9)), (0, .ref (ad G a0)), (1, .int v1), (2, .int v2), (3, .int v3), (4, .int v4)]) 6 dX6_findMove_109 rfl rfl (by decide) rfl ?_
        refine j_goto 62 dX6_findMove_112 (by decide) ?_
        refine j_sub [2, 3, 4, 5, 6, 0] rfl ?_
        exact ih v2 (v5 + 1) h r hL kE
      · replace hL := (if_neg z10).symm.trans hL
        refine j_iload 0 dX6_findMove_89 rfl ?_
        refine j_iload_n 3 dX6_findMove_91 rfl ?_
        refine j_icmp_ge 109 dX6_findMove_92 (by decide) (fun z11 => ?_) (fun z11 => ?_)
        · replace hL := (if_pos z11).symm.trans hL
          refine j_iinc (lv' := [(5, .int (v5 + 1)), (6, .int (v4 + q9)), (0, .ref (ad G a0)), (1, .int v1), (2, .int v2), (3, .int v3), (4, .int v4)]) 6 dX6_findMove_109 rfl rfl (by decide) rfl ?_
          refine j_goto 62 dX6_findMove_112 (by decide) ?_
          refine j_sub [2, 3, 4, 5, 6, 0] rfl ?_
          exact ih v2 (v5 + 1) h r hL kE
        · replace hL := (if_neg z11).symm.trans hL
          refine j_iload 0 dX6_findMove_95 rfl ?_
          refine j_istore_n (lv' := [(2, .int (v4 + q9)), (6, .int (v4 + q9)), (0, .ref (ad G a0)), (1, .int v1), (3, .int v3), (4, .int v4), (5, .int v5)]) dX6_findMove_97 (by decide) rfl ?_
          refine j_aload_n 2 dX6_findMove_98 rfl ?_
          refine j_iload_n 4 dX6_findMove_99 rfl ?_
          refine jp_RX6_53 rfl s0 dX6_findMove_100 ?_
          obtain ⟨h12, eh12, hL⟩ := lt_ex hL
          refine j_heap eh12 ?_
          refine j_aload_n 2 dX6_findMove_103 rfl ?_
          refine j_iload 6 dX6_findMove_104 rfl ?_
          refine jp_RX6_56 rfl s0 dX6_findMove_106 ?_
          obtain ⟨h13, eh13, hL⟩ := lt_ex hL
          refine j_heap eh13 ?_
          refine j_iinc (lv' := [(5, .int (v5 + 1)), (2, .int (v4 + q9)), (6, .int (v4 + q9)), (0, .ref (ad G a0)), (1, .int v1), (3, .int v3), (4, .int v4)]) 6 dX6_findMove_109 rfl rfl (by decide) rfl ?_
          refine j_goto 62 dX6_findMove_112 (by decide) ?_
          refine j_sub [3, 4, 1, 5, 6, 0] rfl ?_
          exact ih (v4 + q9) (v5 + 1) h13 r hL kE

set_option maxRecDepth 20000 in
theorem cl_X6_findMove_19 (G : GG) (K : KQ) (a0 : Nat) (v1 : Int32) (s0 : SH a0 = (6, 0)) : ∀ (n : Nat) (v2 : Int32) (v3 : Int32) (h : AH) (r : Int32 × AH), f_X6_findMove_l19 a0 v1 n v2 v3 h = some r → J G mX6_findMove 4 0 0 K 121 [(0, .ref (ad G a0)), (2, .int r.1)] [] r.2 → J G mX6_findMove 4 0 0 K 19 [(0, .ref (ad G a0)), (1, .int v1), (2, .int v2), (3, .int v3)] [] h := by
  intro n
  induction n with
  | zero => intro v2 v3 h r hL; cases hL
  | succ n ih =>
    intro v2 v3 h r hL kE
    unfold f_X6_findMove_l19 at hL
    refine j_iload_n 3 dX6_findMove_19 rfl ?_
    refine j_aload_n 0 dX6_findMove_20 rfl ?_
    refine jg_RX6_24 rfl s0 dX6_findMove_21 ?_
    refine j_icmp_ge 121 dX6_findMove_24 (by decide) (fun z4 => ?_) (fun z4 => ?_)
    · replace hL := (if_pos z4).symm.trans hL
      cases hL
      refine j_sub [0, 2] rfl ?_
      exact kE 
    · replace hL := (if_neg z4).symm.trans hL
      refine j_iload_n 1 dX6_findMove_27 rfl ?_
      refine j_aload_n 0 dX6_findMove_28 rfl ?_
      refine j_iload_n 3 dX6_findMove_29 rfl ?_
      refine j_iconst 1 dX6_findMove_30 (by decide) ?_
      refine j_isub dX6_findMove_31 ?_
      refine j_iload_n 3 dX6_findMove_32 rfl ?_
      obtain ⟨q5, hq5, hL⟩ := bnd_ex hL
      refine j_callVi (c_X6_lack G a0 s0 (v3 - 1) v3 h _ hq5) cv_RX6_45 rfl s0 (by decide) rfl (by decide) rfl rfl (Nat.le_of_ble_eq_true rfl) dX6_findMove_33 (by decide) ?_
      refine j_isub dX6_findMove_36 ?_
      refine j_aload_n 0 dX6_findMove_37 rfl ?_
      refine j_iload_n 3 dX6_findMove_38 rfl ?_
      refine j_iload_n 3 dX6_findMove_39 rfl ?_
      refine j_iconst 1 dX6_findMove_40 (by decide) ?_
      refine j_iadd dX6_findMove_41 ?_
      obtain ⟨q6, hq6, hL⟩ := bnd_ex hL
      refine j_callVi (c_X6_lack G a0 s0 v3 (v3 + 1) h _ hq6) cv_RX6_45 rfl s0 (by decide) rfl (by decide) rfl rfl (Nat.le_of_ble_eq_true rfl) dX6_findMove_42 (by decide) ?_
      refine j_isub dX6_findMove_45 ?_
      refine j_aload_n 0 dX6_findMove_46 rfl ?_
      refine j_iload_n 3 dX6_findMove_47 rfl ?_
      refine j_iconst 1 dX6_findMove_48 (by decide) ?_
      refine j_isub dX6_findMove_49 ?_
      refine j_iload_n 3 dX6_findMove_50 rfl ?_
      refine j_iconst 1 dX6_findMove_51 (by decide) ?_
      refine j_iadd dX6_findMove_52 ?_
      obtain ⟨q7, hq7, hL⟩ := bnd_ex hL
      refine j_callVi (c_X6_lack G a0 s0 (v3 - 1) (v3 + 1) h _ hq7) cv_RX6_45 rfl s0 (by decide) rfl (by decide) rfl rfl (Nat.le_of_ble_eq_true rfl) dX6_findMove_53 (by decide) ?_
      refine j_iadd dX6_findMove_56 ?_
      refine j_istore (lv' := [(4, .int (((v1 - q5) - q6) + q7)), (0, .ref (ad G a0)), (1, .int v1), (2, .int v2), (3, .int v3)]) dX6_findMove_57 (by decide) rfl ?_
      refine j_iconst 0 dX6_findMove_59 (by decide) ?_
      refine j_istore (lv' := [(5, .int 0), (4, .int (((v1 - q5) - q6) + q7)), (0, .ref (ad G a0)), (1, .int v1), (2, .int v2), (3, .int v3)]) dX6_findMove_60 (by decide) rfl ?_
      obtain ⟨q14, hq14, hL⟩ := bnd_ex hL
      refine j_sub [2, 3, 4, 5, 1, 0] rfl ?_
      refine cl_X6_findMove_62 G K a0 v1 v3 (((v1 - q5) - q6) + q7) s0 FU v2 0 h q14 hq14 ?_
      refine j_iinc (lv' := [(3, .int (v3 + 1)), (0, .ref (ad G a0)), (1, .int v1), (2, .int q14.1)]) 3 dX6_findMove_115 rfl rfl (by decide) rfl ?_
      refine j_goto 19 dX6_findMove_118 (by decide) ?_
      refine j_sub [1, 2, 3, 0] rfl ?_
      exact ih q14.1 (v3 + 1) q14.2 r hL kE

set_option maxRecDepth 20000 in
theorem c_X6_findMove (G : GG) (a0 : Nat) (s0 : SH a0 = (6, 0)) (h : AH) (r : AH) (hL : f_X6_findMove a0 h = some r) : SpV G 4 mX6_findMove [.ref (ad G a0)] h r := by
  refine sp_v pf_X6_findMove (Nat.le_of_ble_eq_true rfl) ?_
  show J G mX6_findMove 4 0 0 (KMv G r) 0 [(0, .ref (ad G a0))] [] h
  obtain ⟨K, hK⟩ : ∃ K, K = KMv G r := ⟨_, rfl⟩
  rw [← hK]
  unfold f_X6_findMove at hL
  refine j_aload_n 0 dX6_findMove_0 rfl ?_
  obtain ⟨q1, hq1, hL⟩ := bnd_ex hL
  refine j_callVi (c_X6_want G a0 s0 h _ hq1) cv_RX6_49 rfl s0 (by decide) rfl (by decide) rfl rfl (Nat.le_of_ble_eq_true rfl) dX6_findMove_1 (by decide) ?_
  refine j_istore_n (lv' := [(1, .int q1), (0, .ref (ad G a0))]) dX6_findMove_4 (by decide) rfl ?_
  refine j_iload_n 0 dX6_findMove_5 rfl ?_
  refine j_istore_n (lv' := [(2, .int q1), (1, .int q1), (0, .ref (ad G a0))]) dX6_findMove_6 (by decide) rfl ?_
  refine j_aload_n 2 dX6_findMove_7 rfl ?_
  refine j_iconst (-1) dX6_findMove_8 (by decide) ?_
  refine jp_RX6_53 rfl s0 dX6_findMove_9 ?_
  obtain ⟨h2, eh2, hL⟩ := lt_ex hL
  refine j_heap eh2 ?_
  refine j_aload_n 2 dX6_findMove_12 rfl ?_
  refine j_iconst (-1) dX6_findMove_13 (by decide) ?_
  refine jp_RX6_56 rfl s0 dX6_findMove_14 ?_
  obtain ⟨h3, eh3, hL⟩ := lt_ex hL
  refine j_heap eh3 ?_
  refine j_iconst 0 dX6_findMove_17 (by decide) ?_
  refine j_istore_n (lv' := [(3, .int 0), (2, .int q1), (1, .int q1), (0, .ref (ad G a0))]) dX6_findMove_18 (by decide) rfl ?_
  obtain ⟨q15, hq15, hL⟩ := bnd_ex hL
  refine j_sub [3, 2, 1, 0] rfl ?_
  refine cl_X6_findMove_19 G K a0 q1 s0 FU q1 0 h3 q15 hq15 ?_
  refine j_aload_n 0 dX6_findMove_121 rfl ?_
  refine j_aload_n 0 dX6_findMove_122 rfl ?_
  refine jg_RX6_53 rfl s0 dX6_findMove_123 ?_
  refine j_iconst (-1) dX6_findMove_126 (by decide) ?_
  refine j_icmp_ne 134 dX6_findMove_127 (by decide) (fun z16 => ?_) (fun z16 => ?_)
  · replace hL := (if_neg z16).symm.trans hL
    refine j_iload_n 1 dX6_findMove_134 rfl ?_
    refine jp_RX6_62 rfl s0 dX6_findMove_135 ?_
    obtain ⟨h17, eh17, hL⟩ := lt_ex hL
    refine j_heap eh17 ?_
    cases hL
    exact j_retv dX6_findMove_138 rfl hK
  · replace hL := (if_pos z16).symm.trans hL
    refine j_iconst (-1) dX6_findMove_130 (by decide) ?_
    refine j_goto 135 dX6_findMove_131 (by decide) ?_
    refine jp_RX6_62 rfl s0 dX6_findMove_135 ?_
    obtain ⟨h18, eh18, hL⟩ := lt_ex hL
    refine j_heap eh18 ?_
    cases hL
    exact j_retv dX6_findMove_138 rfl hK

def f_X9_opensAt_l21 (a0 : Nat) (a1 : Nat) (v2 : Int32) (v3 : Int32) (h : AH) : Nat → Int32 → Option ((Unit) ⊕ (Bool))
  | 0, _ => none
  | n + 1, v4 => if (hfi h a1 0) ≤ v4 then some (.inl ()) else gd (ib v4 40 = true) (gd (ib v2 40 = true) (lt (fun (x11 : Bool) => if x11 = true then if v4 = v2 then f_X9_opensAt_l21 a0 a1 v2 v3 h n (v4 + 1) else if v4 = (v2 + 1) then f_X9_opensAt_l21 a0 a1 v2 v3 h n (v4 + 1) else gd (ib v4 40 = true) (if (hia h (a0 + 4) (cl v4)) < v3 then f_X9_opensAt_l21 a0 a1 v2 v3 h n (v4 + 1) else some (.inr false)) else f_X9_opensAt_l21 a0 a1 v2 v3 h n (v4 + 1)) (fun j7 => if (hia h (a1 + 2) (cl v4)) = (hia h (a1 + 2) (cl v2)) then j7 true else gd (ib v4 40 = true) (gd (ib (v2 + 1) 40 = true) (if (hia h (a1 + 2) (cl v4)) = (hia h (a1 + 2) (cl (v2 + 1))) then j7 true else j7 false)))))
def f_X9_opensAt (a0 : Nat) (a1 : Nat) (v2 : Int32) (h : AH) : Option (Bool) := gd (ib v2 40 = true) (gd (ib (v2 + 1) 40 = true) (bnd (f_X9_opensAt_l21 a0 a1 v2 (f_J9_min_7cf53 (hia h (a0 + 3) (cl v2)) (hia h (a0 + 3) (cl (v2 + 1)))) h FU 0) (fun q17 => Sum.elim (fun xq17 => some true) (fun xq17 => some xq17) q17)))
set_option maxRecDepth 20000 in
theorem cl_X9_opensAt_21 (G : GG) (K : KQ) (a0 : Nat) (a1 : Nat) (v2 : Int32) (v3 : Int32) (s0 : SH a0 = (9, 0)) (s1 : SH a1 = (0, 0)) : ∀ (n : Nat) (v4 : Int32) (h : AH) (r : (Unit) ⊕ (Bool)), f_X9_opensAt_l21 a0 a1 v2 v3 h n v4 = some r → (∀ x, r = .inl x → J G mX9_opensAt 2 0 0 K 109 [] [] h) → (∀ x, r = .inr x → K = KMi G (bI x) h) → J G mX9_opensAt 2 0 0 K 21 [(0, .ref (ad G a0)), (1, .ref (ad G a1)), (2, .int v2), (3, .int v3), (4, .int v4)] [] h := by
  intro n
  induction n with
  | zero => intro v4 h r hL; cases hL
  | succ n ih =>
    intro v4 h r hL kE kR
    unfold f_X9_opensAt_l21 at hL
    refine j_iload 4 dX9_opensAt_21 rfl ?_
    refine j_aload_n 1 dX9_opensAt_23 rfl ?_
    refine jg_RX9_36 rfl s1 dX9_opensAt_24 ?_
    refine j_icmp_ge 109 dX9_opensAt_27 (by decide) (fun z3 => ?_) (fun z3 => ?_)
    · replace hL := (if_pos z3).symm.trans hL
      cases hL
      refine j_sub [] rfl ?_
      exact kE _ rfl
    · replace hL := (if_neg z3).symm.trans hL
      refine j_aload_n 1 dX9_opensAt_30 rfl ?_
      refine jg_RX9_105 rfl s1 dX9_opensAt_31 ?_
      refine j_iload 4 dX9_opensAt_34 rfl ?_
      obtain ⟨g4, hL⟩ := gd_ex hL
      refine j_iald (shf_0_7 s1) (ib_in g4) dX9_opensAt_36 ?_
      refine j_aload_n 1 dX9_opensAt_37 rfl ?_
      refine jg_RX9_105 rfl s1 dX9_opensAt_38 ?_
      refine j_iload_n 2 dX9_opensAt_41 rfl ?_
      obtain ⟨g5, hL⟩ := gd_ex hL
      refine j_iald (shf_0_7 s1) (ib_in g5) dX9_opensAt_42 ?_
      obtain ⟨j7, ej7, hL⟩ := lt_ex hL
      have kj7 : ∀ (x11 : Bool), j7 x11 = some r → J G mX9_opensAt 2 0 0 K 69 [(0, .ref (ad G a0)), (1, .ref (ad G a1)), (2, .int v2), (3, .int v3), (4, .int v4)] [.int (bI x11)] h := by
        intro x11 hL
        rw [ej7] at hL
        replace hL : (if x11 = true then if v4 = v2 then f_X9_opensAt_l21 a0 a1 v2 v3 h n (v4 + 1) else if v4 = (v2 + 1) then f_X9_opensAt_l21 a0 a1 v2 v3 h n (v4 + 1) else gd (ib v4 40 = true) (if (hia h (a0 + 4) (cl v4)) < v3 then f_X9_opensAt_l21 a0 a1 v2 v3 h n (v4 + 1) else some (.inr false)) else f_X9_opensAt_l21 a0 a1 v2 v3 h n (v4 + 1)) = some r := hL
        refine j_istore (lv' := [(5, .int (bI x11)), (0, .ref (ad G a0)), (1, .ref (ad G a1)), (2, .int v2), (3, .int v3), (4, .int v4)]) dX9_opensAt_69 (by decide) rfl ?_
        refine j_iload 0 dX9_opensAt_71 rfl ?_
        refine j_ifz_eq 103 dX9_opensAt_73 (by decide) (fun z12 => ?_) (fun z12 => ?_)
        · replace hL := (if_neg z12).symm.trans hL
          refine j_iinc (lv' := [(4, .int (v4 + 1)), (5, .int (bI x11)), (0, .ref (ad G a0)), (1, .ref (ad G a1)), (2, .int v2), (3, .int v3)]) 5 dX9_opensAt_103 rfl rfl (by decide) rfl ?_
          refine j_goto 21 dX9_opensAt_106 (by decide) ?_
          refine j_sub [2, 3, 4, 5, 0] rfl ?_
          exact ih (v4 + 1) h r hL kE kR
        · replace hL := (if_pos z12).symm.trans hL
          refine j_iload 5 dX9_opensAt_76 rfl ?_
          refine j_iload_n 3 dX9_opensAt_78 rfl ?_
          refine j_icmp_eq 103 dX9_opensAt_79 (by decide) (fun z13 => ?_) (fun z13 => ?_)
          · replace hL := (if_pos z13).symm.trans hL
            refine j_iinc (lv' := [(4, .int (v4 + 1)), (5, .int (bI x11)), (0, .ref (ad G a0)), (1, .ref (ad G a1)), (2, .int v2), (3, .int v3)]) 5 dX9_opensAt_103 rfl rfl (by decide) rfl ?_
            refine j_goto 21 dX9_opensAt_106 (by decide) ?_
            refine j_sub [2, 3, 4, 5, 0] rfl ?_
            exact ih (v4 + 1) h r hL kE kR
          · replace hL := (if_neg z13).symm.trans hL
            refine j_iload 5 dX9_opensAt_82 rfl ?_
            refine j_iload_n 3 dX9_opensAt_84 rfl ?_
            refine j_iconst 1 dX9_opensAt_85 (by decide) ?_
            refine j_iadd dX9_opensAt_86 ?_
            refine j_icmp_eq 103 dX9_opensAt_87 (by decide) (fun z14 => ?_) (fun z14 => ?_)
            · replace hL := (if_pos z14).symm.trans hL
              refine j_iinc (lv' := [(4, .int (v4 + 1)), (5, .int (bI x11)), (0, .ref (ad G a0)), (1, .ref (ad G a1)), (2, .int v2), (3, .int v3)]) 5 dX9_opensAt_103 rfl rfl (by decide) rfl ?_
              refine j_goto 21 dX9_opensAt_106 (by decide) ?_
              refine j_sub [2, 3, 4, 5, 0] rfl ?_
              exact ih (v4 + 1) h r hL kE kR
            · replace hL := (if_neg z14).symm.trans hL
              refine j_aload_n 1 dX9_opensAt_90 rfl ?_
              refine jg_RX9_21 rfl s0 dX9_opensAt_91 ?_
              refine j_iload 5 dX9_opensAt_94 rfl ?_
              obtain ⟨g15, hL⟩ := gd_ex hL
              refine j_iald (shf_9_3 s0) (ib_in g15) dX9_opensAt_96 ?_
              refine j_iload_n 4 dX9_opensAt_97 rfl ?_
              refine j_icmp_lt 103 dX9_opensAt_98 (by decide) (fun z16 => ?_) (fun z16 => ?_)
              · replace hL := (if_pos z16).symm.trans hL
                refine j_iinc (lv' := [(4, .int (v4 + 1)), (5, .int (bI x11)), (0, .ref (ad G a0)), (1, .ref (ad G a1)), (2, .int v2), (3, .int v3)]) 5 dX9_opensAt_103 rfl rfl (by decide) rfl ?_
                refine j_goto 21 dX9_opensAt_106 (by decide) ?_
                refine j_sub [2, 3, 4, 5, 0] rfl ?_
                exact ih (v4 + 1) h r hL kE kR
              · replace hL := (if_neg z16).symm.trans hL
                refine j_iconst 0 dX9_opensAt_101 (by decide) ?_
                cases hL
                exact j_ret0 dX9_opensAt_102 rfl (kR _ rfl)
      refine j_icmp_eq 64 dX9_opensAt_43 (by decide) (fun z6 => ?_) (fun z6 => ?_)
      · replace hL := (if_pos z6).symm.trans hL
        refine j_iconst 1 dX9_opensAt_64 (by decide) ?_
        refine j_goto 69 dX9_opensAt_65 (by decide) ?_
        refine j_sub [0, 1, 2, 3, 4] rfl ?_
        exact kj7 true hL
      · replace hL := (if_neg z6).symm.trans hL
        refine j_aload_n 1 dX9_opensAt_46 rfl ?_
        refine jg_RX9_105 rfl s1 dX9_opensAt_47 ?_
        refine j_iload 4 dX9_opensAt_50 rfl ?_
        obtain ⟨g8, hL⟩ := gd_ex hL
        refine j_iald (shf_0_7 s1) (ib_in g8) dX9_opensAt_52 ?_
        refine j_aload_n 1 dX9_opensAt_53 rfl ?_
        refine jg_RX9_105 rfl s1 dX9_opensAt_54 ?_
        refine j_iload_n 2 dX9_opensAt_57 rfl ?_
        refine j_iconst 1 dX9_opensAt_58 (by decide) ?_
        refine j_iadd dX9_opensAt_59 ?_
        obtain ⟨g9, hL⟩ := gd_ex hL
        refine j_iald (shf_0_7 s1) (ib_in g9) dX9_opensAt_60 ?_
        refine j_icmp_ne 68 dX9_opensAt_61 (by decide) (fun z10 => ?_) (fun z10 => ?_)
        · replace hL := (if_neg z10).symm.trans hL
          refine j_iconst 0 dX9_opensAt_68 (by decide) ?_
          refine j_sub [0, 1, 2, 3, 4] rfl ?_
          exact kj7 false hL
        · replace hL := (if_pos z10).symm.trans hL
          refine j_iconst 1 dX9_opensAt_64 (by decide) ?_
          refine j_goto 69 dX9_opensAt_65 (by decide) ?_
          refine j_sub [0, 1, 2, 3, 4] rfl ?_
          exact kj7 true hL

set_option maxRecDepth 20000 in
theorem c_X9_opensAt (G : GG) (a0 : Nat) (s0 : SH a0 = (9, 0)) (a1 : Nat) (s1 : SH a1 = (0, 0)) (v2 : Int32) (h : AH) (r : Bool) (hL : f_X9_opensAt a0 a1 v2 h = some r) : SpI G 2 mX9_opensAt [.ref (ad G a0), .ref (ad G a1), .int v2] h (bI r) h := by
  refine sp_i pf_X9_opensAt (Nat.le_of_ble_eq_true rfl) ?_
  show J G mX9_opensAt 2 0 0 (KMi G (bI r) h) 0 [(0, .ref (ad G a0)), (1, .ref (ad G a1)), (2, .int v2)] [] h
  obtain ⟨K, hK⟩ : ∃ K, K = KMi G (bI r) h := ⟨_, rfl⟩
  rw [← hK]
  unfold f_X9_opensAt at hL
  refine j_aload_n 0 dX9_opensAt_0 rfl ?_
  refine jg_RX9_18 rfl s0 dX9_opensAt_1 ?_
  refine j_iload_n 2 dX9_opensAt_4 rfl ?_
  obtain ⟨g1, hL⟩ := gd_ex hL
  refine j_iald (shf_9_2 s0) (ib_in g1) dX9_opensAt_5 ?_
  refine j_aload_n 0 dX9_opensAt_6 rfl ?_
  refine jg_RX9_18 rfl s0 dX9_opensAt_7 ?_
  refine j_iload_n 2 dX9_opensAt_10 rfl ?_
  refine j_iconst 1 dX9_opensAt_11 (by decide) ?_
  refine j_iadd dX9_opensAt_12 ?_
  obtain ⟨g2, hL⟩ := gd_ex hL
  refine j_iald (shf_9_2 s0) (ib_in g2) dX9_opensAt_13 ?_
  refine j_callSi (c_J9_min_7cf53 G (hia h (a0 + 3) (cl v2)) (hia h (a0 + 3) (cl (v2 + 1))) h) cv_RX9_120 rfl (by decide) rfl rfl (Nat.le_of_ble_eq_true rfl) dX9_opensAt_14 (by decide) ?_
  refine j_istore_n (lv' := [(3, .int (f_J9_min_7cf53 (hia h (a0 + 3) (cl v2)) (hia h (a0 + 3) (cl (v2 + 1))))), (0, .ref (ad G a0)), (1, .ref (ad G a1)), (2, .int v2)]) dX9_opensAt_17 (by decide) rfl ?_
  refine j_iconst 0 dX9_opensAt_18 (by decide) ?_
  refine j_istore (lv' := [(4, .int 0), (3, .int (f_J9_min_7cf53 (hia h (a0 + 3) (cl v2)) (hia h (a0 + 3) (cl (v2 + 1))))), (0, .ref (ad G a0)), (1, .ref (ad G a1)), (2, .int v2)]) dX9_opensAt_19 (by decide) rfl ?_
  obtain ⟨q17, hq17, hL⟩ := bnd_ex hL
  refine j_sub [2, 3, 4, 1, 0] rfl ?_
  refine cl_X9_opensAt_21 G K a0 a1 v2 (f_J9_min_7cf53 (hia h (a0 + 3) (cl v2)) (hia h (a0 + 3) (cl (v2 + 1)))) s0 s1 FU 0 h q17 hq17 (fun xq17 eq17 => ?_) (fun xq17 eq17 => ?_)
  · subst eq17
    refine j_iconst 1 dX9_opensAt_109 (by decide) ?_
    cases hL
    exact j_ret1 dX9_opensAt_110 rfl hK
  · subst eq17
    cases hL
    exact hK

def f_X8_add (a0 : Nat) (v1 : Int32) (v2 : Int32) (h : AH) : Option (Bool × AH) := if 20 ≤ (hfi h a0 0) then some (false, h) else if v1 < 1 then some (false, h) else if 999 < v1 then some (false, h) else if v2 < 0 then some (false, h) else if v2 ≤ 9999 then gd (ib (hfi h a0 0) 20 = true) (lt (sia h (a0 + 1) (cl (hfi h a0 0)) v1) (fun h7 => gd (ib (hfi h7 a0 0) 20 = true) (lt (sia h7 (a0 + 2) (cl (hfi h7 a0 0)) v2) (fun h9 => lt (sfi h9 a0 0 ((hfi h9 a0 0) + 1)) (fun h10 => some (true, h10)))))) else some (false, h)
set_option maxRecDepth 20000 in
theorem c_X8_add (G : GG) (a0 : Nat) (s0 : SH a0 = (8, 0)) (v1 : Int32) (v2 : Int32) (h : AH) (r : Bool × AH) (hL : f_X8_add a0 v1 v2 h = some r) : SpI G 1 mX8_add [.ref (ad G a0), .int v1, .int v2] h (bI r.1) r.2 := by
  refine sp_i pf_X8_add (Nat.le_of_ble_eq_true rfl) ?_
  show J G mX8_add 1 0 0 (KMi G (bI r.1) r.2) 0 [(0, .ref (ad G a0)), (1, .int v1), (2, .int v2)] [] h
  obtain ⟨K, hK⟩ : ∃ K, K = KMi G (bI r.1) r.2 := ⟨_, rfl⟩
  rw [← hK]
  unfold f_X8_add at hL
  refine j_aload_n 0 dX8_add_0 rfl ?_
  refine jg_RX8_18 rfl s0 dX8_add_1 ?_
  refine j_bipush 20 dX8_add_4 (by decide) ?_
  refine j_icmp_ge 32 dX8_add_6 (by decide) (fun z1 => ?_) (fun z1 => ?_)
  · replace hL := (if_pos z1).symm.trans hL
    refine j_iconst 0 dX8_add_32 (by decide) ?_
    cases hL
    exact j_ret0 dX8_add_33 rfl hK
  · replace hL := (if_neg z1).symm.trans hL
    refine j_iload_n 1 dX8_add_9 rfl ?_
    refine j_iconst 1 dX8_add_10 (by decide) ?_
    refine j_icmp_lt 32 dX8_add_11 (by decide) (fun z2 => ?_) (fun z2 => ?_)
    · replace hL := (if_pos z2).symm.trans hL
      refine j_iconst 0 dX8_add_32 (by decide) ?_
      cases hL
      exact j_ret0 dX8_add_33 rfl hK
    · replace hL := (if_neg z2).symm.trans hL
      refine j_iload_n 1 dX8_add_14 rfl ?_
      refine j_sipush 999 dX8_add_15 (by decide) ?_
      refine j_icmp_gt 32 dX8_add_18 (by decide) (fun z3 => ?_) (fun z3 => ?_)
      · replace hL := (if_pos z3).symm.trans hL
        refine j_iconst 0 dX8_add_32 (by decide) ?_
        cases hL
        exact j_ret0 dX8_add_33 rfl hK
      · replace hL := (if_neg z3).symm.trans hL
        refine j_iload_n 2 dX8_add_21 rfl ?_
        refine j_if_lt 32 dX8_add_22 (by decide) (fun z4 => ?_) (fun z4 => ?_)
        · replace hL := (if_pos z4).symm.trans hL
          refine j_iconst 0 dX8_add_32 (by decide) ?_
          cases hL
          exact j_ret0 dX8_add_33 rfl hK
        · replace hL := (if_neg z4).symm.trans hL
          refine j_iload_n 2 dX8_add_25 rfl ?_
          refine j_sipush 9999 dX8_add_26 (by decide) ?_
          refine j_icmp_le 34 dX8_add_29 (by decide) (fun z5 => ?_) (fun z5 => ?_)
          · replace hL := (if_pos z5).symm.trans hL
            refine j_aload_n 0 dX8_add_34 rfl ?_
            refine jg_RX8_9 rfl s0 dX8_add_35 ?_
            refine j_aload_n 0 dX8_add_38 rfl ?_
            refine jg_RX8_18 rfl s0 dX8_add_39 ?_
            refine j_iload_n 1 dX8_add_42 rfl ?_
            obtain ⟨g6, hL⟩ := gd_ex hL
            refine j_iast (shf_8_1 s0) (ib_in g6) dX8_add_43 ?_
            obtain ⟨h7, eh7, hL⟩ := lt_ex hL
            refine j_heap eh7 ?_
            refine j_aload_n 0 dX8_add_44 rfl ?_
            refine jg_RX8_15 rfl s0 dX8_add_45 ?_
            refine j_aload_n 0 dX8_add_48 rfl ?_
            refine jg_RX8_18 rfl s0 dX8_add_49 ?_
            refine j_iload_n 2 dX8_add_52 rfl ?_
            obtain ⟨g8, hL⟩ := gd_ex hL
            refine j_iast (shf_8_2 s0) (ib_in g8) dX8_add_53 ?_
            obtain ⟨h9, eh9, hL⟩ := lt_ex hL
            refine j_heap eh9 ?_
            refine j_aload_n 0 dX8_add_54 rfl ?_
            refine j_dup dX8_add_55 rfl ?_
            refine jg_RX8_18 rfl s0 dX8_add_56 ?_
            refine j_iconst 1 dX8_add_59 (by decide) ?_
            refine j_iadd dX8_add_60 ?_
            refine jp_RX8_18 rfl s0 dX8_add_61 ?_
            obtain ⟨h10, eh10, hL⟩ := lt_ex hL
            refine j_heap eh10 ?_
            refine j_iconst 1 dX8_add_64 (by decide) ?_
            cases hL
            exact j_ret1 dX8_add_65 rfl hK
          · replace hL := (if_neg z5).symm.trans hL
            refine j_iconst 0 dX8_add_32 (by decide) ?_
            cases hL
            exact j_ret0 dX8_add_33 rfl hK

def f_X11_blank (v1 : Int32) (v2 : Int32) (h : AH) : Option (Int32 × AH) := bnd (f_X8_add 28 v1 v2 h) (fun q1 => if q1.1 = true then some (hfi q1.2 28 0, q1.2) else gd (ib 3 4 = true) (gd (ib 3 4 = true) (lt (sia q1.2 31 (cl 3) ((hia q1.2 31 (cl 3)) + 1)) (fun h5 => some ((-1), h5)))))
set_option maxRecDepth 20000 in
theorem c_X11_blank (G : GG) (v1 : Int32) (v2 : Int32) (h : AH) (r : Int32 × AH) (hL : f_X11_blank v1 v2 h = some r) : SpI G 2 mX11_blank [.ref (ad G 0), .int v1, .int v2] h r.1 r.2 := by
  refine sp_i pf_X11_blank (Nat.le_of_ble_eq_true rfl) ?_
  show J G mX11_blank 2 0 0 (KMi G r.1 r.2) 0 [(0, .ref (ad G 0)), (1, .int v1), (2, .int v2)] [] h
  obtain ⟨K, hK⟩ : ∃ K, K = KMi G r.1 r.2 := ⟨_, rfl⟩
  rw [← hK]
  unfold f_X11_blank at hL
  refine j_aload_n 0 dX11_blank_0 rfl ?_
  refine jg_RX11_51 rfl sh_0 dX11_blank_1 ?_
  refine j_iload_n 1 dX11_blank_4 rfl ?_
  refine j_iload_n 2 dX11_blank_5 rfl ?_
  obtain ⟨q1, hq1, hL⟩ := bnd_ex hL
  refine j_callVi (c_X8_add G 28 (shf_11_7 sh_0) v1 v2 h _ hq1) cv_RX11_360 rfl (shf_11_7 sh_0) (by decide) rfl (by decide) rfl rfl (Nat.le_of_ble_eq_true rfl) dX11_blank_6 (by decide) ?_
  refine j_ifz_ne 24 dX11_blank_9 (by decide) (fun z2 => ?_) (fun z2 => ?_)
  · replace hL := (if_pos z2).symm.trans hL
    refine j_aload_n 0 dX11_blank_24 rfl ?_
    refine jg_RX11_51 rfl sh_0 dX11_blank_25 ?_
    refine jg_RX11_157 rfl (shf_11_7 sh_0) dX11_blank_28 ?_
    cases hL
    exact j_reti dX11_blank_31 rfl hK
  · replace hL := (if_neg z2).symm.trans hL
    refine j_aload_n 0 dX11_blank_12 rfl ?_
    refine jg_RX11_55 rfl sh_0 dX11_blank_13 ?_
    refine j_iconst 3 dX11_blank_16 (by decide) ?_
    refine j_dup2 dX11_blank_17 rfl rfl ?_
    obtain ⟨g3, hL⟩ := gd_ex hL
    refine j_iald (shf_11_8 sh_0) (ib_in g3) dX11_blank_18 ?_
    refine j_iconst 1 dX11_blank_19 (by decide) ?_
    refine j_iadd dX11_blank_20 ?_
    obtain ⟨g4, hL⟩ := gd_ex hL
    refine j_iast (shf_11_8 sh_0) (ib_in g4) dX11_blank_21 ?_
    obtain ⟨h5, eh5, hL⟩ := lt_ex hL
    refine j_heap eh5 ?_
    refine j_iconst (-1) dX11_blank_22 (by decide) ?_
    cases hL
    exact j_reti dX11_blank_23 rfl hK

def f_X11_clear  (h : AH) : Option (Int32 × AH) := lt (sfi h 28 0 0) (fun h1 => some (hfi h 28 0, h1))
set_option maxRecDepth 20000 in
theorem c_X11_clear (G : GG)  (h : AH) (r : Int32 × AH) (hL : f_X11_clear h = some r) : SpI G 1 mX11_clear [.ref (ad G 0)] h r.1 r.2 := by
  refine sp_i pf_X11_clear (Nat.le_of_ble_eq_true rfl) ?_
  show J G mX11_clear 1 0 0 (KMi G r.1 r.2) 0 [(0, .ref (ad G 0))] [] h
  obtain ⟨K, hK⟩ : ∃ K, K = KMi G r.1 r.2 := ⟨_, rfl⟩
  rw [← hK]
  unfold f_X11_clear at hL
  refine j_aload_n 0 dX11_clear_0 rfl ?_
  refine jg_RX11_51 rfl sh_0 dX11_clear_1 ?_
  refine jg_RX11_157 rfl (shf_11_7 sh_0) dX11_clear_4 ?_
  refine j_istore_n (lv' := [(1, .int (hfi h 28 0)), (0, .ref (ad G 0))]) dX11_clear_7 (by decide) rfl ?_
  refine j_aload_n 1 dX11_clear_8 rfl ?_
  refine jg_RX11_51 rfl sh_0 dX11_clear_9 ?_
  refine j_iconst 0 dX11_clear_12 (by decide) ?_
  refine jp_RX11_157 rfl (shf_11_7 sh_0) dX11_clear_13 ?_
  obtain ⟨h1, eh1, hL⟩ := lt_ex hL
  refine j_heap eh1 ?_
  refine j_iload_n 0 dX11_clear_16 rfl ?_
  cases hL
  exact j_reti dX11_clear_17 rfl hK

def f_X8_agree_l12 (a0 : Nat) (v1 : Int32) (v2 : Int32) (h : AH) : Nat → Int32 → Option ((Unit) ⊕ (Bool))
  | 0, _ => none
  | n + 1, v3 => if (hfi h a0 0) ≤ v3 then some (.inl ()) else gd (ib v2 20 = true) (gd (ib v3 20 = true) (gd (ib v3 20 = true) (gd (ib v2 20 = true) (if (((hia h (a0 + 2) (cl v2)) - v1) * (hia h (a0 + 1) (cl v3))) ≤ (((hia h (a0 + 2) (cl v3)) + v1) * (hia h (a0 + 1) (cl v2))) then f_X8_agree_l12 a0 v1 v2 h n (v3 + 1) else some (.inr false)))))
def f_X8_agree_l2 (a0 : Nat) (v1 : Int32) (h : AH) : Nat → Int32 → Option ((Unit) ⊕ (Bool))
  | 0, _ => none
  | n + 1, v2 => if (hfi h a0 0) ≤ v2 then some (.inl ()) else bnd (f_X8_agree_l12 a0 v1 v2 h FU 0) (fun q8 => Sum.elim (fun xq8 => f_X8_agree_l2 a0 v1 h n (v2 + 1)) (fun xq8 => some (.inr xq8)) q8)
def f_X8_agree (a0 : Nat) (v1 : Int32) (h : AH) : Option (Bool) := bnd (f_X8_agree_l2 a0 v1 h FU 0) (fun q9 => Sum.elim (fun xq9 => if (hfi h a0 0) ≤ 0 then some false else some true) (fun xq9 => some xq9) q9)
set_option maxRecDepth 20000 in
theorem cl_X8_agree_12 (G : GG) (K : KQ) (a0 : Nat) (v1 : Int32) (v2 : Int32) (s0 : SH a0 = (8, 0)) : ∀ (n : Nat) (v3 : Int32) (h : AH) (r : (Unit) ⊕ (Bool)), f_X8_agree_l12 a0 v1 v2 h n v3 = some r → (∀ x, r = .inl x → J G mX8_agree 1 0 0 K 61 [(0, .ref (ad G a0)), (1, .int v1), (2, .int v2)] [] h) → (∀ x, r = .inr x → K = KMi G (bI x) h) → J G mX8_agree 1 0 0 K 12 [(0, .ref (ad G a0)), (1, .int v1), (2, .int v2), (3, .int v3)] [] h := by
  intro n
  induction n with
  | zero => intro v3 h r hL; cases hL
  | succ n ih =>
    intro v3 h r hL kE kR
    unfold f_X8_agree_l12 at hL
    refine j_iload_n 3 dX8_agree_12 rfl ?_
    refine j_aload_n 0 dX8_agree_13 rfl ?_
    refine jg_RX8_18 rfl s0 dX8_agree_14 ?_
    refine j_icmp_ge 61 dX8_agree_17 (by decide) (fun z2 => ?_) (fun z2 => ?_)
    · replace hL := (if_pos z2).symm.trans hL
      cases hL
      refine j_sub [0, 1, 2] rfl ?_
      exact kE _ rfl
    · replace hL := (if_neg z2).symm.trans hL
      refine j_aload_n 0 dX8_agree_20 rfl ?_
      refine jg_RX8_15 rfl s0 dX8_agree_21 ?_
      refine j_iload_n 2 dX8_agree_24 rfl ?_
      obtain ⟨g3, hL⟩ := gd_ex hL
      refine j_iald (shf_8_2 s0) (ib_in g3) dX8_agree_25 ?_
      refine j_iload_n 1 dX8_agree_26 rfl ?_
      refine j_isub dX8_agree_27 ?_
      refine j_aload_n 0 dX8_agree_28 rfl ?_
      refine jg_RX8_9 rfl s0 dX8_agree_29 ?_
      refine j_iload_n 3 dX8_agree_32 rfl ?_
      obtain ⟨g4, hL⟩ := gd_ex hL
      refine j_iald (shf_8_1 s0) (ib_in g4) dX8_agree_33 ?_
      refine j_imul dX8_agree_34 ?_
      refine j_aload_n 0 dX8_agree_35 rfl ?_
      refine jg_RX8_15 rfl s0 dX8_agree_36 ?_
      refine j_iload_n 3 dX8_agree_39 rfl ?_
      obtain ⟨g5, hL⟩ := gd_ex hL
      refine j_iald (shf_8_2 s0) (ib_in g5) dX8_agree_40 ?_
      refine j_iload_n 1 dX8_agree_41 rfl ?_
      refine j_iadd dX8_agree_42 ?_
      refine j_aload_n 0 dX8_agree_43 rfl ?_
      refine jg_RX8_9 rfl s0 dX8_agree_44 ?_
      refine j_iload_n 2 dX8_agree_47 rfl ?_
      obtain ⟨g6, hL⟩ := gd_ex hL
      refine j_iald (shf_8_1 s0) (ib_in g6) dX8_agree_48 ?_
      refine j_imul dX8_agree_49 ?_
      refine j_icmp_le 55 dX8_agree_50 (by decide) (fun z7 => ?_) (fun z7 => ?_)
      · replace hL := (if_pos z7).symm.trans hL
        refine j_iinc (lv' := [(3, .int (v3 + 1)), (0, .ref (ad G a0)), (1, .int v1), (2, .int v2)]) 3 dX8_agree_55 rfl rfl (by decide) rfl ?_
        refine j_goto 12 dX8_agree_58 (by decide) ?_
        refine j_sub [1, 2, 3, 0] rfl ?_
        exact ih (v3 + 1) h r hL kE kR
      · replace hL := (if_neg z7).symm.trans hL
        refine j_iconst 0 dX8_agree_53 (by decide) ?_
        cases hL
        exact j_ret0 dX8_agree_54 rfl (kR _ rfl)

set_option maxRecDepth 20000 in
theorem cl_X8_agree_2 (G : GG) (K : KQ) (a0 : Nat) (v1 : Int32) (s0 : SH a0 = (8, 0)) : ∀ (n : Nat) (v2 : Int32) (h : AH) (r : (Unit) ⊕ (Bool)), f_X8_agree_l2 a0 v1 h n v2 = some r → (∀ x, r = .inl x → J G mX8_agree 1 0 0 K 67 [(0, .ref (ad G a0))] [] h) → (∀ x, r = .inr x → K = KMi G (bI x) h) → J G mX8_agree 1 0 0 K 2 [(0, .ref (ad G a0)), (1, .int v1), (2, .int v2)] [] h := by
  intro n
  induction n with
  | zero => intro v2 h r hL; cases hL
  | succ n ih =>
    intro v2 h r hL kE kR
    unfold f_X8_agree_l2 at hL
    refine j_iload_n 2 dX8_agree_2 rfl ?_
    refine j_aload_n 0 dX8_agree_3 rfl ?_
    refine jg_RX8_18 rfl s0 dX8_agree_4 ?_
    refine j_icmp_ge 67 dX8_agree_7 (by decide) (fun z1 => ?_) (fun z1 => ?_)
    · replace hL := (if_pos z1).symm.trans hL
      cases hL
      refine j_sub [0] rfl ?_
      exact kE _ rfl
    · replace hL := (if_neg z1).symm.trans hL
      refine j_iconst 0 dX8_agree_10 (by decide) ?_
      refine j_istore_n (lv' := [(3, .int 0), (0, .ref (ad G a0)), (1, .int v1), (2, .int v2)]) dX8_agree_11 (by decide) rfl ?_
      obtain ⟨q8, hq8, hL⟩ := bnd_ex hL
      refine j_sub [1, 2, 3, 0] rfl ?_
      refine cl_X8_agree_12 G K a0 v1 v2 s0 FU 0 h q8 hq8 (fun xq8 eq8 => ?_) (fun xq8 eq8 => ?_)
      · subst eq8
        refine j_iinc (lv' := [(2, .int (v2 + 1)), (0, .ref (ad G a0)), (1, .int v1)]) 2 dX8_agree_61 rfl rfl (by decide) rfl ?_
        refine j_goto 2 dX8_agree_64 (by decide) ?_
        refine j_sub [1, 2, 0] rfl ?_
        exact ih (v2 + 1) h r hL kE kR
      · subst eq8
        cases hL
        exact kR _ rfl

set_option maxRecDepth 20000 in
theorem c_X8_agree (G : GG) (a0 : Nat) (s0 : SH a0 = (8, 0)) (v1 : Int32) (h : AH) (r : Bool) (hL : f_X8_agree a0 v1 h = some r) : SpI G 1 mX8_agree [.ref (ad G a0), .int v1] h (bI r) h := by
  refine sp_i pf_X8_agree (Nat.le_of_ble_eq_true rfl) ?_
  show J G mX8_agree 1 0 0 (KMi G (bI r) h) 0 [(0, .ref (ad G a0)), (1, .int v1)] [] h
  obtain ⟨K, hK⟩ : ∃ K, K = KMi G (bI r) h := ⟨_, rfl⟩
  rw [← hK]
  unfold f_X8_agree at hL
  refine j_iconst 0 dX8_agree_0 (by decide) ?_
  refine j_istore_n (lv' := [(2, .int 0), (0, .ref (ad G a0)), (1, .int v1)]) dX8_agree_1 (by decide) rfl ?_
  obtain ⟨q9, hq9, hL⟩ := bnd_ex hL
  refine j_sub [1, 2, 0] rfl ?_
  refine cl_X8_agree_2 G K a0 v1 s0 FU 0 h q9 hq9 (fun xq9 eq9 => ?_) (fun xq9 eq9 => ?_)
  · subst eq9
    refine j_aload_n 0 dX8_agree_67 rfl ?_
    refine jg_RX8_18 rfl s0 dX8_agree_68 ?_
    refine j_if_le 78 dX8_agree_71 (by decide) (fun z10 => ?_) (fun z10 => ?_)
    · replace hL := (if_pos z10).symm.trans hL
      refine j_iconst 0 dX8_agree_78 (by decide) ?_
      cases hL
      exact j_ret0 dX8_agree_79 rfl hK
    · replace hL := (if_neg z10).symm.trans hL
      refine j_iconst 1 dX8_agree_74 (by decide) ?_
      refine j_goto 79 dX8_agree_75 (by decide) ?_
      cases hL
      exact j_ret1 dX8_agree_79 rfl hK
  · subst eq9
    cases hL
    exact hK

def f_X8_least_l4 (a0 : Nat) (v1 : Int32) (h : AH) : Nat → Int32 → Int32 → Option (Int32)
  | 0, _, _ => none
  | n + 1, v2, v3 => if (hfi h a0 0) ≤ v3 then some v2 else gd (ib v3 20 = true) (gd (ib v3 20 = true) (bnd (f_X11_cutDown (1000 * (((hia h (a0 + 2) (cl v3)) - v1).toInt64)) ((hia h (a0 + 1) (cl v3)).toInt64)) (fun q4 => f_X8_least_l4 a0 v1 h n (f_J9_max_7cf53 v2 q4) (v3 + 1))))
def f_X8_least (a0 : Nat) (v1 : Int32) (h : AH) : Option (Int32) := bnd (f_X8_least_l4 a0 v1 h FU 0 0) (fun q5 => some q5)
set_option maxRecDepth 20000 in
theorem cl_X8_least_4 (G : GG) (K : KQ) (a0 : Nat) (v1 : Int32) (s0 : SH a0 = (8, 0)) : ∀ (n : Nat) (v2 : Int32) (v3 : Int32) (h : AH) (r : Int32), f_X8_least_l4 a0 v1 h n v2 v3 = some r → J G mX8_least 3 0 0 K 46 [(2, .int r)] [] h → J G mX8_least 3 0 0 K 4 [(0, .ref (ad G a0)), (1, .int v1), (2, .int v2), (3, .int v3)] [] h := by
  intro n
  induction n with
  | zero => intro v2 v3 h r hL; cases hL
  | succ n ih =>
    intro v2 v3 h r hL kE
    unfold f_X8_least_l4 at hL
    refine j_iload_n 3 dX8_least_4 rfl ?_
    refine j_aload_n 0 dX8_least_5 rfl ?_
    refine jg_RX8_18 rfl s0 dX8_least_6 ?_
    refine j_icmp_ge 46 dX8_least_9 (by decide) (fun z1 => ?_) (fun z1 => ?_)
    · replace hL := (if_pos z1).symm.trans hL
      cases hL
      refine j_sub [2] rfl ?_
      exact kE 
    · replace hL := (if_neg z1).symm.trans hL
      refine j_iload_n 2 dX8_least_12 rfl ?_
      refine j_ldc2 rfl kk_RX8_22 dX8_least_13 ?_
      refine j_aload_n 0 dX8_least_16 rfl ?_
      refine jg_RX8_15 rfl s0 dX8_least_17 ?_
      refine j_iload_n 3 dX8_least_20 rfl ?_
      obtain ⟨g2, hL⟩ := gd_ex hL
      refine j_iald (shf_8_2 s0) (ib_in g2) dX8_least_21 ?_
      refine j_iload_n 1 dX8_least_22 rfl ?_
      refine j_isub dX8_least_23 ?_
      refine j_i2l dX8_least_24 ?_
      refine j_lmul dX8_least_25 ?_
      refine j_aload_n 0 dX8_least_26 rfl ?_
      refine jg_RX8_9 rfl s0 dX8_least_27 ?_
      refine j_iload_n 3 dX8_least_30 rfl ?_
      obtain ⟨g3, hL⟩ := gd_ex hL
      refine j_iald (shf_8_1 s0) (ib_in g3) dX8_least_31 ?_
      refine j_i2l dX8_least_32 ?_
      obtain ⟨q4, hq4, hL⟩ := bnd_ex hL
      refine j_callNi (c_X11_cutDown G (1000 * (((hia h (a0 + 2) (cl v3)) - v1).toInt64)) ((hia h (a0 + 1) (cl v3)).toInt64) h _ hq4) cv_RX8_24 rfl (by decide) rfl rfl (Nat.le_of_ble_eq_true rfl) dX8_least_33 (by decide) ?_
      refine j_callSi (c_J9_max_7cf53 G v2 q4 h) cv_RX8_28 rfl (by decide) rfl rfl (Nat.le_of_ble_eq_true rfl) dX8_least_36 (by decide) ?_
      refine j_istore_n (lv' := [(2, .int (f_J9_max_7cf53 v2 q4)), (0, .ref (ad G a0)), (1, .int v1), (3, .int v3)]) dX8_least_39 (by decide) rfl ?_
      refine j_iinc (lv' := [(3, .int (v3 + 1)), (2, .int (f_J9_max_7cf53 v2 q4)), (0, .ref (ad G a0)), (1, .int v1)]) 3 dX8_least_40 rfl rfl (by decide) rfl ?_
      refine j_goto 4 dX8_least_43 (by decide) ?_
      refine j_sub [2, 3, 1, 0] rfl ?_
      exact ih (f_J9_max_7cf53 v2 q4) (v3 + 1) h r hL kE

set_option maxRecDepth 20000 in
theorem c_X8_least (G : GG) (a0 : Nat) (s0 : SH a0 = (8, 0)) (v1 : Int32) (h : AH) (r : Int32) (hL : f_X8_least a0 v1 h = some r) : SpI G 3 mX8_least [.ref (ad G a0), .int v1] h r h := by
  refine sp_i pf_X8_least (Nat.le_of_ble_eq_true rfl) ?_
  show J G mX8_least 3 0 0 (KMi G r h) 0 [(0, .ref (ad G a0)), (1, .int v1)] [] h
  obtain ⟨K, hK⟩ : ∃ K, K = KMi G r h := ⟨_, rfl⟩
  rw [← hK]
  unfold f_X8_least at hL
  refine j_iconst 0 dX8_least_0 (by decide) ?_
  refine j_istore_n (lv' := [(2, .int 0), (0, .ref (ad G a0)), (1, .int v1)]) dX8_least_1 (by decide) rfl ?_
  refine j_iconst 0 dX8_least_2 (by decide) ?_
  refine j_istore_n (lv' := [(3, .int 0), (2, .int 0), (0, .ref (ad G a0)), (1, .int v1)]) dX8_least_3 (by decide) rfl ?_
  obtain ⟨q5, hq5, hL⟩ := bnd_ex hL
  refine j_sub [2, 3, 1, 0] rfl ?_
  refine cl_X8_least_4 G K a0 v1 s0 FU 0 0 h q5 hq5 ?_
  refine j_iload_n 0 dX8_least_46 rfl ?_
  cases hL
  exact j_reti dX8_least_47 rfl hK

def f_X8_greatest_l5 (a0 : Nat) (v1 : Int32) (h : AH) : Nat → Int32 → Int32 → Option (Int32)
  | 0, _, _ => none
  | n + 1, v2, v3 => if (hfi h a0 0) ≤ v3 then some v2 else gd (ib v3 20 = true) (gd (ib v3 20 = true) (bnd (f_X11_cutUp (1000 * (((hia h (a0 + 2) (cl v3)) + v1).toInt64)) ((hia h (a0 + 1) (cl v3)).toInt64)) (fun q4 => f_X8_greatest_l5 a0 v1 h n (f_J9_min_7cf53 v2 q4) (v3 + 1))))
def f_X8_greatest (a0 : Nat) (v1 : Int32) (h : AH) : Option (Int32) := bnd (f_X8_greatest_l5 a0 v1 h FU 2147483647 0) (fun q5 => some q5)
set_option maxRecDepth 20000 in
theorem cl_X8_greatest_5 (G : GG) (K : KQ) (a0 : Nat) (v1 : Int32) (s0 : SH a0 = (8, 0)) : ∀ (n : Nat) (v2 : Int32) (v3 : Int32) (h : AH) (r : Int32), f_X8_greatest_l5 a0 v1 h n v2 v3 = some r → J G mX8_greatest 3 0 0 K 47 [(2, .int r)] [] h → J G mX8_greatest 3 0 0 K 5 [(0, .ref (ad G a0)), (1, .int v1), (2, .int v2), (3, .int v3)] [] h := by
  intro n
  induction n with
  | zero => intro v2 v3 h r hL; cases hL
  | succ n ih =>
    intro v2 v3 h r hL kE
    unfold f_X8_greatest_l5 at hL
    refine j_iload_n 3 dX8_greatest_5 rfl ?_
    refine j_aload_n 0 dX8_greatest_6 rfl ?_
    refine jg_RX8_18 rfl s0 dX8_greatest_7 ?_
    refine j_icmp_ge 47 dX8_greatest_10 (by decide) (fun z1 => ?_) (fun z1 => ?_)
    · replace hL := (if_pos z1).symm.trans hL
      cases hL
      refine j_sub [2] rfl ?_
      exact kE 
    · replace hL := (if_neg z1).symm.trans hL
      refine j_iload_n 2 dX8_greatest_13 rfl ?_
      refine j_ldc2 rfl kk_RX8_22 dX8_greatest_14 ?_
      refine j_aload_n 0 dX8_greatest_17 rfl ?_
      refine jg_RX8_15 rfl s0 dX8_greatest_18 ?_
      refine j_iload_n 3 dX8_greatest_21 rfl ?_
      obtain ⟨g2, hL⟩ := gd_ex hL
      refine j_iald (shf_8_2 s0) (ib_in g2) dX8_greatest_22 ?_
      refine j_iload_n 1 dX8_greatest_23 rfl ?_
      refine j_iadd dX8_greatest_24 ?_
      refine j_i2l dX8_greatest_25 ?_
      refine j_lmul dX8_greatest_26 ?_
      refine j_aload_n 0 dX8_greatest_27 rfl ?_
      refine jg_RX8_9 rfl s0 dX8_greatest_28 ?_
      refine j_iload_n 3 dX8_greatest_31 rfl ?_
      obtain ⟨g3, hL⟩ := gd_ex hL
      refine j_iald (shf_8_1 s0) (ib_in g3) dX8_greatest_32 ?_
      refine j_i2l dX8_greatest_33 ?_
      obtain ⟨q4, hq4, hL⟩ := bnd_ex hL
      refine j_callNi (c_X11_cutUp G (1000 * (((hia h (a0 + 2) (cl v3)) + v1).toInt64)) ((hia h (a0 + 1) (cl v3)).toInt64) h _ hq4) cv_RX8_37 rfl (by decide) rfl rfl (Nat.le_of_ble_eq_true rfl) dX8_greatest_34 (by decide) ?_
      refine j_callSi (c_J9_min_7cf53 G v2 q4 h) cv_RX8_40 rfl (by decide) rfl rfl (Nat.le_of_ble_eq_true rfl) dX8_greatest_37 (by decide) ?_
      refine j_istore_n (lv' := [(2, .int (f_J9_min_7cf53 v2 q4)), (0, .ref (ad G a0)), (1, .int v1), (3, .int v3)]) dX8_greatest_40 (by decide) rfl ?_
      refine j_iinc (lv' := [(3, .int (v3 + 1)), (2, .int (f_J9_min_7cf53 v2 q4)), (0, .ref (ad G a0)), (1, .int v1)]) 3 dX8_greatest_41 rfl rfl (by decide) rfl ?_
      refine j_goto 5 dX8_greatest_44 (by decide) ?_
      refine j_sub [2, 3, 1, 0] rfl ?_
      exact ih (f_J9_min_7cf53 v2 q4) (v3 + 1) h r hL kE

set_option maxRecDepth 20000 in
theorem c_X8_greatest (G : GG) (a0 : Nat) (s0 : SH a0 = (8, 0)) (v1 : Int32) (h : AH) (r : Int32) (hL : f_X8_greatest a0 v1 h = some r) : SpI G 3 mX8_greatest [.ref (ad G a0), .int v1] h r h := by
  refine sp_i pf_X8_greatest (Nat.le_of_ble_eq_true rfl) ?_
  show J G mX8_greatest 3 0 0 (KMi G r h) 0 [(0, .ref (ad G a0)), (1, .int v1)] [] h
  obtain ⟨K, hK⟩ : ∃ K, K = KMi G r h := ⟨_, rfl⟩
  rw [← hK]
  unfold f_X8_greatest at hL
  refine j_ldc rfl kk_RX8_36 dX8_greatest_0 ?_
  refine j_istore_n (lv' := [(2, .int 2147483647), (0, .ref (ad G a0)), (1, .int v1)]) dX8_greatest_2 (by decide) rfl ?_
  refine j_iconst 0 dX8_greatest_3 (by decide) ?_
  refine j_istore_n (lv' := [(3, .int 0), (2, .int 2147483647), (0, .ref (ad G a0)), (1, .int v1)]) dX8_greatest_4 (by decide) rfl ?_
  obtain ⟨q5, hq5, hL⟩ := bnd_ex hL
  refine j_sub [2, 3, 1, 0] rfl ?_
  refine cl_X8_greatest_5 G K a0 v1 s0 FU 2147483647 0 h q5 hq5 ?_
  refine j_iload_n 0 dX8_greatest_47 rfl ?_
  cases hL
  exact j_reti dX8_greatest_48 rfl hK

def f_X9_bothHave (a0 : Nat) (a1 : Nat) (v2 : Int32) (h : AH) : Option (Bool) := gd (ib v2 12 = true) (if (hia h (a0 + 7) (cl v2)) ≤ 0 then some false else gd (ib v2 12 = true) (if (hia h (a1 + 7) (cl v2)) ≤ 0 then some false else some true))
set_option maxRecDepth 20000 in
theorem c_X9_bothHave (G : GG) (a0 : Nat) (s0 : SH a0 = (9, 0)) (a1 : Nat) (s1 : SH a1 = (9, 0)) (v2 : Int32) (h : AH) (r : Bool) (hL : f_X9_bothHave a0 a1 v2 h = some r) : SpI G 1 mX9_bothHave [.ref (ad G a0), .ref (ad G a1), .int v2] h (bI r) h := by
  refine sp_i pf_X9_bothHave (Nat.le_of_ble_eq_true rfl) ?_
  show J G mX9_bothHave 1 0 0 (KMi G (bI r) h) 0 [(0, .ref (ad G a0)), (1, .ref (ad G a1)), (2, .int v2)] [] h
  obtain ⟨K, hK⟩ : ∃ K, K = KMi G (bI r) h := ⟨_, rfl⟩
  rw [← hK]
  unfold f_X9_bothHave at hL
  refine j_aload_n 0 dX9_bothHave_0 rfl ?_
  refine jg_RX9_30 rfl s0 dX9_bothHave_1 ?_
  refine j_iload_n 2 dX9_bothHave_4 rfl ?_
  obtain ⟨g1, hL⟩ := gd_ex hL
  refine j_iald (shf_9_6 s0) (ib_in g1) dX9_bothHave_5 ?_
  refine j_if_le 22 dX9_bothHave_6 (by decide) (fun z2 => ?_) (fun z2 => ?_)
  · replace hL := (if_pos z2).symm.trans hL
    refine j_iconst 0 dX9_bothHave_22 (by decide) ?_
    cases hL
    exact j_ret0 dX9_bothHave_23 rfl hK
  · replace hL := (if_neg z2).symm.trans hL
    refine j_aload_n 1 dX9_bothHave_9 rfl ?_
    refine jg_RX9_30 rfl s1 dX9_bothHave_10 ?_
    refine j_iload_n 2 dX9_bothHave_13 rfl ?_
    obtain ⟨g3, hL⟩ := gd_ex hL
    refine j_iald (shf_9_6 s1) (ib_in g3) dX9_bothHave_14 ?_
    refine j_if_le 22 dX9_bothHave_15 (by decide) (fun z4 => ?_) (fun z4 => ?_)
    · replace hL := (if_pos z4).symm.trans hL
      refine j_iconst 0 dX9_bothHave_22 (by decide) ?_
      cases hL
      exact j_ret0 dX9_bothHave_23 rfl hK
    · replace hL := (if_neg z4).symm.trans hL
      refine j_iconst 1 dX9_bothHave_18 (by decide) ?_
      refine j_goto 23 dX9_bothHave_19 (by decide) ?_
      cases hL
      exact j_ret1 dX9_bothHave_23 rfl hK

def f_X9_likeness_l15 (a0 : Nat) (a1 : Nat) (v3 : Int32) (h : AH) : Nat → Int32 → Int32 → Option (Int32)
  | 0, _, _ => none
  | n + 1, v2, v4 => if 12 ≤ v4 then some v2 else bnd (f_X9_bothHave a0 a1 v3 h) (fun q3 => if q3 = true then bnd (f_X9_bothHave a0 a1 v4 h) (fun q5 => if q5 = true then gd (ib v3 12 = true) (gd (ib v4 12 = true) (gd (ib v3 12 = true) (gd (ib v4 12 = true) (f_X9_likeness_l15 a0 a1 v3 h n (v2 + ((f_X11_compared (hia h (a0 + 6) (cl v3)) (hia h (a0 + 6) (cl v4))) * (f_X11_compared (hia h (a1 + 6) (cl v3)) (hia h (a1 + 6) (cl v4))))) (v4 + 1))))) else f_X9_likeness_l15 a0 a1 v3 h n v2 (v4 + 1)) else f_X9_likeness_l15 a0 a1 v3 h n v2 (v4 + 1))
def f_X9_likeness_l4 (a0 : Nat) (a1 : Nat) (h : AH) : Nat → Int32 → Int32 → Option (Int32)
  | 0, _, _ => none
  | n + 1, v2, v3 => if 12 ≤ v3 then some v2 else bnd (f_X9_likeness_l15 a0 a1 v3 h FU v2 (v3 + 1)) (fun q11 => f_X9_likeness_l4 a0 a1 h n q11 (v3 + 1))
def f_X9_likeness (a0 : Nat) (a1 : Nat) (h : AH) : Option (Int32) := bnd (f_X9_likeness_l4 a0 a1 h FU 0 0) (fun q12 => some q12)
set_option maxRecDepth 20000 in
theorem cl_X9_likeness_15 (G : GG) (K : KQ) (a0 : Nat) (a1 : Nat) (v3 : Int32) (s0 : SH a0 = (9, 0)) (s1 : SH a1 = (9, 0)) : ∀ (n : Nat) (v2 : Int32) (v4 : Int32) (h : AH) (r : Int32), f_X9_likeness_l15 a0 a1 v3 h n v2 v4 = some r → J G mX9_likeness 2 0 0 K 83 [(0, .ref (ad G a0)), (1, .ref (ad G a1)), (2, .int r), (3, .int v3)] [] h → J G mX9_likeness 2 0 0 K 15 [(0, .ref (ad G a0)), (1, .ref (ad G a1)), (2, .int v2), (3, .int v3), (4, .int v4)] [] h := by
  intro n
  induction n with
  | zero => intro v2 v4 h r hL; cases hL
  | succ n ih =>
    intro v2 v4 h r hL kE
    unfold f_X9_likeness_l15 at hL
    refine j_iload 4 dX9_likeness_15 rfl ?_
    refine j_bipush 12 dX9_likeness_17 (by decide) ?_
    refine j_icmp_ge 83 dX9_likeness_19 (by decide) (fun z2 => ?_) (fun z2 => ?_)
    · replace hL := (if_pos z2).symm.trans hL
      cases hL
      refine j_sub [0, 1, 2, 3] rfl ?_
      exact kE 
    · replace hL := (if_neg z2).symm.trans hL
      refine j_aload_n 0 dX9_likeness_22 rfl ?_
      refine j_aload_n 1 dX9_likeness_23 rfl ?_
      refine j_iload_n 3 dX9_likeness_24 rfl ?_
      obtain ⟨q3, hq3, hL⟩ := bnd_ex hL
      refine j_callVi (c_X9_bothHave G a0 s0 a1 s1 v3 h _ hq3) cv_RX9_123 rfl s0 (by decide) rfl (by decide) rfl rfl (Nat.le_of_ble_eq_true rfl) dX9_likeness_25 (by decide) ?_
      refine j_ifz_eq 77 dX9_likeness_28 (by decide) (fun z4 => ?_) (fun z4 => ?_)
      · replace hL := (if_neg z4).symm.trans hL
        refine j_iinc (lv' := [(4, .int (v4 + 1)), (0, .ref (ad G a0)), (1, .ref (ad G a1)), (2, .int v2), (3, .int v3)]) 4 dX9_likeness_77 rfl rfl (by decide) rfl ?_
        refine j_goto 15 dX9_likeness_80 (by decide) ?_
        refine j_sub [1, 2, 3, 4, 0] rfl ?_
        exact ih v2 (v4 + 1) h r hL kE
      · replace hL := (if_pos z4).symm.trans hL
        refine j_aload_n 0 dX9_likeness_31 rfl ?_
        refine j_aload_n 1 dX9_likeness_32 rfl ?_
        refine j_iload 4 dX9_likeness_33 rfl ?_
        obtain ⟨q5, hq5, hL⟩ := bnd_ex hL
        refine j_callVi (c_X9_bothHave G a0 s0 a1 s1 v4 h _ hq5) cv_RX9_123 rfl s0 (by decide) rfl (by decide) rfl rfl (Nat.le_of_ble_eq_true rfl) dX9_likeness_35 (by decide) ?_
        refine j_ifz_eq 77 dX9_likeness_38 (by decide) (fun z6 => ?_) (fun z6 => ?_)
        · replace hL := (if_neg z6).symm.trans hL
          refine j_iinc (lv' := [(4, .int (v4 + 1)), (0, .ref (ad G a0)), (1, .ref (ad G a1)), (2, .int v2), (3, .int v3)]) 4 dX9_likeness_77 rfl rfl (by decide) rfl ?_
          refine j_goto 15 dX9_likeness_80 (by decide) ?_
          refine j_sub [1, 2, 3, 4, 0] rfl ?_
          exact ih v2 (v4 + 1) h r hL kE
        · replace hL := (if_pos z6).symm.trans hL
          refine j_iload_n 2 dX9_likeness_41 rfl ?_
          refine j_aload_n 0 dX9_likeness_42 rfl ?_
          refine jg_RX9_27 rfl s0 dX9_likeness_43 ?_
          refine j_iload_n 3 dX9_likeness_46 rfl ?_
          obtain ⟨g7, hL⟩ := gd_ex hL
          refine j_iald (shf_9_5 s0) (ib_in g7) dX9_likeness_47 ?_
          refine j_aload_n 0 dX9_likeness_48 rfl ?_
          refine jg_RX9_27 rfl s0 dX9_likeness_49 ?_
          refine j_iload 4 dX9_likeness_52 rfl ?_
          obtain ⟨g8, hL⟩ := gd_ex hL
          refine j_iald (shf_9_5 s0) (ib_in g8) dX9_likeness_54 ?_
          refine j_callNi (c_X11_compared G (hia h (a0 + 6) (cl v3)) (hia h (a0 + 6) (cl v4)) h) cv_RX9_102 rfl (by decide) rfl rfl (Nat.le_of_ble_eq_true rfl) dX9_likeness_55 (by decide) ?_
          refine j_aload_n 1 dX9_likeness_58 rfl ?_
          refine jg_RX9_27 rfl s1 dX9_likeness_59 ?_
          refine j_iload_n 3 dX9_likeness_62 rfl ?_
          obtain ⟨g9, hL⟩ := gd_ex hL
          refine j_iald (shf_9_5 s1) (ib_in g9) dX9_likeness_63 ?_
          refine j_aload_n 1 dX9_likeness_64 rfl ?_
          refine jg_RX9_27 rfl s1 dX9_likeness_65 ?_
          refine j_iload 4 dX9_likeness_68 rfl ?_
          obtain ⟨g10, hL⟩ := gd_ex hL
          refine j_iald (shf_9_5 s1) (ib_in g10) dX9_likeness_70 ?_
          refine j_callNi (c_X11_compared G (hia h (a1 + 6) (cl v3)) (hia h (a1 + 6) (cl v4)) h) cv_RX9_102 rfl (by decide) rfl rfl (Nat.le_of_ble_eq_true rfl) dX9_likeness_71 (by decide) ?_
          refine j_imul dX9_likeness_74 ?_
          refine j_iadd dX9_likeness_75 ?_
          refine j_istore_n (lv' := [(2, .int (v2 + ((f_X11_compared (hia h (a0 + 6) (cl v3)) (hia h (a0 + 6) (cl v4))) * (f_X11_compared (hia h (a1 + 6) (cl v3)) (hia h (a1 + 6) (cl v4)))))), (0, .ref (ad G a0)), (1, .ref (ad G a1)), (3, .int v3), (4, .int v4)]) dX9_likeness_76 (by decide) rfl ?_
          refine j_iinc (lv' := [(4, .int (v4 + 1)), (2, .int (v2 + ((f_X11_compared (hia h (a0 + 6) (cl v3)) (hia h (a0 + 6) (cl v4))) * (f_X11_compared (hia h (a1 + 6) (cl v3)) (hia h (a1 + 6) (cl v4)))))), (0, .ref (ad G a0)), (1, .ref (ad G a1)), (3, .int v3)]) 4 dX9_likeness_77 rfl rfl (by decide) rfl ?_
          refine j_goto 15 dX9_likeness_80 (by decide) ?_
          refine j_sub [2, 3, 1, 4, 0] rfl ?_
          exact ih (v2 + ((f_X11_compared (hia h (a0 + 6) (cl v3)) (hia h (a0 + 6) (cl v4))) * (f_X11_compared (hia h (a1 + 6) (cl v3)) (hia h (a1 + 6) (cl v4))))) (v4 + 1) h r hL kE

set_option maxRecDepth 20000 in
theorem cl_X9_likeness_4 (G : GG) (K : KQ) (a0 : Nat) (a1 : Nat) (s0 : SH a0 = (9, 0)) (s1 : SH a1 = (9, 0)) : ∀ (n : Nat) (v2 : Int32) (v3 : Int32) (h : AH) (r : Int32), f_X9_likeness_l4 a0 a1 h n v2 v3 = some r → J G mX9_likeness 2 0 0 K 89 [(2, .int r)] [] h → J G mX9_likeness 2 0 0 K 4 [(0, .ref (ad G a0)), (1, .ref (ad G a1)), (2, .int v2), (3, .int v3)] [] h := by
  intro n
  induction n with
  | zero => intro v2 v3 h r hL; cases hL
  | succ n ih =>
    intro v2 v3 h r hL kE
    unfold f_X9_likeness_l4 at hL
    refine j_iload_n 3 dX9_likeness_4 rfl ?_
    refine j_bipush 12 dX9_likeness_5 (by decide) ?_
    refine j_icmp_ge 89 dX9_likeness_7 (by decide) (fun z1 => ?_) (fun z1 => ?_)
    · replace hL := (if_pos z1).symm.trans hL
      cases hL
      refine j_sub [2] rfl ?_
      exact kE 
    · replace hL := (if_neg z1).symm.trans hL
      refine j_iload_n 3 dX9_likeness_10 rfl ?_
      refine j_iconst 1 dX9_likeness_11 (by decide) ?_
      refine j_iadd dX9_likeness_12 ?_
      refine j_istore (lv' := [(4, .int (v3 + 1)), (0, .ref (ad G a0)), (1, .ref (ad G a1)), (2, .int v2), (3, .int v3)]) dX9_likeness_13 (by decide) rfl ?_
      obtain ⟨q11, hq11, hL⟩ := bnd_ex hL
      refine j_sub [1, 2, 3, 4, 0] rfl ?_
      refine cl_X9_likeness_15 G K a0 a1 v3 s0 s1 FU v2 (v3 + 1) h q11 hq11 ?_
      refine j_iinc (lv' := [(3, .int (v3 + 1)), (0, .ref (ad G a0)), (1, .ref (ad G a1)), (2, .int q11)]) 3 dX9_likeness_83 rfl rfl (by decide) rfl ?_
      refine j_goto 4 dX9_likeness_86 (by decide) ?_
      refine j_sub [1, 2, 3, 0] rfl ?_
      exact ih q11 (v3 + 1) h r hL kE

set_option maxRecDepth 20000 in
theorem c_X9_likeness (G : GG) (a0 : Nat) (s0 : SH a0 = (9, 0)) (a1 : Nat) (s1 : SH a1 = (9, 0)) (h : AH) (r : Int32) (hL : f_X9_likeness a0 a1 h = some r) : SpI G 2 mX9_likeness [.ref (ad G a0), .ref (ad G a1)] h r h := by
  refine sp_i pf_X9_likeness (Nat.le_of_ble_eq_true rfl) ?_
  show J G mX9_likeness 2 0 0 (KMi G r h) 0 [(0, .ref (ad G a0)), (1, .ref (ad G a1))] [] h
  obtain ⟨K, hK⟩ : ∃ K, K = KMi G r h := ⟨_, rfl⟩
  rw [← hK]
  unfold f_X9_likeness at hL
  refine j_iconst 0 dX9_likeness_0 (by decide) ?_
  refine j_istore_n (lv' := [(2, .int 0), (0, .ref (ad G a0)), (1, .ref (ad G a1))]) dX9_likeness_1 (by decide) rfl ?_
  refine j_iconst 0 dX9_likeness_2 (by decide) ?_
  refine j_istore_n (lv' := [(3, .int 0), (2, .int 0), (0, .ref (ad G a0)), (1, .ref (ad G a1))]) dX9_likeness_3 (by decide) rfl ?_
  obtain ⟨q12, hq12, hL⟩ := bnd_ex hL
  refine j_sub [2, 3, 1, 0] rfl ?_
  refine cl_X9_likeness_4 G K a0 a1 s0 s1 FU 0 0 h q12 hq12 ?_
  refine j_iload_n 0 dX9_likeness_89 rfl ?_
  cases hL
  exact j_reti dX9_likeness_90 rfl hK

def f_X9_surely_l9 (a0 : Nat) (a1 : Nat) (v2 : Int32) (v3 : Int32) (h : AH) : Nat → Int64 → Int64 → Int32 → Option (Int64 × Int64)
  | 0, _, _, _ => none
  | n + 1, v4, v6, v8 => if (hfi h a1 0) ≤ v8 then some (v4, v6) else bnd (f_X9_isStrange a0 v8 h) (fun q2 => if q2 = true then f_X9_surely_l9 a0 a1 v2 v3 h n v4 v6 (v8 + 1) else gd (ib v8 40 = true) (lt (fun (x8 : Int64) => gd (ib v8 40 = true) (if (hia h (a1 + 1) (cl v8)) = v3 then gd (ib v8 40 = true) (f_X9_surely_l9 a0 a1 v2 v3 h n (v4 + x8) (v6 + ((hia h (a0 + 4) (cl v8)).toInt64)) (v8 + 1)) else f_X9_surely_l9 a0 a1 v2 v3 h n (v4 + x8) (v6 + 0) (v8 + 1))) (fun j6 => if (hia h (a1 + 1) (cl v8)) = v2 then gd (ib v8 40 = true) (j6 ((hia h (a0 + 3) (cl v8)).toInt64)) else j6 0)))
def f_X9_surely (a0 : Nat) (a1 : Nat) (v2 : Int32) (v3 : Int32) (h : AH) : Option (Bool) := bnd (f_X9_surely_l9 a0 a1 v2 v3 h FU 0 0 0) (fun q12 => gd (ib v3 12 = true) (gd (ib v2 12 = true) (if (lg_cmp (q12.1 * ((hia h (a0 + 7) (cl v3)).toInt64)) (q12.2 * ((hia h (a0 + 7) (cl v2)).toInt64))) ≤ 0 then some false else some true)))
set_option maxRecDepth 20000 in
theorem cl_X9_surely_9 (G : GG) (K : KQ) (a0 : Nat) (a1 : Nat) (v2 : Int32) (v3 : Int32) (s0 : SH a0 = (9, 0)) (s1 : SH a1 = (0, 0)) : ∀ (n : Nat) (v4 : Int64) (v6 : Int64) (v8 : Int32) (h : AH) (r : Int64 × Int64), f_X9_surely_l9 a0 a1 v2 v3 h n v4 v6 v8 = some r → J G mX9_surely 2 0 0 K 89 [(0, .ref (ad G a0)), (2, .int v2), (3, .int v3), (4, .long r.1), (6, .long r.2)] [] h → J G mX9_surely 2 0 0 K 9 [(0, .ref (ad G a0)), (1, .ref (ad G a1)), (2, .int v2), (3, .int v3), (4, .long v4), (6, .long v6), (8, .int v8)] [] h := by
  intro n
  induction n with
  | zero => intro v4 v6 v8 h r hL; cases hL
  | succ n ih =>
    intro v4 v6 v8 h r hL kE
    unfold f_X9_surely_l9 at hL
    refine j_iload 6 dX9_surely_9 rfl ?_
    refine j_aload_n 1 dX9_surely_11 rfl ?_
    refine jg_RX9_36 rfl s1 dX9_surely_12 ?_
    refine j_icmp_ge 89 dX9_surely_15 (by decide) (fun z1 => ?_) (fun z1 => ?_)
    · replace hL := (if_pos z1).symm.trans hL
      cases hL
      refine j_sub [0, 2, 3, 4, 5] rfl ?_
      exact kE 
    · replace hL := (if_neg z1).symm.trans hL
      refine j_aload_n 0 dX9_surely_18 rfl ?_
      refine j_iload 6 dX9_surely_19 rfl ?_
      obtain ⟨q2, hq2, hL⟩ := bnd_ex hL
      refine j_callVi (c_X9_isStrange G a0 s0 v8 h _ hq2) cv_RX9_88 rfl s0 (by decide) rfl (by decide) rfl rfl (Nat.le_of_ble_eq_true rfl) dX9_surely_21 (by decide) ?_
      refine j_ifz_ne 83 dX9_surely_24 (by decide) (fun z3 => ?_) (fun z3 => ?_)
      · replace hL := (if_pos z3).symm.trans hL
        refine j_iinc (lv' := [(8, .int (v8 + 1)), (0, .ref (ad G a0)), (1, .ref (ad G a1)), (2, .int v2), (3, .int v3), (4, .long v4), (6, .long v6)]) 6 dX9_surely_83 rfl rfl (by decide) rfl ?_
        refine j_goto 9 dX9_surely_86 (by decide) ?_
        refine j_sub [1, 2, 3, 4, 5, 6, 0] rfl ?_
        exact ih v4 v6 (v8 + 1) h r hL kE
      · replace hL := (if_neg z3).symm.trans hL
        refine j_lload 4 dX9_surely_27 rfl ?_
        refine j_aload_n 1 dX9_surely_29 rfl ?_
        refine jg_RX9_97 rfl s1 dX9_surely_30 ?_
        refine j_iload 6 dX9_surely_33 rfl ?_
        obtain ⟨g4, hL⟩ := gd_ex hL
        refine j_iald (shf_0_6 s1) (ib_in g4) dX9_surely_35 ?_
        refine j_iload_n 2 dX9_surely_36 rfl ?_
        obtain ⟨j6, ej6, hL⟩ := lt_ex hL
        have kj6 : ∀ (x8 : Int64), j6 x8 = some r → J G mX9_surely 2 0 0 K 52 [(0, .ref (ad G a0)), (1, .ref (ad G a1)), (2, .int v2), (3, .int v3), (6, .long v6), (8, .int v8)] [.long x8, .long v4] h := by
          intro x8 hL
          rw [ej6] at hL
          replace hL : (gd (ib v8 40 = true) (if (hia h (a1 + 1) (cl v8)) = v3 then gd (ib v8 40 = true) (f_X9_surely_l9 a0 a1 v2 v3 h n (v4 + x8) (v6 + ((hia h (a0 + 4) (cl v8)).toInt64)) (v8 + 1)) else f_X9_surely_l9 a0 a1 v2 v3 h n (v4 + x8) (v6 + 0) (v8 + 1))) = some r := hL
          refine j_ladd dX9_surely_52 ?_
          refine j_lstore (lv' := [(4, .long (v4 + x8)), (0, .ref (ad G a0)), (1, .ref (ad G a1)), (2, .int v2), (3, .int v3), (6, .long v6), (8, .int v8)]) dX9_surely_53 (by decide) rfl ?_
          refine j_lload 5 dX9_surely_55 rfl ?_
          refine j_aload_n 2 dX9_surely_57 rfl ?_
          refine jg_RX9_97 rfl s1 dX9_surely_58 ?_
          refine j_iload 6 dX9_surely_61 rfl ?_
          obtain ⟨g9, hL⟩ := gd_ex hL
          refine j_iald (shf_0_6 s1) (ib_in g9) dX9_surely_63 ?_
          refine j_iload_n 4 dX9_surely_64 rfl ?_
          refine j_icmp_ne 79 dX9_surely_65 (by decide) (fun z10 => ?_) (fun z10 => ?_)
          · replace hL := (if_neg z10).symm.trans hL
            refine j_lconst 0 dX9_surely_79 (by decide) ?_
            refine j_ladd dX9_surely_80 ?_
            refine j_lstore (lv' := [(6, .long (v6 + 0)), (4, .long (v4 + x8)), (0, .ref (ad G a0)), (1, .ref (ad G a1)), (2, .int v2), (3, .int v3), (8, .int v8)]) dX9_surely_81 (by decide) rfl ?_
            refine j_iinc (lv' := [(8, .int (v8 + 1)), (6, .long (v6 + 0)), (4, .long (v4 + x8)), (0, .ref (ad G a0)), (1, .ref (ad G a1)), (2, .int v2), (3, .int v3)]) 6 dX9_surely_83 rfl rfl (by decide) rfl ?_
            refine j_goto 9 dX9_surely_86 (by decide) ?_
            refine j_sub [3, 4, 5, 6, 2, 1, 0] rfl ?_
            exact ih (v4 + x8) (v6 + 0) (v8 + 1) h r hL kE
          · replace hL := (if_pos z10).symm.trans hL
            refine j_aload_n 1 dX9_surely_68 rfl ?_
            refine jg_RX9_21 rfl s0 dX9_surely_69 ?_
            refine j_iload 6 dX9_surely_72 rfl ?_
            obtain ⟨g11, hL⟩ := gd_ex hL
            refine j_iald (shf_9_3 s0) (ib_in g11) dX9_surely_74 ?_
            refine j_i2l dX9_surely_75 ?_
            refine j_goto 80 dX9_surely_76 (by decide) ?_
            refine j_ladd dX9_surely_80 ?_
            refine j_lstore (lv' := [(6, .long (v6 + ((hia h (a0 + 4) (cl v8)).toInt64))), (4, .long (v4 + x8)), (0, .ref (ad G a0)), (1, .ref (ad G a1)), (2, .int v2), (3, .int v3), (8, .int v8)]) dX9_surely_81 (by decide) rfl ?_
            refine j_iinc (lv' := [(8, .int (v8 + 1)), (6, .long (v6 + ((hia h (a0 + 4) (cl v8)).toInt64))), (4, .long (v4 + x8)), (0, .ref (ad G a0)), (1, .ref (ad G a1)), (2, .int v2), (3, .int v3)]) 6 dX9_surely_83 rfl rfl (by decide) rfl ?_
            refine j_goto 9 dX9_surely_86 (by decide) ?_
            refine j_sub [3, 4, 5, 6, 2, 1, 0] rfl ?_
            exact ih (v4 + x8) (v6 + ((hia h (a0 + 4) (cl v8)).toInt64)) (v8 + 1) h r hL kE
        refine j_icmp_ne 51 dX9_surely_37 (by decide) (fun z5 => ?_) (fun z5 => ?_)
        · replace hL := (if_neg z5).symm.trans hL
          refine j_lconst 0 dX9_surely_51 (by decide) ?_
          refine j_sub [0, 1, 2, 3, 5, 6] rfl ?_
          exact kj6 0 hL
        · replace hL := (if_pos z5).symm.trans hL
          refine j_aload_n 0 dX9_surely_40 rfl ?_
          refine jg_RX9_18 rfl s0 dX9_surely_41 ?_
          refine j_iload 6 dX9_surely_44 rfl ?_
          obtain ⟨g7, hL⟩ := gd_ex hL
          refine j_iald (shf_9_2 s0) (ib_in g7) dX9_surely_46 ?_
          refine j_i2l dX9_surely_47 ?_
          refine j_goto 52 dX9_surely_48 (by decide) ?_
          refine j_sub [0, 1, 2, 3, 5, 6] rfl ?_
          exact kj6 ((hia h (a0 + 3) (cl v8)).toInt64) hL

set_option maxRecDepth 20000 in
theorem c_X9_surely (G : GG) (a0 : Nat) (s0 : SH a0 = (9, 0)) (a1 : Nat) (s1 : SH a1 = (0, 0)) (v2 : Int32) (v3 : Int32) (h : AH) (r : Bool) (hL : f_X9_surely a0 a1 v2 v3 h = some r) : SpI G 2 mX9_surely [.ref (ad G a0), .ref (ad G a1), .int v2, .int v3] h (bI r) h := by
  refine sp_i pf_X9_surely (Nat.le_of_ble_eq_true rfl) ?_
  show J G mX9_surely 2 0 0 (KMi G (bI r) h) 0 [(0, .ref (ad G a0)), (1, .ref (ad G a1)), (2, .int v2), (3, .int v3)] [] h
  obtain ⟨K, hK⟩ : ∃ K, K = KMi G (bI r) h := ⟨_, rfl⟩
  rw [← hK]
  unfold f_X9_surely at hL
  refine j_lconst 0 dX9_surely_0 (by decide) ?_
  refine j_lstore (lv' := [(4, .long 0), (0, .ref (ad G a0)), (1, .ref (ad G a1)), (2, .int v2), (3, .int v3)]) dX9_surely_1 (by decide) rfl ?_
  refine j_lconst 0 dX9_surely_3 (by decide) ?_
  refine j_lstore (lv' := [(6, .long 0), (4, .long 0), (0, .ref (ad G a0)), (1, .ref (ad G a1)), (2, .int v2), (3, .int v3)]) dX9_surely_4 (by decide) rfl ?_
  refine j_iconst 0 dX9_surely_6 (by decide) ?_
  refine j_istore (lv' := [(8, .int 0), (6, .long 0), (4, .long 0), (0, .ref (ad G a0)), (1, .ref (ad G a1)), (2, .int v2), (3, .int v3)]) dX9_surely_7 (by decide) rfl ?_
  obtain ⟨q12, hq12, hL⟩ := bnd_ex hL
  refine j_sub [3, 4, 5, 6, 2, 1, 0] rfl ?_
  refine cl_X9_surely_9 G K a0 a1 v2 v3 s0 s1 FU 0 0 0 h q12 hq12 ?_
  refine j_lload 3 dX9_surely_89 rfl ?_
  refine j_aload_n 0 dX9_surely_91 rfl ?_
  refine jg_RX9_30 rfl s0 dX9_surely_92 ?_
  refine j_iload_n 2 dX9_surely_95 rfl ?_
  obtain ⟨g13, hL⟩ := gd_ex hL
  refine j_iald (shf_9_6 s0) (ib_in g13) dX9_surely_96 ?_
  refine j_i2l dX9_surely_97 ?_
  refine j_lmul dX9_surely_98 ?_
  refine j_lload 4 dX9_surely_99 rfl ?_
  refine j_aload_n 0 dX9_surely_101 rfl ?_
  refine jg_RX9_30 rfl s0 dX9_surely_102 ?_
  refine j_iload_n 1 dX9_surely_105 rfl ?_
  obtain ⟨g14, hL⟩ := gd_ex hL
  refine j_iald (shf_9_6 s0) (ib_in g14) dX9_surely_106 ?_
  refine j_i2l dX9_surely_107 ?_
  refine j_lmul dX9_surely_108 ?_
  refine j_lcmp dX9_surely_109 ?_
  refine j_if_le 117 dX9_surely_110 (by decide) (fun z15 => ?_) (fun z15 => ?_)
  · replace hL := (if_pos z15).symm.trans hL
    refine j_iconst 0 dX9_surely_117 (by decide) ?_
    cases hL
    exact j_ret0 dX9_surely_118 rfl hK
  · replace hL := (if_neg z15).symm.trans hL
    refine j_iconst 1 dX9_surely_113 (by decide) ?_
    refine j_goto 118 dX9_surely_114 (by decide) ?_
    cases hL
    exact j_ret1 dX9_surely_118 rfl hK

def f_X11_drawTrial_l12 (a1 : Nat) : Nat → Int32 → Int32 → AH → Option (Int32 × AH)
  | 0, _, _, _ => none
  | n + 1, v3, v4, h => if (hfi h a1 0) ≤ v4 then some (v3, h) else bnd (f_X11_reading v4 (f_X11_stepped v3) h) (fun q3 => gd (SH (hra h 0 3) = (5, 0)) (bnd (f_X3_take 63 v4 q3 (hfi h (hra h 0 3) 2) h) (fun q5 => f_X11_drawTrial_l12 a1 n (f_X11_stepped v3) (v4 + 1) q5.2)))
def f_X11_drawTrial (a1 : Nat) (v2 : Int32) (h : AH) : Option (Int32 × AH) := bnd (f_X3_wipe 63 h) (fun q1 => bnd (f_X11_drawTrial_l12 a1 FU v2 0 q1) (fun q6 => some (q6.1, q6.2)))
set_option maxRecDepth 20000 in
theorem cl_X11_drawTrial_12 (G : GG) (K : KQ) (a1 : Nat) (s1 : SH a1 = (0, 0)) : ∀ (n : Nat) (v3 : Int32) (v4 : Int32) (h : AH) (r : Int32 × AH), f_X11_drawTrial_l12 a1 n v3 v4 h = some r → J G mX11_drawTrial 3 0 0 K 56 [(3, .int r.1)] [] r.2 → J G mX11_drawTrial 3 0 0 K 12 [(0, .ref (ad G 0)), (1, .ref (ad G a1)), (3, .int v3), (4, .int v4)] [] h := by
  intro n
  induction n with
  | zero => intro v3 v4 h r hL; cases hL
  | succ n ih =>
    intro v3 v4 h r hL kE
    unfold f_X11_drawTrial_l12 at hL
    refine j_iload 3 dX11_drawTrial_12 rfl ?_
    refine j_aload_n 1 dX11_drawTrial_14 rfl ?_
    refine jg_RX11_164 rfl s1 dX11_drawTrial_15 ?_
    refine j_icmp_ge 56 dX11_drawTrial_18 (by decide) (fun z2 => ?_) (fun z2 => ?_)
    · replace hL := (if_pos z2).symm.trans hL
      cases hL
      refine j_sub [2] rfl ?_
      exact kE 
    · replace hL := (if_neg z2).symm.trans hL
      refine j_iload_n 2 dX11_drawTrial_21 rfl ?_
      refine j_callSi (c_X11_stepped G v3 h) cv_RX11_247 rfl (by decide) rfl rfl (Nat.le_of_ble_eq_true rfl) dX11_drawTrial_22 (by decide) ?_
      refine j_istore_n (lv' := [(3, .int (f_X11_stepped v3)), (0, .ref (ad G 0)), (1, .ref (ad G a1)), (4, .int v4)]) dX11_drawTrial_25 (by decide) rfl ?_
      refine j_aload_n 1 dX11_drawTrial_26 rfl ?_
      refine jg_RX11_103 rfl sh_0 dX11_drawTrial_27 ?_
      refine j_iload 3 dX11_drawTrial_30 rfl ?_
      refine j_aload_n 1 dX11_drawTrial_32 rfl ?_
      refine j_iload 3 dX11_drawTrial_33 rfl ?_
      refine j_iload_n 0 dX11_drawTrial_35 rfl ?_
      obtain ⟨q3, hq3, hL⟩ := bnd_ex hL
      refine j_callVi (c_X11_reading G v4 (f_X11_stepped v3) h _ hq3) cv_RX11_253 rfl sh_0 (by decide) rfl (by decide) rfl rfl (Nat.le_of_ble_eq_true rfl) dX11_drawTrial_36 (by decide) ?_
      refine j_aload_n 1 dX11_drawTrial_39 rfl ?_
      refine jg_RX11_31 rfl sh_0 dX11_drawTrial_40 ?_
      obtain ⟨g4, hL⟩ := gd_ex hL
      refine jg_RX11_154 rfl g4 dX11_drawTrial_43 ?_
      obtain ⟨q5, hq5, hL⟩ := bnd_ex hL
      refine j_callVi (c_X3_take G 63 (shf_11_17 sh_0) v4 q3 (hfi h (hra h 0 3) 2) h _ hq5) cv_RX11_256 rfl (shf_11_17 sh_0) (by decide) rfl (by decide) rfl rfl (Nat.le_of_ble_eq_true rfl) dX11_drawTrial_46 (by decide) ?_
      refine j_pop dX11_drawTrial_49 rfl ?_
      refine j_iinc (lv' := [(4, .int (v4 + 1)), (3, .int (f_X11_stepped v3)), (0, .ref (ad G 0)), (1, .ref (ad G a1))]) 3 dX11_drawTrial_50 rfl rfl (by decide) rfl ?_
      refine j_goto 12 dX11_drawTrial_53 (by decide) ?_
      refine j_sub [2, 3, 1, 0] rfl ?_
      exact ih (f_X11_stepped v3) (v4 + 1) q5.2 r hL kE

set_option maxRecDepth 20000 in
theorem c_X11_drawTrial (G : GG) (a1 : Nat) (s1 : SH a1 = (0, 0)) (v2 : Int32) (h : AH) (r : Int32 × AH) (hL : f_X11_drawTrial a1 v2 h = some r) : SpI G 3 mX11_drawTrial [.ref (ad G 0), .ref (ad G a1), .int v2] h r.1 r.2 := by
  refine sp_i pf_X11_drawTrial (Nat.le_of_ble_eq_true rfl) ?_
  show J G mX11_drawTrial 3 0 0 (KMi G r.1 r.2) 0 [(0, .ref (ad G 0)), (1, .ref (ad G a1)), (2, .int v2)] [] h
  obtain ⟨K, hK⟩ : ∃ K, K = KMi G r.1 r.2 := ⟨_, rfl⟩
  rw [← hK]
  unfold f_X11_drawTrial at hL
  refine j_iload_n 2 dX11_drawTrial_0 rfl ?_
  refine j_istore_n (lv' := [(3, .int v2), (0, .ref (ad G 0)), (1, .ref (ad G a1)), (2, .int v2)]) dX11_drawTrial_1 (by decide) rfl ?_
  refine j_aload_n 1 dX11_drawTrial_2 rfl ?_
  refine jg_RX11_103 rfl sh_0 dX11_drawTrial_3 ?_
  obtain ⟨q1, hq1, hL⟩ := bnd_ex hL
  refine j_callVv (c_X3_wipe G 63 (shf_11_17 sh_0) h _ hq1) cv_RX11_459 rfl (shf_11_17 sh_0) (by decide) rfl (by decide) rfl rfl (Nat.le_of_ble_eq_true rfl) dX11_drawTrial_6 (by decide) ?_
  refine j_iconst 0 dX11_drawTrial_9 (by decide) ?_
  refine j_istore (lv' := [(4, .int 0), (3, .int v2), (0, .ref (ad G 0)), (1, .ref (ad G a1)), (2, .int v2)]) dX11_drawTrial_10 (by decide) rfl ?_
  obtain ⟨q6, hq6, hL⟩ := bnd_ex hL
  refine j_sub [2, 3, 1, 0] rfl ?_
  refine cl_X11_drawTrial_12 G K a1 s1 FU v2 0 q1 q6 hq6 ?_
  refine j_iload_n 0 dX11_drawTrial_56 rfl ?_
  cases hL
  exact j_reti dX11_drawTrial_57 rfl hK

