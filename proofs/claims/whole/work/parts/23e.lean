def f_X12_hump_l32 (v3 : Int32) (h : AH) : Nat → Int32 → Option (Int32)
  | 0, _ => none
  | n + 1, v4 => gd (ib v4 12 = true) (if (hia h 225 (cl v4)) = v3 then some v4 else f_X12_hump_l32 v3 h n (v4 + 1))
def f_X12_hump_l52 (v4 : Int32) (h : AH) : Nat → Int32 → Option (Int32)
  | 0, _ => none
  | n + 1, v5 => gd (ib (v5 + 1) 5 = true) (if v4 < (hia h 228 (cl (v5 + 1))) then some v5 else f_X12_hump_l52 v4 h n (v5 + 1))
def f_X12_hump (v1 : Int32) (v2 : Int32) (v3 : Int32) (h : AH) : Option (Int32 × AH) := lt (sfi h 193 2 0) (fun h1 => bnd (f_X12_tellHumps v1 v2 h1) (fun q2 => if q2.1 = true then bnd (f_X12_has v1 v3 q2.2) (fun q5 => if q5 = true then bnd (f_X12_hump_l32 v3 q2.2 FU 0) (fun q9 => bnd (f_X12_hump_l52 q9 q2.2 FU 0) (fun q12 => some (q12, q2.2))) else bnd (f_X12_fail 1 q2.2) (fun q13 => some (q13.1, q13.2))) else bnd (f_X12_fail 1 q2.2) (fun q4 => some (q4.1, q4.2))))
set_option maxRecDepth 20000 in
theorem cl_X12_hump_32 (G : GG) (K : KQ) (v3 : Int32)  : ∀ (n : Nat) (v4 : Int32) (h : AH) (r : Int32), f_X12_hump_l32 v3 h n v4 = some r → J G mX12_hump 10 0 0 K 49 [(0, .ref (ad G 193)), (4, .int r)] [] h → J G mX12_hump 10 0 0 K 32 [(0, .ref (ad G 193)), (3, .int v3), (4, .int v4)] [] h := by
  intro n
  induction n with
  | zero => intro v4 h r hL; cases hL
  | succ n ih =>
    intro v4 h r hL kE
    unfold f_X12_hump_l32 at hL
    refine j_aload_n 0 dX12_hump_32 rfl ?_
    refine jg_RX12_122 rfl sh_193 dX12_hump_33 ?_
    refine j_iload 2 dX12_hump_36 rfl ?_
    obtain ⟨g7, hL⟩ := gd_ex hL
    refine j_iald (shf_12_43 sh_193) (ib_in g7) dX12_hump_38 ?_
    refine j_iload_n 1 dX12_hump_39 rfl ?_
    refine j_icmp_eq 49 dX12_hump_40 (by decide) (fun z8 => ?_) (fun z8 => ?_)
    · replace hL := (if_pos z8).symm.trans hL
      cases hL
      refine j_sub [0, 2] rfl ?_
      exact kE 
    · replace hL := (if_neg z8).symm.trans hL
      refine j_iinc (lv' := [(4, .int (v4 + 1)), (0, .ref (ad G 193)), (3, .int v3)]) 2 dX12_hump_43 rfl rfl (by decide) rfl ?_
      refine j_goto 32 dX12_hump_46 (by decide) ?_
      refine j_sub [1, 2, 0] rfl ?_
      exact ih (v4 + 1) h r hL kE

set_option maxRecDepth 20000 in
theorem cl_X12_hump_52 (G : GG) (K : KQ) (v4 : Int32)  : ∀ (n : Nat) (v5 : Int32) (h : AH) (r : Int32), f_X12_hump_l52 v4 h n v5 = some r → J G mX12_hump 10 0 0 K 72 [(5, .int r)] [] h → J G mX12_hump 10 0 0 K 52 [(0, .ref (ad G 193)), (4, .int v4), (5, .int v5)] [] h := by
  intro n
  induction n with
  | zero => intro v5 h r hL; cases hL
  | succ n ih =>
    intro v5 h r hL kE
    unfold f_X12_hump_l52 at hL
    refine j_iload 1 dX12_hump_52 rfl ?_
    refine j_aload_n 0 dX12_hump_54 rfl ?_
    refine jg_RX12_131 rfl sh_193 dX12_hump_55 ?_
    refine j_iload 2 dX12_hump_58 rfl ?_
    refine j_iconst 1 dX12_hump_60 (by decide) ?_
    refine j_iadd dX12_hump_61 ?_
    obtain ⟨g10, hL⟩ := gd_ex hL
    refine j_iald (shf_12_46 sh_193) (ib_in g10) dX12_hump_62 ?_
    refine j_icmp_lt 72 dX12_hump_63 (by decide) (fun z11 => ?_) (fun z11 => ?_)
    · replace hL := (if_pos z11).symm.trans hL
      cases hL
      refine j_sub [2] rfl ?_
      exact kE 
    · replace hL := (if_neg z11).symm.trans hL
      refine j_iinc (lv' := [(5, .int (v5 + 1)), (0, .ref (ad G 193)), (4, .int v4)]) 2 dX12_hump_66 rfl rfl (by decide) rfl ?_
      refine j_goto 52 dX12_hump_69 (by decide) ?_
      refine j_sub [1, 2, 0] rfl ?_
      exact ih (v5 + 1) h r hL kE

set_option maxRecDepth 20000 in
theorem c_X12_hump (G : GG) (v1 : Int32) (v2 : Int32) (v3 : Int32) (h : AH) (r : Int32 × AH) (hL : f_X12_hump v1 v2 v3 h = some r) : SpI G 10 mX12_hump [.ref (ad G 193), .int v1, .int v2, .int v3] h r.1 r.2 := by
  refine sp_i pf_X12_hump (Nat.le_of_ble_eq_true rfl) ?_
  show J G mX12_hump 10 0 0 (KMi G r.1 r.2) 0 [(0, .ref (ad G 193)), (1, .int v1), (2, .int v2), (3, .int v3)] [] h
  obtain ⟨K, hK⟩ : ∃ K, K = KMi G r.1 r.2 := ⟨_, rfl⟩
  rw [← hK]
  unfold f_X12_hump at hL
  refine j_aload_n 0 dX12_hump_0 rfl ?_
  refine j_iconst 0 dX12_hump_1 (by decide) ?_
  refine jp_RX12_158 rfl sh_193 dX12_hump_2 ?_
  obtain ⟨h1, eh1, hL⟩ := lt_ex hL
  refine j_heap eh1 ?_
  refine j_aload_n 0 dX12_hump_5 rfl ?_
  refine j_iload_n 1 dX12_hump_6 rfl ?_
  refine j_iload_n 2 dX12_hump_7 rfl ?_
  obtain ⟨q2, hq2, hL⟩ := bnd_ex hL
  refine j_callVi (c_X12_tellHumps G v1 v2 h1 _ hq2) cv_RX12_410 rfl sh_193 (by decide) rfl (by decide) rfl rfl (Nat.le_of_ble_eq_true rfl) dX12_hump_8 (by decide) ?_
  refine j_ifz_eq 23 dX12_hump_11 (by decide) (fun z3 => ?_) (fun z3 => ?_)
  · replace hL := (if_neg z3).symm.trans hL
    refine j_aload_n 0 dX12_hump_23 rfl ?_
    refine j_iconst 1 dX12_hump_24 (by decide) ?_
    obtain ⟨q4, hq4, hL⟩ := bnd_ex hL
    refine j_callVi (c_X12_fail G 1 q2.2 _ hq4) cv_RX12_263 rfl sh_193 (by decide) rfl (by decide) rfl rfl (Nat.le_of_ble_eq_true rfl) dX12_hump_25 (by decide) ?_
    cases hL
    exact j_reti dX12_hump_28 rfl hK
  · replace hL := (if_pos z3).symm.trans hL
    refine j_aload_n 0 dX12_hump_14 rfl ?_
    refine j_iload_n 1 dX12_hump_15 rfl ?_
    refine j_iload_n 3 dX12_hump_16 rfl ?_
    obtain ⟨q5, hq5, hL⟩ := bnd_ex hL
    refine j_callVi (c_X12_has G v1 v3 q2.2 _ hq5) cv_RX12_374 rfl sh_193 (by decide) rfl (by decide) rfl rfl (Nat.le_of_ble_eq_true rfl) dX12_hump_17 (by decide) ?_
    refine j_ifz_ne 29 dX12_hump_20 (by decide) (fun z6 => ?_) (fun z6 => ?_)
    · replace hL := (if_pos z6).symm.trans hL
      refine j_iconst 0 dX12_hump_29 (by decide) ?_
      refine j_istore (lv' := [(4, .int 0), (0, .ref (ad G 193)), (1, .int v1), (2, .int v2), (3, .int v3)]) dX12_hump_30 (by decide) rfl ?_
      obtain ⟨q9, hq9, hL⟩ := bnd_ex hL
      refine j_sub [1, 4, 0] rfl ?_
      refine cl_X12_hump_32 G K v3 FU 0 q2.2 q9 hq9 ?_
      refine j_iconst 0 dX12_hump_49 (by decide) ?_
      refine j_istore (lv' := [(5, .int 0), (0, .ref (ad G 193)), (4, .int q9)]) dX12_hump_50 (by decide) rfl ?_
      obtain ⟨q12, hq12, hL⟩ := bnd_ex hL
      refine j_sub [1, 2, 0] rfl ?_
      refine cl_X12_hump_52 G K q9 FU 0 q2.2 q12 hq12 ?_
      refine j_iload 0 dX12_hump_72 rfl ?_
      cases hL
      exact j_reti dX12_hump_74 rfl hK
    · replace hL := (if_neg z6).symm.trans hL
      refine j_aload_n 0 dX12_hump_23 rfl ?_
      refine j_iconst 1 dX12_hump_24 (by decide) ?_
      obtain ⟨q13, hq13, hL⟩ := bnd_ex hL
      refine j_callVi (c_X12_fail G 1 q2.2 _ hq13) cv_RX12_263 rfl sh_193 (by decide) rfl (by decide) rfl rfl (Nat.le_of_ble_eq_true rfl) dX12_hump_25 (by decide) ?_
      cases hL
      exact j_reti dX12_hump_28 rfl hK

def f_X12_fitted_l78 (v1 : Int32) (v2 : Int32) (v3 : Int32) (v6 : Int32) (v7 : Int32) (h : AH) : Nat → Int64 → Int32 → Option (Int64)
  | 0, _, _ => none
  | n + 1, v8, v10 => gd (ib v1 8 = true) (if (hia h 196 (cl v1)) ≤ v10 then some v8 else gd (ib (f_X12_at v1 v10) 320 = true) (gd (ib (f_X12_at v1 v10) 320 = true) (bnd (f_X12_turningsOf v2 (hia h 202 (cl (f_X12_at v1 v10))) (hia h 204 (cl (f_X12_at v1 v10))) h) (fun q17 => lt (fun (x21 : Int32) => bnd (f_X12_midst v1 v10 h) (fun q22 => f_X12_fitted_l78 v1 v2 v3 v6 v7 h n (v8 + ((f_J9_abs_0f7a4 ((((2 * v6) * q17) + x21) - q22)).toInt64)) (v10 + 1))) (fun j19 => if v3 = (-1) then j19 0 else bnd (f_X12_turningsOf v3 (hia h 202 (cl (f_X12_at v1 v10))) (hia h 204 (cl (f_X12_at v1 v10))) h) (fun q20 => j19 ((2 * v7) * q20)))))))
def f_X12_fitted_l56 (v1 : Int32) (v2 : Int32) (v3 : Int32) (v6 : Int32) : Nat → Int64 → Int32 → AH → Option (Int64 × AH)
  | 0, _, _, _ => none
  | n + 1, v4, v7, h => lt (fun (x11 : Int32) => if x11 < v7 then some (v4, h) else bnd (f_X12_fitted_l78 v1 v2 v3 v6 v7 h FU 0 0) (fun q23 => if (lg_cmp v4 0) < 0 then lt (sfi h 193 49 v6) (fun h25 => lt (sfi h25 193 50 v7) (fun h26 => f_X12_fitted_l56 v1 v2 v3 v6 n q23 (v7 + 1) h26)) else if (lg_cmp q23 v4) < 0 then lt (sfi h 193 49 v6) (fun h28 => lt (sfi h28 193 50 v7) (fun h29 => f_X12_fitted_l56 v1 v2 v3 v6 n q23 (v7 + 1) h29)) else f_X12_fitted_l56 v1 v2 v3 v6 n v4 (v7 + 1) h)) (fun j10 => if v3 = (-1) then j10 0 else j10 60)
def f_X12_fitted_l46 (v1 : Int32) (v2 : Int32) (v3 : Int32) : Nat → Int64 → Int32 → AH → Option (Int64 × AH)
  | 0, _, _, _ => none
  | n + 1, v4, v6, h => if 60 < v6 then some (v4, h) else bnd (f_X12_fitted_l56 v1 v2 v3 v6 FU v4 0 h) (fun q30 => f_X12_fitted_l46 v1 v2 v3 n q30.1 (v6 + 1) q30.2)
def f_X12_fitted (v1 : Int32) (v2 : Int32) (v3 : Int32) (h : AH) : Option (Int32 × AH) := lt (sfi h 193 2 0) (fun h1 => bnd (f_X12_isAsked v1 h1) (fun q2 => if q2 = true then if (f_X12_isWay v2) = true then if v3 = (-1) then bnd (f_X12_fitted_l46 v1 v2 v3 FU (-1) 0 h1) (fun q31 => some (Int64.toInt32 q31.1, q31.2)) else if (f_X12_isWay v3) = true then bnd (f_X12_fitted_l46 v1 v2 v3 FU (-1) 0 h1) (fun q33 => some (Int64.toInt32 q33.1, q33.2)) else bnd (f_X12_fail 1 h1) (fun q34 => some (q34.1, q34.2)) else bnd (f_X12_fail 1 h1) (fun q6 => some (q6.1, q6.2)) else bnd (f_X12_fail 1 h1) (fun q4 => some (q4.1, q4.2))))
set_option maxRecDepth 20000 in
theorem cl_X12_fitted_78 (G : GG) (K : KQ) (v1 : Int32) (v2 : Int32) (v3 : Int32) (v4 : Int64) (v6 : Int32) (v7 : Int32)  : ∀ (n : Nat) (v8 : Int64) (v10 : Int32) (h : AH) (r : Int64), f_X12_fitted_l78 v1 v2 v3 v6 v7 h n v8 v10 = some r → J G mX12_fitted 7 0 0 K 176 [(0, .ref (ad G 193)), (1, .int v1), (2, .int v2), (3, .int v3), (4, .long v4), (6, .int v6), (7, .int v7), (8, .long r)] [] h → J G mX12_fitted 7 0 0 K 78 [(0, .ref (ad G 193)), (1, .int v1), (2, .int v2), (3, .int v3), (4, .long v4), (6, .int v6), (7, .int v7), (8, .long v8), (10, .int v10)] [] h := by
  intro n
  induction n with
  | zero => intro v8 v10 h r hL; cases hL
  | succ n ih =>
    intro v8 v10 h r hL kE
    unfold f_X12_fitted_l78 at hL
    refine j_iload 8 dX12_fitted_78 rfl ?_
    refine j_aload_n 0 dX12_fitted_80 rfl ?_
    refine jg_RX12_32 rfl sh_193 dX12_fitted_81 ?_
    refine j_iload_n 1 dX12_fitted_84 rfl ?_
    obtain ⟨g13, hL⟩ := gd_ex hL
    refine j_iald (shf_12_3 sh_193) (ib_in g13) dX12_fitted_85 ?_
    refine j_icmp_ge 176 dX12_fitted_86 (by decide) (fun z14 => ?_) (fun z14 => ?_)
    · replace hL := (if_pos z14).symm.trans hL
      cases hL
      refine j_sub [0, 1, 2, 3, 4, 5, 6, 7] rfl ?_
      exact kE 
    · replace hL := (if_neg z14).symm.trans hL
      refine j_aload_n 0 dX12_fitted_89 rfl ?_
      refine jg_RX12_50 rfl sh_193 dX12_fitted_90 ?_
      refine j_iload_n 1 dX12_fitted_93 rfl ?_
      refine j_iload 8 dX12_fitted_94 rfl ?_
      refine j_callSi (c_X12_at G v1 v10 h) cv_RX12_244 rfl (by decide) rfl rfl (Nat.le_of_ble_eq_true rfl) dX12_fitted_96 (by decide) ?_
      obtain ⟨g15, hL⟩ := gd_ex hL
      refine j_iald (shf_12_9 sh_193) (ib_in g15) dX12_fitted_99 ?_
      refine j_istore (lv' := [(11, .int (hia h 202 (cl (f_X12_at v1 v10)))), (0, .ref (ad G 193)), (1, .int v1), (2, .int v2), (3, .int v3), (4, .long v4), (6, .int v6), (7, .int v7), (8, .long v8), (10, .int v10)]) dX12_fitted_100 (by decide) rfl ?_
      refine j_aload_n 1 dX12_fitted_102 rfl ?_
      refine jg_RX12_55 rfl sh_193 dX12_fitted_103 ?_
      refine j_iload_n 2 dX12_fitted_106 rfl ?_
      refine j_iload 9 dX12_fitted_107 rfl ?_
      refine j_callSi (c_X12_at G v1 v10 h) cv_RX12_244 rfl (by decide) rfl rfl (Nat.le_of_ble_eq_true rfl) dX12_fitted_109 (by decide) ?_
      obtain ⟨g16, hL⟩ := gd_ex hL
      refine j_iald (shf_12_11 sh_193) (ib_in g16) dX12_fitted_112 ?_
      refine j_istore (lv' := [(12, .int (hia h 204 (cl (f_X12_at v1 v10)))), (11, .int (hia h 202 (cl (f_X12_at v1 v10)))), (0, .ref (ad G 193)), (1, .int v1), (2, .int v2), (3, .int v3), (4, .long v4), (6, .int v6), (7, .int v7), (8, .long v8), (10, .int v10)]) dX12_fitted_113 (by decide) rfl ?_
      refine j_lload 9 dX12_fitted_115 rfl ?_
      refine j_iconst 2 dX12_fitted_117 (by decide) ?_
      refine j_iload 7 dX12_fitted_118 rfl ?_
      refine j_imul dX12_fitted_120 ?_
      refine j_aload_n 2 dX12_fitted_121 rfl ?_
      refine j_iload_n 4 dX12_fitted_122 rfl ?_
      refine j_iload 1 dX12_fitted_123 rfl ?_
      refine j_iload 0 dX12_fitted_125 rfl ?_
      obtain ⟨q17, hq17, hL⟩ := bnd_ex hL
      refine j_callVi (c_X12_turningsOf G v2 (hia h 202 (cl (f_X12_at v1 v10))) (hia h 204 (cl (f_X12_at v1 v10))) h _ hq17) cv_RX12_301 rfl sh_193 (by decide) rfl (by decide) rfl rfl (Nat.le_of_ble_eq_true rfl) dX12_fitted_127 (by decide) ?_
      refine j_imul dX12_fitted_130 ?_
      refine j_iload_n 5 dX12_fitted_131 rfl ?_
      refine j_iconst (-1) dX12_fitted_132 (by decide) ?_
      obtain ⟨j19, ej19, hL⟩ := lt_ex hL
      have kj19 : ∀ (x21 : Int32), j19 x21 = some r → J G mX12_fitted 7 0 0 K 154 [(0, .ref (ad G 193)), (1, .int v1), (2, .int v2), (3, .int v3), (4, .long v4), (6, .int v6), (7, .int v7), (10, .int v10)] [.int x21, .int ((2 * v6) * q17), .long v8] h := by
        intro x21 hL
        rw [ej19] at hL
        replace hL : (bnd (f_X12_midst v1 v10 h) (fun q22 => f_X12_fitted_l78 v1 v2 v3 v6 v7 h n (v8 + ((f_J9_abs_0f7a4 ((((2 * v6) * q17) + x21) - q22)).toInt64)) (v10 + 1))) = some r := hL
        refine j_iadd dX12_fitted_154 ?_
        refine j_aload_n 0 dX12_fitted_155 rfl ?_
        refine j_iload_n 1 dX12_fitted_156 rfl ?_
        refine j_iload 7 dX12_fitted_157 rfl ?_
        obtain ⟨q22, hq22, hL⟩ := bnd_ex hL
        refine j_callVi (c_X12_midst G v1 v10 h _ hq22) cv_RX12_363 rfl sh_193 (by decide) rfl (by decide) rfl rfl (Nat.le_of_ble_eq_true rfl) dX12_fitted_159 (by decide) ?_
        refine j_isub dX12_fitted_162 ?_
        refine j_callSi (c_J9_abs_0f7a4 G ((((2 * v6) * q17) + x21) - q22) h) cv_RX12_413 rfl (by decide) rfl rfl (Nat.le_of_ble_eq_true rfl) dX12_fitted_163 (by decide) ?_
        refine j_i2l dX12_fitted_166 ?_
        refine j_ladd dX12_fitted_167 ?_
        refine j_lstore (lv' := [(8, .long (v8 + ((f_J9_abs_0f7a4 ((((2 * v6) * q17) + x21) - q22)).toInt64))), (0, .ref (ad G 193)), (1, .int v1), (2, .int v2), (3, .int v3), (4, .long v4), (6, .int v6), (7, .int v7), (10, .int v10)]) dX12_fitted_168 (by decide) rfl ?_
        refine j_iinc (lv' := [(10, .int (v10 + 1)), (8, .long (v8 + ((f_J9_abs_0f7a4 ((((2 * v6) * q17) + x21) - q22)).toInt64))), (0, .ref (ad G 193)), (1, .int v1), (2, .int v2), (3, .int v3), (4, .long v4), (6, .int v6), (7, .int v7)]) 8 dX12_fitted_170 rfl rfl (by decide) rfl ?_
        refine j_goto 78 dX12_fitted_173 (by decide) ?_
        refine j_sub [2, 3, 4, 5, 6, 7, 8, 1, 0] rfl ?_
        exact ih (v8 + ((f_J9_abs_0f7a4 ((((2 * v6) * q17) + x21) - q22)).toInt64)) (v10 + 1) h r hL kE
      refine j_icmp_ne 140 dX12_fitted_133 (by decide) (fun z18 => ?_) (fun z18 => ?_)
      · replace hL := (if_neg z18).symm.trans hL
        refine j_iconst 2 dX12_fitted_140 (by decide) ?_
        refine j_iload 8 dX12_fitted_141 rfl ?_
        refine j_imul dX12_fitted_143 ?_
        refine j_aload_n 2 dX12_fitted_144 rfl ?_
        refine j_iload_n 5 dX12_fitted_145 rfl ?_
        refine j_iload 1 dX12_fitted_146 rfl ?_
        refine j_iload 0 dX12_fitted_148 rfl ?_
        obtain ⟨q20, hq20, hL⟩ := bnd_ex hL
        refine j_callVi (c_X12_turningsOf G v3 (hia h 202 (cl (f_X12_at v1 v10))) (hia h 204 (cl (f_X12_at v1 v10))) h _ hq20) cv_RX12_301 rfl sh_193 (by decide) rfl (by decide) rfl rfl (Nat.le_of_ble_eq_true rfl) dX12_fitted_150 (by decide) ?_
        refine j_imul dX12_fitted_153 ?_
        refine j_sub [2, 3, 4, 5, 6, 7, 8, 10] rfl ?_
        exact kj19 ((2 * v7) * q20) hL
      · replace hL := (if_pos z18).symm.trans hL
        refine j_iconst 0 dX12_fitted_136 (by decide) ?_
        refine j_goto 154 dX12_fitted_137 (by decide) ?_
        refine j_sub [2, 3, 4, 5, 6, 7, 8, 10] rfl ?_
        exact kj19 0 hL

set_option maxRecDepth 20000 in
theorem cl_X12_fitted_56 (G : GG) (K : KQ) (v1 : Int32) (v2 : Int32) (v3 : Int32) (v6 : Int32)  : ∀ (n : Nat) (v4 : Int64) (v7 : Int32) (h : AH) (r : Int64 × AH), f_X12_fitted_l56 v1 v2 v3 v6 n v4 v7 h = some r → J G mX12_fitted 7 0 0 K 216 [(0, .ref (ad G 193)), (1, .int v1), (2, .int v2), (3, .int v3), (4, .long r.1), (6, .int v6)] [] r.2 → J G mX12_fitted 7 0 0 K 56 [(0, .ref (ad G 193)), (1, .int v1), (2, .int v2), (3, .int v3), (4, .long v4), (6, .int v6), (7, .int v7)] [] h := by
  intro n
  induction n with
  | zero => intro v4 v7 h r hL; cases hL
  | succ n ih =>
    intro v4 v7 h r hL kE
    unfold f_X12_fitted_l56 at hL
    refine j_iload 6 dX12_fitted_56 rfl ?_
    refine j_iload_n 3 dX12_fitted_58 rfl ?_
    refine j_iconst (-1) dX12_fitted_59 (by decide) ?_
    obtain ⟨j10, ej10, hL⟩ := lt_ex hL
    have kj10 : ∀ (x11 : Int32), j10 x11 = some r → J G mX12_fitted 7 0 0 K 69 [(0, .ref (ad G 193)), (1, .int v1), (2, .int v2), (3, .int v3), (4, .long v4), (6, .int v6), (7, .int v7)] [.int x11, .int v7] h := by
      intro x11 hL
      rw [ej10] at hL
      replace hL : (if x11 < v7 then some (v4, h) else bnd (f_X12_fitted_l78 v1 v2 v3 v6 v7 h FU 0 0) (fun q23 => if (lg_cmp v4 0) < 0 then lt (sfi h 193 49 v6) (fun h25 => lt (sfi h25 193 50 v7) (fun h26 => f_X12_fitted_l56 v1 v2 v3 v6 n q23 (v7 + 1) h26)) else if (lg_cmp q23 v4) < 0 then lt (sfi h 193 49 v6) (fun h28 => lt (sfi h28 193 50 v7) (fun h29 => f_X12_fitted_l56 v1 v2 v3 v6 n q23 (v7 + 1) h29)) else f_X12_fitted_l56 v1 v2 v3 v6 n v4 (v7 + 1) h)) = some r := hL
      refine j_icmp_gt 216 dX12_fitted_69 (by decide) (fun z12 => ?_) (fun z12 => ?_)
      · replace hL := (if_pos z12).symm.trans hL
        cases hL
        refine j_sub [0, 1, 2, 3, 4, 5] rfl ?_
        exact kE 
      · replace hL := (if_neg z12).symm.trans hL
        refine j_lconst 0 dX12_fitted_72 (by decide) ?_
        refine j_lstore (lv' := [(8, .long 0), (0, .ref (ad G 193)), (1, .int v1), (2, .int v2), (3, .int v3), (4, .long v4), (6, .int v6), (7, .int v7)]) dX12_fitted_73 (by decide) rfl ?_
        refine j_iconst 0 dX12_fitted_75 (by decide) ?_
        refine j_istore (lv' := [(10, .int 0), (8, .long 0), (0, .ref (ad G 193)), (1, .int v1), (2, .int v2), (3, .int v3), (4, .long v4), (6, .int v6), (7, .int v7)]) dX12_fitted_76 (by decide) rfl ?_
        obtain ⟨q23, hq23, hL⟩ := bnd_ex hL
        refine j_sub [2, 3, 4, 5, 6, 7, 8, 1, 0] rfl ?_
        refine cl_X12_fitted_78 G K v1 v2 v3 v4 v6 v7 FU 0 0 h q23 hq23 ?_
        refine j_lload 4 dX12_fitted_176 rfl ?_
        refine j_lconst 0 dX12_fitted_178 (by decide) ?_
        refine j_lcmp dX12_fitted_179 ?_
        refine j_if_lt 194 dX12_fitted_180 (by decide) (fun z24 => ?_) (fun z24 => ?_)
        · replace hL := (if_pos z24).symm.trans hL
          refine j_lload 7 dX12_fitted_194 rfl ?_
          refine j_lstore (lv' := [(4, .long q23), (0, .ref (ad G 193)), (1, .int v1), (2, .int v2), (3, .int v3), (6, .int v6), (7, .int v7), (8, .long q23)]) dX12_fitted_196 (by decide) rfl ?_
          refine j_aload_n 1 dX12_fitted_198 rfl ?_
          refine j_iload 5 dX12_fitted_199 rfl ?_
          refine jp_RX12_134 rfl sh_193 dX12_fitted_201 ?_
          obtain ⟨h25, eh25, hL⟩ := lt_ex hL
          refine j_heap eh25 ?_
          refine j_aload_n 1 dX12_fitted_204 rfl ?_
          refine j_iload 6 dX12_fitted_205 rfl ?_
          refine jp_RX12_416 rfl sh_193 dX12_fitted_207 ?_
          obtain ⟨h26, eh26, hL⟩ := lt_ex hL
          refine j_heap eh26 ?_
          refine j_iinc (lv' := [(7, .int (v7 + 1)), (4, .long q23), (0, .ref (ad G 193)), (1, .int v1), (2, .int v2), (3, .int v3), (6, .int v6), (8, .long q23)]) 6 dX12_fitted_210 rfl rfl (by decide) rfl ?_
          refine j_goto 56 dX12_fitted_213 (by decide) ?_
          refine j_sub [2, 3, 4, 5, 1, 6, 0] rfl ?_
          exact ih q23 (v7 + 1) h26 r hL kE
        · replace hL := (if_neg z24).symm.trans hL
          refine j_lload 7 dX12_fitted_183 rfl ?_
          refine j_lload 4 dX12_fitted_185 rfl ?_
          refine j_lcmp dX12_fitted_187 ?_
          refine j_if_lt 194 dX12_fitted_188 (by decide) (fun z27 => ?_) (fun z27 => ?_)
          · replace hL := (if_pos z27).symm.trans hL
            refine j_lload 7 dX12_fitted_194 rfl ?_
            refine j_lstore (lv' := [(4, .long q23), (0, .ref (ad G 193)), (1, .int v1), (2, .int v2), (3, .int v3), (6, .int v6), (7, .int v7), (8, .long q23)]) dX12_fitted_196 (by decide) rfl ?_
            refine j_aload_n 1 dX12_fitted_198 rfl ?_
            refine j_iload 5 dX12_fitted_199 rfl ?_
            refine jp_RX12_134 rfl sh_193 dX12_fitted_201 ?_
            obtain ⟨h28, eh28, hL⟩ := lt_ex hL
            refine j_heap eh28 ?_
            refine j_aload_n 1 dX12_fitted_204 rfl ?_
            refine j_iload 6 dX12_fitted_205 rfl ?_
            refine jp_RX12_416 rfl sh_193 dX12_fitted_207 ?_
            obtain ⟨h29, eh29, hL⟩ := lt_ex hL
            refine j_heap eh29 ?_
            refine j_iinc (lv' := [(7, .int (v7 + 1)), (4, .long q23), (0, .ref (ad G 193)), (1, .int v1), (2, .int v2), (3, .int v3), (6, .int v6), (8, .long q23)]) 6 dX12_fitted_210 rfl rfl (by decide) rfl ?_
            refine j_goto 56 dX12_fitted_213 (by decide) ?_
            refine j_sub [2, 3, 4, 5, 1, 6, 0] rfl ?_
            exact ih q23 (v7 + 1) h29 r hL kE
          · replace hL := (if_neg z27).symm.trans hL
            refine j_goto 210 dX12_fitted_191 (by decide) ?_
            refine j_iinc (lv' := [(7, .int (v7 + 1)), (0, .ref (ad G 193)), (1, .int v1), (2, .int v2), (3, .int v3), (4, .long v4), (6, .int v6), (8, .long q23)]) 6 dX12_fitted_210 rfl rfl (by decide) rfl ?_
            refine j_goto 56 dX12_fitted_213 (by decide) ?_
            refine j_sub [1, 2, 3, 4, 5, 6, 0] rfl ?_
            exact ih v4 (v7 + 1) h r hL kE
    refine j_icmp_ne 67 dX12_fitted_60 (by decide) (fun z9 => ?_) (fun z9 => ?_)
    · replace hL := (if_neg z9).symm.trans hL
      refine j_bipush 60 dX12_fitted_67 (by decide) ?_
      refine j_sub [0, 1, 2, 3, 4, 5, 6] rfl ?_
      exact kj10 60 hL
    · replace hL := (if_pos z9).symm.trans hL
      refine j_iconst 0 dX12_fitted_63 (by decide) ?_
      refine j_goto 69 dX12_fitted_64 (by decide) ?_
      refine j_sub [0, 1, 2, 3, 4, 5, 6] rfl ?_
      exact kj10 0 hL

set_option maxRecDepth 20000 in
theorem cl_X12_fitted_46 (G : GG) (K : KQ) (v1 : Int32) (v2 : Int32) (v3 : Int32)  : ∀ (n : Nat) (v4 : Int64) (v6 : Int32) (h : AH) (r : Int64 × AH), f_X12_fitted_l46 v1 v2 v3 n v4 v6 h = some r → J G mX12_fitted 7 0 0 K 222 [(4, .long r.1)] [] r.2 → J G mX12_fitted 7 0 0 K 46 [(0, .ref (ad G 193)), (1, .int v1), (2, .int v2), (3, .int v3), (4, .long v4), (6, .int v6)] [] h := by
  intro n
  induction n with
  | zero => intro v4 v6 h r hL; cases hL
  | succ n ih =>
    intro v4 v6 h r hL kE
    unfold f_X12_fitted_l46 at hL
    refine j_iload 5 dX12_fitted_46 rfl ?_
    refine j_bipush 60 dX12_fitted_48 (by decide) ?_
    refine j_icmp_gt 222 dX12_fitted_50 (by decide) (fun z8 => ?_) (fun z8 => ?_)
    · replace hL := (if_pos z8).symm.trans hL
      cases hL
      refine j_sub [4] rfl ?_
      exact kE 
    · replace hL := (if_neg z8).symm.trans hL
      refine j_iconst 0 dX12_fitted_53 (by decide) ?_
      refine j_istore (lv' := [(7, .int 0), (0, .ref (ad G 193)), (1, .int v1), (2, .int v2), (3, .int v3), (4, .long v4), (6, .int v6)]) dX12_fitted_54 (by decide) rfl ?_
      obtain ⟨q30, hq30, hL⟩ := bnd_ex hL
      refine j_sub [1, 2, 3, 4, 5, 6, 0] rfl ?_
      refine cl_X12_fitted_56 G K v1 v2 v3 v6 FU v4 0 h q30 hq30 ?_
      refine j_iinc (lv' := [(6, .int (v6 + 1)), (0, .ref (ad G 193)), (1, .int v1), (2, .int v2), (3, .int v3), (4, .long q30.1)]) 5 dX12_fitted_216 rfl rfl (by decide) rfl ?_
      refine j_goto 46 dX12_fitted_219 (by decide) ?_
      refine j_sub [1, 2, 3, 4, 5, 0] rfl ?_
      exact ih q30.1 (v6 + 1) q30.2 r hL kE

set_option maxRecDepth 20000 in
theorem c_X12_fitted (G : GG) (v1 : Int32) (v2 : Int32) (v3 : Int32) (h : AH) (r : Int32 × AH) (hL : f_X12_fitted v1 v2 v3 h = some r) : SpI G 7 mX12_fitted [.ref (ad G 193), .int v1, .int v2, .int v3] h r.1 r.2 := by
  refine sp_i pf_X12_fitted (Nat.le_of_ble_eq_true rfl) ?_
  show J G mX12_fitted 7 0 0 (KMi G r.1 r.2) 0 [(0, .ref (ad G 193)), (1, .int v1), (2, .int v2), (3, .int v3)] [] h
  obtain ⟨K, hK⟩ : ∃ K, K = KMi G r.1 r.2 := ⟨_, rfl⟩
  rw [← hK]
  unfold f_X12_fitted at hL
  refine j_aload_n 0 dX12_fitted_0 rfl ?_
  refine j_iconst 0 dX12_fitted_1 (by decide) ?_
  refine jp_RX12_158 rfl sh_193 dX12_fitted_2 ?_
  obtain ⟨h1, eh1, hL⟩ := lt_ex hL
  refine j_heap eh1 ?_
  refine j_aload_n 0 dX12_fitted_5 rfl ?_
  refine j_iload_n 1 dX12_fitted_6 rfl ?_
  obtain ⟨q2, hq2, hL⟩ := bnd_ex hL
  refine j_callVi (c_X12_isAsked G v1 h1 _ hq2) cv_RX12_371 rfl sh_193 (by decide) rfl (by decide) rfl rfl (Nat.le_of_ble_eq_true rfl) dX12_fitted_7 (by decide) ?_
  refine j_ifz_eq 32 dX12_fitted_10 (by decide) (fun z3 => ?_) (fun z3 => ?_)
  · replace hL := (if_neg z3).symm.trans hL
    refine j_aload_n 0 dX12_fitted_32 rfl ?_
    refine j_iconst 1 dX12_fitted_33 (by decide) ?_
    obtain ⟨q4, hq4, hL⟩ := bnd_ex hL
    refine j_callVi (c_X12_fail G 1 h1 _ hq4) cv_RX12_263 rfl sh_193 (by decide) rfl (by decide) rfl rfl (Nat.le_of_ble_eq_true rfl) dX12_fitted_34 (by decide) ?_
    cases hL
    exact j_reti dX12_fitted_37 rfl hK
  · replace hL := (if_pos z3).symm.trans hL
    refine j_iload_n 2 dX12_fitted_13 rfl ?_
    refine j_callSi (c_X12_isWay G v2 h1) cv_RX12_279 rfl (by decide) rfl rfl (Nat.le_of_ble_eq_true rfl) dX12_fitted_14 (by decide) ?_
    refine j_ifz_eq 32 dX12_fitted_17 (by decide) (fun z5 => ?_) (fun z5 => ?_)
    · replace hL := (if_neg z5).symm.trans hL
      refine j_aload_n 0 dX12_fitted_32 rfl ?_
      refine j_iconst 1 dX12_fitted_33 (by decide) ?_
      obtain ⟨q6, hq6, hL⟩ := bnd_ex hL
      refine j_callVi (c_X12_fail G 1 h1 _ hq6) cv_RX12_263 rfl sh_193 (by decide) rfl (by decide) rfl rfl (Nat.le_of_ble_eq_true rfl) dX12_fitted_34 (by decide) ?_
      cases hL
      exact j_reti dX12_fitted_37 rfl hK
    · replace hL := (if_pos z5).symm.trans hL
      refine j_iload_n 3 dX12_fitted_20 rfl ?_
      refine j_iconst (-1) dX12_fitted_21 (by decide) ?_
      refine j_icmp_eq 38 dX12_fitted_22 (by decide) (fun z7 => ?_) (fun z7 => ?_)
      · replace hL := (if_pos z7).symm.trans hL
        refine j_ldc2 rfl kk_RX12_408 dX12_fitted_38 ?_
        refine j_lstore (lv' := [(4, .long (-1)), (0, .ref (ad G 193)), (1, .int v1), (2, .int v2), (3, .int v3)]) dX12_fitted_41 (by decide) rfl ?_
        refine j_iconst 0 dX12_fitted_43 (by decide) ?_
        refine j_istore (lv' := [(6, .int 0), (4, .long (-1)), (0, .ref (ad G 193)), (1, .int v1), (2, .int v2), (3, .int v3)]) dX12_fitted_44 (by decide) rfl ?_
        obtain ⟨q31, hq31, hL⟩ := bnd_ex hL
        refine j_sub [2, 3, 4, 5, 1, 0] rfl ?_
        refine cl_X12_fitted_46 G K v1 v2 v3 FU (-1) 0 h1 q31 hq31 ?_
        refine j_lload 0 dX12_fitted_222 rfl ?_
        refine j_l2i dX12_fitted_224 ?_
        cases hL
        exact j_reti dX12_fitted_225 rfl hK
      · replace hL := (if_neg z7).symm.trans hL
        refine j_iload_n 3 dX12_fitted_25 rfl ?_
        refine j_callSi (c_X12_isWay G v3 h1) cv_RX12_279 rfl (by decide) rfl rfl (Nat.le_of_ble_eq_true rfl) dX12_fitted_26 (by decide) ?_
        refine j_ifz_ne 38 dX12_fitted_29 (by decide) (fun z32 => ?_) (fun z32 => ?_)
        · replace hL := (if_pos z32).symm.trans hL
          refine j_ldc2 rfl kk_RX12_408 dX12_fitted_38 ?_
          refine j_lstore (lv' := [(4, .long (-1)), (0, .ref (ad G 193)), (1, .int v1), (2, .int v2), (3, .int v3)]) dX12_fitted_41 (by decide) rfl ?_
          refine j_iconst 0 dX12_fitted_43 (by decide) ?_
          refine j_istore (lv' := [(6, .int 0), (4, .long (-1)), (0, .ref (ad G 193)), (1, .int v1), (2, .int v2), (3, .int v3)]) dX12_fitted_44 (by decide) rfl ?_
          obtain ⟨q33, hq33, hL⟩ := bnd_ex hL
          refine j_sub [2, 3, 4, 5, 1, 0] rfl ?_
          refine cl_X12_fitted_46 G K v1 v2 v3 FU (-1) 0 h1 q33 hq33 ?_
          refine j_lload 0 dX12_fitted_222 rfl ?_
          refine j_l2i dX12_fitted_224 ?_
          cases hL
          exact j_reti dX12_fitted_225 rfl hK
        · replace hL := (if_neg z32).symm.trans hL
          refine j_aload_n 0 dX12_fitted_32 rfl ?_
          refine j_iconst 1 dX12_fitted_33 (by decide) ?_
          obtain ⟨q34, hq34, hL⟩ := bnd_ex hL
          refine j_callVi (c_X12_fail G 1 h1 _ hq34) cv_RX12_263 rfl sh_193 (by decide) rfl (by decide) rfl rfl (Nat.le_of_ble_eq_true rfl) dX12_fitted_34 (by decide) ?_
          cases hL
          exact j_reti dX12_fitted_37 rfl hK

def f_X12_years (v1 : Int32) (h : AH) : Option (Int32 × AH) := lt (sfi h 193 2 0) (fun h1 => if (hfi h1 193 49) = (-1) then bnd (f_X12_fail 1 h1) (fun q3 => some (q3.1, q3.2)) else if v1 < 0 then bnd (f_X12_fail 1 h1) (fun q5 => some (q5.1, q5.2)) else if v1 ≤ 1 then if v1 = 0 then some (hfi h1 193 49, h1) else some (hfi h1 193 50, h1) else bnd (f_X12_fail 1 h1) (fun q8 => some (q8.1, q8.2)))
set_option maxRecDepth 20000 in
theorem c_X12_years (G : GG) (v1 : Int32) (h : AH) (r : Int32 × AH) (hL : f_X12_years v1 h = some r) : SpI G 2 mX12_years [.ref (ad G 193), .int v1] h r.1 r.2 := by
  refine sp_i pf_X12_years (Nat.le_of_ble_eq_true rfl) ?_
  show J G mX12_years 2 0 0 (KMi G r.1 r.2) 0 [(0, .ref (ad G 193)), (1, .int v1)] [] h
  obtain ⟨K, hK⟩ : ∃ K, K = KMi G r.1 r.2 := ⟨_, rfl⟩
  rw [← hK]
  unfold f_X12_years at hL
  refine j_aload_n 0 dX12_years_0 rfl ?_
  refine j_iconst 0 dX12_years_1 (by decide) ?_
  refine jp_RX12_158 rfl sh_193 dX12_years_2 ?_
  obtain ⟨h1, eh1, hL⟩ := lt_ex hL
  refine j_heap eh1 ?_
  refine j_aload_n 0 dX12_years_5 rfl ?_
  refine jg_RX12_134 rfl sh_193 dX12_years_6 ?_
  refine j_iconst (-1) dX12_years_9 (by decide) ?_
  refine j_icmp_eq 22 dX12_years_10 (by decide) (fun z2 => ?_) (fun z2 => ?_)
  · replace hL := (if_pos z2).symm.trans hL
    refine j_aload_n 0 dX12_years_22 rfl ?_
    refine j_iconst 1 dX12_years_23 (by decide) ?_
    obtain ⟨q3, hq3, hL⟩ := bnd_ex hL
    refine j_callVi (c_X12_fail G 1 h1 _ hq3) cv_RX12_263 rfl sh_193 (by decide) rfl (by decide) rfl rfl (Nat.le_of_ble_eq_true rfl) dX12_years_24 (by decide) ?_
    cases hL
    exact j_reti dX12_years_27 rfl hK
  · replace hL := (if_neg z2).symm.trans hL
    refine j_iload_n 1 dX12_years_13 rfl ?_
    refine j_if_lt 22 dX12_years_14 (by decide) (fun z4 => ?_) (fun z4 => ?_)
    · replace hL := (if_pos z4).symm.trans hL
      refine j_aload_n 0 dX12_years_22 rfl ?_
      refine j_iconst 1 dX12_years_23 (by decide) ?_
      obtain ⟨q5, hq5, hL⟩ := bnd_ex hL
      refine j_callVi (c_X12_fail G 1 h1 _ hq5) cv_RX12_263 rfl sh_193 (by decide) rfl (by decide) rfl rfl (Nat.le_of_ble_eq_true rfl) dX12_years_24 (by decide) ?_
      cases hL
      exact j_reti dX12_years_27 rfl hK
    · replace hL := (if_neg z4).symm.trans hL
      refine j_iload_n 1 dX12_years_17 rfl ?_
      refine j_iconst 1 dX12_years_18 (by decide) ?_
      refine j_icmp_le 28 dX12_years_19 (by decide) (fun z6 => ?_) (fun z6 => ?_)
      · replace hL := (if_pos z6).symm.trans hL
        refine j_iload_n 1 dX12_years_28 rfl ?_
        refine j_if_ne 39 dX12_years_29 (by decide) (fun z7 => ?_) (fun z7 => ?_)
        · replace hL := (if_neg z7).symm.trans hL
          refine j_aload_n 0 dX12_years_39 rfl ?_
          refine jg_RX12_416 rfl sh_193 dX12_years_40 ?_
          cases hL
          exact j_reti dX12_years_43 rfl hK
        · replace hL := (if_pos z7).symm.trans hL
          refine j_aload_n 0 dX12_years_32 rfl ?_
          refine jg_RX12_134 rfl sh_193 dX12_years_33 ?_
          refine j_goto 43 dX12_years_36 (by decide) ?_
          cases hL
          exact j_reti dX12_years_43 rfl hK
      · replace hL := (if_neg z6).symm.trans hL
        refine j_aload_n 0 dX12_years_22 rfl ?_
        refine j_iconst 1 dX12_years_23 (by decide) ?_
        obtain ⟨q8, hq8, hL⟩ := bnd_ex hL
        refine j_callVi (c_X12_fail G 1 h1 _ hq8) cv_RX12_263 rfl sh_193 (by decide) rfl (by decide) rfl rfl (Nat.le_of_ble_eq_true rfl) dX12_years_24 (by decide) ?_
        cases hL
        exact j_reti dX12_years_27 rfl hK

def f_X12_makes_l6 (v1 : Int32) (v2 : Int32) (v3 : Int32) (h : AH) : Nat → Int32 → Int32 → Option (Int32)
  | 0, _, _ => none
  | n + 1, v4, v5 => gd (ib v2 8 = true) (if (hia h 196 (cl v2)) ≤ v5 then some v4 else gd (ib (f_X12_at v2 v5) 320 = true) (if (hia h 202 (cl (f_X12_at v2 v5))) = v3 then gd (ib (f_X12_at v2 v5) 320 = true) (bnd (f_X12_turningsOf v1 v3 (hia h 204 (cl (f_X12_at v2 v5))) h) (fun q6 => f_X12_makes_l6 v1 v2 v3 h n (v4 + q6) (v5 + 1))) else f_X12_makes_l6 v1 v2 v3 h n (v4 + 0) (v5 + 1)))
def f_X12_makes (v1 : Int32) (v2 : Int32) (v3 : Int32) (h : AH) : Option (Int32) := bnd (f_X12_makes_l6 v1 v2 v3 h FU 0 0) (fun q7 => bnd (f_X12_leavesOf v2 v3 h) (fun q8 => gd (¬ q8 = 0) (some (q7 / q8))))
set_option maxRecDepth 20000 in
theorem cl_X12_makes_6 (G : GG) (K : KQ) (v1 : Int32) (v2 : Int32) (v3 : Int32)  : ∀ (n : Nat) (v4 : Int32) (v5 : Int32) (h : AH) (r : Int32), f_X12_makes_l6 v1 v2 v3 h n v4 v5 = some r → J G mX12_makes 3 0 0 K 64 [(0, .ref (ad G 193)), (2, .int v2), (3, .int v3), (4, .int r)] [] h → J G mX12_makes 3 0 0 K 6 [(0, .ref (ad G 193)), (1, .int v1), (2, .int v2), (3, .int v3), (4, .int v4), (5, .int v5)] [] h := by
  intro n
  induction n with
  | zero => intro v4 v5 h r hL; cases hL
  | succ n ih =>
    intro v4 v5 h r hL kE
    unfold f_X12_makes_l6 at hL
    refine j_iload 5 dX12_makes_6 rfl ?_
    refine j_aload_n 0 dX12_makes_8 rfl ?_
    refine jg_RX12_32 rfl sh_193 dX12_makes_9 ?_
    refine j_iload_n 2 dX12_makes_12 rfl ?_
    obtain ⟨g1, hL⟩ := gd_ex hL
    refine j_iald (shf_12_3 sh_193) (ib_in g1) dX12_makes_13 ?_
    refine j_icmp_ge 64 dX12_makes_14 (by decide) (fun z2 => ?_) (fun z2 => ?_)
    · replace hL := (if_pos z2).symm.trans hL
      cases hL
      refine j_sub [0, 2, 3, 4] rfl ?_
      exact kE 
    · replace hL := (if_neg z2).symm.trans hL
      refine j_iload 4 dX12_makes_17 rfl ?_
      refine j_aload_n 0 dX12_makes_19 rfl ?_
      refine jg_RX12_50 rfl sh_193 dX12_makes_20 ?_
      refine j_iload_n 2 dX12_makes_23 rfl ?_
      refine j_iload 5 dX12_makes_24 rfl ?_
      refine j_callSi (c_X12_at G v2 v5 h) cv_RX12_244 rfl (by decide) rfl rfl (Nat.le_of_ble_eq_true rfl) dX12_makes_26 (by decide) ?_
      obtain ⟨g3, hL⟩ := gd_ex hL
      refine j_iald (shf_12_9 sh_193) (ib_in g3) dX12_makes_29 ?_
      refine j_iload_n 3 dX12_makes_30 rfl ?_
      refine j_icmp_ne 54 dX12_makes_31 (by decide) (fun z4 => ?_) (fun z4 => ?_)
      · replace hL := (if_neg z4).symm.trans hL
        refine j_iconst 0 dX12_makes_54 (by decide) ?_
        refine j_iadd dX12_makes_55 ?_
        refine j_istore (lv' := [(4, .int (v4 + 0)), (0, .ref (ad G 193)), (1, .int v1), (2, .int v2), (3, .int v3), (5, .int v5)]) dX12_makes_56 (by decide) rfl ?_
        refine j_iinc (lv' := [(5, .int (v5 + 1)), (4, .int (v4 + 0)), (0, .ref (ad G 193)), (1, .int v1), (2, .int v2), (3, .int v3)]) 5 dX12_makes_58 rfl rfl (by decide) rfl ?_
        refine j_goto 6 dX12_makes_61 (by decide) ?_
        refine j_sub [2, 3, 4, 5, 1, 0] rfl ?_
        exact ih (v4 + 0) (v5 + 1) h r hL kE
      · replace hL := (if_pos z4).symm.trans hL
        refine j_aload_n 0 dX12_makes_34 rfl ?_
        refine j_iload_n 1 dX12_makes_35 rfl ?_
        refine j_iload_n 3 dX12_makes_36 rfl ?_
        refine j_aload_n 0 dX12_makes_37 rfl ?_
        refine jg_RX12_55 rfl sh_193 dX12_makes_38 ?_
        refine j_iload_n 2 dX12_makes_41 rfl ?_
        refine j_iload 5 dX12_makes_42 rfl ?_
        refine j_callSi (c_X12_at G v2 v5 h) cv_RX12_244 rfl (by decide) rfl rfl (Nat.le_of_ble_eq_true rfl) dX12_makes_44 (by decide) ?_
        obtain ⟨g5, hL⟩ := gd_ex hL
        refine j_iald (shf_12_11 sh_193) (ib_in g5) dX12_makes_47 ?_
        obtain ⟨q6, hq6, hL⟩ := bnd_ex hL
        refine j_callVi (c_X12_turningsOf G v1 v3 (hia h 204 (cl (f_X12_at v2 v5))) h _ hq6) cv_RX12_301 rfl sh_193 (by decide) rfl (by decide) rfl rfl (Nat.le_of_ble_eq_true rfl) dX12_makes_48 (by decide) ?_
        refine j_goto 55 dX12_makes_51 (by decide) ?_
        refine j_iadd dX12_makes_55 ?_
        refine j_istore (lv' := [(4, .int (v4 + q6)), (0, .ref (ad G 193)), (1, .int v1), (2, .int v2), (3, .int v3), (5, .int v5)]) dX12_makes_56 (by decide) rfl ?_
        refine j_iinc (lv' := [(5, .int (v5 + 1)), (4, .int (v4 + q6)), (0, .ref (ad G 193)), (1, .int v1), (2, .int v2), (3, .int v3)]) 5 dX12_makes_58 rfl rfl (by decide) rfl ?_
        refine j_goto 6 dX12_makes_61 (by decide) ?_
        refine j_sub [2, 3, 4, 5, 1, 0] rfl ?_
        exact ih (v4 + q6) (v5 + 1) h r hL kE

set_option maxRecDepth 20000 in
theorem c_X12_makes (G : GG) (v1 : Int32) (v2 : Int32) (v3 : Int32) (h : AH) (r : Int32) (hL : f_X12_makes v1 v2 v3 h = some r) : SpI G 3 mX12_makes [.ref (ad G 193), .int v1, .int v2, .int v3] h r h := by
  refine sp_i pf_X12_makes (Nat.le_of_ble_eq_true rfl) ?_
  show J G mX12_makes 3 0 0 (KMi G r h) 0 [(0, .ref (ad G 193)), (1, .int v1), (2, .int v2), (3, .int v3)] [] h
  obtain ⟨K, hK⟩ : ∃ K, K = KMi G r h := ⟨_, rfl⟩
  rw [← hK]
  unfold f_X12_makes at hL
  refine j_iconst 0 dX12_makes_0 (by decide) ?_
  refine j_istore (lv' := [(4, .int 0), (0, .ref (ad G 193)), (1, .int v1), (2, .int v2), (3, .int v3)]) dX12_makes_1 (by decide) rfl ?_
  refine j_iconst 0 dX12_makes_3 (by decide) ?_
  refine j_istore (lv' := [(5, .int 0), (4, .int 0), (0, .ref (ad G 193)), (1, .int v1), (2, .int v2), (3, .int v3)]) dX12_makes_4 (by decide) rfl ?_
  obtain ⟨q7, hq7, hL⟩ := bnd_ex hL
  refine j_sub [2, 3, 4, 5, 1, 0] rfl ?_
  refine cl_X12_makes_6 G K v1 v2 v3 FU 0 0 h q7 hq7 ?_
  refine j_iload 3 dX12_makes_64 rfl ?_
  refine j_aload_n 0 dX12_makes_66 rfl ?_
  refine j_iload_n 1 dX12_makes_67 rfl ?_
  refine j_iload_n 2 dX12_makes_68 rfl ?_
  obtain ⟨q8, hq8, hL⟩ := bnd_ex hL
  refine j_callVi (c_X12_leavesOf G v2 v3 h _ hq8) cv_RX12_368 rfl sh_193 (by decide) rfl (by decide) rfl rfl (Nat.le_of_ble_eq_true rfl) dX12_makes_69 (by decide) ?_
  obtain ⟨g9, hL⟩ := gd_ex hL
  refine j_idiv dX12_makes_72 g9 ?_
  cases hL
  exact j_reti dX12_makes_73 rfl hK

def f_X12_tells_l2 (v1 : Int32) (h : AH) : Nat → Int32 → Option ((Unit) ⊕ (Bool))
  | 0, _ => none
  | n + 1, v2 => if 12 ≤ v2 then some (.inl ()) else gd (ib ((12 * v1) + v2) 84 = true) (if (hia h 216 (cl ((12 * v1) + v2))) = (-1) then f_X12_tells_l2 v1 h n (v2 + 1) else some (.inr true))
def f_X12_tells (v1 : Int32) (h : AH) : Option (Bool) := bnd (f_X12_tells_l2 v1 h FU 0) (fun q4 => Sum.elim (fun xq4 => some false) (fun xq4 => some xq4) q4)
set_option maxRecDepth 20000 in
theorem cl_X12_tells_2 (G : GG) (K : KQ) (v1 : Int32)  : ∀ (n : Nat) (v2 : Int32) (h : AH) (r : (Unit) ⊕ (Bool)), f_X12_tells_l2 v1 h n v2 = some r → (∀ x, r = .inl x → J G mX12_tells 1 0 0 K 31 [] [] h) → (∀ x, r = .inr x → K = KMi G (bI x) h) → J G mX12_tells 1 0 0 K 2 [(0, .ref (ad G 193)), (1, .int v1), (2, .int v2)] [] h := by
  intro n
  induction n with
  | zero => intro v2 h r hL; cases hL
  | succ n ih =>
    intro v2 h r hL kE kR
    unfold f_X12_tells_l2 at hL
    refine j_iload_n 2 dX12_tells_2 rfl ?_
    refine j_bipush 12 dX12_tells_3 (by decide) ?_
    refine j_icmp_ge 31 dX12_tells_5 (by decide) (fun z1 => ?_) (fun z1 => ?_)
    · replace hL := (if_pos z1).symm.trans hL
      cases hL
      refine j_sub [] rfl ?_
      exact kE _ rfl
    · replace hL := (if_neg z1).symm.trans hL
      refine j_aload_n 0 dX12_tells_8 rfl ?_
      refine jg_RX12_90 rfl sh_193 dX12_tells_9 ?_
      refine j_bipush 12 dX12_tells_12 (by decide) ?_
      refine j_iload_n 1 dX12_tells_14 rfl ?_
      refine j_imul dX12_tells_15 ?_
      refine j_iload_n 2 dX12_tells_16 rfl ?_
      refine j_iadd dX12_tells_17 ?_
      obtain ⟨g2, hL⟩ := gd_ex hL
      refine j_iald (shf_12_23 sh_193) (ib_in g2) dX12_tells_18 ?_
      refine j_iconst (-1) dX12_tells_19 (by decide) ?_
      refine j_icmp_eq 25 dX12_tells_20 (by decide) (fun z3 => ?_) (fun z3 => ?_)
      · replace hL := (if_pos z3).symm.trans hL
        refine j_iinc (lv' := [(2, .int (v2 + 1)), (0, .ref (ad G 193)), (1, .int v1)]) 2 dX12_tells_25 rfl rfl (by decide) rfl ?_
        refine j_goto 2 dX12_tells_28 (by decide) ?_
        refine j_sub [1, 2, 0] rfl ?_
        exact ih (v2 + 1) h r hL kE kR
      · replace hL := (if_neg z3).symm.trans hL
        refine j_iconst 1 dX12_tells_23 (by decide) ?_
        cases hL
        exact j_ret1 dX12_tells_24 rfl (kR _ rfl)

set_option maxRecDepth 20000 in
theorem c_X12_tells (G : GG) (v1 : Int32) (h : AH) (r : Bool) (hL : f_X12_tells v1 h = some r) : SpI G 1 mX12_tells [.ref (ad G 193), .int v1] h (bI r) h := by
  refine sp_i pf_X12_tells (Nat.le_of_ble_eq_true rfl) ?_
  show J G mX12_tells 1 0 0 (KMi G (bI r) h) 0 [(0, .ref (ad G 193)), (1, .int v1)] [] h
  obtain ⟨K, hK⟩ : ∃ K, K = KMi G (bI r) h := ⟨_, rfl⟩
  rw [← hK]
  unfold f_X12_tells at hL
  refine j_iconst 0 dX12_tells_0 (by decide) ?_
  refine j_istore_n (lv' := [(2, .int 0), (0, .ref (ad G 193)), (1, .int v1)]) dX12_tells_1 (by decide) rfl ?_
  obtain ⟨q4, hq4, hL⟩ := bnd_ex hL
  refine j_sub [1, 2, 0] rfl ?_
  refine cl_X12_tells_2 G K v1 FU 0 h q4 hq4 (fun xq4 eq4 => ?_) (fun xq4 eq4 => ?_)
  · subst eq4
    refine j_iconst 0 dX12_tells_31 (by decide) ?_
    cases hL
    exact j_ret0 dX12_tells_32 rfl hK
  · subst eq4
    cases hL
    exact hK

def f_X12_whoseOf_l5 (v1 : Int32) (h : AH) : Nat → Int64 → Int32 → Option (Int64)
  | 0, _, _ => none
  | n + 1, v2, v4 => if 12 ≤ v4 then some v2 else bnd (f_X12_has v1 v4 h) (fun q2 => if q2 = true then bnd (f_X12_lightOf v1 v4 h) (fun q4 => f_X12_whoseOf_l5 v1 h n (v2 + q4.toInt64) (v4 + 1)) else f_X12_whoseOf_l5 v1 h n (v2 + 0) (v4 + 1))
def f_X12_whoseOf_l77 (v1 : Int32) (v7 : Int32) (h : AH) : Nat → Int64 → Int32 → Option (Int64)
  | 0, _, _ => none
  | n + 1, v8, v10 => if 12 ≤ v10 then some v8 else bnd (f_X12_has v1 v10 h) (fun q10 => if q10 = true then bnd (f_X12_makes v7 v1 v10 h) (fun q12 => f_X12_whoseOf_l77 v1 v7 h n (v8 + q12.toInt64) (v10 + 1)) else f_X12_whoseOf_l77 v1 v7 h n (v8 + 0) (v10 + 1))
def f_X12_whoseOf_l125 (v1 : Int32) (v2 : Int64) (v7 : Int32) (v8 : Int64) (h : AH) : Nat → Int64 → Int32 → Option (Int64)
  | 0, _, _ => none
  | n + 1, v10, v12 => if 12 ≤ v12 then some v10 else bnd (f_X12_has v1 v12 h) (fun q15 => if q15 = true then bnd (f_X12_lightOf v1 v12 h) (fun q17 => bnd (f_X12_makes v7 v1 v12 h) (fun q18 => f_X12_whoseOf_l125 v1 v2 v7 v8 h n (v10 + (f_J9_abs_067f4 ((q17.toInt64 * v8) - (q18.toInt64 * v2)))) (v12 + 1))) else f_X12_whoseOf_l125 v1 v2 v7 v8 h n (v10 + 0) (v12 + 1))
def f_X12_whoseOf_l52 (v1 : Int32) (v2 : Int64) (h : AH) : Nat → Int32 → Int64 → Int32 → Option (Int32)
  | 0, _, _, _ => none
  | n + 1, v4, v5, v7 => if 6 ≤ v7 then some v4 else bnd (f_X12_tells v7 h) (fun q7 => if q7 = true then bnd (f_X12_whoseOf_l77 v1 v7 h FU 0 0) (fun q13 => bnd (f_X12_whoseOf_l125 v1 v2 v7 q13 h FU 0 0) (fun q19 => if v4 = (-1) then f_X12_whoseOf_l52 v1 v2 h n v7 q19 (v7 + 1) else if (lg_cmp q19 v5) < 0 then f_X12_whoseOf_l52 v1 v2 h n v7 q19 (v7 + 1) else f_X12_whoseOf_l52 v1 v2 h n v4 v5 (v7 + 1))) else f_X12_whoseOf_l52 v1 v2 h n v4 v5 (v7 + 1))
def f_X12_whoseOf (v1 : Int32) (h : AH) : Option (Int32) := bnd (f_X12_whoseOf_l5 v1 h FU 0 0) (fun q5 => bnd (f_X12_whoseOf_l52 v1 q5 h FU (-1) 0 0) (fun q22 => some q22))
set_option maxRecDepth 20000 in
theorem cl_X12_whoseOf_5 (G : GG) (K : KQ) (v1 : Int32)  : ∀ (n : Nat) (v2 : Int64) (v4 : Int32) (h : AH) (r : Int64), f_X12_whoseOf_l5 v1 h n v2 v4 = some r → J G mX12_whoseOf 8 0 0 K 43 [(0, .ref (ad G 193)), (1, .int v1), (2, .long r)] [] h → J G mX12_whoseOf 8 0 0 K 5 [(0, .ref (ad G 193)), (1, .int v1), (2, .long v2), (4, .int v4)] [] h := by
  intro n
  induction n with
  | zero => intro v2 v4 h r hL; cases hL
  | succ n ih =>
    intro v2 v4 h r hL kE
    unfold f_X12_whoseOf_l5 at hL
    refine j_iload 3 dX12_whoseOf_5 rfl ?_
    refine j_bipush 12 dX12_whoseOf_7 (by decide) ?_
    refine j_icmp_ge 43 dX12_whoseOf_9 (by decide) (fun z1 => ?_) (fun z1 => ?_)
    · replace hL := (if_pos z1).symm.trans hL
      cases hL
      refine j_sub [0, 1, 2] rfl ?_
      exact kE 
    · replace hL := (if_neg z1).symm.trans hL
      refine j_lload_n 2 dX12_whoseOf_12 rfl ?_
      refine j_aload_n 0 dX12_whoseOf_13 rfl ?_
      refine j_iload_n 1 dX12_whoseOf_14 rfl ?_
      refine j_iload 3 dX12_whoseOf_15 rfl ?_
      obtain ⟨q2, hq2, hL⟩ := bnd_ex hL
      refine j_callVi (c_X12_has G v1 v4 h _ hq2) cv_RX12_374 rfl sh_193 (by decide) rfl (by decide) rfl rfl (Nat.le_of_ble_eq_true rfl) dX12_whoseOf_17 (by decide) ?_
      refine j_ifz_eq 34 dX12_whoseOf_20 (by decide) (fun z3 => ?_) (fun z3 => ?_)
      · replace hL := (if_neg z3).symm.trans hL
        refine j_lconst 0 dX12_whoseOf_34 (by decide) ?_
        refine j_ladd dX12_whoseOf_35 ?_
        refine j_lstore_n (lv' := [(2, .long (v2 + 0)), (0, .ref (ad G 193)), (1, .int v1), (4, .int v4)]) dX12_whoseOf_36 (by decide) rfl ?_
        refine j_iinc (lv' := [(4, .int (v4 + 1)), (2, .long (v2 + 0)), (0, .ref (ad G 193)), (1, .int v1)]) 3 dX12_whoseOf_37 rfl rfl (by decide) rfl ?_
        refine j_goto 5 dX12_whoseOf_40 (by decide) ?_
        refine j_sub [2, 3, 1, 0] rfl ?_
        exact ih (v2 + 0) (v4 + 1) h r hL kE
      · replace hL := (if_pos z3).symm.trans hL
        refine j_aload_n 0 dX12_whoseOf_23 rfl ?_
        refine j_iload_n 1 dX12_whoseOf_24 rfl ?_
        refine j_iload 3 dX12_whoseOf_25 rfl ?_
        obtain ⟨q4, hq4, hL⟩ := bnd_ex hL
        refine j_callVi (c_X12_lightOf G v1 v4 h _ hq4) cv_RX12_377 rfl sh_193 (by decide) rfl (by decide) rfl rfl (Nat.le_of_ble_eq_true rfl) dX12_whoseOf_27 (by decide) ?_
        refine j_i2l dX12_whoseOf_30 ?_
        refine j_goto 35 dX12_whoseOf_31 (by decide) ?_
        refine j_ladd dX12_whoseOf_35 ?_
        refine j_lstore_n (lv' := [(2, .long (v2 + q4.toInt64)), (0, .ref (ad G 193)), (1, .int v1), (4, .int v4)]) dX12_whoseOf_36 (by decide) rfl ?_
        refine j_iinc (lv' := [(4, .int (v4 + 1)), (2, .long (v2 + q4.toInt64)), (0, .ref (ad G 193)), (1, .int v1)]) 3 dX12_whoseOf_37 rfl rfl (by decide) rfl ?_
        refine j_goto 5 dX12_whoseOf_40 (by decide) ?_
        refine j_sub [2, 3, 1, 0] rfl ?_
        exact ih (v2 + q4.toInt64) (v4 + 1) h r hL kE

set_option maxRecDepth 20000 in
theorem cl_X12_whoseOf_77 (G : GG) (K : KQ) (v1 : Int32) (v2 : Int64) (v4 : Int32) (v5 : Int64) (v7 : Int32)  : ∀ (n : Nat) (v8 : Int64) (v10 : Int32) (h : AH) (r : Int64), f_X12_whoseOf_l77 v1 v7 h n v8 v10 = some r → J G mX12_whoseOf 8 0 0 K 119 [(0, .ref (ad G 193)), (1, .int v1), (2, .long v2), (4, .int v4), (5, .long v5), (7, .int v7), (8, .long r)] [] h → J G mX12_whoseOf 8 0 0 K 77 [(0, .ref (ad G 193)), (1, .int v1), (2, .long v2), (4, .int v4), (5, .long v5), (7, .int v7), (8, .long v8), (10, .int v10)] [] h := by
  intro n
  induction n with
  | zero => intro v8 v10 h r hL; cases hL
  | succ n ih =>
    intro v8 v10 h r hL kE
    unfold f_X12_whoseOf_l77 at hL
    refine j_iload 7 dX12_whoseOf_77 rfl ?_
    refine j_bipush 12 dX12_whoseOf_79 (by decide) ?_
    refine j_icmp_ge 119 dX12_whoseOf_81 (by decide) (fun z9 => ?_) (fun z9 => ?_)
    · replace hL := (if_pos z9).symm.trans hL
      cases hL
      refine j_sub [0, 1, 2, 3, 4, 5, 6] rfl ?_
      exact kE 
    · replace hL := (if_neg z9).symm.trans hL
      refine j_lload 6 dX12_whoseOf_84 rfl ?_
      refine j_aload_n 0 dX12_whoseOf_86 rfl ?_
      refine j_iload_n 1 dX12_whoseOf_87 rfl ?_
      refine j_iload 7 dX12_whoseOf_88 rfl ?_
      obtain ⟨q10, hq10, hL⟩ := bnd_ex hL
      refine j_callVi (c_X12_has G v1 v10 h _ hq10) cv_RX12_374 rfl sh_193 (by decide) rfl (by decide) rfl rfl (Nat.le_of_ble_eq_true rfl) dX12_whoseOf_90 (by decide) ?_
      refine j_ifz_eq 109 dX12_whoseOf_93 (by decide) (fun z11 => ?_) (fun z11 => ?_)
      · replace hL := (if_neg z11).symm.trans hL
        refine j_lconst 0 dX12_whoseOf_109 (by decide) ?_
        refine j_ladd dX12_whoseOf_110 ?_
        refine j_lstore (lv' := [(8, .long (v8 + 0)), (0, .ref (ad G 193)), (1, .int v1), (2, .long v2), (4, .int v4), (5, .long v5), (7, .int v7), (10, .int v10)]) dX12_whoseOf_111 (by decide) rfl ?_
        refine j_iinc (lv' := [(10, .int (v10 + 1)), (8, .long (v8 + 0)), (0, .ref (ad G 193)), (1, .int v1), (2, .long v2), (4, .int v4), (5, .long v5), (7, .int v7)]) 7 dX12_whoseOf_113 rfl rfl (by decide) rfl ?_
        refine j_goto 77 dX12_whoseOf_116 (by decide) ?_
        refine j_sub [2, 3, 4, 5, 6, 7, 1, 0] rfl ?_
        exact ih (v8 + 0) (v10 + 1) h r hL kE
      · replace hL := (if_pos z11).symm.trans hL
        refine j_aload_n 0 dX12_whoseOf_96 rfl ?_
        refine j_iload 5 dX12_whoseOf_97 rfl ?_
        refine j_iload_n 1 dX12_whoseOf_99 rfl ?_
        refine j_iload 7 dX12_whoseOf_100 rfl ?_
        obtain ⟨q12, hq12, hL⟩ := bnd_ex hL
        refine j_callVi (c_X12_makes G v7 v1 v10 h _ hq12) cv_RX12_422 rfl sh_193 (by decide) rfl (by decide) rfl rfl (Nat.le_of_ble_eq_true rfl) dX12_whoseOf_102 (by decide) ?_
        refine j_i2l dX12_whoseOf_105 ?_
        refine j_goto 110 dX12_whoseOf_106 (by decide) ?_
        refine j_ladd dX12_whoseOf_110 ?_
        refine j_lstore (lv' := [(8, .long (v8 + q12.toInt64)), (0, .ref (ad G 193)), (1, .int v1), (2, .long v2), (4, .int v4), (5, .long v5), (7, .int v7), (10, .int v10)]) dX12_whoseOf_111 (by decide) rfl ?_
        refine j_iinc (lv' := [(10, .int (v10 + 1)), (8, .long (v8 + q12.toInt64)), (0, .ref (ad G 193)), (1, .int v1), (2, .long v2), (4, .int v4), (5, .long v5), (7, .int v7)]) 7 dX12_whoseOf_113 rfl rfl (by decide) rfl ?_
        refine j_goto 77 dX12_whoseOf_116 (by decide) ?_
        refine j_sub [2, 3, 4, 5, 6, 7, 1, 0] rfl ?_
        exact ih (v8 + q12.toInt64) (v10 + 1) h r hL kE

set_option maxRecDepth 20000 in
theorem cl_X12_whoseOf_125 (G : GG) (K : KQ) (v1 : Int32) (v2 : Int64) (v4 : Int32) (v5 : Int64) (v7 : Int32) (v8 : Int64)  : ∀ (n : Nat) (v10 : Int64) (v12 : Int32) (h : AH) (r : Int64), f_X12_whoseOf_l125 v1 v2 v7 v8 h n v10 v12 = some r → J G mX12_whoseOf 8 0 0 K 184 [(0, .ref (ad G 193)), (1, .int v1), (2, .long v2), (4, .int v4), (5, .long v5), (7, .int v7), (10, .long r)] [] h → J G mX12_whoseOf 8 0 0 K 125 [(0, .ref (ad G 193)), (1, .int v1), (2, .long v2), (4, .int v4), (5, .long v5), (7, .int v7), (8, .long v8), (10, .long v10), (12, .int v12)] [] h := by
  intro n
  induction n with
  | zero => intro v10 v12 h r hL; cases hL
  | succ n ih =>
    intro v10 v12 h r hL kE
    unfold f_X12_whoseOf_l125 at hL
    refine j_iload 8 dX12_whoseOf_125 rfl ?_
    refine j_bipush 12 dX12_whoseOf_127 (by decide) ?_
    refine j_icmp_ge 184 dX12_whoseOf_129 (by decide) (fun z14 => ?_) (fun z14 => ?_)
    · replace hL := (if_pos z14).symm.trans hL
      cases hL
      refine j_sub [0, 1, 2, 3, 4, 5, 7] rfl ?_
      exact kE 
    · replace hL := (if_neg z14).symm.trans hL
      refine j_lload 7 dX12_whoseOf_132 rfl ?_
      refine j_aload_n 0 dX12_whoseOf_134 rfl ?_
      refine j_iload_n 1 dX12_whoseOf_135 rfl ?_
      refine j_iload 8 dX12_whoseOf_136 rfl ?_
      obtain ⟨q15, hq15, hL⟩ := bnd_ex hL
      refine j_callVi (c_X12_has G v1 v12 h _ hq15) cv_RX12_374 rfl sh_193 (by decide) rfl (by decide) rfl rfl (Nat.le_of_ble_eq_true rfl) dX12_whoseOf_138 (by decide) ?_
      refine j_ifz_eq 174 dX12_whoseOf_141 (by decide) (fun z16 => ?_) (fun z16 => ?_)
      · replace hL := (if_neg z16).symm.trans hL
        refine j_lconst 0 dX12_whoseOf_174 (by decide) ?_
        refine j_ladd dX12_whoseOf_175 ?_
        refine j_lstore (lv' := [(10, .long (v10 + 0)), (0, .ref (ad G 193)), (1, .int v1), (2, .long v2), (4, .int v4), (5, .long v5), (7, .int v7), (8, .long v8), (12, .int v12)]) dX12_whoseOf_176 (by decide) rfl ?_
        refine j_iinc (lv' := [(12, .int (v12 + 1)), (10, .long (v10 + 0)), (0, .ref (ad G 193)), (1, .int v1), (2, .long v2), (4, .int v4), (5, .long v5), (7, .int v7), (8, .long v8)]) 8 dX12_whoseOf_178 rfl rfl (by decide) rfl ?_
        refine j_goto 125 dX12_whoseOf_181 (by decide) ?_
        refine j_sub [2, 3, 4, 5, 6, 7, 8, 1, 0] rfl ?_
        exact ih (v10 + 0) (v12 + 1) h r hL kE
      · replace hL := (if_pos z16).symm.trans hL
        refine j_aload_n 0 dX12_whoseOf_144 rfl ?_
        refine j_iload_n 1 dX12_whoseOf_145 rfl ?_
        refine j_iload 8 dX12_whoseOf_146 rfl ?_
        obtain ⟨q17, hq17, hL⟩ := bnd_ex hL
        refine j_callVi (c_X12_lightOf G v1 v12 h _ hq17) cv_RX12_377 rfl sh_193 (by decide) rfl (by decide) rfl rfl (Nat.le_of_ble_eq_true rfl) dX12_whoseOf_148 (by decide) ?_
        refine j_i2l dX12_whoseOf_151 ?_
        refine j_lload 6 dX12_whoseOf_152 rfl ?_
        refine j_lmul dX12_whoseOf_154 ?_
        refine j_aload_n 0 dX12_whoseOf_155 rfl ?_
        refine j_iload 5 dX12_whoseOf_156 rfl ?_
        refine j_iload_n 1 dX12_whoseOf_158 rfl ?_
        refine j_iload 8 dX12_whoseOf_159 rfl ?_
        obtain ⟨q18, hq18, hL⟩ := bnd_ex hL
        refine j_callVi (c_X12_makes G v7 v1 v12 h _ hq18) cv_RX12_422 rfl sh_193 (by decide) rfl (by decide) rfl rfl (Nat.le_of_ble_eq_true rfl) dX12_whoseOf_161 (by decide) ?_
        refine j_i2l dX12_whoseOf_164 ?_
        refine j_lload_n 2 dX12_whoseOf_165 rfl ?_
        refine j_lmul dX12_whoseOf_166 ?_
        refine j_lsub dX12_whoseOf_167 ?_
        refine j_callSl (c_J9_abs_067f4 G ((q17.toInt64 * v8) - (q18.toInt64 * v2)) h) cv_RX12_425 rfl (by decide) rfl rfl (Nat.le_of_ble_eq_true rfl) dX12_whoseOf_168 (by decide) ?_
        refine j_goto 175 dX12_whoseOf_171 (by decide) ?_
        refine j_ladd dX12_whoseOf_175 ?_
        refine j_lstore (lv' := [(10, .long (v10 + (f_J9_abs_067f4 ((q17.toInt64 * v8) - (q18.toInt64 * v2))))), (0, .ref (ad G 193)), (1, .int v1), (2, .long v2), (4, .int v4), (5, .long v5), (7, .int v7), (8, .long v8), (12, .int v12)]) dX12_whoseOf_176 (by decide) rfl ?_
        refine j_iinc (lv' := [(12, .int (v12 + 1)), (10, .long (v10 + (f_J9_abs_067f4 ((q17.toInt64 * v8) - (q18.toInt64 * v2))))), (0, .ref (ad G 193)), (1, .int v1), (2, .long v2), (4, .int v4), (5, .long v5), (7, .int v7), (8, .long v8)]) 8 dX12_whoseOf_178 rfl rfl (by decide) rfl ?_
        refine j_goto 125 dX12_whoseOf_181 (by decide) ?_
        refine j_sub [2, 3, 4, 5, 6, 7, 8, 1, 0] rfl ?_
        exact ih (v10 + (f_J9_abs_067f4 ((q17.toInt64 * v8) - (q18.toInt64 * v2)))) (v12 + 1) h r hL kE

set_option maxRecDepth 20000 in
theorem cl_X12_whoseOf_52 (G : GG) (K : KQ) (v1 : Int32) (v2 : Int64)  : ∀ (n : Nat) (v4 : Int32) (v5 : Int64) (v7 : Int32) (h : AH) (r : Int32), f_X12_whoseOf_l52 v1 v2 h n v4 v5 v7 = some r → J G mX12_whoseOf 8 0 0 K 215 [(4, .int r)] [] h → J G mX12_whoseOf 8 0 0 K 52 [(0, .ref (ad G 193)), (1, .int v1), (2, .long v2), (4, .int v4), (5, .long v5), (7, .int v7)] [] h := by
  intro n
  induction n with
  | zero => intro v4 v5 v7 h r hL; cases hL
  | succ n ih =>
    intro v4 v5 v7 h r hL kE
    unfold f_X12_whoseOf_l52 at hL
    refine j_iload 5 dX12_whoseOf_52 rfl ?_
    refine j_bipush 6 dX12_whoseOf_54 (by decide) ?_
    refine j_icmp_ge 215 dX12_whoseOf_56 (by decide) (fun z6 => ?_) (fun z6 => ?_)
    · replace hL := (if_pos z6).symm.trans hL
      cases hL
      refine j_sub [3] rfl ?_
      exact kE 
    · replace hL := (if_neg z6).symm.trans hL
      refine j_aload_n 0 dX12_whoseOf_59 rfl ?_
      refine j_iload 5 dX12_whoseOf_60 rfl ?_
      obtain ⟨q7, hq7, hL⟩ := bnd_ex hL
      refine j_callVi (c_X12_tells G v7 h _ hq7) cv_RX12_419 rfl sh_193 (by decide) rfl (by decide) rfl rfl (Nat.le_of_ble_eq_true rfl) dX12_whoseOf_62 (by decide) ?_
      refine j_ifz_ne 71 dX12_whoseOf_65 (by decide) (fun z8 => ?_) (fun z8 => ?_)
      · replace hL := (if_pos z8).symm.trans hL
        refine j_lconst 0 dX12_whoseOf_71 (by decide) ?_
        refine j_lstore (lv' := [(8, .long 0), (0, .ref (ad G 193)), (1, .int v1), (2, .long v2), (4, .int v4), (5, .long v5), (7, .int v7)]) dX12_whoseOf_72 (by decide) rfl ?_
        refine j_iconst 0 dX12_whoseOf_74 (by decide) ?_
        refine j_istore (lv' := [(10, .int 0), (8, .long 0), (0, .ref (ad G 193)), (1, .int v1), (2, .long v2), (4, .int v4), (5, .long v5), (7, .int v7)]) dX12_whoseOf_75 (by decide) rfl ?_
        obtain ⟨q13, hq13, hL⟩ := bnd_ex hL
        refine j_sub [2, 3, 4, 5, 6, 7, 1, 0] rfl ?_
        refine cl_X12_whoseOf_77 G K v1 v2 v4 v5 v7 FU 0 0 h q13 hq13 ?_
        refine j_lconst 0 dX12_whoseOf_119 (by decide) ?_
        refine j_lstore (lv' := [(10, .long 0), (0, .ref (ad G 193)), (1, .int v1), (2, .long v2), (4, .int v4), (5, .long v5), (7, .int v7), (8, .long q13)]) dX12_whoseOf_120 (by decide) rfl ?_
        refine j_iconst 0 dX12_whoseOf_122 (by decide) ?_
        refine j_istore (lv' := [(12, .int 0), (10, .long 0), (0, .ref (ad G 193)), (1, .int v1), (2, .long v2), (4, .int v4), (5, .long v5), (7, .int v7), (8, .long q13)]) dX12_whoseOf_123 (by decide) rfl ?_
        obtain ⟨q19, hq19, hL⟩ := bnd_ex hL
        refine j_sub [2, 3, 4, 5, 6, 7, 8, 1, 0] rfl ?_
        refine cl_X12_whoseOf_125 G K v1 v2 v4 v5 v7 q13 FU 0 0 h q19 hq19 ?_
        refine j_iload 3 dX12_whoseOf_184 rfl ?_
        refine j_iconst (-1) dX12_whoseOf_186 (by decide) ?_
        refine j_icmp_eq 201 dX12_whoseOf_187 (by decide) (fun z20 => ?_) (fun z20 => ?_)
        · replace hL := (if_pos z20).symm.trans hL
          refine j_iload 5 dX12_whoseOf_201 rfl ?_
          refine j_istore (lv' := [(4, .int v7), (0, .ref (ad G 193)), (1, .int v1), (2, .long v2), (5, .long v5), (7, .int v7), (10, .long q19)]) dX12_whoseOf_203 (by decide) rfl ?_
          refine j_lload 6 dX12_whoseOf_205 rfl ?_
          refine j_lstore (lv' := [(5, .long q19), (4, .int v7), (0, .ref (ad G 193)), (1, .int v1), (2, .long v2), (7, .int v7), (10, .long q19)]) dX12_whoseOf_207 (by decide) rfl ?_
          refine j_iinc (lv' := [(7, .int (v7 + 1)), (5, .long q19), (4, .int v7), (0, .ref (ad G 193)), (1, .int v1), (2, .long v2), (10, .long q19)]) 5 dX12_whoseOf_209 rfl rfl (by decide) rfl ?_
          refine j_goto 52 dX12_whoseOf_212 (by decide) ?_
          refine j_sub [3, 4, 5, 2, 1, 0] rfl ?_
          exact ih v7 q19 (v7 + 1) h r hL kE
        · replace hL := (if_neg z20).symm.trans hL
          refine j_lload 6 dX12_whoseOf_190 rfl ?_
          refine j_lload 4 dX12_whoseOf_192 rfl ?_
          refine j_lcmp dX12_whoseOf_194 ?_
          refine j_if_lt 201 dX12_whoseOf_195 (by decide) (fun z21 => ?_) (fun z21 => ?_)
          · replace hL := (if_pos z21).symm.trans hL
            refine j_iload 5 dX12_whoseOf_201 rfl ?_
            refine j_istore (lv' := [(4, .int v7), (0, .ref (ad G 193)), (1, .int v1), (2, .long v2), (5, .long v5), (7, .int v7), (10, .long q19)]) dX12_whoseOf_203 (by decide) rfl ?_
            refine j_lload 6 dX12_whoseOf_205 rfl ?_
            refine j_lstore (lv' := [(5, .long q19), (4, .int v7), (0, .ref (ad G 193)), (1, .int v1), (2, .long v2), (7, .int v7), (10, .long q19)]) dX12_whoseOf_207 (by decide) rfl ?_
            refine j_iinc (lv' := [(7, .int (v7 + 1)), (5, .long q19), (4, .int v7), (0, .ref (ad G 193)), (1, .int v1), (2, .long v2), (10, .long q19)]) 5 dX12_whoseOf_209 rfl rfl (by decide) rfl ?_
            refine j_goto 52 dX12_whoseOf_212 (by decide) ?_
            refine j_sub [3, 4, 5, 2, 1, 0] rfl ?_
            exact ih v7 q19 (v7 + 1) h r hL kE
          · replace hL := (if_neg z21).symm.trans hL
            refine j_goto 209 dX12_whoseOf_198 (by decide) ?_
            refine j_iinc (lv' := [(7, .int (v7 + 1)), (0, .ref (ad G 193)), (1, .int v1), (2, .long v2), (4, .int v4), (5, .long v5), (10, .long q19)]) 5 dX12_whoseOf_209 rfl rfl (by decide) rfl ?_
            refine j_goto 52 dX12_whoseOf_212 (by decide) ?_
            refine j_sub [1, 2, 3, 4, 5, 0] rfl ?_
            exact ih v4 v5 (v7 + 1) h r hL kE
      · replace hL := (if_neg z8).symm.trans hL
        refine j_goto 209 dX12_whoseOf_68 (by decide) ?_
        refine j_iinc (lv' := [(7, .int (v7 + 1)), (0, .ref (ad G 193)), (1, .int v1), (2, .long v2), (4, .int v4), (5, .long v5)]) 5 dX12_whoseOf_209 rfl rfl (by decide) rfl ?_
        refine j_goto 52 dX12_whoseOf_212 (by decide) ?_
        refine j_sub [1, 2, 3, 4, 5, 0] rfl ?_
        exact ih v4 v5 (v7 + 1) h r hL kE

set_option maxRecDepth 20000 in
theorem c_X12_whoseOf (G : GG) (v1 : Int32) (h : AH) (r : Int32) (hL : f_X12_whoseOf v1 h = some r) : SpI G 8 mX12_whoseOf [.ref (ad G 193), .int v1] h r h := by
  refine sp_i pf_X12_whoseOf (Nat.le_of_ble_eq_true rfl) ?_
  show J G mX12_whoseOf 8 0 0 (KMi G r h) 0 [(0, .ref (ad G 193)), (1, .int v1)] [] h
  obtain ⟨K, hK⟩ : ∃ K, K = KMi G r h := ⟨_, rfl⟩
  rw [← hK]
  unfold f_X12_whoseOf at hL
  refine j_lconst 0 dX12_whoseOf_0 (by decide) ?_
  refine j_lstore_n (lv' := [(2, .long 0), (0, .ref (ad G 193)), (1, .int v1)]) dX12_whoseOf_1 (by decide) rfl ?_
  refine j_iconst 0 dX12_whoseOf_2 (by decide) ?_
  refine j_istore (lv' := [(4, .int 0), (2, .long 0), (0, .ref (ad G 193)), (1, .int v1)]) dX12_whoseOf_3 (by decide) rfl ?_
  obtain ⟨q5, hq5, hL⟩ := bnd_ex hL
  refine j_sub [2, 3, 1, 0] rfl ?_
  refine cl_X12_whoseOf_5 G K v1 FU 0 0 h q5 hq5 ?_
  refine j_iconst (-1) dX12_whoseOf_43 (by decide) ?_
  refine j_istore (lv' := [(4, .int (-1)), (0, .ref (ad G 193)), (1, .int v1), (2, .long q5)]) dX12_whoseOf_44 (by decide) rfl ?_
  refine j_lconst 0 dX12_whoseOf_46 (by decide) ?_
  refine j_lstore (lv' := [(5, .long 0), (4, .int (-1)), (0, .ref (ad G 193)), (1, .int v1), (2, .long q5)]) dX12_whoseOf_47 (by decide) rfl ?_
  refine j_iconst 0 dX12_whoseOf_49 (by decide) ?_
  refine j_istore (lv' := [(7, .int 0), (5, .long 0), (4, .int (-1)), (0, .ref (ad G 193)), (1, .int v1), (2, .long q5)]) dX12_whoseOf_50 (by decide) rfl ?_
  obtain ⟨q22, hq22, hL⟩ := bnd_ex hL
  refine j_sub [3, 4, 5, 2, 1, 0] rfl ?_
  refine cl_X12_whoseOf_52 G K v1 q5 FU (-1) 0 0 h q22 hq22 ?_
  refine j_iload 0 dX12_whoseOf_215 rfl ?_
  cases hL
  exact j_reti dX12_whoseOf_217 rfl hK

def f_X12_whose (v1 : Int32) (h : AH) : Option (Int32 × AH) := lt (sfi h 193 2 0) (fun h1 => bnd (f_X12_isAsked v1 h1) (fun q2 => if q2 = true then bnd (f_X12_whoseOf v1 h1) (fun q5 => some (q5, h1)) else bnd (f_X12_fail 1 h1) (fun q4 => some (q4.1, q4.2))))
set_option maxRecDepth 20000 in
theorem c_X12_whose (G : GG) (v1 : Int32) (h : AH) (r : Int32 × AH) (hL : f_X12_whose v1 h = some r) : SpI G 9 mX12_whose [.ref (ad G 193), .int v1] h r.1 r.2 := by
  refine sp_i pf_X12_whose (Nat.le_of_ble_eq_true rfl) ?_
  show J G mX12_whose 9 0 0 (KMi G r.1 r.2) 0 [(0, .ref (ad G 193)), (1, .int v1)] [] h
  obtain ⟨K, hK⟩ : ∃ K, K = KMi G r.1 r.2 := ⟨_, rfl⟩
  rw [← hK]
  unfold f_X12_whose at hL
  refine j_aload_n 0 dX12_whose_0 rfl ?_
  refine j_iconst 0 dX12_whose_1 (by decide) ?_
  refine jp_RX12_158 rfl sh_193 dX12_whose_2 ?_
  obtain ⟨h1, eh1, hL⟩ := lt_ex hL
  refine j_heap eh1 ?_
  refine j_aload_n 0 dX12_whose_5 rfl ?_
  refine j_iload_n 1 dX12_whose_6 rfl ?_
  obtain ⟨q2, hq2, hL⟩ := bnd_ex hL
  refine j_callVi (c_X12_isAsked G v1 h1 _ hq2) cv_RX12_371 rfl sh_193 (by decide) rfl (by decide) rfl rfl (Nat.le_of_ble_eq_true rfl) dX12_whose_7 (by decide) ?_
  refine j_ifz_eq 21 dX12_whose_10 (by decide) (fun z3 => ?_) (fun z3 => ?_)
  · replace hL := (if_neg z3).symm.trans hL
    refine j_aload_n 0 dX12_whose_21 rfl ?_
    refine j_iconst 1 dX12_whose_22 (by decide) ?_
    obtain ⟨q4, hq4, hL⟩ := bnd_ex hL
    refine j_callVi (c_X12_fail G 1 h1 _ hq4) cv_RX12_263 rfl sh_193 (by decide) rfl (by decide) rfl rfl (Nat.le_of_ble_eq_true rfl) dX12_whose_23 (by decide) ?_
    cases hL
    exact j_reti dX12_whose_26 rfl hK
  · replace hL := (if_pos z3).symm.trans hL
    refine j_aload_n 0 dX12_whose_13 rfl ?_
    refine j_iload_n 1 dX12_whose_14 rfl ?_
    obtain ⟨q5, hq5, hL⟩ := bnd_ex hL
    refine j_callVi (c_X12_whoseOf G v1 h1 _ hq5) cv_RX12_428 rfl sh_193 (by decide) rfl (by decide) rfl rfl (Nat.le_of_ble_eq_true rfl) dX12_whose_15 (by decide) ?_
    refine j_goto 26 dX12_whose_18 (by decide) ?_
    cases hL
    exact j_reti dX12_whose_26 rfl hK

def f_X12_lay_l6 (v1 : Int32) (v2 : Int32) (v3 : Int32) : Nat → Int32 → Int32 → AH → Option (AH)
  | 0, _, _, _ => none
  | n + 1, v4, v5, h => gd (ib v1 8 = true) (if (hia h 196 (cl v1)) ≤ v5 then some h else if v5 = v2 then f_X12_lay_l6 v1 v2 v3 n v4 (v5 + 1) h else if v4 = v3 then gd (ib (v4 + 1) 40 = true) (lt (sia h 229 (cl (v4 + 1)) v5) (fun h8 => f_X12_lay_l6 v1 v2 v3 n ((v4 + 1) + 1) (v5 + 1) h8)) else gd (ib v4 40 = true) (lt (sia h 229 (cl v4) v5) (fun h6 => f_X12_lay_l6 v1 v2 v3 n (v4 + 1) (v5 + 1) h6)))
def f_X12_lay (v1 : Int32) (v2 : Int32) (v3 : Int32) (h : AH) : Option (AH) := bnd (f_X12_lay_l6 v1 v2 v3 FU 0 0 h) (fun q9 => if v2 = (-1) then some q9 else gd (ib v3 40 = true) (lt (sia q9 229 (cl v3) v2) (fun h12 => some h12)))
set_option maxRecDepth 20000 in
theorem cl_X12_lay_6 (G : GG) (K : KQ) (v1 : Int32) (v2 : Int32) (v3 : Int32)  : ∀ (n : Nat) (v4 : Int32) (v5 : Int32) (h : AH) (r : AH), f_X12_lay_l6 v1 v2 v3 n v4 v5 h = some r → J G mX12_lay 1 0 0 K 53 [(0, .ref (ad G 193)), (2, .int v2), (3, .int v3)] [] r → J G mX12_lay 1 0 0 K 6 [(0, .ref (ad G 193)), (1, .int v1), (2, .int v2), (3, .int v3), (4, .int v4), (5, .int v5)] [] h := by
  intro n
  induction n with
  | zero => intro v4 v5 h r hL; cases hL
  | succ n ih =>
    intro v4 v5 h r hL kE
    unfold f_X12_lay_l6 at hL
    refine j_iload 5 dX12_lay_6 rfl ?_
    refine j_aload_n 0 dX12_lay_8 rfl ?_
    refine jg_RX12_32 rfl sh_193 dX12_lay_9 ?_
    refine j_iload_n 1 dX12_lay_12 rfl ?_
    obtain ⟨g1, hL⟩ := gd_ex hL
    refine j_iald (shf_12_3 sh_193) (ib_in g1) dX12_lay_13 ?_
    refine j_icmp_ge 53 dX12_lay_14 (by decide) (fun z2 => ?_) (fun z2 => ?_)
    · replace hL := (if_pos z2).symm.trans hL
      cases hL
      refine j_sub [0, 2, 3] rfl ?_
      exact kE 
    · replace hL := (if_neg z2).symm.trans hL
      refine j_iload 5 dX12_lay_17 rfl ?_
      refine j_iload_n 2 dX12_lay_19 rfl ?_
      refine j_icmp_ne 26 dX12_lay_20 (by decide) (fun z3 => ?_) (fun z3 => ?_)
      · replace hL := (if_neg z3).symm.trans hL
        refine j_iload 4 dX12_lay_26 rfl ?_
        refine j_iload_n 3 dX12_lay_28 rfl ?_
        refine j_icmp_ne 35 dX12_lay_29 (by decide) (fun z4 => ?_) (fun z4 => ?_)
        · replace hL := (if_neg z4).symm.trans hL
          refine j_aload_n 0 dX12_lay_35 rfl ?_
          refine jg_RX12_137 rfl sh_193 dX12_lay_36 ?_
          refine j_iload 4 dX12_lay_39 rfl ?_
          refine j_iload 5 dX12_lay_41 rfl ?_
          obtain ⟨g5, hL⟩ := gd_ex hL
          refine j_iast (shf_12_51 sh_193) (ib_in g5) dX12_lay_43 ?_
          obtain ⟨h6, eh6, hL⟩ := lt_ex hL
          refine j_heap eh6 ?_
          refine j_iinc (lv' := [(4, .int (v4 + 1)), (0, .ref (ad G 193)), (1, .int v1), (2, .int v2), (3, .int v3), (5, .int v5)]) 4 dX12_lay_44 rfl rfl (by decide) rfl ?_
          refine j_iinc (lv' := [(5, .int (v5 + 1)), (4, .int (v4 + 1)), (0, .ref (ad G 193)), (1, .int v1), (2, .int v2), (3, .int v3)]) 5 dX12_lay_47 rfl rfl (by decide) rfl ?_
          refine j_goto 6 dX12_lay_50 (by decide) ?_
          refine j_sub [2, 3, 4, 5, 1, 0] rfl ?_
          exact ih (v4 + 1) (v5 + 1) h6 r hL kE
        · replace hL := (if_pos z4).symm.trans hL
          refine j_iinc (lv' := [(4, .int (v4 + 1)), (0, .ref (ad G 193)), (1, .int v1), (2, .int v2), (3, .int v3), (5, .int v5)]) 4 dX12_lay_32 rfl rfl (by decide) rfl ?_
          refine j_aload_n 1 dX12_lay_35 rfl ?_
          refine jg_RX12_137 rfl sh_193 dX12_lay_36 ?_
          refine j_iload 0 dX12_lay_39 rfl ?_
          refine j_iload 5 dX12_lay_41 rfl ?_
          obtain ⟨g7, hL⟩ := gd_ex hL
          refine j_iast (shf_12_51 sh_193) (ib_in g7) dX12_lay_43 ?_
          obtain ⟨h8, eh8, hL⟩ := lt_ex hL
          refine j_heap eh8 ?_
          refine j_iinc (lv' := [(4, .int ((v4 + 1) + 1)), (0, .ref (ad G 193)), (1, .int v1), (2, .int v2), (3, .int v3), (5, .int v5)]) 0 dX12_lay_44 rfl rfl (by decide) rfl ?_
          refine j_iinc (lv' := [(5, .int (v5 + 1)), (4, .int ((v4 + 1) + 1)), (0, .ref (ad G 193)), (1, .int v1), (2, .int v2), (3, .int v3)]) 5 dX12_lay_47 rfl rfl (by decide) rfl ?_
          refine j_goto 6 dX12_lay_50 (by decide) ?_
          refine j_sub [2, 3, 4, 5, 1, 0] rfl ?_
          exact ih ((v4 + 1) + 1) (v5 + 1) h8 r hL kE
      · replace hL := (if_pos z3).symm.trans hL
        refine j_goto 47 dX12_lay_23 (by decide) ?_
        refine j_iinc (lv' := [(5, .int (v5 + 1)), (0, .ref (ad G 193)), (1, .int v1), (2, .int v2), (3, .int v3), (4, .int v4)]) 5 dX12_lay_47 rfl rfl (by decide) rfl ?_
        refine j_goto 6 dX12_lay_50 (by decide) ?_
        refine j_sub [1, 2, 3, 4, 5, 0] rfl ?_
        exact ih v4 (v5 + 1) h r hL kE

set_option maxRecDepth 20000 in
theorem c_X12_lay (G : GG) (v1 : Int32) (v2 : Int32) (v3 : Int32) (h : AH) (r : AH) (hL : f_X12_lay v1 v2 v3 h = some r) : SpV G 1 mX12_lay [.ref (ad G 193), .int v1, .int v2, .int v3] h r := by
  refine sp_v pf_X12_lay (Nat.le_of_ble_eq_true rfl) ?_
  show J G mX12_lay 1 0 0 (KMv G r) 0 [(0, .ref (ad G 193)), (1, .int v1), (2, .int v2), (3, .int v3)] [] h
  obtain ⟨K, hK⟩ : ∃ K, K = KMv G r := ⟨_, rfl⟩
  rw [← hK]
  unfold f_X12_lay at hL
  refine j_iconst 0 dX12_lay_0 (by decide) ?_
  refine j_istore (lv' := [(4, .int 0), (0, .ref (ad G 193)), (1, .int v1), (2, .int v2), (3, .int v3)]) dX12_lay_1 (by decide) rfl ?_
  refine j_iconst 0 dX12_lay_3 (by decide) ?_
  refine j_istore (lv' := [(5, .int 0), (4, .int 0), (0, .ref (ad G 193)), (1, .int v1), (2, .int v2), (3, .int v3)]) dX12_lay_4 (by decide) rfl ?_
  obtain ⟨q9, hq9, hL⟩ := bnd_ex hL
  refine j_sub [2, 3, 4, 5, 1, 0] rfl ?_
  refine cl_X12_lay_6 G K v1 v2 v3 FU 0 0 h q9 hq9 ?_
  refine j_iload_n 1 dX12_lay_53 rfl ?_
  refine j_iconst (-1) dX12_lay_54 (by decide) ?_
  refine j_icmp_eq 65 dX12_lay_55 (by decide) (fun z10 => ?_) (fun z10 => ?_)
  · replace hL := (if_pos z10).symm.trans hL
    cases hL
    exact j_retv dX12_lay_65 rfl hK
  · replace hL := (if_neg z10).symm.trans hL
    refine j_aload_n 0 dX12_lay_58 rfl ?_
    refine jg_RX12_137 rfl sh_193 dX12_lay_59 ?_
    refine j_iload_n 2 dX12_lay_62 rfl ?_
    refine j_iload_n 1 dX12_lay_63 rfl ?_
    obtain ⟨g11, hL⟩ := gd_ex hL
    refine j_iast (shf_12_51 sh_193) (ib_in g11) dX12_lay_64 ?_
    obtain ⟨h12, eh12, hL⟩ := lt_ex hL
    refine j_heap eh12 ?_
    cases hL
    exact j_retv dX12_lay_65 rfl hK

def f_X12_want_l5 (v1 : Int32) (h : AH) : Nat → Int64 → Int32 → Option (Int64)
  | 0, _, _ => none
  | n + 1, v2, v4 => gd (ib v1 8 = true) (if (hia h 196 (cl v1)) ≤ v4 then some v2 else gd (ib v4 40 = true) (if v4 = 0 then bnd (f_X12_undoneHigh v1 (hia h 229 (cl v4)) (-1) h) (fun q7 => f_X12_want_l5 v1 h n (v2 + ((f_J9_max_7cf53 0 (-q7)).toInt64)) (v4 + 1)) else gd (ib (v4 - 1) 40 = true) (bnd (f_X12_undoneHigh v1 (hia h 229 (cl v4)) (hia h 229 (cl (v4 - 1))) h) (fun q6 => f_X12_want_l5 v1 h n (v2 + ((f_J9_max_7cf53 0 (-q6)).toInt64)) (v4 + 1)))))
def f_X12_want (v1 : Int32) (h : AH) : Option (Int64) := bnd (f_X12_want_l5 v1 h FU 0 0) (fun q8 => some q8)
set_option maxRecDepth 20000 in
theorem cl_X12_want_5 (G : GG) (K : KQ) (v1 : Int32)  : ∀ (n : Nat) (v2 : Int64) (v4 : Int32) (h : AH) (r : Int64), f_X12_want_l5 v1 h n v2 v4 = some r → J G mX12_want 4 0 0 K 61 [(2, .long r)] [] h → J G mX12_want 4 0 0 K 5 [(0, .ref (ad G 193)), (1, .int v1), (2, .long v2), (4, .int v4)] [] h := by
  intro n
  induction n with
  | zero => intro v2 v4 h r hL; cases hL
  | succ n ih =>
    intro v2 v4 h r hL kE
    unfold f_X12_want_l5 at hL
    refine j_iload 3 dX12_want_5 rfl ?_
    refine j_aload_n 0 dX12_want_7 rfl ?_
    refine jg_RX12_32 rfl sh_193 dX12_want_8 ?_
    refine j_iload_n 1 dX12_want_11 rfl ?_
    obtain ⟨g1, hL⟩ := gd_ex hL
    refine j_iald (shf_12_3 sh_193) (ib_in g1) dX12_want_12 ?_
    refine j_icmp_ge 61 dX12_want_13 (by decide) (fun z2 => ?_) (fun z2 => ?_)
    · replace hL := (if_pos z2).symm.trans hL
      cases hL
      refine j_sub [2] rfl ?_
      exact kE 
    · replace hL := (if_neg z2).symm.trans hL
      refine j_lload_n 2 dX12_want_16 rfl ?_
      refine j_iconst 0 dX12_want_17 (by decide) ?_
      refine j_aload_n 0 dX12_want_18 rfl ?_
      refine j_iload_n 1 dX12_want_19 rfl ?_
      refine j_aload_n 0 dX12_want_20 rfl ?_
      refine jg_RX12_137 rfl sh_193 dX12_want_21 ?_
      refine j_iload 3 dX12_want_24 rfl ?_
      obtain ⟨g3, hL⟩ := gd_ex hL
      refine j_iald (shf_12_51 sh_193) (ib_in g3) dX12_want_26 ?_
      refine j_iload 3 dX12_want_27 rfl ?_
      refine j_if_ne 36 dX12_want_29 (by decide) (fun z4 => ?_) (fun z4 => ?_)
      · replace hL := (if_neg z4).symm.trans hL
        refine j_aload_n 0 dX12_want_36 rfl ?_
        refine jg_RX12_137 rfl sh_193 dX12_want_37 ?_
        refine j_iload 3 dX12_want_40 rfl ?_
        refine j_iconst 1 dX12_want_42 (by decide) ?_
        refine j_isub dX12_want_43 ?_
        obtain ⟨g5, hL⟩ := gd_ex hL
        refine j_iald (shf_12_51 sh_193) (ib_in g5) dX12_want_44 ?_
        obtain ⟨q6, hq6, hL⟩ := bnd_ex hL
        refine j_callVi (c_X12_undoneHigh G v1 (hia h 229 (cl v4)) (hia h 229 (cl (v4 - 1))) h _ hq6) cv_RX12_345 rfl sh_193 (by decide) rfl (by decide) rfl rfl (Nat.le_of_ble_eq_true rfl) dX12_want_45 (by decide) ?_
        refine j_ineg dX12_want_48 ?_
        refine j_callSi (c_J9_max_7cf53 G 0 (-q6) h) cv_RX12_298 rfl (by decide) rfl rfl (Nat.le_of_ble_eq_true rfl) dX12_want_49 (by decide) ?_
        refine j_i2l dX12_want_52 ?_
        refine j_ladd dX12_want_53 ?_
        refine j_lstore_n (lv' := [(2, .long (v2 + ((f_J9_max_7cf53 0 (-q6)).toInt64))), (0, .ref (ad G 193)), (1, .int v1), (4, .int v4)]) dX12_want_54 (by decide) rfl ?_
        refine j_iinc (lv' := [(4, .int (v4 + 1)), (2, .long (v2 + ((f_J9_max_7cf53 0 (-q6)).toInt64))), (0, .ref (ad G 193)), (1, .int v1)]) 3 dX12_want_55 rfl rfl (by decide) rfl ?_
        refine j_goto 5 dX12_want_58 (by decide) ?_
        refine j_sub [2, 3, 1, 0] rfl ?_
        exact ih (v2 + ((f_J9_max_7cf53 0 (-q6)).toInt64)) (v4 + 1) h r hL kE
      · replace hL := (if_pos z4).symm.trans hL
        refine j_iconst (-1) dX12_want_32 (by decide) ?_
        refine j_goto 45 dX12_want_33 (by decide) ?_
        obtain ⟨q7, hq7, hL⟩ := bnd_ex hL
        refine j_callVi (c_X12_undoneHigh G v1 (hia h 229 (cl v4)) (-1) h _ hq7) cv_RX12_345 rfl sh_193 (by decide) rfl (by decide) rfl rfl (Nat.le_of_ble_eq_true rfl) dX12_want_45 (by decide) ?_
        refine j_ineg dX12_want_48 ?_
        refine j_callSi (c_J9_max_7cf53 G 0 (-q7) h) cv_RX12_298 rfl (by decide) rfl rfl (Nat.le_of_ble_eq_true rfl) dX12_want_49 (by decide) ?_
        refine j_i2l dX12_want_52 ?_
        refine j_ladd dX12_want_53 ?_
        refine j_lstore_n (lv' := [(2, .long (v2 + ((f_J9_max_7cf53 0 (-q7)).toInt64))), (0, .ref (ad G 193)), (1, .int v1), (4, .int v4)]) dX12_want_54 (by decide) rfl ?_
        refine j_iinc (lv' := [(4, .int (v4 + 1)), (2, .long (v2 + ((f_J9_max_7cf53 0 (-q7)).toInt64))), (0, .ref (ad G 193)), (1, .int v1)]) 3 dX12_want_55 rfl rfl (by decide) rfl ?_
        refine j_goto 5 dX12_want_58 (by decide) ?_
        refine j_sub [2, 3, 1, 0] rfl ?_
        exact ih (v2 + ((f_J9_max_7cf53 0 (-q7)).toInt64)) (v4 + 1) h r hL kE

set_option maxRecDepth 20000 in
theorem c_X12_want (G : GG) (v1 : Int32) (h : AH) (r : Int64) (hL : f_X12_want v1 h = some r) : SpL G 4 mX12_want [.ref (ad G 193), .int v1] h r h := by
  refine sp_l pf_X12_want (Nat.le_of_ble_eq_true rfl) ?_
  show J G mX12_want 4 0 0 (KMl G r h) 0 [(0, .ref (ad G 193)), (1, .int v1)] [] h
  obtain ⟨K, hK⟩ : ∃ K, K = KMl G r h := ⟨_, rfl⟩
  rw [← hK]
  unfold f_X12_want at hL
  refine j_lconst 0 dX12_want_0 (by decide) ?_
  refine j_lstore_n (lv' := [(2, .long 0), (0, .ref (ad G 193)), (1, .int v1)]) dX12_want_1 (by decide) rfl ?_
  refine j_iconst 0 dX12_want_2 (by decide) ?_
  refine j_istore (lv' := [(4, .int 0), (2, .long 0), (0, .ref (ad G 193)), (1, .int v1)]) dX12_want_3 (by decide) rfl ?_
  obtain ⟨q8, hq8, hL⟩ := bnd_ex hL
  refine j_sub [2, 3, 1, 0] rfl ?_
  refine cl_X12_want_5 G K v1 FU 0 0 h q8 hq8 ?_
  refine j_lload_n 0 dX12_want_61 rfl ?_
  cases hL
  exact j_retl dX12_want_62 rfl hK

def f_X12_order_l71 (v1 : Int32) (v9 : Int32) : Nat → Int64 → Int32 → Int32 → Int32 → AH → Option (Int64 × Int32 × Int32 × AH)
  | 0, _, _, _, _, _ => none
  | n + 1, v5, v7, v8, v10, h => gd (ib v1 8 = true) (if (hia h 196 (cl v1)) ≤ v10 then some (v5, v7, v8, h) else bnd (f_X12_lay v1 v9 v10 h) (fun q13 => bnd (f_X12_want v1 q13) (fun q14 => if (lg_cmp q14 v5) < 0 then f_X12_order_l71 v1 v9 n q14 v9 v10 (v10 + 1) q13 else f_X12_order_l71 v1 v9 n v5 v7 v8 (v10 + 1) q13)))
def f_X12_order_l53 (v1 : Int32) (v2 : Int32) : Nat → Int64 → Int32 → Int32 → Int32 → AH → Option (Int64 × Int32 × Int32 × AH)
  | 0, _, _, _, _, _ => none
  | n + 1, v5, v7, v8, v9, h => gd (ib v1 8 = true) (if (hia h 196 (cl v1)) ≤ v9 then some (v5, v7, v8, h) else if v2 ≤ 0 then some (v5, v7, v8, h) else bnd (f_X12_order_l71 v1 v9 FU v5 v7 v8 0 h) (fun q16 => f_X12_order_l53 v1 v2 n q16.1 q16.2.1 q16.2.2.1 (v9 + 1) q16.2.2.2))
def f_X12_order (v1 : Int32) (v2 : Int32) (h : AH) : Option (Int32 × AH) := lt (sfi h 193 2 0) (fun h1 => bnd (f_X12_isAsked v1 h1) (fun q2 => if q2 = true then if (f_X12_isIn v2 0 3) = true then bnd (f_X12_lay v1 (-1) (-1) h1) (fun q6 => bnd (f_X12_want v1 q6) (fun q7 => bnd (f_X12_order_l53 v1 v2 FU q7 (-1) (-1) 0 q6) (fun q17 => if v2 = 0 then some (Int64.toInt32 q7, q17.2.2.2) else if v2 = 1 then some (q17.2.1, q17.2.2.2) else if v2 = 2 then some (q17.2.2.1, q17.2.2.2) else if q17.2.1 = (-1) then some ((-1), q17.2.2.2) else some (Int64.toInt32 q17.1, q17.2.2.2)))) else bnd (f_X12_fail 1 h1) (fun q22 => some (q22.1, q22.2)) else bnd (f_X12_fail 1 h1) (fun q4 => some (q4.1, q4.2))))
set_option maxRecDepth 20000 in
theorem cl_X12_order_71 (G : GG) (K : KQ) (v1 : Int32) (v2 : Int32) (v3 : Int64) (v9 : Int32)  : ∀ (n : Nat) (v5 : Int64) (v7 : Int32) (v8 : Int32) (v10 : Int32) (h : AH) (r : Int64 × Int32 × Int32 × AH), f_X12_order_l71 v1 v9 n v5 v7 v8 v10 h = some r → J G mX12_order 5 0 0 K 127 [(0, .ref (ad G 193)), (1, .int v1), (2, .int v2), (3, .long v3), (5, .long r.1), (7, .int r.2.1), (8, .int r.2.2.1), (9, .int v9)] [] r.2.2.2 → J G mX12_order 5 0 0 K 71 [(0, .ref (ad G 193)), (1, .int v1), (2, .int v2), (3, .long v3), (5, .long v5), (7, .int v7), (8, .int v8), (9, .int v9), (10, .int v10)] [] h := by
  intro n
  induction n with
  | zero => intro v5 v7 v8 v10 h r hL; cases hL
  | succ n ih =>
    intro v5 v7 v8 v10 h r hL kE
    unfold f_X12_order_l71 at hL
    refine j_iload 8 dX12_order_71 rfl ?_
    refine j_aload_n 0 dX12_order_73 rfl ?_
    refine jg_RX12_32 rfl sh_193 dX12_order_74 ?_
    refine j_iload_n 1 dX12_order_77 rfl ?_
    obtain ⟨g11, hL⟩ := gd_ex hL
    refine j_iald (shf_12_3 sh_193) (ib_in g11) dX12_order_78 ?_
    refine j_icmp_ge 127 dX12_order_79 (by decide) (fun z12 => ?_) (fun z12 => ?_)
    · replace hL := (if_pos z12).symm.trans hL
      cases hL
      refine j_sub [0, 1, 2, 3, 4, 5, 6, 7] rfl ?_
      exact kE 
    · replace hL := (if_neg z12).symm.trans hL
      refine j_aload_n 0 dX12_order_82 rfl ?_
      refine j_iload_n 1 dX12_order_83 rfl ?_
      refine j_iload 7 dX12_order_84 rfl ?_
      refine j_iload 8 dX12_order_86 rfl ?_
      obtain ⟨q13, hq13, hL⟩ := bnd_ex hL
      refine j_callVv (c_X12_lay G v1 v9 v10 h _ hq13) cv_RX12_431 rfl sh_193 (by decide) rfl (by decide) rfl rfl (Nat.le_of_ble_eq_true rfl) dX12_order_88 (by decide) ?_
      refine j_aload_n 0 dX12_order_91 rfl ?_
      refine j_iload_n 1 dX12_order_92 rfl ?_
      obtain ⟨q14, hq14, hL⟩ := bnd_ex hL
      refine j_callVl (c_X12_want G v1 q13 _ hq14) cv_RX12_435 rfl sh_193 (by decide) rfl (by decide) rfl rfl (Nat.le_of_ble_eq_true rfl) dX12_order_93 (by decide) ?_
      refine j_lstore (lv' := [(11, .long q14), (0, .ref (ad G 193)), (1, .int v1), (2, .int v2), (3, .long v3), (5, .long v5), (7, .int v7), (8, .int v8), (9, .int v9), (10, .int v10)]) dX12_order_96 (by decide) rfl ?_
      refine j_lload 0 dX12_order_98 rfl ?_
      refine j_lload 5 dX12_order_100 rfl ?_
      refine j_lcmp dX12_order_102 ?_
      refine j_if_lt 109 dX12_order_103 (by decide) (fun z15 => ?_) (fun z15 => ?_)
      · replace hL := (if_pos z15).symm.trans hL
        refine j_lload 0 dX12_order_109 rfl ?_
        refine j_lstore (lv' := [(5, .long q14), (11, .long q14), (0, .ref (ad G 193)), (1, .int v1), (2, .int v2), (3, .long v3), (7, .int v7), (8, .int v8), (9, .int v9), (10, .int v10)]) dX12_order_111 (by decide) rfl ?_
        refine j_iload 8 dX12_order_113 rfl ?_
        refine j_istore (lv' := [(7, .int v9), (5, .long q14), (11, .long q14), (0, .ref (ad G 193)), (1, .int v1), (2, .int v2), (3, .long v3), (8, .int v8), (9, .int v9), (10, .int v10)]) dX12_order_115 (by decide) rfl ?_
        refine j_iload 9 dX12_order_117 rfl ?_
        refine j_istore (lv' := [(8, .int v10), (7, .int v9), (5, .long q14), (11, .long q14), (0, .ref (ad G 193)), (1, .int v1), (2, .int v2), (3, .long v3), (9, .int v9), (10, .int v10)]) dX12_order_119 (by decide) rfl ?_
        refine j_iinc (lv' := [(10, .int (v10 + 1)), (8, .int v10), (7, .int v9), (5, .long q14), (11, .long q14), (0, .ref (ad G 193)), (1, .int v1), (2, .int v2), (3, .long v3), (9, .int v9)]) 9 dX12_order_121 rfl rfl (by decide) rfl ?_
        refine j_goto 71 dX12_order_124 (by decide) ?_
        refine j_sub [5, 6, 7, 8, 3, 2, 1, 9, 0] rfl ?_
        exact ih q14 v9 v10 (v10 + 1) q13 r hL kE
      · replace hL := (if_neg z15).symm.trans hL
        refine j_goto 121 dX12_order_106 (by decide) ?_
        refine j_iinc (lv' := [(10, .int (v10 + 1)), (11, .long q14), (0, .ref (ad G 193)), (1, .int v1), (2, .int v2), (3, .long v3), (5, .long v5), (7, .int v7), (8, .int v8), (9, .int v9)]) 9 dX12_order_121 rfl rfl (by decide) rfl ?_
        refine j_goto 71 dX12_order_124 (by decide) ?_
        refine j_sub [2, 3, 4, 5, 6, 7, 8, 9, 0] rfl ?_
        exact ih v5 v7 v8 (v10 + 1) q13 r hL kE

set_option maxRecDepth 20000 in
theorem cl_X12_order_53 (G : GG) (K : KQ) (v1 : Int32) (v2 : Int32) (v3 : Int64)  : ∀ (n : Nat) (v5 : Int64) (v7 : Int32) (v8 : Int32) (v9 : Int32) (h : AH) (r : Int64 × Int32 × Int32 × AH), f_X12_order_l53 v1 v2 n v5 v7 v8 v9 h = some r → J G mX12_order 5 0 0 K 133 [(2, .int v2), (3, .long v3), (5, .long r.1), (7, .int r.2.1), (8, .int r.2.2.1)] [] r.2.2.2 → J G mX12_order 5 0 0 K 53 [(0, .ref (ad G 193)), (1, .int v1), (2, .int v2), (3, .long v3), (5, .long v5), (7, .int v7), (8, .int v8), (9, .int v9)] [] h := by
  intro n
  induction n with
  | zero => intro v5 v7 v8 v9 h r hL; cases hL
  | succ n ih =>
    intro v5 v7 v8 v9 h r hL kE
    unfold f_X12_order_l53 at hL
    refine j_iload 7 dX12_order_53 rfl ?_
    refine j_aload_n 0 dX12_order_55 rfl ?_
    refine jg_RX12_32 rfl sh_193 dX12_order_56 ?_
    refine j_iload_n 1 dX12_order_59 rfl ?_
    obtain ⟨g8, hL⟩ := gd_ex hL
    refine j_iald (shf_12_3 sh_193) (ib_in g8) dX12_order_60 ?_
    refine j_icmp_ge 133 dX12_order_61 (by decide) (fun z9 => ?_) (fun z9 => ?_)
    · replace hL := (if_pos z9).symm.trans hL
      cases hL
      refine j_sub [2, 3, 4, 5, 6] rfl ?_
      exact kE 
    · replace hL := (if_neg z9).symm.trans hL
      refine j_iload_n 2 dX12_order_64 rfl ?_
      refine j_if_le 133 dX12_order_65 (by decide) (fun z10 => ?_) (fun z10 => ?_)
      · replace hL := (if_pos z10).symm.trans hL
        cases hL
        refine j_sub [2, 3, 4, 5, 6] rfl ?_
        exact kE 
      · replace hL := (if_neg z10).symm.trans hL
        refine j_iconst 0 dX12_order_68 (by decide) ?_
        refine j_istore (lv' := [(10, .int 0), (0, .ref (ad G 193)), (1, .int v1), (2, .int v2), (3, .long v3), (5, .long v5), (7, .int v7), (8, .int v8), (9, .int v9)]) dX12_order_69 (by decide) rfl ?_
        obtain ⟨q16, hq16, hL⟩ := bnd_ex hL
        refine j_sub [1, 2, 3, 4, 5, 6, 7, 8, 0] rfl ?_
        refine cl_X12_order_71 G K v1 v2 v3 v9 FU v5 v7 v8 0 h q16 hq16 ?_
        refine j_iinc (lv' := [(9, .int (v9 + 1)), (0, .ref (ad G 193)), (1, .int v1), (2, .int v2), (3, .long v3), (5, .long q16.1), (7, .int q16.2.1), (8, .int q16.2.2.1)]) 7 dX12_order_127 rfl rfl (by decide) rfl ?_
        refine j_goto 53 dX12_order_130 (by decide) ?_
        refine j_sub [1, 2, 3, 4, 5, 6, 7, 0] rfl ?_
        exact ih q16.1 q16.2.1 q16.2.2.1 (v9 + 1) q16.2.2.2 r hL kE

set_option maxRecDepth 20000 in
theorem c_X12_order (G : GG) (v1 : Int32) (v2 : Int32) (h : AH) (r : Int32 × AH) (hL : f_X12_order v1 v2 h = some r) : SpI G 5 mX12_order [.ref (ad G 193), .int v1, .int v2] h r.1 r.2 := by
  refine sp_i pf_X12_order (Nat.le_of_ble_eq_true rfl) ?_
  show J G mX12_order 5 0 0 (KMi G r.1 r.2) 0 [(0, .ref (ad G 193)), (1, .int v1), (2, .int v2)] [] h
  obtain ⟨K, hK⟩ : ∃ K, K = KMi G r.1 r.2 := ⟨_, rfl⟩
  rw [← hK]
  unfold f_X12_order at hL
  refine j_aload_n 0 dX12_order_0 rfl ?_
  refine j_iconst 0 dX12_order_1 (by decide) ?_
  refine jp_RX12_158 rfl sh_193 dX12_order_2 ?_
  obtain ⟨h1, eh1, hL⟩ := lt_ex hL
  refine j_heap eh1 ?_
  refine j_aload_n 0 dX12_order_5 rfl ?_
  refine j_iload_n 1 dX12_order_6 rfl ?_
  obtain ⟨q2, hq2, hL⟩ := bnd_ex hL
  refine j_callVi (c_X12_isAsked G v1 h1 _ hq2) cv_RX12_371 rfl sh_193 (by decide) rfl (by decide) rfl rfl (Nat.le_of_ble_eq_true rfl) dX12_order_7 (by decide) ?_
  refine j_ifz_eq 22 dX12_order_10 (by decide) (fun z3 => ?_) (fun z3 => ?_)
  · replace hL := (if_neg z3).symm.trans hL
    refine j_aload_n 0 dX12_order_22 rfl ?_
    refine j_iconst 1 dX12_order_23 (by decide) ?_
    obtain ⟨q4, hq4, hL⟩ := bnd_ex hL
    refine j_callVi (c_X12_fail G 1 h1 _ hq4) cv_RX12_263 rfl sh_193 (by decide) rfl (by decide) rfl rfl (Nat.le_of_ble_eq_true rfl) dX12_order_24 (by decide) ?_
    cases hL
    exact j_reti dX12_order_27 rfl hK
  · replace hL := (if_pos z3).symm.trans hL
    refine j_iload_n 2 dX12_order_13 rfl ?_
    refine j_iconst 0 dX12_order_14 (by decide) ?_
    refine j_iconst 3 dX12_order_15 (by decide) ?_
    refine j_callSi (c_X12_isIn G v2 0 3 h1) cv_RX12_161 rfl (by decide) rfl rfl (Nat.le_of_ble_eq_true rfl) dX12_order_16 (by decide) ?_
    refine j_ifz_ne 28 dX12_order_19 (by decide) (fun z5 => ?_) (fun z5 => ?_)
    · replace hL := (if_pos z5).symm.trans hL
      refine j_aload_n 0 dX12_order_28 rfl ?_
      refine j_iload_n 1 dX12_order_29 rfl ?_
      refine j_iconst (-1) dX12_order_30 (by decide) ?_
      refine j_iconst (-1) dX12_order_31 (by decide) ?_
      obtain ⟨q6, hq6, hL⟩ := bnd_ex hL
      refine j_callVv (c_X12_lay G v1 (-1) (-1) h1 _ hq6) cv_RX12_431 rfl sh_193 (by decide) rfl (by decide) rfl rfl (Nat.le_of_ble_eq_true rfl) dX12_order_32 (by decide) ?_
      refine j_aload_n 0 dX12_order_35 rfl ?_
      refine j_iload_n 1 dX12_order_36 rfl ?_
      obtain ⟨q7, hq7, hL⟩ := bnd_ex hL
      refine j_callVl (c_X12_want G v1 q6 _ hq7) cv_RX12_435 rfl sh_193 (by decide) rfl (by decide) rfl rfl (Nat.le_of_ble_eq_true rfl) dX12_order_37 (by decide) ?_
      refine j_lstore_n (lv' := [(3, .long q7), (0, .ref (ad G 193)), (1, .int v1), (2, .int v2)]) dX12_order_40 (by decide) rfl ?_
      refine j_lload_n 0 dX12_order_41 rfl ?_
      refine j_lstore (lv' := [(5, .long q7), (3, .long q7), (0, .ref (ad G 193)), (1, .int v1), (2, .int v2)]) dX12_order_42 (by decide) rfl ?_
      refine j_iconst (-1) dX12_order_44 (by decide) ?_
      refine j_istore (lv' := [(7, .int (-1)), (5, .long q7), (3, .long q7), (0, .ref (ad G 193)), (1, .int v1), (2, .int v2)]) dX12_order_45 (by decide) rfl ?_
      refine j_iconst (-1) dX12_order_47 (by decide) ?_
      refine j_istore (lv' := [(8, .int (-1)), (7, .int (-1)), (5, .long q7), (3, .long q7), (0, .ref (ad G 193)), (1, .int v1), (2, .int v2)]) dX12_order_48 (by decide) rfl ?_
      refine j_iconst 0 dX12_order_50 (by decide) ?_
      refine j_istore (lv' := [(9, .int 0), (8, .int (-1)), (7, .int (-1)), (5, .long q7), (3, .long q7), (0, .ref (ad G 193)), (1, .int v1), (2, .int v2)]) dX12_order_51 (by decide) rfl ?_
      obtain ⟨q17, hq17, hL⟩ := bnd_ex hL
      refine j_sub [5, 6, 7, 4, 3, 2, 1, 0] rfl ?_
      refine cl_X12_order_53 G K v1 v2 q7 FU q7 (-1) (-1) 0 q6 q17 hq17 ?_
      refine j_iload_n 0 dX12_order_133 rfl ?_
      refine j_if_ne 142 dX12_order_134 (by decide) (fun z18 => ?_) (fun z18 => ?_)
      · replace hL := (if_neg z18).symm.trans hL
        refine j_iload_n 0 dX12_order_142 rfl ?_
        refine j_iconst 1 dX12_order_143 (by decide) ?_
        refine j_icmp_ne 152 dX12_order_144 (by decide) (fun z19 => ?_) (fun z19 => ?_)
        · replace hL := (if_neg z19).symm.trans hL
          refine j_iload_n 0 dX12_order_152 rfl ?_
          refine j_iconst 2 dX12_order_153 (by decide) ?_
          refine j_icmp_ne 162 dX12_order_154 (by decide) (fun z20 => ?_) (fun z20 => ?_)
          · replace hL := (if_neg z20).symm.trans hL
            refine j_iload 3 dX12_order_162 rfl ?_
            refine j_iconst (-1) dX12_order_164 (by decide) ?_
            refine j_icmp_ne 172 dX12_order_165 (by decide) (fun z21 => ?_) (fun z21 => ?_)
            · replace hL := (if_neg z21).symm.trans hL
              refine j_lload 2 dX12_order_172 rfl ?_
              refine j_l2i dX12_order_174 ?_
              cases hL
              exact j_reti dX12_order_175 rfl hK
            · replace hL := (if_pos z21).symm.trans hL
              refine j_iconst (-1) dX12_order_168 (by decide) ?_
              refine j_goto 175 dX12_order_169 (by decide) ?_
              cases hL
              exact j_reti dX12_order_175 rfl hK
          · replace hL := (if_pos z20).symm.trans hL
            refine j_iload 4 dX12_order_157 rfl ?_
            refine j_goto 175 dX12_order_159 (by decide) ?_
            cases hL
            exact j_reti dX12_order_175 rfl hK
        · replace hL := (if_pos z19).symm.trans hL
          refine j_iload 3 dX12_order_147 rfl ?_
          refine j_goto 175 dX12_order_149 (by decide) ?_
          cases hL
          exact j_reti dX12_order_175 rfl hK
      · replace hL := (if_pos z18).symm.trans hL
        refine j_lload_n 1 dX12_order_137 rfl ?_
        refine j_l2i dX12_order_138 ?_
        refine j_goto 175 dX12_order_139 (by decide) ?_
        cases hL
        exact j_reti dX12_order_175 rfl hK
    · replace hL := (if_neg z5).symm.trans hL
      refine j_aload_n 0 dX12_order_22 rfl ?_
      refine j_iconst 1 dX12_order_23 (by decide) ?_
      obtain ⟨q22, hq22, hL⟩ := bnd_ex hL
      refine j_callVi (c_X12_fail G 1 h1 _ hq22) cv_RX12_263 rfl sh_193 (by decide) rfl (by decide) rfl rfl (Nat.le_of_ble_eq_true rfl) dX12_order_24 (by decide) ?_
      cases hL
      exact j_reti dX12_order_27 rfl hK

def f_X12_isOpen_l35 (v1 : Int32) (v2 : Int32) (v3 : Int32) (h : AH) : Nat → Int32 → Option ((Unit) ⊕ (Bool))
  | 0, _ => none
  | n + 1, v4 => gd (ib v1 8 = true) (if (hia h 196 (cl v1)) ≤ v4 then some (.inl ()) else if v4 = v2 then f_X12_isOpen_l35 v1 v2 v3 h n (v4 + 1) else if v4 = (v2 + 1) then f_X12_isOpen_l35 v1 v2 v3 h n (v4 + 1) else gd (ib (f_X12_at v1 v4) 320 = true) (gd (ib (f_X12_at v1 v2) 320 = true) (lt (fun (x16 : Bool) => if x16 = true then bnd (f_X12_turnsHigh v1 v4 h) (fun q18 => if q18 < v3 then f_X12_isOpen_l35 v1 v2 v3 h n (v4 + 1) else some (.inr false)) else f_X12_isOpen_l35 v1 v2 v3 h n (v4 + 1)) (fun j12 => if (hia h 203 (cl (f_X12_at v1 v4))) = (hia h 203 (cl (f_X12_at v1 v2))) then j12 true else gd (ib (f_X12_at v1 v4) 320 = true) (gd (ib (f_X12_at v1 (v2 + 1)) 320 = true) (if (hia h 203 (cl (f_X12_at v1 v4))) = (hia h 203 (cl (f_X12_at v1 (v2 + 1)))) then j12 true else j12 false))))))
def f_X12_isOpen (v1 : Int32) (v2 : Int32) (h : AH) : Option (Bool) := gd (ib v1 8 = true) (if (v2 + 1) < (hia h 196 (cl v1)) then bnd (f_X12_turnsLow v1 v2 h) (fun q3 => bnd (f_X12_turnsLow v1 (v2 + 1) h) (fun q4 => bnd (f_X12_isOpen_l35 v1 v2 (f_J9_min_7cf53 q3 q4) h FU 0) (fun q20 => Sum.elim (fun xq20 => some true) (fun xq20 => some xq20) q20))) else some false)
set_option maxRecDepth 20000 in
theorem cl_X12_isOpen_35 (G : GG) (K : KQ) (v1 : Int32) (v2 : Int32) (v3 : Int32)  : ∀ (n : Nat) (v4 : Int32) (h : AH) (r : (Unit) ⊕ (Bool)), f_X12_isOpen_l35 v1 v2 v3 h n v4 = some r → (∀ x, r = .inl x → J G mX12_isOpen 5 0 0 K 144 [] [] h) → (∀ x, r = .inr x → K = KMi G (bI x) h) → J G mX12_isOpen 5 0 0 K 35 [(0, .ref (ad G 193)), (1, .int v1), (2, .int v2), (3, .int v3), (4, .int v4)] [] h := by
  intro n
  induction n with
  | zero => intro v4 h r hL; cases hL
  | succ n ih =>
    intro v4 h r hL kE kR
    unfold f_X12_isOpen_l35 at hL
    refine j_iload 4 dX12_isOpen_35 rfl ?_
    refine j_aload_n 0 dX12_isOpen_37 rfl ?_
    refine jg_RX12_32 rfl sh_193 dX12_isOpen_38 ?_
    refine j_iload_n 1 dX12_isOpen_41 rfl ?_
    obtain ⟨g5, hL⟩ := gd_ex hL
    refine j_iald (shf_12_3 sh_193) (ib_in g5) dX12_isOpen_42 ?_
    refine j_icmp_ge 144 dX12_isOpen_43 (by decide) (fun z6 => ?_) (fun z6 => ?_)
    · replace hL := (if_pos z6).symm.trans hL
      cases hL
      refine j_sub [] rfl ?_
      exact kE _ rfl
    · replace hL := (if_neg z6).symm.trans hL
      refine j_iload 4 dX12_isOpen_46 rfl ?_
      refine j_iload_n 2 dX12_isOpen_48 rfl ?_
      refine j_icmp_eq 138 dX12_isOpen_49 (by decide) (fun z7 => ?_) (fun z7 => ?_)
      · replace hL := (if_pos z7).symm.trans hL
        refine j_iinc (lv' := [(4, .int (v4 + 1)), (0, .ref (ad G 193)), (1, .int v1), (2, .int v2), (3, .int v3)]) 4 dX12_isOpen_138 rfl rfl (by decide) rfl ?_
        refine j_goto 35 dX12_isOpen_141 (by decide) ?_
        refine j_sub [1, 2, 3, 4, 0] rfl ?_
        exact ih (v4 + 1) h r hL kE kR
      · replace hL := (if_neg z7).symm.trans hL
        refine j_iload 4 dX12_isOpen_52 rfl ?_
        refine j_iload_n 2 dX12_isOpen_54 rfl ?_
        refine j_iconst 1 dX12_isOpen_55 (by decide) ?_
        refine j_iadd dX12_isOpen_56 ?_
        refine j_icmp_ne 63 dX12_isOpen_57 (by decide) (fun z8 => ?_) (fun z8 => ?_)
        · replace hL := (if_neg z8).symm.trans hL
          refine j_aload_n 0 dX12_isOpen_63 rfl ?_
          refine jg_RX12_53 rfl sh_193 dX12_isOpen_64 ?_
          refine j_iload_n 1 dX12_isOpen_67 rfl ?_
          refine j_iload 4 dX12_isOpen_68 rfl ?_
          refine j_callSi (c_X12_at G v1 v4 h) cv_RX12_244 rfl (by decide) rfl rfl (Nat.le_of_ble_eq_true rfl) dX12_isOpen_70 (by decide) ?_
          obtain ⟨g9, hL⟩ := gd_ex hL
          refine j_iald (shf_12_10 sh_193) (ib_in g9) dX12_isOpen_73 ?_
          refine j_aload_n 0 dX12_isOpen_74 rfl ?_
          refine jg_RX12_53 rfl sh_193 dX12_isOpen_75 ?_
          refine j_iload_n 1 dX12_isOpen_78 rfl ?_
          refine j_iload_n 2 dX12_isOpen_79 rfl ?_
          refine j_callSi (c_X12_at G v1 v2 h) cv_RX12_244 rfl (by decide) rfl rfl (Nat.le_of_ble_eq_true rfl) dX12_isOpen_80 (by decide) ?_
          obtain ⟨g10, hL⟩ := gd_ex hL
          refine j_iald (shf_12_10 sh_193) (ib_in g10) dX12_isOpen_83 ?_
          obtain ⟨j12, ej12, hL⟩ := lt_ex hL
          have kj12 : ∀ (x16 : Bool), j12 x16 = some r → J G mX12_isOpen 5 0 0 K 118 [(0, .ref (ad G 193)), (1, .int v1), (2, .int v2), (3, .int v3), (4, .int v4)] [.int (bI x16)] h := by
            intro x16 hL
            rw [ej12] at hL
            replace hL : (if x16 = true then bnd (f_X12_turnsHigh v1 v4 h) (fun q18 => if q18 < v3 then f_X12_isOpen_l35 v1 v2 v3 h n (v4 + 1) else some (.inr false)) else f_X12_isOpen_l35 v1 v2 v3 h n (v4 + 1)) = some r := hL
            refine j_istore (lv' := [(5, .int (bI x16)), (0, .ref (ad G 193)), (1, .int v1), (2, .int v2), (3, .int v3), (4, .int v4)]) dX12_isOpen_118 (by decide) rfl ?_
            refine j_iload 0 dX12_isOpen_120 rfl ?_
            refine j_ifz_eq 138 dX12_isOpen_122 (by decide) (fun z17 => ?_) (fun z17 => ?_)
            · replace hL := (if_neg z17).symm.trans hL
              refine j_iinc (lv' := [(4, .int (v4 + 1)), (5, .int (bI x16)), (0, .ref (ad G 193)), (1, .int v1), (2, .int v2), (3, .int v3)]) 5 dX12_isOpen_138 rfl rfl (by decide) rfl ?_
              refine j_goto 35 dX12_isOpen_141 (by decide) ?_
              refine j_sub [2, 3, 4, 5, 0] rfl ?_
              exact ih (v4 + 1) h r hL kE kR
            · replace hL := (if_pos z17).symm.trans hL
              refine j_aload_n 1 dX12_isOpen_125 rfl ?_
              refine j_iload_n 2 dX12_isOpen_126 rfl ?_
              refine j_iload 5 dX12_isOpen_127 rfl ?_
              obtain ⟨q18, hq18, hL⟩ := bnd_ex hL
              refine j_callVi (c_X12_turnsHigh G v1 v4 h _ hq18) cv_RX12_354 rfl sh_193 (by decide) rfl (by decide) rfl rfl (Nat.le_of_ble_eq_true rfl) dX12_isOpen_129 (by decide) ?_
              refine j_iload_n 4 dX12_isOpen_132 rfl ?_
              refine j_icmp_lt 138 dX12_isOpen_133 (by decide) (fun z19 => ?_) (fun z19 => ?_)
              · replace hL := (if_pos z19).symm.trans hL
                refine j_iinc (lv' := [(4, .int (v4 + 1)), (5, .int (bI x16)), (0, .ref (ad G 193)), (1, .int v1), (2, .int v2), (3, .int v3)]) 5 dX12_isOpen_138 rfl rfl (by decide) rfl ?_
                refine j_goto 35 dX12_isOpen_141 (by decide) ?_
                refine j_sub [2, 3, 4, 5, 0] rfl ?_
                exact ih (v4 + 1) h r hL kE kR
              · replace hL := (if_neg z19).symm.trans hL
                refine j_iconst 0 dX12_isOpen_136 (by decide) ?_
                cases hL
                exact j_ret0 dX12_isOpen_137 rfl (kR _ rfl)
          refine j_icmp_eq 113 dX12_isOpen_84 (by decide) (fun z11 => ?_) (fun z11 => ?_)
          · replace hL := (if_pos z11).symm.trans hL
            refine j_iconst 1 dX12_isOpen_113 (by decide) ?_
            refine j_goto 118 dX12_isOpen_114 (by decide) ?_
            refine j_sub [0, 1, 2, 3, 4] rfl ?_
            exact kj12 true hL
          · replace hL := (if_neg z11).symm.trans hL
            refine j_aload_n 0 dX12_isOpen_87 rfl ?_
            refine jg_RX12_53 rfl sh_193 dX12_isOpen_88 ?_
            refine j_iload_n 1 dX12_isOpen_91 rfl ?_
            refine j_iload 4 dX12_isOpen_92 rfl ?_
            refine j_callSi (c_X12_at G v1 v4 h) cv_RX12_244 rfl (by decide) rfl rfl (Nat.le_of_ble_eq_true rfl) dX12_isOpen_94 (by decide) ?_
            obtain ⟨g13, hL⟩ := gd_ex hL
            refine j_iald (shf_12_10 sh_193) (ib_in g13) dX12_isOpen_97 ?_
            refine j_aload_n 0 dX12_isOpen_98 rfl ?_
            refine jg_RX12_53 rfl sh_193 dX12_isOpen_99 ?_
            refine j_iload_n 1 dX12_isOpen_102 rfl ?_
            refine j_iload_n 2 dX12_isOpen_103 rfl ?_
            refine j_iconst 1 dX12_isOpen_104 (by decide) ?_
            refine j_iadd dX12_isOpen_105 ?_
            refine j_callSi (c_X12_at G v1 (v2 + 1) h) cv_RX12_244 rfl (by decide) rfl rfl (Nat.le_of_ble_eq_true rfl) dX12_isOpen_106 (by decide) ?_
            obtain ⟨g14, hL⟩ := gd_ex hL
            refine j_iald (shf_12_10 sh_193) (ib_in g14) dX12_isOpen_109 ?_
            refine j_icmp_ne 117 dX12_isOpen_110 (by decide) (fun z15 => ?_) (fun z15 => ?_)
            · replace hL := (if_neg z15).symm.trans hL
              refine j_iconst 0 dX12_isOpen_117 (by decide) ?_
              refine j_sub [0, 1, 2, 3, 4] rfl ?_
              exact kj12 false hL
            · replace hL := (if_pos z15).symm.trans hL
              refine j_iconst 1 dX12_isOpen_113 (by decide) ?_
              refine j_goto 118 dX12_isOpen_114 (by decide) ?_
              refine j_sub [0, 1, 2, 3, 4] rfl ?_
              exact kj12 true hL
        · replace hL := (if_pos z8).symm.trans hL
          refine j_goto 138 dX12_isOpen_60 (by decide) ?_
          refine j_iinc (lv' := [(4, .int (v4 + 1)), (0, .ref (ad G 193)), (1, .int v1), (2, .int v2), (3, .int v3)]) 4 dX12_isOpen_138 rfl rfl (by decide) rfl ?_
          refine j_goto 35 dX12_isOpen_141 (by decide) ?_
          refine j_sub [1, 2, 3, 4, 0] rfl ?_
          exact ih (v4 + 1) h r hL kE kR

set_option maxRecDepth 20000 in
theorem c_X12_isOpen (G : GG) (v1 : Int32) (v2 : Int32) (h : AH) (r : Bool) (hL : f_X12_isOpen v1 v2 h = some r) : SpI G 5 mX12_isOpen [.ref (ad G 193), .int v1, .int v2] h (bI r) h := by
  refine sp_i pf_X12_isOpen (Nat.le_of_ble_eq_true rfl) ?_
  show J G mX12_isOpen 5 0 0 (KMi G (bI r) h) 0 [(0, .ref (ad G 193)), (1, .int v1), (2, .int v2)] [] h
  obtain ⟨K, hK⟩ : ∃ K, K = KMi G (bI r) h := ⟨_, rfl⟩
  rw [← hK]
  unfold f_X12_isOpen at hL
  refine j_iload_n 2 dX12_isOpen_0 rfl ?_
  refine j_iconst 1 dX12_isOpen_1 (by decide) ?_
  refine j_iadd dX12_isOpen_2 ?_
  refine j_aload_n 0 dX12_isOpen_3 rfl ?_
  refine jg_RX12_32 rfl sh_193 dX12_isOpen_4 ?_
  refine j_iload_n 1 dX12_isOpen_7 rfl ?_
  obtain ⟨g1, hL⟩ := gd_ex hL
  refine j_iald (shf_12_3 sh_193) (ib_in g1) dX12_isOpen_8 ?_
  refine j_icmp_lt 14 dX12_isOpen_9 (by decide) (fun z2 => ?_) (fun z2 => ?_)
  · replace hL := (if_pos z2).symm.trans hL
    refine j_aload_n 0 dX12_isOpen_14 rfl ?_
    refine j_iload_n 1 dX12_isOpen_15 rfl ?_
    refine j_iload_n 2 dX12_isOpen_16 rfl ?_
    obtain ⟨q3, hq3, hL⟩ := bnd_ex hL
    refine j_callVi (c_X12_turnsLow G v1 v2 h _ hq3) cv_RX12_351 rfl sh_193 (by decide) rfl (by decide) rfl rfl (Nat.le_of_ble_eq_true rfl) dX12_isOpen_17 (by decide) ?_
    refine j_aload_n 0 dX12_isOpen_20 rfl ?_
    refine j_iload_n 1 dX12_isOpen_21 rfl ?_
    refine j_iload_n 2 dX12_isOpen_22 rfl ?_
    refine j_iconst 1 dX12_isOpen_23 (by decide) ?_
    refine j_iadd dX12_isOpen_24 ?_
    obtain ⟨q4, hq4, hL⟩ := bnd_ex hL
    refine j_callVi (c_X12_turnsLow G v1 (v2 + 1) h _ hq4) cv_RX12_351 rfl sh_193 (by decide) rfl (by decide) rfl rfl (Nat.le_of_ble_eq_true rfl) dX12_isOpen_25 (by decide) ?_
    refine j_callSi (c_J9_min_7cf53 G q3 q4 h) cv_RX12_198 rfl (by decide) rfl rfl (Nat.le_of_ble_eq_true rfl) dX12_isOpen_28 (by decide) ?_
    refine j_istore_n (lv' := [(3, .int (f_J9_min_7cf53 q3 q4)), (0, .ref (ad G 193)), (1, .int v1), (2, .int v2)]) dX12_isOpen_31 (by decide) rfl ?_
    refine j_iconst 0 dX12_isOpen_32 (by decide) ?_
    refine j_istore (lv' := [(4, .int 0), (3, .int (f_J9_min_7cf53 q3 q4)), (0, .ref (ad G 193)), (1, .int v1), (2, .int v2)]) dX12_isOpen_33 (by decide) rfl ?_
    obtain ⟨q20, hq20, hL⟩ := bnd_ex hL
    refine j_sub [2, 3, 4, 1, 0] rfl ?_
    refine cl_X12_isOpen_35 G K v1 v2 (f_J9_min_7cf53 q3 q4) FU 0 h q20 hq20 (fun xq20 eq20 => ?_) (fun xq20 eq20 => ?_)
    · subst eq20
      refine j_iconst 1 dX12_isOpen_144 (by decide) ?_
      cases hL
      exact j_ret1 dX12_isOpen_145 rfl hK
    · subst eq20
      cases hL
      exact hK
  · replace hL := (if_neg z2).symm.trans hL
    refine j_iconst 0 dX12_isOpen_12 (by decide) ?_
    cases hL
    exact j_ret0 dX12_isOpen_13 rfl hK

def f_X12_falls_l29 (v1 : Int32) (v2 : Int32) (h : AH) : Nat → Int32 → Int32 → Option ((Int32) ⊕ (Int32 × AH))
  | 0, _, _ => none
  | n + 1, v3, v4 => gd (ib v1 8 = true) (if (hia h 196 (cl v1)) ≤ v4 then some (.inl v3) else bnd (f_X12_isOpen v1 v4 h) (fun q8 => if q8 = true then if v3 = v2 then some (.inr (v4, h)) else f_X12_falls_l29 v1 v2 h n (v3 + 1) (v4 + 1) else f_X12_falls_l29 v1 v2 h n v3 (v4 + 1)))
def f_X12_falls (v1 : Int32) (v2 : Int32) (h : AH) : Option (Int32 × AH) := lt (sfi h 193 2 0) (fun h1 => bnd (f_X12_isAsked v1 h1) (fun q2 => if q2 = true then if (-1) ≤ v2 then bnd (f_X12_falls_l29 v1 v2 h1 FU 0 0) (fun q11 => Sum.elim (fun xq11 => if v2 = (-1) then some (xq11, h1) else bnd (f_X12_fail 1 h1) (fun q13 => some (q13.1, q13.2))) (fun xq11 => some xq11) q11) else bnd (f_X12_fail 1 h1) (fun q14 => some (q14.1, q14.2)) else bnd (f_X12_fail 1 h1) (fun q4 => some (q4.1, q4.2))))
set_option maxRecDepth 20000 in
theorem cl_X12_falls_29 (G : GG) (K : KQ) (v1 : Int32) (v2 : Int32)  : ∀ (n : Nat) (v3 : Int32) (v4 : Int32) (h : AH) (r : (Int32) ⊕ (Int32 × AH)), f_X12_falls_l29 v1 v2 h n v3 v4 = some r → (∀ x, r = .inl x → J G mX12_falls 6 0 0 K 70 [(0, .ref (ad G 193)), (2, .int v2), (3, .int x)] [] h) → (∀ x, r = .inr x → K = KMi G x.1 x.2) → J G mX12_falls 6 0 0 K 29 [(0, .ref (ad G 193)), (1, .int v1), (2, .int v2), (3, .int v3), (4, .int v4)] [] h := by
  intro n
  induction n with
  | zero => intro v3 v4 h r hL; cases hL
  | succ n ih =>
    intro v3 v4 h r hL kE kR
    unfold f_X12_falls_l29 at hL
    refine j_iload 4 dX12_falls_29 rfl ?_
    refine j_aload_n 0 dX12_falls_31 rfl ?_
    refine jg_RX12_32 rfl sh_193 dX12_falls_32 ?_
    refine j_iload_n 1 dX12_falls_35 rfl ?_
    obtain ⟨g6, hL⟩ := gd_ex hL
    refine j_iald (shf_12_3 sh_193) (ib_in g6) dX12_falls_36 ?_
    refine j_icmp_ge 70 dX12_falls_37 (by decide) (fun z7 => ?_) (fun z7 => ?_)
    · replace hL := (if_pos z7).symm.trans hL
      cases hL
      refine j_sub [0, 2, 3] rfl ?_
      exact kE _ rfl
    · replace hL := (if_neg z7).symm.trans hL
      refine j_aload_n 0 dX12_falls_40 rfl ?_
      refine j_iload_n 1 dX12_falls_41 rfl ?_
      refine j_iload 4 dX12_falls_42 rfl ?_
      obtain ⟨q8, hq8, hL⟩ := bnd_ex hL
      refine j_callVi (c_X12_isOpen G v1 v4 h _ hq8) cv_RX12_439 rfl sh_193 (by decide) rfl (by decide) rfl rfl (Nat.le_of_ble_eq_true rfl) dX12_falls_44 (by decide) ?_
      refine j_ifz_ne 53 dX12_falls_47 (by decide) (fun z9 => ?_) (fun z9 => ?_)
      · replace hL := (if_pos z9).symm.trans hL
        refine j_iload_n 3 dX12_falls_53 rfl ?_
        refine j_iload_n 2 dX12_falls_54 rfl ?_
        refine j_icmp_ne 61 dX12_falls_55 (by decide) (fun z10 => ?_) (fun z10 => ?_)
        · replace hL := (if_neg z10).symm.trans hL
          refine j_iinc (lv' := [(3, .int (v3 + 1)), (0, .ref (ad G 193)), (1, .int v1), (2, .int v2), (4, .int v4)]) 3 dX12_falls_61 rfl rfl (by decide) rfl ?_
          refine j_iinc (lv' := [(4, .int (v4 + 1)), (3, .int (v3 + 1)), (0, .ref (ad G 193)), (1, .int v1), (2, .int v2)]) 4 dX12_falls_64 rfl rfl (by decide) rfl ?_
          refine j_goto 29 dX12_falls_67 (by decide) ?_
          refine j_sub [2, 3, 4, 1, 0] rfl ?_
          exact ih (v3 + 1) (v4 + 1) h r hL kE kR
        · replace hL := (if_pos z10).symm.trans hL
          refine j_iload 4 dX12_falls_58 rfl ?_
          cases hL
          exact j_reti dX12_falls_60 rfl (kR _ rfl)
      · replace hL := (if_neg z9).symm.trans hL
        refine j_goto 64 dX12_falls_50 (by decide) ?_
        refine j_iinc (lv' := [(4, .int (v4 + 1)), (0, .ref (ad G 193)), (1, .int v1), (2, .int v2), (3, .int v3)]) 4 dX12_falls_64 rfl rfl (by decide) rfl ?_
        refine j_goto 29 dX12_falls_67 (by decide) ?_
        refine j_sub [1, 2, 3, 4, 0] rfl ?_
        exact ih v3 (v4 + 1) h r hL kE kR

set_option maxRecDepth 20000 in
theorem c_X12_falls (G : GG) (v1 : Int32) (v2 : Int32) (h : AH) (r : Int32 × AH) (hL : f_X12_falls v1 v2 h = some r) : SpI G 6 mX12_falls [.ref (ad G 193), .int v1, .int v2] h r.1 r.2 := by
  refine sp_i pf_X12_falls (Nat.le_of_ble_eq_true rfl) ?_
  show J G mX12_falls 6 0 0 (KMi G r.1 r.2) 0 [(0, .ref (ad G 193)), (1, .int v1), (2, .int v2)] [] h
  obtain ⟨K, hK⟩ : ∃ K, K = KMi G r.1 r.2 := ⟨_, rfl⟩
  rw [← hK]
  unfold f_X12_falls at hL
  refine j_aload_n 0 dX12_falls_0 rfl ?_
  refine j_iconst 0 dX12_falls_1 (by decide) ?_
  refine jp_RX12_158 rfl sh_193 dX12_falls_2 ?_
  obtain ⟨h1, eh1, hL⟩ := lt_ex hL
  refine j_heap eh1 ?_
  refine j_aload_n 0 dX12_falls_5 rfl ?_
  refine j_iload_n 1 dX12_falls_6 rfl ?_
  obtain ⟨q2, hq2, hL⟩ := bnd_ex hL
  refine j_callVi (c_X12_isAsked G v1 h1 _ hq2) cv_RX12_371 rfl sh_193 (by decide) rfl (by decide) rfl rfl (Nat.le_of_ble_eq_true rfl) dX12_falls_7 (by decide) ?_
  refine j_ifz_eq 18 dX12_falls_10 (by decide) (fun z3 => ?_) (fun z3 => ?_)
  · replace hL := (if_neg z3).symm.trans hL
    refine j_aload_n 0 dX12_falls_18 rfl ?_
    refine j_iconst 1 dX12_falls_19 (by decide) ?_
    obtain ⟨q4, hq4, hL⟩ := bnd_ex hL
    refine j_callVi (c_X12_fail G 1 h1 _ hq4) cv_RX12_263 rfl sh_193 (by decide) rfl (by decide) rfl rfl (Nat.le_of_ble_eq_true rfl) dX12_falls_20 (by decide) ?_
    cases hL
    exact j_reti dX12_falls_23 rfl hK
  · replace hL := (if_pos z3).symm.trans hL
    refine j_iload_n 2 dX12_falls_13 rfl ?_
    refine j_iconst (-1) dX12_falls_14 (by decide) ?_
    refine j_icmp_ge 24 dX12_falls_15 (by decide) (fun z5 => ?_) (fun z5 => ?_)
    · replace hL := (if_pos z5).symm.trans hL
      refine j_iconst 0 dX12_falls_24 (by decide) ?_
      refine j_istore_n (lv' := [(3, .int 0), (0, .ref (ad G 193)), (1, .int v1), (2, .int v2)]) dX12_falls_25 (by decide) rfl ?_
      refine j_iconst 0 dX12_falls_26 (by decide) ?_
      refine j_istore (lv' := [(4, .int 0), (3, .int 0), (0, .ref (ad G 193)), (1, .int v1), (2, .int v2)]) dX12_falls_27 (by decide) rfl ?_
      obtain ⟨q11, hq11, hL⟩ := bnd_ex hL
      refine j_sub [2, 3, 4, 1, 0] rfl ?_
      refine cl_X12_falls_29 G K v1 v2 FU 0 0 h1 q11 hq11 (fun xq11 eq11 => ?_) (fun xq11 eq11 => ?_)
      · subst eq11
        refine j_iload_n 1 dX12_falls_70 rfl ?_
        refine j_iconst (-1) dX12_falls_71 (by decide) ?_
        refine j_icmp_ne 79 dX12_falls_72 (by decide) (fun z12 => ?_) (fun z12 => ?_)
        · replace hL := (if_neg z12).symm.trans hL
          refine j_aload_n 0 dX12_falls_79 rfl ?_
          refine j_iconst 1 dX12_falls_80 (by decide) ?_
          obtain ⟨q13, hq13, hL⟩ := bnd_ex hL
          refine j_callVi (c_X12_fail G 1 h1 _ hq13) cv_RX12_263 rfl sh_193 (by decide) rfl (by decide) rfl rfl (Nat.le_of_ble_eq_true rfl) dX12_falls_81 (by decide) ?_
          cases hL
          exact j_reti dX12_falls_84 rfl hK
        · replace hL := (if_pos z12).symm.trans hL
          refine j_iload_n 2 dX12_falls_75 rfl ?_
          refine j_goto 84 dX12_falls_76 (by decide) ?_
          cases hL
          exact j_reti dX12_falls_84 rfl hK
      · subst eq11
        cases hL
        exact hK
    · replace hL := (if_neg z5).symm.trans hL
      refine j_aload_n 0 dX12_falls_18 rfl ?_
      refine j_iconst 1 dX12_falls_19 (by decide) ?_
      obtain ⟨q14, hq14, hL⟩ := bnd_ex hL
      refine j_callVi (c_X12_fail G 1 h1 _ hq14) cv_RX12_263 rfl sh_193 (by decide) rfl (by decide) rfl rfl (Nat.le_of_ble_eq_true rfl) dX12_falls_20 (by decide) ?_
      cases hL
      exact j_reti dX12_falls_23 rfl hK

