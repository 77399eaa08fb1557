def f_X12_reader (v1 : Int32) (v2 : Int32) (v3 : Int32) (v4 : Int32) (h : AH) : Option (Int32 × AH) := lt (sfi h 193 2 0) (fun h1 => if (f_X12_isBook v1) = true then if (f_X12_isWay v2) = true then gd (ib v1 8 = true) (if (hia h1 200 (cl v1)) = 8 then gd (ib 2 4 = true) (gd (ib 2 4 = true) (lt (sia h1 218 (cl 2) ((hia h1 218 (cl 2)) + 1)) (fun h9 => some ((-1), h9)))) else if v3 < 0 then gd (ib 2 4 = true) (gd (ib 2 4 = true) (lt (sia h1 218 (cl 2) ((hia h1 218 (cl 2)) + 1)) (fun h13 => some ((-1), h13)))) else if 500 < v4 then gd (ib 2 4 = true) (gd (ib 2 4 = true) (lt (sia h1 218 (cl 2) ((hia h1 218 (cl 2)) + 1)) (fun h17 => some ((-1), h17)))) else if v3 ≤ v4 then gd (ib v1 8 = true) (gd (ib ((8 * v1) + (hia h1 200 (cl v1))) 64 = true) (lt (sia h1 212 (cl ((8 * v1) + (hia h1 200 (cl v1)))) v2) (fun h21 => gd (ib ((8 * v1) + (hia h1 200 (cl v1))) 64 = true) (lt (sia h21 213 (cl ((8 * v1) + (hia h1 200 (cl v1)))) v3) (fun h23 => gd (ib ((8 * v1) + (hia h1 200 (cl v1))) 64 = true) (lt (sia h23 214 (cl ((8 * v1) + (hia h1 200 (cl v1)))) v4) (fun h25 => gd (ib v1 8 = true) (gd (ib v1 8 = true) (lt (sia h25 200 (cl v1) ((hia h25 200 (cl v1)) + 1)) (fun h28 => gd (ib v1 8 = true) (some (hia h28 200 (cl v1), h28)))))))))))) else gd (ib 2 4 = true) (gd (ib 2 4 = true) (lt (sia h1 218 (cl 2) ((hia h1 218 (cl 2)) + 1)) (fun h32 => some ((-1), h32))))) else bnd (f_X12_fail 1 h1) (fun q33 => some (q33.1, q33.2)) else bnd (f_X12_fail 1 h1) (fun q3 => some (q3.1, q3.2)))
set_option maxRecDepth 20000 in
theorem c_X12_reader (G : GG) (v1 : Int32) (v2 : Int32) (v3 : Int32) (v4 : Int32) (h : AH) (r : Int32 × AH) (hL : f_X12_reader v1 v2 v3 v4 h = some r) : SpI G 3 mX12_reader [.ref (ad G 193), .int v1, .int v2, .int v3, .int v4] h r.1 r.2 := by
  refine sp_i pf_X12_reader (Nat.le_of_ble_eq_true rfl) ?_
  show J G mX12_reader 3 0 0 (KMi G r.1 r.2) 0 [(0, .ref (ad G 193)), (1, .int v1), (2, .int v2), (3, .int v3), (4, .int v4)] [] h
  obtain ⟨K, hK⟩ : ∃ K, K = KMi G r.1 r.2 := ⟨_, rfl⟩
  rw [← hK]
  unfold f_X12_reader at hL
  refine j_aload_n 0 dX12_reader_0 rfl ?_
  refine j_iconst 0 dX12_reader_1 (by decide) ?_
  refine jp_RX12_158 rfl sh_193 dX12_reader_2 ?_
  obtain ⟨h1, eh1, hL⟩ := lt_ex hL
  refine j_heap eh1 ?_
  refine j_iload_n 1 dX12_reader_5 rfl ?_
  refine j_callSi (c_X12_isBook G v1 h1) cv_RX12_165 rfl (by decide) rfl rfl (Nat.le_of_ble_eq_true rfl) dX12_reader_6 (by decide) ?_
  refine j_ifz_eq 19 dX12_reader_9 (by decide) (fun z2 => ?_) (fun z2 => ?_)
  · replace hL := (if_neg z2).symm.trans hL
    refine j_aload_n 0 dX12_reader_19 rfl ?_
    refine j_iconst 1 dX12_reader_20 (by decide) ?_
    obtain ⟨q3, hq3, hL⟩ := bnd_ex hL
    refine j_callVi (c_X12_fail G 1 h1 _ hq3) cv_RX12_263 rfl sh_193 (by decide) rfl (by decide) rfl rfl (Nat.le_of_ble_eq_true rfl) dX12_reader_21 (by decide) ?_
    cases hL
    exact j_reti dX12_reader_24 rfl hK
  · replace hL := (if_pos z2).symm.trans hL
    refine j_iload_n 2 dX12_reader_12 rfl ?_
    refine j_callSi (c_X12_isWay G v2 h1) cv_RX12_279 rfl (by decide) rfl rfl (Nat.le_of_ble_eq_true rfl) dX12_reader_13 (by decide) ?_
    refine j_ifz_ne 25 dX12_reader_16 (by decide) (fun z4 => ?_) (fun z4 => ?_)
    · replace hL := (if_pos z4).symm.trans hL
      refine j_aload_n 0 dX12_reader_25 rfl ?_
      refine jg_RX12_44 rfl sh_193 dX12_reader_26 ?_
      refine j_iload_n 1 dX12_reader_29 rfl ?_
      obtain ⟨g5, hL⟩ := gd_ex hL
      refine j_iald (shf_12_7 sh_193) (ib_in g5) dX12_reader_30 ?_
      refine j_bipush 8 dX12_reader_31 (by decide) ?_
      refine j_icmp_eq 54 dX12_reader_33 (by decide) (fun z6 => ?_) (fun z6 => ?_)
      · replace hL := (if_pos z6).symm.trans hL
        refine j_aload_n 0 dX12_reader_54 rfl ?_
        refine jg_RX12_96 rfl sh_193 dX12_reader_55 ?_
        refine j_iconst 2 dX12_reader_58 (by decide) ?_
        refine j_dup2 dX12_reader_59 rfl rfl ?_
        obtain ⟨g7, hL⟩ := gd_ex hL
        refine j_iald (shf_12_25 sh_193) (ib_in g7) dX12_reader_60 ?_
        refine j_iconst 1 dX12_reader_61 (by decide) ?_
        refine j_iadd dX12_reader_62 ?_
        obtain ⟨g8, hL⟩ := gd_ex hL
        refine j_iast (shf_12_25 sh_193) (ib_in g8) dX12_reader_63 ?_
        obtain ⟨h9, eh9, hL⟩ := lt_ex hL
        refine j_heap eh9 ?_
        refine j_iconst (-1) dX12_reader_64 (by decide) ?_
        cases hL
        exact j_reti dX12_reader_65 rfl hK
      · replace hL := (if_neg z6).symm.trans hL
        refine j_iload_n 3 dX12_reader_36 rfl ?_
        refine j_if_lt 54 dX12_reader_37 (by decide) (fun z10 => ?_) (fun z10 => ?_)
        · replace hL := (if_pos z10).symm.trans hL
          refine j_aload_n 0 dX12_reader_54 rfl ?_
          refine jg_RX12_96 rfl sh_193 dX12_reader_55 ?_
          refine j_iconst 2 dX12_reader_58 (by decide) ?_
          refine j_dup2 dX12_reader_59 rfl rfl ?_
          obtain ⟨g11, hL⟩ := gd_ex hL
          refine j_iald (shf_12_25 sh_193) (ib_in g11) dX12_reader_60 ?_
          refine j_iconst 1 dX12_reader_61 (by decide) ?_
          refine j_iadd dX12_reader_62 ?_
          obtain ⟨g12, hL⟩ := gd_ex hL
          refine j_iast (shf_12_25 sh_193) (ib_in g12) dX12_reader_63 ?_
          obtain ⟨h13, eh13, hL⟩ := lt_ex hL
          refine j_heap eh13 ?_
          refine j_iconst (-1) dX12_reader_64 (by decide) ?_
          cases hL
          exact j_reti dX12_reader_65 rfl hK
        · replace hL := (if_neg z10).symm.trans hL
          refine j_iload 4 dX12_reader_40 rfl ?_
          refine j_sipush 500 dX12_reader_42 (by decide) ?_
          refine j_icmp_gt 54 dX12_reader_45 (by decide) (fun z14 => ?_) (fun z14 => ?_)
          · replace hL := (if_pos z14).symm.trans hL
            refine j_aload_n 0 dX12_reader_54 rfl ?_
            refine jg_RX12_96 rfl sh_193 dX12_reader_55 ?_
            refine j_iconst 2 dX12_reader_58 (by decide) ?_
            refine j_dup2 dX12_reader_59 rfl rfl ?_
            obtain ⟨g15, hL⟩ := gd_ex hL
            refine j_iald (shf_12_25 sh_193) (ib_in g15) dX12_reader_60 ?_
            refine j_iconst 1 dX12_reader_61 (by decide) ?_
            refine j_iadd dX12_reader_62 ?_
            obtain ⟨g16, hL⟩ := gd_ex hL
            refine j_iast (shf_12_25 sh_193) (ib_in g16) dX12_reader_63 ?_
            obtain ⟨h17, eh17, hL⟩ := lt_ex hL
            refine j_heap eh17 ?_
            refine j_iconst (-1) dX12_reader_64 (by decide) ?_
            cases hL
            exact j_reti dX12_reader_65 rfl hK
          · replace hL := (if_neg z14).symm.trans hL
            refine j_iload_n 3 dX12_reader_48 rfl ?_
            refine j_iload 4 dX12_reader_49 rfl ?_
            refine j_icmp_le 66 dX12_reader_51 (by decide) (fun z18 => ?_) (fun z18 => ?_)
            · replace hL := (if_pos z18).symm.trans hL
              refine j_bipush 8 dX12_reader_66 (by decide) ?_
              refine j_iload_n 1 dX12_reader_68 rfl ?_
              refine j_imul dX12_reader_69 ?_
              refine j_aload_n 0 dX12_reader_70 rfl ?_
              refine jg_RX12_44 rfl sh_193 dX12_reader_71 ?_
              refine j_iload_n 1 dX12_reader_74 rfl ?_
              obtain ⟨g19, hL⟩ := gd_ex hL
              refine j_iald (shf_12_7 sh_193) (ib_in g19) dX12_reader_75 ?_
              refine j_iadd dX12_reader_76 ?_
              refine j_istore (lv' := [(5, .int ((8 * v1) + (hia h1 200 (cl v1)))), (0, .ref (ad G 193)), (1, .int v1), (2, .int v2), (3, .int v3), (4, .int v4)]) dX12_reader_77 (by decide) rfl ?_
              refine j_aload_n 1 dX12_reader_79 rfl ?_
              refine jg_RX12_78 rfl sh_193 dX12_reader_80 ?_
              refine j_iload 0 dX12_reader_83 rfl ?_
              refine j_iload_n 3 dX12_reader_85 rfl ?_
              obtain ⟨g20, hL⟩ := gd_ex hL
              refine j_iast (shf_12_19 sh_193) (ib_in g20) dX12_reader_86 ?_
              obtain ⟨h21, eh21, hL⟩ := lt_ex hL
              refine j_heap eh21 ?_
              refine j_aload_n 1 dX12_reader_87 rfl ?_
              refine jg_RX12_81 rfl sh_193 dX12_reader_88 ?_
              refine j_iload 0 dX12_reader_91 rfl ?_
              refine j_iload_n 4 dX12_reader_93 rfl ?_
              obtain ⟨g22, hL⟩ := gd_ex hL
              refine j_iast (shf_12_20 sh_193) (ib_in g22) dX12_reader_94 ?_
              obtain ⟨h23, eh23, hL⟩ := lt_ex hL
              refine j_heap eh23 ?_
              refine j_aload_n 1 dX12_reader_95 rfl ?_
              refine jg_RX12_84 rfl sh_193 dX12_reader_96 ?_
              refine j_iload 0 dX12_reader_99 rfl ?_
              refine j_iload 5 dX12_reader_101 rfl ?_
              obtain ⟨g24, hL⟩ := gd_ex hL
              refine j_iast (shf_12_21 sh_193) (ib_in g24) dX12_reader_103 ?_
              obtain ⟨h25, eh25, hL⟩ := lt_ex hL
              refine j_heap eh25 ?_
              refine j_aload_n 1 dX12_reader_104 rfl ?_
              refine jg_RX12_44 rfl sh_193 dX12_reader_105 ?_
              refine j_iload_n 2 dX12_reader_108 rfl ?_
              refine j_dup2 dX12_reader_109 rfl rfl ?_
              obtain ⟨g26, hL⟩ := gd_ex hL
              refine j_iald (shf_12_7 sh_193) (ib_in g26) dX12_reader_110 ?_
              refine j_iconst 1 dX12_reader_111 (by decide) ?_
              refine j_iadd dX12_reader_112 ?_
              obtain ⟨g27, hL⟩ := gd_ex hL
              refine j_iast (shf_12_7 sh_193) (ib_in g27) dX12_reader_113 ?_
              obtain ⟨h28, eh28, hL⟩ := lt_ex hL
              refine j_heap eh28 ?_
              refine j_aload_n 1 dX12_reader_114 rfl ?_
              refine jg_RX12_44 rfl sh_193 dX12_reader_115 ?_
              refine j_iload_n 2 dX12_reader_118 rfl ?_
              obtain ⟨g29, hL⟩ := gd_ex hL
              refine j_iald (shf_12_7 sh_193) (ib_in g29) dX12_reader_119 ?_
              cases hL
              exact j_reti dX12_reader_120 rfl hK
            · replace hL := (if_neg z18).symm.trans hL
              refine j_aload_n 0 dX12_reader_54 rfl ?_
              refine jg_RX12_96 rfl sh_193 dX12_reader_55 ?_
              refine j_iconst 2 dX12_reader_58 (by decide) ?_
              refine j_dup2 dX12_reader_59 rfl rfl ?_
              obtain ⟨g30, hL⟩ := gd_ex hL
              refine j_iald (shf_12_25 sh_193) (ib_in g30) dX12_reader_60 ?_
              refine j_iconst 1 dX12_reader_61 (by decide) ?_
              refine j_iadd dX12_reader_62 ?_
              obtain ⟨g31, hL⟩ := gd_ex hL
              refine j_iast (shf_12_25 sh_193) (ib_in g31) dX12_reader_63 ?_
              obtain ⟨h32, eh32, hL⟩ := lt_ex hL
              refine j_heap eh32 ?_
              refine j_iconst (-1) dX12_reader_64 (by decide) ?_
              cases hL
              exact j_reti dX12_reader_65 rfl hK
    · replace hL := (if_neg z4).symm.trans hL
      refine j_aload_n 0 dX12_reader_19 rfl ?_
      refine j_iconst 1 dX12_reader_20 (by decide) ?_
      obtain ⟨q33, hq33, hL⟩ := bnd_ex hL
      refine j_callVi (c_X12_fail G 1 h1 _ hq33) cv_RX12_263 rfl sh_193 (by decide) rfl (by decide) rfl rfl (Nat.le_of_ble_eq_true rfl) dX12_reader_21 (by decide) ?_
      cases hL
      exact j_reti dX12_reader_24 rfl hK

def f_X12_gone (v1 : Int32) (h : AH) : Option (Int32 × AH) := lt (sfi h 193 2 0) (fun h1 => if (f_X12_isBook v1) = true then gd (ib v1 8 = true) (if (hia h1 200 (cl v1)) = 0 then some ((-1), h1) else gd (ib v1 8 = true) (gd (ib v1 8 = true) (lt (sia h1 200 (cl v1) ((hia h1 200 (cl v1)) - 1)) (fun h7 => gd (ib v1 8 = true) (some (hia h7 200 (cl v1), h7)))))) else bnd (f_X12_fail 1 h1) (fun q9 => some (q9.1, q9.2)))
set_option maxRecDepth 20000 in
theorem c_X12_gone (G : GG) (v1 : Int32) (h : AH) (r : Int32 × AH) (hL : f_X12_gone v1 h = some r) : SpI G 3 mX12_gone [.ref (ad G 193), .int v1] h r.1 r.2 := by
  refine sp_i pf_X12_gone (Nat.le_of_ble_eq_true rfl) ?_
  show J G mX12_gone 3 0 0 (KMi G r.1 r.2) 0 [(0, .ref (ad G 193)), (1, .int v1)] [] h
  obtain ⟨K, hK⟩ : ∃ K, K = KMi G r.1 r.2 := ⟨_, rfl⟩
  rw [← hK]
  unfold f_X12_gone at hL
  refine j_aload_n 0 dX12_gone_0 rfl ?_
  refine j_iconst 0 dX12_gone_1 (by decide) ?_
  refine jp_RX12_158 rfl sh_193 dX12_gone_2 ?_
  obtain ⟨h1, eh1, hL⟩ := lt_ex hL
  refine j_heap eh1 ?_
  refine j_iload_n 1 dX12_gone_5 rfl ?_
  refine j_callSi (c_X12_isBook G v1 h1) cv_RX12_165 rfl (by decide) rfl rfl (Nat.le_of_ble_eq_true rfl) dX12_gone_6 (by decide) ?_
  refine j_ifz_ne 18 dX12_gone_9 (by decide) (fun z2 => ?_) (fun z2 => ?_)
  · replace hL := (if_pos z2).symm.trans hL
    refine j_aload_n 0 dX12_gone_18 rfl ?_
    refine jg_RX12_44 rfl sh_193 dX12_gone_19 ?_
    refine j_iload_n 1 dX12_gone_22 rfl ?_
    obtain ⟨g3, hL⟩ := gd_ex hL
    refine j_iald (shf_12_7 sh_193) (ib_in g3) dX12_gone_23 ?_
    refine j_if_ne 29 dX12_gone_24 (by decide) (fun z4 => ?_) (fun z4 => ?_)
    · replace hL := (if_neg z4).symm.trans hL
      refine j_aload_n 0 dX12_gone_29 rfl ?_
      refine jg_RX12_44 rfl sh_193 dX12_gone_30 ?_
      refine j_iload_n 1 dX12_gone_33 rfl ?_
      refine j_dup2 dX12_gone_34 rfl rfl ?_
      obtain ⟨g5, hL⟩ := gd_ex hL
      refine j_iald (shf_12_7 sh_193) (ib_in g5) dX12_gone_35 ?_
      refine j_iconst 1 dX12_gone_36 (by decide) ?_
      refine j_isub dX12_gone_37 ?_
      obtain ⟨g6, hL⟩ := gd_ex hL
      refine j_iast (shf_12_7 sh_193) (ib_in g6) dX12_gone_38 ?_
      obtain ⟨h7, eh7, hL⟩ := lt_ex hL
      refine j_heap eh7 ?_
      refine j_aload_n 0 dX12_gone_39 rfl ?_
      refine jg_RX12_44 rfl sh_193 dX12_gone_40 ?_
      refine j_iload_n 1 dX12_gone_43 rfl ?_
      obtain ⟨g8, hL⟩ := gd_ex hL
      refine j_iald (shf_12_7 sh_193) (ib_in g8) dX12_gone_44 ?_
      cases hL
      exact j_reti dX12_gone_45 rfl hK
    · replace hL := (if_pos z4).symm.trans hL
      refine j_iconst (-1) dX12_gone_27 (by decide) ?_
      cases hL
      exact j_reti dX12_gone_28 rfl hK
  · replace hL := (if_neg z2).symm.trans hL
    refine j_aload_n 0 dX12_gone_12 rfl ?_
    refine j_iconst 1 dX12_gone_13 (by decide) ?_
    obtain ⟨q9, hq9, hL⟩ := bnd_ex hL
    refine j_callVi (c_X12_fail G 1 h1 _ hq9) cv_RX12_263 rfl sh_193 (by decide) rfl (by decide) rfl rfl (Nat.le_of_ble_eq_true rfl) dX12_gone_14 (by decide) ?_
    cases hL
    exact j_reti dX12_gone_17 rfl hK

def f_X12_turningsIn_l16 (v1 : Int32) (v3 : Int32) (v4 : Int32) (h : AH) : Nat → Int32 → Int32 → Option (Int32)
  | 0, _, _ => none
  | n + 1, v5, v6 => gd (ib v1 8 = true) (if ((8 * v1) + (hia h 200 (cl v1))) ≤ v6 then some v5 else gd (ib v6 64 = true) (gd (ib v6 64 = true) (if (f_X12_isIn v3 (hia h 213 (cl v6)) (hia h 214 (cl v6))) = true then gd (ib v4 320 = true) (if v3 < (hia h 206 (cl v4)) then f_X12_turningsIn_l16 v1 v3 v4 h n v5 (v6 + 1) else gd (ib v6 64 = true) (gd (ib v4 320 = true) (gd (ib v4 320 = true) (bnd (f_X12_turningsOf (hia h 212 (cl v6)) (hia h 202 (cl v4)) (hia h 204 (cl v4)) h) (fun q11 => f_X12_turningsIn_l16 v1 v3 v4 h n (v5 + q11) (v6 + 1)))))) else f_X12_turningsIn_l16 v1 v3 v4 h n v5 (v6 + 1))))
def f_X12_turningsIn (v1 : Int32) (v2 : Int32) (v3 : Int32) (h : AH) : Option (Int32) := bnd (f_X12_turningsIn_l16 v1 v3 (f_X12_at v1 v2) h FU 0 (8 * v1)) (fun q12 => some q12)
set_option maxRecDepth 20000 in
theorem cl_X12_turningsIn_16 (G : GG) (K : KQ) (v1 : Int32) (v3 : Int32) (v4 : Int32)  : ∀ (n : Nat) (v5 : Int32) (v6 : Int32) (h : AH) (r : Int32), f_X12_turningsIn_l16 v1 v3 v4 h n v5 v6 = some r → J G mX12_turningsIn 3 0 0 K 100 [(5, .int r)] [] h → J G mX12_turningsIn 3 0 0 K 16 [(0, .ref (ad G 193)), (1, .int v1), (3, .int v3), (4, .int v4), (5, .int v5), (6, .int v6)] [] h := by
  intro n
  induction n with
  | zero => intro v5 v6 h r hL; cases hL
  | succ n ih =>
    intro v5 v6 h r hL kE
    unfold f_X12_turningsIn_l16 at hL
    refine j_iload 5 dX12_turningsIn_16 rfl ?_
    refine j_bipush 8 dX12_turningsIn_18 (by decide) ?_
    refine j_iload_n 1 dX12_turningsIn_20 rfl ?_
    refine j_imul dX12_turningsIn_21 ?_
    refine j_aload_n 0 dX12_turningsIn_22 rfl ?_
    refine jg_RX12_44 rfl sh_193 dX12_turningsIn_23 ?_
    refine j_iload_n 1 dX12_turningsIn_26 rfl ?_
    obtain ⟨g1, hL⟩ := gd_ex hL
    refine j_iald (shf_12_7 sh_193) (ib_in g1) dX12_turningsIn_27 ?_
    refine j_iadd dX12_turningsIn_28 ?_
    refine j_icmp_ge 100 dX12_turningsIn_29 (by decide) (fun z2 => ?_) (fun z2 => ?_)
    · replace hL := (if_pos z2).symm.trans hL
      cases hL
      refine j_sub [4] rfl ?_
      exact kE 
    · replace hL := (if_neg z2).symm.trans hL
      refine j_iload_n 2 dX12_turningsIn_32 rfl ?_
      refine j_aload_n 0 dX12_turningsIn_33 rfl ?_
      refine jg_RX12_81 rfl sh_193 dX12_turningsIn_34 ?_
      refine j_iload 5 dX12_turningsIn_37 rfl ?_
      obtain ⟨g3, hL⟩ := gd_ex hL
      refine j_iald (shf_12_20 sh_193) (ib_in g3) dX12_turningsIn_39 ?_
      refine j_aload_n 0 dX12_turningsIn_40 rfl ?_
      refine jg_RX12_84 rfl sh_193 dX12_turningsIn_41 ?_
      refine j_iload 5 dX12_turningsIn_44 rfl ?_
      obtain ⟨g4, hL⟩ := gd_ex hL
      refine j_iald (shf_12_21 sh_193) (ib_in g4) dX12_turningsIn_46 ?_
      refine j_callSi (c_X12_isIn G v3 (hia h 213 (cl v6)) (hia h 214 (cl v6)) h) cv_RX12_161 rfl (by decide) rfl rfl (Nat.le_of_ble_eq_true rfl) dX12_turningsIn_47 (by decide) ?_
      refine j_ifz_eq 94 dX12_turningsIn_50 (by decide) (fun z5 => ?_) (fun z5 => ?_)
      · replace hL := (if_neg z5).symm.trans hL
        refine j_iinc (lv' := [(6, .int (v6 + 1)), (0, .ref (ad G 193)), (1, .int v1), (3, .int v3), (4, .int v4), (5, .int v5)]) 5 dX12_turningsIn_94 rfl rfl (by decide) rfl ?_
        refine j_goto 16 dX12_turningsIn_97 (by decide) ?_
        refine j_sub [1, 2, 3, 4, 5, 0] rfl ?_
        exact ih v5 (v6 + 1) h r hL kE
      · replace hL := (if_pos z5).symm.trans hL
        refine j_aload_n 0 dX12_turningsIn_53 rfl ?_
        refine jg_RX12_61 rfl sh_193 dX12_turningsIn_54 ?_
        refine j_iload 3 dX12_turningsIn_57 rfl ?_
        obtain ⟨g6, hL⟩ := gd_ex hL
        refine j_iald (shf_12_13 sh_193) (ib_in g6) dX12_turningsIn_59 ?_
        refine j_iload_n 2 dX12_turningsIn_60 rfl ?_
        refine j_icmp_gt 94 dX12_turningsIn_61 (by decide) (fun z7 => ?_) (fun z7 => ?_)
        · replace hL := (if_pos z7).symm.trans hL
          refine j_iinc (lv' := [(6, .int (v6 + 1)), (0, .ref (ad G 193)), (1, .int v1), (3, .int v3), (4, .int v4), (5, .int v5)]) 5 dX12_turningsIn_94 rfl rfl (by decide) rfl ?_
          refine j_goto 16 dX12_turningsIn_97 (by decide) ?_
          refine j_sub [1, 2, 3, 4, 5, 0] rfl ?_
          exact ih v5 (v6 + 1) h r hL kE
        · replace hL := (if_neg z7).symm.trans hL
          refine j_iload 4 dX12_turningsIn_64 rfl ?_
          refine j_aload_n 0 dX12_turningsIn_66 rfl ?_
          refine j_aload_n 0 dX12_turningsIn_67 rfl ?_
          refine jg_RX12_78 rfl sh_193 dX12_turningsIn_68 ?_
          refine j_iload 5 dX12_turningsIn_71 rfl ?_
          obtain ⟨g8, hL⟩ := gd_ex hL
          refine j_iald (shf_12_19 sh_193) (ib_in g8) dX12_turningsIn_73 ?_
          refine j_aload_n 0 dX12_turningsIn_74 rfl ?_
          refine jg_RX12_50 rfl sh_193 dX12_turningsIn_75 ?_
          refine j_iload 3 dX12_turningsIn_78 rfl ?_
          obtain ⟨g9, hL⟩ := gd_ex hL
          refine j_iald (shf_12_9 sh_193) (ib_in g9) dX12_turningsIn_80 ?_
          refine j_aload_n 0 dX12_turningsIn_81 rfl ?_
          refine jg_RX12_55 rfl sh_193 dX12_turningsIn_82 ?_
          refine j_iload 3 dX12_turningsIn_85 rfl ?_
          obtain ⟨g10, hL⟩ := gd_ex hL
          refine j_iald (shf_12_11 sh_193) (ib_in g10) dX12_turningsIn_87 ?_
          obtain ⟨q11, hq11, hL⟩ := bnd_ex hL
          refine j_callVi (c_X12_turningsOf G (hia h 212 (cl v6)) (hia h 202 (cl v4)) (hia h 204 (cl v4)) h _ hq11) cv_RX12_301 rfl sh_193 (by decide) rfl (by decide) rfl rfl (Nat.le_of_ble_eq_true rfl) dX12_turningsIn_88 (by decide) ?_
          refine j_iadd dX12_turningsIn_91 ?_
          refine j_istore (lv' := [(5, .int (v5 + q11)), (0, .ref (ad G 193)), (1, .int v1), (3, .int v3), (4, .int v4), (6, .int v6)]) dX12_turningsIn_92 (by decide) rfl ?_
          refine j_iinc (lv' := [(6, .int (v6 + 1)), (5, .int (v5 + q11)), (0, .ref (ad G 193)), (1, .int v1), (3, .int v3), (4, .int v4)]) 5 dX12_turningsIn_94 rfl rfl (by decide) rfl ?_
          refine j_goto 16 dX12_turningsIn_97 (by decide) ?_
          refine j_sub [2, 3, 4, 5, 1, 0] rfl ?_
          exact ih (v5 + q11) (v6 + 1) h r hL kE

set_option maxRecDepth 20000 in
theorem c_X12_turningsIn (G : GG) (v1 : Int32) (v2 : Int32) (v3 : Int32) (h : AH) (r : Int32) (hL : f_X12_turningsIn v1 v2 v3 h = some r) : SpI G 3 mX12_turningsIn [.ref (ad G 193), .int v1, .int v2, .int v3] h r h := by
  refine sp_i pf_X12_turningsIn (Nat.le_of_ble_eq_true rfl) ?_
  show J G mX12_turningsIn 3 0 0 (KMi G r h) 0 [(0, .ref (ad G 193)), (1, .int v1), (2, .int v2), (3, .int v3)] [] h
  obtain ⟨K, hK⟩ : ∃ K, K = KMi G r h := ⟨_, rfl⟩
  rw [← hK]
  unfold f_X12_turningsIn at hL
  refine j_iload_n 1 dX12_turningsIn_0 rfl ?_
  refine j_iload_n 2 dX12_turningsIn_1 rfl ?_
  refine j_callSi (c_X12_at G v1 v2 h) cv_RX12_244 rfl (by decide) rfl rfl (Nat.le_of_ble_eq_true rfl) dX12_turningsIn_2 (by decide) ?_
  refine j_istore (lv' := [(4, .int (f_X12_at v1 v2)), (0, .ref (ad G 193)), (1, .int v1), (2, .int v2), (3, .int v3)]) dX12_turningsIn_5 (by decide) rfl ?_
  refine j_iconst 0 dX12_turningsIn_7 (by decide) ?_
  refine j_istore (lv' := [(5, .int 0), (4, .int (f_X12_at v1 v2)), (0, .ref (ad G 193)), (1, .int v1), (2, .int v2), (3, .int v3)]) dX12_turningsIn_8 (by decide) rfl ?_
  refine j_bipush 8 dX12_turningsIn_10 (by decide) ?_
  refine j_iload_n 3 dX12_turningsIn_12 rfl ?_
  refine j_imul dX12_turningsIn_13 ?_
  refine j_istore (lv' := [(6, .int (8 * v1)), (5, .int 0), (4, .int (f_X12_at v1 v2)), (0, .ref (ad G 193)), (1, .int v1), (2, .int v2), (3, .int v3)]) dX12_turningsIn_14 (by decide) rfl ?_
  obtain ⟨q12, hq12, hL⟩ := bnd_ex hL
  refine j_sub [3, 4, 6, 2, 1, 0] rfl ?_
  refine cl_X12_turningsIn_16 G K v1 v3 (f_X12_at v1 v2) FU 0 (8 * v1) h q12 hq12 ?_
  refine j_iload 0 dX12_turningsIn_100 rfl ?_
  cases hL
  exact j_reti dX12_turningsIn_102 rfl hK

def f_X12_ownOf_l36 (v1 : Int32) (v4 : Int32) (h : AH) : Nat → Int32 → Int32 → Option (Int32)
  | 0, _, _ => none
  | n + 1, v3, v5 => gd (ib v1 8 = true) (if ((4 * v1) + (hia h 199 (cl v1))) ≤ v5 then some v3 else gd (ib v5 32 = true) (if (hia h 210 (cl v5)) = v4 then gd (ib v5 32 = true) (f_X12_ownOf_l36 v1 v4 h n (Int64.toInt32 ((v3.toInt64 * ((100 - (hia h 211 (cl v5))).toInt64)) / 100)) (v5 + 1)) else f_X12_ownOf_l36 v1 v4 h n v3 (v5 + 1)))
def f_X12_ownOf_l5 (v1 : Int32) (v2 : Int32) (h : AH) : Nat → Int32 → Int32 → Option (Int32)
  | 0, _, _ => none
  | n + 1, v3, v4 => if 500 < v4 then some v3 else gd (ib 0 6 = true) (bnd (f_X12_turningsIn v1 v2 v4 h) (fun q3 => bnd (f_X12_ownOf_l36 v1 v4 h FU (v3 + ((hia h 215 (cl 0)) * q3)) (4 * v1)) (fun q9 => f_X12_ownOf_l5 v1 v2 h n q9 (v4 + 1))))
def f_X12_ownOf (v1 : Int32) (v2 : Int32) (h : AH) : Option (Int32) := bnd (f_X12_ownOf_l5 v1 v2 h FU 0 0) (fun q10 => some q10)
set_option maxRecDepth 20000 in
theorem cl_X12_ownOf_36 (G : GG) (K : KQ) (v1 : Int32) (v2 : Int32) (v4 : Int32)  : ∀ (n : Nat) (v3 : Int32) (v5 : Int32) (h : AH) (r : Int32), f_X12_ownOf_l36 v1 v4 h n v3 v5 = some r → J G mX12_ownOf 4 0 0 K 89 [(0, .ref (ad G 193)), (1, .int v1), (2, .int v2), (3, .int r), (4, .int v4)] [] h → J G mX12_ownOf 4 0 0 K 36 [(0, .ref (ad G 193)), (1, .int v1), (2, .int v2), (3, .int v3), (4, .int v4), (5, .int v5)] [] h := by
  intro n
  induction n with
  | zero => intro v3 v5 h r hL; cases hL
  | succ n ih =>
    intro v3 v5 h r hL kE
    unfold f_X12_ownOf_l36 at hL
    refine j_iload 5 dX12_ownOf_36 rfl ?_
    refine j_iconst 4 dX12_ownOf_38 (by decide) ?_
    refine j_iload_n 1 dX12_ownOf_39 rfl ?_
    refine j_imul dX12_ownOf_40 ?_
    refine j_aload_n 0 dX12_ownOf_41 rfl ?_
    refine jg_RX12_41 rfl sh_193 dX12_ownOf_42 ?_
    refine j_iload_n 1 dX12_ownOf_45 rfl ?_
    obtain ⟨g4, hL⟩ := gd_ex hL
    refine j_iald (shf_12_6 sh_193) (ib_in g4) dX12_ownOf_46 ?_
    refine j_iadd dX12_ownOf_47 ?_
    refine j_icmp_ge 89 dX12_ownOf_48 (by decide) (fun z5 => ?_) (fun z5 => ?_)
    · replace hL := (if_pos z5).symm.trans hL
      cases hL
      refine j_sub [0, 1, 2, 3, 4] rfl ?_
      exact kE 
    · replace hL := (if_neg z5).symm.trans hL
      refine j_aload_n 0 dX12_ownOf_51 rfl ?_
      refine jg_RX12_72 rfl sh_193 dX12_ownOf_52 ?_
      refine j_iload 5 dX12_ownOf_55 rfl ?_
      obtain ⟨g6, hL⟩ := gd_ex hL
      refine j_iald (shf_12_17 sh_193) (ib_in g6) dX12_ownOf_57 ?_
      refine j_iload 4 dX12_ownOf_58 rfl ?_
      refine j_icmp_ne 83 dX12_ownOf_60 (by decide) (fun z7 => ?_) (fun z7 => ?_)
      · replace hL := (if_neg z7).symm.trans hL
        refine j_iinc (lv' := [(5, .int (v5 + 1)), (0, .ref (ad G 193)), (1, .int v1), (2, .int v2), (3, .int v3), (4, .int v4)]) 5 dX12_ownOf_83 rfl rfl (by decide) rfl ?_
        refine j_goto 36 dX12_ownOf_86 (by decide) ?_
        refine j_sub [1, 2, 3, 4, 5, 0] rfl ?_
        exact ih v3 (v5 + 1) h r hL kE
      · replace hL := (if_pos z7).symm.trans hL
        refine j_iload_n 3 dX12_ownOf_63 rfl ?_
        refine j_i2l dX12_ownOf_64 ?_
        refine j_bipush 100 dX12_ownOf_65 (by decide) ?_
        refine j_aload_n 0 dX12_ownOf_67 rfl ?_
        refine jg_RX12_75 rfl sh_193 dX12_ownOf_68 ?_
        refine j_iload 5 dX12_ownOf_71 rfl ?_
        obtain ⟨g8, hL⟩ := gd_ex hL
        refine j_iald (shf_12_18 sh_193) (ib_in g8) dX12_ownOf_73 ?_
        refine j_isub dX12_ownOf_74 ?_
        refine j_i2l dX12_ownOf_75 ?_
        refine j_lmul dX12_ownOf_76 ?_
        refine j_ldc2 rfl kk_RX12_308 dX12_ownOf_77 ?_
        refine j_ldiv dX12_ownOf_80 (by decide) ?_
        refine j_l2i dX12_ownOf_81 ?_
        refine j_istore_n (lv' := [(3, .int (Int64.toInt32 ((v3.toInt64 * ((100 - (hia h 211 (cl v5))).toInt64)) / 100))), (0, .ref (ad G 193)), (1, .int v1), (2, .int v2), (4, .int v4), (5, .int v5)]) dX12_ownOf_82 (by decide) rfl ?_
        refine j_iinc (lv' := [(5, .int (v5 + 1)), (3, .int (Int64.toInt32 ((v3.toInt64 * ((100 - (hia h 211 (cl v5))).toInt64)) / 100))), (0, .ref (ad G 193)), (1, .int v1), (2, .int v2), (4, .int v4)]) 5 dX12_ownOf_83 rfl rfl (by decide) rfl ?_
        refine j_goto 36 dX12_ownOf_86 (by decide) ?_
        refine j_sub [2, 3, 4, 1, 5, 0] rfl ?_
        exact ih (Int64.toInt32 ((v3.toInt64 * ((100 - (hia h 211 (cl v5))).toInt64)) / 100)) (v5 + 1) h r hL kE

set_option maxRecDepth 20000 in
theorem cl_X12_ownOf_5 (G : GG) (K : KQ) (v1 : Int32) (v2 : Int32)  : ∀ (n : Nat) (v3 : Int32) (v4 : Int32) (h : AH) (r : Int32), f_X12_ownOf_l5 v1 v2 h n v3 v4 = some r → J G mX12_ownOf 4 0 0 K 95 [(3, .int r)] [] h → J G mX12_ownOf 4 0 0 K 5 [(0, .ref (ad G 193)), (1, .int v1), (2, .int v2), (3, .int v3), (4, .int v4)] [] h := by
  intro n
  induction n with
  | zero => intro v3 v4 h r hL; cases hL
  | succ n ih =>
    intro v3 v4 h r hL kE
    unfold f_X12_ownOf_l5 at hL
    refine j_iload 4 dX12_ownOf_5 rfl ?_
    refine j_sipush 500 dX12_ownOf_7 (by decide) ?_
    refine j_icmp_gt 95 dX12_ownOf_10 (by decide) (fun z1 => ?_) (fun z1 => ?_)
    · replace hL := (if_pos z1).symm.trans hL
      cases hL
      refine j_sub [3] rfl ?_
      exact kE 
    · replace hL := (if_neg z1).symm.trans hL
      refine j_iload_n 3 dX12_ownOf_13 rfl ?_
      refine j_aload_n 0 dX12_ownOf_14 rfl ?_
      refine jg_RX12_87 rfl sh_193 dX12_ownOf_15 ?_
      refine j_iconst 0 dX12_ownOf_18 (by decide) ?_
      obtain ⟨g2, hL⟩ := gd_ex hL
      refine j_iald (shf_12_22 sh_193) (ib_in g2) dX12_ownOf_19 ?_
      refine j_aload_n 0 dX12_ownOf_20 rfl ?_
      refine j_iload_n 1 dX12_ownOf_21 rfl ?_
      refine j_iload_n 2 dX12_ownOf_22 rfl ?_
      refine j_iload 4 dX12_ownOf_23 rfl ?_
      obtain ⟨q3, hq3, hL⟩ := bnd_ex hL
      refine j_callVi (c_X12_turningsIn G v1 v2 v4 h _ hq3) cv_RX12_305 rfl sh_193 (by decide) rfl (by decide) rfl rfl (Nat.le_of_ble_eq_true rfl) dX12_ownOf_25 (by decide) ?_
      refine j_imul dX12_ownOf_28 ?_
      refine j_iadd dX12_ownOf_29 ?_
      refine j_istore_n (lv' := [(3, .int (v3 + ((hia h 215 (cl 0)) * q3))), (0, .ref (ad G 193)), (1, .int v1), (2, .int v2), (4, .int v4)]) dX12_ownOf_30 (by decide) rfl ?_
      refine j_iconst 4 dX12_ownOf_31 (by decide) ?_
      refine j_iload_n 2 dX12_ownOf_32 rfl ?_
      refine j_imul dX12_ownOf_33 ?_
      refine j_istore (lv' := [(5, .int (4 * v1)), (3, .int (v3 + ((hia h 215 (cl 0)) * q3))), (0, .ref (ad G 193)), (1, .int v1), (2, .int v2), (4, .int v4)]) dX12_ownOf_34 (by decide) rfl ?_
      obtain ⟨q9, hq9, hL⟩ := bnd_ex hL
      refine j_sub [2, 3, 4, 1, 5, 0] rfl ?_
      refine cl_X12_ownOf_36 G K v1 v2 v4 FU (v3 + ((hia h 215 (cl 0)) * q3)) (4 * v1) h q9 hq9 ?_
      refine j_iinc (lv' := [(4, .int (v4 + 1)), (0, .ref (ad G 193)), (1, .int v1), (2, .int v2), (3, .int q9)]) 4 dX12_ownOf_89 rfl rfl (by decide) rfl ?_
      refine j_goto 5 dX12_ownOf_92 (by decide) ?_
      refine j_sub [1, 2, 3, 4, 0] rfl ?_
      exact ih q9 (v4 + 1) h r hL kE

set_option maxRecDepth 20000 in
theorem c_X12_ownOf (G : GG) (v1 : Int32) (v2 : Int32) (h : AH) (r : Int32) (hL : f_X12_ownOf v1 v2 h = some r) : SpI G 4 mX12_ownOf [.ref (ad G 193), .int v1, .int v2] h r h := by
  refine sp_i pf_X12_ownOf (Nat.le_of_ble_eq_true rfl) ?_
  show J G mX12_ownOf 4 0 0 (KMi G r h) 0 [(0, .ref (ad G 193)), (1, .int v1), (2, .int v2)] [] h
  obtain ⟨K, hK⟩ : ∃ K, K = KMi G r h := ⟨_, rfl⟩
  rw [← hK]
  unfold f_X12_ownOf at hL
  refine j_iconst 0 dX12_ownOf_0 (by decide) ?_
  refine j_istore_n (lv' := [(3, .int 0), (0, .ref (ad G 193)), (1, .int v1), (2, .int v2)]) dX12_ownOf_1 (by decide) rfl ?_
  refine j_iconst 0 dX12_ownOf_2 (by decide) ?_
  refine j_istore (lv' := [(4, .int 0), (3, .int 0), (0, .ref (ad G 193)), (1, .int v1), (2, .int v2)]) dX12_ownOf_3 (by decide) rfl ?_
  obtain ⟨q10, hq10, hL⟩ := bnd_ex hL
  refine j_sub [2, 3, 4, 1, 0] rfl ?_
  refine cl_X12_ownOf_5 G K v1 v2 FU 0 0 h q10 hq10 ?_
  refine j_iload_n 0 dX12_ownOf_95 rfl ?_
  cases hL
  exact j_reti dX12_ownOf_96 rfl hK

def f_X12_hairOf (v1 : Int32) (v2 : Int32) (h : AH) : Option (Int32) := if (v2 - v2 / 2 * 2) = 1 then gd (ib v1 8 = true) (some (hia h 198 (cl v1))) else some 0
set_option maxRecDepth 20000 in
theorem c_X12_hairOf (G : GG) (v1 : Int32) (v2 : Int32) (h : AH) (r : Int32) (hL : f_X12_hairOf v1 v2 h = some r) : SpI G 1 mX12_hairOf [.ref (ad G 193), .int v1, .int v2] h r h := by
  refine sp_i pf_X12_hairOf (Nat.le_of_ble_eq_true rfl) ?_
  show J G mX12_hairOf 1 0 0 (KMi G r h) 0 [(0, .ref (ad G 193)), (1, .int v1), (2, .int v2)] [] h
  obtain ⟨K, hK⟩ : ∃ K, K = KMi G r h := ⟨_, rfl⟩
  rw [← hK]
  unfold f_X12_hairOf at hL
  refine j_iload_n 2 dX12_hairOf_0 rfl ?_
  refine j_iconst 2 dX12_hairOf_1 (by decide) ?_
  refine j_irem dX12_hairOf_2 (by decide) ?_
  refine j_iconst 1 dX12_hairOf_3 (by decide) ?_
  refine j_icmp_ne 16 dX12_hairOf_4 (by decide) (fun z1 => ?_) (fun z1 => ?_)
  · replace hL := (if_neg z1).symm.trans hL
    refine j_iconst 0 dX12_hairOf_16 (by decide) ?_
    cases hL
    exact j_reti dX12_hairOf_17 rfl hK
  · replace hL := (if_pos z1).symm.trans hL
    refine j_aload_n 0 dX12_hairOf_7 rfl ?_
    refine jg_RX12_39 rfl sh_193 dX12_hairOf_8 ?_
    refine j_iload_n 1 dX12_hairOf_11 rfl ?_
    obtain ⟨g2, hL⟩ := gd_ex hL
    refine j_iald (shf_12_5 sh_193) (ib_in g2) dX12_hairOf_12 ?_
    refine j_goto 17 dX12_hairOf_13 (by decide) ?_
    cases hL
    exact j_reti dX12_hairOf_17 rfl hK

def f_X12_tellDirt_l4 (v1 : Int32) : Nat → Int32 → Int32 → AH → Option (AH)
  | 0, _, _, _ => none
  | n + 1, v2, v3, h => gd (ib v1 8 = true) (if (hia h 196 (cl v1)) ≤ v3 then some h else bnd (f_X12_ownOf v1 v3 h) (fun q3 => gd (ib v3 40 = true) (lt (sia h 220 (cl v3) q3) (fun h5 => gd (ib v3 40 = true) (gd (ib (f_X12_at v1 v3) 320 = true) (gd (ib 1 6 = true) (gd (ib v3 40 = true) (lt (sia h5 221 (cl v3) (((hia h5 220 (cl v3)) + (hia h5 207 (cl (f_X12_at v1 v3)))) + (Int64.toInt32 ((v2.toInt64 * ((hia h5 215 (cl 1)).toInt64)) / 100)))) (fun h10 => gd (ib v3 40 = true) (gd (ib (f_X12_at v1 v3) 320 = true) (bnd (f_X12_hairOf v1 v3 h10) (fun q13 => gd (ib v3 40 = true) (gd (ib v3 40 = true) (lt (sia h10 222 (cl v3) (((hia h10 205 (cl (f_X12_at v1 v3))) + q13) + (hia h10 221 (cl v3)))) (fun h16 => f_X12_tellDirt_l4 v1 n (hia h10 221 (cl v3)) (v3 + 1) h16)))))))))))))))
def f_X12_tellDirt (v1 : Int32) (h : AH) : Option (AH) := bnd (f_X12_tellDirt_l4 v1 FU 0 0 h) (fun q17 => some q17)
set_option maxRecDepth 20000 in
theorem cl_X12_tellDirt_4 (G : GG) (K : KQ) (v1 : Int32)  : ∀ (n : Nat) (v2 : Int32) (v3 : Int32) (h : AH) (r : AH), f_X12_tellDirt_l4 v1 n v2 v3 h = some r → J G mX12_tellDirt 5 0 0 K 108 [] [] r → J G mX12_tellDirt 5 0 0 K 4 [(0, .ref (ad G 193)), (1, .int v1), (2, .int v2), (3, .int v3)] [] h := by
  intro n
  induction n with
  | zero => intro v2 v3 h r hL; cases hL
  | succ n ih =>
    intro v2 v3 h r hL kE
    unfold f_X12_tellDirt_l4 at hL
    refine j_iload_n 3 dX12_tellDirt_4 rfl ?_
    refine j_aload_n 0 dX12_tellDirt_5 rfl ?_
    refine jg_RX12_32 rfl sh_193 dX12_tellDirt_6 ?_
    refine j_iload_n 1 dX12_tellDirt_9 rfl ?_
    obtain ⟨g1, hL⟩ := gd_ex hL
    refine j_iald (shf_12_3 sh_193) (ib_in g1) dX12_tellDirt_10 ?_
    refine j_icmp_ge 108 dX12_tellDirt_11 (by decide) (fun z2 => ?_) (fun z2 => ?_)
    · replace hL := (if_pos z2).symm.trans hL
      cases hL
      refine j_sub [] rfl ?_
      exact kE 
    · replace hL := (if_neg z2).symm.trans hL
      refine j_aload_n 0 dX12_tellDirt_14 rfl ?_
      refine jg_RX12_106 rfl sh_193 dX12_tellDirt_15 ?_
      refine j_iload_n 3 dX12_tellDirt_18 rfl ?_
      refine j_aload_n 0 dX12_tellDirt_19 rfl ?_
      refine j_iload_n 1 dX12_tellDirt_20 rfl ?_
      refine j_iload_n 3 dX12_tellDirt_21 rfl ?_
      obtain ⟨q3, hq3, hL⟩ := bnd_ex hL
      refine j_callVi (c_X12_ownOf G v1 v3 h _ hq3) cv_RX12_310 rfl sh_193 (by decide) rfl (by decide) rfl rfl (Nat.le_of_ble_eq_true rfl) dX12_tellDirt_22 (by decide) ?_
      obtain ⟨g4, hL⟩ := gd_ex hL
      refine j_iast (shf_12_37 sh_193) (ib_in g4) dX12_tellDirt_25 ?_
      obtain ⟨h5, eh5, hL⟩ := lt_ex hL
      refine j_heap eh5 ?_
      refine j_aload_n 0 dX12_tellDirt_26 rfl ?_
      refine jg_RX12_109 rfl sh_193 dX12_tellDirt_27 ?_
      refine j_iload_n 3 dX12_tellDirt_30 rfl ?_
      refine j_aload_n 0 dX12_tellDirt_31 rfl ?_
      refine jg_RX12_106 rfl sh_193 dX12_tellDirt_32 ?_
      refine j_iload_n 3 dX12_tellDirt_35 rfl ?_
      obtain ⟨g6, hL⟩ := gd_ex hL
      refine j_iald (shf_12_37 sh_193) (ib_in g6) dX12_tellDirt_36 ?_
      refine j_aload_n 0 dX12_tellDirt_37 rfl ?_
      refine jg_RX12_64 rfl sh_193 dX12_tellDirt_38 ?_
      refine j_iload_n 1 dX12_tellDirt_41 rfl ?_
      refine j_iload_n 3 dX12_tellDirt_42 rfl ?_
      refine j_callSi (c_X12_at G v1 v3 h5) cv_RX12_244 rfl (by decide) rfl rfl (Nat.le_of_ble_eq_true rfl) dX12_tellDirt_43 (by decide) ?_
      obtain ⟨g7, hL⟩ := gd_ex hL
      refine j_iald (shf_12_14 sh_193) (ib_in g7) dX12_tellDirt_46 ?_
      refine j_iadd dX12_tellDirt_47 ?_
      refine j_iload_n 2 dX12_tellDirt_48 rfl ?_
      refine j_i2l dX12_tellDirt_49 ?_
      refine j_aload_n 0 dX12_tellDirt_50 rfl ?_
      refine jg_RX12_87 rfl sh_193 dX12_tellDirt_51 ?_
      refine j_iconst 1 dX12_tellDirt_54 (by decide) ?_
      obtain ⟨g8, hL⟩ := gd_ex hL
      refine j_iald (shf_12_22 sh_193) (ib_in g8) dX12_tellDirt_55 ?_
      refine j_i2l dX12_tellDirt_56 ?_
      refine j_lmul dX12_tellDirt_57 ?_
      refine j_ldc2 rfl kk_RX12_308 dX12_tellDirt_58 ?_
      refine j_ldiv dX12_tellDirt_61 (by decide) ?_
      refine j_l2i dX12_tellDirt_62 ?_
      refine j_iadd dX12_tellDirt_63 ?_
      obtain ⟨g9, hL⟩ := gd_ex hL
      refine j_iast (shf_12_38 sh_193) (ib_in g9) dX12_tellDirt_64 ?_
      obtain ⟨h10, eh10, hL⟩ := lt_ex hL
      refine j_heap eh10 ?_
      refine j_aload_n 0 dX12_tellDirt_65 rfl ?_
      refine jg_RX12_109 rfl sh_193 dX12_tellDirt_66 ?_
      refine j_iload_n 3 dX12_tellDirt_69 rfl ?_
      obtain ⟨g11, hL⟩ := gd_ex hL
      refine j_iald (shf_12_38 sh_193) (ib_in g11) dX12_tellDirt_70 ?_
      refine j_istore_n (lv' := [(2, .int (hia h10 221 (cl v3))), (0, .ref (ad G 193)), (1, .int v1), (3, .int v3)]) dX12_tellDirt_71 (by decide) rfl ?_
      refine j_aload_n 1 dX12_tellDirt_72 rfl ?_
      refine jg_RX12_112 rfl sh_193 dX12_tellDirt_73 ?_
      refine j_iload_n 3 dX12_tellDirt_76 rfl ?_
      refine j_aload_n 1 dX12_tellDirt_77 rfl ?_
      refine jg_RX12_58 rfl sh_193 dX12_tellDirt_78 ?_
      refine j_iload_n 2 dX12_tellDirt_81 rfl ?_
      refine j_iload_n 3 dX12_tellDirt_82 rfl ?_
      refine j_callSi (c_X12_at G v1 v3 h10) cv_RX12_244 rfl (by decide) rfl rfl (Nat.le_of_ble_eq_true rfl) dX12_tellDirt_83 (by decide) ?_
      obtain ⟨g12, hL⟩ := gd_ex hL
      refine j_iald (shf_12_12 sh_193) (ib_in g12) dX12_tellDirt_86 ?_
      refine j_aload_n 1 dX12_tellDirt_87 rfl ?_
      refine j_iload_n 2 dX12_tellDirt_88 rfl ?_
      refine j_iload_n 3 dX12_tellDirt_89 rfl ?_
      obtain ⟨q13, hq13, hL⟩ := bnd_ex hL
      refine j_callVi (c_X12_hairOf G v1 v3 h10 _ hq13) cv_RX12_313 rfl sh_193 (by decide) rfl (by decide) rfl rfl (Nat.le_of_ble_eq_true rfl) dX12_tellDirt_90 (by decide) ?_
      refine j_iadd dX12_tellDirt_93 ?_
      refine j_aload_n 1 dX12_tellDirt_94 rfl ?_
      refine jg_RX12_109 rfl sh_193 dX12_tellDirt_95 ?_
      refine j_iload_n 3 dX12_tellDirt_98 rfl ?_
      obtain ⟨g14, hL⟩ := gd_ex hL
      refine j_iald (shf_12_38 sh_193) (ib_in g14) dX12_tellDirt_99 ?_
      refine j_iadd dX12_tellDirt_100 ?_
      obtain ⟨g15, hL⟩ := gd_ex hL
      refine j_iast (shf_12_39 sh_193) (ib_in g15) dX12_tellDirt_101 ?_
      obtain ⟨h16, eh16, hL⟩ := lt_ex hL
      refine j_heap eh16 ?_
      refine j_iinc (lv' := [(3, .int (v3 + 1)), (2, .int (hia h10 221 (cl v3))), (0, .ref (ad G 193)), (1, .int v1)]) 3 dX12_tellDirt_102 rfl rfl (by decide) rfl ?_
      refine j_goto 4 dX12_tellDirt_105 (by decide) ?_
      refine j_sub [2, 3, 1, 0] rfl ?_
      exact ih (hia h10 221 (cl v3)) (v3 + 1) h16 r hL kE

set_option maxRecDepth 20000 in
theorem c_X12_tellDirt (G : GG) (v1 : Int32) (h : AH) (r : AH) (hL : f_X12_tellDirt v1 h = some r) : SpV G 5 mX12_tellDirt [.ref (ad G 193), .int v1] h r := by
  refine sp_v pf_X12_tellDirt (Nat.le_of_ble_eq_true rfl) ?_
  show J G mX12_tellDirt 5 0 0 (KMv G r) 0 [(0, .ref (ad G 193)), (1, .int v1)] [] h
  obtain ⟨K, hK⟩ : ∃ K, K = KMv G r := ⟨_, rfl⟩
  rw [← hK]
  unfold f_X12_tellDirt at hL
  refine j_iconst 0 dX12_tellDirt_0 (by decide) ?_
  refine j_istore_n (lv' := [(2, .int 0), (0, .ref (ad G 193)), (1, .int v1)]) dX12_tellDirt_1 (by decide) rfl ?_
  refine j_iconst 0 dX12_tellDirt_2 (by decide) ?_
  refine j_istore_n (lv' := [(3, .int 0), (2, .int 0), (0, .ref (ad G 193)), (1, .int v1)]) dX12_tellDirt_3 (by decide) rfl ?_
  obtain ⟨q17, hq17, hL⟩ := bnd_ex hL
  refine j_sub [2, 3, 1, 0] rfl ?_
  refine cl_X12_tellDirt_4 G K v1 FU 0 0 h q17 hq17 ?_
  cases hL
  exact j_retv dX12_tellDirt_108 rfl hK

def f_X12_dirt_l40 (v1 : Int32) (v2 : Int32) (h : AH) : Nat → Int32 → Int32 → Option (Int32)
  | 0, _, _ => none
  | n + 1, v4, v5 => if 500 < v5 then some v4 else bnd (f_X12_turningsIn v1 v2 v5 h) (fun q14 => f_X12_dirt_l40 v1 v2 h n (v4 + q14) (v5 + 1))
def f_X12_dirt (v1 : Int32) (v2 : Int32) (v3 : Int32) (h : AH) : Option (Int32 × AH) := lt (sfi h 193 2 0) (fun h1 => bnd (f_X12_isLeaf v1 v2 h1) (fun q2 => if q2 = true then if (f_X12_isIn v3 0 3) = true then if v3 = 3 then bnd (f_X12_dirt_l40 v1 v2 h1 FU 0 0) (fun q15 => some (q15, h1)) else bnd (f_X12_tellDirt v1 h1) (fun q7 => if v3 = 0 then gd (ib v2 40 = true) (some (hia q7 220 (cl v2), q7)) else if v3 = 1 then gd (ib v2 40 = true) (some (hia q7 221 (cl v2), q7)) else gd (ib v2 40 = true) (some (hia q7 222 (cl v2), q7))) else bnd (f_X12_fail 1 h1) (fun q16 => some (q16.1, q16.2)) else bnd (f_X12_fail 1 h1) (fun q4 => some (q4.1, q4.2))))
set_option maxRecDepth 20000 in
theorem cl_X12_dirt_40 (G : GG) (K : KQ) (v1 : Int32) (v2 : Int32)  : ∀ (n : Nat) (v4 : Int32) (v5 : Int32) (h : AH) (r : Int32), f_X12_dirt_l40 v1 v2 h n v4 v5 = some r → J G mX12_dirt 6 0 0 K 67 [(4, .int r)] [] h → J G mX12_dirt 6 0 0 K 40 [(0, .ref (ad G 193)), (1, .int v1), (2, .int v2), (4, .int v4), (5, .int v5)] [] h := by
  intro n
  induction n with
  | zero => intro v4 v5 h r hL; cases hL
  | succ n ih =>
    intro v4 v5 h r hL kE
    unfold f_X12_dirt_l40 at hL
    refine j_iload 4 dX12_dirt_40 rfl ?_
    refine j_sipush 500 dX12_dirt_42 (by decide) ?_
    refine j_icmp_gt 67 dX12_dirt_45 (by decide) (fun z13 => ?_) (fun z13 => ?_)
    · replace hL := (if_pos z13).symm.trans hL
      cases hL
      refine j_sub [3] rfl ?_
      exact kE 
    · replace hL := (if_neg z13).symm.trans hL
      refine j_iload 3 dX12_dirt_48 rfl ?_
      refine j_aload_n 0 dX12_dirt_50 rfl ?_
      refine j_iload_n 1 dX12_dirt_51 rfl ?_
      refine j_iload_n 2 dX12_dirt_52 rfl ?_
      refine j_iload 4 dX12_dirt_53 rfl ?_
      obtain ⟨q14, hq14, hL⟩ := bnd_ex hL
      refine j_callVi (c_X12_turningsIn G v1 v2 v5 h _ hq14) cv_RX12_305 rfl sh_193 (by decide) rfl (by decide) rfl rfl (Nat.le_of_ble_eq_true rfl) dX12_dirt_55 (by decide) ?_
      refine j_iadd dX12_dirt_58 ?_
      refine j_istore (lv' := [(4, .int (v4 + q14)), (0, .ref (ad G 193)), (1, .int v1), (2, .int v2), (5, .int v5)]) dX12_dirt_59 (by decide) rfl ?_
      refine j_iinc (lv' := [(5, .int (v5 + 1)), (4, .int (v4 + q14)), (0, .ref (ad G 193)), (1, .int v1), (2, .int v2)]) 4 dX12_dirt_61 rfl rfl (by decide) rfl ?_
      refine j_goto 40 dX12_dirt_64 (by decide) ?_
      refine j_sub [2, 3, 4, 1, 0] rfl ?_
      exact ih (v4 + q14) (v5 + 1) h r hL kE

set_option maxRecDepth 20000 in
theorem c_X12_dirt (G : GG) (v1 : Int32) (v2 : Int32) (v3 : Int32) (h : AH) (r : Int32 × AH) (hL : f_X12_dirt v1 v2 v3 h = some r) : SpI G 6 mX12_dirt [.ref (ad G 193), .int v1, .int v2, .int v3] h r.1 r.2 := by
  refine sp_i pf_X12_dirt (Nat.le_of_ble_eq_true rfl) ?_
  show J G mX12_dirt 6 0 0 (KMi G r.1 r.2) 0 [(0, .ref (ad G 193)), (1, .int v1), (2, .int v2), (3, .int v3)] [] h
  obtain ⟨K, hK⟩ : ∃ K, K = KMi G r.1 r.2 := ⟨_, rfl⟩
  rw [← hK]
  unfold f_X12_dirt at hL
  refine j_aload_n 0 dX12_dirt_0 rfl ?_
  refine j_iconst 0 dX12_dirt_1 (by decide) ?_
  refine jp_RX12_158 rfl sh_193 dX12_dirt_2 ?_
  obtain ⟨h1, eh1, hL⟩ := lt_ex hL
  refine j_heap eh1 ?_
  refine j_aload_n 0 dX12_dirt_5 rfl ?_
  refine j_iload_n 1 dX12_dirt_6 rfl ?_
  refine j_iload_n 2 dX12_dirt_7 rfl ?_
  obtain ⟨q2, hq2, hL⟩ := bnd_ex hL
  refine j_callVi (c_X12_isLeaf G v1 v2 h1 _ hq2) cv_RX12_294 rfl sh_193 (by decide) rfl (by decide) rfl rfl (Nat.le_of_ble_eq_true rfl) dX12_dirt_8 (by decide) ?_
  refine j_ifz_eq 23 dX12_dirt_11 (by decide) (fun z3 => ?_) (fun z3 => ?_)
  · replace hL := (if_neg z3).symm.trans hL
    refine j_aload_n 0 dX12_dirt_23 rfl ?_
    refine j_iconst 1 dX12_dirt_24 (by decide) ?_
    obtain ⟨q4, hq4, hL⟩ := bnd_ex hL
    refine j_callVi (c_X12_fail G 1 h1 _ hq4) cv_RX12_263 rfl sh_193 (by decide) rfl (by decide) rfl rfl (Nat.le_of_ble_eq_true rfl) dX12_dirt_25 (by decide) ?_
    cases hL
    exact j_reti dX12_dirt_28 rfl hK
  · replace hL := (if_pos z3).symm.trans hL
    refine j_iload_n 3 dX12_dirt_14 rfl ?_
    refine j_iconst 0 dX12_dirt_15 (by decide) ?_
    refine j_iconst 3 dX12_dirt_16 (by decide) ?_
    refine j_callSi (c_X12_isIn G v3 0 3 h1) cv_RX12_161 rfl (by decide) rfl rfl (Nat.le_of_ble_eq_true rfl) dX12_dirt_17 (by decide) ?_
    refine j_ifz_ne 29 dX12_dirt_20 (by decide) (fun z5 => ?_) (fun z5 => ?_)
    · replace hL := (if_pos z5).symm.trans hL
      refine j_iload_n 3 dX12_dirt_29 rfl ?_
      refine j_iconst 3 dX12_dirt_30 (by decide) ?_
      refine j_icmp_ne 70 dX12_dirt_31 (by decide) (fun z6 => ?_) (fun z6 => ?_)
      · replace hL := (if_neg z6).symm.trans hL
        refine j_aload_n 0 dX12_dirt_70 rfl ?_
        refine j_iload_n 1 dX12_dirt_71 rfl ?_
        obtain ⟨q7, hq7, hL⟩ := bnd_ex hL
        refine j_callVv (c_X12_tellDirt G v1 h1 _ hq7) cv_RX12_316 rfl sh_193 (by decide) rfl (by decide) rfl rfl (Nat.le_of_ble_eq_true rfl) dX12_dirt_72 (by decide) ?_
        refine j_iload_n 3 dX12_dirt_75 rfl ?_
        refine j_if_ne 88 dX12_dirt_76 (by decide) (fun z8 => ?_) (fun z8 => ?_)
        · replace hL := (if_neg z8).symm.trans hL
          refine j_iload_n 3 dX12_dirt_88 rfl ?_
          refine j_iconst 1 dX12_dirt_89 (by decide) ?_
          refine j_icmp_ne 102 dX12_dirt_90 (by decide) (fun z9 => ?_) (fun z9 => ?_)
          · replace hL := (if_neg z9).symm.trans hL
            refine j_aload_n 0 dX12_dirt_102 rfl ?_
            refine jg_RX12_112 rfl sh_193 dX12_dirt_103 ?_
            refine j_iload_n 2 dX12_dirt_106 rfl ?_
            obtain ⟨g10, hL⟩ := gd_ex hL
            refine j_iald (shf_12_39 sh_193) (ib_in g10) dX12_dirt_107 ?_
            cases hL
            exact j_reti dX12_dirt_108 rfl hK
          · replace hL := (if_pos z9).symm.trans hL
            refine j_aload_n 0 dX12_dirt_93 rfl ?_
            refine jg_RX12_109 rfl sh_193 dX12_dirt_94 ?_
            refine j_iload_n 2 dX12_dirt_97 rfl ?_
            obtain ⟨g11, hL⟩ := gd_ex hL
            refine j_iald (shf_12_38 sh_193) (ib_in g11) dX12_dirt_98 ?_
            refine j_goto 108 dX12_dirt_99 (by decide) ?_
            cases hL
            exact j_reti dX12_dirt_108 rfl hK
        · replace hL := (if_pos z8).symm.trans hL
          refine j_aload_n 0 dX12_dirt_79 rfl ?_
          refine jg_RX12_106 rfl sh_193 dX12_dirt_80 ?_
          refine j_iload_n 2 dX12_dirt_83 rfl ?_
          obtain ⟨g12, hL⟩ := gd_ex hL
          refine j_iald (shf_12_37 sh_193) (ib_in g12) dX12_dirt_84 ?_
          refine j_goto 108 dX12_dirt_85 (by decide) ?_
          cases hL
          exact j_reti dX12_dirt_108 rfl hK
      · replace hL := (if_pos z6).symm.trans hL
        refine j_iconst 0 dX12_dirt_34 (by decide) ?_
        refine j_istore (lv' := [(4, .int 0), (0, .ref (ad G 193)), (1, .int v1), (2, .int v2), (3, .int v3)]) dX12_dirt_35 (by decide) rfl ?_
        refine j_iconst 0 dX12_dirt_37 (by decide) ?_
        refine j_istore (lv' := [(5, .int 0), (4, .int 0), (0, .ref (ad G 193)), (1, .int v1), (2, .int v2), (3, .int v3)]) dX12_dirt_38 (by decide) rfl ?_
        obtain ⟨q15, hq15, hL⟩ := bnd_ex hL
        refine j_sub [2, 3, 4, 1, 0] rfl ?_
        refine cl_X12_dirt_40 G K v1 v2 FU 0 0 h1 q15 hq15 ?_
        refine j_iload 0 dX12_dirt_67 rfl ?_
        cases hL
        exact j_reti dX12_dirt_69 rfl hK
    · replace hL := (if_neg z5).symm.trans hL
      refine j_aload_n 0 dX12_dirt_23 rfl ?_
      refine j_iconst 1 dX12_dirt_24 (by decide) ?_
      obtain ⟨q16, hq16, hL⟩ := bnd_ex hL
      refine j_callVi (c_X12_fail G 1 h1 _ hq16) cv_RX12_263 rfl sh_193 (by decide) rfl (by decide) rfl rfl (Nat.le_of_ble_eq_true rfl) dX12_dirt_25 (by decide) ?_
      cases hL
      exact j_reti dX12_dirt_28 rfl hK

def f_X12_reads (v1 : Int32) (v2 : Int32) (v3 : Int32) (h : AH) : Option (Bool × AH) := if (f_X12_isIn v3 0 999999) = true then gd (ib 2 6 = true) (gd (ib 2 6 = true) (gd (ib (f_X12_at v1 v2) 320 = true) (lt (fun (x9 : Int32) (x10 : Int32) => if x9 ≤ x10 then gd (ib (f_X12_at v1 v2) 320 = true) (lt (sia h 208 (cl (f_X12_at v1 v2)) x9) (fun h13 => gd (ib (f_X12_at v1 v2) 320 = true) (lt (sia h13 209 (cl (f_X12_at v1 v2)) x10) (fun h15 => some (true, h15))))) else some (false, h)) (fun j6 => if (hia h 208 (cl (f_X12_at v1 v2))) = (-1) then j6 (f_J9_max_7cf53 0 (v3 - (hia h 215 (cl 2)))) (v3 + (hia h 215 (cl 2))) else gd (ib (f_X12_at v1 v2) 320 = true) (gd (ib (f_X12_at v1 v2) 320 = true) (j6 (f_J9_max_7cf53 (f_J9_max_7cf53 0 (v3 - (hia h 215 (cl 2)))) (hia h 208 (cl (f_X12_at v1 v2)))) (f_J9_min_7cf53 (v3 + (hia h 215 (cl 2))) (hia h 209 (cl (f_X12_at v1 v2)))))))))) else some (false, h)
set_option maxRecDepth 20000 in
theorem c_X12_reads (G : GG) (v1 : Int32) (v2 : Int32) (v3 : Int32) (h : AH) (r : Bool × AH) (hL : f_X12_reads v1 v2 v3 h = some r) : SpI G 2 mX12_reads [.ref (ad G 193), .int v1, .int v2, .int v3] h (bI r.1) r.2 := by
  refine sp_i pf_X12_reads (Nat.le_of_ble_eq_true rfl) ?_
  show J G mX12_reads 2 0 0 (KMi G (bI r.1) r.2) 0 [(0, .ref (ad G 193)), (1, .int v1), (2, .int v2), (3, .int v3)] [] h
  obtain ⟨K, hK⟩ : ∃ K, K = KMi G (bI r.1) r.2 := ⟨_, rfl⟩
  rw [← hK]
  unfold f_X12_reads at hL
  refine j_iload_n 3 dX12_reads_0 rfl ?_
  refine j_iconst 0 dX12_reads_1 (by decide) ?_
  refine j_ldcw rfl kk_RX12_319 dX12_reads_2 ?_
  refine j_callSi (c_X12_isIn G v3 0 999999 h) cv_RX12_161 rfl (by decide) rfl rfl (Nat.le_of_ble_eq_true rfl) dX12_reads_5 (by decide) ?_
  refine j_ifz_ne 13 dX12_reads_8 (by decide) (fun z1 => ?_) (fun z1 => ?_)
  · replace hL := (if_pos z1).symm.trans hL
    refine j_iload_n 1 dX12_reads_13 rfl ?_
    refine j_iload_n 2 dX12_reads_14 rfl ?_
    refine j_callSi (c_X12_at G v1 v2 h) cv_RX12_244 rfl (by decide) rfl rfl (Nat.le_of_ble_eq_true rfl) dX12_reads_15 (by decide) ?_
    refine j_istore (lv' := [(4, .int (f_X12_at v1 v2)), (0, .ref (ad G 193)), (1, .int v1), (2, .int v2), (3, .int v3)]) dX12_reads_18 (by decide) rfl ?_
    refine j_iconst 0 dX12_reads_20 (by decide) ?_
    refine j_iload_n 4 dX12_reads_21 rfl ?_
    refine j_aload_n 1 dX12_reads_22 rfl ?_
    refine jg_RX12_87 rfl sh_193 dX12_reads_23 ?_
    refine j_iconst 2 dX12_reads_26 (by decide) ?_
    obtain ⟨g2, hL⟩ := gd_ex hL
    refine j_iald (shf_12_22 sh_193) (ib_in g2) dX12_reads_27 ?_
    refine j_isub dX12_reads_28 ?_
    refine j_callSi (c_J9_max_7cf53 G 0 (v3 - (hia h 215 (cl 2))) h) cv_RX12_298 rfl (by decide) rfl rfl (Nat.le_of_ble_eq_true rfl) dX12_reads_29 (by decide) ?_
    refine j_istore (lv' := [(5, .int (f_J9_max_7cf53 0 (v3 - (hia h 215 (cl 2))))), (4, .int (f_X12_at v1 v2)), (0, .ref (ad G 193)), (1, .int v1), (2, .int v2), (3, .int v3)]) dX12_reads_32 (by decide) rfl ?_
    refine j_iload_n 5 dX12_reads_34 rfl ?_
    refine j_aload_n 2 dX12_reads_35 rfl ?_
    refine jg_RX12_87 rfl sh_193 dX12_reads_36 ?_
    refine j_iconst 2 dX12_reads_39 (by decide) ?_
    obtain ⟨g3, hL⟩ := gd_ex hL
    refine j_iald (shf_12_22 sh_193) (ib_in g3) dX12_reads_40 ?_
    refine j_iadd dX12_reads_41 ?_
    refine j_istore (lv' := [(6, .int (v3 + (hia h 215 (cl 2)))), (5, .int (f_J9_max_7cf53 0 (v3 - (hia h 215 (cl 2))))), (4, .int (f_X12_at v1 v2)), (0, .ref (ad G 193)), (1, .int v1), (2, .int v2), (3, .int v3)]) dX12_reads_42 (by decide) rfl ?_
    refine j_aload_n 3 dX12_reads_44 rfl ?_
    refine jg_RX12_66 rfl sh_193 dX12_reads_45 ?_
    refine j_iload 2 dX12_reads_48 rfl ?_
    obtain ⟨g4, hL⟩ := gd_ex hL
    refine j_iald (shf_12_15 sh_193) (ib_in g4) dX12_reads_50 ?_
    refine j_iconst (-1) dX12_reads_51 (by decide) ?_
    obtain ⟨j6, ej6, hL⟩ := lt_ex hL
    have kj6 : ∀ (x9 : Int32) (x10 : Int32), j6 x9 x10 = some r → J G mX12_reads 2 0 0 K 83 [(0, .ref (ad G 193)), (4, .int (f_X12_at v1 v2)), (5, .int x9), (6, .int x10)] [] h := by
      intro x9 x10 hL
      rw [ej6] at hL
      replace hL : (if x9 ≤ x10 then gd (ib (f_X12_at v1 v2) 320 = true) (lt (sia h 208 (cl (f_X12_at v1 v2)) x9) (fun h13 => gd (ib (f_X12_at v1 v2) 320 = true) (lt (sia h13 209 (cl (f_X12_at v1 v2)) x10) (fun h15 => some (true, h15))))) else some (false, h)) = some r := hL
      refine j_iload 2 dX12_reads_83 rfl ?_
      refine j_iload 3 dX12_reads_85 rfl ?_
      refine j_icmp_le 92 dX12_reads_87 (by decide) (fun z11 => ?_) (fun z11 => ?_)
      · replace hL := (if_pos z11).symm.trans hL
        refine j_aload_n 0 dX12_reads_92 rfl ?_
        refine jg_RX12_66 rfl sh_193 dX12_reads_93 ?_
        refine j_iload 1 dX12_reads_96 rfl ?_
        refine j_iload 2 dX12_reads_98 rfl ?_
        obtain ⟨g12, hL⟩ := gd_ex hL
        refine j_iast (shf_12_15 sh_193) (ib_in g12) dX12_reads_100 ?_
        obtain ⟨h13, eh13, hL⟩ := lt_ex hL
        refine j_heap eh13 ?_
        refine j_aload_n 0 dX12_reads_101 rfl ?_
        refine jg_RX12_69 rfl sh_193 dX12_reads_102 ?_
        refine j_iload 1 dX12_reads_105 rfl ?_
        refine j_iload 3 dX12_reads_107 rfl ?_
        obtain ⟨g14, hL⟩ := gd_ex hL
        refine j_iast (shf_12_16 sh_193) (ib_in g14) dX12_reads_109 ?_
        obtain ⟨h15, eh15, hL⟩ := lt_ex hL
        refine j_heap eh15 ?_
        refine j_iconst 1 dX12_reads_110 (by decide) ?_
        cases hL
        exact j_ret1 dX12_reads_111 rfl hK
      · replace hL := (if_neg z11).symm.trans hL
        refine j_iconst 0 dX12_reads_90 (by decide) ?_
        cases hL
        exact j_ret0 dX12_reads_91 rfl hK
    refine j_icmp_eq 83 dX12_reads_52 (by decide) (fun z5 => ?_) (fun z5 => ?_)
    · replace hL := (if_pos z5).symm.trans hL
      refine j_sub [3, 2, 1, 0] rfl ?_
      exact kj6 (f_J9_max_7cf53 0 (v3 - (hia h 215 (cl 2)))) (v3 + (hia h 215 (cl 2))) hL
    · replace hL := (if_neg z5).symm.trans hL
      refine j_iload 1 dX12_reads_55 rfl ?_
      refine j_aload_n 3 dX12_reads_57 rfl ?_
      refine jg_RX12_66 rfl sh_193 dX12_reads_58 ?_
      refine j_iload 2 dX12_reads_61 rfl ?_
      obtain ⟨g7, hL⟩ := gd_ex hL
      refine j_iald (shf_12_15 sh_193) (ib_in g7) dX12_reads_63 ?_
      refine j_callSi (c_J9_max_7cf53 G (f_J9_max_7cf53 0 (v3 - (hia h 215 (cl 2)))) (hia h 208 (cl (f_X12_at v1 v2))) h) cv_RX12_298 rfl (by decide) rfl rfl (Nat.le_of_ble_eq_true rfl) dX12_reads_64 (by decide) ?_
      refine j_istore (lv' := [(5, .int (f_J9_max_7cf53 (f_J9_max_7cf53 0 (v3 - (hia h 215 (cl 2)))) (hia h 208 (cl (f_X12_at v1 v2))))), (6, .int (v3 + (hia h 215 (cl 2)))), (4, .int (f_X12_at v1 v2)), (0, .ref (ad G 193)), (1, .int v1), (2, .int v2), (3, .int v3)]) dX12_reads_67 (by decide) rfl ?_
      refine j_iload 1 dX12_reads_69 rfl ?_
      refine j_aload_n 3 dX12_reads_71 rfl ?_
      refine jg_RX12_69 rfl sh_193 dX12_reads_72 ?_
      refine j_iload 2 dX12_reads_75 rfl ?_
      obtain ⟨g8, hL⟩ := gd_ex hL
      refine j_iald (shf_12_16 sh_193) (ib_in g8) dX12_reads_77 ?_
      refine j_callSi (c_J9_min_7cf53 G (v3 + (hia h 215 (cl 2))) (hia h 209 (cl (f_X12_at v1 v2))) h) cv_RX12_198 rfl (by decide) rfl rfl (Nat.le_of_ble_eq_true rfl) dX12_reads_78 (by decide) ?_
      refine j_istore (lv' := [(6, .int (f_J9_min_7cf53 (v3 + (hia h 215 (cl 2))) (hia h 209 (cl (f_X12_at v1 v2))))), (5, .int (f_J9_max_7cf53 (f_J9_max_7cf53 0 (v3 - (hia h 215 (cl 2)))) (hia h 208 (cl (f_X12_at v1 v2))))), (4, .int (f_X12_at v1 v2)), (0, .ref (ad G 193)), (1, .int v1), (2, .int v2), (3, .int v3)]) dX12_reads_81 (by decide) rfl ?_
      refine j_sub [3, 2, 1, 0] rfl ?_
      exact kj6 (f_J9_max_7cf53 (f_J9_max_7cf53 0 (v3 - (hia h 215 (cl 2)))) (hia h 208 (cl (f_X12_at v1 v2)))) (f_J9_min_7cf53 (v3 + (hia h 215 (cl 2))) (hia h 209 (cl (f_X12_at v1 v2)))) hL
  · replace hL := (if_neg z1).symm.trans hL
    refine j_iconst 0 dX12_reads_11 (by decide) ?_
    cases hL
    exact j_ret0 dX12_reads_12 rfl hK

def f_X12_draw (v1 : Int32) (h : AH) : Option (Int32 × AH) := lt (sfi h 193 40 (((hfi h 193 40) * 1103515245) + 12345)) (fun h1 => gd (¬ v1 = 0) (some ((((hfi h1 193 40) >>> ((16 : Int32) &&& 31)) &&& 32767) - (((hfi h1 193 40) >>> ((16 : Int32) &&& 31)) &&& 32767) / v1 * v1, h1)))
set_option maxRecDepth 20000 in
theorem c_X12_draw (G : GG) (v1 : Int32) (h : AH) (r : Int32 × AH) (hL : f_X12_draw v1 h = some r) : SpI G 1 mX12_draw [.ref (ad G 193), .int v1] h r.1 r.2 := by
  refine sp_i pf_X12_draw (Nat.le_of_ble_eq_true rfl) ?_
  show J G mX12_draw 1 0 0 (KMi G r.1 r.2) 0 [(0, .ref (ad G 193)), (1, .int v1)] [] h
  obtain ⟨K, hK⟩ : ∃ K, K = KMi G r.1 r.2 := ⟨_, rfl⟩
  rw [← hK]
  unfold f_X12_draw at hL
  refine j_aload_n 0 dX12_draw_0 rfl ?_
  refine j_aload_n 0 dX12_draw_1 rfl ?_
  refine jg_RX12_320 rfl sh_193 dX12_draw_2 ?_
  refine j_ldcw rfl kk_RX12_323 dX12_draw_5 ?_
  refine j_imul dX12_draw_8 ?_
  refine j_sipush 12345 dX12_draw_9 (by decide) ?_
  refine j_iadd dX12_draw_12 ?_
  refine jp_RX12_320 rfl sh_193 dX12_draw_13 ?_
  obtain ⟨h1, eh1, hL⟩ := lt_ex hL
  refine j_heap eh1 ?_
  refine j_aload_n 0 dX12_draw_16 rfl ?_
  refine jg_RX12_320 rfl sh_193 dX12_draw_17 ?_
  refine j_bipush 16 dX12_draw_20 (by decide) ?_
  refine j_ishr dX12_draw_22 ?_
  refine j_sipush 32767 dX12_draw_23 (by decide) ?_
  refine j_iand dX12_draw_26 ?_
  refine j_iload_n 1 dX12_draw_27 rfl ?_
  obtain ⟨g2, hL⟩ := gd_ex hL
  refine j_irem dX12_draw_28 g2 ?_
  cases hL
  exact j_reti dX12_draw_29 rfl hK

def f_X12_drawAll_l4 (v1 : Int32) : Nat → Int32 → Int32 → AH → Option (Int32 × AH)
  | 0, _, _, _ => none
  | n + 1, v2, v3, h => gd (ib v1 8 = true) (if (hia h 196 (cl v1)) ≤ v3 then some (v2, h) else gd (ib v3 40 = true) (gd (ib 2 6 = true) (bnd (f_X12_draw ((2 * (hia h 215 (cl 2))) + 1) h) (fun q5 => gd (ib 2 6 = true) (bnd (f_X12_reads v1 v3 (f_J9_max_7cf53 0 (((hia h 222 (cl v3)) + q5.1) - (hia q5.2 215 (cl 2)))) q5.2) (fun q7 => if q7.1 = true then f_X12_drawAll_l4 v1 n (v2 + 0) (v3 + 1) q7.2 else f_X12_drawAll_l4 v1 n (v2 + 1) (v3 + 1) q7.2))))))
def f_X12_drawAll (v1 : Int32) (h : AH) : Option (Int32 × AH) := bnd (f_X12_drawAll_l4 v1 FU 0 0 h) (fun q9 => some (q9.1, q9.2))
set_option maxRecDepth 20000 in
theorem cl_X12_drawAll_4 (G : GG) (K : KQ) (v1 : Int32)  : ∀ (n : Nat) (v2 : Int32) (v3 : Int32) (h : AH) (r : Int32 × AH), f_X12_drawAll_l4 v1 n v2 v3 h = some r → J G mX12_drawAll 3 0 0 K 73 [(2, .int r.1)] [] r.2 → J G mX12_drawAll 3 0 0 K 4 [(0, .ref (ad G 193)), (1, .int v1), (2, .int v2), (3, .int v3)] [] h := by
  intro n
  induction n with
  | zero => intro v2 v3 h r hL; cases hL
  | succ n ih =>
    intro v2 v3 h r hL kE
    unfold f_X12_drawAll_l4 at hL
    refine j_iload_n 3 dX12_drawAll_4 rfl ?_
    refine j_aload_n 0 dX12_drawAll_5 rfl ?_
    refine jg_RX12_32 rfl sh_193 dX12_drawAll_6 ?_
    refine j_iload_n 1 dX12_drawAll_9 rfl ?_
    obtain ⟨g1, hL⟩ := gd_ex hL
    refine j_iald (shf_12_3 sh_193) (ib_in g1) dX12_drawAll_10 ?_
    refine j_icmp_ge 73 dX12_drawAll_11 (by decide) (fun z2 => ?_) (fun z2 => ?_)
    · replace hL := (if_pos z2).symm.trans hL
      cases hL
      refine j_sub [2] rfl ?_
      exact kE 
    · replace hL := (if_neg z2).symm.trans hL
      refine j_iconst 0 dX12_drawAll_14 (by decide) ?_
      refine j_aload_n 0 dX12_drawAll_15 rfl ?_
      refine jg_RX12_112 rfl sh_193 dX12_drawAll_16 ?_
      refine j_iload_n 3 dX12_drawAll_19 rfl ?_
      obtain ⟨g3, hL⟩ := gd_ex hL
      refine j_iald (shf_12_39 sh_193) (ib_in g3) dX12_drawAll_20 ?_
      refine j_aload_n 0 dX12_drawAll_21 rfl ?_
      refine j_iconst 2 dX12_drawAll_22 (by decide) ?_
      refine j_aload_n 0 dX12_drawAll_23 rfl ?_
      refine jg_RX12_87 rfl sh_193 dX12_drawAll_24 ?_
      refine j_iconst 2 dX12_drawAll_27 (by decide) ?_
      obtain ⟨g4, hL⟩ := gd_ex hL
      refine j_iald (shf_12_22 sh_193) (ib_in g4) dX12_drawAll_28 ?_
      refine j_imul dX12_drawAll_29 ?_
      refine j_iconst 1 dX12_drawAll_30 (by decide) ?_
      refine j_iadd dX12_drawAll_31 ?_
      obtain ⟨q5, hq5, hL⟩ := bnd_ex hL
      refine j_callVi (c_X12_draw G ((2 * (hia h 215 (cl 2))) + 1) h _ hq5) cv_RX12_324 rfl sh_193 (by decide) rfl (by decide) rfl rfl (Nat.le_of_ble_eq_true rfl) dX12_drawAll_32 (by decide) ?_
      refine j_iadd dX12_drawAll_35 ?_
      refine j_aload_n 0 dX12_drawAll_36 rfl ?_
      refine jg_RX12_87 rfl sh_193 dX12_drawAll_37 ?_
      refine j_iconst 2 dX12_drawAll_40 (by decide) ?_
      obtain ⟨g6, hL⟩ := gd_ex hL
      refine j_iald (shf_12_22 sh_193) (ib_in g6) dX12_drawAll_41 ?_
      refine j_isub dX12_drawAll_42 ?_
      refine j_callSi (c_J9_max_7cf53 G 0 (((hia h 222 (cl v3)) + q5.1) - (hia q5.2 215 (cl 2))) q5.2) cv_RX12_298 rfl (by decide) rfl rfl (Nat.le_of_ble_eq_true rfl) dX12_drawAll_43 (by decide) ?_
      refine j_istore (lv' := [(4, .int (f_J9_max_7cf53 0 (((hia h 222 (cl v3)) + q5.1) - (hia q5.2 215 (cl 2))))), (0, .ref (ad G 193)), (1, .int v1), (2, .int v2), (3, .int v3)]) dX12_drawAll_46 (by decide) rfl ?_
      refine j_iload_n 3 dX12_drawAll_48 rfl ?_
      refine j_aload_n 1 dX12_drawAll_49 rfl ?_
      refine j_iload_n 2 dX12_drawAll_50 rfl ?_
      refine j_iload_n 4 dX12_drawAll_51 rfl ?_
      refine j_iload 0 dX12_drawAll_52 rfl ?_
      obtain ⟨q7, hq7, hL⟩ := bnd_ex hL
      refine j_callVi (c_X12_reads G v1 v3 (f_J9_max_7cf53 0 (((hia h 222 (cl v3)) + q5.1) - (hia q5.2 215 (cl 2)))) q5.2 _ hq7) cv_RX12_327 rfl sh_193 (by decide) rfl (by decide) rfl rfl (Nat.le_of_ble_eq_true rfl) dX12_drawAll_54 (by decide) ?_
      refine j_ifz_eq 64 dX12_drawAll_57 (by decide) (fun z8 => ?_) (fun z8 => ?_)
      · replace hL := (if_neg z8).symm.trans hL
        refine j_iconst 1 dX12_drawAll_64 (by decide) ?_
        refine j_iadd dX12_drawAll_65 ?_
        refine j_istore_n (lv' := [(2, .int (v2 + 1)), (4, .int (f_J9_max_7cf53 0 (((hia h 222 (cl v3)) + q5.1) - (hia q5.2 215 (cl 2))))), (0, .ref (ad G 193)), (1, .int v1), (3, .int v3)]) dX12_drawAll_66 (by decide) rfl ?_
        refine j_iinc (lv' := [(3, .int (v3 + 1)), (2, .int (v2 + 1)), (4, .int (f_J9_max_7cf53 0 (((hia h 222 (cl v3)) + q5.1) - (hia q5.2 215 (cl 2))))), (0, .ref (ad G 193)), (1, .int v1)]) 4 dX12_drawAll_67 rfl rfl (by decide) rfl ?_
        refine j_goto 4 dX12_drawAll_70 (by decide) ?_
        refine j_sub [3, 4, 1, 0] rfl ?_
        exact ih (v2 + 1) (v3 + 1) q7.2 r hL kE
      · replace hL := (if_pos z8).symm.trans hL
        refine j_iconst 0 dX12_drawAll_60 (by decide) ?_
        refine j_goto 65 dX12_drawAll_61 (by decide) ?_
        refine j_iadd dX12_drawAll_65 ?_
        refine j_istore_n (lv' := [(2, .int (v2 + 0)), (4, .int (f_J9_max_7cf53 0 (((hia h 222 (cl v3)) + q5.1) - (hia q5.2 215 (cl 2))))), (0, .ref (ad G 193)), (1, .int v1), (3, .int v3)]) dX12_drawAll_66 (by decide) rfl ?_
        refine j_iinc (lv' := [(3, .int (v3 + 1)), (2, .int (v2 + 0)), (4, .int (f_J9_max_7cf53 0 (((hia h 222 (cl v3)) + q5.1) - (hia q5.2 215 (cl 2))))), (0, .ref (ad G 193)), (1, .int v1)]) 4 dX12_drawAll_67 rfl rfl (by decide) rfl ?_
        refine j_goto 4 dX12_drawAll_70 (by decide) ?_
        refine j_sub [3, 4, 1, 0] rfl ?_
        exact ih (v2 + 0) (v3 + 1) q7.2 r hL kE

set_option maxRecDepth 20000 in
theorem c_X12_drawAll (G : GG) (v1 : Int32) (h : AH) (r : Int32 × AH) (hL : f_X12_drawAll v1 h = some r) : SpI G 3 mX12_drawAll [.ref (ad G 193), .int v1] h r.1 r.2 := by
  refine sp_i pf_X12_drawAll (Nat.le_of_ble_eq_true rfl) ?_
  show J G mX12_drawAll 3 0 0 (KMi G r.1 r.2) 0 [(0, .ref (ad G 193)), (1, .int v1)] [] h
  obtain ⟨K, hK⟩ : ∃ K, K = KMi G r.1 r.2 := ⟨_, rfl⟩
  rw [← hK]
  unfold f_X12_drawAll at hL
  refine j_iconst 0 dX12_drawAll_0 (by decide) ?_
  refine j_istore_n (lv' := [(2, .int 0), (0, .ref (ad G 193)), (1, .int v1)]) dX12_drawAll_1 (by decide) rfl ?_
  refine j_iconst 0 dX12_drawAll_2 (by decide) ?_
  refine j_istore_n (lv' := [(3, .int 0), (2, .int 0), (0, .ref (ad G 193)), (1, .int v1)]) dX12_drawAll_3 (by decide) rfl ?_
  obtain ⟨q9, hq9, hL⟩ := bnd_ex hL
  refine j_sub [2, 3, 1, 0] rfl ?_
  refine cl_X12_drawAll_4 G K v1 FU 0 0 h q9 hq9 ?_
  refine j_iload_n 0 dX12_drawAll_73 rfl ?_
  cases hL
  exact j_reti dX12_drawAll_74 rfl hK

def f_X12_drawn (v1 : Int32) (v2 : Int32) (h : AH) : Option (Int32 × AH) := lt (sfi h 193 2 0) (fun h1 => if (f_X12_isBook v1) = true then lt (sfi h1 193 40 v2) (fun h3 => bnd (f_X12_tellDirt v1 h3) (fun q4 => bnd (f_X12_drawAll v1 q4) (fun q5 => gd (ib 1 4 = true) (gd (ib 1 4 = true) (lt (sia q5.2 218 (cl 1) ((hia q5.2 218 (cl 1)) + q5.1)) (fun h8 => some (q5.1, h8))))))) else bnd (f_X12_fail 1 h1) (fun q9 => some (q9.1, q9.2)))
set_option maxRecDepth 20000 in
theorem c_X12_drawn (G : GG) (v1 : Int32) (v2 : Int32) (h : AH) (r : Int32 × AH) (hL : f_X12_drawn v1 v2 h = some r) : SpI G 6 mX12_drawn [.ref (ad G 193), .int v1, .int v2] h r.1 r.2 := by
  refine sp_i pf_X12_drawn (Nat.le_of_ble_eq_true rfl) ?_
  show J G mX12_drawn 6 0 0 (KMi G r.1 r.2) 0 [(0, .ref (ad G 193)), (1, .int v1), (2, .int v2)] [] h
  obtain ⟨K, hK⟩ : ∃ K, K = KMi G r.1 r.2 := ⟨_, rfl⟩
  rw [← hK]
  unfold f_X12_drawn at hL
  refine j_aload_n 0 dX12_drawn_0 rfl ?_
  refine j_iconst 0 dX12_drawn_1 (by decide) ?_
  refine jp_RX12_158 rfl sh_193 dX12_drawn_2 ?_
  obtain ⟨h1, eh1, hL⟩ := lt_ex hL
  refine j_heap eh1 ?_
  refine j_iload_n 1 dX12_drawn_5 rfl ?_
  refine j_callSi (c_X12_isBook G v1 h1) cv_RX12_165 rfl (by decide) rfl rfl (Nat.le_of_ble_eq_true rfl) dX12_drawn_6 (by decide) ?_
  refine j_ifz_ne 18 dX12_drawn_9 (by decide) (fun z2 => ?_) (fun z2 => ?_)
  · replace hL := (if_pos z2).symm.trans hL
    refine j_aload_n 0 dX12_drawn_18 rfl ?_
    refine j_iload_n 2 dX12_drawn_19 rfl ?_
    refine jp_RX12_320 rfl sh_193 dX12_drawn_20 ?_
    obtain ⟨h3, eh3, hL⟩ := lt_ex hL
    refine j_heap eh3 ?_
    refine j_aload_n 0 dX12_drawn_23 rfl ?_
    refine j_iload_n 1 dX12_drawn_24 rfl ?_
    obtain ⟨q4, hq4, hL⟩ := bnd_ex hL
    refine j_callVv (c_X12_tellDirt G v1 h3 _ hq4) cv_RX12_316 rfl sh_193 (by decide) rfl (by decide) rfl rfl (Nat.le_of_ble_eq_true rfl) dX12_drawn_25 (by decide) ?_
    refine j_aload_n 0 dX12_drawn_28 rfl ?_
    refine j_iload_n 1 dX12_drawn_29 rfl ?_
    obtain ⟨q5, hq5, hL⟩ := bnd_ex hL
    refine j_callVi (c_X12_drawAll G v1 q4 _ hq5) cv_RX12_330 rfl sh_193 (by decide) rfl (by decide) rfl rfl (Nat.le_of_ble_eq_true rfl) dX12_drawn_30 (by decide) ?_
    refine j_istore_n (lv' := [(3, .int q5.1), (0, .ref (ad G 193)), (1, .int v1), (2, .int v2)]) dX12_drawn_33 (by decide) rfl ?_
    refine j_aload_n 1 dX12_drawn_34 rfl ?_
    refine jg_RX12_96 rfl sh_193 dX12_drawn_35 ?_
    refine j_iconst 1 dX12_drawn_38 (by decide) ?_
    refine j_dup2 dX12_drawn_39 rfl rfl ?_
    obtain ⟨g6, hL⟩ := gd_ex hL
    refine j_iald (shf_12_25 sh_193) (ib_in g6) dX12_drawn_40 ?_
    refine j_iload_n 0 dX12_drawn_41 rfl ?_
    refine j_iadd dX12_drawn_42 ?_
    obtain ⟨g7, hL⟩ := gd_ex hL
    refine j_iast (shf_12_25 sh_193) (ib_in g7) dX12_drawn_43 ?_
    obtain ⟨h8, eh8, hL⟩ := lt_ex hL
    refine j_heap eh8 ?_
    refine j_iload_n 0 dX12_drawn_44 rfl ?_
    cases hL
    exact j_reti dX12_drawn_45 rfl hK
  · replace hL := (if_neg z2).symm.trans hL
    refine j_aload_n 0 dX12_drawn_12 rfl ?_
    refine j_iconst 1 dX12_drawn_13 (by decide) ?_
    obtain ⟨q9, hq9, hL⟩ := bnd_ex hL
    refine j_callVi (c_X12_fail G 1 h1 _ hq9) cv_RX12_263 rfl sh_193 (by decide) rfl (by decide) rfl rfl (Nat.le_of_ble_eq_true rfl) dX12_drawn_14 (by decide) ?_
    cases hL
    exact j_reti dX12_drawn_17 rfl hK

def f_X12_read (v1 : Int32) (v2 : Int32) (v3 : Int32) (h : AH) : Option (Bool × AH) := lt (sfi h 193 2 0) (fun h1 => bnd (f_X12_isLeaf v1 v2 h1) (fun q2 => if q2 = true then bnd (f_X12_reads v1 v2 v3 h1) (fun q4 => gd (ib 1 4 = true) (if q4.1 = true then gd (ib 1 4 = true) (lt (sia q4.2 218 (cl 1) ((hia q4.2 218 (cl 1)) + 0)) (fun h10 => some (q4.1, h10))) else gd (ib 1 4 = true) (lt (sia q4.2 218 (cl 1) ((hia q4.2 218 (cl 1)) + 1)) (fun h8 => some (q4.1, h8))))) else lt (sfi h1 193 2 1) (fun h11 => some (false, h11))))
set_option maxRecDepth 20000 in
theorem c_X12_read (G : GG) (v1 : Int32) (v2 : Int32) (v3 : Int32) (h : AH) (r : Bool × AH) (hL : f_X12_read v1 v2 v3 h = some r) : SpI G 4 mX12_read [.ref (ad G 193), .int v1, .int v2, .int v3] h (bI r.1) r.2 := by
  refine sp_i pf_X12_read (Nat.le_of_ble_eq_true rfl) ?_
  show J G mX12_read 4 0 0 (KMi G (bI r.1) r.2) 0 [(0, .ref (ad G 193)), (1, .int v1), (2, .int v2), (3, .int v3)] [] h
  obtain ⟨K, hK⟩ : ∃ K, K = KMi G (bI r.1) r.2 := ⟨_, rfl⟩
  rw [← hK]
  unfold f_X12_read at hL
  refine j_aload_n 0 dX12_read_0 rfl ?_
  refine j_iconst 0 dX12_read_1 (by decide) ?_
  refine jp_RX12_158 rfl sh_193 dX12_read_2 ?_
  obtain ⟨h1, eh1, hL⟩ := lt_ex hL
  refine j_heap eh1 ?_
  refine j_aload_n 0 dX12_read_5 rfl ?_
  refine j_iload_n 1 dX12_read_6 rfl ?_
  refine j_iload_n 2 dX12_read_7 rfl ?_
  obtain ⟨q2, hq2, hL⟩ := bnd_ex hL
  refine j_callVi (c_X12_isLeaf G v1 v2 h1 _ hq2) cv_RX12_294 rfl sh_193 (by decide) rfl (by decide) rfl rfl (Nat.le_of_ble_eq_true rfl) dX12_read_8 (by decide) ?_
  refine j_ifz_ne 21 dX12_read_11 (by decide) (fun z3 => ?_) (fun z3 => ?_)
  · replace hL := (if_pos z3).symm.trans hL
    refine j_aload_n 0 dX12_read_21 rfl ?_
    refine j_iload_n 1 dX12_read_22 rfl ?_
    refine j_iload_n 2 dX12_read_23 rfl ?_
    refine j_iload_n 3 dX12_read_24 rfl ?_
    obtain ⟨q4, hq4, hL⟩ := bnd_ex hL
    refine j_callVi (c_X12_reads G v1 v2 v3 h1 _ hq4) cv_RX12_327 rfl sh_193 (by decide) rfl (by decide) rfl rfl (Nat.le_of_ble_eq_true rfl) dX12_read_25 (by decide) ?_
    refine j_istore (lv' := [(4, .int (bI q4.1)), (0, .ref (ad G 193)), (1, .int v1), (2, .int v2), (3, .int v3)]) dX12_read_28 (by decide) rfl ?_
    refine j_aload_n 1 dX12_read_30 rfl ?_
    refine jg_RX12_96 rfl sh_193 dX12_read_31 ?_
    refine j_iconst 1 dX12_read_34 (by decide) ?_
    refine j_dup2 dX12_read_35 rfl rfl ?_
    obtain ⟨g5, hL⟩ := gd_ex hL
    refine j_iald (shf_12_25 sh_193) (ib_in g5) dX12_read_36 ?_
    refine j_iload 0 dX12_read_37 rfl ?_
    refine j_ifz_eq 46 dX12_read_39 (by decide) (fun z6 => ?_) (fun z6 => ?_)
    · replace hL := (if_neg z6).symm.trans hL
      refine j_iconst 1 dX12_read_46 (by decide) ?_
      refine j_iadd dX12_read_47 ?_
      obtain ⟨g7, hL⟩ := gd_ex hL
      refine j_iast (shf_12_25 sh_193) (ib_in g7) dX12_read_48 ?_
      obtain ⟨h8, eh8, hL⟩ := lt_ex hL
      refine j_heap eh8 ?_
      refine j_iload 0 dX12_read_49 rfl ?_
      cases hL
      exact j_retz dX12_read_51 rfl hK
    · replace hL := (if_pos z6).symm.trans hL
      refine j_iconst 0 dX12_read_42 (by decide) ?_
      refine j_goto 47 dX12_read_43 (by decide) ?_
      refine j_iadd dX12_read_47 ?_
      obtain ⟨g9, hL⟩ := gd_ex hL
      refine j_iast (shf_12_25 sh_193) (ib_in g9) dX12_read_48 ?_
      obtain ⟨h10, eh10, hL⟩ := lt_ex hL
      refine j_heap eh10 ?_
      refine j_iload 0 dX12_read_49 rfl ?_
      cases hL
      exact j_retz dX12_read_51 rfl hK
  · replace hL := (if_neg z3).symm.trans hL
    refine j_aload_n 0 dX12_read_14 rfl ?_
    refine j_iconst 1 dX12_read_15 (by decide) ?_
    refine jp_RX12_158 rfl sh_193 dX12_read_16 ?_
    obtain ⟨h11, eh11, hL⟩ := lt_ex hL
    refine j_heap eh11 ?_
    refine j_iconst 0 dX12_read_19 (by decide) ?_
    cases hL
    exact j_ret0 dX12_read_20 rfl hK

def f_X12_bareLow (v1 : Int32) (v2 : Int32) (h : AH) : Option (Int32) := gd (ib (f_X12_at v1 v2) 320 = true) (gd (ib (f_X12_at v1 v2) 320 = true) (bnd (f_X12_hairOf v1 v2 h) (fun q3 => some (f_J9_max_7cf53 0 (((hia h 208 (cl (f_X12_at v1 v2))) - (hia h 205 (cl (f_X12_at v1 v2)))) - q3)))))
set_option maxRecDepth 20000 in
theorem c_X12_bareLow (G : GG) (v1 : Int32) (v2 : Int32) (h : AH) (r : Int32) (hL : f_X12_bareLow v1 v2 h = some r) : SpI G 2 mX12_bareLow [.ref (ad G 193), .int v1, .int v2] h r h := by
  refine sp_i pf_X12_bareLow (Nat.le_of_ble_eq_true rfl) ?_
  show J G mX12_bareLow 2 0 0 (KMi G r h) 0 [(0, .ref (ad G 193)), (1, .int v1), (2, .int v2)] [] h
  obtain ⟨K, hK⟩ : ∃ K, K = KMi G r h := ⟨_, rfl⟩
  rw [← hK]
  unfold f_X12_bareLow at hL
  refine j_iconst 0 dX12_bareLow_0 (by decide) ?_
  refine j_aload_n 0 dX12_bareLow_1 rfl ?_
  refine jg_RX12_66 rfl sh_193 dX12_bareLow_2 ?_
  refine j_iload_n 1 dX12_bareLow_5 rfl ?_
  refine j_iload_n 2 dX12_bareLow_6 rfl ?_
  refine j_callSi (c_X12_at G v1 v2 h) cv_RX12_244 rfl (by decide) rfl rfl (Nat.le_of_ble_eq_true rfl) dX12_bareLow_7 (by decide) ?_
  obtain ⟨g1, hL⟩ := gd_ex hL
  refine j_iald (shf_12_15 sh_193) (ib_in g1) dX12_bareLow_10 ?_
  refine j_aload_n 0 dX12_bareLow_11 rfl ?_
  refine jg_RX12_58 rfl sh_193 dX12_bareLow_12 ?_
  refine j_iload_n 1 dX12_bareLow_15 rfl ?_
  refine j_iload_n 2 dX12_bareLow_16 rfl ?_
  refine j_callSi (c_X12_at G v1 v2 h) cv_RX12_244 rfl (by decide) rfl rfl (Nat.le_of_ble_eq_true rfl) dX12_bareLow_17 (by decide) ?_
  obtain ⟨g2, hL⟩ := gd_ex hL
  refine j_iald (shf_12_12 sh_193) (ib_in g2) dX12_bareLow_20 ?_
  refine j_isub dX12_bareLow_21 ?_
  refine j_aload_n 0 dX12_bareLow_22 rfl ?_
  refine j_iload_n 1 dX12_bareLow_23 rfl ?_
  refine j_iload_n 2 dX12_bareLow_24 rfl ?_
  obtain ⟨q3, hq3, hL⟩ := bnd_ex hL
  refine j_callVi (c_X12_hairOf G v1 v2 h _ hq3) cv_RX12_313 rfl sh_193 (by decide) rfl (by decide) rfl rfl (Nat.le_of_ble_eq_true rfl) dX12_bareLow_25 (by decide) ?_
  refine j_isub dX12_bareLow_28 ?_
  refine j_callSi (c_J9_max_7cf53 G 0 (((hia h 208 (cl (f_X12_at v1 v2))) - (hia h 205 (cl (f_X12_at v1 v2)))) - q3) h) cv_RX12_298 rfl (by decide) rfl rfl (Nat.le_of_ble_eq_true rfl) dX12_bareLow_29 (by decide) ?_
  cases hL
  exact j_reti dX12_bareLow_32 rfl hK

def f_X12_bareHigh (v1 : Int32) (v2 : Int32) (h : AH) : Option (Int32) := gd (ib (f_X12_at v1 v2) 320 = true) (gd (ib (f_X12_at v1 v2) 320 = true) (bnd (f_X12_hairOf v1 v2 h) (fun q3 => some (f_J9_max_7cf53 0 (((hia h 209 (cl (f_X12_at v1 v2))) - (hia h 205 (cl (f_X12_at v1 v2)))) - q3)))))
set_option maxRecDepth 20000 in
theorem c_X12_bareHigh (G : GG) (v1 : Int32) (v2 : Int32) (h : AH) (r : Int32) (hL : f_X12_bareHigh v1 v2 h = some r) : SpI G 2 mX12_bareHigh [.ref (ad G 193), .int v1, .int v2] h r h := by
  refine sp_i pf_X12_bareHigh (Nat.le_of_ble_eq_true rfl) ?_
  show J G mX12_bareHigh 2 0 0 (KMi G r h) 0 [(0, .ref (ad G 193)), (1, .int v1), (2, .int v2)] [] h
  obtain ⟨K, hK⟩ : ∃ K, K = KMi G r h := ⟨_, rfl⟩
  rw [← hK]
  unfold f_X12_bareHigh at hL
  refine j_iconst 0 dX12_bareHigh_0 (by decide) ?_
  refine j_aload_n 0 dX12_bareHigh_1 rfl ?_
  refine jg_RX12_69 rfl sh_193 dX12_bareHigh_2 ?_
  refine j_iload_n 1 dX12_bareHigh_5 rfl ?_
  refine j_iload_n 2 dX12_bareHigh_6 rfl ?_
  refine j_callSi (c_X12_at G v1 v2 h) cv_RX12_244 rfl (by decide) rfl rfl (Nat.le_of_ble_eq_true rfl) dX12_bareHigh_7 (by decide) ?_
  obtain ⟨g1, hL⟩ := gd_ex hL
  refine j_iald (shf_12_16 sh_193) (ib_in g1) dX12_bareHigh_10 ?_
  refine j_aload_n 0 dX12_bareHigh_11 rfl ?_
  refine jg_RX12_58 rfl sh_193 dX12_bareHigh_12 ?_
  refine j_iload_n 1 dX12_bareHigh_15 rfl ?_
  refine j_iload_n 2 dX12_bareHigh_16 rfl ?_
  refine j_callSi (c_X12_at G v1 v2 h) cv_RX12_244 rfl (by decide) rfl rfl (Nat.le_of_ble_eq_true rfl) dX12_bareHigh_17 (by decide) ?_
  obtain ⟨g2, hL⟩ := gd_ex hL
  refine j_iald (shf_12_12 sh_193) (ib_in g2) dX12_bareHigh_20 ?_
  refine j_isub dX12_bareHigh_21 ?_
  refine j_aload_n 0 dX12_bareHigh_22 rfl ?_
  refine j_iload_n 1 dX12_bareHigh_23 rfl ?_
  refine j_iload_n 2 dX12_bareHigh_24 rfl ?_
  obtain ⟨q3, hq3, hL⟩ := bnd_ex hL
  refine j_callVi (c_X12_hairOf G v1 v2 h _ hq3) cv_RX12_313 rfl sh_193 (by decide) rfl (by decide) rfl rfl (Nat.le_of_ble_eq_true rfl) dX12_bareHigh_25 (by decide) ?_
  refine j_isub dX12_bareHigh_28 ?_
  refine j_callSi (c_J9_max_7cf53 G 0 (((hia h 209 (cl (f_X12_at v1 v2))) - (hia h 205 (cl (f_X12_at v1 v2)))) - q3) h) cv_RX12_298 rfl (by decide) rfl rfl (Nat.le_of_ble_eq_true rfl) dX12_bareHigh_29 (by decide) ?_
  cases hL
  exact j_reti dX12_bareHigh_32 rfl hK

def f_X12_through (v1 : Int32) (h : AH) : Option (Int32) := gd (ib 1 6 = true) (some (Int64.toInt32 ((v1.toInt64 * ((hia h 215 (cl 1)).toInt64)) / 100)))
set_option maxRecDepth 20000 in
theorem c_X12_through (G : GG) (v1 : Int32) (h : AH) (r : Int32) (hL : f_X12_through v1 h = some r) : SpI G 1 mX12_through [.ref (ad G 193), .int v1] h r h := by
  refine sp_i pf_X12_through (Nat.le_of_ble_eq_true rfl) ?_
  show J G mX12_through 1 0 0 (KMi G r h) 0 [(0, .ref (ad G 193)), (1, .int v1)] [] h
  obtain ⟨K, hK⟩ : ∃ K, K = KMi G r h := ⟨_, rfl⟩
  rw [← hK]
  unfold f_X12_through at hL
  refine j_iload_n 1 dX12_through_0 rfl ?_
  refine j_i2l dX12_through_1 ?_
  refine j_aload_n 0 dX12_through_2 rfl ?_
  refine jg_RX12_87 rfl sh_193 dX12_through_3 ?_
  refine j_iconst 1 dX12_through_6 (by decide) ?_
  obtain ⟨g1, hL⟩ := gd_ex hL
  refine j_iald (shf_12_22 sh_193) (ib_in g1) dX12_through_7 ?_
  refine j_i2l dX12_through_8 ?_
  refine j_lmul dX12_through_9 ?_
  refine j_ldc2 rfl kk_RX12_308 dX12_through_10 ?_
  refine j_ldiv dX12_through_13 (by decide) ?_
  refine j_l2i dX12_through_14 ?_
  cases hL
  exact j_reti dX12_through_15 rfl hK

def f_X12_undoneLow (v1 : Int32) (v2 : Int32) (v3 : Int32) (h : AH) : Option (Int32) := bnd (f_X12_bareLow v1 v2 h) (fun q1 => if v3 = (-1) then gd (ib (f_X12_at v1 v2) 320 = true) (some ((q1 - 0) - (hia h 207 (cl (f_X12_at v1 v2))))) else bnd (f_X12_bareHigh v1 v3 h) (fun q3 => bnd (f_X12_through q3 h) (fun q4 => gd (ib (f_X12_at v1 v2) 320 = true) (some ((q1 - q4) - (hia h 207 (cl (f_X12_at v1 v2))))))))
set_option maxRecDepth 20000 in
theorem c_X12_undoneLow (G : GG) (v1 : Int32) (v2 : Int32) (v3 : Int32) (h : AH) (r : Int32) (hL : f_X12_undoneLow v1 v2 v3 h = some r) : SpI G 3 mX12_undoneLow [.ref (ad G 193), .int v1, .int v2, .int v3] h r h := by
  refine sp_i pf_X12_undoneLow (Nat.le_of_ble_eq_true rfl) ?_
  show J G mX12_undoneLow 3 0 0 (KMi G r h) 0 [(0, .ref (ad G 193)), (1, .int v1), (2, .int v2), (3, .int v3)] [] h
  obtain ⟨K, hK⟩ : ∃ K, K = KMi G r h := ⟨_, rfl⟩
  rw [← hK]
  unfold f_X12_undoneLow at hL
  refine j_aload_n 0 dX12_undoneLow_0 rfl ?_
  refine j_iload_n 1 dX12_undoneLow_1 rfl ?_
  refine j_iload_n 2 dX12_undoneLow_2 rfl ?_
  obtain ⟨q1, hq1, hL⟩ := bnd_ex hL
  refine j_callVi (c_X12_bareLow G v1 v2 h _ hq1) cv_RX12_333 rfl sh_193 (by decide) rfl (by decide) rfl rfl (Nat.le_of_ble_eq_true rfl) dX12_undoneLow_3 (by decide) ?_
  refine j_iload_n 3 dX12_undoneLow_6 rfl ?_
  refine j_iconst (-1) dX12_undoneLow_7 (by decide) ?_
  refine j_icmp_ne 15 dX12_undoneLow_8 (by decide) (fun z2 => ?_) (fun z2 => ?_)
  · replace hL := (if_neg z2).symm.trans hL
    refine j_aload_n 0 dX12_undoneLow_15 rfl ?_
    refine j_aload_n 0 dX12_undoneLow_16 rfl ?_
    refine j_iload_n 1 dX12_undoneLow_17 rfl ?_
    refine j_iload_n 3 dX12_undoneLow_18 rfl ?_
    obtain ⟨q3, hq3, hL⟩ := bnd_ex hL
    refine j_callVi (c_X12_bareHigh G v1 v3 h _ hq3) cv_RX12_336 rfl sh_193 (by decide) rfl (by decide) rfl rfl (Nat.le_of_ble_eq_true rfl) dX12_undoneLow_19 (by decide) ?_
    obtain ⟨q4, hq4, hL⟩ := bnd_ex hL
    refine j_callVi (c_X12_through G q3 h _ hq4) cv_RX12_339 rfl sh_193 (by decide) rfl (by decide) rfl rfl (Nat.le_of_ble_eq_true rfl) dX12_undoneLow_22 (by decide) ?_
    refine j_isub dX12_undoneLow_25 ?_
    refine j_aload_n 0 dX12_undoneLow_26 rfl ?_
    refine jg_RX12_64 rfl sh_193 dX12_undoneLow_27 ?_
    refine j_iload_n 1 dX12_undoneLow_30 rfl ?_
    refine j_iload_n 2 dX12_undoneLow_31 rfl ?_
    refine j_callSi (c_X12_at G v1 v2 h) cv_RX12_244 rfl (by decide) rfl rfl (Nat.le_of_ble_eq_true rfl) dX12_undoneLow_32 (by decide) ?_
    obtain ⟨g5, hL⟩ := gd_ex hL
    refine j_iald (shf_12_14 sh_193) (ib_in g5) dX12_undoneLow_35 ?_
    refine j_isub dX12_undoneLow_36 ?_
    cases hL
    exact j_reti dX12_undoneLow_37 rfl hK
  · replace hL := (if_pos z2).symm.trans hL
    refine j_iconst 0 dX12_undoneLow_11 (by decide) ?_
    refine j_goto 25 dX12_undoneLow_12 (by decide) ?_
    refine j_isub dX12_undoneLow_25 ?_
    refine j_aload_n 0 dX12_undoneLow_26 rfl ?_
    refine jg_RX12_64 rfl sh_193 dX12_undoneLow_27 ?_
    refine j_iload_n 1 dX12_undoneLow_30 rfl ?_
    refine j_iload_n 2 dX12_undoneLow_31 rfl ?_
    refine j_callSi (c_X12_at G v1 v2 h) cv_RX12_244 rfl (by decide) rfl rfl (Nat.le_of_ble_eq_true rfl) dX12_undoneLow_32 (by decide) ?_
    obtain ⟨g6, hL⟩ := gd_ex hL
    refine j_iald (shf_12_14 sh_193) (ib_in g6) dX12_undoneLow_35 ?_
    refine j_isub dX12_undoneLow_36 ?_
    cases hL
    exact j_reti dX12_undoneLow_37 rfl hK

def f_X12_undoneHigh (v1 : Int32) (v2 : Int32) (v3 : Int32) (h : AH) : Option (Int32) := bnd (f_X12_bareHigh v1 v2 h) (fun q1 => if v3 = (-1) then gd (ib (f_X12_at v1 v2) 320 = true) (some ((q1 - 0) - (hia h 207 (cl (f_X12_at v1 v2))))) else bnd (f_X12_bareLow v1 v3 h) (fun q3 => bnd (f_X12_through q3 h) (fun q4 => gd (ib (f_X12_at v1 v2) 320 = true) (some ((q1 - q4) - (hia h 207 (cl (f_X12_at v1 v2))))))))
set_option maxRecDepth 20000 in
theorem c_X12_undoneHigh (G : GG) (v1 : Int32) (v2 : Int32) (v3 : Int32) (h : AH) (r : Int32) (hL : f_X12_undoneHigh v1 v2 v3 h = some r) : SpI G 3 mX12_undoneHigh [.ref (ad G 193), .int v1, .int v2, .int v3] h r h := by
  refine sp_i pf_X12_undoneHigh (Nat.le_of_ble_eq_true rfl) ?_
  show J G mX12_undoneHigh 3 0 0 (KMi G r h) 0 [(0, .ref (ad G 193)), (1, .int v1), (2, .int v2), (3, .int v3)] [] h
  obtain ⟨K, hK⟩ : ∃ K, K = KMi G r h := ⟨_, rfl⟩
  rw [← hK]
  unfold f_X12_undoneHigh at hL
  refine j_aload_n 0 dX12_undoneHigh_0 rfl ?_
  refine j_iload_n 1 dX12_undoneHigh_1 rfl ?_
  refine j_iload_n 2 dX12_undoneHigh_2 rfl ?_
  obtain ⟨q1, hq1, hL⟩ := bnd_ex hL
  refine j_callVi (c_X12_bareHigh G v1 v2 h _ hq1) cv_RX12_336 rfl sh_193 (by decide) rfl (by decide) rfl rfl (Nat.le_of_ble_eq_true rfl) dX12_undoneHigh_3 (by decide) ?_
  refine j_iload_n 3 dX12_undoneHigh_6 rfl ?_
  refine j_iconst (-1) dX12_undoneHigh_7 (by decide) ?_
  refine j_icmp_ne 15 dX12_undoneHigh_8 (by decide) (fun z2 => ?_) (fun z2 => ?_)
  · replace hL := (if_neg z2).symm.trans hL
    refine j_aload_n 0 dX12_undoneHigh_15 rfl ?_
    refine j_aload_n 0 dX12_undoneHigh_16 rfl ?_
    refine j_iload_n 1 dX12_undoneHigh_17 rfl ?_
    refine j_iload_n 3 dX12_undoneHigh_18 rfl ?_
    obtain ⟨q3, hq3, hL⟩ := bnd_ex hL
    refine j_callVi (c_X12_bareLow G v1 v3 h _ hq3) cv_RX12_333 rfl sh_193 (by decide) rfl (by decide) rfl rfl (Nat.le_of_ble_eq_true rfl) dX12_undoneHigh_19 (by decide) ?_
    obtain ⟨q4, hq4, hL⟩ := bnd_ex hL
    refine j_callVi (c_X12_through G q3 h _ hq4) cv_RX12_339 rfl sh_193 (by decide) rfl (by decide) rfl rfl (Nat.le_of_ble_eq_true rfl) dX12_undoneHigh_22 (by decide) ?_
    refine j_isub dX12_undoneHigh_25 ?_
    refine j_aload_n 0 dX12_undoneHigh_26 rfl ?_
    refine jg_RX12_64 rfl sh_193 dX12_undoneHigh_27 ?_
    refine j_iload_n 1 dX12_undoneHigh_30 rfl ?_
    refine j_iload_n 2 dX12_undoneHigh_31 rfl ?_
    refine j_callSi (c_X12_at G v1 v2 h) cv_RX12_244 rfl (by decide) rfl rfl (Nat.le_of_ble_eq_true rfl) dX12_undoneHigh_32 (by decide) ?_
    obtain ⟨g5, hL⟩ := gd_ex hL
    refine j_iald (shf_12_14 sh_193) (ib_in g5) dX12_undoneHigh_35 ?_
    refine j_isub dX12_undoneHigh_36 ?_
    cases hL
    exact j_reti dX12_undoneHigh_37 rfl hK
  · replace hL := (if_pos z2).symm.trans hL
    refine j_iconst 0 dX12_undoneHigh_11 (by decide) ?_
    refine j_goto 25 dX12_undoneHigh_12 (by decide) ?_
    refine j_isub dX12_undoneHigh_25 ?_
    refine j_aload_n 0 dX12_undoneHigh_26 rfl ?_
    refine jg_RX12_64 rfl sh_193 dX12_undoneHigh_27 ?_
    refine j_iload_n 1 dX12_undoneHigh_30 rfl ?_
    refine j_iload_n 2 dX12_undoneHigh_31 rfl ?_
    refine j_callSi (c_X12_at G v1 v2 h) cv_RX12_244 rfl (by decide) rfl rfl (Nat.le_of_ble_eq_true rfl) dX12_undoneHigh_32 (by decide) ?_
    obtain ⟨g6, hL⟩ := gd_ex hL
    refine j_iald (shf_12_14 sh_193) (ib_in g6) dX12_undoneHigh_35 ?_
    refine j_isub dX12_undoneHigh_36 ?_
    cases hL
    exact j_reti dX12_undoneHigh_37 rfl hK

def f_X12_turnsLow (v1 : Int32) (v2 : Int32) (h : AH) : Option (Int32) := bnd (f_X12_undoneLow v1 v2 (v2 - 1) h) (fun q1 => gd (ib 0 6 = true) (gd (ib 0 6 = true) (gd (¬ (hia h 215 (cl 0)) = 0) (some ((((f_J9_max_7cf53 0 q1) + (hia h 215 (cl 0))) - 1) / (hia h 215 (cl 0)))))))
set_option maxRecDepth 20000 in
theorem c_X12_turnsLow (G : GG) (v1 : Int32) (v2 : Int32) (h : AH) (r : Int32) (hL : f_X12_turnsLow v1 v2 h = some r) : SpI G 4 mX12_turnsLow [.ref (ad G 193), .int v1, .int v2] h r h := by
  refine sp_i pf_X12_turnsLow (Nat.le_of_ble_eq_true rfl) ?_
  show J G mX12_turnsLow 4 0 0 (KMi G r h) 0 [(0, .ref (ad G 193)), (1, .int v1), (2, .int v2)] [] h
  obtain ⟨K, hK⟩ : ∃ K, K = KMi G r h := ⟨_, rfl⟩
  rw [← hK]
  unfold f_X12_turnsLow at hL
  refine j_iconst 0 dX12_turnsLow_0 (by decide) ?_
  refine j_aload_n 0 dX12_turnsLow_1 rfl ?_
  refine j_iload_n 1 dX12_turnsLow_2 rfl ?_
  refine j_iload_n 2 dX12_turnsLow_3 rfl ?_
  refine j_iload_n 2 dX12_turnsLow_4 rfl ?_
  refine j_iconst 1 dX12_turnsLow_5 (by decide) ?_
  refine j_isub dX12_turnsLow_6 ?_
  obtain ⟨q1, hq1, hL⟩ := bnd_ex hL
  refine j_callVi (c_X12_undoneLow G v1 v2 (v2 - 1) h _ hq1) cv_RX12_342 rfl sh_193 (by decide) rfl (by decide) rfl rfl (Nat.le_of_ble_eq_true rfl) dX12_turnsLow_7 (by decide) ?_
  refine j_callSi (c_J9_max_7cf53 G 0 q1 h) cv_RX12_298 rfl (by decide) rfl rfl (Nat.le_of_ble_eq_true rfl) dX12_turnsLow_10 (by decide) ?_
  refine j_istore_n (lv' := [(3, .int (f_J9_max_7cf53 0 q1)), (0, .ref (ad G 193)), (1, .int v1), (2, .int v2)]) dX12_turnsLow_13 (by decide) rfl ?_
  refine j_iload_n 0 dX12_turnsLow_14 rfl ?_
  refine j_aload_n 1 dX12_turnsLow_15 rfl ?_
  refine jg_RX12_87 rfl sh_193 dX12_turnsLow_16 ?_
  refine j_iconst 0 dX12_turnsLow_19 (by decide) ?_
  obtain ⟨g2, hL⟩ := gd_ex hL
  refine j_iald (shf_12_22 sh_193) (ib_in g2) dX12_turnsLow_20 ?_
  refine j_iadd dX12_turnsLow_21 ?_
  refine j_iconst 1 dX12_turnsLow_22 (by decide) ?_
  refine j_isub dX12_turnsLow_23 ?_
  refine j_aload_n 1 dX12_turnsLow_24 rfl ?_
  refine jg_RX12_87 rfl sh_193 dX12_turnsLow_25 ?_
  refine j_iconst 0 dX12_turnsLow_28 (by decide) ?_
  obtain ⟨g3, hL⟩ := gd_ex hL
  refine j_iald (shf_12_22 sh_193) (ib_in g3) dX12_turnsLow_29 ?_
  obtain ⟨g4, hL⟩ := gd_ex hL
  refine j_idiv dX12_turnsLow_30 g4 ?_
  cases hL
  exact j_reti dX12_turnsLow_31 rfl hK

def f_X12_turnsHigh (v1 : Int32) (v2 : Int32) (h : AH) : Option (Int32) := bnd (f_X12_undoneHigh v1 v2 (v2 - 1) h) (fun q1 => gd (ib 0 6 = true) (bnd (f_J9_floorDiv_7cf53 q1 (hia h 215 (cl 0))) (fun q3 => some q3)))
set_option maxRecDepth 20000 in
theorem c_X12_turnsHigh (G : GG) (v1 : Int32) (v2 : Int32) (h : AH) (r : Int32) (hL : f_X12_turnsHigh v1 v2 h = some r) : SpI G 4 mX12_turnsHigh [.ref (ad G 193), .int v1, .int v2] h r h := by
  refine sp_i pf_X12_turnsHigh (Nat.le_of_ble_eq_true rfl) ?_
  show J G mX12_turnsHigh 4 0 0 (KMi G r h) 0 [(0, .ref (ad G 193)), (1, .int v1), (2, .int v2)] [] h
  obtain ⟨K, hK⟩ : ∃ K, K = KMi G r h := ⟨_, rfl⟩
  rw [← hK]
  unfold f_X12_turnsHigh at hL
  refine j_aload_n 0 dX12_turnsHigh_0 rfl ?_
  refine j_iload_n 1 dX12_turnsHigh_1 rfl ?_
  refine j_iload_n 2 dX12_turnsHigh_2 rfl ?_
  refine j_iload_n 2 dX12_turnsHigh_3 rfl ?_
  refine j_iconst 1 dX12_turnsHigh_4 (by decide) ?_
  refine j_isub dX12_turnsHigh_5 ?_
  obtain ⟨q1, hq1, hL⟩ := bnd_ex hL
  refine j_callVi (c_X12_undoneHigh G v1 v2 (v2 - 1) h _ hq1) cv_RX12_345 rfl sh_193 (by decide) rfl (by decide) rfl rfl (Nat.le_of_ble_eq_true rfl) dX12_turnsHigh_6 (by decide) ?_
  refine j_aload_n 0 dX12_turnsHigh_9 rfl ?_
  refine jg_RX12_87 rfl sh_193 dX12_turnsHigh_10 ?_
  refine j_iconst 0 dX12_turnsHigh_13 (by decide) ?_
  obtain ⟨g2, hL⟩ := gd_ex hL
  refine j_iald (shf_12_22 sh_193) (ib_in g2) dX12_turnsHigh_14 ?_
  obtain ⟨q3, hq3, hL⟩ := bnd_ex hL
  refine j_callSi (c_J9_floorDiv_7cf53 G q1 (hia h 215 (cl 0)) h _ hq3) cv_RX12_348 rfl (by decide) rfl rfl (Nat.le_of_ble_eq_true rfl) dX12_turnsHigh_15 (by decide) ?_
  cases hL
  exact j_reti dX12_turnsHigh_18 rfl hK

def f_X12_isStrange (v1 : Int32) (v2 : Int32) (h : AH) : Option (Bool) := bnd (f_X12_turnsLow v1 v2 h) (fun q1 => bnd (f_X12_turnsHigh v1 v2 h) (fun q2 => if q1 ≤ q2 then some false else some true))
set_option maxRecDepth 20000 in
theorem c_X12_isStrange (G : GG) (v1 : Int32) (v2 : Int32) (h : AH) (r : Bool) (hL : f_X12_isStrange v1 v2 h = some r) : SpI G 5 mX12_isStrange [.ref (ad G 193), .int v1, .int v2] h (bI r) h := by
  refine sp_i pf_X12_isStrange (Nat.le_of_ble_eq_true rfl) ?_
  show J G mX12_isStrange 5 0 0 (KMi G (bI r) h) 0 [(0, .ref (ad G 193)), (1, .int v1), (2, .int v2)] [] h
  obtain ⟨K, hK⟩ : ∃ K, K = KMi G (bI r) h := ⟨_, rfl⟩
  rw [← hK]
  unfold f_X12_isStrange at hL
  refine j_aload_n 0 dX12_isStrange_0 rfl ?_
  refine j_iload_n 1 dX12_isStrange_1 rfl ?_
  refine j_iload_n 2 dX12_isStrange_2 rfl ?_
  obtain ⟨q1, hq1, hL⟩ := bnd_ex hL
  refine j_callVi (c_X12_turnsLow G v1 v2 h _ hq1) cv_RX12_351 rfl sh_193 (by decide) rfl (by decide) rfl rfl (Nat.le_of_ble_eq_true rfl) dX12_isStrange_3 (by decide) ?_
  refine j_aload_n 0 dX12_isStrange_6 rfl ?_
  refine j_iload_n 1 dX12_isStrange_7 rfl ?_
  refine j_iload_n 2 dX12_isStrange_8 rfl ?_
  obtain ⟨q2, hq2, hL⟩ := bnd_ex hL
  refine j_callVi (c_X12_turnsHigh G v1 v2 h _ hq2) cv_RX12_354 rfl sh_193 (by decide) rfl (by decide) rfl rfl (Nat.le_of_ble_eq_true rfl) dX12_isStrange_9 (by decide) ?_
  refine j_icmp_le 19 dX12_isStrange_12 (by decide) (fun z3 => ?_) (fun z3 => ?_)
  · replace hL := (if_pos z3).symm.trans hL
    refine j_iconst 0 dX12_isStrange_19 (by decide) ?_
    cases hL
    exact j_ret0 dX12_isStrange_20 rfl hK
  · replace hL := (if_neg z3).symm.trans hL
    refine j_iconst 1 dX12_isStrange_15 (by decide) ?_
    refine j_goto 20 dX12_isStrange_16 (by decide) ?_
    cases hL
    exact j_ret1 dX12_isStrange_20 rfl hK

def f_X12_midst (v1 : Int32) (v2 : Int32) (h : AH) : Option (Int32) := bnd (f_X12_isStrange v1 v2 h) (fun q1 => if q1 = true then some 0 else bnd (f_X12_turnsLow v1 v2 h) (fun q3 => bnd (f_X12_turnsHigh v1 v2 h) (fun q4 => some (q3 + q4))))
set_option maxRecDepth 20000 in
theorem c_X12_midst (G : GG) (v1 : Int32) (v2 : Int32) (h : AH) (r : Int32) (hL : f_X12_midst v1 v2 h = some r) : SpI G 6 mX12_midst [.ref (ad G 193), .int v1, .int v2] h r h := by
  refine sp_i pf_X12_midst (Nat.le_of_ble_eq_true rfl) ?_
  show J G mX12_midst 6 0 0 (KMi G r h) 0 [(0, .ref (ad G 193)), (1, .int v1), (2, .int v2)] [] h
  obtain ⟨K, hK⟩ : ∃ K, K = KMi G r h := ⟨_, rfl⟩
  rw [← hK]
  unfold f_X12_midst at hL
  refine j_aload_n 0 dX12_midst_0 rfl ?_
  refine j_iload_n 1 dX12_midst_1 rfl ?_
  refine j_iload_n 2 dX12_midst_2 rfl ?_
  obtain ⟨q1, hq1, hL⟩ := bnd_ex hL
  refine j_callVi (c_X12_isStrange G v1 v2 h _ hq1) cv_RX12_357 rfl sh_193 (by decide) rfl (by decide) rfl rfl (Nat.le_of_ble_eq_true rfl) dX12_midst_3 (by decide) ?_
  refine j_ifz_eq 13 dX12_midst_6 (by decide) (fun z2 => ?_) (fun z2 => ?_)
  · replace hL := (if_neg z2).symm.trans hL
    refine j_aload_n 0 dX12_midst_13 rfl ?_
    refine j_iload_n 1 dX12_midst_14 rfl ?_
    refine j_iload_n 2 dX12_midst_15 rfl ?_
    obtain ⟨q3, hq3, hL⟩ := bnd_ex hL
    refine j_callVi (c_X12_turnsLow G v1 v2 h _ hq3) cv_RX12_351 rfl sh_193 (by decide) rfl (by decide) rfl rfl (Nat.le_of_ble_eq_true rfl) dX12_midst_16 (by decide) ?_
    refine j_aload_n 0 dX12_midst_19 rfl ?_
    refine j_iload_n 1 dX12_midst_20 rfl ?_
    refine j_iload_n 2 dX12_midst_21 rfl ?_
    obtain ⟨q4, hq4, hL⟩ := bnd_ex hL
    refine j_callVi (c_X12_turnsHigh G v1 v2 h _ hq4) cv_RX12_354 rfl sh_193 (by decide) rfl (by decide) rfl rfl (Nat.le_of_ble_eq_true rfl) dX12_midst_22 (by decide) ?_
    refine j_iadd dX12_midst_25 ?_
    cases hL
    exact j_reti dX12_midst_26 rfl hK
  · replace hL := (if_pos z2).symm.trans hL
    refine j_iconst 0 dX12_midst_9 (by decide) ?_
    refine j_goto 26 dX12_midst_10 (by decide) ?_
    cases hL
    exact j_reti dX12_midst_26 rfl hK

def f_X12_isUndone (v1 : Int32) (v2 : Int32) (h : AH) : Option (Bool) := gd (ib (f_X12_at v1 v2) 320 = true) (if (hia h 208 (cl (f_X12_at v1 v2))) = (-1) then some false else if v2 = 0 then some true else gd (ib (f_X12_at v1 (v2 - 1)) 320 = true) (if (hia h 208 (cl (f_X12_at v1 (v2 - 1)))) = (-1) then some false else some true))
set_option maxRecDepth 20000 in
theorem c_X12_isUndone (G : GG) (v1 : Int32) (v2 : Int32) (h : AH) (r : Bool) (hL : f_X12_isUndone v1 v2 h = some r) : SpI G 2 mX12_isUndone [.ref (ad G 193), .int v1, .int v2] h (bI r) h := by
  refine sp_i pf_X12_isUndone (Nat.le_of_ble_eq_true rfl) ?_
  show J G mX12_isUndone 2 0 0 (KMi G (bI r) h) 0 [(0, .ref (ad G 193)), (1, .int v1), (2, .int v2)] [] h
  obtain ⟨K, hK⟩ : ∃ K, K = KMi G (bI r) h := ⟨_, rfl⟩
  rw [← hK]
  unfold f_X12_isUndone at hL
  refine j_aload_n 0 dX12_isUndone_0 rfl ?_
  refine jg_RX12_66 rfl sh_193 dX12_isUndone_1 ?_
  refine j_iload_n 1 dX12_isUndone_4 rfl ?_
  refine j_iload_n 2 dX12_isUndone_5 rfl ?_
  refine j_callSi (c_X12_at G v1 v2 h) cv_RX12_244 rfl (by decide) rfl rfl (Nat.le_of_ble_eq_true rfl) dX12_isUndone_6 (by decide) ?_
  obtain ⟨g1, hL⟩ := gd_ex hL
  refine j_iald (shf_12_15 sh_193) (ib_in g1) dX12_isUndone_9 ?_
  refine j_iconst (-1) dX12_isUndone_10 (by decide) ?_
  refine j_icmp_eq 38 dX12_isUndone_11 (by decide) (fun z2 => ?_) (fun z2 => ?_)
  · replace hL := (if_pos z2).symm.trans hL
    refine j_iconst 0 dX12_isUndone_38 (by decide) ?_
    cases hL
    exact j_ret0 dX12_isUndone_39 rfl hK
  · replace hL := (if_neg z2).symm.trans hL
    refine j_iload_n 2 dX12_isUndone_14 rfl ?_
    refine j_if_eq 34 dX12_isUndone_15 (by decide) (fun z3 => ?_) (fun z3 => ?_)
    · replace hL := (if_pos z3).symm.trans hL
      refine j_iconst 1 dX12_isUndone_34 (by decide) ?_
      refine j_goto 39 dX12_isUndone_35 (by decide) ?_
      cases hL
      exact j_ret1 dX12_isUndone_39 rfl hK
    · replace hL := (if_neg z3).symm.trans hL
      refine j_aload_n 0 dX12_isUndone_18 rfl ?_
      refine jg_RX12_66 rfl sh_193 dX12_isUndone_19 ?_
      refine j_iload_n 1 dX12_isUndone_22 rfl ?_
      refine j_iload_n 2 dX12_isUndone_23 rfl ?_
      refine j_iconst 1 dX12_isUndone_24 (by decide) ?_
      refine j_isub dX12_isUndone_25 ?_
      refine j_callSi (c_X12_at G v1 (v2 - 1) h) cv_RX12_244 rfl (by decide) rfl rfl (Nat.le_of_ble_eq_true rfl) dX12_isUndone_26 (by decide) ?_
      obtain ⟨g4, hL⟩ := gd_ex hL
      refine j_iald (shf_12_15 sh_193) (ib_in g4) dX12_isUndone_29 ?_
      refine j_iconst (-1) dX12_isUndone_30 (by decide) ?_
      refine j_icmp_eq 38 dX12_isUndone_31 (by decide) (fun z5 => ?_) (fun z5 => ?_)
      · replace hL := (if_pos z5).symm.trans hL
        refine j_iconst 0 dX12_isUndone_38 (by decide) ?_
        cases hL
        exact j_ret0 dX12_isUndone_39 rfl hK
      · replace hL := (if_neg z5).symm.trans hL
        refine j_iconst 1 dX12_isUndone_34 (by decide) ?_
        refine j_goto 39 dX12_isUndone_35 (by decide) ?_
        cases hL
        exact j_ret1 dX12_isUndone_39 rfl hK

