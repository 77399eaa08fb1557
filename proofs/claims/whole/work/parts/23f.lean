def f_X12_blank (v1 : Int32) (v2 : Int32) (h : AH) : Option (Int32 × AH) := lt (sfi h 193 2 0) (fun h1 => if (hfi h1 193 52) = 20 then gd (ib 3 4 = true) (gd (ib 3 4 = true) (lt (sia h1 218 (cl 3) ((hia h1 218 (cl 3)) + 1)) (fun h5 => some ((-1), h5)))) else if (f_X12_isIn v1 1 999) = true then if (f_X12_isIn v2 0 9999) = true then gd (ib (hfi h1 193 52) 20 = true) (lt (sia h1 230 (cl (hfi h1 193 52)) v1) (fun h12 => gd (ib (hfi h12 193 52) 20 = true) (lt (sia h12 231 (cl (hfi h12 193 52)) v2) (fun h14 => lt (sfi h14 193 52 ((hfi h14 193 52) + 1)) (fun h15 => some (hfi h15 193 52, h15)))))) else gd (ib 3 4 = true) (gd (ib 3 4 = true) (lt (sia h1 218 (cl 3) ((hia h1 218 (cl 3)) + 1)) (fun h18 => some ((-1), h18)))) else gd (ib 3 4 = true) (gd (ib 3 4 = true) (lt (sia h1 218 (cl 3) ((hia h1 218 (cl 3)) + 1)) (fun h9 => some ((-1), h9)))))
set_option maxRecDepth 20000 in
theorem c_X12_blank (G : GG) (v1 : Int32) (v2 : Int32) (h : AH) (r : Int32 × AH) (hL : f_X12_blank v1 v2 h = some r) : SpI G 2 mX12_blank [.ref (ad G 193), .int v1, .int v2] h r.1 r.2 := by
  refine sp_i pf_X12_blank (Nat.le_of_ble_eq_true rfl) ?_
  show J G mX12_blank 2 0 0 (KMi G r.1 r.2) 0 [(0, .ref (ad G 193)), (1, .int v1), (2, .int v2)] [] h
  obtain ⟨K, hK⟩ : ∃ K, K = KMi G r.1 r.2 := ⟨_, rfl⟩
  rw [← hK]
  unfold f_X12_blank at hL
  refine j_aload_n 0 dX12_blank_0 rfl ?_
  refine j_iconst 0 dX12_blank_1 (by decide) ?_
  refine jp_RX12_158 rfl sh_193 dX12_blank_2 ?_
  obtain ⟨h1, eh1, hL⟩ := lt_ex hL
  refine j_heap eh1 ?_
  refine j_aload_n 0 dX12_blank_5 rfl ?_
  refine jg_RX12_285 rfl sh_193 dX12_blank_6 ?_
  refine j_bipush 20 dX12_blank_9 (by decide) ?_
  refine j_icmp_eq 36 dX12_blank_11 (by decide) (fun z2 => ?_) (fun z2 => ?_)
  · replace hL := (if_pos z2).symm.trans hL
    refine j_aload_n 0 dX12_blank_36 rfl ?_
    refine jg_RX12_96 rfl sh_193 dX12_blank_37 ?_
    refine j_iconst 3 dX12_blank_40 (by decide) ?_
    refine j_dup2 dX12_blank_41 rfl rfl ?_
    obtain ⟨g3, hL⟩ := gd_ex hL
    refine j_iald (shf_12_25 sh_193) (ib_in g3) dX12_blank_42 ?_
    refine j_iconst 1 dX12_blank_43 (by decide) ?_
    refine j_iadd dX12_blank_44 ?_
    obtain ⟨g4, hL⟩ := gd_ex hL
    refine j_iast (shf_12_25 sh_193) (ib_in g4) dX12_blank_45 ?_
    obtain ⟨h5, eh5, hL⟩ := lt_ex hL
    refine j_heap eh5 ?_
    refine j_iconst (-1) dX12_blank_46 (by decide) ?_
    cases hL
    exact j_reti dX12_blank_47 rfl hK
  · replace hL := (if_neg z2).symm.trans hL
    refine j_iload_n 1 dX12_blank_14 rfl ?_
    refine j_iconst 1 dX12_blank_15 (by decide) ?_
    refine j_sipush 999 dX12_blank_16 (by decide) ?_
    refine j_callSi (c_X12_isIn G v1 1 999 h1) cv_RX12_161 rfl (by decide) rfl rfl (Nat.le_of_ble_eq_true rfl) dX12_blank_19 (by decide) ?_
    refine j_ifz_eq 36 dX12_blank_22 (by decide) (fun z6 => ?_) (fun z6 => ?_)
    · replace hL := (if_neg z6).symm.trans hL
      refine j_aload_n 0 dX12_blank_36 rfl ?_
      refine jg_RX12_96 rfl sh_193 dX12_blank_37 ?_
      refine j_iconst 3 dX12_blank_40 (by decide) ?_
      refine j_dup2 dX12_blank_41 rfl rfl ?_
      obtain ⟨g7, hL⟩ := gd_ex hL
      refine j_iald (shf_12_25 sh_193) (ib_in g7) dX12_blank_42 ?_
      refine j_iconst 1 dX12_blank_43 (by decide) ?_
      refine j_iadd dX12_blank_44 ?_
      obtain ⟨g8, hL⟩ := gd_ex hL
      refine j_iast (shf_12_25 sh_193) (ib_in g8) dX12_blank_45 ?_
      obtain ⟨h9, eh9, hL⟩ := lt_ex hL
      refine j_heap eh9 ?_
      refine j_iconst (-1) dX12_blank_46 (by decide) ?_
      cases hL
      exact j_reti dX12_blank_47 rfl hK
    · replace hL := (if_pos z6).symm.trans hL
      refine j_iload_n 2 dX12_blank_25 rfl ?_
      refine j_iconst 0 dX12_blank_26 (by decide) ?_
      refine j_sipush 9999 dX12_blank_27 (by decide) ?_
      refine j_callSi (c_X12_isIn G v2 0 9999 h1) cv_RX12_161 rfl (by decide) rfl rfl (Nat.le_of_ble_eq_true rfl) dX12_blank_30 (by decide) ?_
      refine j_ifz_ne 48 dX12_blank_33 (by decide) (fun z10 => ?_) (fun z10 => ?_)
      · replace hL := (if_pos z10).symm.trans hL
        refine j_aload_n 0 dX12_blank_48 rfl ?_
        refine jg_RX12_140 rfl sh_193 dX12_blank_49 ?_
        refine j_aload_n 0 dX12_blank_52 rfl ?_
        refine jg_RX12_285 rfl sh_193 dX12_blank_53 ?_
        refine j_iload_n 1 dX12_blank_56 rfl ?_
        obtain ⟨g11, hL⟩ := gd_ex hL
        refine j_iast (shf_12_53 sh_193) (ib_in g11) dX12_blank_57 ?_
        obtain ⟨h12, eh12, hL⟩ := lt_ex hL
        refine j_heap eh12 ?_
        refine j_aload_n 0 dX12_blank_58 rfl ?_
        refine jg_RX12_143 rfl sh_193 dX12_blank_59 ?_
        refine j_aload_n 0 dX12_blank_62 rfl ?_
        refine jg_RX12_285 rfl sh_193 dX12_blank_63 ?_
        refine j_iload_n 2 dX12_blank_66 rfl ?_
        obtain ⟨g13, hL⟩ := gd_ex hL
        refine j_iast (shf_12_54 sh_193) (ib_in g13) dX12_blank_67 ?_
        obtain ⟨h14, eh14, hL⟩ := lt_ex hL
        refine j_heap eh14 ?_
        refine j_aload_n 0 dX12_blank_68 rfl ?_
        refine j_dup dX12_blank_69 rfl ?_
        refine jg_RX12_285 rfl sh_193 dX12_blank_70 ?_
        refine j_iconst 1 dX12_blank_73 (by decide) ?_
        refine j_iadd dX12_blank_74 ?_
        refine jp_RX12_285 rfl sh_193 dX12_blank_75 ?_
        obtain ⟨h15, eh15, hL⟩ := lt_ex hL
        refine j_heap eh15 ?_
        refine j_aload_n 0 dX12_blank_78 rfl ?_
        refine jg_RX12_285 rfl sh_193 dX12_blank_79 ?_
        cases hL
        exact j_reti dX12_blank_82 rfl hK
      · replace hL := (if_neg z10).symm.trans hL
        refine j_aload_n 0 dX12_blank_36 rfl ?_
        refine jg_RX12_96 rfl sh_193 dX12_blank_37 ?_
        refine j_iconst 3 dX12_blank_40 (by decide) ?_
        refine j_dup2 dX12_blank_41 rfl rfl ?_
        obtain ⟨g16, hL⟩ := gd_ex hL
        refine j_iald (shf_12_25 sh_193) (ib_in g16) dX12_blank_42 ?_
        refine j_iconst 1 dX12_blank_43 (by decide) ?_
        refine j_iadd dX12_blank_44 ?_
        obtain ⟨g17, hL⟩ := gd_ex hL
        refine j_iast (shf_12_25 sh_193) (ib_in g17) dX12_blank_45 ?_
        obtain ⟨h18, eh18, hL⟩ := lt_ex hL
        refine j_heap eh18 ?_
        refine j_iconst (-1) dX12_blank_46 (by decide) ?_
        cases hL
        exact j_reti dX12_blank_47 rfl hK

def f_X12_clear  (h : AH) : Option (Int32 × AH) := lt (sfi h 193 2 0) (fun h1 => lt (sfi h1 193 52 0) (fun h2 => some (hfi h1 193 52, h2)))
set_option maxRecDepth 20000 in
theorem c_X12_clear (G : GG)  (h : AH) (r : Int32 × AH) (hL : f_X12_clear h = some r) : SpI G 1 mX12_clear [.ref (ad G 193)] h r.1 r.2 := by
  refine sp_i pf_X12_clear (Nat.le_of_ble_eq_true rfl) ?_
  show J G mX12_clear 1 0 0 (KMi G r.1 r.2) 0 [(0, .ref (ad G 193))] [] h
  obtain ⟨K, hK⟩ : ∃ K, K = KMi G r.1 r.2 := ⟨_, rfl⟩
  rw [← hK]
  unfold f_X12_clear at hL
  refine j_aload_n 0 dX12_clear_0 rfl ?_
  refine j_iconst 0 dX12_clear_1 (by decide) ?_
  refine jp_RX12_158 rfl sh_193 dX12_clear_2 ?_
  obtain ⟨h1, eh1, hL⟩ := lt_ex hL
  refine j_heap eh1 ?_
  refine j_aload_n 0 dX12_clear_5 rfl ?_
  refine jg_RX12_285 rfl sh_193 dX12_clear_6 ?_
  refine j_istore_n (lv' := [(1, .int (hfi h1 193 52)), (0, .ref (ad G 193))]) dX12_clear_9 (by decide) rfl ?_
  refine j_aload_n 1 dX12_clear_10 rfl ?_
  refine j_iconst 0 dX12_clear_11 (by decide) ?_
  refine jp_RX12_285 rfl sh_193 dX12_clear_12 ?_
  obtain ⟨h2, eh2, hL⟩ := lt_ex hL
  refine j_heap eh2 ?_
  refine j_iload_n 0 dX12_clear_15 rfl ?_
  cases hL
  exact j_reti dX12_clear_16 rfl hK

def f_X12_turn_l42  (h : AH) : Nat → Int32 → Int32 → Int32 → Int32 → Int32 → Option (Int32 × Int32 × Int32 × Int32)
  | 0, _, _, _, _, _ => none
  | n + 1, v2, v3, v4, v5, v6 => if (hfi h 193 52) ≤ v6 then some (v2, v3, v4, v5) else gd (ib v6 20 = true) (gd (ib 2 6 = true) (gd (ib v6 20 = true) (gd (ib 2 6 = true) (gd (ib v6 20 = true) (lt (fun (x14 : Int32) (x15 : Int32) => if v5 = 0 then f_X12_turn_l42 h n x14 x15 ((hia h 231 (cl v6)) + (hia h 215 (cl 2))) (hia h 230 (cl v6)) (v6 + 1) else if (v4 * (hia h 230 (cl v6))) ≤ (((hia h 231 (cl v6)) + (hia h 215 (cl 2))) * v5) then f_X12_turn_l42 h n x14 x15 v4 v5 (v6 + 1) else f_X12_turn_l42 h n x14 x15 ((hia h 231 (cl v6)) + (hia h 215 (cl 2))) (hia h 230 (cl v6)) (v6 + 1)) (fun j13 => if (((hia h 231 (cl v6)) - (hia h 215 (cl 2))) * v3) ≤ (v2 * (hia h 230 (cl v6))) then j13 v2 v3 else j13 ((hia h 231 (cl v6)) - (hia h 215 (cl 2))) (hia h 230 (cl v6))))))))
def f_X12_turn (v1 : Int32) (h : AH) : Option (Int32 × AH) := lt (sfi h 193 2 0) (fun h1 => if v1 < 0 then bnd (f_X12_fail 1 h1) (fun q3 => some (q3.1, q3.2)) else if v1 ≤ 1 then if (hfi h1 193 52) = 0 then some ((-1), h1) else bnd (f_X12_turn_l42 h1 FU 0 1 0 0 0) (fun q18 => if (q18.1 * q18.2.2.2) ≤ (q18.2.2.1 * q18.2.1) then if v1 = 0 then gd (¬ q18.2.1 = 0) (some ((1000 * q18.1) / q18.2.1, h1)) else gd (¬ q18.2.2.2 = 0) (some ((((1000 * q18.2.2.1) + q18.2.2.2) - 1) / q18.2.2.2, h1)) else some ((-1), h1)) else bnd (f_X12_fail 1 h1) (fun q23 => some (q23.1, q23.2)))
set_option maxRecDepth 20000 in
theorem cl_X12_turn_42 (G : GG) (K : KQ) (v1 : Int32)  : ∀ (n : Nat) (v2 : Int32) (v3 : Int32) (v4 : Int32) (v5 : Int32) (v6 : Int32) (h : AH) (r : Int32 × Int32 × Int32 × Int32), f_X12_turn_l42 h n v2 v3 v4 v5 v6 = some r → J G mX12_turn 2 0 0 K 141 [(1, .int v1), (2, .int r.1), (3, .int r.2.1), (4, .int r.2.2.1), (5, .int r.2.2.2)] [] h → J G mX12_turn 2 0 0 K 42 [(0, .ref (ad G 193)), (1, .int v1), (2, .int v2), (3, .int v3), (4, .int v4), (5, .int v5), (6, .int v6)] [] h := by
  intro n
  induction n with
  | zero => intro v2 v3 v4 v5 v6 h r hL; cases hL
  | succ n ih =>
    intro v2 v3 v4 v5 v6 h r hL kE
    unfold f_X12_turn_l42 at hL
    refine j_iload 6 dX12_turn_42 rfl ?_
    refine j_aload_n 0 dX12_turn_44 rfl ?_
    refine jg_RX12_285 rfl sh_193 dX12_turn_45 ?_
    refine j_icmp_ge 141 dX12_turn_48 (by decide) (fun z6 => ?_) (fun z6 => ?_)
    · replace hL := (if_pos z6).symm.trans hL
      cases hL
      refine j_sub [1, 2, 3, 4, 5] rfl ?_
      exact kE 
    · replace hL := (if_neg z6).symm.trans hL
      refine j_aload_n 0 dX12_turn_51 rfl ?_
      refine jg_RX12_143 rfl sh_193 dX12_turn_52 ?_
      refine j_iload 6 dX12_turn_55 rfl ?_
      obtain ⟨g7, hL⟩ := gd_ex hL
      refine j_iald (shf_12_54 sh_193) (ib_in g7) dX12_turn_57 ?_
      refine j_aload_n 0 dX12_turn_58 rfl ?_
      refine jg_RX12_87 rfl sh_193 dX12_turn_59 ?_
      refine j_iconst 2 dX12_turn_62 (by decide) ?_
      obtain ⟨g8, hL⟩ := gd_ex hL
      refine j_iald (shf_12_22 sh_193) (ib_in g8) dX12_turn_63 ?_
      refine j_isub dX12_turn_64 ?_
      refine j_istore (lv' := [(7, .int ((hia h 231 (cl v6)) - (hia h 215 (cl 2)))), (0, .ref (ad G 193)), (1, .int v1), (2, .int v2), (3, .int v3), (4, .int v4), (5, .int v5), (6, .int v6)]) dX12_turn_65 (by decide) rfl ?_
      refine j_aload_n 1 dX12_turn_67 rfl ?_
      refine jg_RX12_143 rfl sh_193 dX12_turn_68 ?_
      refine j_iload 7 dX12_turn_71 rfl ?_
      obtain ⟨g9, hL⟩ := gd_ex hL
      refine j_iald (shf_12_54 sh_193) (ib_in g9) dX12_turn_73 ?_
      refine j_aload_n 1 dX12_turn_74 rfl ?_
      refine jg_RX12_87 rfl sh_193 dX12_turn_75 ?_
      refine j_iconst 2 dX12_turn_78 (by decide) ?_
      obtain ⟨g10, hL⟩ := gd_ex hL
      refine j_iald (shf_12_22 sh_193) (ib_in g10) dX12_turn_79 ?_
      refine j_iadd dX12_turn_80 ?_
      refine j_istore (lv' := [(8, .int ((hia h 231 (cl v6)) + (hia h 215 (cl 2)))), (7, .int ((hia h 231 (cl v6)) - (hia h 215 (cl 2)))), (0, .ref (ad G 193)), (1, .int v1), (2, .int v2), (3, .int v3), (4, .int v4), (5, .int v5), (6, .int v6)]) dX12_turn_81 (by decide) rfl ?_
      refine j_aload_n 2 dX12_turn_83 rfl ?_
      refine jg_RX12_140 rfl sh_193 dX12_turn_84 ?_
      refine j_iload 8 dX12_turn_87 rfl ?_
      obtain ⟨g11, hL⟩ := gd_ex hL
      refine j_iald (shf_12_53 sh_193) (ib_in g11) dX12_turn_89 ?_
      refine j_istore (lv' := [(9, .int (hia h 230 (cl v6))), (8, .int ((hia h 231 (cl v6)) + (hia h 215 (cl 2)))), (7, .int ((hia h 231 (cl v6)) - (hia h 215 (cl 2)))), (0, .ref (ad G 193)), (1, .int v1), (2, .int v2), (3, .int v3), (4, .int v4), (5, .int v5), (6, .int v6)]) dX12_turn_90 (by decide) rfl ?_
      refine j_iload 2 dX12_turn_92 rfl ?_
      refine j_iload_n 6 dX12_turn_94 rfl ?_
      refine j_imul dX12_turn_95 ?_
      refine j_iload_n 5 dX12_turn_96 rfl ?_
      refine j_iload 0 dX12_turn_97 rfl ?_
      refine j_imul dX12_turn_99 ?_
      obtain ⟨j13, ej13, hL⟩ := lt_ex hL
      have kj13 : ∀ (x14 : Int32) (x15 : Int32), j13 x14 x15 = some r → J G mX12_turn 2 0 0 K 109 [(0, .ref (ad G 193)), (1, .int v1), (2, .int x14), (3, .int x15), (4, .int v4), (5, .int v5), (6, .int v6), (8, .int ((hia h 231 (cl v6)) + (hia h 215 (cl 2)))), (9, .int (hia h 230 (cl v6)))] [] h := by
        intro x14 x15 hL
        rw [ej13] at hL
        replace hL : (if v5 = 0 then f_X12_turn_l42 h n x14 x15 ((hia h 231 (cl v6)) + (hia h 215 (cl 2))) (hia h 230 (cl v6)) (v6 + 1) else if (v4 * (hia h 230 (cl v6))) ≤ (((hia h 231 (cl v6)) + (hia h 215 (cl 2))) * v5) then f_X12_turn_l42 h n x14 x15 v4 v5 (v6 + 1) else f_X12_turn_l42 h n x14 x15 ((hia h 231 (cl v6)) + (hia h 215 (cl 2))) (hia h 230 (cl v6)) (v6 + 1)) = some r := hL
        refine j_iload 5 dX12_turn_109 rfl ?_
        refine j_if_eq 127 dX12_turn_111 (by decide) (fun z16 => ?_) (fun z16 => ?_)
        · replace hL := (if_pos z16).symm.trans hL
          refine j_iload 7 dX12_turn_127 rfl ?_
          refine j_istore (lv' := [(4, .int ((hia h 231 (cl v6)) + (hia h 215 (cl 2)))), (0, .ref (ad G 193)), (1, .int v1), (2, .int x14), (3, .int x15), (5, .int v5), (6, .int v6), (8, .int ((hia h 231 (cl v6)) + (hia h 215 (cl 2)))), (9, .int (hia h 230 (cl v6)))]) dX12_turn_129 (by decide) rfl ?_
          refine j_iload 8 dX12_turn_131 rfl ?_
          refine j_istore (lv' := [(5, .int (hia h 230 (cl v6))), (4, .int ((hia h 231 (cl v6)) + (hia h 215 (cl 2)))), (0, .ref (ad G 193)), (1, .int v1), (2, .int x14), (3, .int x15), (6, .int v6), (8, .int ((hia h 231 (cl v6)) + (hia h 215 (cl 2)))), (9, .int (hia h 230 (cl v6)))]) dX12_turn_133 (by decide) rfl ?_
          refine j_iinc (lv' := [(6, .int (v6 + 1)), (5, .int (hia h 230 (cl v6))), (4, .int ((hia h 231 (cl v6)) + (hia h 215 (cl 2)))), (0, .ref (ad G 193)), (1, .int v1), (2, .int x14), (3, .int x15), (8, .int ((hia h 231 (cl v6)) + (hia h 215 (cl 2)))), (9, .int (hia h 230 (cl v6)))]) 6 dX12_turn_135 rfl rfl (by decide) rfl ?_
          refine j_goto 42 dX12_turn_138 (by decide) ?_
          refine j_sub [3, 4, 5, 6, 2, 1, 0] rfl ?_
          exact ih x14 x15 ((hia h 231 (cl v6)) + (hia h 215 (cl 2))) (hia h 230 (cl v6)) (v6 + 1) h r hL kE
        · replace hL := (if_neg z16).symm.trans hL
          refine j_iload 7 dX12_turn_114 rfl ?_
          refine j_iload 5 dX12_turn_116 rfl ?_
          refine j_imul dX12_turn_118 ?_
          refine j_iload 4 dX12_turn_119 rfl ?_
          refine j_iload 8 dX12_turn_121 rfl ?_
          refine j_imul dX12_turn_123 ?_
          refine j_icmp_ge 135 dX12_turn_124 (by decide) (fun z17 => ?_) (fun z17 => ?_)
          · replace hL := (if_pos z17).symm.trans hL
            refine j_iinc (lv' := [(6, .int (v6 + 1)), (0, .ref (ad G 193)), (1, .int v1), (2, .int x14), (3, .int x15), (4, .int v4), (5, .int v5), (8, .int ((hia h 231 (cl v6)) + (hia h 215 (cl 2)))), (9, .int (hia h 230 (cl v6)))]) 6 dX12_turn_135 rfl rfl (by decide) rfl ?_
            refine j_goto 42 dX12_turn_138 (by decide) ?_
            refine j_sub [1, 2, 3, 4, 5, 6, 0] rfl ?_
            exact ih x14 x15 v4 v5 (v6 + 1) h r hL kE
          · replace hL := (if_neg z17).symm.trans hL
            refine j_iload 7 dX12_turn_127 rfl ?_
            refine j_istore (lv' := [(4, .int ((hia h 231 (cl v6)) + (hia h 215 (cl 2)))), (0, .ref (ad G 193)), (1, .int v1), (2, .int x14), (3, .int x15), (5, .int v5), (6, .int v6), (8, .int ((hia h 231 (cl v6)) + (hia h 215 (cl 2)))), (9, .int (hia h 230 (cl v6)))]) dX12_turn_129 (by decide) rfl ?_
            refine j_iload 8 dX12_turn_131 rfl ?_
            refine j_istore (lv' := [(5, .int (hia h 230 (cl v6))), (4, .int ((hia h 231 (cl v6)) + (hia h 215 (cl 2)))), (0, .ref (ad G 193)), (1, .int v1), (2, .int x14), (3, .int x15), (6, .int v6), (8, .int ((hia h 231 (cl v6)) + (hia h 215 (cl 2)))), (9, .int (hia h 230 (cl v6)))]) dX12_turn_133 (by decide) rfl ?_
            refine j_iinc (lv' := [(6, .int (v6 + 1)), (5, .int (hia h 230 (cl v6))), (4, .int ((hia h 231 (cl v6)) + (hia h 215 (cl 2)))), (0, .ref (ad G 193)), (1, .int v1), (2, .int x14), (3, .int x15), (8, .int ((hia h 231 (cl v6)) + (hia h 215 (cl 2)))), (9, .int (hia h 230 (cl v6)))]) 6 dX12_turn_135 rfl rfl (by decide) rfl ?_
            refine j_goto 42 dX12_turn_138 (by decide) ?_
            refine j_sub [3, 4, 5, 6, 2, 1, 0] rfl ?_
            exact ih x14 x15 ((hia h 231 (cl v6)) + (hia h 215 (cl 2))) (hia h 230 (cl v6)) (v6 + 1) h r hL kE
      refine j_icmp_le 109 dX12_turn_100 (by decide) (fun z12 => ?_) (fun z12 => ?_)
      · replace hL := (if_pos z12).symm.trans hL
        refine j_sub [3, 4, 5, 6, 7, 8, 9, 1, 0] rfl ?_
        exact kj13 v2 v3 hL
      · replace hL := (if_neg z12).symm.trans hL
        refine j_iload 2 dX12_turn_103 rfl ?_
        refine j_istore_n (lv' := [(2, .int ((hia h 231 (cl v6)) - (hia h 215 (cl 2)))), (9, .int (hia h 230 (cl v6))), (8, .int ((hia h 231 (cl v6)) + (hia h 215 (cl 2)))), (7, .int ((hia h 231 (cl v6)) - (hia h 215 (cl 2)))), (0, .ref (ad G 193)), (1, .int v1), (3, .int v3), (4, .int v4), (5, .int v5), (6, .int v6)]) dX12_turn_105 (by decide) rfl ?_
        refine j_iload 1 dX12_turn_106 rfl ?_
        refine j_istore_n (lv' := [(3, .int (hia h 230 (cl v6))), (2, .int ((hia h 231 (cl v6)) - (hia h 215 (cl 2)))), (9, .int (hia h 230 (cl v6))), (8, .int ((hia h 231 (cl v6)) + (hia h 215 (cl 2)))), (7, .int ((hia h 231 (cl v6)) - (hia h 215 (cl 2)))), (0, .ref (ad G 193)), (1, .int v1), (4, .int v4), (5, .int v5), (6, .int v6)]) dX12_turn_108 (by decide) rfl ?_
        refine j_sub [5, 6, 1, 0, 7, 8, 9, 3, 2] rfl ?_
        exact kj13 ((hia h 231 (cl v6)) - (hia h 215 (cl 2))) (hia h 230 (cl v6)) hL

set_option maxRecDepth 20000 in
theorem c_X12_turn (G : GG) (v1 : Int32) (h : AH) (r : Int32 × AH) (hL : f_X12_turn v1 h = some r) : SpI G 2 mX12_turn [.ref (ad G 193), .int v1] h r.1 r.2 := by
  refine sp_i pf_X12_turn (Nat.le_of_ble_eq_true rfl) ?_
  show J G mX12_turn 2 0 0 (KMi G r.1 r.2) 0 [(0, .ref (ad G 193)), (1, .int v1)] [] h
  obtain ⟨K, hK⟩ : ∃ K, K = KMi G r.1 r.2 := ⟨_, rfl⟩
  rw [← hK]
  unfold f_X12_turn at hL
  refine j_aload_n 0 dX12_turn_0 rfl ?_
  refine j_iconst 0 dX12_turn_1 (by decide) ?_
  refine jp_RX12_158 rfl sh_193 dX12_turn_2 ?_
  obtain ⟨h1, eh1, hL⟩ := lt_ex hL
  refine j_heap eh1 ?_
  refine j_iload_n 1 dX12_turn_5 rfl ?_
  refine j_if_lt 14 dX12_turn_6 (by decide) (fun z2 => ?_) (fun z2 => ?_)
  · replace hL := (if_pos z2).symm.trans hL
    refine j_aload_n 0 dX12_turn_14 rfl ?_
    refine j_iconst 1 dX12_turn_15 (by decide) ?_
    obtain ⟨q3, hq3, hL⟩ := bnd_ex hL
    refine j_callVi (c_X12_fail G 1 h1 _ hq3) cv_RX12_263 rfl sh_193 (by decide) rfl (by decide) rfl rfl (Nat.le_of_ble_eq_true rfl) dX12_turn_16 (by decide) ?_
    cases hL
    exact j_reti dX12_turn_19 rfl hK
  · replace hL := (if_neg z2).symm.trans hL
    refine j_iload_n 1 dX12_turn_9 rfl ?_
    refine j_iconst 1 dX12_turn_10 (by decide) ?_
    refine j_icmp_le 20 dX12_turn_11 (by decide) (fun z4 => ?_) (fun z4 => ?_)
    · replace hL := (if_pos z4).symm.trans hL
      refine j_aload_n 0 dX12_turn_20 rfl ?_
      refine jg_RX12_285 rfl sh_193 dX12_turn_21 ?_
      refine j_if_ne 29 dX12_turn_24 (by decide) (fun z5 => ?_) (fun z5 => ?_)
      · replace hL := (if_neg z5).symm.trans hL
        refine j_iconst 0 dX12_turn_29 (by decide) ?_
        refine j_istore_n (lv' := [(2, .int 0), (0, .ref (ad G 193)), (1, .int v1)]) dX12_turn_30 (by decide) rfl ?_
        refine j_iconst 1 dX12_turn_31 (by decide) ?_
        refine j_istore_n (lv' := [(3, .int 1), (2, .int 0), (0, .ref (ad G 193)), (1, .int v1)]) dX12_turn_32 (by decide) rfl ?_
        refine j_iconst 0 dX12_turn_33 (by decide) ?_
        refine j_istore (lv' := [(4, .int 0), (3, .int 1), (2, .int 0), (0, .ref (ad G 193)), (1, .int v1)]) dX12_turn_34 (by decide) rfl ?_
        refine j_iconst 0 dX12_turn_36 (by decide) ?_
        refine j_istore (lv' := [(5, .int 0), (4, .int 0), (3, .int 1), (2, .int 0), (0, .ref (ad G 193)), (1, .int v1)]) dX12_turn_37 (by decide) rfl ?_
        refine j_iconst 0 dX12_turn_39 (by decide) ?_
        refine j_istore (lv' := [(6, .int 0), (5, .int 0), (4, .int 0), (3, .int 1), (2, .int 0), (0, .ref (ad G 193)), (1, .int v1)]) dX12_turn_40 (by decide) rfl ?_
        obtain ⟨q18, hq18, hL⟩ := bnd_ex hL
        refine j_sub [5, 6, 4, 3, 2, 1, 0] rfl ?_
        refine cl_X12_turn_42 G K v1 FU 0 1 0 0 0 h1 q18 hq18 ?_
        refine j_iload_n 1 dX12_turn_141 rfl ?_
        refine j_iload 4 dX12_turn_142 rfl ?_
        refine j_imul dX12_turn_144 ?_
        refine j_iload 3 dX12_turn_145 rfl ?_
        refine j_iload_n 2 dX12_turn_147 rfl ?_
        refine j_imul dX12_turn_148 ?_
        refine j_icmp_le 154 dX12_turn_149 (by decide) (fun z19 => ?_) (fun z19 => ?_)
        · replace hL := (if_pos z19).symm.trans hL
          refine j_iload_n 0 dX12_turn_154 rfl ?_
          refine j_if_ne 168 dX12_turn_155 (by decide) (fun z20 => ?_) (fun z20 => ?_)
          · replace hL := (if_neg z20).symm.trans hL
            refine j_sipush 1000 dX12_turn_168 (by decide) ?_
            refine j_iload 3 dX12_turn_171 rfl ?_
            refine j_imul dX12_turn_173 ?_
            refine j_iload 4 dX12_turn_174 rfl ?_
            refine j_iadd dX12_turn_176 ?_
            refine j_iconst 1 dX12_turn_177 (by decide) ?_
            refine j_isub dX12_turn_178 ?_
            refine j_iload 4 dX12_turn_179 rfl ?_
            obtain ⟨g21, hL⟩ := gd_ex hL
            refine j_idiv dX12_turn_181 g21 ?_
            cases hL
            exact j_reti dX12_turn_182 rfl hK
          · replace hL := (if_pos z20).symm.trans hL
            refine j_sipush 1000 dX12_turn_158 (by decide) ?_
            refine j_iload_n 1 dX12_turn_161 rfl ?_
            refine j_imul dX12_turn_162 ?_
            refine j_iload_n 2 dX12_turn_163 rfl ?_
            obtain ⟨g22, hL⟩ := gd_ex hL
            refine j_idiv dX12_turn_164 g22 ?_
            refine j_goto 182 dX12_turn_165 (by decide) ?_
            cases hL
            exact j_reti dX12_turn_182 rfl hK
        · replace hL := (if_neg z19).symm.trans hL
          refine j_iconst (-1) dX12_turn_152 (by decide) ?_
          cases hL
          exact j_reti dX12_turn_153 rfl hK
      · replace hL := (if_pos z5).symm.trans hL
        refine j_iconst (-1) dX12_turn_27 (by decide) ?_
        cases hL
        exact j_reti dX12_turn_28 rfl hK
    · replace hL := (if_neg z4).symm.trans hL
      refine j_aload_n 0 dX12_turn_14 rfl ?_
      refine j_iconst 1 dX12_turn_15 (by decide) ?_
      obtain ⟨q23, hq23, hL⟩ := bnd_ex hL
      refine j_callVi (c_X12_fail G 1 h1 _ hq23) cv_RX12_263 rfl sh_193 (by decide) rfl (by decide) rfl rfl (Nat.le_of_ble_eq_true rfl) dX12_turn_16 (by decide) ?_
      cases hL
      exact j_reti dX12_turn_19 rfl hK

def f_X12_town_l25 (v1 : Int32) (h : AH) : Nat → Int32 → Int32 → Option (Int32)
  | 0, _, _ => none
  | n + 1, v2, v3 => if 6 ≤ v3 then some v2 else bnd (f_X12_isKnown v3 h) (fun q4 => if q4 = true then bnd (f_X12_has v3 v1 h) (fun q6 => if q6 = true then bnd (f_X12_lightOf v3 v1 h) (fun q8 => f_X12_town_l25 v1 h n (v2 + q8) (v3 + 1)) else f_X12_town_l25 v1 h n (v2 + 0) (v3 + 1)) else f_X12_town_l25 v1 h n (v2 + 0) (v3 + 1))
def f_X12_town (v1 : Int32) (h : AH) : Option (Int32 × AH) := lt (sfi h 193 2 0) (fun h1 => if (f_X12_isIn v1 0 11) = true then bnd (f_X12_town_l25 v1 h1 FU 0 0) (fun q9 => some (q9, h1)) else bnd (f_X12_fail 1 h1) (fun q10 => some (q10.1, q10.2)))
set_option maxRecDepth 20000 in
theorem cl_X12_town_25 (G : GG) (K : KQ) (v1 : Int32)  : ∀ (n : Nat) (v2 : Int32) (v3 : Int32) (h : AH) (r : Int32), f_X12_town_l25 v1 h n v2 v3 = some r → J G mX12_town 8 0 0 K 67 [(2, .int r)] [] h → J G mX12_town 8 0 0 K 25 [(0, .ref (ad G 193)), (1, .int v1), (2, .int v2), (3, .int v3)] [] h := by
  intro n
  induction n with
  | zero => intro v2 v3 h r hL; cases hL
  | succ n ih =>
    intro v2 v3 h r hL kE
    unfold f_X12_town_l25 at hL
    refine j_iload_n 3 dX12_town_25 rfl ?_
    refine j_bipush 6 dX12_town_26 (by decide) ?_
    refine j_icmp_ge 67 dX12_town_28 (by decide) (fun z3 => ?_) (fun z3 => ?_)
    · replace hL := (if_pos z3).symm.trans hL
      cases hL
      refine j_sub [2] rfl ?_
      exact kE 
    · replace hL := (if_neg z3).symm.trans hL
      refine j_iload_n 2 dX12_town_31 rfl ?_
      refine j_aload_n 0 dX12_town_32 rfl ?_
      refine j_iload_n 3 dX12_town_33 rfl ?_
      obtain ⟨q4, hq4, hL⟩ := bnd_ex hL
      refine j_callVi (c_X12_isKnown G v3 h _ hq4) cv_RX12_288 rfl sh_193 (by decide) rfl (by decide) rfl rfl (Nat.le_of_ble_eq_true rfl) dX12_town_34 (by decide) ?_
      refine j_ifz_eq 58 dX12_town_37 (by decide) (fun z5 => ?_) (fun z5 => ?_)
      · replace hL := (if_neg z5).symm.trans hL
        refine j_iconst 0 dX12_town_58 (by decide) ?_
        refine j_iadd dX12_town_59 ?_
        refine j_istore_n (lv' := [(2, .int (v2 + 0)), (0, .ref (ad G 193)), (1, .int v1), (3, .int v3)]) dX12_town_60 (by decide) rfl ?_
        refine j_iinc (lv' := [(3, .int (v3 + 1)), (2, .int (v2 + 0)), (0, .ref (ad G 193)), (1, .int v1)]) 3 dX12_town_61 rfl rfl (by decide) rfl ?_
        refine j_goto 25 dX12_town_64 (by decide) ?_
        refine j_sub [2, 3, 1, 0] rfl ?_
        exact ih (v2 + 0) (v3 + 1) h r hL kE
      · replace hL := (if_pos z5).symm.trans hL
        refine j_aload_n 0 dX12_town_40 rfl ?_
        refine j_iload_n 3 dX12_town_41 rfl ?_
        refine j_iload_n 1 dX12_town_42 rfl ?_
        obtain ⟨q6, hq6, hL⟩ := bnd_ex hL
        refine j_callVi (c_X12_has G v3 v1 h _ hq6) cv_RX12_374 rfl sh_193 (by decide) rfl (by decide) rfl rfl (Nat.le_of_ble_eq_true rfl) dX12_town_43 (by decide) ?_
        refine j_ifz_eq 58 dX12_town_46 (by decide) (fun z7 => ?_) (fun z7 => ?_)
        · replace hL := (if_neg z7).symm.trans hL
          refine j_iconst 0 dX12_town_58 (by decide) ?_
          refine j_iadd dX12_town_59 ?_
          refine j_istore_n (lv' := [(2, .int (v2 + 0)), (0, .ref (ad G 193)), (1, .int v1), (3, .int v3)]) dX12_town_60 (by decide) rfl ?_
          refine j_iinc (lv' := [(3, .int (v3 + 1)), (2, .int (v2 + 0)), (0, .ref (ad G 193)), (1, .int v1)]) 3 dX12_town_61 rfl rfl (by decide) rfl ?_
          refine j_goto 25 dX12_town_64 (by decide) ?_
          refine j_sub [2, 3, 1, 0] rfl ?_
          exact ih (v2 + 0) (v3 + 1) h r hL kE
        · replace hL := (if_pos z7).symm.trans hL
          refine j_aload_n 0 dX12_town_49 rfl ?_
          refine j_iload_n 3 dX12_town_50 rfl ?_
          refine j_iload_n 1 dX12_town_51 rfl ?_
          obtain ⟨q8, hq8, hL⟩ := bnd_ex hL
          refine j_callVi (c_X12_lightOf G v3 v1 h _ hq8) cv_RX12_377 rfl sh_193 (by decide) rfl (by decide) rfl rfl (Nat.le_of_ble_eq_true rfl) dX12_town_52 (by decide) ?_
          refine j_goto 59 dX12_town_55 (by decide) ?_
          refine j_iadd dX12_town_59 ?_
          refine j_istore_n (lv' := [(2, .int (v2 + q8)), (0, .ref (ad G 193)), (1, .int v1), (3, .int v3)]) dX12_town_60 (by decide) rfl ?_
          refine j_iinc (lv' := [(3, .int (v3 + 1)), (2, .int (v2 + q8)), (0, .ref (ad G 193)), (1, .int v1)]) 3 dX12_town_61 rfl rfl (by decide) rfl ?_
          refine j_goto 25 dX12_town_64 (by decide) ?_
          refine j_sub [2, 3, 1, 0] rfl ?_
          exact ih (v2 + q8) (v3 + 1) h r hL kE

set_option maxRecDepth 20000 in
theorem c_X12_town (G : GG) (v1 : Int32) (h : AH) (r : Int32 × AH) (hL : f_X12_town v1 h = some r) : SpI G 8 mX12_town [.ref (ad G 193), .int v1] h r.1 r.2 := by
  refine sp_i pf_X12_town (Nat.le_of_ble_eq_true rfl) ?_
  show J G mX12_town 8 0 0 (KMi G r.1 r.2) 0 [(0, .ref (ad G 193)), (1, .int v1)] [] h
  obtain ⟨K, hK⟩ : ∃ K, K = KMi G r.1 r.2 := ⟨_, rfl⟩
  rw [← hK]
  unfold f_X12_town at hL
  refine j_aload_n 0 dX12_town_0 rfl ?_
  refine j_iconst 0 dX12_town_1 (by decide) ?_
  refine jp_RX12_158 rfl sh_193 dX12_town_2 ?_
  obtain ⟨h1, eh1, hL⟩ := lt_ex hL
  refine j_heap eh1 ?_
  refine j_iload_n 1 dX12_town_5 rfl ?_
  refine j_iconst 0 dX12_town_6 (by decide) ?_
  refine j_bipush 11 dX12_town_7 (by decide) ?_
  refine j_callSi (c_X12_isIn G v1 0 11 h1) cv_RX12_161 rfl (by decide) rfl rfl (Nat.le_of_ble_eq_true rfl) dX12_town_9 (by decide) ?_
  refine j_ifz_ne 21 dX12_town_12 (by decide) (fun z2 => ?_) (fun z2 => ?_)
  · replace hL := (if_pos z2).symm.trans hL
    refine j_iconst 0 dX12_town_21 (by decide) ?_
    refine j_istore_n (lv' := [(2, .int 0), (0, .ref (ad G 193)), (1, .int v1)]) dX12_town_22 (by decide) rfl ?_
    refine j_iconst 0 dX12_town_23 (by decide) ?_
    refine j_istore_n (lv' := [(3, .int 0), (2, .int 0), (0, .ref (ad G 193)), (1, .int v1)]) dX12_town_24 (by decide) rfl ?_
    obtain ⟨q9, hq9, hL⟩ := bnd_ex hL
    refine j_sub [2, 3, 1, 0] rfl ?_
    refine cl_X12_town_25 G K v1 FU 0 0 h1 q9 hq9 ?_
    refine j_iload_n 0 dX12_town_67 rfl ?_
    cases hL
    exact j_reti dX12_town_68 rfl hK
  · replace hL := (if_neg z2).symm.trans hL
    refine j_aload_n 0 dX12_town_15 rfl ?_
    refine j_iconst 1 dX12_town_16 (by decide) ?_
    obtain ⟨q10, hq10, hL⟩ := bnd_ex hL
    refine j_callVi (c_X12_fail G 1 h1 _ hq10) cv_RX12_263 rfl sh_193 (by decide) rfl (by decide) rfl rfl (Nat.le_of_ble_eq_true rfl) dX12_town_17 (by decide) ?_
    cases hL
    exact j_reti dX12_town_20 rfl hK

def f_X12_signOf (v0 : Int32) : Int32 := if v0 ≤ 0 then if 0 ≤ v0 then 0 else (-1) else 1
set_option maxRecDepth 20000 in
theorem c_X12_signOf (G : GG) (v0 : Int32) (h : AH) : SpI G 1 mX12_signOf [.int v0] h (f_X12_signOf v0) h := by
  obtain ⟨r, hL⟩ : ∃ r, f_X12_signOf v0 = r := ⟨_, rfl⟩
  rw [hL]
  refine sp_i pf_X12_signOf (Nat.le_of_ble_eq_true rfl) ?_
  show J G mX12_signOf 1 0 0 (KMi G r h) 0 [(0, .int v0)] [] h
  obtain ⟨K, hK⟩ : ∃ K, K = KMi G r h := ⟨_, rfl⟩
  rw [← hK]
  unfold f_X12_signOf at hL
  refine j_iload_n 0 dX12_signOf_0 rfl ?_
  refine j_if_le 8 dX12_signOf_1 (by decide) (fun z1 => ?_) (fun z1 => ?_)
  · replace hL := (if_pos z1).symm.trans hL
    refine j_iload_n 0 dX12_signOf_8 rfl ?_
    refine j_if_ge 16 dX12_signOf_9 (by decide) (fun z2 => ?_) (fun z2 => ?_)
    · replace hL := (if_pos z2).symm.trans hL
      refine j_iconst 0 dX12_signOf_16 (by decide) ?_
      subst hL
      exact j_reti dX12_signOf_17 rfl hK
    · replace hL := (if_neg z2).symm.trans hL
      refine j_iconst (-1) dX12_signOf_12 (by decide) ?_
      refine j_goto 17 dX12_signOf_13 (by decide) ?_
      subst hL
      exact j_reti dX12_signOf_17 rfl hK
  · replace hL := (if_neg z1).symm.trans hL
    refine j_iconst 1 dX12_signOf_4 (by decide) ?_
    refine j_goto 17 dX12_signOf_5 (by decide) ?_
    subst hL
    exact j_reti dX12_signOf_17 rfl hK

def f_X12_alikeOf_l15 (v1 : Int32) (v2 : Int32) (v4 : Int32) (h : AH) : Nat → Int32 → Int32 → Option (Int32)
  | 0, _, _ => none
  | n + 1, v3, v5 => if v4 ≤ v5 then some v3 else bnd (f_X12_has v1 v4 h) (fun q3 => lt (fun (x12 : Bool) => if x12 = true then bnd (f_X12_lightOf v1 v4 h) (fun q14 => bnd (f_X12_lightOf v1 v5 h) (fun q15 => bnd (f_X12_lightOf v2 v4 h) (fun q16 => bnd (f_X12_lightOf v2 v5 h) (fun q17 => f_X12_alikeOf_l15 v1 v2 v4 h n (v3 + ((f_X12_signOf (q14 - q15)) * (f_X12_signOf (q16 - q17)))) (v5 + 1))))) else f_X12_alikeOf_l15 v1 v2 v4 h n v3 (v5 + 1)) (fun j5 => if q3 = true then bnd (f_X12_has v1 v5 h) (fun q6 => if q6 = true then bnd (f_X12_has v2 v4 h) (fun q8 => if q8 = true then bnd (f_X12_has v2 v5 h) (fun q10 => if q10 = true then j5 true else j5 false) else j5 false) else j5 false) else j5 false))
def f_X12_alikeOf_l5 (v1 : Int32) (v2 : Int32) (h : AH) : Nat → Int32 → Int32 → Option (Int32)
  | 0, _, _ => none
  | n + 1, v3, v4 => if 12 ≤ v4 then some v3 else bnd (f_X12_alikeOf_l15 v1 v2 v4 h FU v3 0) (fun q18 => f_X12_alikeOf_l5 v1 v2 h n q18 (v4 + 1))
def f_X12_alikeOf (v1 : Int32) (v2 : Int32) (h : AH) : Option (Int32) := bnd (f_X12_alikeOf_l5 v1 v2 h FU 0 0) (fun q19 => some q19)
set_option maxRecDepth 20000 in
theorem cl_X12_alikeOf_15 (G : GG) (K : KQ) (v1 : Int32) (v2 : Int32) (v4 : Int32)  : ∀ (n : Nat) (v3 : Int32) (v5 : Int32) (h : AH) (r : Int32), f_X12_alikeOf_l15 v1 v2 v4 h n v3 v5 = some r → J G mX12_alikeOf 8 0 0 K 120 [(0, .ref (ad G 193)), (1, .int v1), (2, .int v2), (3, .int r), (4, .int v4)] [] h → J G mX12_alikeOf 8 0 0 K 15 [(0, .ref (ad G 193)), (1, .int v1), (2, .int v2), (3, .int v3), (4, .int v4), (5, .int v5)] [] h := by
  intro n
  induction n with
  | zero => intro v3 v5 h r hL; cases hL
  | succ n ih =>
    intro v3 v5 h r hL kE
    unfold f_X12_alikeOf_l15 at hL
    refine j_iload 5 dX12_alikeOf_15 rfl ?_
    refine j_iload 4 dX12_alikeOf_17 rfl ?_
    refine j_icmp_ge 120 dX12_alikeOf_19 (by decide) (fun z2 => ?_) (fun z2 => ?_)
    · replace hL := (if_pos z2).symm.trans hL
      cases hL
      refine j_sub [0, 1, 2, 3, 4] rfl ?_
      exact kE 
    · replace hL := (if_neg z2).symm.trans hL
      refine j_aload_n 0 dX12_alikeOf_22 rfl ?_
      refine j_iload_n 1 dX12_alikeOf_23 rfl ?_
      refine j_iload 4 dX12_alikeOf_24 rfl ?_
      obtain ⟨q3, hq3, hL⟩ := bnd_ex hL
      refine j_callVi (c_X12_has G v1 v4 h _ hq3) cv_RX12_374 rfl sh_193 (by decide) rfl (by decide) rfl rfl (Nat.le_of_ble_eq_true rfl) dX12_alikeOf_26 (by decide) ?_
      obtain ⟨j5, ej5, hL⟩ := lt_ex hL
      have kj5 : ∀ (x12 : Bool), j5 x12 = some r → J G mX12_alikeOf 8 0 0 K 67 [(0, .ref (ad G 193)), (1, .int v1), (2, .int v2), (3, .int v3), (4, .int v4), (5, .int v5)] [.int (bI x12)] h := by
        intro x12 hL
        rw [ej5] at hL
        replace hL : (if x12 = true then bnd (f_X12_lightOf v1 v4 h) (fun q14 => bnd (f_X12_lightOf v1 v5 h) (fun q15 => bnd (f_X12_lightOf v2 v4 h) (fun q16 => bnd (f_X12_lightOf v2 v5 h) (fun q17 => f_X12_alikeOf_l15 v1 v2 v4 h n (v3 + ((f_X12_signOf (q14 - q15)) * (f_X12_signOf (q16 - q17)))) (v5 + 1))))) else f_X12_alikeOf_l15 v1 v2 v4 h n v3 (v5 + 1)) = some r := hL
        refine j_istore (lv' := [(6, .int (bI x12)), (0, .ref (ad G 193)), (1, .int v1), (2, .int v2), (3, .int v3), (4, .int v4), (5, .int v5)]) dX12_alikeOf_67 (by decide) rfl ?_
        refine j_iload 0 dX12_alikeOf_69 rfl ?_
        refine j_ifz_eq 114 dX12_alikeOf_71 (by decide) (fun z13 => ?_) (fun z13 => ?_)
        · replace hL := (if_neg z13).symm.trans hL
          refine j_iinc (lv' := [(5, .int (v5 + 1)), (6, .int (bI x12)), (0, .ref (ad G 193)), (1, .int v1), (2, .int v2), (3, .int v3), (4, .int v4)]) 6 dX12_alikeOf_114 rfl rfl (by decide) rfl ?_
          refine j_goto 15 dX12_alikeOf_117 (by decide) ?_
          refine j_sub [2, 3, 4, 5, 6, 0] rfl ?_
          exact ih v3 (v5 + 1) h r hL kE
        · replace hL := (if_pos z13).symm.trans hL
          refine j_iload_n 4 dX12_alikeOf_74 rfl ?_
          refine j_aload_n 1 dX12_alikeOf_75 rfl ?_
          refine j_iload_n 2 dX12_alikeOf_76 rfl ?_
          refine j_iload 5 dX12_alikeOf_77 rfl ?_
          obtain ⟨q14, hq14, hL⟩ := bnd_ex hL
          refine j_callVi (c_X12_lightOf G v1 v4 h _ hq14) cv_RX12_377 rfl sh_193 (by decide) rfl (by decide) rfl rfl (Nat.le_of_ble_eq_true rfl) dX12_alikeOf_79 (by decide) ?_
          refine j_aload_n 1 dX12_alikeOf_82 rfl ?_
          refine j_iload_n 2 dX12_alikeOf_83 rfl ?_
          refine j_iload 6 dX12_alikeOf_84 rfl ?_
          obtain ⟨q15, hq15, hL⟩ := bnd_ex hL
          refine j_callVi (c_X12_lightOf G v1 v5 h _ hq15) cv_RX12_377 rfl sh_193 (by decide) rfl (by decide) rfl rfl (Nat.le_of_ble_eq_true rfl) dX12_alikeOf_86 (by decide) ?_
          refine j_isub dX12_alikeOf_89 ?_
          refine j_callSi (c_X12_signOf G (q14 - q15) h) cv_RX12_442 rfl (by decide) rfl rfl (Nat.le_of_ble_eq_true rfl) dX12_alikeOf_90 (by decide) ?_
          refine j_aload_n 1 dX12_alikeOf_93 rfl ?_
          refine j_iload_n 3 dX12_alikeOf_94 rfl ?_
          refine j_iload 5 dX12_alikeOf_95 rfl ?_
          obtain ⟨q16, hq16, hL⟩ := bnd_ex hL
          refine j_callVi (c_X12_lightOf G v2 v4 h _ hq16) cv_RX12_377 rfl sh_193 (by decide) rfl (by decide) rfl rfl (Nat.le_of_ble_eq_true rfl) dX12_alikeOf_97 (by decide) ?_
          refine j_aload_n 1 dX12_alikeOf_100 rfl ?_
          refine j_iload_n 3 dX12_alikeOf_101 rfl ?_
          refine j_iload 6 dX12_alikeOf_102 rfl ?_
          obtain ⟨q17, hq17, hL⟩ := bnd_ex hL
          refine j_callVi (c_X12_lightOf G v2 v5 h _ hq17) cv_RX12_377 rfl sh_193 (by decide) rfl (by decide) rfl rfl (Nat.le_of_ble_eq_true rfl) dX12_alikeOf_104 (by decide) ?_
          refine j_isub dX12_alikeOf_107 ?_
          refine j_callSi (c_X12_signOf G (q16 - q17) h) cv_RX12_442 rfl (by decide) rfl rfl (Nat.le_of_ble_eq_true rfl) dX12_alikeOf_108 (by decide) ?_
          refine j_imul dX12_alikeOf_111 ?_
          refine j_iadd dX12_alikeOf_112 ?_
          refine j_istore_n (lv' := [(3, .int (v3 + ((f_X12_signOf (q14 - q15)) * (f_X12_signOf (q16 - q17))))), (6, .int (bI x12)), (0, .ref (ad G 193)), (1, .int v1), (2, .int v2), (4, .int v4), (5, .int v5)]) dX12_alikeOf_113 (by decide) rfl ?_
          refine j_iinc (lv' := [(5, .int (v5 + 1)), (3, .int (v3 + ((f_X12_signOf (q14 - q15)) * (f_X12_signOf (q16 - q17))))), (6, .int (bI x12)), (0, .ref (ad G 193)), (1, .int v1), (2, .int v2), (4, .int v4)]) 6 dX12_alikeOf_114 rfl rfl (by decide) rfl ?_
          refine j_goto 15 dX12_alikeOf_117 (by decide) ?_
          refine j_sub [3, 4, 5, 1, 6, 0] rfl ?_
          exact ih (v3 + ((f_X12_signOf (q14 - q15)) * (f_X12_signOf (q16 - q17)))) (v5 + 1) h r hL kE
      refine j_ifz_eq 66 dX12_alikeOf_29 (by decide) (fun z4 => ?_) (fun z4 => ?_)
      · replace hL := (if_neg z4).symm.trans hL
        refine j_iconst 0 dX12_alikeOf_66 (by decide) ?_
        refine j_sub [0, 1, 2, 3, 4, 5] rfl ?_
        exact kj5 false hL
      · replace hL := (if_pos z4).symm.trans hL
        refine j_aload_n 0 dX12_alikeOf_32 rfl ?_
        refine j_iload_n 1 dX12_alikeOf_33 rfl ?_
        refine j_iload 5 dX12_alikeOf_34 rfl ?_
        obtain ⟨q6, hq6, hL⟩ := bnd_ex hL
        refine j_callVi (c_X12_has G v1 v5 h _ hq6) cv_RX12_374 rfl sh_193 (by decide) rfl (by decide) rfl rfl (Nat.le_of_ble_eq_true rfl) dX12_alikeOf_36 (by decide) ?_
        refine j_ifz_eq 66 dX12_alikeOf_39 (by decide) (fun z7 => ?_) (fun z7 => ?_)
        · replace hL := (if_neg z7).symm.trans hL
          refine j_iconst 0 dX12_alikeOf_66 (by decide) ?_
          refine j_sub [0, 1, 2, 3, 4, 5] rfl ?_
          exact kj5 false hL
        · replace hL := (if_pos z7).symm.trans hL
          refine j_aload_n 0 dX12_alikeOf_42 rfl ?_
          refine j_iload_n 2 dX12_alikeOf_43 rfl ?_
          refine j_iload 4 dX12_alikeOf_44 rfl ?_
          obtain ⟨q8, hq8, hL⟩ := bnd_ex hL
          refine j_callVi (c_X12_has G v2 v4 h _ hq8) cv_RX12_374 rfl sh_193 (by decide) rfl (by decide) rfl rfl (Nat.le_of_ble_eq_true rfl) dX12_alikeOf_46 (by decide) ?_
          refine j_ifz_eq 66 dX12_alikeOf_49 (by decide) (fun z9 => ?_) (fun z9 => ?_)
          · replace hL := (if_neg z9).symm.trans hL
            refine j_iconst 0 dX12_alikeOf_66 (by decide) ?_
            refine j_sub [0, 1, 2, 3, 4, 5] rfl ?_
            exact kj5 false hL
          · replace hL := (if_pos z9).symm.trans hL
            refine j_aload_n 0 dX12_alikeOf_52 rfl ?_
            refine j_iload_n 2 dX12_alikeOf_53 rfl ?_
            refine j_iload 5 dX12_alikeOf_54 rfl ?_
            obtain ⟨q10, hq10, hL⟩ := bnd_ex hL
            refine j_callVi (c_X12_has G v2 v5 h _ hq10) cv_RX12_374 rfl sh_193 (by decide) rfl (by decide) rfl rfl (Nat.le_of_ble_eq_true rfl) dX12_alikeOf_56 (by decide) ?_
            refine j_ifz_eq 66 dX12_alikeOf_59 (by decide) (fun z11 => ?_) (fun z11 => ?_)
            · replace hL := (if_neg z11).symm.trans hL
              refine j_iconst 0 dX12_alikeOf_66 (by decide) ?_
              refine j_sub [0, 1, 2, 3, 4, 5] rfl ?_
              exact kj5 false hL
            · replace hL := (if_pos z11).symm.trans hL
              refine j_iconst 1 dX12_alikeOf_62 (by decide) ?_
              refine j_goto 67 dX12_alikeOf_63 (by decide) ?_
              refine j_sub [0, 1, 2, 3, 4, 5] rfl ?_
              exact kj5 true hL

set_option maxRecDepth 20000 in
theorem cl_X12_alikeOf_5 (G : GG) (K : KQ) (v1 : Int32) (v2 : Int32)  : ∀ (n : Nat) (v3 : Int32) (v4 : Int32) (h : AH) (r : Int32), f_X12_alikeOf_l5 v1 v2 h n v3 v4 = some r → J G mX12_alikeOf 8 0 0 K 126 [(3, .int r)] [] h → J G mX12_alikeOf 8 0 0 K 5 [(0, .ref (ad G 193)), (1, .int v1), (2, .int v2), (3, .int v3), (4, .int v4)] [] h := by
  intro n
  induction n with
  | zero => intro v3 v4 h r hL; cases hL
  | succ n ih =>
    intro v3 v4 h r hL kE
    unfold f_X12_alikeOf_l5 at hL
    refine j_iload 4 dX12_alikeOf_5 rfl ?_
    refine j_bipush 12 dX12_alikeOf_7 (by decide) ?_
    refine j_icmp_ge 126 dX12_alikeOf_9 (by decide) (fun z1 => ?_) (fun z1 => ?_)
    · replace hL := (if_pos z1).symm.trans hL
      cases hL
      refine j_sub [3] rfl ?_
      exact kE 
    · replace hL := (if_neg z1).symm.trans hL
      refine j_iconst 0 dX12_alikeOf_12 (by decide) ?_
      refine j_istore (lv' := [(5, .int 0), (0, .ref (ad G 193)), (1, .int v1), (2, .int v2), (3, .int v3), (4, .int v4)]) dX12_alikeOf_13 (by decide) rfl ?_
      obtain ⟨q18, hq18, hL⟩ := bnd_ex hL
      refine j_sub [1, 2, 3, 4, 5, 0] rfl ?_
      refine cl_X12_alikeOf_15 G K v1 v2 v4 FU v3 0 h q18 hq18 ?_
      refine j_iinc (lv' := [(4, .int (v4 + 1)), (0, .ref (ad G 193)), (1, .int v1), (2, .int v2), (3, .int q18)]) 4 dX12_alikeOf_120 rfl rfl (by decide) rfl ?_
      refine j_goto 5 dX12_alikeOf_123 (by decide) ?_
      refine j_sub [1, 2, 3, 4, 0] rfl ?_
      exact ih q18 (v4 + 1) h r hL kE

set_option maxRecDepth 20000 in
theorem c_X12_alikeOf (G : GG) (v1 : Int32) (v2 : Int32) (h : AH) (r : Int32) (hL : f_X12_alikeOf v1 v2 h = some r) : SpI G 8 mX12_alikeOf [.ref (ad G 193), .int v1, .int v2] h r h := by
  refine sp_i pf_X12_alikeOf (Nat.le_of_ble_eq_true rfl) ?_
  show J G mX12_alikeOf 8 0 0 (KMi G r h) 0 [(0, .ref (ad G 193)), (1, .int v1), (2, .int v2)] [] h
  obtain ⟨K, hK⟩ : ∃ K, K = KMi G r h := ⟨_, rfl⟩
  rw [← hK]
  unfold f_X12_alikeOf at hL
  refine j_iconst 0 dX12_alikeOf_0 (by decide) ?_
  refine j_istore_n (lv' := [(3, .int 0), (0, .ref (ad G 193)), (1, .int v1), (2, .int v2)]) dX12_alikeOf_1 (by decide) rfl ?_
  refine j_iconst 0 dX12_alikeOf_2 (by decide) ?_
  refine j_istore (lv' := [(4, .int 0), (3, .int 0), (0, .ref (ad G 193)), (1, .int v1), (2, .int v2)]) dX12_alikeOf_3 (by decide) rfl ?_
  obtain ⟨q19, hq19, hL⟩ := bnd_ex hL
  refine j_sub [2, 3, 4, 1, 0] rfl ?_
  refine cl_X12_alikeOf_5 G K v1 v2 FU 0 0 h q19 hq19 ?_
  refine j_iload_n 0 dX12_alikeOf_126 rfl ?_
  cases hL
  exact j_reti dX12_alikeOf_127 rfl hK

def f_X12_alike (v1 : Int32) (v2 : Int32) (h : AH) : Option (Int32 × AH) := lt (sfi h 193 2 0) (fun h1 => bnd (f_X12_isAsked v1 h1) (fun q2 => if q2 = true then bnd (f_X12_isAsked v2 h1) (fun q5 => if q5 = true then bnd (f_X12_alikeOf v1 v2 h1) (fun q8 => some (q8, h1)) else bnd (f_X12_fail 1 h1) (fun q7 => some (q7.1, q7.2))) else bnd (f_X12_fail 1 h1) (fun q4 => some (q4.1, q4.2))))
set_option maxRecDepth 20000 in
theorem c_X12_alike (G : GG) (v1 : Int32) (v2 : Int32) (h : AH) (r : Int32 × AH) (hL : f_X12_alike v1 v2 h = some r) : SpI G 9 mX12_alike [.ref (ad G 193), .int v1, .int v2] h r.1 r.2 := by
  refine sp_i pf_X12_alike (Nat.le_of_ble_eq_true rfl) ?_
  show J G mX12_alike 9 0 0 (KMi G r.1 r.2) 0 [(0, .ref (ad G 193)), (1, .int v1), (2, .int v2)] [] h
  obtain ⟨K, hK⟩ : ∃ K, K = KMi G r.1 r.2 := ⟨_, rfl⟩
  rw [← hK]
  unfold f_X12_alike at hL
  refine j_aload_n 0 dX12_alike_0 rfl ?_
  refine j_iconst 0 dX12_alike_1 (by decide) ?_
  refine jp_RX12_158 rfl sh_193 dX12_alike_2 ?_
  obtain ⟨h1, eh1, hL⟩ := lt_ex hL
  refine j_heap eh1 ?_
  refine j_aload_n 0 dX12_alike_5 rfl ?_
  refine j_iload_n 1 dX12_alike_6 rfl ?_
  obtain ⟨q2, hq2, hL⟩ := bnd_ex hL
  refine j_callVi (c_X12_isAsked G v1 h1 _ hq2) cv_RX12_371 rfl sh_193 (by decide) rfl (by decide) rfl rfl (Nat.le_of_ble_eq_true rfl) dX12_alike_7 (by decide) ?_
  refine j_ifz_eq 30 dX12_alike_10 (by decide) (fun z3 => ?_) (fun z3 => ?_)
  · replace hL := (if_neg z3).symm.trans hL
    refine j_aload_n 0 dX12_alike_30 rfl ?_
    refine j_iconst 1 dX12_alike_31 (by decide) ?_
    obtain ⟨q4, hq4, hL⟩ := bnd_ex hL
    refine j_callVi (c_X12_fail G 1 h1 _ hq4) cv_RX12_263 rfl sh_193 (by decide) rfl (by decide) rfl rfl (Nat.le_of_ble_eq_true rfl) dX12_alike_32 (by decide) ?_
    cases hL
    exact j_reti dX12_alike_35 rfl hK
  · replace hL := (if_pos z3).symm.trans hL
    refine j_aload_n 0 dX12_alike_13 rfl ?_
    refine j_iload_n 2 dX12_alike_14 rfl ?_
    obtain ⟨q5, hq5, hL⟩ := bnd_ex hL
    refine j_callVi (c_X12_isAsked G v2 h1 _ hq5) cv_RX12_371 rfl sh_193 (by decide) rfl (by decide) rfl rfl (Nat.le_of_ble_eq_true rfl) dX12_alike_15 (by decide) ?_
    refine j_ifz_eq 30 dX12_alike_18 (by decide) (fun z6 => ?_) (fun z6 => ?_)
    · replace hL := (if_neg z6).symm.trans hL
      refine j_aload_n 0 dX12_alike_30 rfl ?_
      refine j_iconst 1 dX12_alike_31 (by decide) ?_
      obtain ⟨q7, hq7, hL⟩ := bnd_ex hL
      refine j_callVi (c_X12_fail G 1 h1 _ hq7) cv_RX12_263 rfl sh_193 (by decide) rfl (by decide) rfl rfl (Nat.le_of_ble_eq_true rfl) dX12_alike_32 (by decide) ?_
      cases hL
      exact j_reti dX12_alike_35 rfl hK
    · replace hL := (if_pos z6).symm.trans hL
      refine j_aload_n 0 dX12_alike_21 rfl ?_
      refine j_iload_n 1 dX12_alike_22 rfl ?_
      refine j_iload_n 2 dX12_alike_23 rfl ?_
      obtain ⟨q8, hq8, hL⟩ := bnd_ex hL
      refine j_callVi (c_X12_alikeOf G v1 v2 h1 _ hq8) cv_RX12_445 rfl sh_193 (by decide) rfl (by decide) rfl rfl (Nat.le_of_ble_eq_true rfl) dX12_alike_24 (by decide) ?_
      refine j_goto 35 dX12_alike_27 (by decide) ?_
      cases hL
      exact j_reti dX12_alike_35 rfl hK

def f_X12_nearest_l26 (v1 : Int32) (h : AH) : Nat → Int32 → Int32 → Int32 → Option (Int32)
  | 0, _, _, _ => none
  | n + 1, v2, v3, v4 => if 6 ≤ v4 then some v2 else if v4 = v1 then f_X12_nearest_l26 v1 h n v2 v3 (v4 + 1) else bnd (f_X12_isKnown v4 h) (fun q6 => if q6 = true then bnd (f_X12_alikeOf v1 v4 h) (fun q8 => if v2 = (-1) then f_X12_nearest_l26 v1 h n v4 q8 (v4 + 1) else if v3 < q8 then f_X12_nearest_l26 v1 h n v4 q8 (v4 + 1) else f_X12_nearest_l26 v1 h n v2 v3 (v4 + 1)) else f_X12_nearest_l26 v1 h n v2 v3 (v4 + 1))
def f_X12_nearest (v1 : Int32) (h : AH) : Option (Int32 × AH) := lt (sfi h 193 2 0) (fun h1 => bnd (f_X12_isAsked v1 h1) (fun q2 => if q2 = true then bnd (f_X12_nearest_l26 v1 h1 FU (-1) 0 0) (fun q11 => some (q11, h1)) else bnd (f_X12_fail 1 h1) (fun q12 => some (q12.1, q12.2))))
set_option maxRecDepth 20000 in
theorem cl_X12_nearest_26 (G : GG) (K : KQ) (v1 : Int32)  : ∀ (n : Nat) (v2 : Int32) (v3 : Int32) (v4 : Int32) (h : AH) (r : Int32), f_X12_nearest_l26 v1 h n v2 v3 v4 = some r → J G mX12_nearest 9 0 0 K 86 [(2, .int r)] [] h → J G mX12_nearest 9 0 0 K 26 [(0, .ref (ad G 193)), (1, .int v1), (2, .int v2), (3, .int v3), (4, .int v4)] [] h := by
  intro n
  induction n with
  | zero => intro v2 v3 v4 h r hL; cases hL
  | succ n ih =>
    intro v2 v3 v4 h r hL kE
    unfold f_X12_nearest_l26 at hL
    refine j_iload 4 dX12_nearest_26 rfl ?_
    refine j_bipush 6 dX12_nearest_28 (by decide) ?_
    refine j_icmp_ge 86 dX12_nearest_30 (by decide) (fun z4 => ?_) (fun z4 => ?_)
    · replace hL := (if_pos z4).symm.trans hL
      cases hL
      refine j_sub [2] rfl ?_
      exact kE 
    · replace hL := (if_neg z4).symm.trans hL
      refine j_iload 4 dX12_nearest_33 rfl ?_
      refine j_iload_n 1 dX12_nearest_35 rfl ?_
      refine j_icmp_eq 80 dX12_nearest_36 (by decide) (fun z5 => ?_) (fun z5 => ?_)
      · replace hL := (if_pos z5).symm.trans hL
        refine j_iinc (lv' := [(4, .int (v4 + 1)), (0, .ref (ad G 193)), (1, .int v1), (2, .int v2), (3, .int v3)]) 4 dX12_nearest_80 rfl rfl (by decide) rfl ?_
        refine j_goto 26 dX12_nearest_83 (by decide) ?_
        refine j_sub [1, 2, 3, 4, 0] rfl ?_
        exact ih v2 v3 (v4 + 1) h r hL kE
      · replace hL := (if_neg z5).symm.trans hL
        refine j_aload_n 0 dX12_nearest_39 rfl ?_
        refine j_iload 4 dX12_nearest_40 rfl ?_
        obtain ⟨q6, hq6, hL⟩ := bnd_ex hL
        refine j_callVi (c_X12_isKnown G v4 h _ hq6) cv_RX12_288 rfl sh_193 (by decide) rfl (by decide) rfl rfl (Nat.le_of_ble_eq_true rfl) dX12_nearest_42 (by decide) ?_
        refine j_ifz_ne 51 dX12_nearest_45 (by decide) (fun z7 => ?_) (fun z7 => ?_)
        · replace hL := (if_pos z7).symm.trans hL
          refine j_aload_n 0 dX12_nearest_51 rfl ?_
          refine j_iload_n 1 dX12_nearest_52 rfl ?_
          refine j_iload 4 dX12_nearest_53 rfl ?_
          obtain ⟨q8, hq8, hL⟩ := bnd_ex hL
          refine j_callVi (c_X12_alikeOf G v1 v4 h _ hq8) cv_RX12_445 rfl sh_193 (by decide) rfl (by decide) rfl rfl (Nat.le_of_ble_eq_true rfl) dX12_nearest_55 (by decide) ?_
          refine j_istore (lv' := [(5, .int q8), (0, .ref (ad G 193)), (1, .int v1), (2, .int v2), (3, .int v3), (4, .int v4)]) dX12_nearest_58 (by decide) rfl ?_
          refine j_iload_n 3 dX12_nearest_60 rfl ?_
          refine j_iconst (-1) dX12_nearest_61 (by decide) ?_
          refine j_icmp_eq 74 dX12_nearest_62 (by decide) (fun z9 => ?_) (fun z9 => ?_)
          · replace hL := (if_pos z9).symm.trans hL
            refine j_iload 5 dX12_nearest_74 rfl ?_
            refine j_istore_n (lv' := [(2, .int v4), (5, .int q8), (0, .ref (ad G 193)), (1, .int v1), (3, .int v3), (4, .int v4)]) dX12_nearest_76 (by decide) rfl ?_
            refine j_iload 1 dX12_nearest_77 rfl ?_
            refine j_istore_n (lv' := [(3, .int q8), (2, .int v4), (5, .int q8), (0, .ref (ad G 193)), (1, .int v1), (4, .int v4)]) dX12_nearest_79 (by decide) rfl ?_
            refine j_iinc (lv' := [(4, .int (v4 + 1)), (3, .int q8), (2, .int v4), (5, .int q8), (0, .ref (ad G 193)), (1, .int v1)]) 5 dX12_nearest_80 rfl rfl (by decide) rfl ?_
            refine j_goto 26 dX12_nearest_83 (by decide) ?_
            refine j_sub [4, 5, 2, 1, 0] rfl ?_
            exact ih v4 q8 (v4 + 1) h r hL kE
          · replace hL := (if_neg z9).symm.trans hL
            refine j_iload 0 dX12_nearest_65 rfl ?_
            refine j_iload_n 4 dX12_nearest_67 rfl ?_
            refine j_icmp_gt 74 dX12_nearest_68 (by decide) (fun z10 => ?_) (fun z10 => ?_)
            · replace hL := (if_pos z10).symm.trans hL
              refine j_iload 5 dX12_nearest_74 rfl ?_
              refine j_istore_n (lv' := [(2, .int v4), (5, .int q8), (0, .ref (ad G 193)), (1, .int v1), (3, .int v3), (4, .int v4)]) dX12_nearest_76 (by decide) rfl ?_
              refine j_iload 1 dX12_nearest_77 rfl ?_
              refine j_istore_n (lv' := [(3, .int q8), (2, .int v4), (5, .int q8), (0, .ref (ad G 193)), (1, .int v1), (4, .int v4)]) dX12_nearest_79 (by decide) rfl ?_
              refine j_iinc (lv' := [(4, .int (v4 + 1)), (3, .int q8), (2, .int v4), (5, .int q8), (0, .ref (ad G 193)), (1, .int v1)]) 5 dX12_nearest_80 rfl rfl (by decide) rfl ?_
              refine j_goto 26 dX12_nearest_83 (by decide) ?_
              refine j_sub [4, 5, 2, 1, 0] rfl ?_
              exact ih v4 q8 (v4 + 1) h r hL kE
            · replace hL := (if_neg z10).symm.trans hL
              refine j_goto 80 dX12_nearest_71 (by decide) ?_
              refine j_iinc (lv' := [(4, .int (v4 + 1)), (5, .int q8), (0, .ref (ad G 193)), (1, .int v1), (2, .int v2), (3, .int v3)]) 5 dX12_nearest_80 rfl rfl (by decide) rfl ?_
              refine j_goto 26 dX12_nearest_83 (by decide) ?_
              refine j_sub [2, 3, 4, 5, 0] rfl ?_
              exact ih v2 v3 (v4 + 1) h r hL kE
        · replace hL := (if_neg z7).symm.trans hL
          refine j_goto 80 dX12_nearest_48 (by decide) ?_
          refine j_iinc (lv' := [(4, .int (v4 + 1)), (0, .ref (ad G 193)), (1, .int v1), (2, .int v2), (3, .int v3)]) 4 dX12_nearest_80 rfl rfl (by decide) rfl ?_
          refine j_goto 26 dX12_nearest_83 (by decide) ?_
          refine j_sub [1, 2, 3, 4, 0] rfl ?_
          exact ih v2 v3 (v4 + 1) h r hL kE

set_option maxRecDepth 20000 in
theorem c_X12_nearest (G : GG) (v1 : Int32) (h : AH) (r : Int32 × AH) (hL : f_X12_nearest v1 h = some r) : SpI G 9 mX12_nearest [.ref (ad G 193), .int v1] h r.1 r.2 := by
  refine sp_i pf_X12_nearest (Nat.le_of_ble_eq_true rfl) ?_
  show J G mX12_nearest 9 0 0 (KMi G r.1 r.2) 0 [(0, .ref (ad G 193)), (1, .int v1)] [] h
  obtain ⟨K, hK⟩ : ∃ K, K = KMi G r.1 r.2 := ⟨_, rfl⟩
  rw [← hK]
  unfold f_X12_nearest at hL
  refine j_aload_n 0 dX12_nearest_0 rfl ?_
  refine j_iconst 0 dX12_nearest_1 (by decide) ?_
  refine jp_RX12_158 rfl sh_193 dX12_nearest_2 ?_
  obtain ⟨h1, eh1, hL⟩ := lt_ex hL
  refine j_heap eh1 ?_
  refine j_aload_n 0 dX12_nearest_5 rfl ?_
  refine j_iload_n 1 dX12_nearest_6 rfl ?_
  obtain ⟨q2, hq2, hL⟩ := bnd_ex hL
  refine j_callVi (c_X12_isAsked G v1 h1 _ hq2) cv_RX12_371 rfl sh_193 (by decide) rfl (by decide) rfl rfl (Nat.le_of_ble_eq_true rfl) dX12_nearest_7 (by decide) ?_
  refine j_ifz_ne 19 dX12_nearest_10 (by decide) (fun z3 => ?_) (fun z3 => ?_)
  · replace hL := (if_pos z3).symm.trans hL
    refine j_iconst (-1) dX12_nearest_19 (by decide) ?_
    refine j_istore_n (lv' := [(2, .int (-1)), (0, .ref (ad G 193)), (1, .int v1)]) dX12_nearest_20 (by decide) rfl ?_
    refine j_iconst 0 dX12_nearest_21 (by decide) ?_
    refine j_istore_n (lv' := [(3, .int 0), (2, .int (-1)), (0, .ref (ad G 193)), (1, .int v1)]) dX12_nearest_22 (by decide) rfl ?_
    refine j_iconst 0 dX12_nearest_23 (by decide) ?_
    refine j_istore (lv' := [(4, .int 0), (3, .int 0), (2, .int (-1)), (0, .ref (ad G 193)), (1, .int v1)]) dX12_nearest_24 (by decide) rfl ?_
    obtain ⟨q11, hq11, hL⟩ := bnd_ex hL
    refine j_sub [3, 4, 2, 1, 0] rfl ?_
    refine cl_X12_nearest_26 G K v1 FU (-1) 0 0 h1 q11 hq11 ?_
    refine j_iload_n 0 dX12_nearest_86 rfl ?_
    cases hL
    exact j_reti dX12_nearest_87 rfl hK
  · replace hL := (if_neg z3).symm.trans hL
    refine j_aload_n 0 dX12_nearest_13 rfl ?_
    refine j_iconst 1 dX12_nearest_14 (by decide) ?_
    obtain ⟨q12, hq12, hL⟩ := bnd_ex hL
    refine j_callVi (c_X12_fail G 1 h1 _ hq12) cv_RX12_263 rfl sh_193 (by decide) rfl (by decide) rfl rfl (Nat.le_of_ble_eq_true rfl) dX12_nearest_15 (by decide) ?_
    cases hL
    exact j_reti dX12_nearest_18 rfl hK

def f_X12_turnsOf_l6 (v1 : Int32) (v2 : Int32) (v3 : Bool) (h : AH) : Nat → Int64 → Int32 → Option (Int64)
  | 0, _, _ => none
  | n + 1, v4, v6 => gd (ib v1 8 = true) (if (hia h 196 (cl v1)) ≤ v6 then some v4 else gd (ib (f_X12_at v1 v6) 320 = true) (if (hia h 202 (cl (f_X12_at v1 v6))) = v2 then bnd (f_X12_isStrange v1 v6 h) (fun q5 => if q5 = true then f_X12_turnsOf_l6 v1 v2 v3 h n v4 (v6 + 1) else if v3 = true then bnd (f_X12_turnsHigh v1 v6 h) (fun q9 => f_X12_turnsOf_l6 v1 v2 v3 h n (v4 + q9.toInt64) (v6 + 1)) else bnd (f_X12_turnsLow v1 v6 h) (fun q8 => f_X12_turnsOf_l6 v1 v2 v3 h n (v4 + q8.toInt64) (v6 + 1))) else f_X12_turnsOf_l6 v1 v2 v3 h n v4 (v6 + 1)))
def f_X12_turnsOf (v1 : Int32) (v2 : Int32) (v3 : Bool) (h : AH) : Option (Int64) := bnd (f_X12_turnsOf_l6 v1 v2 v3 h FU 0 0) (fun q10 => some q10)
set_option maxRecDepth 20000 in
theorem cl_X12_turnsOf_6 (G : GG) (K : KQ) (v1 : Int32) (v2 : Int32) (v3 : Bool)  : ∀ (n : Nat) (v4 : Int64) (v6 : Int32) (h : AH) (r : Int64), f_X12_turnsOf_l6 v1 v2 v3 h n v4 v6 = some r → J G mX12_turnsOf 6 0 0 K 76 [(4, .long r)] [] h → J G mX12_turnsOf 6 0 0 K 6 [(0, .ref (ad G 193)), (1, .int v1), (2, .int v2), (3, .int (bI v3)), (4, .long v4), (6, .int v6)] [] h := by
  intro n
  induction n with
  | zero => intro v4 v6 h r hL; cases hL
  | succ n ih =>
    intro v4 v6 h r hL kE
    unfold f_X12_turnsOf_l6 at hL
    refine j_iload 5 dX12_turnsOf_6 rfl ?_
    refine j_aload_n 0 dX12_turnsOf_8 rfl ?_
    refine jg_RX12_32 rfl sh_193 dX12_turnsOf_9 ?_
    refine j_iload_n 1 dX12_turnsOf_12 rfl ?_
    obtain ⟨g1, hL⟩ := gd_ex hL
    refine j_iald (shf_12_3 sh_193) (ib_in g1) dX12_turnsOf_13 ?_
    refine j_icmp_ge 76 dX12_turnsOf_14 (by decide) (fun z2 => ?_) (fun z2 => ?_)
    · replace hL := (if_pos z2).symm.trans hL
      cases hL
      refine j_sub [4] rfl ?_
      exact kE 
    · replace hL := (if_neg z2).symm.trans hL
      refine j_aload_n 0 dX12_turnsOf_17 rfl ?_
      refine jg_RX12_50 rfl sh_193 dX12_turnsOf_18 ?_
      refine j_iload_n 1 dX12_turnsOf_21 rfl ?_
      refine j_iload 5 dX12_turnsOf_22 rfl ?_
      refine j_callSi (c_X12_at G v1 v6 h) cv_RX12_244 rfl (by decide) rfl rfl (Nat.le_of_ble_eq_true rfl) dX12_turnsOf_24 (by decide) ?_
      obtain ⟨g3, hL⟩ := gd_ex hL
      refine j_iald (shf_12_9 sh_193) (ib_in g3) dX12_turnsOf_27 ?_
      refine j_iload_n 2 dX12_turnsOf_28 rfl ?_
      refine j_icmp_ne 70 dX12_turnsOf_29 (by decide) (fun z4 => ?_) (fun z4 => ?_)
      · replace hL := (if_neg z4).symm.trans hL
        refine j_iinc (lv' := [(6, .int (v6 + 1)), (0, .ref (ad G 193)), (1, .int v1), (2, .int v2), (3, .int (bI v3)), (4, .long v4)]) 5 dX12_turnsOf_70 rfl rfl (by decide) rfl ?_
        refine j_goto 6 dX12_turnsOf_73 (by decide) ?_
        refine j_sub [1, 2, 3, 4, 5, 0] rfl ?_
        exact ih v4 (v6 + 1) h r hL kE
      · replace hL := (if_pos z4).symm.trans hL
        refine j_aload_n 0 dX12_turnsOf_32 rfl ?_
        refine j_iload_n 1 dX12_turnsOf_33 rfl ?_
        refine j_iload 5 dX12_turnsOf_34 rfl ?_
        obtain ⟨q5, hq5, hL⟩ := bnd_ex hL
        refine j_callVi (c_X12_isStrange G v1 v6 h _ hq5) cv_RX12_357 rfl sh_193 (by decide) rfl (by decide) rfl rfl (Nat.le_of_ble_eq_true rfl) dX12_turnsOf_36 (by decide) ?_
        refine j_ifz_ne 70 dX12_turnsOf_39 (by decide) (fun z6 => ?_) (fun z6 => ?_)
        · replace hL := (if_pos z6).symm.trans hL
          refine j_iinc (lv' := [(6, .int (v6 + 1)), (0, .ref (ad G 193)), (1, .int v1), (2, .int v2), (3, .int (bI v3)), (4, .long v4)]) 5 dX12_turnsOf_70 rfl rfl (by decide) rfl ?_
          refine j_goto 6 dX12_turnsOf_73 (by decide) ?_
          refine j_sub [1, 2, 3, 4, 5, 0] rfl ?_
          exact ih v4 (v6 + 1) h r hL kE
        · replace hL := (if_neg z6).symm.trans hL
          refine j_lload 4 dX12_turnsOf_42 rfl ?_
          refine j_iload_n 3 dX12_turnsOf_44 rfl ?_
          refine j_ifz_eq 59 dX12_turnsOf_45 (by decide) (fun z7 => ?_) (fun z7 => ?_)
          · replace hL := (if_neg z7).symm.trans hL
            refine j_aload_n 0 dX12_turnsOf_59 rfl ?_
            refine j_iload_n 1 dX12_turnsOf_60 rfl ?_
            refine j_iload 5 dX12_turnsOf_61 rfl ?_
            obtain ⟨q8, hq8, hL⟩ := bnd_ex hL
            refine j_callVi (c_X12_turnsLow G v1 v6 h _ hq8) cv_RX12_351 rfl sh_193 (by decide) rfl (by decide) rfl rfl (Nat.le_of_ble_eq_true rfl) dX12_turnsOf_63 (by decide) ?_
            refine j_i2l dX12_turnsOf_66 ?_
            refine j_ladd dX12_turnsOf_67 ?_
            refine j_lstore (lv' := [(4, .long (v4 + q8.toInt64)), (0, .ref (ad G 193)), (1, .int v1), (2, .int v2), (3, .int (bI v3)), (6, .int v6)]) dX12_turnsOf_68 (by decide) rfl ?_
            refine j_iinc (lv' := [(6, .int (v6 + 1)), (4, .long (v4 + q8.toInt64)), (0, .ref (ad G 193)), (1, .int v1), (2, .int v2), (3, .int (bI v3))]) 5 dX12_turnsOf_70 rfl rfl (by decide) rfl ?_
            refine j_goto 6 dX12_turnsOf_73 (by decide) ?_
            refine j_sub [2, 3, 4, 5, 1, 0] rfl ?_
            exact ih (v4 + q8.toInt64) (v6 + 1) h r hL kE
          · replace hL := (if_pos z7).symm.trans hL
            refine j_aload_n 0 dX12_turnsOf_48 rfl ?_
            refine j_iload_n 1 dX12_turnsOf_49 rfl ?_
            refine j_iload 5 dX12_turnsOf_50 rfl ?_
            obtain ⟨q9, hq9, hL⟩ := bnd_ex hL
            refine j_callVi (c_X12_turnsHigh G v1 v6 h _ hq9) cv_RX12_354 rfl sh_193 (by decide) rfl (by decide) rfl rfl (Nat.le_of_ble_eq_true rfl) dX12_turnsOf_52 (by decide) ?_
            refine j_i2l dX12_turnsOf_55 ?_
            refine j_goto 67 dX12_turnsOf_56 (by decide) ?_
            refine j_ladd dX12_turnsOf_67 ?_
            refine j_lstore (lv' := [(4, .long (v4 + q9.toInt64)), (0, .ref (ad G 193)), (1, .int v1), (2, .int v2), (3, .int (bI v3)), (6, .int v6)]) dX12_turnsOf_68 (by decide) rfl ?_
            refine j_iinc (lv' := [(6, .int (v6 + 1)), (4, .long (v4 + q9.toInt64)), (0, .ref (ad G 193)), (1, .int v1), (2, .int v2), (3, .int (bI v3))]) 5 dX12_turnsOf_70 rfl rfl (by decide) rfl ?_
            refine j_goto 6 dX12_turnsOf_73 (by decide) ?_
            refine j_sub [2, 3, 4, 5, 1, 0] rfl ?_
            exact ih (v4 + q9.toInt64) (v6 + 1) h r hL kE

set_option maxRecDepth 20000 in
theorem c_X12_turnsOf (G : GG) (v1 : Int32) (v2 : Int32) (v3 : Bool) (h : AH) (r : Int64) (hL : f_X12_turnsOf v1 v2 v3 h = some r) : SpL G 6 mX12_turnsOf [.ref (ad G 193), .int v1, .int v2, .int (bI v3)] h r h := by
  refine sp_l pf_X12_turnsOf (Nat.le_of_ble_eq_true rfl) ?_
  show J G mX12_turnsOf 6 0 0 (KMl G r h) 0 [(0, .ref (ad G 193)), (1, .int v1), (2, .int v2), (3, .int (bI v3))] [] h
  obtain ⟨K, hK⟩ : ∃ K, K = KMl G r h := ⟨_, rfl⟩
  rw [← hK]
  unfold f_X12_turnsOf at hL
  refine j_lconst 0 dX12_turnsOf_0 (by decide) ?_
  refine j_lstore (lv' := [(4, .long 0), (0, .ref (ad G 193)), (1, .int v1), (2, .int v2), (3, .int (bI v3))]) dX12_turnsOf_1 (by decide) rfl ?_
  refine j_iconst 0 dX12_turnsOf_3 (by decide) ?_
  refine j_istore (lv' := [(6, .int 0), (4, .long 0), (0, .ref (ad G 193)), (1, .int v1), (2, .int v2), (3, .int (bI v3))]) dX12_turnsOf_4 (by decide) rfl ?_
  obtain ⟨q10, hq10, hL⟩ := bnd_ex hL
  refine j_sub [2, 3, 4, 5, 1, 0] rfl ?_
  refine cl_X12_turnsOf_6 G K v1 v2 v3 FU 0 0 h q10 hq10 ?_
  refine j_lload 0 dX12_turnsOf_76 rfl ?_
  cases hL
  exact j_retl dX12_turnsOf_78 rfl hK

def f_X12_isSurely (v1 : Int32) (v2 : Int32) (v3 : Int32) (h : AH) : Option (Bool) := bnd (f_X12_turnsOf v1 v2 false h) (fun q1 => bnd (f_X12_leavesOf v1 v3 h) (fun q2 => bnd (f_X12_turnsOf v1 v3 true h) (fun q3 => bnd (f_X12_leavesOf v1 v2 h) (fun q4 => if (lg_cmp (q1 * q2.toInt64) (q3 * q4.toInt64)) ≤ 0 then some false else some true))))
set_option maxRecDepth 20000 in
theorem c_X12_isSurely (G : GG) (v1 : Int32) (v2 : Int32) (v3 : Int32) (h : AH) (r : Bool) (hL : f_X12_isSurely v1 v2 v3 h = some r) : SpI G 7 mX12_isSurely [.ref (ad G 193), .int v1, .int v2, .int v3] h (bI r) h := by
  refine sp_i pf_X12_isSurely (Nat.le_of_ble_eq_true rfl) ?_
  show J G mX12_isSurely 7 0 0 (KMi G (bI r) h) 0 [(0, .ref (ad G 193)), (1, .int v1), (2, .int v2), (3, .int v3)] [] h
  obtain ⟨K, hK⟩ : ∃ K, K = KMi G (bI r) h := ⟨_, rfl⟩
  rw [← hK]
  unfold f_X12_isSurely at hL
  refine j_aload_n 0 dX12_isSurely_0 rfl ?_
  refine j_iload_n 1 dX12_isSurely_1 rfl ?_
  refine j_iload_n 2 dX12_isSurely_2 rfl ?_
  refine j_iconst 0 dX12_isSurely_3 (by decide) ?_
  refine j_eq (st' := [.int (bI false), .int v2, .int v1, .ref (ad G 193)]) rfl rfl ?_
  obtain ⟨q1, hq1, hL⟩ := bnd_ex hL
  refine j_callVl (c_X12_turnsOf G v1 v2 false h _ hq1) cv_RX12_448 rfl sh_193 (by decide) rfl (by decide) rfl rfl (Nat.le_of_ble_eq_true rfl) dX12_isSurely_4 (by decide) ?_
  refine j_aload_n 0 dX12_isSurely_7 rfl ?_
  refine j_iload_n 1 dX12_isSurely_8 rfl ?_
  refine j_iload_n 3 dX12_isSurely_9 rfl ?_
  obtain ⟨q2, hq2, hL⟩ := bnd_ex hL
  refine j_callVi (c_X12_leavesOf G v1 v3 h _ hq2) cv_RX12_368 rfl sh_193 (by decide) rfl (by decide) rfl rfl (Nat.le_of_ble_eq_true rfl) dX12_isSurely_10 (by decide) ?_
  refine j_i2l dX12_isSurely_13 ?_
  refine j_lmul dX12_isSurely_14 ?_
  refine j_aload_n 0 dX12_isSurely_15 rfl ?_
  refine j_iload_n 1 dX12_isSurely_16 rfl ?_
  refine j_iload_n 3 dX12_isSurely_17 rfl ?_
  refine j_iconst 1 dX12_isSurely_18 (by decide) ?_
  refine j_eq (st' := [.int (bI true), .int v3, .int v1, .ref (ad G 193), .long (q1 * q2.toInt64)]) rfl rfl ?_
  obtain ⟨q3, hq3, hL⟩ := bnd_ex hL
  refine j_callVl (c_X12_turnsOf G v1 v3 true h _ hq3) cv_RX12_448 rfl sh_193 (by decide) rfl (by decide) rfl rfl (Nat.le_of_ble_eq_true rfl) dX12_isSurely_19 (by decide) ?_
  refine j_aload_n 0 dX12_isSurely_22 rfl ?_
  refine j_iload_n 1 dX12_isSurely_23 rfl ?_
  refine j_iload_n 2 dX12_isSurely_24 rfl ?_
  obtain ⟨q4, hq4, hL⟩ := bnd_ex hL
  refine j_callVi (c_X12_leavesOf G v1 v2 h _ hq4) cv_RX12_368 rfl sh_193 (by decide) rfl (by decide) rfl rfl (Nat.le_of_ble_eq_true rfl) dX12_isSurely_25 (by decide) ?_
  refine j_i2l dX12_isSurely_28 ?_
  refine j_lmul dX12_isSurely_29 ?_
  refine j_lcmp dX12_isSurely_30 ?_
  refine j_if_le 38 dX12_isSurely_31 (by decide) (fun z5 => ?_) (fun z5 => ?_)
  · replace hL := (if_pos z5).symm.trans hL
    refine j_iconst 0 dX12_isSurely_38 (by decide) ?_
    cases hL
    exact j_ret0 dX12_isSurely_39 rfl hK
  · replace hL := (if_neg z5).symm.trans hL
    refine j_iconst 1 dX12_isSurely_34 (by decide) ?_
    refine j_goto 39 dX12_isSurely_35 (by decide) ?_
    cases hL
    exact j_ret1 dX12_isSurely_39 rfl hK

def f_X12_sure (v1 : Int32) (v2 : Int32) (v3 : Int32) (h : AH) : Option (Int32 × AH) := lt (sfi h 193 2 0) (fun h1 => bnd (f_X12_isAsked v1 h1) (fun q2 => if q2 = true then bnd (f_X12_has v1 v2 h1) (fun q5 => if q5 = true then bnd (f_X12_has v1 v3 h1) (fun q8 => if q8 = true then bnd (f_X12_isSurely v1 v2 v3 h1) (fun q10 => if q10 = true then some (1, h1) else bnd (f_X12_isSurely v1 v3 v2 h1) (fun q12 => if q12 = true then some ((-1), h1) else some (0, h1))) else bnd (f_X12_fail 1 h1) (fun q14 => some (q14.1, q14.2))) else bnd (f_X12_fail 1 h1) (fun q7 => some (q7.1, q7.2))) else bnd (f_X12_fail 1 h1) (fun q4 => some (q4.1, q4.2))))
set_option maxRecDepth 20000 in
theorem c_X12_sure (G : GG) (v1 : Int32) (v2 : Int32) (v3 : Int32) (h : AH) (r : Int32 × AH) (hL : f_X12_sure v1 v2 v3 h = some r) : SpI G 8 mX12_sure [.ref (ad G 193), .int v1, .int v2, .int v3] h r.1 r.2 := by
  refine sp_i pf_X12_sure (Nat.le_of_ble_eq_true rfl) ?_
  show J G mX12_sure 8 0 0 (KMi G r.1 r.2) 0 [(0, .ref (ad G 193)), (1, .int v1), (2, .int v2), (3, .int v3)] [] h
  obtain ⟨K, hK⟩ : ∃ K, K = KMi G r.1 r.2 := ⟨_, rfl⟩
  rw [← hK]
  unfold f_X12_sure at hL
  refine j_aload_n 0 dX12_sure_0 rfl ?_
  refine j_iconst 0 dX12_sure_1 (by decide) ?_
  refine jp_RX12_158 rfl sh_193 dX12_sure_2 ?_
  obtain ⟨h1, eh1, hL⟩ := lt_ex hL
  refine j_heap eh1 ?_
  refine j_aload_n 0 dX12_sure_5 rfl ?_
  refine j_iload_n 1 dX12_sure_6 rfl ?_
  obtain ⟨q2, hq2, hL⟩ := bnd_ex hL
  refine j_callVi (c_X12_isAsked G v1 h1 _ hq2) cv_RX12_371 rfl sh_193 (by decide) rfl (by decide) rfl rfl (Nat.le_of_ble_eq_true rfl) dX12_sure_7 (by decide) ?_
  refine j_ifz_eq 31 dX12_sure_10 (by decide) (fun z3 => ?_) (fun z3 => ?_)
  · replace hL := (if_neg z3).symm.trans hL
    refine j_aload_n 0 dX12_sure_31 rfl ?_
    refine j_iconst 1 dX12_sure_32 (by decide) ?_
    obtain ⟨q4, hq4, hL⟩ := bnd_ex hL
    refine j_callVi (c_X12_fail G 1 h1 _ hq4) cv_RX12_263 rfl sh_193 (by decide) rfl (by decide) rfl rfl (Nat.le_of_ble_eq_true rfl) dX12_sure_33 (by decide) ?_
    cases hL
    exact j_reti dX12_sure_36 rfl hK
  · replace hL := (if_pos z3).symm.trans hL
    refine j_aload_n 0 dX12_sure_13 rfl ?_
    refine j_iload_n 1 dX12_sure_14 rfl ?_
    refine j_iload_n 2 dX12_sure_15 rfl ?_
    obtain ⟨q5, hq5, hL⟩ := bnd_ex hL
    refine j_callVi (c_X12_has G v1 v2 h1 _ hq5) cv_RX12_374 rfl sh_193 (by decide) rfl (by decide) rfl rfl (Nat.le_of_ble_eq_true rfl) dX12_sure_16 (by decide) ?_
    refine j_ifz_eq 31 dX12_sure_19 (by decide) (fun z6 => ?_) (fun z6 => ?_)
    · replace hL := (if_neg z6).symm.trans hL
      refine j_aload_n 0 dX12_sure_31 rfl ?_
      refine j_iconst 1 dX12_sure_32 (by decide) ?_
      obtain ⟨q7, hq7, hL⟩ := bnd_ex hL
      refine j_callVi (c_X12_fail G 1 h1 _ hq7) cv_RX12_263 rfl sh_193 (by decide) rfl (by decide) rfl rfl (Nat.le_of_ble_eq_true rfl) dX12_sure_33 (by decide) ?_
      cases hL
      exact j_reti dX12_sure_36 rfl hK
    · replace hL := (if_pos z6).symm.trans hL
      refine j_aload_n 0 dX12_sure_22 rfl ?_
      refine j_iload_n 1 dX12_sure_23 rfl ?_
      refine j_iload_n 3 dX12_sure_24 rfl ?_
      obtain ⟨q8, hq8, hL⟩ := bnd_ex hL
      refine j_callVi (c_X12_has G v1 v3 h1 _ hq8) cv_RX12_374 rfl sh_193 (by decide) rfl (by decide) rfl rfl (Nat.le_of_ble_eq_true rfl) dX12_sure_25 (by decide) ?_
      refine j_ifz_ne 37 dX12_sure_28 (by decide) (fun z9 => ?_) (fun z9 => ?_)
      · replace hL := (if_pos z9).symm.trans hL
        refine j_aload_n 0 dX12_sure_37 rfl ?_
        refine j_iload_n 1 dX12_sure_38 rfl ?_
        refine j_iload_n 2 dX12_sure_39 rfl ?_
        refine j_iload_n 3 dX12_sure_40 rfl ?_
        obtain ⟨q10, hq10, hL⟩ := bnd_ex hL
        refine j_callVi (c_X12_isSurely G v1 v2 v3 h1 _ hq10) cv_RX12_452 rfl sh_193 (by decide) rfl (by decide) rfl rfl (Nat.le_of_ble_eq_true rfl) dX12_sure_41 (by decide) ?_
        refine j_ifz_eq 51 dX12_sure_44 (by decide) (fun z11 => ?_) (fun z11 => ?_)
        · replace hL := (if_neg z11).symm.trans hL
          refine j_aload_n 0 dX12_sure_51 rfl ?_
          refine j_iload_n 1 dX12_sure_52 rfl ?_
          refine j_iload_n 3 dX12_sure_53 rfl ?_
          refine j_iload_n 2 dX12_sure_54 rfl ?_
          obtain ⟨q12, hq12, hL⟩ := bnd_ex hL
          refine j_callVi (c_X12_isSurely G v1 v3 v2 h1 _ hq12) cv_RX12_452 rfl sh_193 (by decide) rfl (by decide) rfl rfl (Nat.le_of_ble_eq_true rfl) dX12_sure_55 (by decide) ?_
          refine j_ifz_eq 65 dX12_sure_58 (by decide) (fun z13 => ?_) (fun z13 => ?_)
          · replace hL := (if_neg z13).symm.trans hL
            refine j_iconst 0 dX12_sure_65 (by decide) ?_
            cases hL
            exact j_reti dX12_sure_66 rfl hK
          · replace hL := (if_pos z13).symm.trans hL
            refine j_iconst (-1) dX12_sure_61 (by decide) ?_
            refine j_goto 66 dX12_sure_62 (by decide) ?_
            cases hL
            exact j_reti dX12_sure_66 rfl hK
        · replace hL := (if_pos z11).symm.trans hL
          refine j_iconst 1 dX12_sure_47 (by decide) ?_
          refine j_goto 66 dX12_sure_48 (by decide) ?_
          cases hL
          exact j_reti dX12_sure_66 rfl hK
      · replace hL := (if_neg z9).symm.trans hL
        refine j_aload_n 0 dX12_sure_31 rfl ?_
        refine j_iconst 1 dX12_sure_32 (by decide) ?_
        obtain ⟨q14, hq14, hL⟩ := bnd_ex hL
        refine j_callVi (c_X12_fail G 1 h1 _ hq14) cv_RX12_263 rfl sh_193 (by decide) rfl (by decide) rfl rfl (Nat.le_of_ble_eq_true rfl) dX12_sure_33 (by decide) ?_
        cases hL
        exact j_reti dX12_sure_36 rfl hK

def f_X12_before (v1 : Int32) (v2 : Int32) (v3 : Int32) (v4 : Int32) (h : AH) : Option (Int32 × AH) := lt (sfi h 193 2 0) (fun h1 => bnd (f_X12_isLeaf v1 v2 h1) (fun q2 => if q2 = true then if v4 < 0 then bnd (f_X12_fail 1 h1) (fun q6 => some (q6.1, q6.2)) else if 1 < v4 then bnd (f_X12_fail 1 h1) (fun q8 => some (q8.1, q8.2)) else bnd (f_X12_isUndone v1 v2 h1) (fun q9 => if q9 = true then if (f_X12_isIn v3 0 99) = true then bnd (f_X12_undoneLow v1 v2 (v2 - 1) h1) (fun q12 => bnd (f_X12_undoneHigh v1 v2 (v2 - 1) h1) (fun q13 => if (lg_cmp ((f_J9_max_7cf53 0 q12).toInt64) q13.toInt64) ≤ 0 then if v4 = 0 then gd (¬ (100 - v3.toInt64) = 0) (some (Int64.toInt32 ((((((f_J9_max_7cf53 0 q12).toInt64) * 100) + (100 - v3.toInt64)) - 1) / (100 - v3.toInt64)), h1)) else gd (¬ (100 - v3.toInt64) = 0) (some (Int64.toInt32 ((((q13.toInt64 + 1) * 100) - 1) / (100 - v3.toInt64)), h1)) else some ((-1), h1))) else bnd (f_X12_fail 2 h1) (fun q18 => some (q18.1, q18.2)) else bnd (f_X12_fail 1 h1) (fun q19 => some (q19.1, q19.2))) else bnd (f_X12_fail 1 h1) (fun q4 => some (q4.1, q4.2))))
set_option maxRecDepth 20000 in
theorem c_X12_before (G : GG) (v1 : Int32) (v2 : Int32) (v3 : Int32) (v4 : Int32) (h : AH) (r : Int32 × AH) (hL : f_X12_before v1 v2 v3 v4 h = some r) : SpI G 4 mX12_before [.ref (ad G 193), .int v1, .int v2, .int v3, .int v4] h r.1 r.2 := by
  refine sp_i pf_X12_before (Nat.le_of_ble_eq_true rfl) ?_
  show J G mX12_before 4 0 0 (KMi G r.1 r.2) 0 [(0, .ref (ad G 193)), (1, .int v1), (2, .int v2), (3, .int v3), (4, .int v4)] [] h
  obtain ⟨K, hK⟩ : ∃ K, K = KMi G r.1 r.2 := ⟨_, rfl⟩
  rw [← hK]
  unfold f_X12_before at hL
  refine j_aload_n 0 dX12_before_0 rfl ?_
  refine j_iconst 0 dX12_before_1 (by decide) ?_
  refine jp_RX12_158 rfl sh_193 dX12_before_2 ?_
  obtain ⟨h1, eh1, hL⟩ := lt_ex hL
  refine j_heap eh1 ?_
  refine j_aload_n 0 dX12_before_5 rfl ?_
  refine j_iload_n 1 dX12_before_6 rfl ?_
  refine j_iload_n 2 dX12_before_7 rfl ?_
  obtain ⟨q2, hq2, hL⟩ := bnd_ex hL
  refine j_callVi (c_X12_isLeaf G v1 v2 h1 _ hq2) cv_RX12_294 rfl sh_193 (by decide) rfl (by decide) rfl rfl (Nat.le_of_ble_eq_true rfl) dX12_before_8 (by decide) ?_
  refine j_ifz_eq 34 dX12_before_11 (by decide) (fun z3 => ?_) (fun z3 => ?_)
  · replace hL := (if_neg z3).symm.trans hL
    refine j_aload_n 0 dX12_before_34 rfl ?_
    refine j_iconst 1 dX12_before_35 (by decide) ?_
    obtain ⟨q4, hq4, hL⟩ := bnd_ex hL
    refine j_callVi (c_X12_fail G 1 h1 _ hq4) cv_RX12_263 rfl sh_193 (by decide) rfl (by decide) rfl rfl (Nat.le_of_ble_eq_true rfl) dX12_before_36 (by decide) ?_
    cases hL
    exact j_reti dX12_before_39 rfl hK
  · replace hL := (if_pos z3).symm.trans hL
    refine j_iload 4 dX12_before_14 rfl ?_
    refine j_if_lt 34 dX12_before_16 (by decide) (fun z5 => ?_) (fun z5 => ?_)
    · replace hL := (if_pos z5).symm.trans hL
      refine j_aload_n 0 dX12_before_34 rfl ?_
      refine j_iconst 1 dX12_before_35 (by decide) ?_
      obtain ⟨q6, hq6, hL⟩ := bnd_ex hL
      refine j_callVi (c_X12_fail G 1 h1 _ hq6) cv_RX12_263 rfl sh_193 (by decide) rfl (by decide) rfl rfl (Nat.le_of_ble_eq_true rfl) dX12_before_36 (by decide) ?_
      cases hL
      exact j_reti dX12_before_39 rfl hK
    · replace hL := (if_neg z5).symm.trans hL
      refine j_iload 4 dX12_before_19 rfl ?_
      refine j_iconst 1 dX12_before_21 (by decide) ?_
      refine j_icmp_gt 34 dX12_before_22 (by decide) (fun z7 => ?_) (fun z7 => ?_)
      · replace hL := (if_pos z7).symm.trans hL
        refine j_aload_n 0 dX12_before_34 rfl ?_
        refine j_iconst 1 dX12_before_35 (by decide) ?_
        obtain ⟨q8, hq8, hL⟩ := bnd_ex hL
        refine j_callVi (c_X12_fail G 1 h1 _ hq8) cv_RX12_263 rfl sh_193 (by decide) rfl (by decide) rfl rfl (Nat.le_of_ble_eq_true rfl) dX12_before_36 (by decide) ?_
        cases hL
        exact j_reti dX12_before_39 rfl hK
      · replace hL := (if_neg z7).symm.trans hL
        refine j_aload_n 0 dX12_before_25 rfl ?_
        refine j_iload_n 1 dX12_before_26 rfl ?_
        refine j_iload_n 2 dX12_before_27 rfl ?_
        obtain ⟨q9, hq9, hL⟩ := bnd_ex hL
        refine j_callVi (c_X12_isUndone G v1 v2 h1 _ hq9) cv_RX12_360 rfl sh_193 (by decide) rfl (by decide) rfl rfl (Nat.le_of_ble_eq_true rfl) dX12_before_28 (by decide) ?_
        refine j_ifz_ne 40 dX12_before_31 (by decide) (fun z10 => ?_) (fun z10 => ?_)
        · replace hL := (if_pos z10).symm.trans hL
          refine j_iload_n 3 dX12_before_40 rfl ?_
          refine j_iconst 0 dX12_before_41 (by decide) ?_
          refine j_bipush 99 dX12_before_42 (by decide) ?_
          refine j_callSi (c_X12_isIn G v3 0 99 h1) cv_RX12_161 rfl (by decide) rfl rfl (Nat.le_of_ble_eq_true rfl) dX12_before_44 (by decide) ?_
          refine j_ifz_ne 56 dX12_before_47 (by decide) (fun z11 => ?_) (fun z11 => ?_)
          · replace hL := (if_pos z11).symm.trans hL
            refine j_iconst 0 dX12_before_56 (by decide) ?_
            refine j_aload_n 0 dX12_before_57 rfl ?_
            refine j_iload_n 1 dX12_before_58 rfl ?_
            refine j_iload_n 2 dX12_before_59 rfl ?_
            refine j_iload_n 2 dX12_before_60 rfl ?_
            refine j_iconst 1 dX12_before_61 (by decide) ?_
            refine j_isub dX12_before_62 ?_
            obtain ⟨q12, hq12, hL⟩ := bnd_ex hL
            refine j_callVi (c_X12_undoneLow G v1 v2 (v2 - 1) h1 _ hq12) cv_RX12_342 rfl sh_193 (by decide) rfl (by decide) rfl rfl (Nat.le_of_ble_eq_true rfl) dX12_before_63 (by decide) ?_
            refine j_callSi (c_J9_max_7cf53 G 0 q12 h1) cv_RX12_298 rfl (by decide) rfl rfl (Nat.le_of_ble_eq_true rfl) dX12_before_66 (by decide) ?_
            refine j_i2l dX12_before_69 ?_
            refine j_lstore (lv' := [(5, .long ((f_J9_max_7cf53 0 q12).toInt64)), (0, .ref (ad G 193)), (1, .int v1), (2, .int v2), (3, .int v3), (4, .int v4)]) dX12_before_70 (by decide) rfl ?_
            refine j_aload_n 1 dX12_before_72 rfl ?_
            refine j_iload_n 2 dX12_before_73 rfl ?_
            refine j_iload_n 3 dX12_before_74 rfl ?_
            refine j_iload_n 3 dX12_before_75 rfl ?_
            refine j_iconst 1 dX12_before_76 (by decide) ?_
            refine j_isub dX12_before_77 ?_
            obtain ⟨q13, hq13, hL⟩ := bnd_ex hL
            refine j_callVi (c_X12_undoneHigh G v1 v2 (v2 - 1) h1 _ hq13) cv_RX12_345 rfl sh_193 (by decide) rfl (by decide) rfl rfl (Nat.le_of_ble_eq_true rfl) dX12_before_78 (by decide) ?_
            refine j_i2l dX12_before_81 ?_
            refine j_lstore (lv' := [(7, .long q13.toInt64), (5, .long ((f_J9_max_7cf53 0 q12).toInt64)), (0, .ref (ad G 193)), (1, .int v1), (2, .int v2), (3, .int v3), (4, .int v4)]) dX12_before_82 (by decide) rfl ?_
            refine j_lload 1 dX12_before_84 rfl ?_
            refine j_lload 0 dX12_before_86 rfl ?_
            refine j_lcmp dX12_before_88 ?_
            refine j_if_le 94 dX12_before_89 (by decide) (fun z14 => ?_) (fun z14 => ?_)
            · replace hL := (if_pos z14).symm.trans hL
              refine j_ldc2 rfl kk_RX12_308 dX12_before_94 ?_
              refine j_iload_n 5 dX12_before_97 rfl ?_
              refine j_i2l dX12_before_98 ?_
              refine j_lsub dX12_before_99 ?_
              refine j_lstore (lv' := [(9, .long (100 - v3.toInt64)), (7, .long q13.toInt64), (5, .long ((f_J9_max_7cf53 0 q12).toInt64)), (0, .ref (ad G 193)), (1, .int v1), (2, .int v2), (3, .int v3), (4, .int v4)]) dX12_before_100 (by decide) rfl ?_
              refine j_iload 7 dX12_before_102 rfl ?_
              refine j_if_ne 124 dX12_before_104 (by decide) (fun z15 => ?_) (fun z15 => ?_)
              · replace hL := (if_neg z15).symm.trans hL
                refine j_lload 1 dX12_before_124 rfl ?_
                refine j_lconst 1 dX12_before_126 (by decide) ?_
                refine j_ladd dX12_before_127 ?_
                refine j_ldc2 rfl kk_RX12_308 dX12_before_128 ?_
                refine j_lmul dX12_before_131 ?_
                refine j_lconst 1 dX12_before_132 (by decide) ?_
                refine j_lsub dX12_before_133 ?_
                refine j_lload 0 dX12_before_134 rfl ?_
                obtain ⟨g16, hL⟩ := gd_ex hL
                refine j_ldiv dX12_before_136 g16 ?_
                refine j_l2i dX12_before_137 ?_
                cases hL
                exact j_reti dX12_before_138 rfl hK
              · replace hL := (if_pos z15).symm.trans hL
                refine j_lload 2 dX12_before_107 rfl ?_
                refine j_ldc2 rfl kk_RX12_308 dX12_before_109 ?_
                refine j_lmul dX12_before_112 ?_
                refine j_lload 0 dX12_before_113 rfl ?_
                refine j_ladd dX12_before_115 ?_
                refine j_lconst 1 dX12_before_116 (by decide) ?_
                refine j_lsub dX12_before_117 ?_
                refine j_lload 0 dX12_before_118 rfl ?_
                obtain ⟨g17, hL⟩ := gd_ex hL
                refine j_ldiv dX12_before_120 g17 ?_
                refine j_goto 137 dX12_before_121 (by decide) ?_
                refine j_l2i dX12_before_137 ?_
                cases hL
                exact j_reti dX12_before_138 rfl hK
            · replace hL := (if_neg z14).symm.trans hL
              refine j_iconst (-1) dX12_before_92 (by decide) ?_
              cases hL
              exact j_reti dX12_before_93 rfl hK
          · replace hL := (if_neg z11).symm.trans hL
            refine j_aload_n 0 dX12_before_50 rfl ?_
            refine j_iconst 2 dX12_before_51 (by decide) ?_
            obtain ⟨q18, hq18, hL⟩ := bnd_ex hL
            refine j_callVi (c_X12_fail G 2 h1 _ hq18) cv_RX12_263 rfl sh_193 (by decide) rfl (by decide) rfl rfl (Nat.le_of_ble_eq_true rfl) dX12_before_52 (by decide) ?_
            cases hL
            exact j_reti dX12_before_55 rfl hK
        · replace hL := (if_neg z10).symm.trans hL
          refine j_aload_n 0 dX12_before_34 rfl ?_
          refine j_iconst 1 dX12_before_35 (by decide) ?_
          obtain ⟨q19, hq19, hL⟩ := bnd_ex hL
          refine j_callVi (c_X12_fail G 1 h1 _ hq19) cv_RX12_263 rfl sh_193 (by decide) rfl (by decide) rfl rfl (Nat.le_of_ble_eq_true rfl) dX12_before_36 (by decide) ?_
          cases hL
          exact j_reti dX12_before_39 rfl hK

def f_X12_told_l84 (v1 : Int32) : Nat → Int32 → AH → Option (AH)
  | 0, _, _ => none
  | n + 1, v7, h => gd (ib v1 8 = true) (if (hia h 196 (cl v1)) ≤ v7 then some h else gd (ib (f_X12_at 7 v7) 320 = true) (lt (sia h 208 (cl (f_X12_at 7 v7)) (-1)) (fun h15 => f_X12_told_l84 v1 n (v7 + 1) h15)))
def f_X12_told_l66 (v1 : Int32) (v2 : Int32) (v3 : Int32) : Nat → Int32 → Int32 → AH → Option (Int32 × AH)
  | 0, _, _, _ => none
  | n + 1, v5, v6, h => if v3 ≤ v6 then some (v5, h) else gd (ib v1 8 = true) (if (hia h 196 (cl v1)) ≤ 0 then some (v5, h) else bnd (f_X12_told_l84 v1 FU 0 h) (fun q16 => bnd (f_X12_drawAll 7 q16) (fun q17 => lt (fun (x20 : Bool) => if x20 = true then bnd (f_X12_whoseOf 7 q17.2) (fun q22 => if q22 = v2 then f_X12_told_l66 v1 v2 v3 n (v5 + 1) (v6 + 1) q17.2 else f_X12_told_l66 v1 v2 v3 n (v5 + 0) (v6 + 1) q17.2) else f_X12_told_l66 v1 v2 v3 n (v5 + 0) (v6 + 1) q17.2) (fun j19 => if q17.1 = 0 then j19 true else j19 false))))
def f_X12_told (v1 : Int32) (v2 : Int32) (v3 : Int32) (v4 : Int32) (h : AH) : Option (Int32 × AH) := lt (sfi h 193 2 0) (fun h1 => if (f_X12_isBook v1) = true then if (f_X12_isWay v2) = true then if (f_X12_isIn v3 1 100) = true then lt (sfi h1 193 40 v4) (fun h6 => bnd (f_X12_copyBook v1 7 h6) (fun q7 => bnd (f_X12_tellDirt 7 q7) (fun q8 => bnd (f_X12_told_l66 v1 v2 v3 FU 0 0 q8) (fun q24 => some (q24.1, q24.2))))) else bnd (f_X12_fail 2 h1) (fun q25 => some (q25.1, q25.2)) else bnd (f_X12_fail 1 h1) (fun q26 => some (q26.1, q26.2)) else bnd (f_X12_fail 1 h1) (fun q3 => some (q3.1, q3.2)))
set_option maxRecDepth 20000 in
theorem cl_X12_told_84 (G : GG) (K : KQ) (v1 : Int32) (v2 : Int32) (v3 : Int32) (v5 : Int32) (v6 : Int32)  : ∀ (n : Nat) (v7 : Int32) (h : AH) (r : AH), f_X12_told_l84 v1 n v7 h = some r → J G mX12_told 9 0 0 K 114 [(0, .ref (ad G 193)), (1, .int v1), (2, .int v2), (3, .int v3), (5, .int v5), (6, .int v6)] [] r → J G mX12_told 9 0 0 K 84 [(0, .ref (ad G 193)), (1, .int v1), (2, .int v2), (3, .int v3), (5, .int v5), (6, .int v6), (7, .int v7)] [] h := by
  intro n
  induction n with
  | zero => intro v7 h r hL; cases hL
  | succ n ih =>
    intro v7 h r hL kE
    unfold f_X12_told_l84 at hL
    refine j_iload 6 dX12_told_84 rfl ?_
    refine j_aload_n 0 dX12_told_86 rfl ?_
    refine jg_RX12_32 rfl sh_193 dX12_told_87 ?_
    refine j_iload_n 1 dX12_told_90 rfl ?_
    obtain ⟨g12, hL⟩ := gd_ex hL
    refine j_iald (shf_12_3 sh_193) (ib_in g12) dX12_told_91 ?_
    refine j_icmp_ge 114 dX12_told_92 (by decide) (fun z13 => ?_) (fun z13 => ?_)
    · replace hL := (if_pos z13).symm.trans hL
      cases hL
      refine j_sub [0, 1, 2, 3, 4, 5] rfl ?_
      exact kE 
    · replace hL := (if_neg z13).symm.trans hL
      refine j_aload_n 0 dX12_told_95 rfl ?_
      refine jg_RX12_66 rfl sh_193 dX12_told_96 ?_
      refine j_bipush 7 dX12_told_99 (by decide) ?_
      refine j_iload 6 dX12_told_101 rfl ?_
      refine j_callSi (c_X12_at G 7 v7 h) cv_RX12_244 rfl (by decide) rfl rfl (Nat.le_of_ble_eq_true rfl) dX12_told_103 (by decide) ?_
      refine j_iconst (-1) dX12_told_106 (by decide) ?_
      obtain ⟨g14, hL⟩ := gd_ex hL
      refine j_iast (shf_12_15 sh_193) (ib_in g14) dX12_told_107 ?_
      obtain ⟨h15, eh15, hL⟩ := lt_ex hL
      refine j_heap eh15 ?_
      refine j_iinc (lv' := [(7, .int (v7 + 1)), (0, .ref (ad G 193)), (1, .int v1), (2, .int v2), (3, .int v3), (5, .int v5), (6, .int v6)]) 6 dX12_told_108 rfl rfl (by decide) rfl ?_
      refine j_goto 84 dX12_told_111 (by decide) ?_
      refine j_sub [1, 2, 3, 4, 5, 6, 0] rfl ?_
      exact ih (v7 + 1) h15 r hL kE

set_option maxRecDepth 20000 in
theorem cl_X12_told_66 (G : GG) (K : KQ) (v1 : Int32) (v2 : Int32) (v3 : Int32)  : ∀ (n : Nat) (v5 : Int32) (v6 : Int32) (h : AH) (r : Int32 × AH), f_X12_told_l66 v1 v2 v3 n v5 v6 h = some r → J G mX12_told 9 0 0 K 161 [(5, .int r.1)] [] r.2 → J G mX12_told 9 0 0 K 66 [(0, .ref (ad G 193)), (1, .int v1), (2, .int v2), (3, .int v3), (5, .int v5), (6, .int v6)] [] h := by
  intro n
  induction n with
  | zero => intro v5 v6 h r hL; cases hL
  | succ n ih =>
    intro v5 v6 h r hL kE
    unfold f_X12_told_l66 at hL
    refine j_iload 5 dX12_told_66 rfl ?_
    refine j_iload_n 3 dX12_told_68 rfl ?_
    refine j_icmp_ge 161 dX12_told_69 (by decide) (fun z9 => ?_) (fun z9 => ?_)
    · replace hL := (if_pos z9).symm.trans hL
      cases hL
      refine j_sub [4] rfl ?_
      exact kE 
    · replace hL := (if_neg z9).symm.trans hL
      refine j_aload_n 0 dX12_told_72 rfl ?_
      refine jg_RX12_32 rfl sh_193 dX12_told_73 ?_
      refine j_iload_n 1 dX12_told_76 rfl ?_
      obtain ⟨g10, hL⟩ := gd_ex hL
      refine j_iald (shf_12_3 sh_193) (ib_in g10) dX12_told_77 ?_
      refine j_if_le 161 dX12_told_78 (by decide) (fun z11 => ?_) (fun z11 => ?_)
      · replace hL := (if_pos z11).symm.trans hL
        cases hL
        refine j_sub [4] rfl ?_
        exact kE 
      · replace hL := (if_neg z11).symm.trans hL
        refine j_iconst 0 dX12_told_81 (by decide) ?_
        refine j_istore (lv' := [(7, .int 0), (0, .ref (ad G 193)), (1, .int v1), (2, .int v2), (3, .int v3), (5, .int v5), (6, .int v6)]) dX12_told_82 (by decide) rfl ?_
        obtain ⟨q16, hq16, hL⟩ := bnd_ex hL
        refine j_sub [1, 2, 3, 4, 5, 6, 0] rfl ?_
        refine cl_X12_told_84 G K v1 v2 v3 v5 v6 FU 0 h q16 hq16 ?_
        refine j_aload_n 0 dX12_told_114 rfl ?_
        refine j_bipush 7 dX12_told_115 (by decide) ?_
        obtain ⟨q17, hq17, hL⟩ := bnd_ex hL
        refine j_callVi (c_X12_drawAll G 7 q16 _ hq17) cv_RX12_330 rfl sh_193 (by decide) rfl (by decide) rfl rfl (Nat.le_of_ble_eq_true rfl) dX12_told_117 (by decide) ?_
        obtain ⟨j19, ej19, hL⟩ := lt_ex hL
        have kj19 : ∀ (x20 : Bool), j19 x20 = some r → J G mX12_told 9 0 0 K 128 [(0, .ref (ad G 193)), (1, .int v1), (2, .int v2), (3, .int v3), (5, .int v5), (6, .int v6)] [.int (bI x20)] q17.2 := by
          intro x20 hL
          rw [ej19] at hL
          replace hL : (if x20 = true then bnd (f_X12_whoseOf 7 q17.2) (fun q22 => if q22 = v2 then f_X12_told_l66 v1 v2 v3 n (v5 + 1) (v6 + 1) q17.2 else f_X12_told_l66 v1 v2 v3 n (v5 + 0) (v6 + 1) q17.2) else f_X12_told_l66 v1 v2 v3 n (v5 + 0) (v6 + 1) q17.2) = some r := hL
          refine j_istore (lv' := [(7, .int (bI x20)), (0, .ref (ad G 193)), (1, .int v1), (2, .int v2), (3, .int v3), (5, .int v5), (6, .int v6)]) dX12_told_128 (by decide) rfl ?_
          refine j_iload 5 dX12_told_130 rfl ?_
          refine j_iload 0 dX12_told_132 rfl ?_
          refine j_ifz_eq 151 dX12_told_134 (by decide) (fun z21 => ?_) (fun z21 => ?_)
          · replace hL := (if_neg z21).symm.trans hL
            refine j_iconst 0 dX12_told_151 (by decide) ?_
            refine j_iadd dX12_told_152 ?_
            refine j_istore (lv' := [(5, .int (v5 + 0)), (7, .int (bI x20)), (0, .ref (ad G 193)), (1, .int v1), (2, .int v2), (3, .int v3), (6, .int v6)]) dX12_told_153 (by decide) rfl ?_
            refine j_iinc (lv' := [(6, .int (v6 + 1)), (5, .int (v5 + 0)), (7, .int (bI x20)), (0, .ref (ad G 193)), (1, .int v1), (2, .int v2), (3, .int v3)]) 6 dX12_told_155 rfl rfl (by decide) rfl ?_
            refine j_goto 66 dX12_told_158 (by decide) ?_
            refine j_sub [3, 4, 5, 6, 1, 0] rfl ?_
            exact ih (v5 + 0) (v6 + 1) q17.2 r hL kE
          · replace hL := (if_pos z21).symm.trans hL
            refine j_aload_n 1 dX12_told_137 rfl ?_
            refine j_bipush 7 dX12_told_138 (by decide) ?_
            obtain ⟨q22, hq22, hL⟩ := bnd_ex hL
            refine j_callVi (c_X12_whoseOf G 7 q17.2 _ hq22) cv_RX12_428 rfl sh_193 (by decide) rfl (by decide) rfl rfl (Nat.le_of_ble_eq_true rfl) dX12_told_140 (by decide) ?_
            refine j_iload_n 3 dX12_told_143 rfl ?_
            refine j_icmp_ne 151 dX12_told_144 (by decide) (fun z23 => ?_) (fun z23 => ?_)
            · replace hL := (if_neg z23).symm.trans hL
              refine j_iconst 0 dX12_told_151 (by decide) ?_
              refine j_iadd dX12_told_152 ?_
              refine j_istore (lv' := [(5, .int (v5 + 0)), (7, .int (bI x20)), (0, .ref (ad G 193)), (1, .int v1), (2, .int v2), (3, .int v3), (6, .int v6)]) dX12_told_153 (by decide) rfl ?_
              refine j_iinc (lv' := [(6, .int (v6 + 1)), (5, .int (v5 + 0)), (7, .int (bI x20)), (0, .ref (ad G 193)), (1, .int v1), (2, .int v2), (3, .int v3)]) 6 dX12_told_155 rfl rfl (by decide) rfl ?_
              refine j_goto 66 dX12_told_158 (by decide) ?_
              refine j_sub [3, 4, 5, 6, 1, 0] rfl ?_
              exact ih (v5 + 0) (v6 + 1) q17.2 r hL kE
            · replace hL := (if_pos z23).symm.trans hL
              refine j_iconst 1 dX12_told_147 (by decide) ?_
              refine j_goto 152 dX12_told_148 (by decide) ?_
              refine j_iadd dX12_told_152 ?_
              refine j_istore (lv' := [(5, .int (v5 + 1)), (7, .int (bI x20)), (0, .ref (ad G 193)), (1, .int v1), (2, .int v2), (3, .int v3), (6, .int v6)]) dX12_told_153 (by decide) rfl ?_
              refine j_iinc (lv' := [(6, .int (v6 + 1)), (5, .int (v5 + 1)), (7, .int (bI x20)), (0, .ref (ad G 193)), (1, .int v1), (2, .int v2), (3, .int v3)]) 6 dX12_told_155 rfl rfl (by decide) rfl ?_
              refine j_goto 66 dX12_told_158 (by decide) ?_
              refine j_sub [3, 4, 5, 6, 1, 0] rfl ?_
              exact ih (v5 + 1) (v6 + 1) q17.2 r hL kE
        refine j_if_ne 127 dX12_told_120 (by decide) (fun z18 => ?_) (fun z18 => ?_)
        · replace hL := (if_neg z18).symm.trans hL
          refine j_iconst 0 dX12_told_127 (by decide) ?_
          refine j_sub [0, 1, 2, 3, 4, 5] rfl ?_
          exact kj19 false hL
        · replace hL := (if_pos z18).symm.trans hL
          refine j_iconst 1 dX12_told_123 (by decide) ?_
          refine j_goto 128 dX12_told_124 (by decide) ?_
          refine j_sub [0, 1, 2, 3, 4, 5] rfl ?_
          exact kj19 true hL

set_option maxRecDepth 20000 in
theorem c_X12_told (G : GG) (v1 : Int32) (v2 : Int32) (v3 : Int32) (v4 : Int32) (h : AH) (r : Int32 × AH) (hL : f_X12_told v1 v2 v3 v4 h = some r) : SpI G 9 mX12_told [.ref (ad G 193), .int v1, .int v2, .int v3, .int v4] h r.1 r.2 := by
  refine sp_i pf_X12_told (Nat.le_of_ble_eq_true rfl) ?_
  show J G mX12_told 9 0 0 (KMi G r.1 r.2) 0 [(0, .ref (ad G 193)), (1, .int v1), (2, .int v2), (3, .int v3), (4, .int v4)] [] h
  obtain ⟨K, hK⟩ : ∃ K, K = KMi G r.1 r.2 := ⟨_, rfl⟩
  rw [← hK]
  unfold f_X12_told at hL
  refine j_aload_n 0 dX12_told_0 rfl ?_
  refine j_iconst 0 dX12_told_1 (by decide) ?_
  refine jp_RX12_158 rfl sh_193 dX12_told_2 ?_
  obtain ⟨h1, eh1, hL⟩ := lt_ex hL
  refine j_heap eh1 ?_
  refine j_iload_n 1 dX12_told_5 rfl ?_
  refine j_callSi (c_X12_isBook G v1 h1) cv_RX12_165 rfl (by decide) rfl rfl (Nat.le_of_ble_eq_true rfl) dX12_told_6 (by decide) ?_
  refine j_ifz_eq 19 dX12_told_9 (by decide) (fun z2 => ?_) (fun z2 => ?_)
  · replace hL := (if_neg z2).symm.trans hL
    refine j_aload_n 0 dX12_told_19 rfl ?_
    refine j_iconst 1 dX12_told_20 (by decide) ?_
    obtain ⟨q3, hq3, hL⟩ := bnd_ex hL
    refine j_callVi (c_X12_fail G 1 h1 _ hq3) cv_RX12_263 rfl sh_193 (by decide) rfl (by decide) rfl rfl (Nat.le_of_ble_eq_true rfl) dX12_told_21 (by decide) ?_
    cases hL
    exact j_reti dX12_told_24 rfl hK
  · replace hL := (if_pos z2).symm.trans hL
    refine j_iload_n 2 dX12_told_12 rfl ?_
    refine j_callSi (c_X12_isWay G v2 h1) cv_RX12_279 rfl (by decide) rfl rfl (Nat.le_of_ble_eq_true rfl) dX12_told_13 (by decide) ?_
    refine j_ifz_ne 25 dX12_told_16 (by decide) (fun z4 => ?_) (fun z4 => ?_)
    · replace hL := (if_pos z4).symm.trans hL
      refine j_iload_n 3 dX12_told_25 rfl ?_
      refine j_iconst 1 dX12_told_26 (by decide) ?_
      refine j_bipush 100 dX12_told_27 (by decide) ?_
      refine j_callSi (c_X12_isIn G v3 1 100 h1) cv_RX12_161 rfl (by decide) rfl rfl (Nat.le_of_ble_eq_true rfl) dX12_told_29 (by decide) ?_
      refine j_ifz_ne 41 dX12_told_32 (by decide) (fun z5 => ?_) (fun z5 => ?_)
      · replace hL := (if_pos z5).symm.trans hL
        refine j_aload_n 0 dX12_told_41 rfl ?_
        refine j_iload 4 dX12_told_42 rfl ?_
        refine jp_RX12_320 rfl sh_193 dX12_told_44 ?_
        obtain ⟨h6, eh6, hL⟩ := lt_ex hL
        refine j_heap eh6 ?_
        refine j_aload_n 0 dX12_told_47 rfl ?_
        refine j_iload_n 1 dX12_told_48 rfl ?_
        refine j_bipush 7 dX12_told_49 (by decide) ?_
        obtain ⟨q7, hq7, hL⟩ := bnd_ex hL
        refine j_callVv (c_X12_copyBook G v1 7 h6 _ hq7) cv_RX12_275 rfl sh_193 (by decide) rfl (by decide) rfl rfl (Nat.le_of_ble_eq_true rfl) dX12_told_51 (by decide) ?_
        refine j_aload_n 0 dX12_told_54 rfl ?_
        refine j_bipush 7 dX12_told_55 (by decide) ?_
        obtain ⟨q8, hq8, hL⟩ := bnd_ex hL
        refine j_callVv (c_X12_tellDirt G 7 q7 _ hq8) cv_RX12_316 rfl sh_193 (by decide) rfl (by decide) rfl rfl (Nat.le_of_ble_eq_true rfl) dX12_told_57 (by decide) ?_
        refine j_iconst 0 dX12_told_60 (by decide) ?_
        refine j_istore (lv' := [(5, .int 0), (0, .ref (ad G 193)), (1, .int v1), (2, .int v2), (3, .int v3), (4, .int v4)]) dX12_told_61 (by decide) rfl ?_
        refine j_iconst 0 dX12_told_63 (by decide) ?_
        refine j_istore (lv' := [(6, .int 0), (5, .int 0), (0, .ref (ad G 193)), (1, .int v1), (2, .int v2), (3, .int v3), (4, .int v4)]) dX12_told_64 (by decide) rfl ?_
        obtain ⟨q24, hq24, hL⟩ := bnd_ex hL
        refine j_sub [2, 3, 4, 5, 1, 0] rfl ?_
        refine cl_X12_told_66 G K v1 v2 v3 FU 0 0 q8 q24 hq24 ?_
        refine j_iload 0 dX12_told_161 rfl ?_
        cases hL
        exact j_reti dX12_told_163 rfl hK
      · replace hL := (if_neg z5).symm.trans hL
        refine j_aload_n 0 dX12_told_35 rfl ?_
        refine j_iconst 2 dX12_told_36 (by decide) ?_
        obtain ⟨q25, hq25, hL⟩ := bnd_ex hL
        refine j_callVi (c_X12_fail G 2 h1 _ hq25) cv_RX12_263 rfl sh_193 (by decide) rfl (by decide) rfl rfl (Nat.le_of_ble_eq_true rfl) dX12_told_37 (by decide) ?_
        cases hL
        exact j_reti dX12_told_40 rfl hK
    · replace hL := (if_neg z4).symm.trans hL
      refine j_aload_n 0 dX12_told_19 rfl ?_
      refine j_iconst 1 dX12_told_20 (by decide) ?_
      obtain ⟨q26, hq26, hL⟩ := bnd_ex hL
      refine j_callVi (c_X12_fail G 1 h1 _ hq26) cv_RX12_263 rfl sh_193 (by decide) rfl (by decide) rfl rfl (Nat.le_of_ble_eq_true rfl) dX12_told_21 (by decide) ?_
      cases hL
      exact j_reti dX12_told_24 rfl hK

def f_X12_next_l20 (v1 : Int32) (h : AH) : Nat → Int32 → Option ((Unit) ⊕ (Int32 × AH))
  | 0, _ => none
  | n + 1, v2 => gd (ib v1 8 = true) (if (hia h 196 (cl v1)) ≤ v2 then some (.inl ()) else gd (ib (f_X12_at v1 v2) 320 = true) (if (hia h 208 (cl (f_X12_at v1 v2))) = (-1) then some (.inr (v2, h)) else f_X12_next_l20 v1 h n (v2 + 1)))
def f_X12_next_l54 (v1 : Int32) (h : AH) : Nat → Int32 → Option ((Unit) ⊕ (Int32 × AH))
  | 0, _ => none
  | n + 1, v2 => gd (ib v1 8 = true) (if (hia h 196 (cl v1)) ≤ v2 then some (.inl ()) else bnd (f_X12_isStrange v1 v2 h) (fun q10 => if q10 = true then some (.inr (v2, h)) else f_X12_next_l54 v1 h n (v2 + 1)))
def f_X12_next_l88 (v1 : Int32) (h : AH) : Nat → Int32 → Int32 → Int32 → Option (Int32)
  | 0, _, _, _ => none
  | n + 1, v2, v3, v4 => gd (ib v1 8 = true) (if (hia h 196 (cl v1)) ≤ v4 then some v2 else bnd (f_X12_turnsHigh v1 v4 h) (fun q15 => bnd (f_X12_turnsLow v1 v4 h) (fun q16 => if v3 < (q15 - q16) then f_X12_next_l88 v1 h n v4 (q15 - q16) (v4 + 1) else f_X12_next_l88 v1 h n v2 v3 (v4 + 1))))
def f_X12_next (v1 : Int32) (h : AH) : Option (Int32 × AH) := lt (sfi h 193 2 0) (fun h1 => if (f_X12_isBook v1) = true then bnd (f_X12_next_l20 v1 h1 FU 0) (fun q7 => Sum.elim (fun xq7 => bnd (f_X12_next_l54 v1 h1 FU 0) (fun q12 => Sum.elim (fun xq12 => bnd (f_X12_next_l88 v1 h1 FU (-1) (-1) 0) (fun q18 => some (q18, h1))) (fun xq12 => some xq12) q12)) (fun xq7 => some xq7) q7) else bnd (f_X12_fail 1 h1) (fun q19 => some (q19.1, q19.2)))
set_option maxRecDepth 20000 in
theorem cl_X12_next_20 (G : GG) (K : KQ) (v1 : Int32)  : ∀ (n : Nat) (v2 : Int32) (h : AH) (r : (Unit) ⊕ (Int32 × AH)), f_X12_next_l20 v1 h n v2 = some r → (∀ x, r = .inl x → J G mX12_next 6 0 0 K 52 [(0, .ref (ad G 193)), (1, .int v1)] [] h) → (∀ x, r = .inr x → K = KMi G x.1 x.2) → J G mX12_next 6 0 0 K 20 [(0, .ref (ad G 193)), (1, .int v1), (2, .int v2)] [] h := by
  intro n
  induction n with
  | zero => intro v2 h r hL; cases hL
  | succ n ih =>
    intro v2 h r hL kE kR
    unfold f_X12_next_l20 at hL
    refine j_iload_n 2 dX12_next_20 rfl ?_
    refine j_aload_n 0 dX12_next_21 rfl ?_
    refine jg_RX12_32 rfl sh_193 dX12_next_22 ?_
    refine j_iload_n 1 dX12_next_25 rfl ?_
    obtain ⟨g3, hL⟩ := gd_ex hL
    refine j_iald (shf_12_3 sh_193) (ib_in g3) dX12_next_26 ?_
    refine j_icmp_ge 52 dX12_next_27 (by decide) (fun z4 => ?_) (fun z4 => ?_)
    · replace hL := (if_pos z4).symm.trans hL
      cases hL
      refine j_sub [0, 1] rfl ?_
      exact kE _ rfl
    · replace hL := (if_neg z4).symm.trans hL
      refine j_aload_n 0 dX12_next_30 rfl ?_
      refine jg_RX12_66 rfl sh_193 dX12_next_31 ?_
      refine j_iload_n 1 dX12_next_34 rfl ?_
      refine j_iload_n 2 dX12_next_35 rfl ?_
      refine j_callSi (c_X12_at G v1 v2 h) cv_RX12_244 rfl (by decide) rfl rfl (Nat.le_of_ble_eq_true rfl) dX12_next_36 (by decide) ?_
      obtain ⟨g5, hL⟩ := gd_ex hL
      refine j_iald (shf_12_15 sh_193) (ib_in g5) dX12_next_39 ?_
      refine j_iconst (-1) dX12_next_40 (by decide) ?_
      refine j_icmp_ne 46 dX12_next_41 (by decide) (fun z6 => ?_) (fun z6 => ?_)
      · replace hL := (if_neg z6).symm.trans hL
        refine j_iinc (lv' := [(2, .int (v2 + 1)), (0, .ref (ad G 193)), (1, .int v1)]) 2 dX12_next_46 rfl rfl (by decide) rfl ?_
        refine j_goto 20 dX12_next_49 (by decide) ?_
        refine j_sub [1, 2, 0] rfl ?_
        exact ih (v2 + 1) h r hL kE kR
      · replace hL := (if_pos z6).symm.trans hL
        refine j_iload_n 2 dX12_next_44 rfl ?_
        cases hL
        exact j_reti dX12_next_45 rfl (kR _ rfl)

set_option maxRecDepth 20000 in
theorem cl_X12_next_54 (G : GG) (K : KQ) (v1 : Int32)  : ∀ (n : Nat) (v2 : Int32) (h : AH) (r : (Unit) ⊕ (Int32 × AH)), f_X12_next_l54 v1 h n v2 = some r → (∀ x, r = .inl x → J G mX12_next 6 0 0 K 81 [(0, .ref (ad G 193)), (1, .int v1)] [] h) → (∀ x, r = .inr x → K = KMi G x.1 x.2) → J G mX12_next 6 0 0 K 54 [(0, .ref (ad G 193)), (1, .int v1), (2, .int v2)] [] h := by
  intro n
  induction n with
  | zero => intro v2 h r hL; cases hL
  | succ n ih =>
    intro v2 h r hL kE kR
    unfold f_X12_next_l54 at hL
    refine j_iload_n 2 dX12_next_54 rfl ?_
    refine j_aload_n 0 dX12_next_55 rfl ?_
    refine jg_RX12_32 rfl sh_193 dX12_next_56 ?_
    refine j_iload_n 1 dX12_next_59 rfl ?_
    obtain ⟨g8, hL⟩ := gd_ex hL
    refine j_iald (shf_12_3 sh_193) (ib_in g8) dX12_next_60 ?_
    refine j_icmp_ge 81 dX12_next_61 (by decide) (fun z9 => ?_) (fun z9 => ?_)
    · replace hL := (if_pos z9).symm.trans hL
      cases hL
      refine j_sub [0, 1] rfl ?_
      exact kE _ rfl
    · replace hL := (if_neg z9).symm.trans hL
      refine j_aload_n 0 dX12_next_64 rfl ?_
      refine j_iload_n 1 dX12_next_65 rfl ?_
      refine j_iload_n 2 dX12_next_66 rfl ?_
      obtain ⟨q10, hq10, hL⟩ := bnd_ex hL
      refine j_callVi (c_X12_isStrange G v1 v2 h _ hq10) cv_RX12_357 rfl sh_193 (by decide) rfl (by decide) rfl rfl (Nat.le_of_ble_eq_true rfl) dX12_next_67 (by decide) ?_
      refine j_ifz_eq 75 dX12_next_70 (by decide) (fun z11 => ?_) (fun z11 => ?_)
      · replace hL := (if_neg z11).symm.trans hL
        refine j_iinc (lv' := [(2, .int (v2 + 1)), (0, .ref (ad G 193)), (1, .int v1)]) 2 dX12_next_75 rfl rfl (by decide) rfl ?_
        refine j_goto 54 dX12_next_78 (by decide) ?_
        refine j_sub [1, 2, 0] rfl ?_
        exact ih (v2 + 1) h r hL kE kR
      · replace hL := (if_pos z11).symm.trans hL
        refine j_iload_n 2 dX12_next_73 rfl ?_
        cases hL
        exact j_reti dX12_next_74 rfl (kR _ rfl)

set_option maxRecDepth 20000 in
theorem cl_X12_next_88 (G : GG) (K : KQ) (v1 : Int32)  : ∀ (n : Nat) (v2 : Int32) (v3 : Int32) (v4 : Int32) (h : AH) (r : Int32), f_X12_next_l88 v1 h n v2 v3 v4 = some r → J G mX12_next 6 0 0 K 137 [(2, .int r)] [] h → J G mX12_next 6 0 0 K 88 [(0, .ref (ad G 193)), (1, .int v1), (2, .int v2), (3, .int v3), (4, .int v4)] [] h := by
  intro n
  induction n with
  | zero => intro v2 v3 v4 h r hL; cases hL
  | succ n ih =>
    intro v2 v3 v4 h r hL kE
    unfold f_X12_next_l88 at hL
    refine j_iload 4 dX12_next_88 rfl ?_
    refine j_aload_n 0 dX12_next_90 rfl ?_
    refine jg_RX12_32 rfl sh_193 dX12_next_91 ?_
    refine j_iload_n 1 dX12_next_94 rfl ?_
    obtain ⟨g13, hL⟩ := gd_ex hL
    refine j_iald (shf_12_3 sh_193) (ib_in g13) dX12_next_95 ?_
    refine j_icmp_ge 137 dX12_next_96 (by decide) (fun z14 => ?_) (fun z14 => ?_)
    · replace hL := (if_pos z14).symm.trans hL
      cases hL
      refine j_sub [2] rfl ?_
      exact kE 
    · replace hL := (if_neg z14).symm.trans hL
      refine j_aload_n 0 dX12_next_99 rfl ?_
      refine j_iload_n 1 dX12_next_100 rfl ?_
      refine j_iload 4 dX12_next_101 rfl ?_
      obtain ⟨q15, hq15, hL⟩ := bnd_ex hL
      refine j_callVi (c_X12_turnsHigh G v1 v4 h _ hq15) cv_RX12_354 rfl sh_193 (by decide) rfl (by decide) rfl rfl (Nat.le_of_ble_eq_true rfl) dX12_next_103 (by decide) ?_
      refine j_aload_n 0 dX12_next_106 rfl ?_
      refine j_iload_n 1 dX12_next_107 rfl ?_
      refine j_iload 4 dX12_next_108 rfl ?_
      obtain ⟨q16, hq16, hL⟩ := bnd_ex hL
      refine j_callVi (c_X12_turnsLow G v1 v4 h _ hq16) cv_RX12_351 rfl sh_193 (by decide) rfl (by decide) rfl rfl (Nat.le_of_ble_eq_true rfl) dX12_next_110 (by decide) ?_
      refine j_isub dX12_next_113 ?_
      refine j_istore (lv' := [(5, .int (q15 - q16)), (0, .ref (ad G 193)), (1, .int v1), (2, .int v2), (3, .int v3), (4, .int v4)]) dX12_next_114 (by decide) rfl ?_
      refine j_iload 0 dX12_next_116 rfl ?_
      refine j_iload_n 4 dX12_next_118 rfl ?_
      refine j_icmp_gt 125 dX12_next_119 (by decide) (fun z17 => ?_) (fun z17 => ?_)
      · replace hL := (if_pos z17).symm.trans hL
        refine j_iload 5 dX12_next_125 rfl ?_
        refine j_istore_n (lv' := [(2, .int v4), (5, .int (q15 - q16)), (0, .ref (ad G 193)), (1, .int v1), (3, .int v3), (4, .int v4)]) dX12_next_127 (by decide) rfl ?_
        refine j_iload 1 dX12_next_128 rfl ?_
        refine j_istore_n (lv' := [(3, .int (q15 - q16)), (2, .int v4), (5, .int (q15 - q16)), (0, .ref (ad G 193)), (1, .int v1), (4, .int v4)]) dX12_next_130 (by decide) rfl ?_
        refine j_iinc (lv' := [(4, .int (v4 + 1)), (3, .int (q15 - q16)), (2, .int v4), (5, .int (q15 - q16)), (0, .ref (ad G 193)), (1, .int v1)]) 5 dX12_next_131 rfl rfl (by decide) rfl ?_
        refine j_goto 88 dX12_next_134 (by decide) ?_
        refine j_sub [4, 5, 2, 1, 0] rfl ?_
        exact ih v4 (q15 - q16) (v4 + 1) h r hL kE
      · replace hL := (if_neg z17).symm.trans hL
        refine j_goto 131 dX12_next_122 (by decide) ?_
        refine j_iinc (lv' := [(4, .int (v4 + 1)), (5, .int (q15 - q16)), (0, .ref (ad G 193)), (1, .int v1), (2, .int v2), (3, .int v3)]) 5 dX12_next_131 rfl rfl (by decide) rfl ?_
        refine j_goto 88 dX12_next_134 (by decide) ?_
        refine j_sub [2, 3, 4, 5, 0] rfl ?_
        exact ih v2 v3 (v4 + 1) h r hL kE

set_option maxRecDepth 20000 in
theorem c_X12_next (G : GG) (v1 : Int32) (h : AH) (r : Int32 × AH) (hL : f_X12_next v1 h = some r) : SpI G 6 mX12_next [.ref (ad G 193), .int v1] h r.1 r.2 := by
  refine sp_i pf_X12_next (Nat.le_of_ble_eq_true rfl) ?_
  show J G mX12_next 6 0 0 (KMi G r.1 r.2) 0 [(0, .ref (ad G 193)), (1, .int v1)] [] h
  obtain ⟨K, hK⟩ : ∃ K, K = KMi G r.1 r.2 := ⟨_, rfl⟩
  rw [← hK]
  unfold f_X12_next at hL
  refine j_aload_n 0 dX12_next_0 rfl ?_
  refine j_iconst 0 dX12_next_1 (by decide) ?_
  refine jp_RX12_158 rfl sh_193 dX12_next_2 ?_
  obtain ⟨h1, eh1, hL⟩ := lt_ex hL
  refine j_heap eh1 ?_
  refine j_iload_n 1 dX12_next_5 rfl ?_
  refine j_callSi (c_X12_isBook G v1 h1) cv_RX12_165 rfl (by decide) rfl rfl (Nat.le_of_ble_eq_true rfl) dX12_next_6 (by decide) ?_
  refine j_ifz_ne 18 dX12_next_9 (by decide) (fun z2 => ?_) (fun z2 => ?_)
  · replace hL := (if_pos z2).symm.trans hL
    refine j_iconst 0 dX12_next_18 (by decide) ?_
    refine j_istore_n (lv' := [(2, .int 0), (0, .ref (ad G 193)), (1, .int v1)]) dX12_next_19 (by decide) rfl ?_
    obtain ⟨q7, hq7, hL⟩ := bnd_ex hL
    refine j_sub [1, 2, 0] rfl ?_
    refine cl_X12_next_20 G K v1 FU 0 h1 q7 hq7 (fun xq7 eq7 => ?_) (fun xq7 eq7 => ?_)
    · subst eq7
      refine j_iconst 0 dX12_next_52 (by decide) ?_
      refine j_istore_n (lv' := [(2, .int 0), (0, .ref (ad G 193)), (1, .int v1)]) dX12_next_53 (by decide) rfl ?_
      obtain ⟨q12, hq12, hL⟩ := bnd_ex hL
      refine j_sub [1, 2, 0] rfl ?_
      refine cl_X12_next_54 G K v1 FU 0 h1 q12 hq12 (fun xq12 eq12 => ?_) (fun xq12 eq12 => ?_)
      · subst eq12
        refine j_iconst (-1) dX12_next_81 (by decide) ?_
        refine j_istore_n (lv' := [(2, .int (-1)), (0, .ref (ad G 193)), (1, .int v1)]) dX12_next_82 (by decide) rfl ?_
        refine j_iconst (-1) dX12_next_83 (by decide) ?_
        refine j_istore_n (lv' := [(3, .int (-1)), (2, .int (-1)), (0, .ref (ad G 193)), (1, .int v1)]) dX12_next_84 (by decide) rfl ?_
        refine j_iconst 0 dX12_next_85 (by decide) ?_
        refine j_istore (lv' := [(4, .int 0), (3, .int (-1)), (2, .int (-1)), (0, .ref (ad G 193)), (1, .int v1)]) dX12_next_86 (by decide) rfl ?_
        obtain ⟨q18, hq18, hL⟩ := bnd_ex hL
        refine j_sub [3, 4, 2, 1, 0] rfl ?_
        refine cl_X12_next_88 G K v1 FU (-1) (-1) 0 h1 q18 hq18 ?_
        refine j_iload_n 0 dX12_next_137 rfl ?_
        cases hL
        exact j_reti dX12_next_138 rfl hK
      · subst eq12
        cases hL
        exact hK
    · subst eq7
      cases hL
      exact hK
  · replace hL := (if_neg z2).symm.trans hL
    refine j_aload_n 0 dX12_next_12 rfl ?_
    refine j_iconst 1 dX12_next_13 (by decide) ?_
    obtain ⟨q19, hq19, hL⟩ := bnd_ex hL
    refine j_callVi (c_X12_fail G 1 h1 _ hq19) cv_RX12_263 rfl sh_193 (by decide) rfl (by decide) rfl rfl (Nat.le_of_ble_eq_true rfl) dX12_next_14 (by decide) ?_
    cases hL
    exact j_reti dX12_next_17 rfl hK

