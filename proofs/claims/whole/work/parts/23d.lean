def f_X12_bounds (v1 : Int32) (v2 : Int32) (v3 : Int32) (h : AH) : Option (Int32 × AH) := lt (sfi h 193 2 0) (fun h1 => bnd (f_X12_isLeaf v1 v2 h1) (fun q2 => if q2 = true then if (f_X12_isIn v3 0 7) = true then if 2 ≤ v3 then bnd (f_X12_isUndone v1 v2 h1) (fun q8 => if q8 = true then if v3 = 0 then gd (ib (f_X12_at v1 v2) 320 = true) (some (hia h1 208 (cl (f_X12_at v1 v2)), h1)) else (if v3 = 1 then gd (ib (f_X12_at v1 v2) 320 = true) (some (hia h1 209 (cl (f_X12_at v1 v2)), h1)) else (if v3 = 2 then bnd (f_X12_undoneLow v1 v2 (v2 - 1) h1) (fun q15 => some (q15, h1)) else (if v3 = 3 then bnd (f_X12_undoneHigh v1 v2 (v2 - 1) h1) (fun q17 => some (q17, h1)) else (if v3 = 4 then bnd (f_X12_turnsLow v1 v2 h1) (fun q19 => some (q19, h1)) else (if v3 = 5 then bnd (f_X12_turnsHigh v1 v2 h1) (fun q21 => some (q21, h1)) else (if v3 = 6 then bnd (f_X12_midst v1 v2 h1) (fun q23 => some (q23, h1)) else (bnd (f_X12_isStrange v1 v2 h1) (fun q24 => if q24 = true then some (1, h1) else some (0, h1))))))))) else bnd (f_X12_fail 1 h1) (fun q26 => some (q26.1, q26.2))) else gd (ib (f_X12_at v1 v2) 320 = true) (if (hia h1 208 (cl (f_X12_at v1 v2))) = (-1) then bnd (f_X12_fail 1 h1) (fun q45 => some (q45.1, q45.2)) else if v3 = 0 then gd (ib (f_X12_at v1 v2) 320 = true) (some (hia h1 208 (cl (f_X12_at v1 v2)), h1)) else (if v3 = 1 then gd (ib (f_X12_at v1 v2) 320 = true) (some (hia h1 209 (cl (f_X12_at v1 v2)), h1)) else (if v3 = 2 then bnd (f_X12_undoneLow v1 v2 (v2 - 1) h1) (fun q34 => some (q34, h1)) else (if v3 = 3 then bnd (f_X12_undoneHigh v1 v2 (v2 - 1) h1) (fun q36 => some (q36, h1)) else (if v3 = 4 then bnd (f_X12_turnsLow v1 v2 h1) (fun q38 => some (q38, h1)) else (if v3 = 5 then bnd (f_X12_turnsHigh v1 v2 h1) (fun q40 => some (q40, h1)) else (if v3 = 6 then bnd (f_X12_midst v1 v2 h1) (fun q42 => some (q42, h1)) else (bnd (f_X12_isStrange v1 v2 h1) (fun q43 => if q43 = true then some (1, h1) else some (0, h1)))))))))) else bnd (f_X12_fail 1 h1) (fun q6 => some (q6.1, q6.2)) else bnd (f_X12_fail 1 h1) (fun q4 => some (q4.1, q4.2))))
set_option maxRecDepth 20000 in
theorem c_X12_bounds (G : GG) (v1 : Int32) (v2 : Int32) (v3 : Int32) (h : AH) (r : Int32 × AH) (hL : f_X12_bounds v1 v2 v3 h = some r) : SpI G 7 mX12_bounds [.ref (ad G 193), .int v1, .int v2, .int v3] h r.1 r.2 := by
  refine sp_i pf_X12_bounds (Nat.le_of_ble_eq_true rfl) ?_
  show J G mX12_bounds 7 0 0 (KMi G r.1 r.2) 0 [(0, .ref (ad G 193)), (1, .int v1), (2, .int v2), (3, .int v3)] [] h
  obtain ⟨K, hK⟩ : ∃ K, K = KMi G r.1 r.2 := ⟨_, rfl⟩
  rw [← hK]
  unfold f_X12_bounds at hL
  refine j_aload_n 0 dX12_bounds_0 rfl ?_
  refine j_iconst 0 dX12_bounds_1 (by decide) ?_
  refine jp_RX12_158 rfl sh_193 dX12_bounds_2 ?_
  obtain ⟨h1, eh1, hL⟩ := lt_ex hL
  refine j_heap eh1 ?_
  refine j_aload_n 0 dX12_bounds_5 rfl ?_
  refine j_iload_n 1 dX12_bounds_6 rfl ?_
  refine j_iload_n 2 dX12_bounds_7 rfl ?_
  obtain ⟨q2, hq2, hL⟩ := bnd_ex hL
  refine j_callVi (c_X12_isLeaf G v1 v2 h1 _ hq2) cv_RX12_294 rfl sh_193 (by decide) rfl (by decide) rfl rfl (Nat.le_of_ble_eq_true rfl) dX12_bounds_8 (by decide) ?_
  refine j_ifz_eq 55 dX12_bounds_11 (by decide) (fun z3 => ?_) (fun z3 => ?_)
  · replace hL := (if_neg z3).symm.trans hL
    refine j_aload_n 0 dX12_bounds_55 rfl ?_
    refine j_iconst 1 dX12_bounds_56 (by decide) ?_
    obtain ⟨q4, hq4, hL⟩ := bnd_ex hL
    refine j_callVi (c_X12_fail G 1 h1 _ hq4) cv_RX12_263 rfl sh_193 (by decide) rfl (by decide) rfl rfl (Nat.le_of_ble_eq_true rfl) dX12_bounds_57 (by decide) ?_
    cases hL
    exact j_reti dX12_bounds_60 rfl hK
  · replace hL := (if_pos z3).symm.trans hL
    refine j_iload_n 3 dX12_bounds_14 rfl ?_
    refine j_iconst 0 dX12_bounds_15 (by decide) ?_
    refine j_bipush 7 dX12_bounds_16 (by decide) ?_
    refine j_callSi (c_X12_isIn G v3 0 7 h1) cv_RX12_161 rfl (by decide) rfl rfl (Nat.le_of_ble_eq_true rfl) dX12_bounds_18 (by decide) ?_
    refine j_ifz_eq 55 dX12_bounds_21 (by decide) (fun z5 => ?_) (fun z5 => ?_)
    · replace hL := (if_neg z5).symm.trans hL
      refine j_aload_n 0 dX12_bounds_55 rfl ?_
      refine j_iconst 1 dX12_bounds_56 (by decide) ?_
      obtain ⟨q6, hq6, hL⟩ := bnd_ex hL
      refine j_callVi (c_X12_fail G 1 h1 _ hq6) cv_RX12_263 rfl sh_193 (by decide) rfl (by decide) rfl rfl (Nat.le_of_ble_eq_true rfl) dX12_bounds_57 (by decide) ?_
      cases hL
      exact j_reti dX12_bounds_60 rfl hK
    · replace hL := (if_pos z5).symm.trans hL
      refine j_iload_n 3 dX12_bounds_24 rfl ?_
      refine j_iconst 2 dX12_bounds_25 (by decide) ?_
      refine j_icmp_ge 46 dX12_bounds_26 (by decide) (fun z7 => ?_) (fun z7 => ?_)
      · replace hL := (if_pos z7).symm.trans hL
        refine j_aload_n 0 dX12_bounds_46 rfl ?_
        refine j_iload_n 1 dX12_bounds_47 rfl ?_
        refine j_iload_n 2 dX12_bounds_48 rfl ?_
        obtain ⟨q8, hq8, hL⟩ := bnd_ex hL
        refine j_callVi (c_X12_isUndone G v1 v2 h1 _ hq8) cv_RX12_360 rfl sh_193 (by decide) rfl (by decide) rfl rfl (Nat.le_of_ble_eq_true rfl) dX12_bounds_49 (by decide) ?_
        refine j_ifz_ne 61 dX12_bounds_52 (by decide) (fun z9 => ?_) (fun z9 => ?_)
        · replace hL := (if_pos z9).symm.trans hL
          refine j_iload_n 3 dX12_bounds_61 rfl ?_
          by_cases z10 : v3 = 0
          · replace hL := (if_pos z10).symm.trans hL
            refine j_swIn 104 dX12_bounds_62 (by rw [z10]; decide) (by rw [z10]; decide) (by rw [z10]; rfl) (by decide) ?_
            refine j_aload_n 0 dX12_bounds_104 rfl ?_
            refine jg_RX12_66 rfl sh_193 dX12_bounds_105 ?_
            refine j_iload_n 1 dX12_bounds_108 rfl ?_
            refine j_iload_n 2 dX12_bounds_109 rfl ?_
            refine j_callSi (c_X12_at G v1 v2 h1) cv_RX12_244 rfl (by decide) rfl rfl (Nat.le_of_ble_eq_true rfl) dX12_bounds_110 (by decide) ?_
            obtain ⟨g11, hL⟩ := gd_ex hL
            refine j_iald (shf_12_15 sh_193) (ib_in g11) dX12_bounds_113 ?_
            cases hL
            exact j_reti dX12_bounds_114 rfl hK
          · replace hL := (if_neg z10).symm.trans hL
            by_cases z12 : v3 = 1
            · replace hL := (if_pos z12).symm.trans hL
              refine j_swIn 115 dX12_bounds_62 (by rw [z12]; decide) (by rw [z12]; decide) (by rw [z12]; rfl) (by decide) ?_
              refine j_aload_n 0 dX12_bounds_115 rfl ?_
              refine jg_RX12_69 rfl sh_193 dX12_bounds_116 ?_
              refine j_iload_n 1 dX12_bounds_119 rfl ?_
              refine j_iload_n 2 dX12_bounds_120 rfl ?_
              refine j_callSi (c_X12_at G v1 v2 h1) cv_RX12_244 rfl (by decide) rfl rfl (Nat.le_of_ble_eq_true rfl) dX12_bounds_121 (by decide) ?_
              obtain ⟨g13, hL⟩ := gd_ex hL
              refine j_iald (shf_12_16 sh_193) (ib_in g13) dX12_bounds_124 ?_
              cases hL
              exact j_reti dX12_bounds_125 rfl hK
            · replace hL := (if_neg z12).symm.trans hL
              by_cases z14 : v3 = 2
              · replace hL := (if_pos z14).symm.trans hL
                refine j_swIn 126 dX12_bounds_62 (by rw [z14]; decide) (by rw [z14]; decide) (by rw [z14]; rfl) (by decide) ?_
                refine j_aload_n 0 dX12_bounds_126 rfl ?_
                refine j_iload_n 1 dX12_bounds_127 rfl ?_
                refine j_iload_n 2 dX12_bounds_128 rfl ?_
                refine j_iload_n 2 dX12_bounds_129 rfl ?_
                refine j_iconst 1 dX12_bounds_130 (by decide) ?_
                refine j_isub dX12_bounds_131 ?_
                obtain ⟨q15, hq15, hL⟩ := bnd_ex hL
                refine j_callVi (c_X12_undoneLow G v1 v2 (v2 - 1) h1 _ hq15) cv_RX12_342 rfl sh_193 (by decide) rfl (by decide) rfl rfl (Nat.le_of_ble_eq_true rfl) dX12_bounds_132 (by decide) ?_
                cases hL
                exact j_reti dX12_bounds_135 rfl hK
              · replace hL := (if_neg z14).symm.trans hL
                by_cases z16 : v3 = 3
                · replace hL := (if_pos z16).symm.trans hL
                  refine j_swIn 136 dX12_bounds_62 (by rw [z16]; decide) (by rw [z16]; decide) (by rw [z16]; rfl) (by decide) ?_
                  refine j_aload_n 0 dX12_bounds_136 rfl ?_
                  refine j_iload_n 1 dX12_bounds_137 rfl ?_
                  refine j_iload_n 2 dX12_bounds_138 rfl ?_
                  refine j_iload_n 2 dX12_bounds_139 rfl ?_
                  refine j_iconst 1 dX12_bounds_140 (by decide) ?_
                  refine j_isub dX12_bounds_141 ?_
                  obtain ⟨q17, hq17, hL⟩ := bnd_ex hL
                  refine j_callVi (c_X12_undoneHigh G v1 v2 (v2 - 1) h1 _ hq17) cv_RX12_345 rfl sh_193 (by decide) rfl (by decide) rfl rfl (Nat.le_of_ble_eq_true rfl) dX12_bounds_142 (by decide) ?_
                  cases hL
                  exact j_reti dX12_bounds_145 rfl hK
                · replace hL := (if_neg z16).symm.trans hL
                  by_cases z18 : v3 = 4
                  · replace hL := (if_pos z18).symm.trans hL
                    refine j_swIn 146 dX12_bounds_62 (by rw [z18]; decide) (by rw [z18]; decide) (by rw [z18]; rfl) (by decide) ?_
                    refine j_aload_n 0 dX12_bounds_146 rfl ?_
                    refine j_iload_n 1 dX12_bounds_147 rfl ?_
                    refine j_iload_n 2 dX12_bounds_148 rfl ?_
                    obtain ⟨q19, hq19, hL⟩ := bnd_ex hL
                    refine j_callVi (c_X12_turnsLow G v1 v2 h1 _ hq19) cv_RX12_351 rfl sh_193 (by decide) rfl (by decide) rfl rfl (Nat.le_of_ble_eq_true rfl) dX12_bounds_149 (by decide) ?_
                    cases hL
                    exact j_reti dX12_bounds_152 rfl hK
                  · replace hL := (if_neg z18).symm.trans hL
                    by_cases z20 : v3 = 5
                    · replace hL := (if_pos z20).symm.trans hL
                      refine j_swIn 153 dX12_bounds_62 (by rw [z20]; decide) (by rw [z20]; decide) (by rw [z20]; rfl) (by decide) ?_
                      refine j_aload_n 0 dX12_bounds_153 rfl ?_
                      refine j_iload_n 1 dX12_bounds_154 rfl ?_
                      refine j_iload_n 2 dX12_bounds_155 rfl ?_
                      obtain ⟨q21, hq21, hL⟩ := bnd_ex hL
                      refine j_callVi (c_X12_turnsHigh G v1 v2 h1 _ hq21) cv_RX12_354 rfl sh_193 (by decide) rfl (by decide) rfl rfl (Nat.le_of_ble_eq_true rfl) dX12_bounds_156 (by decide) ?_
                      cases hL
                      exact j_reti dX12_bounds_159 rfl hK
                    · replace hL := (if_neg z20).symm.trans hL
                      by_cases z22 : v3 = 6
                      · replace hL := (if_pos z22).symm.trans hL
                        refine j_swIn 160 dX12_bounds_62 (by rw [z22]; decide) (by rw [z22]; decide) (by rw [z22]; rfl) (by decide) ?_
                        refine j_aload_n 0 dX12_bounds_160 rfl ?_
                        refine j_iload_n 1 dX12_bounds_161 rfl ?_
                        refine j_iload_n 2 dX12_bounds_162 rfl ?_
                        obtain ⟨q23, hq23, hL⟩ := bnd_ex hL
                        refine j_callVi (c_X12_midst G v1 v2 h1 _ hq23) cv_RX12_363 rfl sh_193 (by decide) rfl (by decide) rfl rfl (Nat.le_of_ble_eq_true rfl) dX12_bounds_163 (by decide) ?_
                        cases hL
                        exact j_reti dX12_bounds_166 rfl hK
                      · replace hL := (if_neg z22).symm.trans hL
                        refine j_swOut 167 dX12_bounds_62 (sw_out (by have wz10 := sw_ne z10 (k := 0) (by decide); have wz12 := sw_ne z12 (k := 1) (by decide); have wz14 := sw_ne z14 (k := 2) (by decide); have wz16 := sw_ne z16 (k := 3) (by decide); have wz18 := sw_ne z18 (k := 4) (by decide); have wz20 := sw_ne z20 (k := 5) (by decide); have wz22 := sw_ne z22 (k := 6) (by decide); omega)) (by decide) ?_
                        refine j_aload_n 0 dX12_bounds_167 rfl ?_
                        refine j_iload_n 1 dX12_bounds_168 rfl ?_
                        refine j_iload_n 2 dX12_bounds_169 rfl ?_
                        obtain ⟨q24, hq24, hL⟩ := bnd_ex hL
                        refine j_callVi (c_X12_isStrange G v1 v2 h1 _ hq24) cv_RX12_357 rfl sh_193 (by decide) rfl (by decide) rfl rfl (Nat.le_of_ble_eq_true rfl) dX12_bounds_170 (by decide) ?_
                        refine j_ifz_eq 180 dX12_bounds_173 (by decide) (fun z25 => ?_) (fun z25 => ?_)
                        · replace hL := (if_neg z25).symm.trans hL
                          refine j_iconst 0 dX12_bounds_180 (by decide) ?_
                          cases hL
                          exact j_reti dX12_bounds_181 rfl hK
                        · replace hL := (if_pos z25).symm.trans hL
                          refine j_iconst 1 dX12_bounds_176 (by decide) ?_
                          refine j_goto 181 dX12_bounds_177 (by decide) ?_
                          cases hL
                          exact j_reti dX12_bounds_181 rfl hK
        · replace hL := (if_neg z9).symm.trans hL
          refine j_aload_n 0 dX12_bounds_55 rfl ?_
          refine j_iconst 1 dX12_bounds_56 (by decide) ?_
          obtain ⟨q26, hq26, hL⟩ := bnd_ex hL
          refine j_callVi (c_X12_fail G 1 h1 _ hq26) cv_RX12_263 rfl sh_193 (by decide) rfl (by decide) rfl rfl (Nat.le_of_ble_eq_true rfl) dX12_bounds_57 (by decide) ?_
          cases hL
          exact j_reti dX12_bounds_60 rfl hK
      · replace hL := (if_neg z7).symm.trans hL
        refine j_aload_n 0 dX12_bounds_29 rfl ?_
        refine jg_RX12_66 rfl sh_193 dX12_bounds_30 ?_
        refine j_iload_n 1 dX12_bounds_33 rfl ?_
        refine j_iload_n 2 dX12_bounds_34 rfl ?_
        refine j_callSi (c_X12_at G v1 v2 h1) cv_RX12_244 rfl (by decide) rfl rfl (Nat.le_of_ble_eq_true rfl) dX12_bounds_35 (by decide) ?_
        obtain ⟨g27, hL⟩ := gd_ex hL
        refine j_iald (shf_12_15 sh_193) (ib_in g27) dX12_bounds_38 ?_
        refine j_iconst (-1) dX12_bounds_39 (by decide) ?_
        refine j_icmp_ne 61 dX12_bounds_40 (by decide) (fun z28 => ?_) (fun z28 => ?_)
        · replace hL := (if_neg z28).symm.trans hL
          refine j_iload_n 3 dX12_bounds_61 rfl ?_
          by_cases z29 : v3 = 0
          · replace hL := (if_pos z29).symm.trans hL
            refine j_swIn 104 dX12_bounds_62 (by rw [z29]; decide) (by rw [z29]; decide) (by rw [z29]; rfl) (by decide) ?_
            refine j_aload_n 0 dX12_bounds_104 rfl ?_
            refine jg_RX12_66 rfl sh_193 dX12_bounds_105 ?_
            refine j_iload_n 1 dX12_bounds_108 rfl ?_
            refine j_iload_n 2 dX12_bounds_109 rfl ?_
            refine j_callSi (c_X12_at G v1 v2 h1) cv_RX12_244 rfl (by decide) rfl rfl (Nat.le_of_ble_eq_true rfl) dX12_bounds_110 (by decide) ?_
            obtain ⟨g30, hL⟩ := gd_ex hL
            refine j_iald (shf_12_15 sh_193) (ib_in g30) dX12_bounds_113 ?_
            cases hL
            exact j_reti dX12_bounds_114 rfl hK
          · replace hL := (if_neg z29).symm.trans hL
            by_cases z31 : v3 = 1
            · replace hL := (if_pos z31).symm.trans hL
              refine j_swIn 115 dX12_bounds_62 (by rw [z31]; decide) (by rw [z31]; decide) (by rw [z31]; rfl) (by decide) ?_
              refine j_aload_n 0 dX12_bounds_115 rfl ?_
              refine jg_RX12_69 rfl sh_193 dX12_bounds_116 ?_
              refine j_iload_n 1 dX12_bounds_119 rfl ?_
              refine j_iload_n 2 dX12_bounds_120 rfl ?_
              refine j_callSi (c_X12_at G v1 v2 h1) cv_RX12_244 rfl (by decide) rfl rfl (Nat.le_of_ble_eq_true rfl) dX12_bounds_121 (by decide) ?_
              obtain ⟨g32, hL⟩ := gd_ex hL
              refine j_iald (shf_12_16 sh_193) (ib_in g32) dX12_bounds_124 ?_
              cases hL
              exact j_reti dX12_bounds_125 rfl hK
            · replace hL := (if_neg z31).symm.trans hL
              by_cases z33 : v3 = 2
              · replace hL := (if_pos z33).symm.trans hL
                refine j_swIn 126 dX12_bounds_62 (by rw [z33]; decide) (by rw [z33]; decide) (by rw [z33]; rfl) (by decide) ?_
                refine j_aload_n 0 dX12_bounds_126 rfl ?_
                refine j_iload_n 1 dX12_bounds_127 rfl ?_
                refine j_iload_n 2 dX12_bounds_128 rfl ?_
                refine j_iload_n 2 dX12_bounds_129 rfl ?_
                refine j_iconst 1 dX12_bounds_130 (by decide) ?_
                refine j_isub dX12_bounds_131 ?_
                obtain ⟨q34, hq34, hL⟩ := bnd_ex hL
                refine j_callVi (c_X12_undoneLow G v1 v2 (v2 - 1) h1 _ hq34) cv_RX12_342 rfl sh_193 (by decide) rfl (by decide) rfl rfl (Nat.le_of_ble_eq_true rfl) dX12_bounds_132 (by decide) ?_
                cases hL
                exact j_reti dX12_bounds_135 rfl hK
              · replace hL := (if_neg z33).symm.trans hL
                by_cases z35 : v3 = 3
                · replace hL := (if_pos z35).symm.trans hL
                  refine j_swIn 136 dX12_bounds_62 (by rw [z35]; decide) (by rw [z35]; decide) (by rw [z35]; rfl) (by decide) ?_
                  refine j_aload_n 0 dX12_bounds_136 rfl ?_
                  refine j_iload_n 1 dX12_bounds_137 rfl ?_
                  refine j_iload_n 2 dX12_bounds_138 rfl ?_
                  refine j_iload_n 2 dX12_bounds_139 rfl ?_
                  refine j_iconst 1 dX12_bounds_140 (by decide) ?_
                  refine j_isub dX12_bounds_141 ?_
                  obtain ⟨q36, hq36, hL⟩ := bnd_ex hL
                  refine j_callVi (c_X12_undoneHigh G v1 v2 (v2 - 1) h1 _ hq36) cv_RX12_345 rfl sh_193 (by decide) rfl (by decide) rfl rfl (Nat.le_of_ble_eq_true rfl) dX12_bounds_142 (by decide) ?_
                  cases hL
                  exact j_reti dX12_bounds_145 rfl hK
                · replace hL := (if_neg z35).symm.trans hL
                  by_cases z37 : v3 = 4
                  · replace hL := (if_pos z37).symm.trans hL
                    refine j_swIn 146 dX12_bounds_62 (by rw [z37]; decide) (by rw [z37]; decide) (by rw [z37]; rfl) (by decide) ?_
                    refine j_aload_n 0 dX12_bounds_146 rfl ?_
                    refine j_iload_n 1 dX12_bounds_147 rfl ?_
                    refine j_iload_n 2 dX12_bounds_148 rfl ?_
                    obtain ⟨q38, hq38, hL⟩ := bnd_ex hL
                    refine j_callVi (c_X12_turnsLow G v1 v2 h1 _ hq38) cv_RX12_351 rfl sh_193 (by decide) rfl (by decide) rfl rfl (Nat.le_of_ble_eq_true rfl) dX12_bounds_149 (by decide) ?_
                    cases hL
                    exact j_reti dX12_bounds_152 rfl hK
                  · replace hL := (if_neg z37).symm.trans hL
                    by_cases z39 : v3 = 5
                    · replace hL := (if_pos z39).symm.trans hL
                      refine j_swIn 153 dX12_bounds_62 (by rw [z39]; decide) (by rw [z39]; decide) (by rw [z39]; rfl) (by decide) ?_
                      refine j_aload_n 0 dX12_bounds_153 rfl ?_
                      refine j_iload_n 1 dX12_bounds_154 rfl ?_
                      refine j_iload_n 2 dX12_bounds_155 rfl ?_
                      obtain ⟨q40, hq40, hL⟩ := bnd_ex hL
                      refine j_callVi (c_X12_turnsHigh G v1 v2 h1 _ hq40) cv_RX12_354 rfl sh_193 (by decide) rfl (by decide) rfl rfl (Nat.le_of_ble_eq_true rfl) dX12_bounds_156 (by decide) ?_
                      cases hL
                      exact j_reti dX12_bounds_159 rfl hK
                    · replace hL := (if_neg z39).symm.trans hL
                      by_cases z41 : v3 = 6
                      · replace hL := (if_pos z41).symm.trans hL
                        refine j_swIn 160 dX12_bounds_62 (by rw [z41]; decide) (by rw [z41]; decide) (by rw [z41]; rfl) (by decide) ?_
                        refine j_aload_n 0 dX12_bounds_160 rfl ?_
                        refine j_iload_n 1 dX12_bounds_161 rfl ?_
                        refine j_iload_n 2 dX12_bounds_162 rfl ?_
                        obtain ⟨q42, hq42, hL⟩ := bnd_ex hL
                        refine j_callVi (c_X12_midst G v1 v2 h1 _ hq42) cv_RX12_363 rfl sh_193 (by decide) rfl (by decide) rfl rfl (Nat.le_of_ble_eq_true rfl) dX12_bounds_163 (by decide) ?_
                        cases hL
                        exact j_reti dX12_bounds_166 rfl hK
                      · replace hL := (if_neg z41).symm.trans hL
                        refine j_swOut 167 dX12_bounds_62 (sw_out (by have wz29 := sw_ne z29 (k := 0) (by decide); have wz31 := sw_ne z31 (k := 1) (by decide); have wz33 := sw_ne z33 (k := 2) (by decide); have wz35 := sw_ne z35 (k := 3) (by decide); have wz37 := sw_ne z37 (k := 4) (by decide); have wz39 := sw_ne z39 (k := 5) (by decide); have wz41 := sw_ne z41 (k := 6) (by decide); omega)) (by decide) ?_
                        refine j_aload_n 0 dX12_bounds_167 rfl ?_
                        refine j_iload_n 1 dX12_bounds_168 rfl ?_
                        refine j_iload_n 2 dX12_bounds_169 rfl ?_
                        obtain ⟨q43, hq43, hL⟩ := bnd_ex hL
                        refine j_callVi (c_X12_isStrange G v1 v2 h1 _ hq43) cv_RX12_357 rfl sh_193 (by decide) rfl (by decide) rfl rfl (Nat.le_of_ble_eq_true rfl) dX12_bounds_170 (by decide) ?_
                        refine j_ifz_eq 180 dX12_bounds_173 (by decide) (fun z44 => ?_) (fun z44 => ?_)
                        · replace hL := (if_neg z44).symm.trans hL
                          refine j_iconst 0 dX12_bounds_180 (by decide) ?_
                          cases hL
                          exact j_reti dX12_bounds_181 rfl hK
                        · replace hL := (if_pos z44).symm.trans hL
                          refine j_iconst 1 dX12_bounds_176 (by decide) ?_
                          refine j_goto 181 dX12_bounds_177 (by decide) ?_
                          cases hL
                          exact j_reti dX12_bounds_181 rfl hK
        · replace hL := (if_pos z28).symm.trans hL
          refine j_goto 55 dX12_bounds_43 (by decide) ?_
          refine j_aload_n 0 dX12_bounds_55 rfl ?_
          refine j_iconst 1 dX12_bounds_56 (by decide) ?_
          obtain ⟨q45, hq45, hL⟩ := bnd_ex hL
          refine j_callVi (c_X12_fail G 1 h1 _ hq45) cv_RX12_263 rfl sh_193 (by decide) rfl (by decide) rfl rfl (Nat.le_of_ble_eq_true rfl) dX12_bounds_57 (by decide) ?_
          cases hL
          exact j_reti dX12_bounds_60 rfl hK

def f_X12_isAsked (v1 : Int32) (h : AH) : Option (Bool) := if (f_X12_isBook v1) = true then bnd (f_X12_isKnown v1 h) (fun q2 => if q2 = true then some true else some false) else some false
set_option maxRecDepth 20000 in
theorem c_X12_isAsked (G : GG) (v1 : Int32) (h : AH) (r : Bool) (hL : f_X12_isAsked v1 h = some r) : SpI G 3 mX12_isAsked [.ref (ad G 193), .int v1] h (bI r) h := by
  refine sp_i pf_X12_isAsked (Nat.le_of_ble_eq_true rfl) ?_
  show J G mX12_isAsked 3 0 0 (KMi G (bI r) h) 0 [(0, .ref (ad G 193)), (1, .int v1)] [] h
  obtain ⟨K, hK⟩ : ∃ K, K = KMi G (bI r) h := ⟨_, rfl⟩
  rw [← hK]
  unfold f_X12_isAsked at hL
  refine j_iload_n 1 dX12_isAsked_0 rfl ?_
  refine j_callSi (c_X12_isBook G v1 h) cv_RX12_165 rfl (by decide) rfl rfl (Nat.le_of_ble_eq_true rfl) dX12_isAsked_1 (by decide) ?_
  refine j_ifz_eq 19 dX12_isAsked_4 (by decide) (fun z1 => ?_) (fun z1 => ?_)
  · replace hL := (if_neg z1).symm.trans hL
    refine j_iconst 0 dX12_isAsked_19 (by decide) ?_
    cases hL
    exact j_ret0 dX12_isAsked_20 rfl hK
  · replace hL := (if_pos z1).symm.trans hL
    refine j_aload_n 0 dX12_isAsked_7 rfl ?_
    refine j_iload_n 1 dX12_isAsked_8 rfl ?_
    obtain ⟨q2, hq2, hL⟩ := bnd_ex hL
    refine j_callVi (c_X12_isKnown G v1 h _ hq2) cv_RX12_288 rfl sh_193 (by decide) rfl (by decide) rfl rfl (Nat.le_of_ble_eq_true rfl) dX12_isAsked_9 (by decide) ?_
    refine j_ifz_eq 19 dX12_isAsked_12 (by decide) (fun z3 => ?_) (fun z3 => ?_)
    · replace hL := (if_neg z3).symm.trans hL
      refine j_iconst 0 dX12_isAsked_19 (by decide) ?_
      cases hL
      exact j_ret0 dX12_isAsked_20 rfl hK
    · replace hL := (if_pos z3).symm.trans hL
      refine j_iconst 1 dX12_isAsked_15 (by decide) ?_
      refine j_goto 20 dX12_isAsked_16 (by decide) ?_
      cases hL
      exact j_ret1 dX12_isAsked_20 rfl hK

def f_X12_has (v1 : Int32) (v2 : Int32) (h : AH) : Option (Bool) := if (f_X12_isIn v2 0 11) = true then bnd (f_X12_kindsOf v1 h) (fun q2 => if ((q2 >>> ((v2 : Int32) &&& 31)) &&& 1) = 1 then some true else some false) else some false
set_option maxRecDepth 20000 in
theorem c_X12_has (G : GG) (v1 : Int32) (v2 : Int32) (h : AH) (r : Bool) (hL : f_X12_has v1 v2 h = some r) : SpI G 3 mX12_has [.ref (ad G 193), .int v1, .int v2] h (bI r) h := by
  refine sp_i pf_X12_has (Nat.le_of_ble_eq_true rfl) ?_
  show J G mX12_has 3 0 0 (KMi G (bI r) h) 0 [(0, .ref (ad G 193)), (1, .int v1), (2, .int v2)] [] h
  obtain ⟨K, hK⟩ : ∃ K, K = KMi G (bI r) h := ⟨_, rfl⟩
  rw [← hK]
  unfold f_X12_has at hL
  refine j_iload_n 2 dX12_has_0 rfl ?_
  refine j_iconst 0 dX12_has_1 (by decide) ?_
  refine j_bipush 11 dX12_has_2 (by decide) ?_
  refine j_callSi (c_X12_isIn G v2 0 11 h) cv_RX12_161 rfl (by decide) rfl rfl (Nat.le_of_ble_eq_true rfl) dX12_has_4 (by decide) ?_
  refine j_ifz_eq 27 dX12_has_7 (by decide) (fun z1 => ?_) (fun z1 => ?_)
  · replace hL := (if_neg z1).symm.trans hL
    refine j_iconst 0 dX12_has_27 (by decide) ?_
    cases hL
    exact j_ret0 dX12_has_28 rfl hK
  · replace hL := (if_pos z1).symm.trans hL
    refine j_aload_n 0 dX12_has_10 rfl ?_
    refine j_iload_n 1 dX12_has_11 rfl ?_
    obtain ⟨q2, hq2, hL⟩ := bnd_ex hL
    refine j_callVi (c_X12_kindsOf G v1 h _ hq2) cv_RX12_291 rfl sh_193 (by decide) rfl (by decide) rfl rfl (Nat.le_of_ble_eq_true rfl) dX12_has_12 (by decide) ?_
    refine j_iload_n 2 dX12_has_15 rfl ?_
    refine j_ishr dX12_has_16 ?_
    refine j_iconst 1 dX12_has_17 (by decide) ?_
    refine j_iand dX12_has_18 ?_
    refine j_iconst 1 dX12_has_19 (by decide) ?_
    refine j_icmp_ne 27 dX12_has_20 (by decide) (fun z3 => ?_) (fun z3 => ?_)
    · replace hL := (if_neg z3).symm.trans hL
      refine j_iconst 0 dX12_has_27 (by decide) ?_
      cases hL
      exact j_ret0 dX12_has_28 rfl hK
    · replace hL := (if_pos z3).symm.trans hL
      refine j_iconst 1 dX12_has_23 (by decide) ?_
      refine j_goto 28 dX12_has_24 (by decide) ?_
      cases hL
      exact j_ret1 dX12_has_28 rfl hK

def f_X12_leavesOf_l5 (v1 : Int32) (v2 : Int32) (h : AH) : Nat → Int32 → Int32 → Option (Int32)
  | 0, _, _ => none
  | n + 1, v3, v4 => gd (ib v1 8 = true) (if (hia h 196 (cl v1)) ≤ v4 then some v3 else gd (ib (f_X12_at v1 v4) 320 = true) (if (hia h 202 (cl (f_X12_at v1 v4))) = v2 then f_X12_leavesOf_l5 v1 v2 h n (v3 + 1) (v4 + 1) else f_X12_leavesOf_l5 v1 v2 h n (v3 + 0) (v4 + 1)))
def f_X12_leavesOf (v1 : Int32) (v2 : Int32) (h : AH) : Option (Int32) := bnd (f_X12_leavesOf_l5 v1 v2 h FU 0 0) (fun q5 => some q5)
set_option maxRecDepth 20000 in
theorem cl_X12_leavesOf_5 (G : GG) (K : KQ) (v1 : Int32) (v2 : Int32)  : ∀ (n : Nat) (v3 : Int32) (v4 : Int32) (h : AH) (r : Int32), f_X12_leavesOf_l5 v1 v2 h n v3 v4 = some r → J G mX12_leavesOf 2 0 0 K 45 [(3, .int r)] [] h → J G mX12_leavesOf 2 0 0 K 5 [(0, .ref (ad G 193)), (1, .int v1), (2, .int v2), (3, .int v3), (4, .int v4)] [] h := by
  intro n
  induction n with
  | zero => intro v3 v4 h r hL; cases hL
  | succ n ih =>
    intro v3 v4 h r hL kE
    unfold f_X12_leavesOf_l5 at hL
    refine j_iload 4 dX12_leavesOf_5 rfl ?_
    refine j_aload_n 0 dX12_leavesOf_7 rfl ?_
    refine jg_RX12_32 rfl sh_193 dX12_leavesOf_8 ?_
    refine j_iload_n 1 dX12_leavesOf_11 rfl ?_
    obtain ⟨g1, hL⟩ := gd_ex hL
    refine j_iald (shf_12_3 sh_193) (ib_in g1) dX12_leavesOf_12 ?_
    refine j_icmp_ge 45 dX12_leavesOf_13 (by decide) (fun z2 => ?_) (fun z2 => ?_)
    · replace hL := (if_pos z2).symm.trans hL
      cases hL
      refine j_sub [3] rfl ?_
      exact kE 
    · replace hL := (if_neg z2).symm.trans hL
      refine j_iload_n 3 dX12_leavesOf_16 rfl ?_
      refine j_aload_n 0 dX12_leavesOf_17 rfl ?_
      refine jg_RX12_50 rfl sh_193 dX12_leavesOf_18 ?_
      refine j_iload_n 1 dX12_leavesOf_21 rfl ?_
      refine j_iload 4 dX12_leavesOf_22 rfl ?_
      refine j_callSi (c_X12_at G v1 v4 h) cv_RX12_244 rfl (by decide) rfl rfl (Nat.le_of_ble_eq_true rfl) dX12_leavesOf_24 (by decide) ?_
      obtain ⟨g3, hL⟩ := gd_ex hL
      refine j_iald (shf_12_9 sh_193) (ib_in g3) dX12_leavesOf_27 ?_
      refine j_iload_n 2 dX12_leavesOf_28 rfl ?_
      refine j_icmp_ne 36 dX12_leavesOf_29 (by decide) (fun z4 => ?_) (fun z4 => ?_)
      · replace hL := (if_neg z4).symm.trans hL
        refine j_iconst 0 dX12_leavesOf_36 (by decide) ?_
        refine j_iadd dX12_leavesOf_37 ?_
        refine j_istore_n (lv' := [(3, .int (v3 + 0)), (0, .ref (ad G 193)), (1, .int v1), (2, .int v2), (4, .int v4)]) dX12_leavesOf_38 (by decide) rfl ?_
        refine j_iinc (lv' := [(4, .int (v4 + 1)), (3, .int (v3 + 0)), (0, .ref (ad G 193)), (1, .int v1), (2, .int v2)]) 4 dX12_leavesOf_39 rfl rfl (by decide) rfl ?_
        refine j_goto 5 dX12_leavesOf_42 (by decide) ?_
        refine j_sub [2, 3, 4, 1, 0] rfl ?_
        exact ih (v3 + 0) (v4 + 1) h r hL kE
      · replace hL := (if_pos z4).symm.trans hL
        refine j_iconst 1 dX12_leavesOf_32 (by decide) ?_
        refine j_goto 37 dX12_leavesOf_33 (by decide) ?_
        refine j_iadd dX12_leavesOf_37 ?_
        refine j_istore_n (lv' := [(3, .int (v3 + 1)), (0, .ref (ad G 193)), (1, .int v1), (2, .int v2), (4, .int v4)]) dX12_leavesOf_38 (by decide) rfl ?_
        refine j_iinc (lv' := [(4, .int (v4 + 1)), (3, .int (v3 + 1)), (0, .ref (ad G 193)), (1, .int v1), (2, .int v2)]) 4 dX12_leavesOf_39 rfl rfl (by decide) rfl ?_
        refine j_goto 5 dX12_leavesOf_42 (by decide) ?_
        refine j_sub [2, 3, 4, 1, 0] rfl ?_
        exact ih (v3 + 1) (v4 + 1) h r hL kE

set_option maxRecDepth 20000 in
theorem c_X12_leavesOf (G : GG) (v1 : Int32) (v2 : Int32) (h : AH) (r : Int32) (hL : f_X12_leavesOf v1 v2 h = some r) : SpI G 2 mX12_leavesOf [.ref (ad G 193), .int v1, .int v2] h r h := by
  refine sp_i pf_X12_leavesOf (Nat.le_of_ble_eq_true rfl) ?_
  show J G mX12_leavesOf 2 0 0 (KMi G r h) 0 [(0, .ref (ad G 193)), (1, .int v1), (2, .int v2)] [] h
  obtain ⟨K, hK⟩ : ∃ K, K = KMi G r h := ⟨_, rfl⟩
  rw [← hK]
  unfold f_X12_leavesOf at hL
  refine j_iconst 0 dX12_leavesOf_0 (by decide) ?_
  refine j_istore_n (lv' := [(3, .int 0), (0, .ref (ad G 193)), (1, .int v1), (2, .int v2)]) dX12_leavesOf_1 (by decide) rfl ?_
  refine j_iconst 0 dX12_leavesOf_2 (by decide) ?_
  refine j_istore (lv' := [(4, .int 0), (3, .int 0), (0, .ref (ad G 193)), (1, .int v1), (2, .int v2)]) dX12_leavesOf_3 (by decide) rfl ?_
  obtain ⟨q5, hq5, hL⟩ := bnd_ex hL
  refine j_sub [2, 3, 4, 1, 0] rfl ?_
  refine cl_X12_leavesOf_5 G K v1 v2 FU 0 0 h q5 hq5 ?_
  refine j_iload_n 0 dX12_leavesOf_45 rfl ?_
  cases hL
  exact j_reti dX12_leavesOf_46 rfl hK

def f_X12_lightOf_l5 (v1 : Int32) (v2 : Int32) (h : AH) : Nat → Int64 → Int32 → Option (Int64)
  | 0, _, _ => none
  | n + 1, v3, v5 => gd (ib v1 8 = true) (if (hia h 196 (cl v1)) ≤ v5 then some v3 else gd (ib (f_X12_at v1 v5) 320 = true) (if (hia h 202 (cl (f_X12_at v1 v5))) = v2 then bnd (f_X12_midst v1 v5 h) (fun q5 => f_X12_lightOf_l5 v1 v2 h n (v3 + q5.toInt64) (v5 + 1)) else f_X12_lightOf_l5 v1 v2 h n (v3 + 0) (v5 + 1)))
def f_X12_lightOf (v1 : Int32) (v2 : Int32) (h : AH) : Option (Int32) := bnd (f_X12_lightOf_l5 v1 v2 h FU 0 0) (fun q6 => bnd (f_X12_leavesOf v1 v2 h) (fun q7 => gd (¬ (2 * q7.toInt64) = 0) (some (Int64.toInt32 (q6 / (2 * q7.toInt64))))))
set_option maxRecDepth 20000 in
theorem cl_X12_lightOf_5 (G : GG) (K : KQ) (v1 : Int32) (v2 : Int32)  : ∀ (n : Nat) (v3 : Int64) (v5 : Int32) (h : AH) (r : Int64), f_X12_lightOf_l5 v1 v2 h n v3 v5 = some r → J G mX12_lightOf 7 0 0 K 52 [(0, .ref (ad G 193)), (1, .int v1), (2, .int v2), (3, .long r)] [] h → J G mX12_lightOf 7 0 0 K 5 [(0, .ref (ad G 193)), (1, .int v1), (2, .int v2), (3, .long v3), (5, .int v5)] [] h := by
  intro n
  induction n with
  | zero => intro v3 v5 h r hL; cases hL
  | succ n ih =>
    intro v3 v5 h r hL kE
    unfold f_X12_lightOf_l5 at hL
    refine j_iload 4 dX12_lightOf_5 rfl ?_
    refine j_aload_n 0 dX12_lightOf_7 rfl ?_
    refine jg_RX12_32 rfl sh_193 dX12_lightOf_8 ?_
    refine j_iload_n 1 dX12_lightOf_11 rfl ?_
    obtain ⟨g1, hL⟩ := gd_ex hL
    refine j_iald (shf_12_3 sh_193) (ib_in g1) dX12_lightOf_12 ?_
    refine j_icmp_ge 52 dX12_lightOf_13 (by decide) (fun z2 => ?_) (fun z2 => ?_)
    · replace hL := (if_pos z2).symm.trans hL
      cases hL
      refine j_sub [0, 1, 2, 3] rfl ?_
      exact kE 
    · replace hL := (if_neg z2).symm.trans hL
      refine j_lload_n 3 dX12_lightOf_16 rfl ?_
      refine j_aload_n 0 dX12_lightOf_17 rfl ?_
      refine jg_RX12_50 rfl sh_193 dX12_lightOf_18 ?_
      refine j_iload_n 1 dX12_lightOf_21 rfl ?_
      refine j_iload 4 dX12_lightOf_22 rfl ?_
      refine j_callSi (c_X12_at G v1 v5 h) cv_RX12_244 rfl (by decide) rfl rfl (Nat.le_of_ble_eq_true rfl) dX12_lightOf_24 (by decide) ?_
      obtain ⟨g3, hL⟩ := gd_ex hL
      refine j_iald (shf_12_9 sh_193) (ib_in g3) dX12_lightOf_27 ?_
      refine j_iload_n 2 dX12_lightOf_28 rfl ?_
      refine j_icmp_ne 43 dX12_lightOf_29 (by decide) (fun z4 => ?_) (fun z4 => ?_)
      · replace hL := (if_neg z4).symm.trans hL
        refine j_lconst 0 dX12_lightOf_43 (by decide) ?_
        refine j_ladd dX12_lightOf_44 ?_
        refine j_lstore_n (lv' := [(3, .long (v3 + 0)), (0, .ref (ad G 193)), (1, .int v1), (2, .int v2), (5, .int v5)]) dX12_lightOf_45 (by decide) rfl ?_
        refine j_iinc (lv' := [(5, .int (v5 + 1)), (3, .long (v3 + 0)), (0, .ref (ad G 193)), (1, .int v1), (2, .int v2)]) 4 dX12_lightOf_46 rfl rfl (by decide) rfl ?_
        refine j_goto 5 dX12_lightOf_49 (by decide) ?_
        refine j_sub [2, 3, 4, 1, 0] rfl ?_
        exact ih (v3 + 0) (v5 + 1) h r hL kE
      · replace hL := (if_pos z4).symm.trans hL
        refine j_aload_n 0 dX12_lightOf_32 rfl ?_
        refine j_iload_n 1 dX12_lightOf_33 rfl ?_
        refine j_iload 4 dX12_lightOf_34 rfl ?_
        obtain ⟨q5, hq5, hL⟩ := bnd_ex hL
        refine j_callVi (c_X12_midst G v1 v5 h _ hq5) cv_RX12_363 rfl sh_193 (by decide) rfl (by decide) rfl rfl (Nat.le_of_ble_eq_true rfl) dX12_lightOf_36 (by decide) ?_
        refine j_i2l dX12_lightOf_39 ?_
        refine j_goto 44 dX12_lightOf_40 (by decide) ?_
        refine j_ladd dX12_lightOf_44 ?_
        refine j_lstore_n (lv' := [(3, .long (v3 + q5.toInt64)), (0, .ref (ad G 193)), (1, .int v1), (2, .int v2), (5, .int v5)]) dX12_lightOf_45 (by decide) rfl ?_
        refine j_iinc (lv' := [(5, .int (v5 + 1)), (3, .long (v3 + q5.toInt64)), (0, .ref (ad G 193)), (1, .int v1), (2, .int v2)]) 4 dX12_lightOf_46 rfl rfl (by decide) rfl ?_
        refine j_goto 5 dX12_lightOf_49 (by decide) ?_
        refine j_sub [2, 3, 4, 1, 0] rfl ?_
        exact ih (v3 + q5.toInt64) (v5 + 1) h r hL kE

set_option maxRecDepth 20000 in
theorem c_X12_lightOf (G : GG) (v1 : Int32) (v2 : Int32) (h : AH) (r : Int32) (hL : f_X12_lightOf v1 v2 h = some r) : SpI G 7 mX12_lightOf [.ref (ad G 193), .int v1, .int v2] h r h := by
  refine sp_i pf_X12_lightOf (Nat.le_of_ble_eq_true rfl) ?_
  show J G mX12_lightOf 7 0 0 (KMi G r h) 0 [(0, .ref (ad G 193)), (1, .int v1), (2, .int v2)] [] h
  obtain ⟨K, hK⟩ : ∃ K, K = KMi G r h := ⟨_, rfl⟩
  rw [← hK]
  unfold f_X12_lightOf at hL
  refine j_lconst 0 dX12_lightOf_0 (by decide) ?_
  refine j_lstore_n (lv' := [(3, .long 0), (0, .ref (ad G 193)), (1, .int v1), (2, .int v2)]) dX12_lightOf_1 (by decide) rfl ?_
  refine j_iconst 0 dX12_lightOf_2 (by decide) ?_
  refine j_istore (lv' := [(5, .int 0), (3, .long 0), (0, .ref (ad G 193)), (1, .int v1), (2, .int v2)]) dX12_lightOf_3 (by decide) rfl ?_
  obtain ⟨q6, hq6, hL⟩ := bnd_ex hL
  refine j_sub [2, 3, 4, 1, 0] rfl ?_
  refine cl_X12_lightOf_5 G K v1 v2 FU 0 0 h q6 hq6 ?_
  refine j_lload_n 3 dX12_lightOf_52 rfl ?_
  refine j_ldc2 rfl kk_RX12_366 dX12_lightOf_53 ?_
  refine j_aload_n 0 dX12_lightOf_56 rfl ?_
  refine j_iload_n 1 dX12_lightOf_57 rfl ?_
  refine j_iload_n 2 dX12_lightOf_58 rfl ?_
  obtain ⟨q7, hq7, hL⟩ := bnd_ex hL
  refine j_callVi (c_X12_leavesOf G v1 v2 h _ hq7) cv_RX12_368 rfl sh_193 (by decide) rfl (by decide) rfl rfl (Nat.le_of_ble_eq_true rfl) dX12_lightOf_59 (by decide) ?_
  refine j_i2l dX12_lightOf_62 ?_
  refine j_lmul dX12_lightOf_63 ?_
  obtain ⟨g8, hL⟩ := gd_ex hL
  refine j_ldiv dX12_lightOf_64 g8 ?_
  refine j_l2i dX12_lightOf_65 ?_
  cases hL
  exact j_reti dX12_lightOf_66 rfl hK

def f_X12_light (v1 : Int32) (v2 : Int32) (h : AH) : Option (Int32 × AH) := lt (sfi h 193 2 0) (fun h1 => bnd (f_X12_isAsked v1 h1) (fun q2 => if q2 = true then bnd (f_X12_has v1 v2 h1) (fun q5 => if q5 = true then bnd (f_X12_lightOf v1 v2 h1) (fun q8 => some (q8, h1)) else bnd (f_X12_fail 1 h1) (fun q7 => some (q7.1, q7.2))) else bnd (f_X12_fail 1 h1) (fun q4 => some (q4.1, q4.2))))
set_option maxRecDepth 20000 in
theorem c_X12_light (G : GG) (v1 : Int32) (v2 : Int32) (h : AH) (r : Int32 × AH) (hL : f_X12_light v1 v2 h = some r) : SpI G 8 mX12_light [.ref (ad G 193), .int v1, .int v2] h r.1 r.2 := by
  refine sp_i pf_X12_light (Nat.le_of_ble_eq_true rfl) ?_
  show J G mX12_light 8 0 0 (KMi G r.1 r.2) 0 [(0, .ref (ad G 193)), (1, .int v1), (2, .int v2)] [] h
  obtain ⟨K, hK⟩ : ∃ K, K = KMi G r.1 r.2 := ⟨_, rfl⟩
  rw [← hK]
  unfold f_X12_light at hL
  refine j_aload_n 0 dX12_light_0 rfl ?_
  refine j_iconst 0 dX12_light_1 (by decide) ?_
  refine jp_RX12_158 rfl sh_193 dX12_light_2 ?_
  obtain ⟨h1, eh1, hL⟩ := lt_ex hL
  refine j_heap eh1 ?_
  refine j_aload_n 0 dX12_light_5 rfl ?_
  refine j_iload_n 1 dX12_light_6 rfl ?_
  obtain ⟨q2, hq2, hL⟩ := bnd_ex hL
  refine j_callVi (c_X12_isAsked G v1 h1 _ hq2) cv_RX12_371 rfl sh_193 (by decide) rfl (by decide) rfl rfl (Nat.le_of_ble_eq_true rfl) dX12_light_7 (by decide) ?_
  refine j_ifz_eq 31 dX12_light_10 (by decide) (fun z3 => ?_) (fun z3 => ?_)
  · replace hL := (if_neg z3).symm.trans hL
    refine j_aload_n 0 dX12_light_31 rfl ?_
    refine j_iconst 1 dX12_light_32 (by decide) ?_
    obtain ⟨q4, hq4, hL⟩ := bnd_ex hL
    refine j_callVi (c_X12_fail G 1 h1 _ hq4) cv_RX12_263 rfl sh_193 (by decide) rfl (by decide) rfl rfl (Nat.le_of_ble_eq_true rfl) dX12_light_33 (by decide) ?_
    cases hL
    exact j_reti dX12_light_36 rfl hK
  · replace hL := (if_pos z3).symm.trans hL
    refine j_aload_n 0 dX12_light_13 rfl ?_
    refine j_iload_n 1 dX12_light_14 rfl ?_
    refine j_iload_n 2 dX12_light_15 rfl ?_
    obtain ⟨q5, hq5, hL⟩ := bnd_ex hL
    refine j_callVi (c_X12_has G v1 v2 h1 _ hq5) cv_RX12_374 rfl sh_193 (by decide) rfl (by decide) rfl rfl (Nat.le_of_ble_eq_true rfl) dX12_light_16 (by decide) ?_
    refine j_ifz_eq 31 dX12_light_19 (by decide) (fun z6 => ?_) (fun z6 => ?_)
    · replace hL := (if_neg z6).symm.trans hL
      refine j_aload_n 0 dX12_light_31 rfl ?_
      refine j_iconst 1 dX12_light_32 (by decide) ?_
      obtain ⟨q7, hq7, hL⟩ := bnd_ex hL
      refine j_callVi (c_X12_fail G 1 h1 _ hq7) cv_RX12_263 rfl sh_193 (by decide) rfl (by decide) rfl rfl (Nat.le_of_ble_eq_true rfl) dX12_light_33 (by decide) ?_
      cases hL
      exact j_reti dX12_light_36 rfl hK
    · replace hL := (if_pos z6).symm.trans hL
      refine j_aload_n 0 dX12_light_22 rfl ?_
      refine j_iload_n 1 dX12_light_23 rfl ?_
      refine j_iload_n 2 dX12_light_24 rfl ?_
      obtain ⟨q8, hq8, hL⟩ := bnd_ex hL
      refine j_callVi (c_X12_lightOf G v1 v2 h1 _ hq8) cv_RX12_377 rfl sh_193 (by decide) rfl (by decide) rfl rfl (Nat.le_of_ble_eq_true rfl) dX12_light_25 (by decide) ?_
      refine j_goto 36 dX12_light_28 (by decide) ?_
      cases hL
      exact j_reti dX12_light_36 rfl hK

def f_X12_pairs_l22 (v1 : Int32) (v2 : Int32) (v4 : Int32) (h : AH) : Nat → Int32 → Int32 → Option (Int32)
  | 0, _, _ => none
  | n + 1, v3, v5 => gd (ib v1 8 = true) (if (hia h 196 (cl v1)) ≤ v5 then some v3 else bnd (f_X12_midst v1 v5 h) (fun q5 => bnd (f_X12_midst v1 v4 h) (fun q6 => gd (ib (f_X12_at v1 v4) 320 = true) (gd (ib (f_X12_at v1 v5) 320 = true) (if (hia h 203 (cl (f_X12_at v1 v4))) = (hia h 203 (cl (f_X12_at v1 v5))) then if 0 ≤ v2 then if (q5 - q6) ≤ 0 then f_X12_pairs_l22 v1 v2 v4 h n (v3 + 0) (v5 + 1) else f_X12_pairs_l22 v1 v2 v4 h n (v3 + 1) (v5 + 1) else if 0 ≤ (q5 - q6) then f_X12_pairs_l22 v1 v2 v4 h n (v3 + 0) (v5 + 1) else f_X12_pairs_l22 v1 v2 v4 h n (v3 + 1) (v5 + 1) else f_X12_pairs_l22 v1 v2 v4 h n (v3 + 0) (v5 + 1))))))
def f_X12_pairs_l5 (v1 : Int32) (v2 : Int32) (h : AH) : Nat → Int32 → Int32 → Option (Int32)
  | 0, _, _ => none
  | n + 1, v3, v4 => gd (ib v1 8 = true) (if (hia h 196 (cl v1)) ≤ v4 then some v3 else bnd (f_X12_pairs_l22 v1 v2 v4 h FU v3 (v4 + 1)) (fun q13 => f_X12_pairs_l5 v1 v2 h n q13 (v4 + 1)))
def f_X12_pairs (v1 : Int32) (v2 : Int32) (h : AH) : Option (Int32) := bnd (f_X12_pairs_l5 v1 v2 h FU 0 0) (fun q14 => some q14)
set_option maxRecDepth 20000 in
theorem cl_X12_pairs_22 (G : GG) (K : KQ) (v1 : Int32) (v2 : Int32) (v4 : Int32)  : ∀ (n : Nat) (v3 : Int32) (v5 : Int32) (h : AH) (r : Int32), f_X12_pairs_l22 v1 v2 v4 h n v3 v5 = some r → J G mX12_pairs 7 0 0 K 106 [(0, .ref (ad G 193)), (1, .int v1), (2, .int v2), (3, .int r), (4, .int v4)] [] h → J G mX12_pairs 7 0 0 K 22 [(0, .ref (ad G 193)), (1, .int v1), (2, .int v2), (3, .int v3), (4, .int v4), (5, .int v5)] [] h := by
  intro n
  induction n with
  | zero => intro v3 v5 h r hL; cases hL
  | succ n ih =>
    intro v3 v5 h r hL kE
    unfold f_X12_pairs_l22 at hL
    refine j_iload 5 dX12_pairs_22 rfl ?_
    refine j_aload_n 0 dX12_pairs_24 rfl ?_
    refine jg_RX12_32 rfl sh_193 dX12_pairs_25 ?_
    refine j_iload_n 1 dX12_pairs_28 rfl ?_
    obtain ⟨g3, hL⟩ := gd_ex hL
    refine j_iald (shf_12_3 sh_193) (ib_in g3) dX12_pairs_29 ?_
    refine j_icmp_ge 106 dX12_pairs_30 (by decide) (fun z4 => ?_) (fun z4 => ?_)
    · replace hL := (if_pos z4).symm.trans hL
      cases hL
      refine j_sub [0, 1, 2, 3, 4] rfl ?_
      exact kE 
    · replace hL := (if_neg z4).symm.trans hL
      refine j_aload_n 0 dX12_pairs_33 rfl ?_
      refine j_iload_n 1 dX12_pairs_34 rfl ?_
      refine j_iload 5 dX12_pairs_35 rfl ?_
      obtain ⟨q5, hq5, hL⟩ := bnd_ex hL
      refine j_callVi (c_X12_midst G v1 v5 h _ hq5) cv_RX12_363 rfl sh_193 (by decide) rfl (by decide) rfl rfl (Nat.le_of_ble_eq_true rfl) dX12_pairs_37 (by decide) ?_
      refine j_aload_n 0 dX12_pairs_40 rfl ?_
      refine j_iload_n 1 dX12_pairs_41 rfl ?_
      refine j_iload 4 dX12_pairs_42 rfl ?_
      obtain ⟨q6, hq6, hL⟩ := bnd_ex hL
      refine j_callVi (c_X12_midst G v1 v4 h _ hq6) cv_RX12_363 rfl sh_193 (by decide) rfl (by decide) rfl rfl (Nat.le_of_ble_eq_true rfl) dX12_pairs_44 (by decide) ?_
      refine j_isub dX12_pairs_47 ?_
      refine j_istore (lv' := [(6, .int (q5 - q6)), (0, .ref (ad G 193)), (1, .int v1), (2, .int v2), (3, .int v3), (4, .int v4), (5, .int v5)]) dX12_pairs_48 (by decide) rfl ?_
      refine j_iload_n 4 dX12_pairs_50 rfl ?_
      refine j_aload_n 1 dX12_pairs_51 rfl ?_
      refine jg_RX12_53 rfl sh_193 dX12_pairs_52 ?_
      refine j_iload_n 2 dX12_pairs_55 rfl ?_
      refine j_iload 5 dX12_pairs_56 rfl ?_
      refine j_callSi (c_X12_at G v1 v4 h) cv_RX12_244 rfl (by decide) rfl rfl (Nat.le_of_ble_eq_true rfl) dX12_pairs_58 (by decide) ?_
      obtain ⟨g7, hL⟩ := gd_ex hL
      refine j_iald (shf_12_10 sh_193) (ib_in g7) dX12_pairs_61 ?_
      refine j_aload_n 1 dX12_pairs_62 rfl ?_
      refine jg_RX12_53 rfl sh_193 dX12_pairs_63 ?_
      refine j_iload_n 2 dX12_pairs_66 rfl ?_
      refine j_iload 6 dX12_pairs_67 rfl ?_
      refine j_callSi (c_X12_at G v1 v5 h) cv_RX12_244 rfl (by decide) rfl rfl (Nat.le_of_ble_eq_true rfl) dX12_pairs_69 (by decide) ?_
      obtain ⟨g8, hL⟩ := gd_ex hL
      refine j_iald (shf_12_10 sh_193) (ib_in g8) dX12_pairs_72 ?_
      refine j_icmp_ne 97 dX12_pairs_73 (by decide) (fun z9 => ?_) (fun z9 => ?_)
      · replace hL := (if_neg z9).symm.trans hL
        refine j_iconst 0 dX12_pairs_97 (by decide) ?_
        refine j_iadd dX12_pairs_98 ?_
        refine j_istore_n (lv' := [(3, .int (v3 + 0)), (6, .int (q5 - q6)), (0, .ref (ad G 193)), (1, .int v1), (2, .int v2), (4, .int v4), (5, .int v5)]) dX12_pairs_99 (by decide) rfl ?_
        refine j_iinc (lv' := [(5, .int (v5 + 1)), (3, .int (v3 + 0)), (6, .int (q5 - q6)), (0, .ref (ad G 193)), (1, .int v1), (2, .int v2), (4, .int v4)]) 6 dX12_pairs_100 rfl rfl (by decide) rfl ?_
        refine j_goto 22 dX12_pairs_103 (by decide) ?_
        refine j_sub [3, 4, 5, 1, 6, 0] rfl ?_
        exact ih (v3 + 0) (v5 + 1) h r hL kE
      · replace hL := (if_pos z9).symm.trans hL
        refine j_iload_n 3 dX12_pairs_76 rfl ?_
        refine j_if_ge 88 dX12_pairs_77 (by decide) (fun z10 => ?_) (fun z10 => ?_)
        · replace hL := (if_pos z10).symm.trans hL
          refine j_iload 0 dX12_pairs_88 rfl ?_
          refine j_if_le 97 dX12_pairs_90 (by decide) (fun z11 => ?_) (fun z11 => ?_)
          · replace hL := (if_pos z11).symm.trans hL
            refine j_iconst 0 dX12_pairs_97 (by decide) ?_
            refine j_iadd dX12_pairs_98 ?_
            refine j_istore_n (lv' := [(3, .int (v3 + 0)), (6, .int (q5 - q6)), (0, .ref (ad G 193)), (1, .int v1), (2, .int v2), (4, .int v4), (5, .int v5)]) dX12_pairs_99 (by decide) rfl ?_
            refine j_iinc (lv' := [(5, .int (v5 + 1)), (3, .int (v3 + 0)), (6, .int (q5 - q6)), (0, .ref (ad G 193)), (1, .int v1), (2, .int v2), (4, .int v4)]) 6 dX12_pairs_100 rfl rfl (by decide) rfl ?_
            refine j_goto 22 dX12_pairs_103 (by decide) ?_
            refine j_sub [3, 4, 5, 1, 6, 0] rfl ?_
            exact ih (v3 + 0) (v5 + 1) h r hL kE
          · replace hL := (if_neg z11).symm.trans hL
            refine j_iconst 1 dX12_pairs_93 (by decide) ?_
            refine j_goto 98 dX12_pairs_94 (by decide) ?_
            refine j_iadd dX12_pairs_98 ?_
            refine j_istore_n (lv' := [(3, .int (v3 + 1)), (6, .int (q5 - q6)), (0, .ref (ad G 193)), (1, .int v1), (2, .int v2), (4, .int v4), (5, .int v5)]) dX12_pairs_99 (by decide) rfl ?_
            refine j_iinc (lv' := [(5, .int (v5 + 1)), (3, .int (v3 + 1)), (6, .int (q5 - q6)), (0, .ref (ad G 193)), (1, .int v1), (2, .int v2), (4, .int v4)]) 6 dX12_pairs_100 rfl rfl (by decide) rfl ?_
            refine j_goto 22 dX12_pairs_103 (by decide) ?_
            refine j_sub [3, 4, 5, 1, 6, 0] rfl ?_
            exact ih (v3 + 1) (v5 + 1) h r hL kE
        · replace hL := (if_neg z10).symm.trans hL
          refine j_iload 0 dX12_pairs_80 rfl ?_
          refine j_if_ge 97 dX12_pairs_82 (by decide) (fun z12 => ?_) (fun z12 => ?_)
          · replace hL := (if_pos z12).symm.trans hL
            refine j_iconst 0 dX12_pairs_97 (by decide) ?_
            refine j_iadd dX12_pairs_98 ?_
            refine j_istore_n (lv' := [(3, .int (v3 + 0)), (6, .int (q5 - q6)), (0, .ref (ad G 193)), (1, .int v1), (2, .int v2), (4, .int v4), (5, .int v5)]) dX12_pairs_99 (by decide) rfl ?_
            refine j_iinc (lv' := [(5, .int (v5 + 1)), (3, .int (v3 + 0)), (6, .int (q5 - q6)), (0, .ref (ad G 193)), (1, .int v1), (2, .int v2), (4, .int v4)]) 6 dX12_pairs_100 rfl rfl (by decide) rfl ?_
            refine j_goto 22 dX12_pairs_103 (by decide) ?_
            refine j_sub [3, 4, 5, 1, 6, 0] rfl ?_
            exact ih (v3 + 0) (v5 + 1) h r hL kE
          · replace hL := (if_neg z12).symm.trans hL
            refine j_goto 93 dX12_pairs_85 (by decide) ?_
            refine j_iconst 1 dX12_pairs_93 (by decide) ?_
            refine j_goto 98 dX12_pairs_94 (by decide) ?_
            refine j_iadd dX12_pairs_98 ?_
            refine j_istore_n (lv' := [(3, .int (v3 + 1)), (6, .int (q5 - q6)), (0, .ref (ad G 193)), (1, .int v1), (2, .int v2), (4, .int v4), (5, .int v5)]) dX12_pairs_99 (by decide) rfl ?_
            refine j_iinc (lv' := [(5, .int (v5 + 1)), (3, .int (v3 + 1)), (6, .int (q5 - q6)), (0, .ref (ad G 193)), (1, .int v1), (2, .int v2), (4, .int v4)]) 6 dX12_pairs_100 rfl rfl (by decide) rfl ?_
            refine j_goto 22 dX12_pairs_103 (by decide) ?_
            refine j_sub [3, 4, 5, 1, 6, 0] rfl ?_
            exact ih (v3 + 1) (v5 + 1) h r hL kE

set_option maxRecDepth 20000 in
theorem cl_X12_pairs_5 (G : GG) (K : KQ) (v1 : Int32) (v2 : Int32)  : ∀ (n : Nat) (v3 : Int32) (v4 : Int32) (h : AH) (r : Int32), f_X12_pairs_l5 v1 v2 h n v3 v4 = some r → J G mX12_pairs 7 0 0 K 112 [(3, .int r)] [] h → J G mX12_pairs 7 0 0 K 5 [(0, .ref (ad G 193)), (1, .int v1), (2, .int v2), (3, .int v3), (4, .int v4)] [] h := by
  intro n
  induction n with
  | zero => intro v3 v4 h r hL; cases hL
  | succ n ih =>
    intro v3 v4 h r hL kE
    unfold f_X12_pairs_l5 at hL
    refine j_iload 4 dX12_pairs_5 rfl ?_
    refine j_aload_n 0 dX12_pairs_7 rfl ?_
    refine jg_RX12_32 rfl sh_193 dX12_pairs_8 ?_
    refine j_iload_n 1 dX12_pairs_11 rfl ?_
    obtain ⟨g1, hL⟩ := gd_ex hL
    refine j_iald (shf_12_3 sh_193) (ib_in g1) dX12_pairs_12 ?_
    refine j_icmp_ge 112 dX12_pairs_13 (by decide) (fun z2 => ?_) (fun z2 => ?_)
    · replace hL := (if_pos z2).symm.trans hL
      cases hL
      refine j_sub [3] rfl ?_
      exact kE 
    · replace hL := (if_neg z2).symm.trans hL
      refine j_iload 4 dX12_pairs_16 rfl ?_
      refine j_iconst 1 dX12_pairs_18 (by decide) ?_
      refine j_iadd dX12_pairs_19 ?_
      refine j_istore (lv' := [(5, .int (v4 + 1)), (0, .ref (ad G 193)), (1, .int v1), (2, .int v2), (3, .int v3), (4, .int v4)]) dX12_pairs_20 (by decide) rfl ?_
      obtain ⟨q13, hq13, hL⟩ := bnd_ex hL
      refine j_sub [1, 2, 3, 4, 5, 0] rfl ?_
      refine cl_X12_pairs_22 G K v1 v2 v4 FU v3 (v4 + 1) h q13 hq13 ?_
      refine j_iinc (lv' := [(4, .int (v4 + 1)), (0, .ref (ad G 193)), (1, .int v1), (2, .int v2), (3, .int q13)]) 4 dX12_pairs_106 rfl rfl (by decide) rfl ?_
      refine j_goto 5 dX12_pairs_109 (by decide) ?_
      refine j_sub [1, 2, 3, 4, 0] rfl ?_
      exact ih q13 (v4 + 1) h r hL kE

set_option maxRecDepth 20000 in
theorem c_X12_pairs (G : GG) (v1 : Int32) (v2 : Int32) (h : AH) (r : Int32) (hL : f_X12_pairs v1 v2 h = some r) : SpI G 7 mX12_pairs [.ref (ad G 193), .int v1, .int v2] h r h := by
  refine sp_i pf_X12_pairs (Nat.le_of_ble_eq_true rfl) ?_
  show J G mX12_pairs 7 0 0 (KMi G r h) 0 [(0, .ref (ad G 193)), (1, .int v1), (2, .int v2)] [] h
  obtain ⟨K, hK⟩ : ∃ K, K = KMi G r h := ⟨_, rfl⟩
  rw [← hK]
  unfold f_X12_pairs at hL
  refine j_iconst 0 dX12_pairs_0 (by decide) ?_
  refine j_istore_n (lv' := [(3, .int 0), (0, .ref (ad G 193)), (1, .int v1), (2, .int v2)]) dX12_pairs_1 (by decide) rfl ?_
  refine j_iconst 0 dX12_pairs_2 (by decide) ?_
  refine j_istore (lv' := [(4, .int 0), (3, .int 0), (0, .ref (ad G 193)), (1, .int v1), (2, .int v2)]) dX12_pairs_3 (by decide) rfl ?_
  obtain ⟨q14, hq14, hL⟩ := bnd_ex hL
  refine j_sub [2, 3, 4, 1, 0] rfl ?_
  refine cl_X12_pairs_5 G K v1 v2 FU 0 0 h q14 hq14 ?_
  refine j_iload_n 0 dX12_pairs_112 rfl ?_
  cases hL
  exact j_reti dX12_pairs_113 rfl hK

def f_X12_chanceOf_l5  : Nat → Int32 → AH → Option (AH)
  | 0, _, _ => none
  | n + 1, v4, h => if (Int32.ofNat 800) ≤ v4 then some h else gd (ib v4 800 = true) (lt (sla h 223 (cl v4) 0) (fun h3 => f_X12_chanceOf_l5 n (v4 + 1) h3))
def f_X12_chanceOf_l98 (v5 : Int32) (v6 : Int32) (h : AH) : Nat → Int64 → Int32 → Option (Int64)
  | 0, _, _ => none
  | n + 1, v7, v9 => if v5 ≤ v9 then some v7 else if v6 < v9 then some v7 else gd (ib (v6 - v9) 800 = true) (f_X12_chanceOf_l98 v5 v6 h n (v7 + (hla h 223 (cl (v6 - v9)))) (v9 + 1))
def f_X12_chanceOf_l86 (v3 : Int32) (v5 : Int32) : Nat → Int32 → AH → Option (AH)
  | 0, _, _ => none
  | n + 1, v6, h => if v3 < v6 then some h else bnd (f_X12_chanceOf_l98 v5 v6 h FU 0 0) (fun q15 => gd (¬ v5.toInt64 = 0) (gd (ib v6 800 = true) (lt (sla h 224 (cl v6) (q15 / v5.toInt64)) (fun h18 => f_X12_chanceOf_l86 v3 v5 n (v6 + 1) h18))))
def f_X12_chanceOf_l155 (v3 : Int32) : Nat → Int32 → AH → Option (AH)
  | 0, _, _ => none
  | n + 1, v6, h => if v3 < v6 then some h else gd (ib v6 800 = true) (gd (ib v6 800 = true) (lt (sla h 223 (cl v6) (hla h 224 (cl v6))) (fun h23 => f_X12_chanceOf_l155 v3 n (v6 + 1) h23)))
def f_X12_chanceOf_l41 (v1 : Int32) : Nat → Int32 → Int32 → AH → Option (Int32 × AH)
  | 0, _, _, _ => none
  | n + 1, v3, v4, h => gd (ib v1 8 = true) (if (hia h 196 (cl v1)) ≤ v4 then some (v3, h) else gd (ib (f_X12_at v1 v4) 320 = true) (if 2 ≤ ((hia h 204 (cl (f_X12_at v1 v4))) + 1) then bnd (f_X12_chanceOf_l86 (v3 + (((hia h 204 (cl (f_X12_at v1 v4))) + 1) - 1)) ((hia h 204 (cl (f_X12_at v1 v4))) + 1) FU 0 h) (fun q19 => bnd (f_X12_chanceOf_l155 (v3 + (((hia h 204 (cl (f_X12_at v1 v4))) + 1) - 1)) FU 0 q19) (fun q24 => f_X12_chanceOf_l41 v1 n (v3 + (((hia h 204 (cl (f_X12_at v1 v4))) + 1) - 1)) (v4 + 1) q24)) else f_X12_chanceOf_l41 v1 n v3 (v4 + 1) h))
def f_X12_chanceOf_l193 (v3 : Int32) (h : AH) : Nat → Int64 → Int32 → Option (Int64)
  | 0, _, _ => none
  | n + 1, v4, v6 => if v3 < v6 then some v4 else gd (ib v6 800 = true) (f_X12_chanceOf_l193 v3 h n (v4 + (hla h 223 (cl v6))) (v6 + 1))
def f_X12_chanceOf (v1 : Int32) (v2 : Int32) (h : AH) : Option (Int32 × AH) := bnd (f_X12_chanceOf_l5 FU 0 h) (fun q4 => gd (ib 0 800 = true) (lt (sla q4 223 (cl 0) 1000000) (fun h6 => bnd (f_X12_chanceOf_l41 v1 FU 0 0 h6) (fun q25 => bnd (f_X12_chanceOf_l193 q25.1 q25.2 FU 0 v2) (fun q28 => some (Int64.toInt32 q28, q25.2))))))
set_option maxRecDepth 20000 in
theorem cl_X12_chanceOf_5 (G : GG) (K : KQ) (v1 : Int32) (v2 : Int32) (v3 : Int32)  : ∀ (n : Nat) (v4 : Int32) (h : AH) (r : AH), f_X12_chanceOf_l5 n v4 h = some r → J G mX12_chanceOf 2 0 0 K 29 [(0, .ref (ad G 193)), (1, .int v1), (2, .int v2), (3, .int v3)] [] r → J G mX12_chanceOf 2 0 0 K 5 [(0, .ref (ad G 193)), (1, .int v1), (2, .int v2), (3, .int v3), (4, .int v4)] [] h := by
  intro n
  induction n with
  | zero => intro v4 h r hL; cases hL
  | succ n ih =>
    intro v4 h r hL kE
    unfold f_X12_chanceOf_l5 at hL
    refine j_iload 4 dX12_chanceOf_5 rfl ?_
    refine j_aload_n 0 dX12_chanceOf_7 rfl ?_
    refine jg_RX12_115 rfl sh_193 dX12_chanceOf_8 ?_
    refine j_alenL (shf_12_41 sh_193) dX12_chanceOf_11 ?_
    refine j_icmp_ge 29 dX12_chanceOf_12 (by decide) (fun z1 => ?_) (fun z1 => ?_)
    · replace hL := (if_pos z1).symm.trans hL
      cases hL
      refine j_sub [0, 1, 2, 3] rfl ?_
      exact kE 
    · replace hL := (if_neg z1).symm.trans hL
      refine j_aload_n 0 dX12_chanceOf_15 rfl ?_
      refine jg_RX12_115 rfl sh_193 dX12_chanceOf_16 ?_
      refine j_iload 4 dX12_chanceOf_19 rfl ?_
      refine j_lconst 0 dX12_chanceOf_21 (by decide) ?_
      obtain ⟨g2, hL⟩ := gd_ex hL
      refine j_last (shf_12_41 sh_193) (ib_in g2) dX12_chanceOf_22 ?_
      obtain ⟨h3, eh3, hL⟩ := lt_ex hL
      refine j_heap eh3 ?_
      refine j_iinc (lv' := [(4, .int (v4 + 1)), (0, .ref (ad G 193)), (1, .int v1), (2, .int v2), (3, .int v3)]) 4 dX12_chanceOf_23 rfl rfl (by decide) rfl ?_
      refine j_goto 5 dX12_chanceOf_26 (by decide) ?_
      refine j_sub [1, 2, 3, 4, 0] rfl ?_
      exact ih (v4 + 1) h3 r hL kE

set_option maxRecDepth 20000 in
theorem cl_X12_chanceOf_98 (G : GG) (K : KQ) (v1 : Int32) (v2 : Int32) (v3 : Int32) (v4 : Int32) (v5 : Int32) (v6 : Int32)  : ∀ (n : Nat) (v7 : Int64) (v9 : Int32) (h : AH) (r : Int64), f_X12_chanceOf_l98 v5 v6 h n v7 v9 = some r → J G mX12_chanceOf 2 0 0 K 133 [(0, .ref (ad G 193)), (1, .int v1), (2, .int v2), (3, .int v3), (4, .int v4), (5, .int v5), (6, .int v6), (7, .long r)] [] h → J G mX12_chanceOf 2 0 0 K 98 [(0, .ref (ad G 193)), (1, .int v1), (2, .int v2), (3, .int v3), (4, .int v4), (5, .int v5), (6, .int v6), (7, .long v7), (9, .int v9)] [] h := by
  intro n
  induction n with
  | zero => intro v7 v9 h r hL; cases hL
  | succ n ih =>
    intro v7 v9 h r hL kE
    unfold f_X12_chanceOf_l98 at hL
    refine j_iload 8 dX12_chanceOf_98 rfl ?_
    refine j_iload 5 dX12_chanceOf_100 rfl ?_
    refine j_icmp_ge 133 dX12_chanceOf_102 (by decide) (fun z12 => ?_) (fun z12 => ?_)
    · replace hL := (if_pos z12).symm.trans hL
      cases hL
      refine j_sub [0, 1, 2, 3, 4, 5, 6, 7] rfl ?_
      exact kE 
    · replace hL := (if_neg z12).symm.trans hL
      refine j_iload 8 dX12_chanceOf_105 rfl ?_
      refine j_iload 6 dX12_chanceOf_107 rfl ?_
      refine j_icmp_gt 133 dX12_chanceOf_109 (by decide) (fun z13 => ?_) (fun z13 => ?_)
      · replace hL := (if_pos z13).symm.trans hL
        cases hL
        refine j_sub [0, 1, 2, 3, 4, 5, 6, 7] rfl ?_
        exact kE 
      · replace hL := (if_neg z13).symm.trans hL
        refine j_lload 7 dX12_chanceOf_112 rfl ?_
        refine j_aload_n 0 dX12_chanceOf_114 rfl ?_
        refine jg_RX12_115 rfl sh_193 dX12_chanceOf_115 ?_
        refine j_iload 6 dX12_chanceOf_118 rfl ?_
        refine j_iload 8 dX12_chanceOf_120 rfl ?_
        refine j_isub dX12_chanceOf_122 ?_
        obtain ⟨g14, hL⟩ := gd_ex hL
        refine j_lald (shf_12_41 sh_193) (ib_in g14) dX12_chanceOf_123 ?_
        refine j_ladd dX12_chanceOf_124 ?_
        refine j_lstore (lv' := [(7, .long (v7 + (hla h 223 (cl (v6 - v9))))), (0, .ref (ad G 193)), (1, .int v1), (2, .int v2), (3, .int v3), (4, .int v4), (5, .int v5), (6, .int v6), (9, .int v9)]) dX12_chanceOf_125 (by decide) rfl ?_
        refine j_iinc (lv' := [(9, .int (v9 + 1)), (7, .long (v7 + (hla h 223 (cl (v6 - v9))))), (0, .ref (ad G 193)), (1, .int v1), (2, .int v2), (3, .int v3), (4, .int v4), (5, .int v5), (6, .int v6)]) 8 dX12_chanceOf_127 rfl rfl (by decide) rfl ?_
        refine j_goto 98 dX12_chanceOf_130 (by decide) ?_
        refine j_sub [2, 3, 4, 5, 6, 7, 8, 1, 0] rfl ?_
        exact ih (v7 + (hla h 223 (cl (v6 - v9)))) (v9 + 1) h r hL kE

set_option maxRecDepth 20000 in
theorem cl_X12_chanceOf_86 (G : GG) (K : KQ) (v1 : Int32) (v2 : Int32) (v3 : Int32) (v4 : Int32) (v5 : Int32)  : ∀ (n : Nat) (v6 : Int32) (h : AH) (r : AH), f_X12_chanceOf_l86 v3 v5 n v6 h = some r → J G mX12_chanceOf 2 0 0 K 152 [(0, .ref (ad G 193)), (1, .int v1), (2, .int v2), (3, .int v3), (4, .int v4)] [] r → J G mX12_chanceOf 2 0 0 K 86 [(0, .ref (ad G 193)), (1, .int v1), (2, .int v2), (3, .int v3), (4, .int v4), (5, .int v5), (6, .int v6)] [] h := by
  intro n
  induction n with
  | zero => intro v6 h r hL; cases hL
  | succ n ih =>
    intro v6 h r hL kE
    unfold f_X12_chanceOf_l86 at hL
    refine j_iload 6 dX12_chanceOf_86 rfl ?_
    refine j_iload_n 3 dX12_chanceOf_88 rfl ?_
    refine j_icmp_gt 152 dX12_chanceOf_89 (by decide) (fun z11 => ?_) (fun z11 => ?_)
    · replace hL := (if_pos z11).symm.trans hL
      cases hL
      refine j_sub [0, 1, 2, 3, 4] rfl ?_
      exact kE 
    · replace hL := (if_neg z11).symm.trans hL
      refine j_lconst 0 dX12_chanceOf_92 (by decide) ?_
      refine j_lstore (lv' := [(7, .long 0), (0, .ref (ad G 193)), (1, .int v1), (2, .int v2), (3, .int v3), (4, .int v4), (5, .int v5), (6, .int v6)]) dX12_chanceOf_93 (by decide) rfl ?_
      refine j_iconst 0 dX12_chanceOf_95 (by decide) ?_
      refine j_istore (lv' := [(9, .int 0), (7, .long 0), (0, .ref (ad G 193)), (1, .int v1), (2, .int v2), (3, .int v3), (4, .int v4), (5, .int v5), (6, .int v6)]) dX12_chanceOf_96 (by decide) rfl ?_
      obtain ⟨q15, hq15, hL⟩ := bnd_ex hL
      refine j_sub [2, 3, 4, 5, 6, 7, 8, 1, 0] rfl ?_
      refine cl_X12_chanceOf_98 G K v1 v2 v3 v4 v5 v6 FU 0 0 h q15 hq15 ?_
      refine j_aload_n 0 dX12_chanceOf_133 rfl ?_
      refine jg_RX12_119 rfl sh_193 dX12_chanceOf_134 ?_
      refine j_iload 6 dX12_chanceOf_137 rfl ?_
      refine j_lload 7 dX12_chanceOf_139 rfl ?_
      refine j_iload 5 dX12_chanceOf_141 rfl ?_
      refine j_i2l dX12_chanceOf_143 ?_
      obtain ⟨g16, hL⟩ := gd_ex hL
      refine j_ldiv dX12_chanceOf_144 g16 ?_
      obtain ⟨g17, hL⟩ := gd_ex hL
      refine j_last (shf_12_42 sh_193) (ib_in g17) dX12_chanceOf_145 ?_
      obtain ⟨h18, eh18, hL⟩ := lt_ex hL
      refine j_heap eh18 ?_
      refine j_iinc (lv' := [(6, .int (v6 + 1)), (0, .ref (ad G 193)), (1, .int v1), (2, .int v2), (3, .int v3), (4, .int v4), (5, .int v5), (7, .long q15)]) 6 dX12_chanceOf_146 rfl rfl (by decide) rfl ?_
      refine j_goto 86 dX12_chanceOf_149 (by decide) ?_
      refine j_sub [1, 2, 3, 4, 5, 6, 0] rfl ?_
      exact ih (v6 + 1) h18 r hL kE

set_option maxRecDepth 20000 in
theorem cl_X12_chanceOf_155 (G : GG) (K : KQ) (v1 : Int32) (v2 : Int32) (v3 : Int32) (v4 : Int32)  : ∀ (n : Nat) (v6 : Int32) (h : AH) (r : AH), f_X12_chanceOf_l155 v3 n v6 h = some r → J G mX12_chanceOf 2 0 0 K 181 [(0, .ref (ad G 193)), (1, .int v1), (2, .int v2), (3, .int v3), (4, .int v4)] [] r → J G mX12_chanceOf 2 0 0 K 155 [(0, .ref (ad G 193)), (1, .int v1), (2, .int v2), (3, .int v3), (4, .int v4), (6, .int v6)] [] h := by
  intro n
  induction n with
  | zero => intro v6 h r hL; cases hL
  | succ n ih =>
    intro v6 h r hL kE
    unfold f_X12_chanceOf_l155 at hL
    refine j_iload 5 dX12_chanceOf_155 rfl ?_
    refine j_iload_n 3 dX12_chanceOf_157 rfl ?_
    refine j_icmp_gt 181 dX12_chanceOf_158 (by decide) (fun z20 => ?_) (fun z20 => ?_)
    · replace hL := (if_pos z20).symm.trans hL
      cases hL
      refine j_sub [0, 1, 2, 3, 4] rfl ?_
      exact kE 
    · replace hL := (if_neg z20).symm.trans hL
      refine j_aload_n 0 dX12_chanceOf_161 rfl ?_
      refine jg_RX12_115 rfl sh_193 dX12_chanceOf_162 ?_
      refine j_iload 5 dX12_chanceOf_165 rfl ?_
      refine j_aload_n 0 dX12_chanceOf_167 rfl ?_
      refine jg_RX12_119 rfl sh_193 dX12_chanceOf_168 ?_
      refine j_iload 5 dX12_chanceOf_171 rfl ?_
      obtain ⟨g21, hL⟩ := gd_ex hL
      refine j_lald (shf_12_42 sh_193) (ib_in g21) dX12_chanceOf_173 ?_
      obtain ⟨g22, hL⟩ := gd_ex hL
      refine j_last (shf_12_41 sh_193) (ib_in g22) dX12_chanceOf_174 ?_
      obtain ⟨h23, eh23, hL⟩ := lt_ex hL
      refine j_heap eh23 ?_
      refine j_iinc (lv' := [(6, .int (v6 + 1)), (0, .ref (ad G 193)), (1, .int v1), (2, .int v2), (3, .int v3), (4, .int v4)]) 5 dX12_chanceOf_175 rfl rfl (by decide) rfl ?_
      refine j_goto 155 dX12_chanceOf_178 (by decide) ?_
      refine j_sub [1, 2, 3, 4, 5, 0] rfl ?_
      exact ih (v6 + 1) h23 r hL kE

set_option maxRecDepth 20000 in
theorem cl_X12_chanceOf_41 (G : GG) (K : KQ) (v1 : Int32) (v2 : Int32)  : ∀ (n : Nat) (v3 : Int32) (v4 : Int32) (h : AH) (r : Int32 × AH), f_X12_chanceOf_l41 v1 n v3 v4 h = some r → J G mX12_chanceOf 2 0 0 K 187 [(0, .ref (ad G 193)), (2, .int v2), (3, .int r.1)] [] r.2 → J G mX12_chanceOf 2 0 0 K 41 [(0, .ref (ad G 193)), (1, .int v1), (2, .int v2), (3, .int v3), (4, .int v4)] [] h := by
  intro n
  induction n with
  | zero => intro v3 v4 h r hL; cases hL
  | succ n ih =>
    intro v3 v4 h r hL kE
    unfold f_X12_chanceOf_l41 at hL
    refine j_iload 4 dX12_chanceOf_41 rfl ?_
    refine j_aload_n 0 dX12_chanceOf_43 rfl ?_
    refine jg_RX12_32 rfl sh_193 dX12_chanceOf_44 ?_
    refine j_iload_n 1 dX12_chanceOf_47 rfl ?_
    obtain ⟨g7, hL⟩ := gd_ex hL
    refine j_iald (shf_12_3 sh_193) (ib_in g7) dX12_chanceOf_48 ?_
    refine j_icmp_ge 187 dX12_chanceOf_49 (by decide) (fun z8 => ?_) (fun z8 => ?_)
    · replace hL := (if_pos z8).symm.trans hL
      cases hL
      refine j_sub [0, 2, 3] rfl ?_
      exact kE 
    · replace hL := (if_neg z8).symm.trans hL
      refine j_aload_n 0 dX12_chanceOf_52 rfl ?_
      refine jg_RX12_55 rfl sh_193 dX12_chanceOf_53 ?_
      refine j_iload_n 1 dX12_chanceOf_56 rfl ?_
      refine j_iload 4 dX12_chanceOf_57 rfl ?_
      refine j_callSi (c_X12_at G v1 v4 h) cv_RX12_244 rfl (by decide) rfl rfl (Nat.le_of_ble_eq_true rfl) dX12_chanceOf_59 (by decide) ?_
      obtain ⟨g9, hL⟩ := gd_ex hL
      refine j_iald (shf_12_11 sh_193) (ib_in g9) dX12_chanceOf_62 ?_
      refine j_iconst 1 dX12_chanceOf_63 (by decide) ?_
      refine j_iadd dX12_chanceOf_64 ?_
      refine j_istore (lv' := [(5, .int ((hia h 204 (cl (f_X12_at v1 v4))) + 1)), (0, .ref (ad G 193)), (1, .int v1), (2, .int v2), (3, .int v3), (4, .int v4)]) dX12_chanceOf_65 (by decide) rfl ?_
      refine j_iload 0 dX12_chanceOf_67 rfl ?_
      refine j_iconst 2 dX12_chanceOf_69 (by decide) ?_
      refine j_icmp_ge 76 dX12_chanceOf_70 (by decide) (fun z10 => ?_) (fun z10 => ?_)
      · replace hL := (if_pos z10).symm.trans hL
        refine j_iload_n 4 dX12_chanceOf_76 rfl ?_
        refine j_iload 0 dX12_chanceOf_77 rfl ?_
        refine j_iconst 1 dX12_chanceOf_79 (by decide) ?_
        refine j_isub dX12_chanceOf_80 ?_
        refine j_iadd dX12_chanceOf_81 ?_
        refine j_istore_n (lv' := [(3, .int (v3 + (((hia h 204 (cl (f_X12_at v1 v4))) + 1) - 1))), (5, .int ((hia h 204 (cl (f_X12_at v1 v4))) + 1)), (0, .ref (ad G 193)), (1, .int v1), (2, .int v2), (4, .int v4)]) dX12_chanceOf_82 (by decide) rfl ?_
        refine j_iconst 0 dX12_chanceOf_83 (by decide) ?_
        refine j_istore (lv' := [(6, .int 0), (3, .int (v3 + (((hia h 204 (cl (f_X12_at v1 v4))) + 1) - 1))), (5, .int ((hia h 204 (cl (f_X12_at v1 v4))) + 1)), (0, .ref (ad G 193)), (1, .int v1), (2, .int v2), (4, .int v4)]) dX12_chanceOf_84 (by decide) rfl ?_
        obtain ⟨q19, hq19, hL⟩ := bnd_ex hL
        refine j_sub [3, 4, 5, 1, 6, 2, 0] rfl ?_
        refine cl_X12_chanceOf_86 G K v1 v2 (v3 + (((hia h 204 (cl (f_X12_at v1 v4))) + 1) - 1)) v4 ((hia h 204 (cl (f_X12_at v1 v4))) + 1) FU 0 h q19 hq19 ?_
        refine j_iconst 0 dX12_chanceOf_152 (by decide) ?_
        refine j_istore (lv' := [(6, .int 0), (0, .ref (ad G 193)), (1, .int v1), (2, .int v2), (3, .int (v3 + (((hia h 204 (cl (f_X12_at v1 v4))) + 1) - 1))), (4, .int v4)]) dX12_chanceOf_153 (by decide) rfl ?_
        obtain ⟨q24, hq24, hL⟩ := bnd_ex hL
        refine j_sub [1, 2, 3, 4, 5, 0] rfl ?_
        refine cl_X12_chanceOf_155 G K v1 v2 (v3 + (((hia h 204 (cl (f_X12_at v1 v4))) + 1) - 1)) v4 FU 0 q19 q24 hq24 ?_
        refine j_iinc (lv' := [(4, .int (v4 + 1)), (0, .ref (ad G 193)), (1, .int v1), (2, .int v2), (3, .int (v3 + (((hia h 204 (cl (f_X12_at v1 v4))) + 1) - 1)))]) 4 dX12_chanceOf_181 rfl rfl (by decide) rfl ?_
        refine j_goto 41 dX12_chanceOf_184 (by decide) ?_
        refine j_sub [1, 2, 3, 4, 0] rfl ?_
        exact ih (v3 + (((hia h 204 (cl (f_X12_at v1 v4))) + 1) - 1)) (v4 + 1) q24 r hL kE
      · replace hL := (if_neg z10).symm.trans hL
        refine j_goto 181 dX12_chanceOf_73 (by decide) ?_
        refine j_iinc (lv' := [(4, .int (v4 + 1)), (5, .int ((hia h 204 (cl (f_X12_at v1 v4))) + 1)), (0, .ref (ad G 193)), (1, .int v1), (2, .int v2), (3, .int v3)]) 5 dX12_chanceOf_181 rfl rfl (by decide) rfl ?_
        refine j_goto 41 dX12_chanceOf_184 (by decide) ?_
        refine j_sub [2, 3, 4, 5, 0] rfl ?_
        exact ih v3 (v4 + 1) h r hL kE

set_option maxRecDepth 20000 in
theorem cl_X12_chanceOf_193 (G : GG) (K : KQ) (v3 : Int32)  : ∀ (n : Nat) (v4 : Int64) (v6 : Int32) (h : AH) (r : Int64), f_X12_chanceOf_l193 v3 h n v4 v6 = some r → J G mX12_chanceOf 2 0 0 K 217 [(4, .long r)] [] h → J G mX12_chanceOf 2 0 0 K 193 [(0, .ref (ad G 193)), (3, .int v3), (4, .long v4), (6, .int v6)] [] h := by
  intro n
  induction n with
  | zero => intro v4 v6 h r hL; cases hL
  | succ n ih =>
    intro v4 v6 h r hL kE
    unfold f_X12_chanceOf_l193 at hL
    refine j_iload 3 dX12_chanceOf_193 rfl ?_
    refine j_iload_n 1 dX12_chanceOf_195 rfl ?_
    refine j_icmp_gt 217 dX12_chanceOf_196 (by decide) (fun z26 => ?_) (fun z26 => ?_)
    · replace hL := (if_pos z26).symm.trans hL
      cases hL
      refine j_sub [2] rfl ?_
      exact kE 
    · replace hL := (if_neg z26).symm.trans hL
      refine j_lload 2 dX12_chanceOf_199 rfl ?_
      refine j_aload_n 0 dX12_chanceOf_201 rfl ?_
      refine jg_RX12_115 rfl sh_193 dX12_chanceOf_202 ?_
      refine j_iload 3 dX12_chanceOf_205 rfl ?_
      obtain ⟨g27, hL⟩ := gd_ex hL
      refine j_lald (shf_12_41 sh_193) (ib_in g27) dX12_chanceOf_207 ?_
      refine j_ladd dX12_chanceOf_208 ?_
      refine j_lstore (lv' := [(4, .long (v4 + (hla h 223 (cl v6)))), (0, .ref (ad G 193)), (3, .int v3), (6, .int v6)]) dX12_chanceOf_209 (by decide) rfl ?_
      refine j_iinc (lv' := [(6, .int (v6 + 1)), (4, .long (v4 + (hla h 223 (cl v6)))), (0, .ref (ad G 193)), (3, .int v3)]) 3 dX12_chanceOf_211 rfl rfl (by decide) rfl ?_
      refine j_goto 193 dX12_chanceOf_214 (by decide) ?_
      refine j_sub [2, 3, 1, 0] rfl ?_
      exact ih (v4 + (hla h 223 (cl v6))) (v6 + 1) h r hL kE

set_option maxRecDepth 20000 in
theorem c_X12_chanceOf (G : GG) (v1 : Int32) (v2 : Int32) (h : AH) (r : Int32 × AH) (hL : f_X12_chanceOf v1 v2 h = some r) : SpI G 2 mX12_chanceOf [.ref (ad G 193), .int v1, .int v2] h r.1 r.2 := by
  refine sp_i pf_X12_chanceOf (Nat.le_of_ble_eq_true rfl) ?_
  show J G mX12_chanceOf 2 0 0 (KMi G r.1 r.2) 0 [(0, .ref (ad G 193)), (1, .int v1), (2, .int v2)] [] h
  obtain ⟨K, hK⟩ : ∃ K, K = KMi G r.1 r.2 := ⟨_, rfl⟩
  rw [← hK]
  unfold f_X12_chanceOf at hL
  refine j_iconst 0 dX12_chanceOf_0 (by decide) ?_
  refine j_istore_n (lv' := [(3, .int 0), (0, .ref (ad G 193)), (1, .int v1), (2, .int v2)]) dX12_chanceOf_1 (by decide) rfl ?_
  refine j_iconst 0 dX12_chanceOf_2 (by decide) ?_
  refine j_istore (lv' := [(4, .int 0), (3, .int 0), (0, .ref (ad G 193)), (1, .int v1), (2, .int v2)]) dX12_chanceOf_3 (by decide) rfl ?_
  obtain ⟨q4, hq4, hL⟩ := bnd_ex hL
  refine j_sub [2, 3, 4, 1, 0] rfl ?_
  refine cl_X12_chanceOf_5 G K v1 v2 0 FU 0 h q4 hq4 ?_
  refine j_aload_n 0 dX12_chanceOf_29 rfl ?_
  refine jg_RX12_115 rfl sh_193 dX12_chanceOf_30 ?_
  refine j_iconst 0 dX12_chanceOf_33 (by decide) ?_
  refine j_ldc2 rfl kk_RX12_380 dX12_chanceOf_34 ?_
  obtain ⟨g5, hL⟩ := gd_ex hL
  refine j_last (shf_12_41 sh_193) (ib_in g5) dX12_chanceOf_37 ?_
  obtain ⟨h6, eh6, hL⟩ := lt_ex hL
  refine j_heap eh6 ?_
  refine j_iconst 0 dX12_chanceOf_38 (by decide) ?_
  refine j_istore (lv' := [(4, .int 0), (0, .ref (ad G 193)), (1, .int v1), (2, .int v2), (3, .int 0)]) dX12_chanceOf_39 (by decide) rfl ?_
  obtain ⟨q25, hq25, hL⟩ := bnd_ex hL
  refine j_sub [1, 2, 3, 4, 0] rfl ?_
  refine cl_X12_chanceOf_41 G K v1 v2 FU 0 0 h6 q25 hq25 ?_
  refine j_lconst 0 dX12_chanceOf_187 (by decide) ?_
  refine j_lstore (lv' := [(4, .long 0), (0, .ref (ad G 193)), (2, .int v2), (3, .int q25.1)]) dX12_chanceOf_188 (by decide) rfl ?_
  refine j_iload_n 2 dX12_chanceOf_190 rfl ?_
  refine j_istore (lv' := [(6, .int v2), (4, .long 0), (0, .ref (ad G 193)), (2, .int v2), (3, .int q25.1)]) dX12_chanceOf_191 (by decide) rfl ?_
  obtain ⟨q28, hq28, hL⟩ := bnd_ex hL
  refine j_sub [2, 4, 1, 0] rfl ?_
  refine cl_X12_chanceOf_193 G K q25.1 FU 0 v2 q25.2 q28 hq28 ?_
  refine j_lload 0 dX12_chanceOf_217 rfl ?_
  refine j_l2i dX12_chanceOf_219 ?_
  cases hL
  exact j_reti dX12_chanceOf_220 rfl hK

def f_X12_sleepy (v1 : Int32) (v2 : Int32) (h : AH) : Option (Int32 × AH) := lt (sfi h 193 2 0) (fun h1 => bnd (f_X12_isAsked v1 h1) (fun q2 => if q2 = true then if (f_X12_isIn v2 0 2) = true then if v2 = 2 then bnd (f_X12_pairs v1 (-1) h1) (fun q10 => bnd (f_X12_chanceOf v1 q10 h1) (fun q11 => some (q11.1, q11.2))) else if v2 = 0 then bnd (f_X12_pairs v1 (-1) h1) (fun q9 => some (q9, h1)) else bnd (f_X12_pairs v1 1 h1) (fun q8 => some (q8, h1)) else bnd (f_X12_fail 1 h1) (fun q12 => some (q12.1, q12.2)) else bnd (f_X12_fail 1 h1) (fun q4 => some (q4.1, q4.2))))
set_option maxRecDepth 20000 in
theorem c_X12_sleepy (G : GG) (v1 : Int32) (v2 : Int32) (h : AH) (r : Int32 × AH) (hL : f_X12_sleepy v1 v2 h = some r) : SpI G 8 mX12_sleepy [.ref (ad G 193), .int v1, .int v2] h r.1 r.2 := by
  refine sp_i pf_X12_sleepy (Nat.le_of_ble_eq_true rfl) ?_
  show J G mX12_sleepy 8 0 0 (KMi G r.1 r.2) 0 [(0, .ref (ad G 193)), (1, .int v1), (2, .int v2)] [] h
  obtain ⟨K, hK⟩ : ∃ K, K = KMi G r.1 r.2 := ⟨_, rfl⟩
  rw [← hK]
  unfold f_X12_sleepy at hL
  refine j_aload_n 0 dX12_sleepy_0 rfl ?_
  refine j_iconst 0 dX12_sleepy_1 (by decide) ?_
  refine jp_RX12_158 rfl sh_193 dX12_sleepy_2 ?_
  obtain ⟨h1, eh1, hL⟩ := lt_ex hL
  refine j_heap eh1 ?_
  refine j_aload_n 0 dX12_sleepy_5 rfl ?_
  refine j_iload_n 1 dX12_sleepy_6 rfl ?_
  obtain ⟨q2, hq2, hL⟩ := bnd_ex hL
  refine j_callVi (c_X12_isAsked G v1 h1 _ hq2) cv_RX12_371 rfl sh_193 (by decide) rfl (by decide) rfl rfl (Nat.le_of_ble_eq_true rfl) dX12_sleepy_7 (by decide) ?_
  refine j_ifz_eq 22 dX12_sleepy_10 (by decide) (fun z3 => ?_) (fun z3 => ?_)
  · replace hL := (if_neg z3).symm.trans hL
    refine j_aload_n 0 dX12_sleepy_22 rfl ?_
    refine j_iconst 1 dX12_sleepy_23 (by decide) ?_
    obtain ⟨q4, hq4, hL⟩ := bnd_ex hL
    refine j_callVi (c_X12_fail G 1 h1 _ hq4) cv_RX12_263 rfl sh_193 (by decide) rfl (by decide) rfl rfl (Nat.le_of_ble_eq_true rfl) dX12_sleepy_24 (by decide) ?_
    cases hL
    exact j_reti dX12_sleepy_27 rfl hK
  · replace hL := (if_pos z3).symm.trans hL
    refine j_iload_n 2 dX12_sleepy_13 rfl ?_
    refine j_iconst 0 dX12_sleepy_14 (by decide) ?_
    refine j_iconst 2 dX12_sleepy_15 (by decide) ?_
    refine j_callSi (c_X12_isIn G v2 0 2 h1) cv_RX12_161 rfl (by decide) rfl rfl (Nat.le_of_ble_eq_true rfl) dX12_sleepy_16 (by decide) ?_
    refine j_ifz_ne 28 dX12_sleepy_19 (by decide) (fun z5 => ?_) (fun z5 => ?_)
    · replace hL := (if_pos z5).symm.trans hL
      refine j_iload_n 2 dX12_sleepy_28 rfl ?_
      refine j_iconst 2 dX12_sleepy_29 (by decide) ?_
      refine j_icmp_ne 47 dX12_sleepy_30 (by decide) (fun z6 => ?_) (fun z6 => ?_)
      · replace hL := (if_neg z6).symm.trans hL
        refine j_aload_n 0 dX12_sleepy_47 rfl ?_
        refine j_iload_n 1 dX12_sleepy_48 rfl ?_
        refine j_iload_n 2 dX12_sleepy_49 rfl ?_
        refine j_if_ne 57 dX12_sleepy_50 (by decide) (fun z7 => ?_) (fun z7 => ?_)
        · replace hL := (if_neg z7).symm.trans hL
          refine j_iconst 1 dX12_sleepy_57 (by decide) ?_
          obtain ⟨q8, hq8, hL⟩ := bnd_ex hL
          refine j_callVi (c_X12_pairs G v1 1 h1 _ hq8) cv_RX12_382 rfl sh_193 (by decide) rfl (by decide) rfl rfl (Nat.le_of_ble_eq_true rfl) dX12_sleepy_58 (by decide) ?_
          cases hL
          exact j_reti dX12_sleepy_61 rfl hK
        · replace hL := (if_pos z7).symm.trans hL
          refine j_iconst (-1) dX12_sleepy_53 (by decide) ?_
          refine j_goto 58 dX12_sleepy_54 (by decide) ?_
          obtain ⟨q9, hq9, hL⟩ := bnd_ex hL
          refine j_callVi (c_X12_pairs G v1 (-1) h1 _ hq9) cv_RX12_382 rfl sh_193 (by decide) rfl (by decide) rfl rfl (Nat.le_of_ble_eq_true rfl) dX12_sleepy_58 (by decide) ?_
          cases hL
          exact j_reti dX12_sleepy_61 rfl hK
      · replace hL := (if_pos z6).symm.trans hL
        refine j_aload_n 0 dX12_sleepy_33 rfl ?_
        refine j_iload_n 1 dX12_sleepy_34 rfl ?_
        refine j_aload_n 0 dX12_sleepy_35 rfl ?_
        refine j_iload_n 1 dX12_sleepy_36 rfl ?_
        refine j_iconst (-1) dX12_sleepy_37 (by decide) ?_
        obtain ⟨q10, hq10, hL⟩ := bnd_ex hL
        refine j_callVi (c_X12_pairs G v1 (-1) h1 _ hq10) cv_RX12_382 rfl sh_193 (by decide) rfl (by decide) rfl rfl (Nat.le_of_ble_eq_true rfl) dX12_sleepy_38 (by decide) ?_
        obtain ⟨q11, hq11, hL⟩ := bnd_ex hL
        refine j_callVi (c_X12_chanceOf G v1 q10 h1 _ hq11) cv_RX12_385 rfl sh_193 (by decide) rfl (by decide) rfl rfl (Nat.le_of_ble_eq_true rfl) dX12_sleepy_41 (by decide) ?_
        refine j_goto 61 dX12_sleepy_44 (by decide) ?_
        cases hL
        exact j_reti dX12_sleepy_61 rfl hK
    · replace hL := (if_neg z5).symm.trans hL
      refine j_aload_n 0 dX12_sleepy_22 rfl ?_
      refine j_iconst 1 dX12_sleepy_23 (by decide) ?_
      obtain ⟨q12, hq12, hL⟩ := bnd_ex hL
      refine j_callVi (c_X12_fail G 1 h1 _ hq12) cv_RX12_263 rfl sh_193 (by decide) rfl (by decide) rfl rfl (Nat.le_of_ble_eq_true rfl) dX12_sleepy_24 (by decide) ?_
      cases hL
      exact j_reti dX12_sleepy_27 rfl hK

def f_X12_tellLights_l38 (v3 : Int32) : Nat → Int32 → AH → Option (Int32 × AH)
  | 0, _, _ => none
  | n + 1, v4, h => if v4 ≤ 0 then some (v4, h) else gd (ib (v4 - 1) 12 = true) (if (hia h 226 (cl (v4 - 1))) ≤ v3 then some (v4, h) else gd (ib (v4 - 1) 12 = true) (gd (ib v4 12 = true) (lt (sia h 225 (cl v4) (hia h 225 (cl (v4 - 1)))) (fun h11 => gd (ib (v4 - 1) 12 = true) (gd (ib v4 12 = true) (lt (sia h11 226 (cl v4) (hia h11 226 (cl (v4 - 1)))) (fun h14 => f_X12_tellLights_l38 v3 n (v4 + (-1)) h14)))))))
def f_X12_tellLights_l7 (v1 : Int32) : Nat → Int32 → AH → Option (AH)
  | 0, _, _ => none
  | n + 1, v2, h => if 12 ≤ v2 then some h else bnd (f_X12_has v1 v2 h) (fun q3 => if q3 = true then bnd (f_X12_lightOf v1 v2 h) (fun q5 => bnd (f_X12_tellLights_l38 q5 FU (hfi h 193 47) h) (fun q15 => gd (ib q15.1 12 = true) (lt (sia q15.2 225 (cl q15.1) v2) (fun h17 => gd (ib q15.1 12 = true) (lt (sia h17 226 (cl q15.1) q5) (fun h19 => lt (sfi h19 193 47 ((hfi h19 193 47) + 1)) (fun h20 => f_X12_tellLights_l7 v1 n (v2 + 1) h20))))))) else f_X12_tellLights_l7 v1 n (v2 + 1) h)
def f_X12_tellLights (v1 : Int32) (h : AH) : Option (AH) := lt (sfi h 193 47 0) (fun h1 => bnd (f_X12_tellLights_l7 v1 FU 0 h1) (fun q21 => some q21))
set_option maxRecDepth 20000 in
theorem cl_X12_tellLights_38 (G : GG) (K : KQ) (v1 : Int32) (v2 : Int32) (v3 : Int32)  : ∀ (n : Nat) (v4 : Int32) (h : AH) (r : Int32 × AH), f_X12_tellLights_l38 v3 n v4 h = some r → J G mX12_tellLights 8 0 0 K 94 [(0, .ref (ad G 193)), (1, .int v1), (2, .int v2), (3, .int v3), (4, .int r.1)] [] r.2 → J G mX12_tellLights 8 0 0 K 38 [(0, .ref (ad G 193)), (1, .int v1), (2, .int v2), (3, .int v3), (4, .int v4)] [] h := by
  intro n
  induction n with
  | zero => intro v4 h r hL; cases hL
  | succ n ih =>
    intro v4 h r hL kE
    unfold f_X12_tellLights_l38 at hL
    refine j_iload 4 dX12_tellLights_38 rfl ?_
    refine j_if_le 94 dX12_tellLights_40 (by decide) (fun z6 => ?_) (fun z6 => ?_)
    · replace hL := (if_pos z6).symm.trans hL
      cases hL
      refine j_sub [0, 1, 2, 3, 4] rfl ?_
      exact kE 
    · replace hL := (if_neg z6).symm.trans hL
      refine j_aload_n 0 dX12_tellLights_43 rfl ?_
      refine jg_RX12_125 rfl sh_193 dX12_tellLights_44 ?_
      refine j_iload 4 dX12_tellLights_47 rfl ?_
      refine j_iconst 1 dX12_tellLights_49 (by decide) ?_
      refine j_isub dX12_tellLights_50 ?_
      obtain ⟨g7, hL⟩ := gd_ex hL
      refine j_iald (shf_12_44 sh_193) (ib_in g7) dX12_tellLights_51 ?_
      refine j_iload_n 3 dX12_tellLights_52 rfl ?_
      refine j_icmp_le 94 dX12_tellLights_53 (by decide) (fun z8 => ?_) (fun z8 => ?_)
      · replace hL := (if_pos z8).symm.trans hL
        cases hL
        refine j_sub [0, 1, 2, 3, 4] rfl ?_
        exact kE 
      · replace hL := (if_neg z8).symm.trans hL
        refine j_aload_n 0 dX12_tellLights_56 rfl ?_
        refine jg_RX12_122 rfl sh_193 dX12_tellLights_57 ?_
        refine j_iload 4 dX12_tellLights_60 rfl ?_
        refine j_aload_n 0 dX12_tellLights_62 rfl ?_
        refine jg_RX12_122 rfl sh_193 dX12_tellLights_63 ?_
        refine j_iload 4 dX12_tellLights_66 rfl ?_
        refine j_iconst 1 dX12_tellLights_68 (by decide) ?_
        refine j_isub dX12_tellLights_69 ?_
        obtain ⟨g9, hL⟩ := gd_ex hL
        refine j_iald (shf_12_43 sh_193) (ib_in g9) dX12_tellLights_70 ?_
        obtain ⟨g10, hL⟩ := gd_ex hL
        refine j_iast (shf_12_43 sh_193) (ib_in g10) dX12_tellLights_71 ?_
        obtain ⟨h11, eh11, hL⟩ := lt_ex hL
        refine j_heap eh11 ?_
        refine j_aload_n 0 dX12_tellLights_72 rfl ?_
        refine jg_RX12_125 rfl sh_193 dX12_tellLights_73 ?_
        refine j_iload 4 dX12_tellLights_76 rfl ?_
        refine j_aload_n 0 dX12_tellLights_78 rfl ?_
        refine jg_RX12_125 rfl sh_193 dX12_tellLights_79 ?_
        refine j_iload 4 dX12_tellLights_82 rfl ?_
        refine j_iconst 1 dX12_tellLights_84 (by decide) ?_
        refine j_isub dX12_tellLights_85 ?_
        obtain ⟨g12, hL⟩ := gd_ex hL
        refine j_iald (shf_12_44 sh_193) (ib_in g12) dX12_tellLights_86 ?_
        obtain ⟨g13, hL⟩ := gd_ex hL
        refine j_iast (shf_12_44 sh_193) (ib_in g13) dX12_tellLights_87 ?_
        obtain ⟨h14, eh14, hL⟩ := lt_ex hL
        refine j_heap eh14 ?_
        refine j_iinc (lv' := [(4, .int (v4 + (-1))), (0, .ref (ad G 193)), (1, .int v1), (2, .int v2), (3, .int v3)]) 4 dX12_tellLights_88 rfl rfl (by decide) rfl ?_
        refine j_goto 38 dX12_tellLights_91 (by decide) ?_
        refine j_sub [1, 2, 3, 4, 0] rfl ?_
        exact ih (v4 + (-1)) h14 r hL kE

set_option maxRecDepth 20000 in
theorem cl_X12_tellLights_7 (G : GG) (K : KQ) (v1 : Int32)  : ∀ (n : Nat) (v2 : Int32) (h : AH) (r : AH), f_X12_tellLights_l7 v1 n v2 h = some r → J G mX12_tellLights 8 0 0 K 126 [] [] r → J G mX12_tellLights 8 0 0 K 7 [(0, .ref (ad G 193)), (1, .int v1), (2, .int v2)] [] h := by
  intro n
  induction n with
  | zero => intro v2 h r hL; cases hL
  | succ n ih =>
    intro v2 h r hL kE
    unfold f_X12_tellLights_l7 at hL
    refine j_iload_n 2 dX12_tellLights_7 rfl ?_
    refine j_bipush 12 dX12_tellLights_8 (by decide) ?_
    refine j_icmp_ge 126 dX12_tellLights_10 (by decide) (fun z2 => ?_) (fun z2 => ?_)
    · replace hL := (if_pos z2).symm.trans hL
      cases hL
      refine j_sub [] rfl ?_
      exact kE 
    · replace hL := (if_neg z2).symm.trans hL
      refine j_aload_n 0 dX12_tellLights_13 rfl ?_
      refine j_iload_n 1 dX12_tellLights_14 rfl ?_
      refine j_iload_n 2 dX12_tellLights_15 rfl ?_
      obtain ⟨q3, hq3, hL⟩ := bnd_ex hL
      refine j_callVi (c_X12_has G v1 v2 h _ hq3) cv_RX12_374 rfl sh_193 (by decide) rfl (by decide) rfl rfl (Nat.le_of_ble_eq_true rfl) dX12_tellLights_16 (by decide) ?_
      refine j_ifz_ne 25 dX12_tellLights_19 (by decide) (fun z4 => ?_) (fun z4 => ?_)
      · replace hL := (if_pos z4).symm.trans hL
        refine j_aload_n 0 dX12_tellLights_25 rfl ?_
        refine j_iload_n 1 dX12_tellLights_26 rfl ?_
        refine j_iload_n 2 dX12_tellLights_27 rfl ?_
        obtain ⟨q5, hq5, hL⟩ := bnd_ex hL
        refine j_callVi (c_X12_lightOf G v1 v2 h _ hq5) cv_RX12_377 rfl sh_193 (by decide) rfl (by decide) rfl rfl (Nat.le_of_ble_eq_true rfl) dX12_tellLights_28 (by decide) ?_
        refine j_istore_n (lv' := [(3, .int q5), (0, .ref (ad G 193)), (1, .int v1), (2, .int v2)]) dX12_tellLights_31 (by decide) rfl ?_
        refine j_aload_n 1 dX12_tellLights_32 rfl ?_
        refine jg_RX12_388 rfl sh_193 dX12_tellLights_33 ?_
        refine j_istore (lv' := [(4, .int (hfi h 193 47)), (3, .int q5), (0, .ref (ad G 193)), (1, .int v1), (2, .int v2)]) dX12_tellLights_36 (by decide) rfl ?_
        obtain ⟨q15, hq15, hL⟩ := bnd_ex hL
        refine j_sub [2, 3, 4, 1, 0] rfl ?_
        refine cl_X12_tellLights_38 G K v1 v2 q5 FU (hfi h 193 47) h q15 hq15 ?_
        refine j_aload_n 0 dX12_tellLights_94 rfl ?_
        refine jg_RX12_122 rfl sh_193 dX12_tellLights_95 ?_
        refine j_iload 4 dX12_tellLights_98 rfl ?_
        refine j_iload_n 2 dX12_tellLights_100 rfl ?_
        obtain ⟨g16, hL⟩ := gd_ex hL
        refine j_iast (shf_12_43 sh_193) (ib_in g16) dX12_tellLights_101 ?_
        obtain ⟨h17, eh17, hL⟩ := lt_ex hL
        refine j_heap eh17 ?_
        refine j_aload_n 0 dX12_tellLights_102 rfl ?_
        refine jg_RX12_125 rfl sh_193 dX12_tellLights_103 ?_
        refine j_iload 4 dX12_tellLights_106 rfl ?_
        refine j_iload_n 3 dX12_tellLights_108 rfl ?_
        obtain ⟨g18, hL⟩ := gd_ex hL
        refine j_iast (shf_12_44 sh_193) (ib_in g18) dX12_tellLights_109 ?_
        obtain ⟨h19, eh19, hL⟩ := lt_ex hL
        refine j_heap eh19 ?_
        refine j_aload_n 0 dX12_tellLights_110 rfl ?_
        refine j_dup dX12_tellLights_111 rfl ?_
        refine jg_RX12_388 rfl sh_193 dX12_tellLights_112 ?_
        refine j_iconst 1 dX12_tellLights_115 (by decide) ?_
        refine j_iadd dX12_tellLights_116 ?_
        refine jp_RX12_388 rfl sh_193 dX12_tellLights_117 ?_
        obtain ⟨h20, eh20, hL⟩ := lt_ex hL
        refine j_heap eh20 ?_
        refine j_iinc (lv' := [(2, .int (v2 + 1)), (0, .ref (ad G 193)), (1, .int v1), (3, .int q5), (4, .int q15.1)]) 2 dX12_tellLights_120 rfl rfl (by decide) rfl ?_
        refine j_goto 7 dX12_tellLights_123 (by decide) ?_
        refine j_sub [1, 2, 0] rfl ?_
        exact ih (v2 + 1) h20 r hL kE
      · replace hL := (if_neg z4).symm.trans hL
        refine j_goto 120 dX12_tellLights_22 (by decide) ?_
        refine j_iinc (lv' := [(2, .int (v2 + 1)), (0, .ref (ad G 193)), (1, .int v1)]) 2 dX12_tellLights_120 rfl rfl (by decide) rfl ?_
        refine j_goto 7 dX12_tellLights_123 (by decide) ?_
        refine j_sub [1, 2, 0] rfl ?_
        exact ih (v2 + 1) h r hL kE

set_option maxRecDepth 20000 in
theorem c_X12_tellLights (G : GG) (v1 : Int32) (h : AH) (r : AH) (hL : f_X12_tellLights v1 h = some r) : SpV G 8 mX12_tellLights [.ref (ad G 193), .int v1] h r := by
  refine sp_v pf_X12_tellLights (Nat.le_of_ble_eq_true rfl) ?_
  show J G mX12_tellLights 8 0 0 (KMv G r) 0 [(0, .ref (ad G 193)), (1, .int v1)] [] h
  obtain ⟨K, hK⟩ : ∃ K, K = KMv G r := ⟨_, rfl⟩
  rw [← hK]
  unfold f_X12_tellLights at hL
  refine j_aload_n 0 dX12_tellLights_0 rfl ?_
  refine j_iconst 0 dX12_tellLights_1 (by decide) ?_
  refine jp_RX12_388 rfl sh_193 dX12_tellLights_2 ?_
  obtain ⟨h1, eh1, hL⟩ := lt_ex hL
  refine j_heap eh1 ?_
  refine j_iconst 0 dX12_tellLights_5 (by decide) ?_
  refine j_istore_n (lv' := [(2, .int 0), (0, .ref (ad G 193)), (1, .int v1)]) dX12_tellLights_6 (by decide) rfl ?_
  obtain ⟨q21, hq21, hL⟩ := bnd_ex hL
  refine j_sub [1, 2, 0] rfl ?_
  refine cl_X12_tellLights_7 G K v1 FU 0 h1 q21 hq21 ?_
  cases hL
  exact j_retv dX12_tellLights_126 rfl hK

def f_X12_spread_l14 (v2 : Int32) (h : AH) : Nat → Int64 → Int64 → Int32 → Option (Int64 × Int64)
  | 0, _, _, _ => none
  | n + 1, v5, v7, v9 => if v2 ≤ v9 then some (v5, v7) else gd (ib v9 12 = true) (gd (ib v9 12 = true) (gd (ib v9 12 = true) (f_X12_spread_l14 v2 h n (v5 + ((hia h 226 (cl v9)).toInt64)) (v7 + (((hia h 226 (cl v9)).toInt64) * ((hia h 226 (cl v9)).toInt64))) (v9 + 1))))
def f_X12_spread (v1 : Int32) (v2 : Int32) (h : AH) : Option (Int64) := bnd (f_X12_spread_l14 v2 h FU 0 0 v1) (fun q5 => gd (¬ ((v2 - v1).toInt64) = 0) (some ((1000 * ((((v2 - v1).toInt64) * q5.2) - (q5.1 * q5.1))) / ((v2 - v1).toInt64))))
set_option maxRecDepth 20000 in
theorem cl_X12_spread_14 (G : GG) (K : KQ) (v2 : Int32) (v3 : Int64)  : ∀ (n : Nat) (v5 : Int64) (v7 : Int64) (v9 : Int32) (h : AH) (r : Int64 × Int64), f_X12_spread_l14 v2 h n v5 v7 v9 = some r → J G mX12_spread 1 0 0 K 61 [(3, .long v3), (5, .long r.1), (7, .long r.2)] [] h → J G mX12_spread 1 0 0 K 14 [(0, .ref (ad G 193)), (2, .int v2), (3, .long v3), (5, .long v5), (7, .long v7), (9, .int v9)] [] h := by
  intro n
  induction n with
  | zero => intro v5 v7 v9 h r hL; cases hL
  | succ n ih =>
    intro v5 v7 v9 h r hL kE
    unfold f_X12_spread_l14 at hL
    refine j_iload 5 dX12_spread_14 rfl ?_
    refine j_iload_n 1 dX12_spread_16 rfl ?_
    refine j_icmp_ge 61 dX12_spread_17 (by decide) (fun z1 => ?_) (fun z1 => ?_)
    · replace hL := (if_pos z1).symm.trans hL
      cases hL
      refine j_sub [2, 3, 4] rfl ?_
      exact kE 
    · replace hL := (if_neg z1).symm.trans hL
      refine j_lload 3 dX12_spread_20 rfl ?_
      refine j_aload_n 0 dX12_spread_22 rfl ?_
      refine jg_RX12_125 rfl sh_193 dX12_spread_23 ?_
      refine j_iload 5 dX12_spread_26 rfl ?_
      obtain ⟨g2, hL⟩ := gd_ex hL
      refine j_iald (shf_12_44 sh_193) (ib_in g2) dX12_spread_28 ?_
      refine j_i2l dX12_spread_29 ?_
      refine j_ladd dX12_spread_30 ?_
      refine j_lstore (lv' := [(5, .long (v5 + ((hia h 226 (cl v9)).toInt64))), (0, .ref (ad G 193)), (2, .int v2), (3, .long v3), (7, .long v7), (9, .int v9)]) dX12_spread_31 (by decide) rfl ?_
      refine j_lload 4 dX12_spread_33 rfl ?_
      refine j_aload_n 1 dX12_spread_35 rfl ?_
      refine jg_RX12_125 rfl sh_193 dX12_spread_36 ?_
      refine j_iload 5 dX12_spread_39 rfl ?_
      obtain ⟨g3, hL⟩ := gd_ex hL
      refine j_iald (shf_12_44 sh_193) (ib_in g3) dX12_spread_41 ?_
      refine j_i2l dX12_spread_42 ?_
      refine j_aload_n 1 dX12_spread_43 rfl ?_
      refine jg_RX12_125 rfl sh_193 dX12_spread_44 ?_
      refine j_iload 5 dX12_spread_47 rfl ?_
      obtain ⟨g4, hL⟩ := gd_ex hL
      refine j_iald (shf_12_44 sh_193) (ib_in g4) dX12_spread_49 ?_
      refine j_i2l dX12_spread_50 ?_
      refine j_lmul dX12_spread_51 ?_
      refine j_ladd dX12_spread_52 ?_
      refine j_lstore (lv' := [(7, .long (v7 + (((hia h 226 (cl v9)).toInt64) * ((hia h 226 (cl v9)).toInt64)))), (5, .long (v5 + ((hia h 226 (cl v9)).toInt64))), (0, .ref (ad G 193)), (2, .int v2), (3, .long v3), (9, .int v9)]) dX12_spread_53 (by decide) rfl ?_
      refine j_iinc (lv' := [(9, .int (v9 + 1)), (7, .long (v7 + (((hia h 226 (cl v9)).toInt64) * ((hia h 226 (cl v9)).toInt64)))), (5, .long (v5 + ((hia h 226 (cl v9)).toInt64))), (0, .ref (ad G 193)), (2, .int v2), (3, .long v3)]) 5 dX12_spread_55 rfl rfl (by decide) rfl ?_
      refine j_goto 14 dX12_spread_58 (by decide) ?_
      refine j_sub [3, 4, 5, 2, 1, 0] rfl ?_
      exact ih (v5 + ((hia h 226 (cl v9)).toInt64)) (v7 + (((hia h 226 (cl v9)).toInt64) * ((hia h 226 (cl v9)).toInt64))) (v9 + 1) h r hL kE

set_option maxRecDepth 20000 in
theorem c_X12_spread (G : GG) (v1 : Int32) (v2 : Int32) (h : AH) (r : Int64) (hL : f_X12_spread v1 v2 h = some r) : SpL G 1 mX12_spread [.ref (ad G 193), .int v1, .int v2] h r h := by
  refine sp_l pf_X12_spread (Nat.le_of_ble_eq_true rfl) ?_
  show J G mX12_spread 1 0 0 (KMl G r h) 0 [(0, .ref (ad G 193)), (1, .int v1), (2, .int v2)] [] h
  obtain ⟨K, hK⟩ : ∃ K, K = KMl G r h := ⟨_, rfl⟩
  rw [← hK]
  unfold f_X12_spread at hL
  refine j_iload_n 2 dX12_spread_0 rfl ?_
  refine j_iload_n 1 dX12_spread_1 rfl ?_
  refine j_isub dX12_spread_2 ?_
  refine j_i2l dX12_spread_3 ?_
  refine j_lstore_n (lv' := [(3, .long ((v2 - v1).toInt64)), (0, .ref (ad G 193)), (1, .int v1), (2, .int v2)]) dX12_spread_4 (by decide) rfl ?_
  refine j_lconst 0 dX12_spread_5 (by decide) ?_
  refine j_lstore (lv' := [(5, .long 0), (3, .long ((v2 - v1).toInt64)), (0, .ref (ad G 193)), (1, .int v1), (2, .int v2)]) dX12_spread_6 (by decide) rfl ?_
  refine j_lconst 0 dX12_spread_8 (by decide) ?_
  refine j_lstore (lv' := [(7, .long 0), (5, .long 0), (3, .long ((v2 - v1).toInt64)), (0, .ref (ad G 193)), (1, .int v1), (2, .int v2)]) dX12_spread_9 (by decide) rfl ?_
  refine j_iload_n 4 dX12_spread_11 rfl ?_
  refine j_istore (lv' := [(9, .int v1), (7, .long 0), (5, .long 0), (3, .long ((v2 - v1).toInt64)), (0, .ref (ad G 193)), (1, .int v1), (2, .int v2)]) dX12_spread_12 (by decide) rfl ?_
  obtain ⟨q5, hq5, hL⟩ := bnd_ex hL
  refine j_sub [4, 6, 3, 2, 1, 0] rfl ?_
  refine cl_X12_spread_14 G K v2 ((v2 - v1).toInt64) FU 0 0 v1 h q5 hq5 ?_
  refine j_ldc2 rfl kk_RX12_391 dX12_spread_61 ?_
  refine j_lload_n 0 dX12_spread_64 rfl ?_
  refine j_lload 2 dX12_spread_65 rfl ?_
  refine j_lmul dX12_spread_67 ?_
  refine j_lload 1 dX12_spread_68 rfl ?_
  refine j_lload 1 dX12_spread_70 rfl ?_
  refine j_lmul dX12_spread_72 ?_
  refine j_lsub dX12_spread_73 ?_
  refine j_lmul dX12_spread_74 ?_
  refine j_lload_n 0 dX12_spread_75 rfl ?_
  obtain ⟨g6, hL⟩ := gd_ex hL
  refine j_ldiv dX12_spread_76 g6 ?_
  cases hL
  exact j_retl dX12_spread_77 rfl hK

def f_X12_part_l101 (rec : Int32 → Int32 → Int64 → AH → Option (AH)) (v1 : Int32) (v2 : Int32) (v3 : Int64) : Nat → Int32 → AH → Option (AH)
  | 0, _, _ => none
  | n + 1, v5, h => if ((hfi h 193 47) - ((v2 - 1) - v1)) < v5 then some h else gd (ib (v1 + 1) 5 = true) (lt (sia h 227 (cl (v1 + 1)) v5) (fun h5 => gd (ib v1 5 = true) (bnd (f_X12_spread (hia h5 227 (cl v1)) v5 h5) (fun q7 => bnd (rec (v1 + 1) v2 (v3 + q7) h5) (fun q8 => f_X12_part_l101 rec v1 v2 v3 n (v5 + 1) q8)))))
def f_X12_part_l64 (v2 : Int32) : Nat → Int32 → AH → Option (AH)
  | 0, _, _ => none
  | n + 1, v7, h => if v2 < v7 then some h else gd (ib v7 5 = true) (gd (ib v7 5 = true) (lt (sia h 228 (cl v7) (hia h 227 (cl v7))) (fun h19 => f_X12_part_l64 v2 n (v7 + 1) h19)))
def f_X12_part : Nat → Int32 → Int32 → Int64 → AH → Option (AH)
  | 0, _, _, _, _ => none
  | k0 + 1, v1, v2, v3, h =>  if v1 = (v2 - 1) then gd (ib v2 5 = true) (lt (sia h 227 (cl v2) (hfi h 193 47)) (fun h11 => gd (ib v1 5 = true) (bnd (f_X12_spread (hia h11 227 (cl v1)) (hfi h11 193 47) h11) (fun q13 => if (lg_cmp (hfl h11 193 48) 0) < 0 then lt (sfl h11 193 48 (v3 + q13)) (fun h15 => bnd (f_X12_part_l64 v2 FU 0 h15) (fun q20 => some q20)) else if (lg_cmp (v3 + q13) (hfl h11 193 48)) < 0 then lt (sfl h11 193 48 (v3 + q13)) (fun h22 => bnd (f_X12_part_l64 v2 FU 0 h22) (fun q23 => some q23)) else some h11)))) else gd (ib v1 5 = true) (bnd (f_X12_part_l101 (f_X12_part k0) v1 v2 v3 FU ((hia h 227 (cl v1)) + 1) h) (fun q9 => some q9))
set_option maxRecDepth 20000 in
theorem cl_X12_part_101 (G : GG) (K : KQ) (rec : Int32 → Int32 → Int64 → AH → Option (AH)) (k0 : Nat) (hrec : ∀ (v1 v2 : Int32) (v3 : Int64) (h r : AH), rec v1 v2 v3 h = some r → SpV G (k0 + 1) mX12_part [.ref (ad G 193), .int v1, .int v2, .long v3] h r) (v1 : Int32) (v2 : Int32) (v3 : Int64)  : ∀ (n : Nat) (v5 : Int32) (h : AH) (r : AH), f_X12_part_l101 rec v1 v2 v3 n v5 h = some r → J G mX12_part (k0 + 2) 0 0 K 154 [] [] r → J G mX12_part (k0 + 2) 0 0 K 101 [(0, .ref (ad G 193)), (1, .int v1), (2, .int v2), (3, .long v3), (5, .int v5)] [] h := by
  intro n
  induction n with
  | zero => intro v5 h r hL; cases hL
  | succ n ih =>
    intro v5 h r hL kE
    unfold f_X12_part_l101 at hL
    refine j_iload 4 dX12_part_101 rfl ?_
    refine j_aload_n 0 dX12_part_103 rfl ?_
    refine jg_RX12_388 rfl sh_193 dX12_part_104 ?_
    refine j_iload_n 2 dX12_part_107 rfl ?_
    refine j_iconst 1 dX12_part_108 (by decide) ?_
    refine j_isub dX12_part_109 ?_
    refine j_iload_n 1 dX12_part_110 rfl ?_
    refine j_isub dX12_part_111 ?_
    refine j_isub dX12_part_112 ?_
    refine j_icmp_gt 154 dX12_part_113 (by decide) (fun z3 => ?_) (fun z3 => ?_)
    · replace hL := (if_pos z3).symm.trans hL
      cases hL
      refine j_sub [] rfl ?_
      exact kE 
    · replace hL := (if_neg z3).symm.trans hL
      refine j_aload_n 0 dX12_part_116 rfl ?_
      refine jg_RX12_128 rfl sh_193 dX12_part_117 ?_
      refine j_iload_n 1 dX12_part_120 rfl ?_
      refine j_iconst 1 dX12_part_121 (by decide) ?_
      refine j_iadd dX12_part_122 ?_
      refine j_iload 4 dX12_part_123 rfl ?_
      obtain ⟨g4, hL⟩ := gd_ex hL
      refine j_iast (shf_12_45 sh_193) (ib_in g4) dX12_part_125 ?_
      obtain ⟨h5, eh5, hL⟩ := lt_ex hL
      refine j_heap eh5 ?_
      refine j_aload_n 0 dX12_part_126 rfl ?_
      refine j_iload_n 1 dX12_part_127 rfl ?_
      refine j_iconst 1 dX12_part_128 (by decide) ?_
      refine j_iadd dX12_part_129 ?_
      refine j_iload_n 2 dX12_part_130 rfl ?_
      refine j_lload_n 3 dX12_part_131 rfl ?_
      refine j_aload_n 0 dX12_part_132 rfl ?_
      refine j_aload_n 0 dX12_part_133 rfl ?_
      refine jg_RX12_128 rfl sh_193 dX12_part_134 ?_
      refine j_iload_n 1 dX12_part_137 rfl ?_
      obtain ⟨g6, hL⟩ := gd_ex hL
      refine j_iald (shf_12_45 sh_193) (ib_in g6) dX12_part_138 ?_
      refine j_iload 4 dX12_part_139 rfl ?_
      obtain ⟨q7, hq7, hL⟩ := bnd_ex hL
      refine j_callVl (c_X12_spread G (hia h5 227 (cl v1)) v5 h5 _ hq7) cv_RX12_393 rfl sh_193 (by decide) rfl (by omega) rfl rfl (Nat.le_of_ble_eq_true rfl) dX12_part_141 (by decide) ?_
      refine j_ladd dX12_part_144 ?_
      obtain ⟨q8, hq8, hL⟩ := bnd_ex hL
      refine j_callVv (hrec (v1 + 1) v2 (v3 + q7) h5 _ hq8) cv_RX12_401 rfl sh_193 (by decide) rfl (by omega) rfl rfl (Nat.le_of_ble_eq_true rfl) dX12_part_145 (by decide) ?_
      refine j_iinc (lv' := [(5, .int (v5 + 1)), (0, .ref (ad G 193)), (1, .int v1), (2, .int v2), (3, .long v3)]) 4 dX12_part_148 rfl rfl (by decide) rfl ?_
      refine j_goto 101 dX12_part_151 (by decide) ?_
      refine j_sub [1, 2, 3, 4, 0] rfl ?_
      exact ih (v5 + 1) q8 r hL kE

set_option maxRecDepth 20000 in
theorem cl_X12_part_64 (G : GG) (K : KQ) (rec : Int32 → Int32 → Int64 → AH → Option (AH)) (k0 : Nat) (hrec : ∀ (v1 v2 : Int32) (v3 : Int64) (h r : AH), rec v1 v2 v3 h = some r → SpV G (k0 + 1) mX12_part [.ref (ad G 193), .int v1, .int v2, .long v3] h r) (v2 : Int32)  : ∀ (n : Nat) (v7 : Int32) (h : AH) (r : AH), f_X12_part_l64 v2 n v7 h = some r → J G mX12_part (k0 + 2) 0 0 K 90 [] [] r → J G mX12_part (k0 + 2) 0 0 K 64 [(0, .ref (ad G 193)), (2, .int v2), (7, .int v7)] [] h := by
  intro n
  induction n with
  | zero => intro v7 h r hL; cases hL
  | succ n ih =>
    intro v7 h r hL kE
    unfold f_X12_part_l64 at hL
    refine j_iload 2 dX12_part_64 rfl ?_
    refine j_iload_n 1 dX12_part_66 rfl ?_
    refine j_icmp_gt 90 dX12_part_67 (by decide) (fun z16 => ?_) (fun z16 => ?_)
    · replace hL := (if_pos z16).symm.trans hL
      cases hL
      refine j_sub [] rfl ?_
      exact kE 
    · replace hL := (if_neg z16).symm.trans hL
      refine j_aload_n 0 dX12_part_70 rfl ?_
      refine jg_RX12_131 rfl sh_193 dX12_part_71 ?_
      refine j_iload 2 dX12_part_74 rfl ?_
      refine j_aload_n 0 dX12_part_76 rfl ?_
      refine jg_RX12_128 rfl sh_193 dX12_part_77 ?_
      refine j_iload 2 dX12_part_80 rfl ?_
      obtain ⟨g17, hL⟩ := gd_ex hL
      refine j_iald (shf_12_45 sh_193) (ib_in g17) dX12_part_82 ?_
      obtain ⟨g18, hL⟩ := gd_ex hL
      refine j_iast (shf_12_46 sh_193) (ib_in g18) dX12_part_83 ?_
      obtain ⟨h19, eh19, hL⟩ := lt_ex hL
      refine j_heap eh19 ?_
      refine j_iinc (lv' := [(7, .int (v7 + 1)), (0, .ref (ad G 193)), (2, .int v2)]) 2 dX12_part_84 rfl rfl (by decide) rfl ?_
      refine j_goto 64 dX12_part_87 (by decide) ?_
      refine j_sub [1, 2, 0] rfl ?_
      exact ih (v7 + 1) h19 r hL kE

set_option maxRecDepth 20000 in
theorem c_X12_part (G : GG) : ∀ (k0 : Nat) (v1 v2 : Int32) (v3 : Int64) (h r : AH), f_X12_part k0 v1 v2 v3 h = some r → SpV G (k0 + 1) mX12_part [.ref (ad G 193), .int v1, .int v2, .long v3] h r := by
  intro k0
  induction k0 with
  | zero => intro v1 v2 v3 h r hL; cases hL
  | succ k0 hrec =>
    intro v1 v2 v3 h r hL
    refine sp_v pf_X12_part (Nat.le_of_ble_eq_true rfl) ?_
    show J G mX12_part (k0 + 2) 0 0 (KMv G r) 0 [(0, .ref (ad G 193)), (1, .int v1), (2, .int v2), (3, .long v3)] [] h
    obtain ⟨K, hK⟩ : ∃ K, K = KMv G r := ⟨_, rfl⟩
    rw [← hK]
    unfold f_X12_part at hL
    refine j_iload_n 1 dX12_part_0 rfl ?_
    refine j_iload_n 2 dX12_part_1 rfl ?_
    refine j_iconst 1 dX12_part_2 (by decide) ?_
    refine j_isub dX12_part_3 ?_
    refine j_icmp_ne 91 dX12_part_4 (by decide) (fun z1 => ?_) (fun z1 => ?_)
    · replace hL := (if_neg z1).symm.trans hL
      refine j_aload_n 0 dX12_part_91 rfl ?_
      refine jg_RX12_128 rfl sh_193 dX12_part_92 ?_
      refine j_iload_n 1 dX12_part_95 rfl ?_
      obtain ⟨g2, hL⟩ := gd_ex hL
      refine j_iald (shf_12_45 sh_193) (ib_in g2) dX12_part_96 ?_
      refine j_iconst 1 dX12_part_97 (by decide) ?_
      refine j_iadd dX12_part_98 ?_
      refine j_istore (lv' := [(5, .int ((hia h 227 (cl v1)) + 1)), (0, .ref (ad G 193)), (1, .int v1), (2, .int v2), (3, .long v3)]) dX12_part_99 (by decide) rfl ?_
      obtain ⟨q9, hq9, hL⟩ := bnd_ex hL
      refine j_sub [1, 2, 3, 4, 0] rfl ?_
      refine cl_X12_part_101 G K (f_X12_part k0) k0 hrec v1 v2 v3 FU ((hia h 227 (cl v1)) + 1) h q9 hq9 ?_
      cases hL
      exact j_retv dX12_part_154 rfl hK
    · replace hL := (if_pos z1).symm.trans hL
      refine j_aload_n 0 dX12_part_7 rfl ?_
      refine jg_RX12_128 rfl sh_193 dX12_part_8 ?_
      refine j_iload_n 2 dX12_part_11 rfl ?_
      refine j_aload_n 0 dX12_part_12 rfl ?_
      refine jg_RX12_388 rfl sh_193 dX12_part_13 ?_
      obtain ⟨g10, hL⟩ := gd_ex hL
      refine j_iast (shf_12_45 sh_193) (ib_in g10) dX12_part_16 ?_
      obtain ⟨h11, eh11, hL⟩ := lt_ex hL
      refine j_heap eh11 ?_
      refine j_lload_n 3 dX12_part_17 rfl ?_
      refine j_aload_n 0 dX12_part_18 rfl ?_
      refine j_aload_n 0 dX12_part_19 rfl ?_
      refine jg_RX12_128 rfl sh_193 dX12_part_20 ?_
      refine j_iload_n 1 dX12_part_23 rfl ?_
      obtain ⟨g12, hL⟩ := gd_ex hL
      refine j_iald (shf_12_45 sh_193) (ib_in g12) dX12_part_24 ?_
      refine j_aload_n 0 dX12_part_25 rfl ?_
      refine jg_RX12_388 rfl sh_193 dX12_part_26 ?_
      obtain ⟨q13, hq13, hL⟩ := bnd_ex hL
      refine j_callVl (c_X12_spread G (hia h11 227 (cl v1)) (hfi h11 193 47) h11 _ hq13) cv_RX12_393 rfl sh_193 (by decide) rfl (by omega) rfl rfl (Nat.le_of_ble_eq_true rfl) dX12_part_29 (by decide) ?_
      refine j_ladd dX12_part_32 ?_
      refine j_lstore (lv' := [(5, .long (v3 + q13)), (0, .ref (ad G 193)), (1, .int v1), (2, .int v2), (3, .long v3)]) dX12_part_33 (by decide) rfl ?_
      refine j_aload_n 1 dX12_part_35 rfl ?_
      refine jg_RX12_397 rfl sh_193 dX12_part_36 ?_
      refine j_lconst 0 dX12_part_39 (by decide) ?_
      refine j_lcmp dX12_part_40 ?_
      refine j_if_lt 55 dX12_part_41 (by decide) (fun z14 => ?_) (fun z14 => ?_)
      · replace hL := (if_pos z14).symm.trans hL
        refine j_aload_n 1 dX12_part_55 rfl ?_
        refine j_lload 0 dX12_part_56 rfl ?_
        refine jp_RX12_397 rfl sh_193 dX12_part_58 ?_
        obtain ⟨h15, eh15, hL⟩ := lt_ex hL
        refine j_heap eh15 ?_
        refine j_iconst 0 dX12_part_61 (by decide) ?_
        refine j_istore (lv' := [(7, .int 0), (5, .long (v3 + q13)), (0, .ref (ad G 193)), (1, .int v1), (2, .int v2), (3, .long v3)]) dX12_part_62 (by decide) rfl ?_
        obtain ⟨q20, hq20, hL⟩ := bnd_ex hL
        refine j_sub [2, 4, 0] rfl ?_
        refine cl_X12_part_64 G K (f_X12_part k0) k0 hrec v2 FU 0 h15 q20 hq20 ?_
        cases hL
        exact j_retv dX12_part_90 rfl hK
      · replace hL := (if_neg z14).symm.trans hL
        refine j_lload 0 dX12_part_44 rfl ?_
        refine j_aload_n 1 dX12_part_46 rfl ?_
        refine jg_RX12_397 rfl sh_193 dX12_part_47 ?_
        refine j_lcmp dX12_part_50 ?_
        refine j_if_lt 55 dX12_part_51 (by decide) (fun z21 => ?_) (fun z21 => ?_)
        · replace hL := (if_pos z21).symm.trans hL
          refine j_aload_n 1 dX12_part_55 rfl ?_
          refine j_lload 0 dX12_part_56 rfl ?_
          refine jp_RX12_397 rfl sh_193 dX12_part_58 ?_
          obtain ⟨h22, eh22, hL⟩ := lt_ex hL
          refine j_heap eh22 ?_
          refine j_iconst 0 dX12_part_61 (by decide) ?_
          refine j_istore (lv' := [(7, .int 0), (5, .long (v3 + q13)), (0, .ref (ad G 193)), (1, .int v1), (2, .int v2), (3, .long v3)]) dX12_part_62 (by decide) rfl ?_
          obtain ⟨q23, hq23, hL⟩ := bnd_ex hL
          refine j_sub [2, 4, 0] rfl ?_
          refine cl_X12_part_64 G K (f_X12_part k0) k0 hrec v2 FU 0 h22 q23 hq23 ?_
          cases hL
          exact j_retv dX12_part_90 rfl hK
        · replace hL := (if_neg z21).symm.trans hL
          cases hL
          exact j_retv dX12_part_54 rfl hK

def f_X12_tellHumps (v1 : Int32) (v2 : Int32) (h : AH) : Option (Bool × AH) := bnd (f_X12_isAsked v1 h) (fun q1 => if q1 = true then bnd (f_X12_tellLights v1 h) (fun q3 => if (f_X12_isIn v2 1 (f_J9_min_7cf53 4 (hfi q3 193 47))) = true then lt (sfl q3 193 48 (-1)) (fun h5 => gd (ib 0 5 = true) (lt (sia h5 227 (cl 0) 0) (fun h7 => bnd (f_X12_part 6 0 v2 0 h7) (fun q8 => some (true, q8))))) else some (false, q3)) else some (false, h))
set_option maxRecDepth 20000 in
theorem c_X12_tellHumps (G : GG) (v1 : Int32) (v2 : Int32) (h : AH) (r : Bool × AH) (hL : f_X12_tellHumps v1 v2 h = some r) : SpI G 9 mX12_tellHumps [.ref (ad G 193), .int v1, .int v2] h (bI r.1) r.2 := by
  refine sp_i pf_X12_tellHumps (Nat.le_of_ble_eq_true rfl) ?_
  show J G mX12_tellHumps 9 0 0 (KMi G (bI r.1) r.2) 0 [(0, .ref (ad G 193)), (1, .int v1), (2, .int v2)] [] h
  obtain ⟨K, hK⟩ : ∃ K, K = KMi G (bI r.1) r.2 := ⟨_, rfl⟩
  rw [← hK]
  unfold f_X12_tellHumps at hL
  refine j_aload_n 0 dX12_tellHumps_0 rfl ?_
  refine j_iload_n 1 dX12_tellHumps_1 rfl ?_
  obtain ⟨q1, hq1, hL⟩ := bnd_ex hL
  refine j_callVi (c_X12_isAsked G v1 h _ hq1) cv_RX12_371 rfl sh_193 (by decide) rfl (by decide) rfl rfl (Nat.le_of_ble_eq_true rfl) dX12_tellHumps_2 (by decide) ?_
  refine j_ifz_ne 10 dX12_tellHumps_5 (by decide) (fun z2 => ?_) (fun z2 => ?_)
  · replace hL := (if_pos z2).symm.trans hL
    refine j_aload_n 0 dX12_tellHumps_10 rfl ?_
    refine j_iload_n 1 dX12_tellHumps_11 rfl ?_
    obtain ⟨q3, hq3, hL⟩ := bnd_ex hL
    refine j_callVv (c_X12_tellLights G v1 h _ hq3) cv_RX12_405 rfl sh_193 (by decide) rfl (by decide) rfl rfl (Nat.le_of_ble_eq_true rfl) dX12_tellHumps_12 (by decide) ?_
    refine j_iload_n 2 dX12_tellHumps_15 rfl ?_
    refine j_iconst 1 dX12_tellHumps_16 (by decide) ?_
    refine j_iconst 4 dX12_tellHumps_17 (by decide) ?_
    refine j_aload_n 0 dX12_tellHumps_18 rfl ?_
    refine jg_RX12_388 rfl sh_193 dX12_tellHumps_19 ?_
    refine j_callSi (c_J9_min_7cf53 G 4 (hfi q3 193 47) q3) cv_RX12_198 rfl (by decide) rfl rfl (Nat.le_of_ble_eq_true rfl) dX12_tellHumps_22 (by decide) ?_
    refine j_callSi (c_X12_isIn G v2 1 (f_J9_min_7cf53 4 (hfi q3 193 47)) q3) cv_RX12_161 rfl (by decide) rfl rfl (Nat.le_of_ble_eq_true rfl) dX12_tellHumps_25 (by decide) ?_
    refine j_ifz_ne 33 dX12_tellHumps_28 (by decide) (fun z4 => ?_) (fun z4 => ?_)
    · replace hL := (if_pos z4).symm.trans hL
      refine j_aload_n 0 dX12_tellHumps_33 rfl ?_
      refine j_ldc2 rfl kk_RX12_408 dX12_tellHumps_34 ?_
      refine jp_RX12_397 rfl sh_193 dX12_tellHumps_37 ?_
      obtain ⟨h5, eh5, hL⟩ := lt_ex hL
      refine j_heap eh5 ?_
      refine j_aload_n 0 dX12_tellHumps_40 rfl ?_
      refine jg_RX12_128 rfl sh_193 dX12_tellHumps_41 ?_
      refine j_iconst 0 dX12_tellHumps_44 (by decide) ?_
      refine j_iconst 0 dX12_tellHumps_45 (by decide) ?_
      obtain ⟨g6, hL⟩ := gd_ex hL
      refine j_iast (shf_12_45 sh_193) (ib_in g6) dX12_tellHumps_46 ?_
      obtain ⟨h7, eh7, hL⟩ := lt_ex hL
      refine j_heap eh7 ?_
      refine j_aload_n 0 dX12_tellHumps_47 rfl ?_
      refine j_iconst 0 dX12_tellHumps_48 (by decide) ?_
      refine j_iload_n 2 dX12_tellHumps_49 rfl ?_
      refine j_lconst 0 dX12_tellHumps_50 (by decide) ?_
      obtain ⟨q8, hq8, hL⟩ := bnd_ex hL
      refine j_callVv (c_X12_part G 6 0 v2 0 h7 _ hq8) cv_RX12_401 rfl sh_193 (by decide) rfl (by decide) rfl rfl (Nat.le_of_ble_eq_true rfl) dX12_tellHumps_51 (by decide) ?_
      refine j_iconst 1 dX12_tellHumps_54 (by decide) ?_
      cases hL
      exact j_ret1 dX12_tellHumps_55 rfl hK
    · replace hL := (if_neg z4).symm.trans hL
      refine j_iconst 0 dX12_tellHumps_31 (by decide) ?_
      cases hL
      exact j_ret0 dX12_tellHumps_32 rfl hK
  · replace hL := (if_neg z2).symm.trans hL
    refine j_iconst 0 dX12_tellHumps_8 (by decide) ?_
    cases hL
    exact j_ret0 dX12_tellHumps_9 rfl hK

def f_X12_humps (v1 : Int32) (v2 : Int32) (h : AH) : Option (Int64 × AH) := lt (sfi h 193 2 0) (fun h1 => bnd (f_X12_tellHumps v1 v2 h1) (fun q2 => if q2.1 = true then some (hfl q2.2 193 48, q2.2) else lt (sfi q2.2 193 2 1) (fun h4 => some (0, h4))))
set_option maxRecDepth 20000 in
theorem c_X12_humps (G : GG) (v1 : Int32) (v2 : Int32) (h : AH) (r : Int64 × AH) (hL : f_X12_humps v1 v2 h = some r) : SpL G 10 mX12_humps [.ref (ad G 193), .int v1, .int v2] h r.1 r.2 := by
  refine sp_l pf_X12_humps (Nat.le_of_ble_eq_true rfl) ?_
  show J G mX12_humps 10 0 0 (KMl G r.1 r.2) 0 [(0, .ref (ad G 193)), (1, .int v1), (2, .int v2)] [] h
  obtain ⟨K, hK⟩ : ∃ K, K = KMl G r.1 r.2 := ⟨_, rfl⟩
  rw [← hK]
  unfold f_X12_humps at hL
  refine j_aload_n 0 dX12_humps_0 rfl ?_
  refine j_iconst 0 dX12_humps_1 (by decide) ?_
  refine jp_RX12_158 rfl sh_193 dX12_humps_2 ?_
  obtain ⟨h1, eh1, hL⟩ := lt_ex hL
  refine j_heap eh1 ?_
  refine j_aload_n 0 dX12_humps_5 rfl ?_
  refine j_iload_n 1 dX12_humps_6 rfl ?_
  refine j_iload_n 2 dX12_humps_7 rfl ?_
  obtain ⟨q2, hq2, hL⟩ := bnd_ex hL
  refine j_callVi (c_X12_tellHumps G v1 v2 h1 _ hq2) cv_RX12_410 rfl sh_193 (by decide) rfl (by decide) rfl rfl (Nat.le_of_ble_eq_true rfl) dX12_humps_8 (by decide) ?_
  refine j_ifz_ne 21 dX12_humps_11 (by decide) (fun z3 => ?_) (fun z3 => ?_)
  · replace hL := (if_pos z3).symm.trans hL
    refine j_aload_n 0 dX12_humps_21 rfl ?_
    refine jg_RX12_397 rfl sh_193 dX12_humps_22 ?_
    cases hL
    exact j_retl dX12_humps_25 rfl hK
  · replace hL := (if_neg z3).symm.trans hL
    refine j_aload_n 0 dX12_humps_14 rfl ?_
    refine j_iconst 1 dX12_humps_15 (by decide) ?_
    refine jp_RX12_158 rfl sh_193 dX12_humps_16 ?_
    obtain ⟨h4, eh4, hL⟩ := lt_ex hL
    refine j_heap eh4 ?_
    refine j_lconst 0 dX12_humps_19 (by decide) ?_
    cases hL
    exact j_retl dX12_humps_20 rfl hK

