def f_X11_fitted (v1 : Int32) (v2 : Int32) (v3 : Int32) (h : AH) : Option (XR Int32) := bnd (f_X11_knownAt v1 33 h) (fun q1 => Sum.elim (fun xq1 => gd (SH xq1.1 = (0, 0)) (bnd (f_X11_wayAt v2 xq1.2) (fun q3 => Sum.elim (fun xq3 => gd (SH xq3.1 = (10, 0)) (if v3 = (-1) then bnd (f_X2_search_n 57 xq1.1 38 40 xq3.1 xq3.2) (fun q9 => some (.inl (q9.1, q9.2))) else bnd (f_X11_wayAt v3 xq3.2) (fun q6 => Sum.elim (fun xq6 => gd (SH xq6.1 = (10, 0)) (bnd (f_X2_search 57 xq1.1 38 40 xq3.1 xq6.1 xq6.2) (fun q8 => some (.inl (q8.1, q8.2))))) (fun xq6 => some (.inr xq6)) q6))) (fun xq3 => some (.inr xq3)) q3))) (fun xq1 => some (.inr xq1)) q1)
set_option maxRecDepth 20000 in
theorem c_X11_fitted (G : GG) (v1 : Int32) (v2 : Int32) (v3 : Int32) (h : AH) (r : XR Int32) (hL : f_X11_fitted v1 v2 v3 h = some r) : SpXg G 9 4 mX11_fitted [.ref (ad G 0), .int v1, .int v2, .int v3] h vmI r := by
  refine wsx_of pn_RX11 (Nat.le_of_ble_eq_true rfl) ?_
  show J G mX11_fitted 9 4 0 (KXg G 4 vmI r) 0 [(0, .ref (ad G 0)), (1, .int v1), (2, .int v2), (3, .int v3)] [] h
  obtain ⟨K, hK⟩ : ∃ K, K = KXg G 4 vmI r := ⟨_, rfl⟩
  rw [← hK]
  unfold f_X11_fitted at hL
  refine j_aload_n 0 dX11_fitted_0 rfl ?_
  refine j_iload_n 1 dX11_fitted_1 rfl ?_
  refine j_aload_n 0 dX11_fitted_2 rfl ?_
  refine jg_RX11_65 rfl sh_0 dX11_fitted_3 ?_
  obtain ⟨q1, hq1, hL⟩ := bnd_ex hL
  refine j_callVx (vm2 := vmI) (c_X11_knownAt G v1 33 (shf_11_11 sh_0) h _ hq1) cv_RX11_292 rfl sh_0 (by decide) rfl (by decide) rfl rfl (Nat.le_of_ble_eq_true rfl) dX11_fitted_6 (by decide) kc_yX11_fitted (fun xq1 eq1 => ?_) (fun xq1 eq1 => ?_)
  rotate_left
  · subst eq1
    replace hL : some (Sum.inr xq1) = some r := hL
    cases hL
    exact hK
  subst eq1
  refine j_eq (st' := [.ref (ad G xq1.1)]) rfl rfl ?_
  obtain ⟨g2, hL⟩ := gd_ex hL
  refine j_astore (lv' := [(4, .ref (ad G xq1.1)), (0, .ref (ad G 0)), (1, .int v1), (2, .int v2), (3, .int v3)]) dX11_fitted_9 (by decide) rfl ?_
  refine j_aload_n 1 dX11_fitted_11 rfl ?_
  refine j_iload_n 3 dX11_fitted_12 rfl ?_
  obtain ⟨q3, hq3, hL⟩ := bnd_ex hL
  refine j_callVx (vm2 := vmI) (c_X11_wayAt G v2 xq1.2 _ hq3) cv_RX11_140 rfl sh_0 (by decide) rfl (by decide) rfl rfl (Nat.le_of_ble_eq_true rfl) dX11_fitted_13 (by decide) kc_yX11_fitted (fun xq3 eq3 => ?_) (fun xq3 eq3 => ?_)
  rotate_left
  · subst eq3
    replace hL : some (Sum.inr xq3) = some r := hL
    cases hL
    exact hK
  subst eq3
  refine j_eq (st' := [.ref (ad G xq3.1)]) rfl rfl ?_
  obtain ⟨g4, hL⟩ := gd_ex hL
  refine j_astore (lv' := [(5, .ref (ad G xq3.1)), (4, .ref (ad G xq1.1)), (0, .ref (ad G 0)), (1, .int v1), (2, .int v2), (3, .int v3)]) dX11_fitted_16 (by decide) rfl ?_
  refine j_iload_n 5 dX11_fitted_18 rfl ?_
  refine j_iconst (-1) dX11_fitted_19 (by decide) ?_
  refine j_icmp_ne 27 dX11_fitted_20 (by decide) (fun z5 => ?_) (fun z5 => ?_)
  · replace hL := (if_neg z5).symm.trans hL
    refine j_aload_n 2 dX11_fitted_27 rfl ?_
    refine j_iload_n 5 dX11_fitted_28 rfl ?_
    obtain ⟨q6, hq6, hL⟩ := bnd_ex hL
    refine j_callVx (vm2 := vmI) (c_X11_wayAt G v3 xq3.2 _ hq6) cv_RX11_140 rfl sh_0 (by decide) rfl (by decide) rfl rfl (Nat.le_of_ble_eq_true rfl) dX11_fitted_29 (by decide) kc_yX11_fitted (fun xq6 eq6 => ?_) (fun xq6 eq6 => ?_)
    rotate_left
    · subst eq6
      replace hL : some (Sum.inr xq6) = some r := hL
      cases hL
      exact hK
    subst eq6
    refine j_eq (st' := [.ref (ad G xq6.1)]) rfl rfl ?_
    obtain ⟨g7, hL⟩ := gd_ex hL
    refine j_astore (lv' := [(6, .ref (ad G xq6.1)), (5, .ref (ad G xq3.1)), (4, .ref (ad G xq1.1)), (0, .ref (ad G 0)), (1, .int v1), (2, .int v2), (3, .int v3)]) dX11_fitted_32 (by decide) rfl ?_
    refine j_aload_n 3 dX11_fitted_34 rfl ?_
    refine jg_RX11_89 rfl sh_0 dX11_fitted_35 ?_
    refine j_aload 2 dX11_fitted_38 rfl ?_
    refine j_aload_n 3 dX11_fitted_40 rfl ?_
    refine jg_RX11_65 rfl sh_0 dX11_fitted_41 ?_
    refine jg_RX11_286 rfl (shf_11_11 sh_0) dX11_fitted_44 ?_
    refine j_aload 1 dX11_fitted_47 rfl ?_
    refine j_aload 0 dX11_fitted_49 rfl ?_
    obtain ⟨q8, hq8, hL⟩ := bnd_ex hL
    refine j_callVi (c_X2_search G 57 (shf_11_15 sh_0) xq1.1 g2 38 40 (shf_9_4 (shf_11_11 sh_0)) xq3.1 g4 xq6.1 g7 xq6.2 _ hq8) cv_RX11_318 rfl (shf_11_15 sh_0) (by decide) rfl (by decide) rfl rfl (Nat.le_of_ble_eq_true rfl) dX11_fitted_51 (by decide) ?_
    cases hL
    exact j_xreti (by decide) dX11_fitted_54 rfl hK
  · replace hL := (if_pos z5).symm.trans hL
    refine j_null dX11_fitted_23 ?_
    refine j_goto 32 dX11_fitted_24 (by decide) ?_
    refine j_astoreN (lv' := [(6, .null), (5, .ref (ad G xq3.1)), (4, .ref (ad G xq1.1)), (0, .ref (ad G 0)), (1, .int v1), (2, .int v2), (3, .int v3)]) dX11_fitted_32 (by decide) rfl ?_
    refine j_aload_n 3 dX11_fitted_34 rfl ?_
    refine jg_RX11_89 rfl sh_0 dX11_fitted_35 ?_
    refine j_aload 2 dX11_fitted_38 rfl ?_
    refine j_aload_n 3 dX11_fitted_40 rfl ?_
    refine jg_RX11_65 rfl sh_0 dX11_fitted_41 ?_
    refine jg_RX11_286 rfl (shf_11_11 sh_0) dX11_fitted_44 ?_
    refine j_aload 1 dX11_fitted_47 rfl ?_
    refine j_aloadN 0 dX11_fitted_49 rfl ?_
    obtain ⟨q9, hq9, hL⟩ := bnd_ex hL
    refine j_callVi (c_X2_search_n G 57 (shf_11_15 sh_0) xq1.1 g2 38 40 (shf_9_4 (shf_11_11 sh_0)) xq3.1 g4 xq3.2 _ hq9) cv_RX11_318 rfl (shf_11_15 sh_0) (by decide) rfl (by decide) rfl rfl (Nat.le_of_ble_eq_true rfl) dX11_fitted_51 (by decide) ?_
    cases hL
    exact j_xreti (by decide) dX11_fitted_54 rfl hK

def f_X11_years (v1 : Int32) (h : AH) : Option (XR Int32) := if (hfi h 57 0) = 0 then some (.inr (0, h)) else if v1 < 0 then some (.inr (0, h)) else if v1 ≤ 1 then if v1 = 0 then some (.inl (hfi h 57 1, h)) else some (.inl (hfi h 57 2, h)) else some (.inr (0, h))
set_option maxRecDepth 20000 in
theorem c_X11_years (G : GG) (v1 : Int32) (h : AH) (r : XR Int32) (hL : f_X11_years v1 h = some r) : SpXg G 7 1 mX11_years [.ref (ad G 0), .int v1] h vmI r := by
  refine wsx_of pn_RX11 (Nat.le_of_ble_eq_true rfl) ?_
  show J G mX11_years 7 1 0 (KXg G 1 vmI r) 0 [(0, .ref (ad G 0)), (1, .int v1)] [] h
  obtain ⟨K, hK⟩ : ∃ K, K = KXg G 1 vmI r := ⟨_, rfl⟩
  rw [← hK]
  unfold f_X11_years at hL
  refine j_aload_n 0 dX11_years_0 rfl ?_
  refine jg_RX11_89 rfl sh_0 dX11_years_1 ?_
  refine jg_RX11_322 rfl (shf_11_15 sh_0) dX11_years_4 ?_
  refine j_if_eq 19 dX11_years_7 (by decide) (fun z1 => ?_) (fun z1 => ?_)
  · replace hL := (if_pos z1).symm.trans hL
    cases hL
    exact j_thrN kc_yX11_years rfl (List.mem_of_getElem? (i := 14) rfl) (by decide) (by decide) (Nat.le_of_ble_eq_true rfl) dX11_years_19 dX11_years_22 dX11_years_23 dX11_years_25 dX11_years_28 hK
  · replace hL := (if_neg z1).symm.trans hL
    refine j_iload_n 1 dX11_years_10 rfl ?_
    refine j_if_lt 19 dX11_years_11 (by decide) (fun z2 => ?_) (fun z2 => ?_)
    · replace hL := (if_pos z2).symm.trans hL
      cases hL
      exact j_thrN kc_yX11_years rfl (List.mem_of_getElem? (i := 14) rfl) (by decide) (by decide) (Nat.le_of_ble_eq_true rfl) dX11_years_19 dX11_years_22 dX11_years_23 dX11_years_25 dX11_years_28 hK
    · replace hL := (if_neg z2).symm.trans hL
      refine j_iload_n 1 dX11_years_14 rfl ?_
      refine j_iconst 1 dX11_years_15 (by decide) ?_
      refine j_icmp_le 29 dX11_years_16 (by decide) (fun z3 => ?_) (fun z3 => ?_)
      · replace hL := (if_pos z3).symm.trans hL
        refine j_iload_n 1 dX11_years_29 rfl ?_
        refine j_if_ne 43 dX11_years_30 (by decide) (fun z4 => ?_) (fun z4 => ?_)
        · replace hL := (if_neg z4).symm.trans hL
          refine j_aload_n 0 dX11_years_43 rfl ?_
          refine jg_RX11_89 rfl sh_0 dX11_years_44 ?_
          refine jg_RX11_329 rfl (shf_11_15 sh_0) dX11_years_47 ?_
          cases hL
          exact j_xreti (by decide) dX11_years_50 rfl hK
        · replace hL := (if_pos z4).symm.trans hL
          refine j_aload_n 0 dX11_years_33 rfl ?_
          refine jg_RX11_89 rfl sh_0 dX11_years_34 ?_
          refine jg_RX11_326 rfl (shf_11_15 sh_0) dX11_years_37 ?_
          refine j_goto 50 dX11_years_40 (by decide) ?_
          cases hL
          exact j_xreti (by decide) dX11_years_50 rfl hK
      · replace hL := (if_neg z3).symm.trans hL
        cases hL
        exact j_thrN kc_yX11_years rfl (List.mem_of_getElem? (i := 14) rfl) (by decide) (by decide) (Nat.le_of_ble_eq_true rfl) dX11_years_19 dX11_years_22 dX11_years_23 dX11_years_25 dX11_years_28 hK

def f_X11_whose (v1 : Int32) (h : AH) : Option (XR Int32) := bnd (f_X11_knownAt v1 33 h) (fun q1 => Sum.elim (fun xq1 => gd (SH xq1.1 = (0, 0)) (bnd (f_X11_ownerBy xq1.1 33 xq1.2) (fun q3 => some (.inl (q3.1, q3.2))))) (fun xq1 => some (.inr xq1)) q1)
set_option maxRecDepth 20000 in
theorem c_X11_whose (G : GG) (v1 : Int32) (h : AH) (r : XR Int32) (hL : f_X11_whose v1 h = some r) : SpXg G 9 2 mX11_whose [.ref (ad G 0), .int v1] h vmI r := by
  refine wsx_of pn_RX11 (Nat.le_of_ble_eq_true rfl) ?_
  show J G mX11_whose 9 2 0 (KXg G 2 vmI r) 0 [(0, .ref (ad G 0)), (1, .int v1)] [] h
  obtain ⟨K, hK⟩ : ∃ K, K = KXg G 2 vmI r := ⟨_, rfl⟩
  rw [← hK]
  unfold f_X11_whose at hL
  refine j_aload_n 0 dX11_whose_0 rfl ?_
  refine j_iload_n 1 dX11_whose_1 rfl ?_
  refine j_aload_n 0 dX11_whose_2 rfl ?_
  refine jg_RX11_65 rfl sh_0 dX11_whose_3 ?_
  obtain ⟨q1, hq1, hL⟩ := bnd_ex hL
  refine j_callVx (vm2 := vmI) (c_X11_knownAt G v1 33 (shf_11_11 sh_0) h _ hq1) cv_RX11_292 rfl sh_0 (by decide) rfl (by decide) rfl rfl (Nat.le_of_ble_eq_true rfl) dX11_whose_6 (by decide) kc_yX11_whose (fun xq1 eq1 => ?_) (fun xq1 eq1 => ?_)
  rotate_left
  · subst eq1
    replace hL : some (Sum.inr xq1) = some r := hL
    cases hL
    exact hK
  subst eq1
  refine j_eq (st' := [.ref (ad G xq1.1)]) rfl rfl ?_
  obtain ⟨g2, hL⟩ := gd_ex hL
  refine j_astore_n (lv' := [(2, .ref (ad G xq1.1)), (0, .ref (ad G 0)), (1, .int v1)]) dX11_whose_9 (by decide) rfl ?_
  refine j_aload_n 1 dX11_whose_10 rfl ?_
  refine j_aload_n 0 dX11_whose_11 rfl ?_
  refine j_aload_n 1 dX11_whose_12 rfl ?_
  refine jg_RX11_65 rfl sh_0 dX11_whose_13 ?_
  obtain ⟨q3, hq3, hL⟩ := bnd_ex hL
  refine j_callVi (c_X11_ownerBy G xq1.1 g2 33 (shf_11_11 sh_0) xq1.2 _ hq3) cv_RX11_332 rfl sh_0 (by decide) rfl (by decide) rfl rfl (Nat.le_of_ble_eq_true rfl) dX11_whose_16 (by decide) ?_
  cases hL
  exact j_xreti (by decide) dX11_whose_19 rfl hK

def f_X11_order (v1 : Int32) (v2 : Int32) (h : AH) : Option (XR Int32) := bnd (f_X11_knownAt v1 33 h) (fun q1 => Sum.elim (fun xq1 => gd (SH xq1.1 = (0, 0)) (gd (SH (hra xq1.2 0 3) = (5, 0)) (bnd (f_X6_fill 60 xq1.1 (hra xq1.2 0 3) xq1.2) (fun q4 => if v2 = 0 then bnd (f_X6_want 60 q4) (fun q10 => some (.inl (q10, q4))) else bnd (f_X6_findMove 60 q4) (fun q6 => if v2 = 1 then some (.inl (hfi q6 60 0, q6)) else (if v2 = 2 then some (.inl (hfi q6 60 1, q6)) else (if v2 = 3 then some (.inl (hfi q6 60 2, q6)) else (some (.inr (0, q6)))))))))) (fun xq1 => some (.inr xq1)) q1)
set_option maxRecDepth 20000 in
theorem c_X11_order (G : GG) (v1 : Int32) (v2 : Int32) (h : AH) (r : XR Int32) (hL : f_X11_order v1 v2 h = some r) : SpXg G 9 3 mX11_order [.ref (ad G 0), .int v1, .int v2] h vmI r := by
  refine wsx_of pn_RX11 (Nat.le_of_ble_eq_true rfl) ?_
  show J G mX11_order 9 3 0 (KXg G 3 vmI r) 0 [(0, .ref (ad G 0)), (1, .int v1), (2, .int v2)] [] h
  obtain ⟨K, hK⟩ : ∃ K, K = KXg G 3 vmI r := ⟨_, rfl⟩
  rw [← hK]
  unfold f_X11_order at hL
  refine j_aload_n 0 dX11_order_0 rfl ?_
  refine j_iload_n 1 dX11_order_1 rfl ?_
  refine j_aload_n 0 dX11_order_2 rfl ?_
  refine jg_RX11_65 rfl sh_0 dX11_order_3 ?_
  obtain ⟨q1, hq1, hL⟩ := bnd_ex hL
  refine j_callVx (vm2 := vmI) (c_X11_knownAt G v1 33 (shf_11_11 sh_0) h _ hq1) cv_RX11_292 rfl sh_0 (by decide) rfl (by decide) rfl rfl (Nat.le_of_ble_eq_true rfl) dX11_order_6 (by decide) kc_yX11_order (fun xq1 eq1 => ?_) (fun xq1 eq1 => ?_)
  rotate_left
  · subst eq1
    replace hL : some (Sum.inr xq1) = some r := hL
    cases hL
    exact hK
  subst eq1
  refine j_eq (st' := [.ref (ad G xq1.1)]) rfl rfl ?_
  obtain ⟨g2, hL⟩ := gd_ex hL
  refine j_astore_n (lv' := [(3, .ref (ad G xq1.1)), (0, .ref (ad G 0)), (1, .int v1), (2, .int v2)]) dX11_order_9 (by decide) rfl ?_
  refine j_aload_n 1 dX11_order_10 rfl ?_
  refine jg_RX11_96 rfl sh_0 dX11_order_11 ?_
  refine j_aload_n 0 dX11_order_14 rfl ?_
  refine j_aload_n 1 dX11_order_15 rfl ?_
  refine jg_RX11_31 rfl sh_0 dX11_order_16 ?_
  obtain ⟨g3, hL⟩ := gd_ex hL
  obtain ⟨q4, hq4, hL⟩ := bnd_ex hL
  refine j_callVv (c_X6_fill G 60 (shf_11_16 sh_0) xq1.1 g2 (hra xq1.2 0 3) g3 xq1.2 _ hq4) cv_RX11_336 rfl (shf_11_16 sh_0) (by decide) rfl (by decide) rfl rfl (Nat.le_of_ble_eq_true rfl) dX11_order_19 (by decide) ?_
  refine j_iload_n 3 dX11_order_22 rfl ?_
  refine j_if_ne 34 dX11_order_23 (by decide) (fun z5 => ?_) (fun z5 => ?_)
  · replace hL := (if_neg z5).symm.trans hL
    refine j_aload_n 1 dX11_order_34 rfl ?_
    refine jg_RX11_96 rfl sh_0 dX11_order_35 ?_
    obtain ⟨q6, hq6, hL⟩ := bnd_ex hL
    refine j_callVv (c_X6_findMove G 60 (shf_11_16 sh_0) q4 _ hq6) cv_RX11_342 rfl (shf_11_16 sh_0) (by decide) rfl (by decide) rfl rfl (Nat.le_of_ble_eq_true rfl) dX11_order_38 (by decide) ?_
    refine j_iload_n 3 dX11_order_41 rfl ?_
    by_cases z7 : v2 = 1
    · replace hL := (if_pos z7).symm.trans hL
      refine j_swIn 68 dX11_order_42 (by rw [z7]; decide) (by rw [z7]; decide) (by rw [z7]; rfl) (by decide) ?_
      refine j_aload_n 1 dX11_order_68 rfl ?_
      refine jg_RX11_96 rfl sh_0 dX11_order_69 ?_
      refine jg_RX11_345 rfl (shf_11_16 sh_0) dX11_order_72 ?_
      cases hL
      exact j_xreti (by decide) dX11_order_75 rfl hK
    · replace hL := (if_neg z7).symm.trans hL
      by_cases z8 : v2 = 2
      · replace hL := (if_pos z8).symm.trans hL
        refine j_swIn 76 dX11_order_42 (by rw [z8]; decide) (by rw [z8]; decide) (by rw [z8]; rfl) (by decide) ?_
        refine j_aload_n 1 dX11_order_76 rfl ?_
        refine jg_RX11_96 rfl sh_0 dX11_order_77 ?_
        refine jg_RX11_348 rfl (shf_11_16 sh_0) dX11_order_80 ?_
        cases hL
        exact j_xreti (by decide) dX11_order_83 rfl hK
      · replace hL := (if_neg z8).symm.trans hL
        by_cases z9 : v2 = 3
        · replace hL := (if_pos z9).symm.trans hL
          refine j_swIn 84 dX11_order_42 (by rw [z9]; decide) (by rw [z9]; decide) (by rw [z9]; rfl) (by decide) ?_
          refine j_aload_n 1 dX11_order_84 rfl ?_
          refine jg_RX11_96 rfl sh_0 dX11_order_85 ?_
          refine jg_RX11_351 rfl (shf_11_16 sh_0) dX11_order_88 ?_
          cases hL
          exact j_xreti (by decide) dX11_order_91 rfl hK
        · replace hL := (if_neg z9).symm.trans hL
          refine j_swOut 92 dX11_order_42 (sw_out (by have wz7 := sw_ne z7 (k := 1) (by decide); have wz8 := sw_ne z8 (k := 2) (by decide); have wz9 := sw_ne z9 (k := 3) (by decide); omega)) (by decide) ?_
          cases hL
          exact j_thrN kc_yX11_order rfl (List.mem_of_getElem? (i := 14) rfl) (by decide) (by decide) (Nat.le_of_ble_eq_true rfl) dX11_order_92 dX11_order_95 dX11_order_96 dX11_order_98 dX11_order_101 hK
  · replace hL := (if_pos z5).symm.trans hL
    refine j_aload_n 1 dX11_order_26 rfl ?_
    refine jg_RX11_96 rfl sh_0 dX11_order_27 ?_
    obtain ⟨q10, hq10, hL⟩ := bnd_ex hL
    refine j_callVi (c_X6_want G 60 (shf_11_16 sh_0) q4 _ hq10) cv_RX11_339 rfl (shf_11_16 sh_0) (by decide) rfl (by decide) rfl rfl (Nat.le_of_ble_eq_true rfl) dX11_order_30 (by decide) ?_
    cases hL
    exact j_xreti (by decide) dX11_order_33 rfl hK

def f_X11_falls_l16 (v2 : Int32) (a3 : Nat) (h : AH) : Nat → Int32 → Int32 → Option ((Int32) ⊕ (Int32 × AH))
  | 0, _, _ => none
  | n + 1, v4, v5 => if (hfi h a3 0) ≤ (v5 + 1) then some (.inl v4) else bnd (f_X9_opensAt 33 a3 v5 h) (fun q4 => if q4 = true then if v4 = v2 then some (.inr (v5, h)) else f_X11_falls_l16 v2 a3 h n (v4 + 1) (v5 + 1) else f_X11_falls_l16 v2 a3 h n v4 (v5 + 1))
def f_X11_falls (v1 : Int32) (v2 : Int32) (h : AH) : Option (XR Int32) := bnd (f_X11_knownAt v1 33 h) (fun q1 => Sum.elim (fun xq1 => gd (SH xq1.1 = (0, 0)) (bnd (f_X11_falls_l16 v2 xq1.1 xq1.2 FU 0 0) (fun q7 => Sum.elim (fun xq7 => if v2 = (-1) then some (.inl (xq7, xq1.2)) else some (.inr (0, xq1.2))) (fun xq7 => some (.inl xq7)) q7))) (fun xq1 => some (.inr xq1)) q1)
set_option maxRecDepth 20000 in
theorem cl_X11_falls_16 (G : GG) (K : KQ) (v2 : Int32) (a3 : Nat) (s3 : SH a3 = (0, 0)) : ∀ (n : Nat) (v4 : Int32) (v5 : Int32) (h : AH) (r : (Int32) ⊕ (Int32 × AH)), f_X11_falls_l16 v2 a3 h n v4 v5 = some r → (∀ x, r = .inl x → J G mX11_falls 9 3 2 K 58 [(2, .int v2), (4, .int x)] [] h) → (∀ x, r = .inr x → K = KXg G 3 vmI (.inl x)) → J G mX11_falls 9 3 2 K 16 [(0, .ref (ad G 0)), (2, .int v2), (3, .ref (ad G a3)), (4, .int v4), (5, .int v5)] [] h := by
  intro n
  induction n with
  | zero => intro v4 v5 h r hL; cases hL
  | succ n ih =>
    intro v4 v5 h r hL kE kR
    unfold f_X11_falls_l16 at hL
    refine j_iload 4 dX11_falls_16 rfl ?_
    refine j_iconst 1 dX11_falls_18 (by decide) ?_
    refine j_iadd dX11_falls_19 ?_
    refine j_aload_n 2 dX11_falls_20 rfl ?_
    refine jg_RX11_164 rfl s3 dX11_falls_21 ?_
    refine j_icmp_ge 58 dX11_falls_24 (by decide) (fun z3 => ?_) (fun z3 => ?_)
    · replace hL := (if_pos z3).symm.trans hL
      cases hL
      refine j_sub [1, 3] rfl ?_
      exact kE _ rfl
    · replace hL := (if_neg z3).symm.trans hL
      refine j_aload_n 0 dX11_falls_27 rfl ?_
      refine jg_RX11_65 rfl sh_0 dX11_falls_28 ?_
      refine j_aload_n 2 dX11_falls_31 rfl ?_
      refine j_iload 4 dX11_falls_32 rfl ?_
      obtain ⟨q4, hq4, hL⟩ := bnd_ex hL
      refine j_callVi (c_X9_opensAt G 33 (shf_11_11 sh_0) a3 s3 v5 h _ hq4) cv_RX11_354 rfl (shf_11_11 sh_0) (by decide) rfl (by decide) rfl rfl (Nat.le_of_ble_eq_true rfl) dX11_falls_34 (by decide) ?_
      refine j_ifz_eq 52 dX11_falls_37 (by decide) (fun z5 => ?_) (fun z5 => ?_)
      · replace hL := (if_neg z5).symm.trans hL
        refine j_iinc (lv' := [(5, .int (v5 + 1)), (0, .ref (ad G 0)), (2, .int v2), (3, .ref (ad G a3)), (4, .int v4)]) 4 dX11_falls_52 rfl rfl (by decide) rfl ?_
        refine j_goto 16 dX11_falls_55 (by decide) ?_
        refine j_sub [1, 2, 3, 4, 0] rfl ?_
        exact ih v4 (v5 + 1) h r hL kE kR
      · replace hL := (if_pos z5).symm.trans hL
        refine j_iload 3 dX11_falls_40 rfl ?_
        refine j_iload_n 1 dX11_falls_42 rfl ?_
        refine j_icmp_ne 49 dX11_falls_43 (by decide) (fun z6 => ?_) (fun z6 => ?_)
        · replace hL := (if_neg z6).symm.trans hL
          refine j_iinc (lv' := [(4, .int (v4 + 1)), (0, .ref (ad G 0)), (2, .int v2), (3, .ref (ad G a3)), (5, .int v5)]) 3 dX11_falls_49 rfl rfl (by decide) rfl ?_
          refine j_iinc (lv' := [(5, .int (v5 + 1)), (4, .int (v4 + 1)), (0, .ref (ad G 0)), (2, .int v2), (3, .ref (ad G a3))]) 4 dX11_falls_52 rfl rfl (by decide) rfl ?_
          refine j_goto 16 dX11_falls_55 (by decide) ?_
          refine j_sub [2, 3, 4, 1, 0] rfl ?_
          exact ih (v4 + 1) (v5 + 1) h r hL kE kR
        · replace hL := (if_pos z6).symm.trans hL
          refine j_iload 4 dX11_falls_46 rfl ?_
          cases hL
          exact j_xreti (by decide) dX11_falls_48 rfl (kR _ rfl)

set_option maxRecDepth 20000 in
theorem c_X11_falls (G : GG) (v1 : Int32) (v2 : Int32) (h : AH) (r : XR Int32) (hL : f_X11_falls v1 v2 h = some r) : SpXg G 9 3 mX11_falls [.ref (ad G 0), .int v1, .int v2] h vmI r := by
  refine wsx_of pn_RX11 (Nat.le_of_ble_eq_true rfl) ?_
  show J G mX11_falls 9 3 0 (KXg G 3 vmI r) 0 [(0, .ref (ad G 0)), (1, .int v1), (2, .int v2)] [] h
  obtain ⟨K, hK⟩ : ∃ K, K = KXg G 3 vmI r := ⟨_, rfl⟩
  rw [← hK]
  unfold f_X11_falls at hL
  refine j_aload_n 0 dX11_falls_0 rfl ?_
  refine j_iload_n 1 dX11_falls_1 rfl ?_
  refine j_aload_n 0 dX11_falls_2 rfl ?_
  refine jg_RX11_65 rfl sh_0 dX11_falls_3 ?_
  obtain ⟨q1, hq1, hL⟩ := bnd_ex hL
  refine j_callVx (vm2 := vmI) (c_X11_knownAt G v1 33 (shf_11_11 sh_0) h _ hq1) cv_RX11_292 rfl sh_0 (by decide) rfl (by decide) rfl rfl (Nat.le_of_ble_eq_true rfl) dX11_falls_6 (by decide) kc_yX11_falls (fun xq1 eq1 => ?_) (fun xq1 eq1 => ?_)
  rotate_left
  · subst eq1
    replace hL : some (Sum.inr xq1) = some r := hL
    cases hL
    exact hK
  subst eq1
  refine j_eq (st' := [.ref (ad G xq1.1)]) rfl rfl ?_
  obtain ⟨g2, hL⟩ := gd_ex hL
  refine j_astore_n (lv' := [(3, .ref (ad G xq1.1)), (0, .ref (ad G 0)), (1, .int v1), (2, .int v2)]) dX11_falls_9 (by decide) rfl ?_
  refine j_iconst 0 dX11_falls_10 (by decide) ?_
  refine j_istore (lv' := [(4, .int 0), (3, .ref (ad G xq1.1)), (0, .ref (ad G 0)), (1, .int v1), (2, .int v2)]) dX11_falls_11 (by decide) rfl ?_
  refine j_iconst 0 dX11_falls_13 (by decide) ?_
  refine j_istore (lv' := [(5, .int 0), (4, .int 0), (3, .ref (ad G xq1.1)), (0, .ref (ad G 0)), (1, .int v1), (2, .int v2)]) dX11_falls_14 (by decide) rfl ?_
  obtain ⟨q7, hq7, hL⟩ := bnd_ex hL
  refine j_sub [3, 5, 2, 1, 0] rfl ?_
  refine cl_X11_falls_16 G K v2 xq1.1 g2 FU 0 0 xq1.2 q7 hq7 (fun xq7 eq7 => ?_) (fun xq7 eq7 => ?_)
  · subst eq7
    refine j_iload_n 0 dX11_falls_58 rfl ?_
    refine j_iconst (-1) dX11_falls_59 (by decide) ?_
    refine j_icmp_eq 74 dX11_falls_60 (by decide) (fun z8 => ?_) (fun z8 => ?_)
    · replace hL := (if_pos z8).symm.trans hL
      refine j_iload 1 dX11_falls_74 rfl ?_
      cases hL
      exact j_xreti (by decide) dX11_falls_76 rfl hK
    · replace hL := (if_neg z8).symm.trans hL
      cases hL
      exact j_thrNW kc_yX11_falls rfl (List.mem_of_getElem? (i := 21) rfl) (by decide) (by decide) (Nat.le_of_ble_eq_true rfl) dX11_falls_63 dX11_falls_66 dX11_falls_67 dX11_falls_70 dX11_falls_73 hK
  · subst eq7
    cases hL
    exact hK

def f_X11_turn (v1 : Int32) (h : AH) : Option (XR Int32) := if v1 < 0 then some (.inr (0, h)) else if v1 ≤ 1 then gd (SH (hra h 0 3) = (5, 0)) (bnd (f_X8_agree 28 (hfi h (hra h 0 3) 2) h) (fun q4 => if q4 = true then if v1 = 0 then gd (SH (hra h 0 3) = (5, 0)) (bnd (f_X8_least 28 (hfi h (hra h 0 3) 2) h) (fun q10 => some (.inl (q10, h)))) else gd (SH (hra h 0 3) = (5, 0)) (bnd (f_X8_greatest 28 (hfi h (hra h 0 3) 2) h) (fun q8 => some (.inl (q8, h)))) else some (.inl ((-1), h)))) else some (.inr (0, h))
set_option maxRecDepth 20000 in
theorem c_X11_turn (G : GG) (v1 : Int32) (h : AH) (r : XR Int32) (hL : f_X11_turn v1 h = some r) : SpXg G 7 1 mX11_turn [.ref (ad G 0), .int v1] h vmI r := by
  refine wsx_of pn_RX11 (Nat.le_of_ble_eq_true rfl) ?_
  show J G mX11_turn 7 1 0 (KXg G 1 vmI r) 0 [(0, .ref (ad G 0)), (1, .int v1)] [] h
  obtain ⟨K, hK⟩ : ∃ K, K = KXg G 1 vmI r := ⟨_, rfl⟩
  rw [← hK]
  unfold f_X11_turn at hL
  refine j_iload_n 1 dX11_turn_0 rfl ?_
  refine j_if_lt 9 dX11_turn_1 (by decide) (fun z1 => ?_) (fun z1 => ?_)
  · replace hL := (if_pos z1).symm.trans hL
    cases hL
    exact j_thrN kc_yX11_turn rfl (List.mem_of_getElem? (i := 14) rfl) (by decide) (by decide) (Nat.le_of_ble_eq_true rfl) dX11_turn_9 dX11_turn_12 dX11_turn_13 dX11_turn_15 dX11_turn_18 hK
  · replace hL := (if_neg z1).symm.trans hL
    refine j_iload_n 1 dX11_turn_4 rfl ?_
    refine j_iconst 1 dX11_turn_5 (by decide) ?_
    refine j_icmp_le 19 dX11_turn_6 (by decide) (fun z2 => ?_) (fun z2 => ?_)
    · replace hL := (if_pos z2).symm.trans hL
      refine j_aload_n 0 dX11_turn_19 rfl ?_
      refine jg_RX11_51 rfl sh_0 dX11_turn_20 ?_
      refine j_aload_n 0 dX11_turn_23 rfl ?_
      refine jg_RX11_31 rfl sh_0 dX11_turn_24 ?_
      obtain ⟨g3, hL⟩ := gd_ex hL
      refine jg_RX11_154 rfl g3 dX11_turn_27 ?_
      obtain ⟨q4, hq4, hL⟩ := bnd_ex hL
      refine j_callVi (c_X8_agree G 28 (shf_11_7 sh_0) (hfi h (hra h 0 3) 2) h _ hq4) cv_RX11_364 rfl (shf_11_7 sh_0) (by decide) rfl (by decide) rfl rfl (Nat.le_of_ble_eq_true rfl) dX11_turn_30 (by decide) ?_
      refine j_ifz_ne 38 dX11_turn_33 (by decide) (fun z5 => ?_) (fun z5 => ?_)
      · replace hL := (if_pos z5).symm.trans hL
        refine j_iload_n 1 dX11_turn_38 rfl ?_
        refine j_if_ne 59 dX11_turn_39 (by decide) (fun z6 => ?_) (fun z6 => ?_)
        · replace hL := (if_neg z6).symm.trans hL
          refine j_aload_n 0 dX11_turn_59 rfl ?_
          refine jg_RX11_51 rfl sh_0 dX11_turn_60 ?_
          refine j_aload_n 0 dX11_turn_63 rfl ?_
          refine jg_RX11_31 rfl sh_0 dX11_turn_64 ?_
          obtain ⟨g7, hL⟩ := gd_ex hL
          refine jg_RX11_154 rfl g7 dX11_turn_67 ?_
          obtain ⟨q8, hq8, hL⟩ := bnd_ex hL
          refine j_callVi (c_X8_greatest G 28 (shf_11_7 sh_0) (hfi h (hra h 0 3) 2) h _ hq8) cv_RX11_370 rfl (shf_11_7 sh_0) (by decide) rfl (by decide) rfl rfl (Nat.le_of_ble_eq_true rfl) dX11_turn_70 (by decide) ?_
          cases hL
          exact j_xreti (by decide) dX11_turn_73 rfl hK
        · replace hL := (if_pos z6).symm.trans hL
          refine j_aload_n 0 dX11_turn_42 rfl ?_
          refine jg_RX11_51 rfl sh_0 dX11_turn_43 ?_
          refine j_aload_n 0 dX11_turn_46 rfl ?_
          refine jg_RX11_31 rfl sh_0 dX11_turn_47 ?_
          obtain ⟨g9, hL⟩ := gd_ex hL
          refine jg_RX11_154 rfl g9 dX11_turn_50 ?_
          obtain ⟨q10, hq10, hL⟩ := bnd_ex hL
          refine j_callVi (c_X8_least G 28 (shf_11_7 sh_0) (hfi h (hra h 0 3) 2) h _ hq10) cv_RX11_367 rfl (shf_11_7 sh_0) (by decide) rfl (by decide) rfl rfl (Nat.le_of_ble_eq_true rfl) dX11_turn_53 (by decide) ?_
          refine j_goto 73 dX11_turn_56 (by decide) ?_
          cases hL
          exact j_xreti (by decide) dX11_turn_73 rfl hK
      · replace hL := (if_neg z5).symm.trans hL
        refine j_iconst (-1) dX11_turn_36 (by decide) ?_
        cases hL
        exact j_xreti (by decide) dX11_turn_37 rfl hK
    · replace hL := (if_neg z2).symm.trans hL
      cases hL
      exact j_thrN kc_yX11_turn rfl (List.mem_of_getElem? (i := 14) rfl) (by decide) (by decide) (Nat.le_of_ble_eq_true rfl) dX11_turn_9 dX11_turn_12 dX11_turn_13 dX11_turn_15 dX11_turn_18 hK

def f_X11_town_l8 (v1 : Int32) : Nat → Int32 → Int32 → AH → Option (Int32 × AH)
  | 0, _, _, _ => none
  | n + 1, v2, v3, h => if 6 ≤ v3 then some (v2, h) else gd (ib v3 6 = true) (gd (SH (hra h 3 (cl v3)) = (0, 0)) (bnd (f_X0_isKnown (hra h 3 (cl v3)) h) (fun q5 => if q5 = true then gd (ib v3 6 = true) (gd (SH (hra h 3 (cl v3)) = (0, 0)) (gd (ib v3 6 = true) (gd (SH (hra h 3 (cl v3)) = (0, 0)) (gd (SH (hra h 0 3) = (5, 0)) (bnd (f_X9_fill 33 (hra h 3 (cl v3)) (hra h 3 (cl v3) + 7) (hra h 0 3) h) (fun q12 => gd (ib v1 12 = true) (f_X11_town_l8 v1 n (v2 + (hia q12 39 (cl v1))) (v3 + 1) q12))))))) else f_X11_town_l8 v1 n v2 (v3 + 1) h)))
def f_X11_town (v1 : Int32) (h : AH) : Option (XR Int32) := bnd (f_X11_checkKind v1 h) (fun q1 => Sum.elim (fun xq1 => bnd (f_X11_town_l8 v1 FU 0 0 xq1.2) (fun q14 => some (.inl (q14.1, q14.2)))) (fun xq1 => some (.inr xq1)) q1)
set_option maxRecDepth 20000 in
theorem cl_X11_town_8 (G : GG) (K : KQ) (v1 : Int32)  : ∀ (n : Nat) (v2 : Int32) (v3 : Int32) (h : AH) (r : Int32 × AH), f_X11_town_l8 v1 n v2 v3 h = some r → J G mX11_town 8 1 1 K 70 [(2, .int r.1)] [] r.2 → J G mX11_town 8 1 1 K 8 [(0, .ref (ad G 0)), (1, .int v1), (2, .int v2), (3, .int v3)] [] h := by
  intro n
  induction n with
  | zero => intro v2 v3 h r hL; cases hL
  | succ n ih =>
    intro v2 v3 h r hL kE
    unfold f_X11_town_l8 at hL
    refine j_iload_n 3 dX11_town_8 rfl ?_
    refine j_bipush 6 dX11_town_9 (by decide) ?_
    refine j_icmp_ge 70 dX11_town_11 (by decide) (fun z2 => ?_) (fun z2 => ?_)
    · replace hL := (if_pos z2).symm.trans hL
      cases hL
      refine j_sub [2] rfl ?_
      exact kE 
    · replace hL := (if_neg z2).symm.trans hL
      refine j_aload_n 0 dX11_town_14 rfl ?_
      refine jg_RX11_18 rfl sh_0 dX11_town_15 ?_
      refine j_iload_n 3 dX11_town_18 rfl ?_
      obtain ⟨g3, hL⟩ := gd_ex hL
      refine j_aldB (shf_11_1 sh_0) (ib_in g3) dX11_town_19 ?_
      obtain ⟨g4, hL⟩ := gd_ex hL
      obtain ⟨q5, hq5, hL⟩ := bnd_ex hL
      refine j_callVi (c_X0_isKnown G (hra h 3 (cl v3)) g4 h _ hq5) cv_RX11_176 rfl g4 (by decide) rfl (by decide) rfl rfl (Nat.le_of_ble_eq_true rfl) dX11_town_20 (by decide) ?_
      refine j_ifz_eq 64 dX11_town_23 (by decide) (fun z6 => ?_) (fun z6 => ?_)
      · replace hL := (if_neg z6).symm.trans hL
        refine j_iinc (lv' := [(3, .int (v3 + 1)), (0, .ref (ad G 0)), (1, .int v1), (2, .int v2)]) 3 dX11_town_64 rfl rfl (by decide) rfl ?_
        refine j_goto 8 dX11_town_67 (by decide) ?_
        refine j_sub [1, 2, 3, 0] rfl ?_
        exact ih v2 (v3 + 1) h r hL kE
      · replace hL := (if_pos z6).symm.trans hL
        refine j_aload_n 0 dX11_town_26 rfl ?_
        refine jg_RX11_65 rfl sh_0 dX11_town_27 ?_
        refine j_aload_n 0 dX11_town_30 rfl ?_
        refine jg_RX11_18 rfl sh_0 dX11_town_31 ?_
        refine j_iload_n 3 dX11_town_34 rfl ?_
        obtain ⟨g7, hL⟩ := gd_ex hL
        refine j_aldB (shf_11_1 sh_0) (ib_in g7) dX11_town_35 ?_
        obtain ⟨g8, hL⟩ := gd_ex hL
        refine j_aload_n 0 dX11_town_36 rfl ?_
        refine jg_RX11_18 rfl sh_0 dX11_town_37 ?_
        refine j_iload_n 3 dX11_town_40 rfl ?_
        obtain ⟨g9, hL⟩ := gd_ex hL
        refine j_aldB (shf_11_1 sh_0) (ib_in g9) dX11_town_41 ?_
        obtain ⟨g10, hL⟩ := gd_ex hL
        refine jg_RX11_250 rfl g10 dX11_town_42 ?_
        refine j_aload_n 0 dX11_town_45 rfl ?_
        refine jg_RX11_31 rfl sh_0 dX11_town_46 ?_
        obtain ⟨g11, hL⟩ := gd_ex hL
        obtain ⟨q12, hq12, hL⟩ := bnd_ex hL
        refine j_callVv (c_X9_fill G 33 (shf_11_11 sh_0) (hra h 3 (cl v3)) g8 (hra h 3 (cl v3) + 7) (shf_0_12 g10) (hra h 0 3) g11 h _ hq12) cv_RX11_274 rfl (shf_11_11 sh_0) (by decide) rfl (by decide) rfl rfl (Nat.le_of_ble_eq_true rfl) dX11_town_49 (by decide) ?_
        refine j_iload_n 2 dX11_town_52 rfl ?_
        refine j_aload_n 0 dX11_town_53 rfl ?_
        refine jg_RX11_65 rfl sh_0 dX11_town_54 ?_
        refine jg_RX11_300 rfl (shf_11_11 sh_0) dX11_town_57 ?_
        refine j_iload_n 1 dX11_town_60 rfl ?_
        obtain ⟨g13, hL⟩ := gd_ex hL
        refine j_iald (shf_9_5 (shf_11_11 sh_0)) (ib_in g13) dX11_town_61 ?_
        refine j_iadd dX11_town_62 ?_
        refine j_istore_n (lv' := [(2, .int (v2 + (hia q12 39 (cl v1)))), (0, .ref (ad G 0)), (1, .int v1), (3, .int v3)]) dX11_town_63 (by decide) rfl ?_
        refine j_iinc (lv' := [(3, .int (v3 + 1)), (2, .int (v2 + (hia q12 39 (cl v1)))), (0, .ref (ad G 0)), (1, .int v1)]) 3 dX11_town_64 rfl rfl (by decide) rfl ?_
        refine j_goto 8 dX11_town_67 (by decide) ?_
        refine j_sub [2, 3, 1, 0] rfl ?_
        exact ih (v2 + (hia q12 39 (cl v1))) (v3 + 1) q12 r hL kE

set_option maxRecDepth 20000 in
theorem c_X11_town (G : GG) (v1 : Int32) (h : AH) (r : XR Int32) (hL : f_X11_town v1 h = some r) : SpXg G 8 1 mX11_town [.ref (ad G 0), .int v1] h vmI r := by
  refine wsx_of pn_RX11 (Nat.le_of_ble_eq_true rfl) ?_
  show J G mX11_town 8 1 0 (KXg G 1 vmI r) 0 [(0, .ref (ad G 0)), (1, .int v1)] [] h
  obtain ⟨K, hK⟩ : ∃ K, K = KXg G 1 vmI r := ⟨_, rfl⟩
  rw [← hK]
  unfold f_X11_town at hL
  refine j_iload_n 1 dX11_town_0 rfl ?_
  obtain ⟨q1, hq1, hL⟩ := bnd_ex hL
  refine j_callSx (vm2 := vmI) (c_X11_checkKind G v1 h _ hq1) cv_RX11_215 rfl (by decide) rfl rfl (Nat.le_of_ble_eq_true rfl) dX11_town_1 (by decide) kc_yX11_town (fun xq1 eq1 => ?_) (fun xq1 eq1 => ?_)
  rotate_left
  · subst eq1
    replace hL : some (Sum.inr xq1) = some r := hL
    cases hL
    exact hK
  subst eq1
  refine j_eq (st' := []) rfl rfl ?_
  refine j_iconst 0 dX11_town_4 (by decide) ?_
  refine j_istore_n (lv' := [(2, .int 0), (0, .ref (ad G 0)), (1, .int v1)]) dX11_town_5 (by decide) rfl ?_
  refine j_iconst 0 dX11_town_6 (by decide) ?_
  refine j_istore_n (lv' := [(3, .int 0), (2, .int 0), (0, .ref (ad G 0)), (1, .int v1)]) dX11_town_7 (by decide) rfl ?_
  obtain ⟨q14, hq14, hL⟩ := bnd_ex hL
  refine j_sub [2, 3, 1, 0] rfl ?_
  refine cl_X11_town_8 G K v1 FU 0 0 xq1.2 q14 hq14 ?_
  refine j_iload_n 0 dX11_town_70 rfl ?_
  cases hL
  exact j_xreti (by decide) dX11_town_71 rfl hK

def f_X11_alike (v1 : Int32) (v2 : Int32) (h : AH) : Option (XR Int32) := bnd (f_X11_knownAt v1 33 h) (fun q1 => Sum.elim (fun xq1 => gd (SH xq1.1 = (0, 0)) (bnd (f_X11_knownAt v2 42 xq1.2) (fun q3 => Sum.elim (fun xq3 => gd (SH xq3.1 = (0, 0)) (bnd (f_X9_likeness 33 42 xq3.2) (fun q5 => some (.inl (q5, xq3.2))))) (fun xq3 => some (.inr xq3)) q3))) (fun xq1 => some (.inr xq1)) q1)
set_option maxRecDepth 20000 in
theorem c_X11_alike (G : GG) (v1 : Int32) (v2 : Int32) (h : AH) (r : XR Int32) (hL : f_X11_alike v1 v2 h = some r) : SpXg G 9 4 mX11_alike [.ref (ad G 0), .int v1, .int v2] h vmI r := by
  refine wsx_of pn_RX11 (Nat.le_of_ble_eq_true rfl) ?_
  show J G mX11_alike 9 4 0 (KXg G 4 vmI r) 0 [(0, .ref (ad G 0)), (1, .int v1), (2, .int v2)] [] h
  obtain ⟨K, hK⟩ : ∃ K, K = KXg G 4 vmI r := ⟨_, rfl⟩
  rw [← hK]
  unfold f_X11_alike at hL
  refine j_aload_n 0 dX11_alike_0 rfl ?_
  refine j_iload_n 1 dX11_alike_1 rfl ?_
  refine j_aload_n 0 dX11_alike_2 rfl ?_
  refine jg_RX11_65 rfl sh_0 dX11_alike_3 ?_
  obtain ⟨q1, hq1, hL⟩ := bnd_ex hL
  refine j_callVx (vm2 := vmI) (c_X11_knownAt G v1 33 (shf_11_11 sh_0) h _ hq1) cv_RX11_292 rfl sh_0 (by decide) rfl (by decide) rfl rfl (Nat.le_of_ble_eq_true rfl) dX11_alike_6 (by decide) kc_yX11_alike (fun xq1 eq1 => ?_) (fun xq1 eq1 => ?_)
  rotate_left
  · subst eq1
    replace hL : some (Sum.inr xq1) = some r := hL
    cases hL
    exact hK
  subst eq1
  refine j_eq (st' := [.ref (ad G xq1.1)]) rfl rfl ?_
  obtain ⟨g2, hL⟩ := gd_ex hL
  refine j_pop dX11_alike_9 rfl ?_
  refine j_aload_n 0 dX11_alike_10 rfl ?_
  refine j_iload_n 2 dX11_alike_11 rfl ?_
  refine j_aload_n 0 dX11_alike_12 rfl ?_
  refine jg_RX11_69 rfl sh_0 dX11_alike_13 ?_
  obtain ⟨q3, hq3, hL⟩ := bnd_ex hL
  refine j_callVx (vm2 := vmI) (c_X11_knownAt G v2 42 (shf_11_12 sh_0) xq1.2 _ hq3) cv_RX11_292 rfl sh_0 (by decide) rfl (by decide) rfl rfl (Nat.le_of_ble_eq_true rfl) dX11_alike_16 (by decide) kc_yX11_alike (fun xq3 eq3 => ?_) (fun xq3 eq3 => ?_)
  rotate_left
  · subst eq3
    replace hL : some (Sum.inr xq3) = some r := hL
    cases hL
    exact hK
  subst eq3
  refine j_eq (st' := [.ref (ad G xq3.1)]) rfl rfl ?_
  obtain ⟨g4, hL⟩ := gd_ex hL
  refine j_pop dX11_alike_19 rfl ?_
  refine j_aload_n 0 dX11_alike_20 rfl ?_
  refine jg_RX11_65 rfl sh_0 dX11_alike_21 ?_
  refine j_aload_n 0 dX11_alike_24 rfl ?_
  refine jg_RX11_69 rfl sh_0 dX11_alike_25 ?_
  obtain ⟨q5, hq5, hL⟩ := bnd_ex hL
  refine j_callVi (c_X9_likeness G 33 (shf_11_11 sh_0) 42 (shf_11_12 sh_0) xq3.2 _ hq5) cv_RX11_373 rfl (shf_11_11 sh_0) (by decide) rfl (by decide) rfl rfl (Nat.le_of_ble_eq_true rfl) dX11_alike_28 (by decide) ?_
  cases hL
  exact j_xreti (by decide) dX11_alike_31 rfl hK

def f_X11_nearest_l17 (v1 : Int32) : Nat → Int32 → Int32 → Int32 → AH → Option (Int32 × AH)
  | 0, _, _, _, _ => none
  | n + 1, v2, v3, v4, h => if 6 ≤ v4 then some (v2, h) else if v4 = v1 then f_X11_nearest_l17 v1 n v2 v3 (v4 + 1) h else gd (ib v4 6 = true) (gd (SH (hra h 3 (cl v4)) = (0, 0)) (bnd (f_X0_isKnown (hra h 3 (cl v4)) h) (fun q7 => if q7 = true then gd (ib v4 6 = true) (gd (SH (hra h 3 (cl v4)) = (0, 0)) (gd (ib v4 6 = true) (gd (SH (hra h 3 (cl v4)) = (0, 0)) (gd (SH (hra h 0 3) = (5, 0)) (bnd (f_X9_fill 42 (hra h 3 (cl v4)) (hra h 3 (cl v4) + 7) (hra h 0 3) h) (fun q14 => bnd (f_X9_likeness 33 42 q14) (fun q15 => if v2 = (-1) then f_X11_nearest_l17 v1 n v4 q15 (v4 + 1) q14 else if q15 ≤ v3 then f_X11_nearest_l17 v1 n v2 v3 (v4 + 1) q14 else f_X11_nearest_l17 v1 n v4 q15 (v4 + 1) q14))))))) else f_X11_nearest_l17 v1 n v2 v3 (v4 + 1) h)))
def f_X11_nearest (v1 : Int32) (h : AH) : Option (XR Int32) := bnd (f_X11_knownAt v1 33 h) (fun q1 => Sum.elim (fun xq1 => gd (SH xq1.1 = (0, 0)) (bnd (f_X11_nearest_l17 v1 FU (-1) 0 0 xq1.2) (fun q18 => some (.inl (q18.1, q18.2))))) (fun xq1 => some (.inr xq1)) q1)
set_option maxRecDepth 20000 in
theorem cl_X11_nearest_17 (G : GG) (K : KQ) (v1 : Int32)  : ∀ (n : Nat) (v2 : Int32) (v3 : Int32) (v4 : Int32) (h : AH) (r : Int32 × AH), f_X11_nearest_l17 v1 n v2 v3 v4 h = some r → J G mX11_nearest 9 2 2 K 107 [(2, .int r.1)] [] r.2 → J G mX11_nearest 9 2 2 K 17 [(0, .ref (ad G 0)), (1, .int v1), (2, .int v2), (3, .int v3), (4, .int v4)] [] h := by
  intro n
  induction n with
  | zero => intro v2 v3 v4 h r hL; cases hL
  | succ n ih =>
    intro v2 v3 v4 h r hL kE
    unfold f_X11_nearest_l17 at hL
    refine j_iload 4 dX11_nearest_17 rfl ?_
    refine j_bipush 6 dX11_nearest_19 (by decide) ?_
    refine j_icmp_ge 107 dX11_nearest_21 (by decide) (fun z3 => ?_) (fun z3 => ?_)
    · replace hL := (if_pos z3).symm.trans hL
      cases hL
      refine j_sub [2] rfl ?_
      exact kE 
    · replace hL := (if_neg z3).symm.trans hL
      refine j_iload 4 dX11_nearest_24 rfl ?_
      refine j_iload_n 1 dX11_nearest_26 rfl ?_
      refine j_icmp_eq 101 dX11_nearest_27 (by decide) (fun z4 => ?_) (fun z4 => ?_)
      · replace hL := (if_pos z4).symm.trans hL
        refine j_iinc (lv' := [(4, .int (v4 + 1)), (0, .ref (ad G 0)), (1, .int v1), (2, .int v2), (3, .int v3)]) 4 dX11_nearest_101 rfl rfl (by decide) rfl ?_
        refine j_goto 17 dX11_nearest_104 (by decide) ?_
        refine j_sub [1, 2, 3, 4, 0] rfl ?_
        exact ih v2 v3 (v4 + 1) h r hL kE
      · replace hL := (if_neg z4).symm.trans hL
        refine j_aload_n 0 dX11_nearest_30 rfl ?_
        refine jg_RX11_18 rfl sh_0 dX11_nearest_31 ?_
        refine j_iload 4 dX11_nearest_34 rfl ?_
        obtain ⟨g5, hL⟩ := gd_ex hL
        refine j_aldB (shf_11_1 sh_0) (ib_in g5) dX11_nearest_36 ?_
        obtain ⟨g6, hL⟩ := gd_ex hL
        obtain ⟨q7, hq7, hL⟩ := bnd_ex hL
        refine j_callVi (c_X0_isKnown G (hra h 3 (cl v4)) g6 h _ hq7) cv_RX11_176 rfl g6 (by decide) rfl (by decide) rfl rfl (Nat.le_of_ble_eq_true rfl) dX11_nearest_37 (by decide) ?_
        refine j_ifz_eq 101 dX11_nearest_40 (by decide) (fun z8 => ?_) (fun z8 => ?_)
        · replace hL := (if_neg z8).symm.trans hL
          refine j_iinc (lv' := [(4, .int (v4 + 1)), (0, .ref (ad G 0)), (1, .int v1), (2, .int v2), (3, .int v3)]) 4 dX11_nearest_101 rfl rfl (by decide) rfl ?_
          refine j_goto 17 dX11_nearest_104 (by decide) ?_
          refine j_sub [1, 2, 3, 4, 0] rfl ?_
          exact ih v2 v3 (v4 + 1) h r hL kE
        · replace hL := (if_pos z8).symm.trans hL
          refine j_aload_n 0 dX11_nearest_43 rfl ?_
          refine jg_RX11_69 rfl sh_0 dX11_nearest_44 ?_
          refine j_aload_n 0 dX11_nearest_47 rfl ?_
          refine jg_RX11_18 rfl sh_0 dX11_nearest_48 ?_
          refine j_iload 4 dX11_nearest_51 rfl ?_
          obtain ⟨g9, hL⟩ := gd_ex hL
          refine j_aldB (shf_11_1 sh_0) (ib_in g9) dX11_nearest_53 ?_
          obtain ⟨g10, hL⟩ := gd_ex hL
          refine j_aload_n 0 dX11_nearest_54 rfl ?_
          refine jg_RX11_18 rfl sh_0 dX11_nearest_55 ?_
          refine j_iload 4 dX11_nearest_58 rfl ?_
          obtain ⟨g11, hL⟩ := gd_ex hL
          refine j_aldB (shf_11_1 sh_0) (ib_in g11) dX11_nearest_60 ?_
          obtain ⟨g12, hL⟩ := gd_ex hL
          refine jg_RX11_250 rfl g12 dX11_nearest_61 ?_
          refine j_aload_n 0 dX11_nearest_64 rfl ?_
          refine jg_RX11_31 rfl sh_0 dX11_nearest_65 ?_
          obtain ⟨g13, hL⟩ := gd_ex hL
          obtain ⟨q14, hq14, hL⟩ := bnd_ex hL
          refine j_callVv (c_X9_fill G 42 (shf_11_12 sh_0) (hra h 3 (cl v4)) g10 (hra h 3 (cl v4) + 7) (shf_0_12 g12) (hra h 0 3) g13 h _ hq14) cv_RX11_274 rfl (shf_11_12 sh_0) (by decide) rfl (by decide) rfl rfl (Nat.le_of_ble_eq_true rfl) dX11_nearest_68 (by decide) ?_
          refine j_aload_n 0 dX11_nearest_71 rfl ?_
          refine jg_RX11_65 rfl sh_0 dX11_nearest_72 ?_
          refine j_aload_n 0 dX11_nearest_75 rfl ?_
          refine jg_RX11_69 rfl sh_0 dX11_nearest_76 ?_
          obtain ⟨q15, hq15, hL⟩ := bnd_ex hL
          refine j_callVi (c_X9_likeness G 33 (shf_11_11 sh_0) 42 (shf_11_12 sh_0) q14 _ hq15) cv_RX11_373 rfl (shf_11_11 sh_0) (by decide) rfl (by decide) rfl rfl (Nat.le_of_ble_eq_true rfl) dX11_nearest_79 (by decide) ?_
          refine j_istore (lv' := [(5, .int q15), (0, .ref (ad G 0)), (1, .int v1), (2, .int v2), (3, .int v3), (4, .int v4)]) dX11_nearest_82 (by decide) rfl ?_
          refine j_iload_n 3 dX11_nearest_84 rfl ?_
          refine j_iconst (-1) dX11_nearest_85 (by decide) ?_
          refine j_icmp_eq 95 dX11_nearest_86 (by decide) (fun z16 => ?_) (fun z16 => ?_)
          · replace hL := (if_pos z16).symm.trans hL
            refine j_iload 5 dX11_nearest_95 rfl ?_
            refine j_istore_n (lv' := [(2, .int v4), (5, .int q15), (0, .ref (ad G 0)), (1, .int v1), (3, .int v3), (4, .int v4)]) dX11_nearest_97 (by decide) rfl ?_
            refine j_iload 1 dX11_nearest_98 rfl ?_
            refine j_istore_n (lv' := [(3, .int q15), (2, .int v4), (5, .int q15), (0, .ref (ad G 0)), (1, .int v1), (4, .int v4)]) dX11_nearest_100 (by decide) rfl ?_
            refine j_iinc (lv' := [(4, .int (v4 + 1)), (3, .int q15), (2, .int v4), (5, .int q15), (0, .ref (ad G 0)), (1, .int v1)]) 5 dX11_nearest_101 rfl rfl (by decide) rfl ?_
            refine j_goto 17 dX11_nearest_104 (by decide) ?_
            refine j_sub [4, 5, 2, 1, 0] rfl ?_
            exact ih v4 q15 (v4 + 1) q14 r hL kE
          · replace hL := (if_neg z16).symm.trans hL
            refine j_iload 0 dX11_nearest_89 rfl ?_
            refine j_iload_n 4 dX11_nearest_91 rfl ?_
            refine j_icmp_le 101 dX11_nearest_92 (by decide) (fun z17 => ?_) (fun z17 => ?_)
            · replace hL := (if_pos z17).symm.trans hL
              refine j_iinc (lv' := [(4, .int (v4 + 1)), (5, .int q15), (0, .ref (ad G 0)), (1, .int v1), (2, .int v2), (3, .int v3)]) 5 dX11_nearest_101 rfl rfl (by decide) rfl ?_
              refine j_goto 17 dX11_nearest_104 (by decide) ?_
              refine j_sub [2, 3, 4, 5, 0] rfl ?_
              exact ih v2 v3 (v4 + 1) q14 r hL kE
            · replace hL := (if_neg z17).symm.trans hL
              refine j_iload 5 dX11_nearest_95 rfl ?_
              refine j_istore_n (lv' := [(2, .int v4), (5, .int q15), (0, .ref (ad G 0)), (1, .int v1), (3, .int v3), (4, .int v4)]) dX11_nearest_97 (by decide) rfl ?_
              refine j_iload 1 dX11_nearest_98 rfl ?_
              refine j_istore_n (lv' := [(3, .int q15), (2, .int v4), (5, .int q15), (0, .ref (ad G 0)), (1, .int v1), (4, .int v4)]) dX11_nearest_100 (by decide) rfl ?_
              refine j_iinc (lv' := [(4, .int (v4 + 1)), (3, .int q15), (2, .int v4), (5, .int q15), (0, .ref (ad G 0)), (1, .int v1)]) 5 dX11_nearest_101 rfl rfl (by decide) rfl ?_
              refine j_goto 17 dX11_nearest_104 (by decide) ?_
              refine j_sub [4, 5, 2, 1, 0] rfl ?_
              exact ih v4 q15 (v4 + 1) q14 r hL kE

set_option maxRecDepth 20000 in
theorem c_X11_nearest (G : GG) (v1 : Int32) (h : AH) (r : XR Int32) (hL : f_X11_nearest v1 h = some r) : SpXg G 9 2 mX11_nearest [.ref (ad G 0), .int v1] h vmI r := by
  refine wsx_of pn_RX11 (Nat.le_of_ble_eq_true rfl) ?_
  show J G mX11_nearest 9 2 0 (KXg G 2 vmI r) 0 [(0, .ref (ad G 0)), (1, .int v1)] [] h
  obtain ⟨K, hK⟩ : ∃ K, K = KXg G 2 vmI r := ⟨_, rfl⟩
  rw [← hK]
  unfold f_X11_nearest at hL
  refine j_aload_n 0 dX11_nearest_0 rfl ?_
  refine j_iload_n 1 dX11_nearest_1 rfl ?_
  refine j_aload_n 0 dX11_nearest_2 rfl ?_
  refine jg_RX11_65 rfl sh_0 dX11_nearest_3 ?_
  obtain ⟨q1, hq1, hL⟩ := bnd_ex hL
  refine j_callVx (vm2 := vmI) (c_X11_knownAt G v1 33 (shf_11_11 sh_0) h _ hq1) cv_RX11_292 rfl sh_0 (by decide) rfl (by decide) rfl rfl (Nat.le_of_ble_eq_true rfl) dX11_nearest_6 (by decide) kc_yX11_nearest (fun xq1 eq1 => ?_) (fun xq1 eq1 => ?_)
  rotate_left
  · subst eq1
    replace hL : some (Sum.inr xq1) = some r := hL
    cases hL
    exact hK
  subst eq1
  refine j_eq (st' := [.ref (ad G xq1.1)]) rfl rfl ?_
  obtain ⟨g2, hL⟩ := gd_ex hL
  refine j_pop dX11_nearest_9 rfl ?_
  refine j_iconst (-1) dX11_nearest_10 (by decide) ?_
  refine j_istore_n (lv' := [(2, .int (-1)), (0, .ref (ad G 0)), (1, .int v1)]) dX11_nearest_11 (by decide) rfl ?_
  refine j_iconst 0 dX11_nearest_12 (by decide) ?_
  refine j_istore_n (lv' := [(3, .int 0), (2, .int (-1)), (0, .ref (ad G 0)), (1, .int v1)]) dX11_nearest_13 (by decide) rfl ?_
  refine j_iconst 0 dX11_nearest_14 (by decide) ?_
  refine j_istore (lv' := [(4, .int 0), (3, .int 0), (2, .int (-1)), (0, .ref (ad G 0)), (1, .int v1)]) dX11_nearest_15 (by decide) rfl ?_
  obtain ⟨q18, hq18, hL⟩ := bnd_ex hL
  refine j_sub [3, 4, 2, 1, 0] rfl ?_
  refine cl_X11_nearest_17 G K v1 FU (-1) 0 0 xq1.2 q18 hq18 ?_
  refine j_iload_n 0 dX11_nearest_107 rfl ?_
  cases hL
  exact j_xreti (by decide) dX11_nearest_108 rfl hK

def f_X11_sure (v1 : Int32) (v2 : Int32) (v3 : Int32) (h : AH) : Option (XR Int32) := bnd (f_X11_knownAt v1 33 h) (fun q1 => Sum.elim (fun xq1 => gd (SH xq1.1 = (0, 0)) (bnd (f_X11_checkHeld 33 v2 xq1.2) (fun q3 => Sum.elim (fun xq3 => bnd (f_X11_checkHeld 33 v3 xq3.2) (fun q4 => Sum.elim (fun xq4 => bnd (f_X9_surely 33 xq1.1 v2 v3 xq4.2) (fun q5 => if q5 = true then some (.inl (1, xq4.2)) else bnd (f_X9_surely 33 xq1.1 v3 v2 xq4.2) (fun q7 => if q7 = true then some (.inl ((-1), xq4.2)) else some (.inl (0, xq4.2))))) (fun xq4 => some (.inr xq4)) q4)) (fun xq3 => some (.inr xq3)) q3))) (fun xq1 => some (.inr xq1)) q1)
set_option maxRecDepth 20000 in
theorem c_X11_sure (G : GG) (v1 : Int32) (v2 : Int32) (v3 : Int32) (h : AH) (r : XR Int32) (hL : f_X11_sure v1 v2 v3 h = some r) : SpXg G 9 4 mX11_sure [.ref (ad G 0), .int v1, .int v2, .int v3] h vmI r := by
  refine wsx_of pn_RX11 (Nat.le_of_ble_eq_true rfl) ?_
  show J G mX11_sure 9 4 0 (KXg G 4 vmI r) 0 [(0, .ref (ad G 0)), (1, .int v1), (2, .int v2), (3, .int v3)] [] h
  obtain ⟨K, hK⟩ : ∃ K, K = KXg G 4 vmI r := ⟨_, rfl⟩
  rw [← hK]
  unfold f_X11_sure at hL
  refine j_aload_n 0 dX11_sure_0 rfl ?_
  refine j_iload_n 1 dX11_sure_1 rfl ?_
  refine j_aload_n 0 dX11_sure_2 rfl ?_
  refine jg_RX11_65 rfl sh_0 dX11_sure_3 ?_
  obtain ⟨q1, hq1, hL⟩ := bnd_ex hL
  refine j_callVx (vm2 := vmI) (c_X11_knownAt G v1 33 (shf_11_11 sh_0) h _ hq1) cv_RX11_292 rfl sh_0 (by decide) rfl (by decide) rfl rfl (Nat.le_of_ble_eq_true rfl) dX11_sure_6 (by decide) kc_yX11_sure (fun xq1 eq1 => ?_) (fun xq1 eq1 => ?_)
  rotate_left
  · subst eq1
    replace hL : some (Sum.inr xq1) = some r := hL
    cases hL
    exact hK
  subst eq1
  refine j_eq (st' := [.ref (ad G xq1.1)]) rfl rfl ?_
  obtain ⟨g2, hL⟩ := gd_ex hL
  refine j_astore (lv' := [(4, .ref (ad G xq1.1)), (0, .ref (ad G 0)), (1, .int v1), (2, .int v2), (3, .int v3)]) dX11_sure_9 (by decide) rfl ?_
  refine j_aload_n 1 dX11_sure_11 rfl ?_
  refine jg_RX11_65 rfl sh_0 dX11_sure_12 ?_
  refine j_iload_n 3 dX11_sure_15 rfl ?_
  obtain ⟨q3, hq3, hL⟩ := bnd_ex hL
  refine j_callSx (vm2 := vmI) (c_X11_checkHeld G 33 (shf_11_11 sh_0) v2 xq1.2 _ hq3) cv_RX11_296 rfl (by decide) rfl rfl (Nat.le_of_ble_eq_true rfl) dX11_sure_16 (by decide) kc_yX11_sure (fun xq3 eq3 => ?_) (fun xq3 eq3 => ?_)
  rotate_left
  · subst eq3
    replace hL : some (Sum.inr xq3) = some r := hL
    cases hL
    exact hK
  subst eq3
  refine j_eq (st' := []) rfl rfl ?_
  refine j_aload_n 1 dX11_sure_19 rfl ?_
  refine jg_RX11_65 rfl sh_0 dX11_sure_20 ?_
  refine j_iload_n 4 dX11_sure_23 rfl ?_
  obtain ⟨q4, hq4, hL⟩ := bnd_ex hL
  refine j_callSx (vm2 := vmI) (c_X11_checkHeld G 33 (shf_11_11 sh_0) v3 xq3.2 _ hq4) cv_RX11_296 rfl (by decide) rfl rfl (Nat.le_of_ble_eq_true rfl) dX11_sure_24 (by decide) kc_yX11_sure (fun xq4 eq4 => ?_) (fun xq4 eq4 => ?_)
  rotate_left
  · subst eq4
    replace hL : some (Sum.inr xq4) = some r := hL
    cases hL
    exact hK
  subst eq4
  refine j_eq (st' := []) rfl rfl ?_
  refine j_aload_n 1 dX11_sure_27 rfl ?_
  refine jg_RX11_65 rfl sh_0 dX11_sure_28 ?_
  refine j_aload 0 dX11_sure_31 rfl ?_
  refine j_iload_n 3 dX11_sure_33 rfl ?_
  refine j_iload_n 4 dX11_sure_34 rfl ?_
  obtain ⟨q5, hq5, hL⟩ := bnd_ex hL
  refine j_callVi (c_X9_surely G 33 (shf_11_11 sh_0) xq1.1 g2 v2 v3 xq4.2 _ hq5) cv_RX11_377 rfl (shf_11_11 sh_0) (by decide) rfl (by decide) rfl rfl (Nat.le_of_ble_eq_true rfl) dX11_sure_35 (by decide) ?_
  refine j_ifz_eq 43 dX11_sure_38 (by decide) (fun z6 => ?_) (fun z6 => ?_)
  · replace hL := (if_neg z6).symm.trans hL
    refine j_aload_n 1 dX11_sure_43 rfl ?_
    refine jg_RX11_65 rfl sh_0 dX11_sure_44 ?_
    refine j_aload 0 dX11_sure_47 rfl ?_
    refine j_iload_n 4 dX11_sure_49 rfl ?_
    refine j_iload_n 3 dX11_sure_50 rfl ?_
    obtain ⟨q7, hq7, hL⟩ := bnd_ex hL
    refine j_callVi (c_X9_surely G 33 (shf_11_11 sh_0) xq1.1 g2 v3 v2 xq4.2 _ hq7) cv_RX11_377 rfl (shf_11_11 sh_0) (by decide) rfl (by decide) rfl rfl (Nat.le_of_ble_eq_true rfl) dX11_sure_51 (by decide) ?_
    refine j_ifz_eq 61 dX11_sure_54 (by decide) (fun z8 => ?_) (fun z8 => ?_)
    · replace hL := (if_neg z8).symm.trans hL
      refine j_iconst 0 dX11_sure_61 (by decide) ?_
      cases hL
      exact j_xreti (by decide) dX11_sure_62 rfl hK
    · replace hL := (if_pos z8).symm.trans hL
      refine j_iconst (-1) dX11_sure_57 (by decide) ?_
      refine j_goto 62 dX11_sure_58 (by decide) ?_
      cases hL
      exact j_xreti (by decide) dX11_sure_62 rfl hK
  · replace hL := (if_pos z6).symm.trans hL
    refine j_iconst 1 dX11_sure_41 (by decide) ?_
    cases hL
    exact j_xreti (by decide) dX11_sure_42 rfl hK

def f_X11_before (v1 : Int32) (v2 : Int32) (v3 : Int32) (v4 : Int32) (h : AH) : Option (XR Int32) := bnd (f_X11_bookWithLeaf v1 v2 h) (fun q1 => Sum.elim (fun xq1 => gd (SH xq1.1 = (0, 0)) (if v4 < 0 then some (.inr (0, xq1.2)) else if 1 < v4 then some (.inr (0, xq1.2)) else bnd (f_X3_wasRead (xq1.1 + 7) v2 xq1.2) (fun q5 => if q5 = true then bnd (f_X11_checkAheadRead xq1.1 v2 xq1.2) (fun q7 => Sum.elim (fun xq7 => if v3 < 0 then some (.inr (1, xq7.2)) else if v3 ≤ 99 then gd (SH (hra xq7.2 0 3) = (5, 0)) (bnd (f_X9_fill 33 xq1.1 (xq1.1 + 7) (hra xq7.2 0 3) xq7.2) (fun q11 => gd (ib v2 40 = true) (gd (ib v2 40 = true) (if (f_J9_max_7cf53 0 (hia q11 34 (cl v2))) ≤ (hia q11 35 (cl v2)) then if v4 = 0 then bnd (f_X11_cutUp (100 * ((f_J9_max_7cf53 0 (hia q11 34 (cl v2))).toInt64)) ((100 - v3).toInt64)) (fun q17 => some (.inl (q17, q11))) else bnd (f_X11_cutUp (100 * (((hia q11 35 (cl v2)).toInt64) + 1)) ((100 - v3).toInt64)) (fun q16 => some (.inl (q16 - 1, q11))) else some (.inl ((-1), q11)))))) else some (.inr (1, xq7.2))) (fun xq7 => some (.inr xq7)) q7) else some (.inr (0, xq1.2))))) (fun xq1 => some (.inr xq1)) q1)
set_option maxRecDepth 20000 in
theorem c_X11_before (G : GG) (v1 : Int32) (v2 : Int32) (v3 : Int32) (v4 : Int32) (h : AH) (r : XR Int32) (hL : f_X11_before v1 v2 v3 v4 h = some r) : SpXg G 9 4 mX11_before [.ref (ad G 0), .int v1, .int v2, .int v3, .int v4] h vmI r := by
  refine wsx_of pn_RX11 (Nat.le_of_ble_eq_true rfl) ?_
  show J G mX11_before 9 4 0 (KXg G 4 vmI r) 0 [(0, .ref (ad G 0)), (1, .int v1), (2, .int v2), (3, .int v3), (4, .int v4)] [] h
  obtain ⟨K, hK⟩ : ∃ K, K = KXg G 4 vmI r := ⟨_, rfl⟩
  rw [← hK]
  unfold f_X11_before at hL
  refine j_aload_n 0 dX11_before_0 rfl ?_
  refine j_iload_n 1 dX11_before_1 rfl ?_
  refine j_iload_n 2 dX11_before_2 rfl ?_
  obtain ⟨q1, hq1, hL⟩ := bnd_ex hL
  refine j_callVx (vm2 := vmI) (c_X11_bookWithLeaf G v1 v2 h _ hq1) cv_RX11_193 rfl sh_0 (by decide) rfl (by decide) rfl rfl (Nat.le_of_ble_eq_true rfl) dX11_before_3 (by decide) kc_yX11_before (fun xq1 eq1 => ?_) (fun xq1 eq1 => ?_)
  rotate_left
  · subst eq1
    replace hL : some (Sum.inr xq1) = some r := hL
    cases hL
    exact hK
  subst eq1
  refine j_eq (st' := [.ref (ad G xq1.1)]) rfl rfl ?_
  obtain ⟨g2, hL⟩ := gd_ex hL
  refine j_astore (lv' := [(5, .ref (ad G xq1.1)), (0, .ref (ad G 0)), (1, .int v1), (2, .int v2), (3, .int v3), (4, .int v4)]) dX11_before_6 (by decide) rfl ?_
  refine j_iload 5 dX11_before_8 rfl ?_
  refine j_if_lt 31 dX11_before_10 (by decide) (fun z3 => ?_) (fun z3 => ?_)
  · replace hL := (if_pos z3).symm.trans hL
    cases hL
    exact j_thrN kc_yX11_before rfl (List.mem_of_getElem? (i := 14) rfl) (by decide) (by decide) (Nat.le_of_ble_eq_true rfl) dX11_before_31 dX11_before_34 dX11_before_35 dX11_before_37 dX11_before_40 hK
  · replace hL := (if_neg z3).symm.trans hL
    refine j_iload 5 dX11_before_13 rfl ?_
    refine j_iconst 1 dX11_before_15 (by decide) ?_
    refine j_icmp_gt 31 dX11_before_16 (by decide) (fun z4 => ?_) (fun z4 => ?_)
    · replace hL := (if_pos z4).symm.trans hL
      cases hL
      exact j_thrN kc_yX11_before rfl (List.mem_of_getElem? (i := 14) rfl) (by decide) (by decide) (Nat.le_of_ble_eq_true rfl) dX11_before_31 dX11_before_34 dX11_before_35 dX11_before_37 dX11_before_40 hK
    · replace hL := (if_neg z4).symm.trans hL
      refine j_aload 0 dX11_before_19 rfl ?_
      refine jg_RX11_250 rfl g2 dX11_before_21 ?_
      refine j_iload_n 3 dX11_before_24 rfl ?_
      obtain ⟨q5, hq5, hL⟩ := bnd_ex hL
      refine j_callVi (c_X3_wasRead G (xq1.1 + 7) (shf_0_12 g2) v2 xq1.2 _ hq5) cv_RX11_260 rfl (shf_0_12 g2) (by decide) rfl (by decide) rfl rfl (Nat.le_of_ble_eq_true rfl) dX11_before_25 (by decide) ?_
      refine j_ifz_ne 41 dX11_before_28 (by decide) (fun z6 => ?_) (fun z6 => ?_)
      · replace hL := (if_pos z6).symm.trans hL
        refine j_aload 0 dX11_before_41 rfl ?_
        refine j_iload_n 3 dX11_before_43 rfl ?_
        obtain ⟨q7, hq7, hL⟩ := bnd_ex hL
        refine j_callSx (vm2 := vmI) (c_X11_checkAheadRead G xq1.1 g2 v2 xq1.2 _ hq7) cv_RX11_270 rfl (by decide) rfl rfl (Nat.le_of_ble_eq_true rfl) dX11_before_44 (by decide) kc_yX11_before (fun xq7 eq7 => ?_) (fun xq7 eq7 => ?_)
        rotate_left
        · subst eq7
          replace hL : some (Sum.inr xq7) = some r := hL
          cases hL
          exact hK
        subst eq7
        refine j_eq (st' := []) rfl rfl ?_
        refine j_iload_n 4 dX11_before_47 rfl ?_
        refine j_if_lt 57 dX11_before_48 (by decide) (fun z8 => ?_) (fun z8 => ?_)
        · replace hL := (if_pos z8).symm.trans hL
          cases hL
          exact j_thrIW kc_yX11_before rfl (List.mem_of_getElem? (i := 22) rfl) (by decide) (by decide) (Nat.le_of_ble_eq_true rfl) dX11_before_57 dX11_before_60 dX11_before_61 dX11_before_64 dX11_before_67 hK
        · replace hL := (if_neg z8).symm.trans hL
          refine j_iload_n 4 dX11_before_51 rfl ?_
          refine j_bipush 99 dX11_before_52 (by decide) ?_
          refine j_icmp_le 68 dX11_before_54 (by decide) (fun z9 => ?_) (fun z9 => ?_)
          · replace hL := (if_pos z9).symm.trans hL
            refine j_aload_n 1 dX11_before_68 rfl ?_
            refine jg_RX11_65 rfl sh_0 dX11_before_69 ?_
            refine j_aload 0 dX11_before_72 rfl ?_
            refine j_aload 0 dX11_before_74 rfl ?_
            refine jg_RX11_250 rfl g2 dX11_before_76 ?_
            refine j_aload_n 1 dX11_before_79 rfl ?_
            refine jg_RX11_31 rfl sh_0 dX11_before_80 ?_
            obtain ⟨g10, hL⟩ := gd_ex hL
            obtain ⟨q11, hq11, hL⟩ := bnd_ex hL
            refine j_callVv (c_X9_fill G 33 (shf_11_11 sh_0) xq1.1 g2 (xq1.1 + 7) (shf_0_12 g2) (hra xq7.2 0 3) g10 xq7.2 _ hq11) cv_RX11_274 rfl (shf_11_11 sh_0) (by decide) rfl (by decide) rfl rfl (Nat.le_of_ble_eq_true rfl) dX11_before_83 (by decide) ?_
            refine j_iconst 0 dX11_before_86 (by decide) ?_
            refine j_aload_n 1 dX11_before_87 rfl ?_
            refine jg_RX11_65 rfl sh_0 dX11_before_88 ?_
            refine jg_RX11_278 rfl (shf_11_11 sh_0) dX11_before_91 ?_
            refine j_iload_n 3 dX11_before_94 rfl ?_
            obtain ⟨g12, hL⟩ := gd_ex hL
            refine j_iald (shf_9_0 (shf_11_11 sh_0)) (ib_in g12) dX11_before_95 ?_
            refine j_callSi (c_J9_max_7cf53 G 0 (hia q11 34 (cl v2)) q11) cv_RX11_386 rfl (by decide) rfl rfl (Nat.le_of_ble_eq_true rfl) dX11_before_96 (by decide) ?_
            refine j_istore (lv' := [(6, .int (f_J9_max_7cf53 0 (hia q11 34 (cl v2)))), (5, .ref (ad G xq1.1)), (0, .ref (ad G 0)), (1, .int v1), (2, .int v2), (3, .int v3), (4, .int v4)]) dX11_before_99 (by decide) rfl ?_
            refine j_aload_n 2 dX11_before_101 rfl ?_
            refine jg_RX11_65 rfl sh_0 dX11_before_102 ?_
            refine jg_RX11_279 rfl (shf_11_11 sh_0) dX11_before_105 ?_
            refine j_iload_n 4 dX11_before_108 rfl ?_
            obtain ⟨g13, hL⟩ := gd_ex hL
            refine j_iald (shf_9_1 (shf_11_11 sh_0)) (ib_in g13) dX11_before_109 ?_
            refine j_istore (lv' := [(7, .int (hia q11 35 (cl v2))), (6, .int (f_J9_max_7cf53 0 (hia q11 34 (cl v2)))), (5, .ref (ad G xq1.1)), (0, .ref (ad G 0)), (1, .int v1), (2, .int v2), (3, .int v3), (4, .int v4)]) dX11_before_110 (by decide) rfl ?_
            refine j_iload 1 dX11_before_112 rfl ?_
            refine j_iload 0 dX11_before_114 rfl ?_
            refine j_icmp_le 121 dX11_before_116 (by decide) (fun z14 => ?_) (fun z14 => ?_)
            · replace hL := (if_pos z14).symm.trans hL
              refine j_bipush 100 dX11_before_121 (by decide) ?_
              refine j_iload_n 6 dX11_before_123 rfl ?_
              refine j_isub dX11_before_124 ?_
              refine j_istore (lv' := [(8, .int (100 - v3)), (7, .int (hia q11 35 (cl v2))), (6, .int (f_J9_max_7cf53 0 (hia q11 34 (cl v2)))), (5, .ref (ad G xq1.1)), (0, .ref (ad G 0)), (1, .int v1), (2, .int v2), (3, .int v3), (4, .int v4)]) dX11_before_125 (by decide) rfl ?_
              refine j_iload 8 dX11_before_127 rfl ?_
              refine j_if_ne 148 dX11_before_129 (by decide) (fun z15 => ?_) (fun z15 => ?_)
              · replace hL := (if_neg z15).symm.trans hL
                refine j_ldc2 rfl kk_RX11_391 dX11_before_148 ?_
                refine j_iload 1 dX11_before_151 rfl ?_
                refine j_i2l dX11_before_153 ?_
                refine j_lconst 1 dX11_before_154 (by decide) ?_
                refine j_ladd dX11_before_155 ?_
                refine j_lmul dX11_before_156 ?_
                refine j_iload 0 dX11_before_157 rfl ?_
                refine j_i2l dX11_before_159 ?_
                obtain ⟨q16, hq16, hL⟩ := bnd_ex hL
                refine j_callSi (c_X11_cutUp G (100 * (((hia q11 35 (cl v2)).toInt64) + 1)) ((100 - v3).toInt64) q11 _ hq16) cv_RX11_393 rfl (by decide) rfl rfl (Nat.le_of_ble_eq_true rfl) dX11_before_160 (by decide) ?_
                refine j_iconst 1 dX11_before_163 (by decide) ?_
                refine j_isub dX11_before_164 ?_
                cases hL
                exact j_xreti (by decide) dX11_before_165 rfl hK
              · replace hL := (if_pos z15).symm.trans hL
                refine j_ldc2 rfl kk_RX11_391 dX11_before_132 ?_
                refine j_iload 2 dX11_before_135 rfl ?_
                refine j_i2l dX11_before_137 ?_
                refine j_lmul dX11_before_138 ?_
                refine j_iload 0 dX11_before_139 rfl ?_
                refine j_i2l dX11_before_141 ?_
                obtain ⟨q17, hq17, hL⟩ := bnd_ex hL
                refine j_callSi (c_X11_cutUp G (100 * ((f_J9_max_7cf53 0 (hia q11 34 (cl v2))).toInt64)) ((100 - v3).toInt64) q11 _ hq17) cv_RX11_393 rfl (by decide) rfl rfl (Nat.le_of_ble_eq_true rfl) dX11_before_142 (by decide) ?_
                refine j_goto 165 dX11_before_145 (by decide) ?_
                cases hL
                exact j_xreti (by decide) dX11_before_165 rfl hK
            · replace hL := (if_neg z14).symm.trans hL
              refine j_iconst (-1) dX11_before_119 (by decide) ?_
              cases hL
              exact j_xreti (by decide) dX11_before_120 rfl hK
          · replace hL := (if_neg z9).symm.trans hL
            cases hL
            exact j_thrIW kc_yX11_before rfl (List.mem_of_getElem? (i := 22) rfl) (by decide) (by decide) (Nat.le_of_ble_eq_true rfl) dX11_before_57 dX11_before_60 dX11_before_61 dX11_before_64 dX11_before_67 hK
      · replace hL := (if_neg z6).symm.trans hL
        cases hL
        exact j_thrN kc_yX11_before rfl (List.mem_of_getElem? (i := 14) rfl) (by decide) (by decide) (Nat.le_of_ble_eq_true rfl) dX11_before_31 dX11_before_34 dX11_before_35 dX11_before_37 dX11_before_40 hK

def f_X11_told_l62 (v2 : Int32) (v3 : Int32) (a5 : Nat) : Nat → Int32 → Int32 → Int32 → AH → Option (Int32 × AH)
  | 0, _, _, _, _ => none
  | n + 1, v6, v7, v8, h => if v3 ≤ v8 then some (v7, h) else bnd (f_X11_drawTrial a5 v6 h) (fun q10 => bnd (f_X3_readAll 63 (hfi q10.2 a5 0) q10.2) (fun q11 => if q11 = true then gd (SH (hra q10.2 0 3) = (5, 0)) (bnd (f_X9_fill 33 a5 63 (hra q10.2 0 3) q10.2) (fun q14 => bnd (f_X11_ownerBy a5 33 q14) (fun q15 => if q15.1 = v2 then f_X11_told_l62 v2 v3 a5 n q10.1 (v7 + 1) (v8 + 1) q15.2 else f_X11_told_l62 v2 v3 a5 n q10.1 (v7 + 0) (v8 + 1) q15.2))) else f_X11_told_l62 v2 v3 a5 n q10.1 v7 (v8 + 1) q10.2))
def f_X11_told (v1 : Int32) (v2 : Int32) (v3 : Int32) (v4 : Int32) (h : AH) : Option (XR Int32) := bnd (f_X11_bookAt v1 h) (fun q1 => Sum.elim (fun xq1 => gd (SH xq1.1 = (0, 0)) (bnd (f_X11_wayAt v2 xq1.2) (fun q3 => Sum.elim (fun xq3 => gd (SH xq3.1 = (10, 0)) (if v3 < 1 then some (.inr (1, xq3.2)) else if v3 ≤ 100 then if 1 ≤ (hfi xq3.2 xq1.1 0) then bnd (f_X11_fillShades xq1.1 xq3.2) (fun q8 => bnd (f_X11_told_l62 v2 v3 xq1.1 FU v4 0 0 q8) (fun q17 => some (.inl (q17.1, q17.2)))) else some (.inl (0, xq3.2)) else some (.inr (1, xq3.2)))) (fun xq3 => some (.inr xq3)) q3))) (fun xq1 => some (.inr xq1)) q1)
set_option maxRecDepth 20000 in
theorem cl_X11_told_62 (G : GG) (K : KQ) (v2 : Int32) (v3 : Int32) (a5 : Nat) (s5 : SH a5 = (0, 0)) : ∀ (n : Nat) (v6 : Int32) (v7 : Int32) (v8 : Int32) (h : AH) (r : Int32 × AH), f_X11_told_l62 v2 v3 a5 n v6 v7 v8 h = some r → J G mX11_told 8 3 2 K 140 [(7, .int r.1)] [] r.2 → J G mX11_told 8 3 2 K 62 [(0, .ref (ad G 0)), (2, .int v2), (3, .int v3), (5, .ref (ad G a5)), (6, .int v6), (7, .int v7), (8, .int v8)] [] h := by
  intro n
  induction n with
  | zero => intro v6 v7 v8 h r hL; cases hL
  | succ n ih =>
    intro v6 v7 v8 h r hL kE
    unfold f_X11_told_l62 at hL
    refine j_iload 6 dX11_told_62 rfl ?_
    refine j_iload_n 2 dX11_told_64 rfl ?_
    refine j_icmp_ge 140 dX11_told_65 (by decide) (fun z9 => ?_) (fun z9 => ?_)
    · replace hL := (if_pos z9).symm.trans hL
      cases hL
      refine j_sub [5] rfl ?_
      exact kE 
    · replace hL := (if_neg z9).symm.trans hL
      refine j_aload_n 0 dX11_told_68 rfl ?_
      refine j_aload 3 dX11_told_69 rfl ?_
      refine j_iload 4 dX11_told_71 rfl ?_
      obtain ⟨q10, hq10, hL⟩ := bnd_ex hL
      refine j_callVi (c_X11_drawTrial G a5 s5 v6 h _ hq10) cv_RX11_399 rfl sh_0 (by decide) rfl (by decide) rfl rfl (Nat.le_of_ble_eq_true rfl) dX11_told_73 (by decide) ?_
      refine j_istore (lv' := [(6, .int q10.1), (0, .ref (ad G 0)), (2, .int v2), (3, .int v3), (5, .ref (ad G a5)), (7, .int v7), (8, .int v8)]) dX11_told_76 (by decide) rfl ?_
      refine j_aload_n 1 dX11_told_78 rfl ?_
      refine jg_RX11_103 rfl sh_0 dX11_told_79 ?_
      refine j_aload 4 dX11_told_82 rfl ?_
      refine jg_RX11_164 rfl s5 dX11_told_84 ?_
      obtain ⟨q11, hq11, hL⟩ := bnd_ex hL
      refine j_callVi (c_X3_readAll G 63 (shf_11_17 sh_0) (hfi q10.2 a5 0) q10.2 _ hq11) cv_RX11_402 rfl (shf_11_17 sh_0) (by decide) rfl (by decide) rfl rfl (Nat.le_of_ble_eq_true rfl) dX11_told_87 (by decide) ?_
      refine j_ifz_eq 134 dX11_told_90 (by decide) (fun z12 => ?_) (fun z12 => ?_)
      · replace hL := (if_neg z12).symm.trans hL
        refine j_iinc (lv' := [(8, .int (v8 + 1)), (6, .int q10.1), (0, .ref (ad G 0)), (2, .int v2), (3, .int v3), (5, .ref (ad G a5)), (7, .int v7)]) 6 dX11_told_134 rfl rfl (by decide) rfl ?_
        refine j_goto 62 dX11_told_137 (by decide) ?_
        refine j_sub [2, 3, 4, 5, 1, 6, 0] rfl ?_
        exact ih q10.1 v7 (v8 + 1) q10.2 r hL kE
      · replace hL := (if_pos z12).symm.trans hL
        refine j_aload_n 1 dX11_told_93 rfl ?_
        refine jg_RX11_65 rfl sh_0 dX11_told_94 ?_
        refine j_aload 4 dX11_told_97 rfl ?_
        refine j_aload_n 1 dX11_told_99 rfl ?_
        refine jg_RX11_103 rfl sh_0 dX11_told_100 ?_
        refine j_aload_n 1 dX11_told_103 rfl ?_
        refine jg_RX11_31 rfl sh_0 dX11_told_104 ?_
        obtain ⟨g13, hL⟩ := gd_ex hL
        obtain ⟨q14, hq14, hL⟩ := bnd_ex hL
        refine j_callVv (c_X9_fill G 33 (shf_11_11 sh_0) a5 s5 63 (shf_11_17 sh_0) (hra q10.2 0 3) g13 q10.2 _ hq14) cv_RX11_274 rfl (shf_11_11 sh_0) (by decide) rfl (by decide) rfl rfl (Nat.le_of_ble_eq_true rfl) dX11_told_107 (by decide) ?_
        refine j_iload 5 dX11_told_110 rfl ?_
        refine j_aload_n 1 dX11_told_112 rfl ?_
        refine j_aload 4 dX11_told_113 rfl ?_
        refine j_aload_n 1 dX11_told_115 rfl ?_
        refine jg_RX11_65 rfl sh_0 dX11_told_116 ?_
        obtain ⟨q15, hq15, hL⟩ := bnd_ex hL
        refine j_callVi (c_X11_ownerBy G a5 s5 33 (shf_11_11 sh_0) q14 _ hq15) cv_RX11_332 rfl sh_0 (by decide) rfl (by decide) rfl rfl (Nat.le_of_ble_eq_true rfl) dX11_told_119 (by decide) ?_
        refine j_iload_n 2 dX11_told_122 rfl ?_
        refine j_icmp_ne 130 dX11_told_123 (by decide) (fun z16 => ?_) (fun z16 => ?_)
        · replace hL := (if_neg z16).symm.trans hL
          refine j_iconst 0 dX11_told_130 (by decide) ?_
          refine j_iadd dX11_told_131 ?_
          refine j_istore (lv' := [(7, .int (v7 + 0)), (6, .int q10.1), (0, .ref (ad G 0)), (2, .int v2), (3, .int v3), (5, .ref (ad G a5)), (8, .int v8)]) dX11_told_132 (by decide) rfl ?_
          refine j_iinc (lv' := [(8, .int (v8 + 1)), (7, .int (v7 + 0)), (6, .int q10.1), (0, .ref (ad G 0)), (2, .int v2), (3, .int v3), (5, .ref (ad G a5))]) 6 dX11_told_134 rfl rfl (by decide) rfl ?_
          refine j_goto 62 dX11_told_137 (by decide) ?_
          refine j_sub [3, 4, 5, 6, 2, 1, 0] rfl ?_
          exact ih q10.1 (v7 + 0) (v8 + 1) q15.2 r hL kE
        · replace hL := (if_pos z16).symm.trans hL
          refine j_iconst 1 dX11_told_126 (by decide) ?_
          refine j_goto 131 dX11_told_127 (by decide) ?_
          refine j_iadd dX11_told_131 ?_
          refine j_istore (lv' := [(7, .int (v7 + 1)), (6, .int q10.1), (0, .ref (ad G 0)), (2, .int v2), (3, .int v3), (5, .ref (ad G a5)), (8, .int v8)]) dX11_told_132 (by decide) rfl ?_
          refine j_iinc (lv' := [(8, .int (v8 + 1)), (7, .int (v7 + 1)), (6, .int q10.1), (0, .ref (ad G 0)), (2, .int v2), (3, .int v3), (5, .ref (ad G a5))]) 6 dX11_told_134 rfl rfl (by decide) rfl ?_
          refine j_goto 62 dX11_told_137 (by decide) ?_
          refine j_sub [3, 4, 5, 6, 2, 1, 0] rfl ?_
          exact ih q10.1 (v7 + 1) (v8 + 1) q15.2 r hL kE

set_option maxRecDepth 20000 in
theorem c_X11_told (G : GG) (v1 : Int32) (v2 : Int32) (v3 : Int32) (v4 : Int32) (h : AH) (r : XR Int32) (hL : f_X11_told v1 v2 v3 v4 h = some r) : SpXg G 8 3 mX11_told [.ref (ad G 0), .int v1, .int v2, .int v3, .int v4] h vmI r := by
  refine wsx_of pn_RX11 (Nat.le_of_ble_eq_true rfl) ?_
  show J G mX11_told 8 3 0 (KXg G 3 vmI r) 0 [(0, .ref (ad G 0)), (1, .int v1), (2, .int v2), (3, .int v3), (4, .int v4)] [] h
  obtain ⟨K, hK⟩ : ∃ K, K = KXg G 3 vmI r := ⟨_, rfl⟩
  rw [← hK]
  unfold f_X11_told at hL
  refine j_aload_n 0 dX11_told_0 rfl ?_
  refine j_iload_n 1 dX11_told_1 rfl ?_
  obtain ⟨q1, hq1, hL⟩ := bnd_ex hL
  refine j_callVx (vm2 := vmI) (c_X11_bookAt G v1 h _ hq1) cv_RX11_118 rfl sh_0 (by decide) rfl (by decide) rfl rfl (Nat.le_of_ble_eq_true rfl) dX11_told_2 (by decide) kc_yX11_told (fun xq1 eq1 => ?_) (fun xq1 eq1 => ?_)
  rotate_left
  · subst eq1
    replace hL : some (Sum.inr xq1) = some r := hL
    cases hL
    exact hK
  subst eq1
  refine j_eq (st' := [.ref (ad G xq1.1)]) rfl rfl ?_
  obtain ⟨g2, hL⟩ := gd_ex hL
  refine j_astore (lv' := [(5, .ref (ad G xq1.1)), (0, .ref (ad G 0)), (1, .int v1), (2, .int v2), (3, .int v3), (4, .int v4)]) dX11_told_5 (by decide) rfl ?_
  refine j_aload_n 1 dX11_told_7 rfl ?_
  refine j_iload_n 3 dX11_told_8 rfl ?_
  obtain ⟨q3, hq3, hL⟩ := bnd_ex hL
  refine j_callVx (vm2 := vmI) (c_X11_wayAt G v2 xq1.2 _ hq3) cv_RX11_140 rfl sh_0 (by decide) rfl (by decide) rfl rfl (Nat.le_of_ble_eq_true rfl) dX11_told_9 (by decide) kc_yX11_told (fun xq3 eq3 => ?_) (fun xq3 eq3 => ?_)
  rotate_left
  · subst eq3
    replace hL : some (Sum.inr xq3) = some r := hL
    cases hL
    exact hK
  subst eq3
  refine j_eq (st' := [.ref (ad G xq3.1)]) rfl rfl ?_
  obtain ⟨g4, hL⟩ := gd_ex hL
  refine j_pop dX11_told_12 rfl ?_
  refine j_iload_n 4 dX11_told_13 rfl ?_
  refine j_iconst 1 dX11_told_14 (by decide) ?_
  refine j_icmp_lt 24 dX11_told_15 (by decide) (fun z5 => ?_) (fun z5 => ?_)
  · replace hL := (if_pos z5).symm.trans hL
    cases hL
    exact j_thrIW kc_yX11_told rfl (List.mem_of_getElem? (i := 23) rfl) (by decide) (by decide) (Nat.le_of_ble_eq_true rfl) dX11_told_24 dX11_told_27 dX11_told_28 dX11_told_31 dX11_told_34 hK
  · replace hL := (if_neg z5).symm.trans hL
    refine j_iload_n 4 dX11_told_18 rfl ?_
    refine j_bipush 100 dX11_told_19 (by decide) ?_
    refine j_icmp_le 35 dX11_told_21 (by decide) (fun z6 => ?_) (fun z6 => ?_)
    · replace hL := (if_pos z6).symm.trans hL
      refine j_aload 0 dX11_told_35 rfl ?_
      refine jg_RX11_164 rfl g2 dX11_told_37 ?_
      refine j_iconst 1 dX11_told_40 (by decide) ?_
      refine j_icmp_ge 46 dX11_told_41 (by decide) (fun z7 => ?_) (fun z7 => ?_)
      · replace hL := (if_pos z7).symm.trans hL
        refine j_aload_n 1 dX11_told_46 rfl ?_
        refine j_aload 0 dX11_told_47 rfl ?_
        obtain ⟨q8, hq8, hL⟩ := bnd_ex hL
        refine j_callVv (c_X11_fillShades G xq1.1 g2 xq3.2 _ hq8) cv_RX11_243 rfl sh_0 (by decide) rfl (by decide) rfl rfl (Nat.le_of_ble_eq_true rfl) dX11_told_49 (by decide) ?_
        refine j_iload 5 dX11_told_52 rfl ?_
        refine j_istore (lv' := [(6, .int v4), (5, .ref (ad G xq1.1)), (0, .ref (ad G 0)), (1, .int v1), (2, .int v2), (3, .int v3), (4, .int v4)]) dX11_told_54 (by decide) rfl ?_
        refine j_iconst 0 dX11_told_56 (by decide) ?_
        refine j_istore (lv' := [(7, .int 0), (6, .int v4), (5, .ref (ad G xq1.1)), (0, .ref (ad G 0)), (1, .int v1), (2, .int v2), (3, .int v3), (4, .int v4)]) dX11_told_57 (by decide) rfl ?_
        refine j_iconst 0 dX11_told_59 (by decide) ?_
        refine j_istore (lv' := [(8, .int 0), (7, .int 0), (6, .int v4), (5, .ref (ad G xq1.1)), (0, .ref (ad G 0)), (1, .int v1), (2, .int v2), (3, .int v3), (4, .int v4)]) dX11_told_60 (by decide) rfl ?_
        obtain ⟨q17, hq17, hL⟩ := bnd_ex hL
        refine j_sub [4, 6, 7, 3, 2, 1, 0] rfl ?_
        refine cl_X11_told_62 G K v2 v3 xq1.1 g2 FU v4 0 0 q8 q17 hq17 ?_
        refine j_iload 0 dX11_told_140 rfl ?_
        cases hL
        exact j_xreti (by decide) dX11_told_142 rfl hK
      · replace hL := (if_neg z7).symm.trans hL
        refine j_iconst 0 dX11_told_44 (by decide) ?_
        cases hL
        exact j_xreti (by decide) dX11_told_45 rfl hK
    · replace hL := (if_neg z6).symm.trans hL
      cases hL
      exact j_thrIW kc_yX11_told rfl (List.mem_of_getElem? (i := 23) rfl) (by decide) (by decide) (Nat.le_of_ble_eq_true rfl) dX11_told_24 dX11_told_27 dX11_told_28 dX11_told_31 dX11_told_34 hK

def f_X11_next_l8 (a2 : Nat) (h : AH) : Nat → Int32 → Option ((Unit) ⊕ (Int32 × AH))
  | 0, _ => none
  | n + 1, v3 => if (hfi h a2 0) ≤ v3 then some (.inl ()) else bnd (f_X3_wasRead (a2 + 7) v3 h) (fun q4 => if q4 = true then f_X11_next_l8 a2 h n (v3 + 1) else some (.inr (v3, h)))
def f_X11_next (v1 : Int32) (h : AH) : Option (XR Int32) := bnd (f_X11_bookAt v1 h) (fun q1 => Sum.elim (fun xq1 => gd (SH xq1.1 = (0, 0)) (bnd (f_X11_next_l8 xq1.1 xq1.2 FU 0) (fun q6 => Sum.elim (fun xq6 => gd (SH (hra xq1.2 0 3) = (5, 0)) (bnd (f_X9_fill 33 xq1.1 (xq1.1 + 7) (hra xq1.2 0 3) xq1.2) (fun q8 => bnd (f_X9_widest 33 xq1.1 q8) (fun q9 => some (.inl (q9, q8)))))) (fun xq6 => some (.inl xq6)) q6))) (fun xq1 => some (.inr xq1)) q1)
set_option maxRecDepth 20000 in
theorem cl_X11_next_8 (G : GG) (K : KQ) (a2 : Nat) (s2 : SH a2 = (0, 0)) : ∀ (n : Nat) (v3 : Int32) (h : AH) (r : (Unit) ⊕ (Int32 × AH)), f_X11_next_l8 a2 h n v3 = some r → (∀ x, r = .inl x → J G mX11_next 8 1 1 K 35 [(0, .ref (ad G 0)), (2, .ref (ad G a2))] [] h) → (∀ x, r = .inr x → K = KXg G 1 vmI (.inl x)) → J G mX11_next 8 1 1 K 8 [(0, .ref (ad G 0)), (2, .ref (ad G a2)), (3, .int v3)] [] h := by
  intro n
  induction n with
  | zero => intro v3 h r hL; cases hL
  | succ n ih =>
    intro v3 h r hL kE kR
    unfold f_X11_next_l8 at hL
    refine j_iload_n 2 dX11_next_8 rfl ?_
    refine j_aload_n 1 dX11_next_9 rfl ?_
    refine jg_RX11_164 rfl s2 dX11_next_10 ?_
    refine j_icmp_ge 35 dX11_next_13 (by decide) (fun z3 => ?_) (fun z3 => ?_)
    · replace hL := (if_pos z3).symm.trans hL
      cases hL
      refine j_sub [0, 1] rfl ?_
      exact kE _ rfl
    · replace hL := (if_neg z3).symm.trans hL
      refine j_aload_n 1 dX11_next_16 rfl ?_
      refine jg_RX11_250 rfl s2 dX11_next_17 ?_
      refine j_iload_n 2 dX11_next_20 rfl ?_
      obtain ⟨q4, hq4, hL⟩ := bnd_ex hL
      refine j_callVi (c_X3_wasRead G (a2 + 7) (shf_0_12 s2) v3 h _ hq4) cv_RX11_260 rfl (shf_0_12 s2) (by decide) rfl (by decide) rfl rfl (Nat.le_of_ble_eq_true rfl) dX11_next_21 (by decide) ?_
      refine j_ifz_ne 29 dX11_next_24 (by decide) (fun z5 => ?_) (fun z5 => ?_)
      · replace hL := (if_pos z5).symm.trans hL
        refine j_iinc (lv' := [(3, .int (v3 + 1)), (0, .ref (ad G 0)), (2, .ref (ad G a2))]) 2 dX11_next_29 rfl rfl (by decide) rfl ?_
        refine j_goto 8 dX11_next_32 (by decide) ?_
        refine j_sub [1, 2, 0] rfl ?_
        exact ih (v3 + 1) h r hL kE kR
      · replace hL := (if_neg z5).symm.trans hL
        refine j_iload_n 2 dX11_next_27 rfl ?_
        cases hL
        exact j_xreti (by decide) dX11_next_28 rfl (kR _ rfl)

set_option maxRecDepth 20000 in
theorem c_X11_next (G : GG) (v1 : Int32) (h : AH) (r : XR Int32) (hL : f_X11_next v1 h = some r) : SpXg G 8 1 mX11_next [.ref (ad G 0), .int v1] h vmI r := by
  refine wsx_of pn_RX11 (Nat.le_of_ble_eq_true rfl) ?_
  show J G mX11_next 8 1 0 (KXg G 1 vmI r) 0 [(0, .ref (ad G 0)), (1, .int v1)] [] h
  obtain ⟨K, hK⟩ : ∃ K, K = KXg G 1 vmI r := ⟨_, rfl⟩
  rw [← hK]
  unfold f_X11_next at hL
  refine j_aload_n 0 dX11_next_0 rfl ?_
  refine j_iload_n 1 dX11_next_1 rfl ?_
  obtain ⟨q1, hq1, hL⟩ := bnd_ex hL
  refine j_callVx (vm2 := vmI) (c_X11_bookAt G v1 h _ hq1) cv_RX11_118 rfl sh_0 (by decide) rfl (by decide) rfl rfl (Nat.le_of_ble_eq_true rfl) dX11_next_2 (by decide) kc_yX11_next (fun xq1 eq1 => ?_) (fun xq1 eq1 => ?_)
  rotate_left
  · subst eq1
    replace hL : some (Sum.inr xq1) = some r := hL
    cases hL
    exact hK
  subst eq1
  refine j_eq (st' := [.ref (ad G xq1.1)]) rfl rfl ?_
  obtain ⟨g2, hL⟩ := gd_ex hL
  refine j_astore_n (lv' := [(2, .ref (ad G xq1.1)), (0, .ref (ad G 0)), (1, .int v1)]) dX11_next_5 (by decide) rfl ?_
  refine j_iconst 0 dX11_next_6 (by decide) ?_
  refine j_istore_n (lv' := [(3, .int 0), (2, .ref (ad G xq1.1)), (0, .ref (ad G 0)), (1, .int v1)]) dX11_next_7 (by decide) rfl ?_
  obtain ⟨q6, hq6, hL⟩ := bnd_ex hL
  refine j_sub [2, 1, 0] rfl ?_
  refine cl_X11_next_8 G K xq1.1 g2 FU 0 xq1.2 q6 hq6 (fun xq6 eq6 => ?_) (fun xq6 eq6 => ?_)
  · subst eq6
    refine j_aload_n 0 dX11_next_35 rfl ?_
    refine jg_RX11_65 rfl sh_0 dX11_next_36 ?_
    refine j_aload_n 1 dX11_next_39 rfl ?_
    refine j_aload_n 1 dX11_next_40 rfl ?_
    refine jg_RX11_250 rfl g2 dX11_next_41 ?_
    refine j_aload_n 0 dX11_next_44 rfl ?_
    refine jg_RX11_31 rfl sh_0 dX11_next_45 ?_
    obtain ⟨g7, hL⟩ := gd_ex hL
    obtain ⟨q8, hq8, hL⟩ := bnd_ex hL
    refine j_callVv (c_X9_fill G 33 (shf_11_11 sh_0) xq1.1 g2 (xq1.1 + 7) (shf_0_12 g2) (hra xq1.2 0 3) g7 xq1.2 _ hq8) cv_RX11_274 rfl (shf_11_11 sh_0) (by decide) rfl (by decide) rfl rfl (Nat.le_of_ble_eq_true rfl) dX11_next_48 (by decide) ?_
    refine j_aload_n 0 dX11_next_51 rfl ?_
    refine jg_RX11_65 rfl sh_0 dX11_next_52 ?_
    refine j_aload_n 1 dX11_next_55 rfl ?_
    obtain ⟨q9, hq9, hL⟩ := bnd_ex hL
    refine j_callVi (c_X9_widest G 33 (shf_11_11 sh_0) xq1.1 g2 q8 _ hq9) cv_RX11_405 rfl (shf_11_11 sh_0) (by decide) rfl (by decide) rfl rfl (Nat.le_of_ble_eq_true rfl) dX11_next_56 (by decide) ?_
    cases hL
    exact j_xreti (by decide) dX11_next_59 rfl hK
  · subst eq6
    cases hL
    exact hK

