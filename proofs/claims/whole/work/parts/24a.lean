def f_X11_bookAt (v1 : Int32) (h : AH) : Option (XR Nat) := if v1 < 0 then some (.inr (0, h)) else if v1 < 6 then gd (ib v1 6 = true) (gd (SH (hra h 3 (cl v1)) = (0, 0)) (some (.inl (hra h 3 (cl v1), h)))) else some (.inr (0, h))
set_option maxRecDepth 20000 in
theorem c_X11_bookAt (G : GG) (v1 : Int32) (h : AH) (r : XR Nat) (hL : f_X11_bookAt v1 h = some r) : SpXg G 7 1 mX11_bookAt [.ref (ad G 0), .int v1] h (vmR G) r := by
  refine wsx_of pn_RX11 (Nat.le_of_ble_eq_true rfl) ?_
  show J G mX11_bookAt 7 1 0 (KXg G 1 (vmR G) r) 0 [(0, .ref (ad G 0)), (1, .int v1)] [] h
  obtain ⟨K, hK⟩ : ∃ K, K = KXg G 1 (vmR G) r := ⟨_, rfl⟩
  rw [← hK]
  unfold f_X11_bookAt at hL
  refine j_iload_n 1 dX11_bookAt_0 rfl ?_
  refine j_if_lt 10 dX11_bookAt_1 (by decide) (fun z1 => ?_) (fun z1 => ?_)
  · replace hL := (if_pos z1).symm.trans hL
    cases hL
    exact j_thrNW kc_yX11_bookAt rfl (List.mem_of_getElem? (i := 0) rfl) (by decide) (by decide) (Nat.le_of_ble_eq_true rfl) dX11_bookAt_10 dX11_bookAt_13 dX11_bookAt_14 dX11_bookAt_17 dX11_bookAt_20 hK
  · replace hL := (if_neg z1).symm.trans hL
    refine j_iload_n 1 dX11_bookAt_4 rfl ?_
    refine j_bipush 6 dX11_bookAt_5 (by decide) ?_
    refine j_icmp_lt 21 dX11_bookAt_7 (by decide) (fun z2 => ?_) (fun z2 => ?_)
    · replace hL := (if_pos z2).symm.trans hL
      refine j_aload_n 0 dX11_bookAt_21 rfl ?_
      refine jg_RX11_18 rfl sh_0 dX11_bookAt_22 ?_
      refine j_iload_n 1 dX11_bookAt_25 rfl ?_
      obtain ⟨g3, hL⟩ := gd_ex hL
      refine j_aldB (shf_11_1 sh_0) (ib_in g3) dX11_bookAt_26 ?_
      obtain ⟨g4, hL⟩ := gd_ex hL
      cases hL
      exact j_xretr (by decide) dX11_bookAt_27 rfl hK
    · replace hL := (if_neg z2).symm.trans hL
      cases hL
      exact j_thrNW kc_yX11_bookAt rfl (List.mem_of_getElem? (i := 0) rfl) (by decide) (by decide) (Nat.le_of_ble_eq_true rfl) dX11_bookAt_10 dX11_bookAt_13 dX11_bookAt_14 dX11_bookAt_17 dX11_bookAt_20 hK

def f_X11_checkOnTape (v1 : Int32) (h : AH) : Option (XR Unit) := if v1 < 0 then some (.inr (1, h)) else if v1 ≤ (hfi h 1 0) then some (.inl ((), h)) else some (.inr (1, h))
set_option maxRecDepth 20000 in
theorem c_X11_checkOnTape (G : GG) (v1 : Int32) (h : AH) (r : XR Unit) (hL : f_X11_checkOnTape v1 h = some r) : SpXg G 7 1 mX11_checkOnTape [.ref (ad G 0), .int v1] h vmV r := by
  refine wsx_of pn_RX11 (Nat.le_of_ble_eq_true rfl) ?_
  show J G mX11_checkOnTape 7 1 0 (KXg G 1 vmV r) 0 [(0, .ref (ad G 0)), (1, .int v1)] [] h
  obtain ⟨K, hK⟩ : ∃ K, K = KXg G 1 vmV r := ⟨_, rfl⟩
  rw [← hK]
  unfold f_X11_checkOnTape at hL
  refine j_iload_n 1 dX11_checkOnTape_0 rfl ?_
  refine j_if_lt 15 dX11_checkOnTape_1 (by decide) (fun z1 => ?_) (fun z1 => ?_)
  · replace hL := (if_pos z1).symm.trans hL
    cases hL
    exact j_thrIW kc_yX11_checkOnTape rfl (List.mem_of_getElem? (i := 1) rfl) (by decide) (by decide) (Nat.le_of_ble_eq_true rfl) dX11_checkOnTape_15 dX11_checkOnTape_18 dX11_checkOnTape_19 dX11_checkOnTape_22 dX11_checkOnTape_25 hK
  · replace hL := (if_neg z1).symm.trans hL
    refine j_iload_n 1 dX11_checkOnTape_4 rfl ?_
    refine j_aload_n 0 dX11_checkOnTape_5 rfl ?_
    refine jg_RX11_10 rfl sh_0 dX11_checkOnTape_6 ?_
    refine jg_RX11_110 rfl (shf_11_0 sh_0) dX11_checkOnTape_9 ?_
    refine j_icmp_le 26 dX11_checkOnTape_12 (by decide) (fun z2 => ?_) (fun z2 => ?_)
    · replace hL := (if_pos z2).symm.trans hL
      cases hL
      exact j_xretv (by decide) dX11_checkOnTape_26 rfl hK
    · replace hL := (if_neg z2).symm.trans hL
      cases hL
      exact j_thrIW kc_yX11_checkOnTape rfl (List.mem_of_getElem? (i := 1) rfl) (by decide) (by decide) (Nat.le_of_ble_eq_true rfl) dX11_checkOnTape_15 dX11_checkOnTape_18 dX11_checkOnTape_19 dX11_checkOnTape_22 dX11_checkOnTape_25 hK

def f_X11_book (v1 : Int32) (v2 : Int32) (h : AH) : Option (XR Int32) := bnd (f_X11_bookAt v1 h) (fun q1 => Sum.elim (fun xq1 => gd (SH xq1.1 = (0, 0)) (bnd (f_X11_checkOnTape v2 xq1.2) (fun q3 => Sum.elim (fun xq3 => bnd (f_X7_begin 1 v2 xq3.2) (fun q4 => gd (SH (hra q4 0 4) = (0, 0)) (bnd (f_X0_write (hra q4 0 4) 1 q4) (fun q6 => if (hfi q6 1 1) = 0 then gd (SH (hra q6 0 4) = (0, 0)) (gd (ib v1 6 = true) (lt (sra q6 3 (cl v1) (hra q6 0 4)) (fun h11 => lt (sra h11 0 4 xq1.1) (fun h12 => bnd (f_X11_written h12) (fun q13 => some (.inl (q13.1, q13.2))))))) else bnd (f_X11_written q6) (fun q8 => some (.inl (q8.1, q8.2))))))) (fun xq3 => some (.inr xq3)) q3))) (fun xq1 => some (.inr xq1)) q1)
set_option maxRecDepth 20000 in
theorem c_X11_book (G : GG) (v1 : Int32) (v2 : Int32) (h : AH) (r : XR Int32) (hL : f_X11_book v1 v2 h = some r) : SpXg G 10 2 mX11_book [.ref (ad G 0), .int v1, .int v2] h vmI r := by
  refine wsx_of pn_RX11 (Nat.le_of_ble_eq_true rfl) ?_
  show J G mX11_book 10 2 0 (KXg G 2 vmI r) 0 [(0, .ref (ad G 0)), (1, .int v1), (2, .int v2)] [] h
  obtain ⟨K, hK⟩ : ∃ K, K = KXg G 2 vmI r := ⟨_, rfl⟩
  rw [← hK]
  unfold f_X11_book at hL
  refine j_aload_n 0 dX11_book_0 rfl ?_
  refine j_iload_n 1 dX11_book_1 rfl ?_
  obtain ⟨q1, hq1, hL⟩ := bnd_ex hL
  refine j_callVx (vm2 := vmI) (c_X11_bookAt G v1 h _ hq1) cv_RX11_118 rfl sh_0 (by decide) rfl (by decide) rfl rfl (Nat.le_of_ble_eq_true rfl) dX11_book_2 (by decide) kc_yX11_book (fun xq1 eq1 => ?_) (fun xq1 eq1 => ?_)
  rotate_left
  · subst eq1
    replace hL : some (Sum.inr xq1) = some r := hL
    cases hL
    exact hK
  subst eq1
  refine j_eq (st' := [.ref (ad G xq1.1)]) rfl rfl ?_
  obtain ⟨g2, hL⟩ := gd_ex hL
  refine j_astore_n (lv' := [(3, .ref (ad G xq1.1)), (0, .ref (ad G 0)), (1, .int v1), (2, .int v2)]) dX11_book_5 (by decide) rfl ?_
  refine j_aload_n 1 dX11_book_6 rfl ?_
  refine j_iload_n 3 dX11_book_7 rfl ?_
  obtain ⟨q3, hq3, hL⟩ := bnd_ex hL
  refine j_callVx (vm2 := vmI) (c_X11_checkOnTape G v2 xq1.2 _ hq3) cv_RX11_122 rfl sh_0 (by decide) rfl (by decide) rfl rfl (Nat.le_of_ble_eq_true rfl) dX11_book_8 (by decide) kc_yX11_book (fun xq3 eq3 => ?_) (fun xq3 eq3 => ?_)
  rotate_left
  · subst eq3
    replace hL : some (Sum.inr xq3) = some r := hL
    cases hL
    exact hK
  subst eq3
  refine j_eq (st' := []) rfl rfl ?_
  refine j_aload_n 1 dX11_book_11 rfl ?_
  refine jg_RX11_10 rfl sh_0 dX11_book_12 ?_
  refine j_iload_n 3 dX11_book_15 rfl ?_
  obtain ⟨q4, hq4, hL⟩ := bnd_ex hL
  refine j_callVv (c_X7_begin G 1 (shf_11_0 sh_0) v2 xq3.2 _ hq4) cv_RX11_125 rfl (shf_11_0 sh_0) (by decide) rfl (by decide) rfl rfl (Nat.le_of_ble_eq_true rfl) dX11_book_16 (by decide) ?_
  refine j_aload_n 1 dX11_book_19 rfl ?_
  refine jg_RX11_36 rfl sh_0 dX11_book_20 ?_
  obtain ⟨g5, hL⟩ := gd_ex hL
  refine j_aload_n 1 dX11_book_23 rfl ?_
  refine jg_RX11_10 rfl sh_0 dX11_book_24 ?_
  obtain ⟨q6, hq6, hL⟩ := bnd_ex hL
  refine j_callVv (c_X0_write G (hra q4 0 4) g5 1 (shf_11_0 sh_0) q4 _ hq6) cv_RX11_128 rfl g5 (by decide) rfl (by decide) rfl rfl (Nat.le_of_ble_eq_true rfl) dX11_book_27 (by decide) ?_
  refine j_aload_n 1 dX11_book_30 rfl ?_
  refine jg_RX11_10 rfl sh_0 dX11_book_31 ?_
  refine jg_RX11_132 rfl (shf_11_0 sh_0) dX11_book_34 ?_
  refine j_if_ne 55 dX11_book_37 (by decide) (fun z7 => ?_) (fun z7 => ?_)
  · replace hL := (if_neg z7).symm.trans hL
    refine j_aload_n 1 dX11_book_55 rfl ?_
    obtain ⟨q8, hq8, hL⟩ := bnd_ex hL
    refine j_callVi (c_X11_written G  q6 _ hq8) cv_RX11_135 rfl sh_0 (by decide) rfl (by decide) rfl rfl (Nat.le_of_ble_eq_true rfl) dX11_book_56 (by decide) ?_
    cases hL
    exact j_xreti (by decide) dX11_book_59 rfl hK
  · replace hL := (if_pos z7).symm.trans hL
    refine j_aload_n 1 dX11_book_40 rfl ?_
    refine jg_RX11_18 rfl sh_0 dX11_book_41 ?_
    refine j_iload_n 2 dX11_book_44 rfl ?_
    refine j_aload_n 1 dX11_book_45 rfl ?_
    refine jg_RX11_36 rfl sh_0 dX11_book_46 ?_
    obtain ⟨g9, hL⟩ := gd_ex hL
    obtain ⟨g10, hL⟩ := gd_ex hL
    refine j_astB (shf_11_1 sh_0) g9 (ib_in g10) dX11_book_49 ?_
    obtain ⟨h11, eh11, hL⟩ := lt_ex hL
    refine j_heap eh11 ?_
    refine j_aload_n 1 dX11_book_50 rfl ?_
    refine j_aload_n 0 dX11_book_51 rfl ?_
    refine jp_RX11_36 rfl sh_0 dX11_book_52 ?_
    obtain ⟨h12, eh12, hL⟩ := lt_ex hL
    refine j_heap eh12 ?_
    refine j_aload_n 1 dX11_book_55 rfl ?_
    obtain ⟨q13, hq13, hL⟩ := bnd_ex hL
    refine j_callVi (c_X11_written G  h12 _ hq13) cv_RX11_135 rfl sh_0 (by decide) rfl (by decide) rfl rfl (Nat.le_of_ble_eq_true rfl) dX11_book_56 (by decide) ?_
    cases hL
    exact j_xreti (by decide) dX11_book_59 rfl hK

def f_X11_law (v1 : Int32) (h : AH) : Option (XR Int32) := bnd (f_X11_checkOnTape v1 h) (fun q1 => Sum.elim (fun xq1 => bnd (f_X7_begin 1 v1 xq1.2) (fun q2 => gd (SH (hra q2 0 6) = (5, 0)) (bnd (f_X5_write (hra q2 0 6) 1 q2) (fun q4 => if (hfi q4 1 1) = 0 then gd (SH (hra q4 0 3) = (5, 0)) (gd (SH (hra q4 0 6) = (5, 0)) (lt (sra q4 0 3 (hra q4 0 6)) (fun h9 => lt (sra h9 0 6 (hra q4 0 3)) (fun h10 => bnd (f_X11_written h10) (fun q11 => some (.inl (q11.1, q11.2))))))) else bnd (f_X11_written q4) (fun q6 => some (.inl (q6.1, q6.2))))))) (fun xq1 => some (.inr xq1)) q1)
set_option maxRecDepth 20000 in
theorem c_X11_law (G : GG) (v1 : Int32) (h : AH) (r : XR Int32) (hL : f_X11_law v1 h = some r) : SpXg G 9 1 mX11_law [.ref (ad G 0), .int v1] h vmI r := by
  refine wsx_of pn_RX11 (Nat.le_of_ble_eq_true rfl) ?_
  show J G mX11_law 9 1 0 (KXg G 1 vmI r) 0 [(0, .ref (ad G 0)), (1, .int v1)] [] h
  obtain ⟨K, hK⟩ : ∃ K, K = KXg G 1 vmI r := ⟨_, rfl⟩
  rw [← hK]
  unfold f_X11_law at hL
  refine j_aload_n 0 dX11_law_0 rfl ?_
  refine j_iload_n 1 dX11_law_1 rfl ?_
  obtain ⟨q1, hq1, hL⟩ := bnd_ex hL
  refine j_callVx (vm2 := vmI) (c_X11_checkOnTape G v1 h _ hq1) cv_RX11_122 rfl sh_0 (by decide) rfl (by decide) rfl rfl (Nat.le_of_ble_eq_true rfl) dX11_law_2 (by decide) kc_yX11_law (fun xq1 eq1 => ?_) (fun xq1 eq1 => ?_)
  rotate_left
  · subst eq1
    replace hL : some (Sum.inr xq1) = some r := hL
    cases hL
    exact hK
  subst eq1
  refine j_eq (st' := []) rfl rfl ?_
  refine j_aload_n 0 dX11_law_5 rfl ?_
  refine jg_RX11_10 rfl sh_0 dX11_law_6 ?_
  refine j_iload_n 1 dX11_law_9 rfl ?_
  obtain ⟨q2, hq2, hL⟩ := bnd_ex hL
  refine j_callVv (c_X7_begin G 1 (shf_11_0 sh_0) v1 xq1.2 _ hq2) cv_RX11_125 rfl (shf_11_0 sh_0) (by decide) rfl (by decide) rfl rfl (Nat.le_of_ble_eq_true rfl) dX11_law_10 (by decide) ?_
  refine j_aload_n 0 dX11_law_13 rfl ?_
  refine jg_RX11_45 rfl sh_0 dX11_law_14 ?_
  obtain ⟨g3, hL⟩ := gd_ex hL
  refine j_aload_n 0 dX11_law_17 rfl ?_
  refine jg_RX11_10 rfl sh_0 dX11_law_18 ?_
  obtain ⟨q4, hq4, hL⟩ := bnd_ex hL
  refine j_callVv (c_X5_write G (hra q2 0 6) g3 1 (shf_11_0 sh_0) q2 _ hq4) cv_RX11_139 rfl g3 (by decide) rfl (by decide) rfl rfl (Nat.le_of_ble_eq_true rfl) dX11_law_21 (by decide) ?_
  refine j_aload_n 0 dX11_law_24 rfl ?_
  refine jg_RX11_10 rfl sh_0 dX11_law_25 ?_
  refine jg_RX11_132 rfl (shf_11_0 sh_0) dX11_law_28 ?_
  refine j_if_ne 52 dX11_law_31 (by decide) (fun z5 => ?_) (fun z5 => ?_)
  · replace hL := (if_neg z5).symm.trans hL
    refine j_aload_n 0 dX11_law_52 rfl ?_
    obtain ⟨q6, hq6, hL⟩ := bnd_ex hL
    refine j_callVi (c_X11_written G  q4 _ hq6) cv_RX11_135 rfl sh_0 (by decide) rfl (by decide) rfl rfl (Nat.le_of_ble_eq_true rfl) dX11_law_53 (by decide) ?_
    cases hL
    exact j_xreti (by decide) dX11_law_56 rfl hK
  · replace hL := (if_pos z5).symm.trans hL
    refine j_aload_n 0 dX11_law_34 rfl ?_
    refine jg_RX11_31 rfl sh_0 dX11_law_35 ?_
    obtain ⟨g7, hL⟩ := gd_ex hL
    refine j_astore_n (lv' := [(2, .ref (ad G (hra q4 0 3))), (0, .ref (ad G 0)), (1, .int v1)]) dX11_law_38 (by decide) rfl ?_
    refine j_aload_n 1 dX11_law_39 rfl ?_
    refine j_aload_n 1 dX11_law_40 rfl ?_
    refine jg_RX11_45 rfl sh_0 dX11_law_41 ?_
    obtain ⟨g8, hL⟩ := gd_ex hL
    refine jp_RX11_31 rfl sh_0 dX11_law_44 ?_
    obtain ⟨h9, eh9, hL⟩ := lt_ex hL
    refine j_heap eh9 ?_
    refine j_aload_n 1 dX11_law_47 rfl ?_
    refine j_aload_n 0 dX11_law_48 rfl ?_
    refine jp_RX11_45 rfl sh_0 dX11_law_49 ?_
    obtain ⟨h10, eh10, hL⟩ := lt_ex hL
    refine j_heap eh10 ?_
    refine j_aload_n 1 dX11_law_52 rfl ?_
    obtain ⟨q11, hq11, hL⟩ := bnd_ex hL
    refine j_callVi (c_X11_written G  h10 _ hq11) cv_RX11_135 rfl sh_0 (by decide) rfl (by decide) rfl rfl (Nat.le_of_ble_eq_true rfl) dX11_law_53 (by decide) ?_
    cases hL
    exact j_xreti (by decide) dX11_law_56 rfl hK

def f_X11_wayAt (v1 : Int32) (h : AH) : Option (XR Nat) := if v1 < 0 then some (.inr (0, h)) else if v1 < 6 then gd (ib v1 6 = true) (gd (SH (hra h 4 (cl v1)) = (10, 0)) (some (.inl (hra h 4 (cl v1), h)))) else some (.inr (0, h))
set_option maxRecDepth 20000 in
theorem c_X11_wayAt (G : GG) (v1 : Int32) (h : AH) (r : XR Nat) (hL : f_X11_wayAt v1 h = some r) : SpXg G 7 1 mX11_wayAt [.ref (ad G 0), .int v1] h (vmR G) r := by
  refine wsx_of pn_RX11 (Nat.le_of_ble_eq_true rfl) ?_
  show J G mX11_wayAt 7 1 0 (KXg G 1 (vmR G) r) 0 [(0, .ref (ad G 0)), (1, .int v1)] [] h
  obtain ⟨K, hK⟩ : ∃ K, K = KXg G 1 (vmR G) r := ⟨_, rfl⟩
  rw [← hK]
  unfold f_X11_wayAt at hL
  refine j_iload_n 1 dX11_wayAt_0 rfl ?_
  refine j_if_lt 10 dX11_wayAt_1 (by decide) (fun z1 => ?_) (fun z1 => ?_)
  · replace hL := (if_pos z1).symm.trans hL
    cases hL
    exact j_thrNW kc_yX11_wayAt rfl (List.mem_of_getElem? (i := 11) rfl) (by decide) (by decide) (Nat.le_of_ble_eq_true rfl) dX11_wayAt_10 dX11_wayAt_13 dX11_wayAt_14 dX11_wayAt_17 dX11_wayAt_20 hK
  · replace hL := (if_neg z1).symm.trans hL
    refine j_iload_n 1 dX11_wayAt_4 rfl ?_
    refine j_bipush 6 dX11_wayAt_5 (by decide) ?_
    refine j_icmp_lt 21 dX11_wayAt_7 (by decide) (fun z2 => ?_) (fun z2 => ?_)
    · replace hL := (if_pos z2).symm.trans hL
      refine j_aload_n 0 dX11_wayAt_21 rfl ?_
      refine jg_RX11_24 rfl sh_0 dX11_wayAt_22 ?_
      refine j_iload_n 1 dX11_wayAt_25 rfl ?_
      obtain ⟨g3, hL⟩ := gd_ex hL
      refine j_aldW (shf_11_2 sh_0) (ib_in g3) dX11_wayAt_26 ?_
      obtain ⟨g4, hL⟩ := gd_ex hL
      cases hL
      exact j_xretr (by decide) dX11_wayAt_27 rfl hK
    · replace hL := (if_neg z2).symm.trans hL
      cases hL
      exact j_thrNW kc_yX11_wayAt rfl (List.mem_of_getElem? (i := 11) rfl) (by decide) (by decide) (Nat.le_of_ble_eq_true rfl) dX11_wayAt_10 dX11_wayAt_13 dX11_wayAt_14 dX11_wayAt_17 dX11_wayAt_20 hK

def f_X11_way (v1 : Int32) (v2 : Int32) (h : AH) : Option (XR Int32) := bnd (f_X11_wayAt v1 h) (fun q1 => Sum.elim (fun xq1 => gd (SH xq1.1 = (10, 0)) (bnd (f_X11_checkOnTape v2 xq1.2) (fun q3 => Sum.elim (fun xq3 => bnd (f_X7_begin 1 v2 xq3.2) (fun q4 => gd (SH (hra q4 0 5) = (10, 0)) (bnd (f_X10_write (hra q4 0 5) 1 q4) (fun q6 => if (hfi q6 1 1) = 0 then gd (SH (hra q6 0 5) = (10, 0)) (gd (ib v1 6 = true) (lt (sra q6 4 (cl v1) (hra q6 0 5)) (fun h11 => lt (sra h11 0 5 xq1.1) (fun h12 => bnd (f_X11_written h12) (fun q13 => some (.inl (q13.1, q13.2))))))) else bnd (f_X11_written q6) (fun q8 => some (.inl (q8.1, q8.2))))))) (fun xq3 => some (.inr xq3)) q3))) (fun xq1 => some (.inr xq1)) q1)
set_option maxRecDepth 20000 in
theorem c_X11_way (G : GG) (v1 : Int32) (v2 : Int32) (h : AH) (r : XR Int32) (hL : f_X11_way v1 v2 h = some r) : SpXg G 9 2 mX11_way [.ref (ad G 0), .int v1, .int v2] h vmI r := by
  refine wsx_of pn_RX11 (Nat.le_of_ble_eq_true rfl) ?_
  show J G mX11_way 9 2 0 (KXg G 2 vmI r) 0 [(0, .ref (ad G 0)), (1, .int v1), (2, .int v2)] [] h
  obtain ⟨K, hK⟩ : ∃ K, K = KXg G 2 vmI r := ⟨_, rfl⟩
  rw [← hK]
  unfold f_X11_way at hL
  refine j_aload_n 0 dX11_way_0 rfl ?_
  refine j_iload_n 1 dX11_way_1 rfl ?_
  obtain ⟨q1, hq1, hL⟩ := bnd_ex hL
  refine j_callVx (vm2 := vmI) (c_X11_wayAt G v1 h _ hq1) cv_RX11_140 rfl sh_0 (by decide) rfl (by decide) rfl rfl (Nat.le_of_ble_eq_true rfl) dX11_way_2 (by decide) kc_yX11_way (fun xq1 eq1 => ?_) (fun xq1 eq1 => ?_)
  rotate_left
  · subst eq1
    replace hL : some (Sum.inr xq1) = some r := hL
    cases hL
    exact hK
  subst eq1
  refine j_eq (st' := [.ref (ad G xq1.1)]) rfl rfl ?_
  obtain ⟨g2, hL⟩ := gd_ex hL
  refine j_astore_n (lv' := [(3, .ref (ad G xq1.1)), (0, .ref (ad G 0)), (1, .int v1), (2, .int v2)]) dX11_way_5 (by decide) rfl ?_
  refine j_aload_n 1 dX11_way_6 rfl ?_
  refine j_iload_n 3 dX11_way_7 rfl ?_
  obtain ⟨q3, hq3, hL⟩ := bnd_ex hL
  refine j_callVx (vm2 := vmI) (c_X11_checkOnTape G v2 xq1.2 _ hq3) cv_RX11_122 rfl sh_0 (by decide) rfl (by decide) rfl rfl (Nat.le_of_ble_eq_true rfl) dX11_way_8 (by decide) kc_yX11_way (fun xq3 eq3 => ?_) (fun xq3 eq3 => ?_)
  rotate_left
  · subst eq3
    replace hL : some (Sum.inr xq3) = some r := hL
    cases hL
    exact hK
  subst eq3
  refine j_eq (st' := []) rfl rfl ?_
  refine j_aload_n 1 dX11_way_11 rfl ?_
  refine jg_RX11_10 rfl sh_0 dX11_way_12 ?_
  refine j_iload_n 3 dX11_way_15 rfl ?_
  obtain ⟨q4, hq4, hL⟩ := bnd_ex hL
  refine j_callVv (c_X7_begin G 1 (shf_11_0 sh_0) v2 xq3.2 _ hq4) cv_RX11_125 rfl (shf_11_0 sh_0) (by decide) rfl (by decide) rfl rfl (Nat.le_of_ble_eq_true rfl) dX11_way_16 (by decide) ?_
  refine j_aload_n 1 dX11_way_19 rfl ?_
  refine jg_RX11_41 rfl sh_0 dX11_way_20 ?_
  obtain ⟨g5, hL⟩ := gd_ex hL
  refine j_aload_n 1 dX11_way_23 rfl ?_
  refine jg_RX11_10 rfl sh_0 dX11_way_24 ?_
  obtain ⟨q6, hq6, hL⟩ := bnd_ex hL
  refine j_callVv (c_X10_write G (hra q4 0 5) g5 1 (shf_11_0 sh_0) q4 _ hq6) cv_RX11_144 rfl g5 (by decide) rfl (by decide) rfl rfl (Nat.le_of_ble_eq_true rfl) dX11_way_27 (by decide) ?_
  refine j_aload_n 1 dX11_way_30 rfl ?_
  refine jg_RX11_10 rfl sh_0 dX11_way_31 ?_
  refine jg_RX11_132 rfl (shf_11_0 sh_0) dX11_way_34 ?_
  refine j_if_ne 55 dX11_way_37 (by decide) (fun z7 => ?_) (fun z7 => ?_)
  · replace hL := (if_neg z7).symm.trans hL
    refine j_aload_n 1 dX11_way_55 rfl ?_
    obtain ⟨q8, hq8, hL⟩ := bnd_ex hL
    refine j_callVi (c_X11_written G  q6 _ hq8) cv_RX11_135 rfl sh_0 (by decide) rfl (by decide) rfl rfl (Nat.le_of_ble_eq_true rfl) dX11_way_56 (by decide) ?_
    cases hL
    exact j_xreti (by decide) dX11_way_59 rfl hK
  · replace hL := (if_pos z7).symm.trans hL
    refine j_aload_n 1 dX11_way_40 rfl ?_
    refine jg_RX11_24 rfl sh_0 dX11_way_41 ?_
    refine j_iload_n 2 dX11_way_44 rfl ?_
    refine j_aload_n 1 dX11_way_45 rfl ?_
    refine jg_RX11_41 rfl sh_0 dX11_way_46 ?_
    obtain ⟨g9, hL⟩ := gd_ex hL
    obtain ⟨g10, hL⟩ := gd_ex hL
    refine j_astW (shf_11_2 sh_0) g9 (ib_in g10) dX11_way_49 ?_
    obtain ⟨h11, eh11, hL⟩ := lt_ex hL
    refine j_heap eh11 ?_
    refine j_aload_n 1 dX11_way_50 rfl ?_
    refine j_aload_n 0 dX11_way_51 rfl ?_
    refine jp_RX11_41 rfl sh_0 dX11_way_52 ?_
    obtain ⟨h12, eh12, hL⟩ := lt_ex hL
    refine j_heap eh12 ?_
    refine j_aload_n 1 dX11_way_55 rfl ?_
    obtain ⟨q13, hq13, hL⟩ := bnd_ex hL
    refine j_callVi (c_X11_written G  h12 _ hq13) cv_RX11_135 rfl sh_0 (by decide) rfl (by decide) rfl rfl (Nat.le_of_ble_eq_true rfl) dX11_way_56 (by decide) ?_
    cases hL
    exact j_xreti (by decide) dX11_way_59 rfl hK

def f_X11_statusAt (v1 : Int32) (h : AH) : Option (XR Int32) := if v1 < 0 then some (.inr (0, h)) else if v1 < 4 then gd (ib v1 4 = true) (some (.inl (hia h 31 (cl v1), h))) else some (.inr (0, h))
set_option maxRecDepth 20000 in
theorem c_X11_statusAt (G : GG) (v1 : Int32) (h : AH) (r : XR Int32) (hL : f_X11_statusAt v1 h = some r) : SpXg G 7 1 mX11_statusAt [.ref (ad G 0), .int v1] h vmI r := by
  refine wsx_of pn_RX11 (Nat.le_of_ble_eq_true rfl) ?_
  show J G mX11_statusAt 7 1 0 (KXg G 1 vmI r) 0 [(0, .ref (ad G 0)), (1, .int v1)] [] h
  obtain ⟨K, hK⟩ : ∃ K, K = KXg G 1 vmI r := ⟨_, rfl⟩
  rw [← hK]
  unfold f_X11_statusAt at hL
  refine j_iload_n 1 dX11_statusAt_0 rfl ?_
  refine j_if_lt 9 dX11_statusAt_1 (by decide) (fun z1 => ?_) (fun z1 => ?_)
  · replace hL := (if_pos z1).symm.trans hL
    cases hL
    exact j_thrN kc_yX11_statusAt rfl (List.mem_of_getElem? (i := 14) rfl) (by decide) (by decide) (Nat.le_of_ble_eq_true rfl) dX11_statusAt_9 dX11_statusAt_12 dX11_statusAt_13 dX11_statusAt_15 dX11_statusAt_18 hK
  · replace hL := (if_neg z1).symm.trans hL
    refine j_iload_n 1 dX11_statusAt_4 rfl ?_
    refine j_iconst 4 dX11_statusAt_5 (by decide) ?_
    refine j_icmp_lt 19 dX11_statusAt_6 (by decide) (fun z2 => ?_) (fun z2 => ?_)
    · replace hL := (if_pos z2).symm.trans hL
      refine j_aload_n 0 dX11_statusAt_19 rfl ?_
      refine jg_RX11_55 rfl sh_0 dX11_statusAt_20 ?_
      refine j_iload_n 1 dX11_statusAt_23 rfl ?_
      obtain ⟨g3, hL⟩ := gd_ex hL
      refine j_iald (shf_11_8 sh_0) (ib_in g3) dX11_statusAt_24 ?_
      cases hL
      exact j_xreti (by decide) dX11_statusAt_25 rfl hK
    · replace hL := (if_neg z2).symm.trans hL
      cases hL
      exact j_thrN kc_yX11_statusAt rfl (List.mem_of_getElem? (i := 14) rfl) (by decide) (by decide) (Nat.le_of_ble_eq_true rfl) dX11_statusAt_9 dX11_statusAt_12 dX11_statusAt_13 dX11_statusAt_15 dX11_statusAt_18 hK

def f_X11_count (v1 : Int32) (h : AH) : Option (XR Int32) := if v1 = 0 then gd (SH (hra h 0 3) = (5, 0)) (some (.inl (hfi h (hra h 0 3) 0, h))) else (if v1 = 1 then gd (SH (hra h 0 3) = (5, 0)) (some (.inl (hfi h (hra h 0 3) 1, h))) else (if v1 = 2 then gd (SH (hra h 0 3) = (5, 0)) (some (.inl (hfi h (hra h 0 3) 2, h))) else (if v1 = 3 then some (.inl (hfi h 1 0, h)) else (if v1 = 4 then some (.inl (hfi h 28 0, h)) else (bnd (f_X11_statusAt (v1 - 5) h) (fun q9 => Sum.elim (fun xq9 => some (.inl (xq9.1, xq9.2))) (fun xq9 => some (.inr xq9)) q9))))))
set_option maxRecDepth 20000 in
theorem c_X11_count (G : GG) (v1 : Int32) (h : AH) (r : XR Int32) (hL : f_X11_count v1 h = some r) : SpXg G 8 1 mX11_count [.ref (ad G 0), .int v1] h vmI r := by
  refine wsx_of pn_RX11 (Nat.le_of_ble_eq_true rfl) ?_
  show J G mX11_count 8 1 0 (KXg G 1 vmI r) 0 [(0, .ref (ad G 0)), (1, .int v1)] [] h
  obtain ⟨K, hK⟩ : ∃ K, K = KXg G 1 vmI r := ⟨_, rfl⟩
  rw [← hK]
  unfold f_X11_count at hL
  refine j_iload_n 1 dX11_count_0 rfl ?_
  by_cases z1 : v1 = 0
  · replace hL := (if_pos z1).symm.trans hL
    refine j_swIn 36 dX11_count_1 (by rw [z1]; decide) (by rw [z1]; decide) (by rw [z1]; rfl) (by decide) ?_
    refine j_aload_n 0 dX11_count_36 rfl ?_
    refine jg_RX11_31 rfl sh_0 dX11_count_37 ?_
    obtain ⟨g2, hL⟩ := gd_ex hL
    refine jg_RX11_148 rfl g2 dX11_count_40 ?_
    cases hL
    exact j_xreti (by decide) dX11_count_43 rfl hK
  · replace hL := (if_neg z1).symm.trans hL
    by_cases z3 : v1 = 1
    · replace hL := (if_pos z3).symm.trans hL
      refine j_swIn 44 dX11_count_1 (by rw [z3]; decide) (by rw [z3]; decide) (by rw [z3]; rfl) (by decide) ?_
      refine j_aload_n 0 dX11_count_44 rfl ?_
      refine jg_RX11_31 rfl sh_0 dX11_count_45 ?_
      obtain ⟨g4, hL⟩ := gd_ex hL
      refine jg_RX11_151 rfl g4 dX11_count_48 ?_
      cases hL
      exact j_xreti (by decide) dX11_count_51 rfl hK
    · replace hL := (if_neg z3).symm.trans hL
      by_cases z5 : v1 = 2
      · replace hL := (if_pos z5).symm.trans hL
        refine j_swIn 52 dX11_count_1 (by rw [z5]; decide) (by rw [z5]; decide) (by rw [z5]; rfl) (by decide) ?_
        refine j_aload_n 0 dX11_count_52 rfl ?_
        refine jg_RX11_31 rfl sh_0 dX11_count_53 ?_
        obtain ⟨g6, hL⟩ := gd_ex hL
        refine jg_RX11_154 rfl g6 dX11_count_56 ?_
        cases hL
        exact j_xreti (by decide) dX11_count_59 rfl hK
      · replace hL := (if_neg z5).symm.trans hL
        by_cases z7 : v1 = 3
        · replace hL := (if_pos z7).symm.trans hL
          refine j_swIn 60 dX11_count_1 (by rw [z7]; decide) (by rw [z7]; decide) (by rw [z7]; rfl) (by decide) ?_
          refine j_aload_n 0 dX11_count_60 rfl ?_
          refine jg_RX11_10 rfl sh_0 dX11_count_61 ?_
          refine jg_RX11_110 rfl (shf_11_0 sh_0) dX11_count_64 ?_
          cases hL
          exact j_xreti (by decide) dX11_count_67 rfl hK
        · replace hL := (if_neg z7).symm.trans hL
          by_cases z8 : v1 = 4
          · replace hL := (if_pos z8).symm.trans hL
            refine j_swIn 68 dX11_count_1 (by rw [z8]; decide) (by rw [z8]; decide) (by rw [z8]; rfl) (by decide) ?_
            refine j_aload_n 0 dX11_count_68 rfl ?_
            refine jg_RX11_51 rfl sh_0 dX11_count_69 ?_
            refine jg_RX11_157 rfl (shf_11_7 sh_0) dX11_count_72 ?_
            cases hL
            exact j_xreti (by decide) dX11_count_75 rfl hK
          · replace hL := (if_neg z8).symm.trans hL
            refine j_swOut 76 dX11_count_1 (sw_out (by have wz1 := sw_ne z1 (k := 0) (by decide); have wz3 := sw_ne z3 (k := 1) (by decide); have wz5 := sw_ne z5 (k := 2) (by decide); have wz7 := sw_ne z7 (k := 3) (by decide); have wz8 := sw_ne z8 (k := 4) (by decide); omega)) (by decide) ?_
            refine j_aload_n 0 dX11_count_76 rfl ?_
            refine j_iload_n 1 dX11_count_77 rfl ?_
            refine j_iconst 5 dX11_count_78 (by decide) ?_
            refine j_isub dX11_count_79 ?_
            obtain ⟨q9, hq9, hL⟩ := bnd_ex hL
            refine j_callVx (vm2 := vmI) (c_X11_statusAt G (v1 - 5) h _ hq9) cv_RX11_160 rfl sh_0 (by decide) rfl (by decide) rfl rfl (Nat.le_of_ble_eq_true rfl) dX11_count_80 (by decide) kc_yX11_count (fun xq9 eq9 => ?_) (fun xq9 eq9 => ?_)
            rotate_left
            · subst eq9
              replace hL : some (Sum.inr xq9) = some r := hL
              cases hL
              exact hK
            subst eq9
            refine j_eq (st' := [.int xq9.1]) rfl rfl ?_
            cases hL
            exact j_xreti (by decide) dX11_count_83 rfl hK

def f_X11_about (v1 : Int32) (v2 : Int32) (h : AH) : Option (XR Int32) := bnd (f_X11_bookAt v1 h) (fun q1 => Sum.elim (fun xq1 => gd (SH xq1.1 = (0, 0)) (if v2 = 0 then some (.inl (hfi xq1.2 xq1.1 0, xq1.2)) else (if v2 = 1 then some (.inl (hfi xq1.2 xq1.1 1, xq1.2)) else (if v2 = 2 then some (.inl (hfi xq1.2 xq1.1 5, xq1.2)) else (if v2 = 3 then some (.inl (hfi xq1.2 xq1.1 3, xq1.2)) else (if v2 = 4 then bnd (f_X0_isKnown xq1.1 xq1.2) (fun q8 => if q8 = true then some (.inl (1, xq1.2)) else some (.inl (0, xq1.2))) else (if v2 = 5 then some (.inl (hfi xq1.2 xq1.1 4, xq1.2)) else (if v2 = 6 then some (.inl (hfi xq1.2 xq1.1 2, xq1.2)) else (some (.inr (0, xq1.2))))))))))) (fun xq1 => some (.inr xq1)) q1)
set_option maxRecDepth 20000 in
theorem c_X11_about (G : GG) (v1 : Int32) (v2 : Int32) (h : AH) (r : XR Int32) (hL : f_X11_about v1 v2 h = some r) : SpXg G 8 2 mX11_about [.ref (ad G 0), .int v1, .int v2] h vmI r := by
  refine wsx_of pn_RX11 (Nat.le_of_ble_eq_true rfl) ?_
  show J G mX11_about 8 2 0 (KXg G 2 vmI r) 0 [(0, .ref (ad G 0)), (1, .int v1), (2, .int v2)] [] h
  obtain ⟨K, hK⟩ : ∃ K, K = KXg G 2 vmI r := ⟨_, rfl⟩
  rw [← hK]
  unfold f_X11_about at hL
  refine j_aload_n 0 dX11_about_0 rfl ?_
  refine j_iload_n 1 dX11_about_1 rfl ?_
  obtain ⟨q1, hq1, hL⟩ := bnd_ex hL
  refine j_callVx (vm2 := vmI) (c_X11_bookAt G v1 h _ hq1) cv_RX11_118 rfl sh_0 (by decide) rfl (by decide) rfl rfl (Nat.le_of_ble_eq_true rfl) dX11_about_2 (by decide) kc_yX11_about (fun xq1 eq1 => ?_) (fun xq1 eq1 => ?_)
  rotate_left
  · subst eq1
    replace hL : some (Sum.inr xq1) = some r := hL
    cases hL
    exact hK
  subst eq1
  refine j_eq (st' := [.ref (ad G xq1.1)]) rfl rfl ?_
  obtain ⟨g2, hL⟩ := gd_ex hL
  refine j_astore_n (lv' := [(3, .ref (ad G xq1.1)), (0, .ref (ad G 0)), (1, .int v1), (2, .int v2)]) dX11_about_5 (by decide) rfl ?_
  refine j_iload_n 3 dX11_about_6 rfl ?_
  by_cases z3 : v2 = 0
  · replace hL := (if_pos z3).symm.trans hL
    refine j_swIn 48 dX11_about_7 (by rw [z3]; decide) (by rw [z3]; decide) (by rw [z3]; rfl) (by decide) ?_
    refine j_aload_n 0 dX11_about_48 rfl ?_
    refine jg_RX11_164 rfl g2 dX11_about_49 ?_
    cases hL
    exact j_xreti (by decide) dX11_about_52 rfl hK
  · replace hL := (if_neg z3).symm.trans hL
    by_cases z4 : v2 = 1
    · replace hL := (if_pos z4).symm.trans hL
      refine j_swIn 53 dX11_about_7 (by rw [z4]; decide) (by rw [z4]; decide) (by rw [z4]; rfl) (by decide) ?_
      refine j_aload_n 0 dX11_about_53 rfl ?_
      refine jg_RX11_167 rfl g2 dX11_about_54 ?_
      cases hL
      exact j_xreti (by decide) dX11_about_57 rfl hK
    · replace hL := (if_neg z4).symm.trans hL
      by_cases z5 : v2 = 2
      · replace hL := (if_pos z5).symm.trans hL
        refine j_swIn 58 dX11_about_7 (by rw [z5]; decide) (by rw [z5]; decide) (by rw [z5]; rfl) (by decide) ?_
        refine j_aload_n 0 dX11_about_58 rfl ?_
        refine jg_RX11_170 rfl g2 dX11_about_59 ?_
        cases hL
        exact j_xreti (by decide) dX11_about_62 rfl hK
      · replace hL := (if_neg z5).symm.trans hL
        by_cases z6 : v2 = 3
        · replace hL := (if_pos z6).symm.trans hL
          refine j_swIn 63 dX11_about_7 (by rw [z6]; decide) (by rw [z6]; decide) (by rw [z6]; rfl) (by decide) ?_
          refine j_aload_n 0 dX11_about_63 rfl ?_
          refine jg_RX11_173 rfl g2 dX11_about_64 ?_
          cases hL
          exact j_xreti (by decide) dX11_about_67 rfl hK
        · replace hL := (if_neg z6).symm.trans hL
          by_cases z7 : v2 = 4
          · replace hL := (if_pos z7).symm.trans hL
            refine j_swIn 68 dX11_about_7 (by rw [z7]; decide) (by rw [z7]; decide) (by rw [z7]; rfl) (by decide) ?_
            refine j_aload_n 0 dX11_about_68 rfl ?_
            obtain ⟨q8, hq8, hL⟩ := bnd_ex hL
            refine j_callVi (c_X0_isKnown G xq1.1 g2 xq1.2 _ hq8) cv_RX11_176 rfl g2 (by decide) rfl (by decide) rfl rfl (Nat.le_of_ble_eq_true rfl) dX11_about_69 (by decide) ?_
            refine j_ifz_eq 79 dX11_about_72 (by decide) (fun z9 => ?_) (fun z9 => ?_)
            · replace hL := (if_neg z9).symm.trans hL
              refine j_iconst 0 dX11_about_79 (by decide) ?_
              cases hL
              exact j_xreti (by decide) dX11_about_80 rfl hK
            · replace hL := (if_pos z9).symm.trans hL
              refine j_iconst 1 dX11_about_75 (by decide) ?_
              refine j_goto 80 dX11_about_76 (by decide) ?_
              cases hL
              exact j_xreti (by decide) dX11_about_80 rfl hK
          · replace hL := (if_neg z7).symm.trans hL
            by_cases z10 : v2 = 5
            · replace hL := (if_pos z10).symm.trans hL
              refine j_swIn 81 dX11_about_7 (by rw [z10]; decide) (by rw [z10]; decide) (by rw [z10]; rfl) (by decide) ?_
              refine j_aload_n 0 dX11_about_81 rfl ?_
              refine jg_RX11_180 rfl g2 dX11_about_82 ?_
              cases hL
              exact j_xreti (by decide) dX11_about_85 rfl hK
            · replace hL := (if_neg z10).symm.trans hL
              by_cases z11 : v2 = 6
              · replace hL := (if_pos z11).symm.trans hL
                refine j_swIn 86 dX11_about_7 (by rw [z11]; decide) (by rw [z11]; decide) (by rw [z11]; rfl) (by decide) ?_
                refine j_aload_n 0 dX11_about_86 rfl ?_
                refine jg_RX11_183 rfl g2 dX11_about_87 ?_
                cases hL
                exact j_xreti (by decide) dX11_about_90 rfl hK
              · replace hL := (if_neg z11).symm.trans hL
                refine j_swOut 91 dX11_about_7 (sw_out (by have wz3 := sw_ne z3 (k := 0) (by decide); have wz4 := sw_ne z4 (k := 1) (by decide); have wz5 := sw_ne z5 (k := 2) (by decide); have wz6 := sw_ne z6 (k := 3) (by decide); have wz7 := sw_ne z7 (k := 4) (by decide); have wz10 := sw_ne z10 (k := 5) (by decide); have wz11 := sw_ne z11 (k := 6) (by decide); omega)) (by decide) ?_
                cases hL
                exact j_thrN kc_yX11_about rfl (List.mem_of_getElem? (i := 14) rfl) (by decide) (by decide) (Nat.le_of_ble_eq_true rfl) dX11_about_91 dX11_about_94 dX11_about_95 dX11_about_97 dX11_about_100 hK

def f_X11_bookWithLeaf (v1 : Int32) (v2 : Int32) (h : AH) : Option (XR Nat) := bnd (f_X11_bookAt v1 h) (fun q1 => Sum.elim (fun xq1 => gd (SH xq1.1 = (0, 0)) (if v2 < 0 then some (.inr (0, xq1.2)) else if v2 < (hfi xq1.2 xq1.1 0) then some (.inl (xq1.1, xq1.2)) else some (.inr (0, xq1.2)))) (fun xq1 => some (.inr xq1)) q1)
set_option maxRecDepth 20000 in
theorem c_X11_bookWithLeaf (G : GG) (v1 : Int32) (v2 : Int32) (h : AH) (r : XR Nat) (hL : f_X11_bookWithLeaf v1 v2 h = some r) : SpXg G 8 2 mX11_bookWithLeaf [.ref (ad G 0), .int v1, .int v2] h (vmR G) r := by
  refine wsx_of pn_RX11 (Nat.le_of_ble_eq_true rfl) ?_
  show J G mX11_bookWithLeaf 8 2 0 (KXg G 2 (vmR G) r) 0 [(0, .ref (ad G 0)), (1, .int v1), (2, .int v2)] [] h
  obtain ⟨K, hK⟩ : ∃ K, K = KXg G 2 (vmR G) r := ⟨_, rfl⟩
  rw [← hK]
  unfold f_X11_bookWithLeaf at hL
  refine j_aload_n 0 dX11_bookWithLeaf_0 rfl ?_
  refine j_iload_n 1 dX11_bookWithLeaf_1 rfl ?_
  obtain ⟨q1, hq1, hL⟩ := bnd_ex hL
  refine j_callVx (vm2 := (vmR G)) (c_X11_bookAt G v1 h _ hq1) cv_RX11_118 rfl sh_0 (by decide) rfl (by decide) rfl rfl (Nat.le_of_ble_eq_true rfl) dX11_bookWithLeaf_2 (by decide) kc_yX11_bookWithLeaf (fun xq1 eq1 => ?_) (fun xq1 eq1 => ?_)
  rotate_left
  · subst eq1
    replace hL : some (Sum.inr xq1) = some r := hL
    cases hL
    exact hK
  subst eq1
  refine j_eq (st' := [.ref (ad G xq1.1)]) rfl rfl ?_
  obtain ⟨g2, hL⟩ := gd_ex hL
  refine j_astore_n (lv' := [(3, .ref (ad G xq1.1)), (0, .ref (ad G 0)), (1, .int v1), (2, .int v2)]) dX11_bookWithLeaf_5 (by decide) rfl ?_
  refine j_iload_n 3 dX11_bookWithLeaf_6 rfl ?_
  refine j_if_lt 18 dX11_bookWithLeaf_7 (by decide) (fun z3 => ?_) (fun z3 => ?_)
  · replace hL := (if_pos z3).symm.trans hL
    cases hL
    exact j_thrNW kc_yX11_bookWithLeaf rfl (List.mem_of_getElem? (i := 15) rfl) (by decide) (by decide) (Nat.le_of_ble_eq_true rfl) dX11_bookWithLeaf_18 dX11_bookWithLeaf_21 dX11_bookWithLeaf_22 dX11_bookWithLeaf_25 dX11_bookWithLeaf_28 hK
  · replace hL := (if_neg z3).symm.trans hL
    refine j_iload_n 3 dX11_bookWithLeaf_10 rfl ?_
    refine j_aload_n 0 dX11_bookWithLeaf_11 rfl ?_
    refine jg_RX11_164 rfl g2 dX11_bookWithLeaf_12 ?_
    refine j_icmp_lt 29 dX11_bookWithLeaf_15 (by decide) (fun z4 => ?_) (fun z4 => ?_)
    · replace hL := (if_pos z4).symm.trans hL
      refine j_aload_n 0 dX11_bookWithLeaf_29 rfl ?_
      cases hL
      exact j_xretr (by decide) dX11_bookWithLeaf_30 rfl hK
    · replace hL := (if_neg z4).symm.trans hL
      cases hL
      exact j_thrNW kc_yX11_bookWithLeaf rfl (List.mem_of_getElem? (i := 15) rfl) (by decide) (by decide) (Nat.le_of_ble_eq_true rfl) dX11_bookWithLeaf_18 dX11_bookWithLeaf_21 dX11_bookWithLeaf_22 dX11_bookWithLeaf_25 dX11_bookWithLeaf_28 hK

def f_X11_leaf (v1 : Int32) (v2 : Int32) (v3 : Int32) (h : AH) : Option (XR Int32) := bnd (f_X11_bookWithLeaf v1 v2 h) (fun q1 => Sum.elim (fun xq1 => gd (SH xq1.1 = (0, 0)) (if v3 = 0 then gd (ib v2 40 = true) (some (.inl (hia xq1.2 (xq1.1 + 1) (cl v2), xq1.2))) else (if v3 = 1 then gd (ib v2 40 = true) (some (.inl (hia xq1.2 (xq1.1 + 2) (cl v2), xq1.2))) else (if v3 = 2 then gd (ib v2 40 = true) (some (.inl (hia xq1.2 (xq1.1 + 3) (cl v2), xq1.2))) else (if v3 = 3 then gd (ib v2 40 = true) (some (.inl (hia xq1.2 (xq1.1 + 4) (cl v2), xq1.2))) else (if v3 = 4 then gd (ib v2 40 = true) (some (.inl (hia xq1.2 (xq1.1 + 5) (cl v2), xq1.2))) else (if v3 = 5 then gd (ib v2 40 = true) (some (.inl (hia xq1.2 (xq1.1 + 6) (cl v2), xq1.2))) else (some (.inr (0, xq1.2)))))))))) (fun xq1 => some (.inr xq1)) q1)
set_option maxRecDepth 20000 in
theorem c_X11_leaf (G : GG) (v1 : Int32) (v2 : Int32) (v3 : Int32) (h : AH) (r : XR Int32) (hL : f_X11_leaf v1 v2 v3 h = some r) : SpXg G 9 3 mX11_leaf [.ref (ad G 0), .int v1, .int v2, .int v3] h vmI r := by
  refine wsx_of pn_RX11 (Nat.le_of_ble_eq_true rfl) ?_
  show J G mX11_leaf 9 3 0 (KXg G 3 vmI r) 0 [(0, .ref (ad G 0)), (1, .int v1), (2, .int v2), (3, .int v3)] [] h
  obtain ⟨K, hK⟩ : ∃ K, K = KXg G 3 vmI r := ⟨_, rfl⟩
  rw [← hK]
  unfold f_X11_leaf at hL
  refine j_aload_n 0 dX11_leaf_0 rfl ?_
  refine j_iload_n 1 dX11_leaf_1 rfl ?_
  refine j_iload_n 2 dX11_leaf_2 rfl ?_
  obtain ⟨q1, hq1, hL⟩ := bnd_ex hL
  refine j_callVx (vm2 := vmI) (c_X11_bookWithLeaf G v1 v2 h _ hq1) cv_RX11_193 rfl sh_0 (by decide) rfl (by decide) rfl rfl (Nat.le_of_ble_eq_true rfl) dX11_leaf_3 (by decide) kc_yX11_leaf (fun xq1 eq1 => ?_) (fun xq1 eq1 => ?_)
  rotate_left
  · subst eq1
    replace hL : some (Sum.inr xq1) = some r := hL
    cases hL
    exact hK
  subst eq1
  refine j_eq (st' := [.ref (ad G xq1.1)]) rfl rfl ?_
  obtain ⟨g2, hL⟩ := gd_ex hL
  refine j_astore (lv' := [(4, .ref (ad G xq1.1)), (0, .ref (ad G 0)), (1, .int v1), (2, .int v2), (3, .int v3)]) dX11_leaf_6 (by decide) rfl ?_
  refine j_iload_n 4 dX11_leaf_8 rfl ?_
  by_cases z3 : v3 = 0
  · replace hL := (if_pos z3).symm.trans hL
    refine j_swIn 48 dX11_leaf_9 (by rw [z3]; decide) (by rw [z3]; decide) (by rw [z3]; rfl) (by decide) ?_
    refine j_aload 0 dX11_leaf_48 rfl ?_
    refine jg_RX11_197 rfl g2 dX11_leaf_50 ?_
    refine j_iload_n 3 dX11_leaf_53 rfl ?_
    obtain ⟨g4, hL⟩ := gd_ex hL
    refine j_iald (shf_0_6 g2) (ib_in g4) dX11_leaf_54 ?_
    cases hL
    exact j_xreti (by decide) dX11_leaf_55 rfl hK
  · replace hL := (if_neg z3).symm.trans hL
    by_cases z5 : v3 = 1
    · replace hL := (if_pos z5).symm.trans hL
      refine j_swIn 56 dX11_leaf_9 (by rw [z5]; decide) (by rw [z5]; decide) (by rw [z5]; rfl) (by decide) ?_
      refine j_aload 0 dX11_leaf_56 rfl ?_
      refine jg_RX11_200 rfl g2 dX11_leaf_58 ?_
      refine j_iload_n 3 dX11_leaf_61 rfl ?_
      obtain ⟨g6, hL⟩ := gd_ex hL
      refine j_iald (shf_0_7 g2) (ib_in g6) dX11_leaf_62 ?_
      cases hL
      exact j_xreti (by decide) dX11_leaf_63 rfl hK
    · replace hL := (if_neg z5).symm.trans hL
      by_cases z7 : v3 = 2
      · replace hL := (if_pos z7).symm.trans hL
        refine j_swIn 64 dX11_leaf_9 (by rw [z7]; decide) (by rw [z7]; decide) (by rw [z7]; rfl) (by decide) ?_
        refine j_aload 0 dX11_leaf_64 rfl ?_
        refine jg_RX11_203 rfl g2 dX11_leaf_66 ?_
        refine j_iload_n 3 dX11_leaf_69 rfl ?_
        obtain ⟨g8, hL⟩ := gd_ex hL
        refine j_iald (shf_0_8 g2) (ib_in g8) dX11_leaf_70 ?_
        cases hL
        exact j_xreti (by decide) dX11_leaf_71 rfl hK
      · replace hL := (if_neg z7).symm.trans hL
        by_cases z9 : v3 = 3
        · replace hL := (if_pos z9).symm.trans hL
          refine j_swIn 72 dX11_leaf_9 (by rw [z9]; decide) (by rw [z9]; decide) (by rw [z9]; rfl) (by decide) ?_
          refine j_aload 0 dX11_leaf_72 rfl ?_
          refine jg_RX11_206 rfl g2 dX11_leaf_74 ?_
          refine j_iload_n 3 dX11_leaf_77 rfl ?_
          obtain ⟨g10, hL⟩ := gd_ex hL
          refine j_iald (shf_0_9 g2) (ib_in g10) dX11_leaf_78 ?_
          cases hL
          exact j_xreti (by decide) dX11_leaf_79 rfl hK
        · replace hL := (if_neg z9).symm.trans hL
          by_cases z11 : v3 = 4
          · replace hL := (if_pos z11).symm.trans hL
            refine j_swIn 80 dX11_leaf_9 (by rw [z11]; decide) (by rw [z11]; decide) (by rw [z11]; rfl) (by decide) ?_
            refine j_aload 0 dX11_leaf_80 rfl ?_
            refine jg_RX11_209 rfl g2 dX11_leaf_82 ?_
            refine j_iload_n 3 dX11_leaf_85 rfl ?_
            obtain ⟨g12, hL⟩ := gd_ex hL
            refine j_iald (shf_0_10 g2) (ib_in g12) dX11_leaf_86 ?_
            cases hL
            exact j_xreti (by decide) dX11_leaf_87 rfl hK
          · replace hL := (if_neg z11).symm.trans hL
            by_cases z13 : v3 = 5
            · replace hL := (if_pos z13).symm.trans hL
              refine j_swIn 88 dX11_leaf_9 (by rw [z13]; decide) (by rw [z13]; decide) (by rw [z13]; rfl) (by decide) ?_
              refine j_aload 0 dX11_leaf_88 rfl ?_
              refine jg_RX11_212 rfl g2 dX11_leaf_90 ?_
              refine j_iload_n 3 dX11_leaf_93 rfl ?_
              obtain ⟨g14, hL⟩ := gd_ex hL
              refine j_iald (shf_0_11 g2) (ib_in g14) dX11_leaf_94 ?_
              cases hL
              exact j_xreti (by decide) dX11_leaf_95 rfl hK
            · replace hL := (if_neg z13).symm.trans hL
              refine j_swOut 96 dX11_leaf_9 (sw_out (by have wz3 := sw_ne z3 (k := 0) (by decide); have wz5 := sw_ne z5 (k := 1) (by decide); have wz7 := sw_ne z7 (k := 2) (by decide); have wz9 := sw_ne z9 (k := 3) (by decide); have wz11 := sw_ne z11 (k := 4) (by decide); have wz13 := sw_ne z13 (k := 5) (by decide); omega)) (by decide) ?_
              cases hL
              exact j_thrN kc_yX11_leaf rfl (List.mem_of_getElem? (i := 14) rfl) (by decide) (by decide) (Nat.le_of_ble_eq_true rfl) dX11_leaf_96 dX11_leaf_99 dX11_leaf_100 dX11_leaf_102 dX11_leaf_105 hK

def f_X11_checkKind (v0 : Int32) (h : AH) : Option (XR Unit) := if v0 < 0 then some (.inr (0, h)) else if v0 < 12 then some (.inl ((), h)) else some (.inr (0, h))
set_option maxRecDepth 20000 in
theorem c_X11_checkKind (G : GG) (v0 : Int32) (h : AH) (r : XR Unit) (hL : f_X11_checkKind v0 h = some r) : SpXg G 7 1 mX11_checkKind [.int v0] h vmV r := by
  refine wsx_of pn_RX11 (Nat.le_of_ble_eq_true rfl) ?_
  show J G mX11_checkKind 7 1 0 (KXg G 1 vmV r) 0 [(0, .int v0)] [] h
  obtain ⟨K, hK⟩ : ∃ K, K = KXg G 1 vmV r := ⟨_, rfl⟩
  rw [← hK]
  unfold f_X11_checkKind at hL
  refine j_iload_n 0 dX11_checkKind_0 rfl ?_
  refine j_if_lt 10 dX11_checkKind_1 (by decide) (fun z1 => ?_) (fun z1 => ?_)
  · replace hL := (if_pos z1).symm.trans hL
    cases hL
    exact j_thrNW kc_yX11_checkKind rfl (List.mem_of_getElem? (i := 16) rfl) (by decide) (by decide) (Nat.le_of_ble_eq_true rfl) dX11_checkKind_10 dX11_checkKind_13 dX11_checkKind_14 dX11_checkKind_17 dX11_checkKind_20 hK
  · replace hL := (if_neg z1).symm.trans hL
    refine j_iload_n 0 dX11_checkKind_4 rfl ?_
    refine j_bipush 12 dX11_checkKind_5 (by decide) ?_
    refine j_icmp_lt 21 dX11_checkKind_7 (by decide) (fun z2 => ?_) (fun z2 => ?_)
    · replace hL := (if_pos z2).symm.trans hL
      cases hL
      exact j_xretv (by decide) dX11_checkKind_21 rfl hK
    · replace hL := (if_neg z2).symm.trans hL
      cases hL
      exact j_thrNW kc_yX11_checkKind rfl (List.mem_of_getElem? (i := 16) rfl) (by decide) (by decide) (Nat.le_of_ble_eq_true rfl) dX11_checkKind_10 dX11_checkKind_13 dX11_checkKind_14 dX11_checkKind_17 dX11_checkKind_20 hK

def f_X11_turnings (v1 : Int32) (v2 : Int32) (v3 : Int32) (h : AH) : Option (XR Int32) := bnd (f_X11_wayAt v1 h) (fun q1 => Sum.elim (fun xq1 => gd (SH xq1.1 = (10, 0)) (bnd (f_X11_checkKind v2 xq1.2) (fun q3 => Sum.elim (fun xq3 => if v3 < 0 then some (.inr (0, xq3.2)) else if v3 < 20 then bnd (f_X10_yearly xq1.1 v2 v3 xq3.2) (fun q6 => some (.inl (q6, xq3.2))) else some (.inr (0, xq3.2))) (fun xq3 => some (.inr xq3)) q3))) (fun xq1 => some (.inr xq1)) q1)
set_option maxRecDepth 20000 in
theorem c_X11_turnings (G : GG) (v1 : Int32) (v2 : Int32) (v3 : Int32) (h : AH) (r : XR Int32) (hL : f_X11_turnings v1 v2 v3 h = some r) : SpXg G 8 3 mX11_turnings [.ref (ad G 0), .int v1, .int v2, .int v3] h vmI r := by
  refine wsx_of pn_RX11 (Nat.le_of_ble_eq_true rfl) ?_
  show J G mX11_turnings 8 3 0 (KXg G 3 vmI r) 0 [(0, .ref (ad G 0)), (1, .int v1), (2, .int v2), (3, .int v3)] [] h
  obtain ⟨K, hK⟩ : ∃ K, K = KXg G 3 vmI r := ⟨_, rfl⟩
  rw [← hK]
  unfold f_X11_turnings at hL
  refine j_aload_n 0 dX11_turnings_0 rfl ?_
  refine j_iload_n 1 dX11_turnings_1 rfl ?_
  obtain ⟨q1, hq1, hL⟩ := bnd_ex hL
  refine j_callVx (vm2 := vmI) (c_X11_wayAt G v1 h _ hq1) cv_RX11_140 rfl sh_0 (by decide) rfl (by decide) rfl rfl (Nat.le_of_ble_eq_true rfl) dX11_turnings_2 (by decide) kc_yX11_turnings (fun xq1 eq1 => ?_) (fun xq1 eq1 => ?_)
  rotate_left
  · subst eq1
    replace hL : some (Sum.inr xq1) = some r := hL
    cases hL
    exact hK
  subst eq1
  refine j_eq (st' := [.ref (ad G xq1.1)]) rfl rfl ?_
  obtain ⟨g2, hL⟩ := gd_ex hL
  refine j_astore (lv' := [(4, .ref (ad G xq1.1)), (0, .ref (ad G 0)), (1, .int v1), (2, .int v2), (3, .int v3)]) dX11_turnings_5 (by decide) rfl ?_
  refine j_iload_n 3 dX11_turnings_7 rfl ?_
  obtain ⟨q3, hq3, hL⟩ := bnd_ex hL
  refine j_callSx (vm2 := vmI) (c_X11_checkKind G v2 xq1.2 _ hq3) cv_RX11_215 rfl (by decide) rfl rfl (Nat.le_of_ble_eq_true rfl) dX11_turnings_8 (by decide) kc_yX11_turnings (fun xq3 eq3 => ?_) (fun xq3 eq3 => ?_)
  rotate_left
  · subst eq3
    replace hL : some (Sum.inr xq3) = some r := hL
    cases hL
    exact hK
  subst eq3
  refine j_eq (st' := []) rfl rfl ?_
  refine j_iload_n 4 dX11_turnings_11 rfl ?_
  refine j_if_lt 21 dX11_turnings_12 (by decide) (fun z4 => ?_) (fun z4 => ?_)
  · replace hL := (if_pos z4).symm.trans hL
    cases hL
    exact j_thrN kc_yX11_turnings rfl (List.mem_of_getElem? (i := 17) rfl) (by decide) (by decide) (Nat.le_of_ble_eq_true rfl) dX11_turnings_21 dX11_turnings_24 dX11_turnings_25 dX11_turnings_27 dX11_turnings_30 hK
  · replace hL := (if_neg z4).symm.trans hL
    refine j_iload_n 4 dX11_turnings_15 rfl ?_
    refine j_bipush 20 dX11_turnings_16 (by decide) ?_
    refine j_icmp_lt 31 dX11_turnings_18 (by decide) (fun z5 => ?_) (fun z5 => ?_)
    · replace hL := (if_pos z5).symm.trans hL
      refine j_aload 0 dX11_turnings_31 rfl ?_
      refine j_iload_n 3 dX11_turnings_33 rfl ?_
      refine j_iload_n 4 dX11_turnings_34 rfl ?_
      obtain ⟨q6, hq6, hL⟩ := bnd_ex hL
      refine j_callVi (c_X10_yearly G xq1.1 g2 v2 v3 xq3.2 _ hq6) cv_RX11_220 rfl g2 (by decide) rfl (by decide) rfl rfl (Nat.le_of_ble_eq_true rfl) dX11_turnings_35 (by decide) ?_
      cases hL
      exact j_xreti (by decide) dX11_turnings_38 rfl hK
    · replace hL := (if_neg z5).symm.trans hL
      cases hL
      exact j_thrN kc_yX11_turnings rfl (List.mem_of_getElem? (i := 17) rfl) (by decide) (by decide) (Nat.le_of_ble_eq_true rfl) dX11_turnings_21 dX11_turnings_24 dX11_turnings_25 dX11_turnings_27 dX11_turnings_30 hK

def f_X11_reader (v1 : Int32) (v2 : Int32) (v3 : Int32) (v4 : Int32) (h : AH) : Option (XR Int32) := bnd (f_X11_bookAt v1 h) (fun q1 => Sum.elim (fun xq1 => gd (SH xq1.1 = (0, 0)) (bnd (f_X11_wayAt v2 xq1.2) (fun q3 => Sum.elim (fun xq3 => gd (SH xq3.1 = (10, 0)) (if 8 ≤ (hfi xq3.2 xq1.1 5) then gd (ib 2 4 = true) (gd (ib 2 4 = true) (lt (sia xq3.2 31 (cl 2) ((hia xq3.2 31 (cl 2)) + 1)) (fun h8 => some (.inl ((-1), h8))))) else if v3 < 0 then gd (ib 2 4 = true) (gd (ib 2 4 = true) (lt (sia xq3.2 31 (cl 2) ((hia xq3.2 31 (cl 2)) + 1)) (fun h12 => some (.inl ((-1), h12))))) else if 500 < v4 then gd (ib 2 4 = true) (gd (ib 2 4 = true) (lt (sia xq3.2 31 (cl 2) ((hia xq3.2 31 (cl 2)) + 1)) (fun h16 => some (.inl ((-1), h16))))) else if v3 ≤ v4 then bnd (f_X0_addReader xq1.1 v2 v3 v4 xq3.2) (fun q18 => some (.inl (hfi q18 xq1.1 5, q18))) else gd (ib 2 4 = true) (gd (ib 2 4 = true) (lt (sia xq3.2 31 (cl 2) ((hia xq3.2 31 (cl 2)) + 1)) (fun h21 => some (.inl ((-1), h21))))))) (fun xq3 => some (.inr xq3)) q3))) (fun xq1 => some (.inr xq1)) q1)
set_option maxRecDepth 20000 in
theorem c_X11_reader (G : GG) (v1 : Int32) (v2 : Int32) (v3 : Int32) (v4 : Int32) (h : AH) (r : XR Int32) (hL : f_X11_reader v1 v2 v3 v4 h = some r) : SpXg G 8 2 mX11_reader [.ref (ad G 0), .int v1, .int v2, .int v3, .int v4] h vmI r := by
  refine wsx_of pn_RX11 (Nat.le_of_ble_eq_true rfl) ?_
  show J G mX11_reader 8 2 0 (KXg G 2 vmI r) 0 [(0, .ref (ad G 0)), (1, .int v1), (2, .int v2), (3, .int v3), (4, .int v4)] [] h
  obtain ⟨K, hK⟩ : ∃ K, K = KXg G 2 vmI r := ⟨_, rfl⟩
  rw [← hK]
  unfold f_X11_reader at hL
  refine j_aload_n 0 dX11_reader_0 rfl ?_
  refine j_iload_n 1 dX11_reader_1 rfl ?_
  obtain ⟨q1, hq1, hL⟩ := bnd_ex hL
  refine j_callVx (vm2 := vmI) (c_X11_bookAt G v1 h _ hq1) cv_RX11_118 rfl sh_0 (by decide) rfl (by decide) rfl rfl (Nat.le_of_ble_eq_true rfl) dX11_reader_2 (by decide) kc_yX11_reader (fun xq1 eq1 => ?_) (fun xq1 eq1 => ?_)
  rotate_left
  · subst eq1
    replace hL : some (Sum.inr xq1) = some r := hL
    cases hL
    exact hK
  subst eq1
  refine j_eq (st' := [.ref (ad G xq1.1)]) rfl rfl ?_
  obtain ⟨g2, hL⟩ := gd_ex hL
  refine j_astore (lv' := [(5, .ref (ad G xq1.1)), (0, .ref (ad G 0)), (1, .int v1), (2, .int v2), (3, .int v3), (4, .int v4)]) dX11_reader_5 (by decide) rfl ?_
  refine j_aload_n 1 dX11_reader_7 rfl ?_
  refine j_iload_n 3 dX11_reader_8 rfl ?_
  obtain ⟨q3, hq3, hL⟩ := bnd_ex hL
  refine j_callVx (vm2 := vmI) (c_X11_wayAt G v2 xq1.2 _ hq3) cv_RX11_140 rfl sh_0 (by decide) rfl (by decide) rfl rfl (Nat.le_of_ble_eq_true rfl) dX11_reader_9 (by decide) kc_yX11_reader (fun xq3 eq3 => ?_) (fun xq3 eq3 => ?_)
  rotate_left
  · subst eq3
    replace hL : some (Sum.inr xq3) = some r := hL
    cases hL
    exact hK
  subst eq3
  refine j_eq (st' := [.ref (ad G xq3.1)]) rfl rfl ?_
  obtain ⟨g4, hL⟩ := gd_ex hL
  refine j_pop dX11_reader_12 rfl ?_
  refine j_aload 0 dX11_reader_13 rfl ?_
  refine jg_RX11_170 rfl g2 dX11_reader_15 ?_
  refine j_bipush 8 dX11_reader_18 (by decide) ?_
  refine j_icmp_ge 41 dX11_reader_20 (by decide) (fun z5 => ?_) (fun z5 => ?_)
  · replace hL := (if_pos z5).symm.trans hL
    refine j_aload_n 1 dX11_reader_41 rfl ?_
    refine jg_RX11_55 rfl sh_0 dX11_reader_42 ?_
    refine j_iconst 2 dX11_reader_45 (by decide) ?_
    refine j_dup2 dX11_reader_46 rfl rfl ?_
    obtain ⟨g6, hL⟩ := gd_ex hL
    refine j_iald (shf_11_8 sh_0) (ib_in g6) dX11_reader_47 ?_
    refine j_iconst 1 dX11_reader_48 (by decide) ?_
    refine j_iadd dX11_reader_49 ?_
    obtain ⟨g7, hL⟩ := gd_ex hL
    refine j_iast (shf_11_8 sh_0) (ib_in g7) dX11_reader_50 ?_
    obtain ⟨h8, eh8, hL⟩ := lt_ex hL
    refine j_heap eh8 ?_
    refine j_iconst (-1) dX11_reader_51 (by decide) ?_
    cases hL
    exact j_xreti (by decide) dX11_reader_52 rfl hK
  · replace hL := (if_neg z5).symm.trans hL
    refine j_iload_n 4 dX11_reader_23 rfl ?_
    refine j_if_lt 41 dX11_reader_24 (by decide) (fun z9 => ?_) (fun z9 => ?_)
    · replace hL := (if_pos z9).symm.trans hL
      refine j_aload_n 1 dX11_reader_41 rfl ?_
      refine jg_RX11_55 rfl sh_0 dX11_reader_42 ?_
      refine j_iconst 2 dX11_reader_45 (by decide) ?_
      refine j_dup2 dX11_reader_46 rfl rfl ?_
      obtain ⟨g10, hL⟩ := gd_ex hL
      refine j_iald (shf_11_8 sh_0) (ib_in g10) dX11_reader_47 ?_
      refine j_iconst 1 dX11_reader_48 (by decide) ?_
      refine j_iadd dX11_reader_49 ?_
      obtain ⟨g11, hL⟩ := gd_ex hL
      refine j_iast (shf_11_8 sh_0) (ib_in g11) dX11_reader_50 ?_
      obtain ⟨h12, eh12, hL⟩ := lt_ex hL
      refine j_heap eh12 ?_
      refine j_iconst (-1) dX11_reader_51 (by decide) ?_
      cases hL
      exact j_xreti (by decide) dX11_reader_52 rfl hK
    · replace hL := (if_neg z9).symm.trans hL
      refine j_iload 5 dX11_reader_27 rfl ?_
      refine j_sipush 500 dX11_reader_29 (by decide) ?_
      refine j_icmp_gt 41 dX11_reader_32 (by decide) (fun z13 => ?_) (fun z13 => ?_)
      · replace hL := (if_pos z13).symm.trans hL
        refine j_aload_n 1 dX11_reader_41 rfl ?_
        refine jg_RX11_55 rfl sh_0 dX11_reader_42 ?_
        refine j_iconst 2 dX11_reader_45 (by decide) ?_
        refine j_dup2 dX11_reader_46 rfl rfl ?_
        obtain ⟨g14, hL⟩ := gd_ex hL
        refine j_iald (shf_11_8 sh_0) (ib_in g14) dX11_reader_47 ?_
        refine j_iconst 1 dX11_reader_48 (by decide) ?_
        refine j_iadd dX11_reader_49 ?_
        obtain ⟨g15, hL⟩ := gd_ex hL
        refine j_iast (shf_11_8 sh_0) (ib_in g15) dX11_reader_50 ?_
        obtain ⟨h16, eh16, hL⟩ := lt_ex hL
        refine j_heap eh16 ?_
        refine j_iconst (-1) dX11_reader_51 (by decide) ?_
        cases hL
        exact j_xreti (by decide) dX11_reader_52 rfl hK
      · replace hL := (if_neg z13).symm.trans hL
        refine j_iload_n 4 dX11_reader_35 rfl ?_
        refine j_iload 5 dX11_reader_36 rfl ?_
        refine j_icmp_le 53 dX11_reader_38 (by decide) (fun z17 => ?_) (fun z17 => ?_)
        · replace hL := (if_pos z17).symm.trans hL
          refine j_aload 0 dX11_reader_53 rfl ?_
          refine j_iload_n 3 dX11_reader_55 rfl ?_
          refine j_iload_n 4 dX11_reader_56 rfl ?_
          refine j_iload 5 dX11_reader_57 rfl ?_
          obtain ⟨q18, hq18, hL⟩ := bnd_ex hL
          refine j_callVv (c_X0_addReader G xq1.1 g2 v2 v3 v4 xq3.2 _ hq18) cv_RX11_224 rfl g2 (by decide) rfl (by decide) rfl rfl (Nat.le_of_ble_eq_true rfl) dX11_reader_59 (by decide) ?_
          refine j_aload 0 dX11_reader_62 rfl ?_
          refine jg_RX11_170 rfl g2 dX11_reader_64 ?_
          cases hL
          exact j_xreti (by decide) dX11_reader_67 rfl hK
        · replace hL := (if_neg z17).symm.trans hL
          refine j_aload_n 1 dX11_reader_41 rfl ?_
          refine jg_RX11_55 rfl sh_0 dX11_reader_42 ?_
          refine j_iconst 2 dX11_reader_45 (by decide) ?_
          refine j_dup2 dX11_reader_46 rfl rfl ?_
          obtain ⟨g19, hL⟩ := gd_ex hL
          refine j_iald (shf_11_8 sh_0) (ib_in g19) dX11_reader_47 ?_
          refine j_iconst 1 dX11_reader_48 (by decide) ?_
          refine j_iadd dX11_reader_49 ?_
          obtain ⟨g20, hL⟩ := gd_ex hL
          refine j_iast (shf_11_8 sh_0) (ib_in g20) dX11_reader_50 ?_
          obtain ⟨h21, eh21, hL⟩ := lt_ex hL
          refine j_heap eh21 ?_
          refine j_iconst (-1) dX11_reader_51 (by decide) ?_
          cases hL
          exact j_xreti (by decide) dX11_reader_52 rfl hK

def f_X11_gone (v1 : Int32) (h : AH) : Option (XR Int32) := bnd (f_X11_bookAt v1 h) (fun q1 => Sum.elim (fun xq1 => gd (SH xq1.1 = (0, 0)) (if 1 ≤ (hfi xq1.2 xq1.1 5) then lt (sfi xq1.2 xq1.1 5 ((hfi xq1.2 xq1.1 5) - 1)) (fun h4 => some (.inl (hfi h4 xq1.1 5, h4))) else some (.inl ((-1), xq1.2)))) (fun xq1 => some (.inr xq1)) q1)
set_option maxRecDepth 20000 in
theorem c_X11_gone (G : GG) (v1 : Int32) (h : AH) (r : XR Int32) (hL : f_X11_gone v1 h = some r) : SpXg G 8 1 mX11_gone [.ref (ad G 0), .int v1] h vmI r := by
  refine wsx_of pn_RX11 (Nat.le_of_ble_eq_true rfl) ?_
  show J G mX11_gone 8 1 0 (KXg G 1 vmI r) 0 [(0, .ref (ad G 0)), (1, .int v1)] [] h
  obtain ⟨K, hK⟩ : ∃ K, K = KXg G 1 vmI r := ⟨_, rfl⟩
  rw [← hK]
  unfold f_X11_gone at hL
  refine j_aload_n 0 dX11_gone_0 rfl ?_
  refine j_iload_n 1 dX11_gone_1 rfl ?_
  obtain ⟨q1, hq1, hL⟩ := bnd_ex hL
  refine j_callVx (vm2 := vmI) (c_X11_bookAt G v1 h _ hq1) cv_RX11_118 rfl sh_0 (by decide) rfl (by decide) rfl rfl (Nat.le_of_ble_eq_true rfl) dX11_gone_2 (by decide) kc_yX11_gone (fun xq1 eq1 => ?_) (fun xq1 eq1 => ?_)
  rotate_left
  · subst eq1
    replace hL : some (Sum.inr xq1) = some r := hL
    cases hL
    exact hK
  subst eq1
  refine j_eq (st' := [.ref (ad G xq1.1)]) rfl rfl ?_
  obtain ⟨g2, hL⟩ := gd_ex hL
  refine j_astore_n (lv' := [(2, .ref (ad G xq1.1)), (0, .ref (ad G 0)), (1, .int v1)]) dX11_gone_5 (by decide) rfl ?_
  refine j_aload_n 0 dX11_gone_6 rfl ?_
  refine jg_RX11_170 rfl g2 dX11_gone_7 ?_
  refine j_iconst 1 dX11_gone_10 (by decide) ?_
  refine j_icmp_ge 16 dX11_gone_11 (by decide) (fun z3 => ?_) (fun z3 => ?_)
  · replace hL := (if_pos z3).symm.trans hL
    refine j_aload_n 0 dX11_gone_16 rfl ?_
    refine j_dup dX11_gone_17 rfl ?_
    refine jg_RX11_170 rfl g2 dX11_gone_18 ?_
    refine j_iconst 1 dX11_gone_21 (by decide) ?_
    refine j_isub dX11_gone_22 ?_
    refine jp_RX11_170 rfl g2 dX11_gone_23 ?_
    obtain ⟨h4, eh4, hL⟩ := lt_ex hL
    refine j_heap eh4 ?_
    refine j_aload_n 0 dX11_gone_26 rfl ?_
    refine jg_RX11_170 rfl g2 dX11_gone_27 ?_
    cases hL
    exact j_xreti (by decide) dX11_gone_30 rfl hK
  · replace hL := (if_neg z3).symm.trans hL
    refine j_iconst (-1) dX11_gone_14 (by decide) ?_
    cases hL
    exact j_xreti (by decide) dX11_gone_15 rfl hK

def f_X11_dirt (v1 : Int32) (v2 : Int32) (v3 : Int32) (h : AH) : Option (XR Int32) := bnd (f_X11_bookWithLeaf v1 v2 h) (fun q1 => Sum.elim (fun xq1 => gd (SH xq1.1 = (0, 0)) (if v3 = 0 then gd (SH (hra xq1.2 0 3) = (5, 0)) (bnd (f_X0_ownDirt xq1.1 4 (hra xq1.2 0 3) v2 xq1.2) (fun q5 => some (.inl (q5, xq1.2)))) else (if v3 = 1 then gd (SH (hra xq1.2 0 3) = (5, 0)) (bnd (f_X0_fillAll xq1.1 66 40 4 (hra xq1.2 0 3) xq1.2) (fun q8 => gd (ib v2 40 = true) (some (.inl (hia q8 66 (cl v2), q8))))) else (if v3 = 2 then gd (SH (hra xq1.2 0 3) = (5, 0)) (bnd (f_X0_fillAll xq1.1 66 40 4 (hra xq1.2 0 3) xq1.2) (fun q12 => bnd (f_X0_bare xq1.1 v2 q12) (fun q13 => gd (ib v2 40 = true) (some (.inl (q13 + (hia q12 66 (cl v2)), q12)))))) else (if v3 = 3 then bnd (f_X0_turned xq1.1 4 v2 0 500 xq1.2) (fun q16 => some (.inl (q16, xq1.2))) else (some (.inr (0, xq1.2)))))))) (fun xq1 => some (.inr xq1)) q1)
set_option maxRecDepth 20000 in
theorem c_X11_dirt (G : GG) (v1 : Int32) (v2 : Int32) (v3 : Int32) (h : AH) (r : XR Int32) (hL : f_X11_dirt v1 v2 v3 h = some r) : SpXg G 9 3 mX11_dirt [.ref (ad G 0), .int v1, .int v2, .int v3] h vmI r := by
  refine wsx_of pn_RX11 (Nat.le_of_ble_eq_true rfl) ?_
  show J G mX11_dirt 9 3 0 (KXg G 3 vmI r) 0 [(0, .ref (ad G 0)), (1, .int v1), (2, .int v2), (3, .int v3)] [] h
  obtain ⟨K, hK⟩ : ∃ K, K = KXg G 3 vmI r := ⟨_, rfl⟩
  rw [← hK]
  unfold f_X11_dirt at hL
  refine j_aload_n 0 dX11_dirt_0 rfl ?_
  refine j_iload_n 1 dX11_dirt_1 rfl ?_
  refine j_iload_n 2 dX11_dirt_2 rfl ?_
  obtain ⟨q1, hq1, hL⟩ := bnd_ex hL
  refine j_callVx (vm2 := vmI) (c_X11_bookWithLeaf G v1 v2 h _ hq1) cv_RX11_193 rfl sh_0 (by decide) rfl (by decide) rfl rfl (Nat.le_of_ble_eq_true rfl) dX11_dirt_3 (by decide) kc_yX11_dirt (fun xq1 eq1 => ?_) (fun xq1 eq1 => ?_)
  rotate_left
  · subst eq1
    replace hL : some (Sum.inr xq1) = some r := hL
    cases hL
    exact hK
  subst eq1
  refine j_eq (st' := [.ref (ad G xq1.1)]) rfl rfl ?_
  obtain ⟨g2, hL⟩ := gd_ex hL
  refine j_astore (lv' := [(4, .ref (ad G xq1.1)), (0, .ref (ad G 0)), (1, .int v1), (2, .int v2), (3, .int v3)]) dX11_dirt_6 (by decide) rfl ?_
  refine j_iload_n 4 dX11_dirt_8 rfl ?_
  by_cases z3 : v3 = 0
  · replace hL := (if_pos z3).symm.trans hL
    refine j_swIn 40 dX11_dirt_9 (by rw [z3]; decide) (by rw [z3]; decide) (by rw [z3]; rfl) (by decide) ?_
    refine j_aload 0 dX11_dirt_40 rfl ?_
    refine j_aload_n 1 dX11_dirt_42 rfl ?_
    refine jg_RX11_24 rfl sh_0 dX11_dirt_43 ?_
    refine j_aload_n 1 dX11_dirt_46 rfl ?_
    refine jg_RX11_31 rfl sh_0 dX11_dirt_47 ?_
    obtain ⟨g4, hL⟩ := gd_ex hL
    refine j_iload_n 3 dX11_dirt_50 rfl ?_
    obtain ⟨q5, hq5, hL⟩ := bnd_ex hL
    refine j_callVi (c_X0_ownDirt G xq1.1 g2 4 (shf_11_2 sh_0) (hra xq1.2 0 3) g4 v2 xq1.2 _ hq5) cv_RX11_228 rfl g2 (by decide) rfl (by decide) rfl rfl (Nat.le_of_ble_eq_true rfl) dX11_dirt_51 (by decide) ?_
    cases hL
    exact j_xreti (by decide) dX11_dirt_54 rfl hK
  · replace hL := (if_neg z3).symm.trans hL
    by_cases z6 : v3 = 1
    · replace hL := (if_pos z6).symm.trans hL
      refine j_swIn 55 dX11_dirt_9 (by rw [z6]; decide) (by rw [z6]; decide) (by rw [z6]; rfl) (by decide) ?_
      refine j_aload 0 dX11_dirt_55 rfl ?_
      refine j_aload_n 1 dX11_dirt_57 rfl ?_
      refine jg_RX11_107 rfl sh_0 dX11_dirt_58 ?_
      refine j_aload_n 1 dX11_dirt_61 rfl ?_
      refine jg_RX11_24 rfl sh_0 dX11_dirt_62 ?_
      refine j_aload_n 1 dX11_dirt_65 rfl ?_
      refine jg_RX11_31 rfl sh_0 dX11_dirt_66 ?_
      obtain ⟨g7, hL⟩ := gd_ex hL
      obtain ⟨q8, hq8, hL⟩ := bnd_ex hL
      refine j_callVv (c_X0_fillAll G xq1.1 g2 66 40 (shf_11_18 sh_0) 4 (shf_11_2 sh_0) (hra xq1.2 0 3) g7 xq1.2 _ hq8) cv_RX11_232 rfl g2 (by decide) rfl (by decide) rfl rfl (Nat.le_of_ble_eq_true rfl) dX11_dirt_69 (by decide) ?_
      refine j_aload_n 1 dX11_dirt_72 rfl ?_
      refine jg_RX11_107 rfl sh_0 dX11_dirt_73 ?_
      refine j_iload_n 3 dX11_dirt_76 rfl ?_
      obtain ⟨g9, hL⟩ := gd_ex hL
      refine j_iald (shf_11_18 sh_0) (ib_in g9) dX11_dirt_77 ?_
      cases hL
      exact j_xreti (by decide) dX11_dirt_78 rfl hK
    · replace hL := (if_neg z6).symm.trans hL
      by_cases z10 : v3 = 2
      · replace hL := (if_pos z10).symm.trans hL
        refine j_swIn 79 dX11_dirt_9 (by rw [z10]; decide) (by rw [z10]; decide) (by rw [z10]; rfl) (by decide) ?_
        refine j_aload 0 dX11_dirt_79 rfl ?_
        refine j_aload_n 1 dX11_dirt_81 rfl ?_
        refine jg_RX11_107 rfl sh_0 dX11_dirt_82 ?_
        refine j_aload_n 1 dX11_dirt_85 rfl ?_
        refine jg_RX11_24 rfl sh_0 dX11_dirt_86 ?_
        refine j_aload_n 1 dX11_dirt_89 rfl ?_
        refine jg_RX11_31 rfl sh_0 dX11_dirt_90 ?_
        obtain ⟨g11, hL⟩ := gd_ex hL
        obtain ⟨q12, hq12, hL⟩ := bnd_ex hL
        refine j_callVv (c_X0_fillAll G xq1.1 g2 66 40 (shf_11_18 sh_0) 4 (shf_11_2 sh_0) (hra xq1.2 0 3) g11 xq1.2 _ hq12) cv_RX11_232 rfl g2 (by decide) rfl (by decide) rfl rfl (Nat.le_of_ble_eq_true rfl) dX11_dirt_93 (by decide) ?_
        refine j_aload 0 dX11_dirt_96 rfl ?_
        refine j_iload_n 3 dX11_dirt_98 rfl ?_
        obtain ⟨q13, hq13, hL⟩ := bnd_ex hL
        refine j_callVi (c_X0_bare G xq1.1 g2 v2 q12 _ hq13) cv_RX11_236 rfl g2 (by decide) rfl (by decide) rfl rfl (Nat.le_of_ble_eq_true rfl) dX11_dirt_99 (by decide) ?_
        refine j_aload_n 1 dX11_dirt_102 rfl ?_
        refine jg_RX11_107 rfl sh_0 dX11_dirt_103 ?_
        refine j_iload_n 3 dX11_dirt_106 rfl ?_
        obtain ⟨g14, hL⟩ := gd_ex hL
        refine j_iald (shf_11_18 sh_0) (ib_in g14) dX11_dirt_107 ?_
        refine j_iadd dX11_dirt_108 ?_
        cases hL
        exact j_xreti (by decide) dX11_dirt_109 rfl hK
      · replace hL := (if_neg z10).symm.trans hL
        by_cases z15 : v3 = 3
        · replace hL := (if_pos z15).symm.trans hL
          refine j_swIn 110 dX11_dirt_9 (by rw [z15]; decide) (by rw [z15]; decide) (by rw [z15]; rfl) (by decide) ?_
          refine j_aload 0 dX11_dirt_110 rfl ?_
          refine j_aload_n 1 dX11_dirt_112 rfl ?_
          refine jg_RX11_24 rfl sh_0 dX11_dirt_113 ?_
          refine j_iload_n 3 dX11_dirt_116 rfl ?_
          refine j_iconst 0 dX11_dirt_117 (by decide) ?_
          refine j_sipush 500 dX11_dirt_118 (by decide) ?_
          obtain ⟨q16, hq16, hL⟩ := bnd_ex hL
          refine j_callVi (c_X0_turned G xq1.1 g2 4 (shf_11_2 sh_0) v2 0 500 xq1.2 _ hq16) cv_RX11_239 rfl g2 (by decide) rfl (by decide) rfl rfl (Nat.le_of_ble_eq_true rfl) dX11_dirt_121 (by decide) ?_
          cases hL
          exact j_xreti (by decide) dX11_dirt_124 rfl hK
        · replace hL := (if_neg z15).symm.trans hL
          refine j_swOut 125 dX11_dirt_9 (sw_out (by have wz3 := sw_ne z3 (k := 0) (by decide); have wz6 := sw_ne z6 (k := 1) (by decide); have wz10 := sw_ne z10 (k := 2) (by decide); have wz15 := sw_ne z15 (k := 3) (by decide); omega)) (by decide) ?_
          cases hL
          exact j_thrN kc_yX11_dirt rfl (List.mem_of_getElem? (i := 14) rfl) (by decide) (by decide) (Nat.le_of_ble_eq_true rfl) dX11_dirt_125 dX11_dirt_128 dX11_dirt_129 dX11_dirt_131 dX11_dirt_134 hK

def f_X11_drawn_l20 (a3 : Nat) : Nat → Int32 → Int32 → Int32 → AH → Option (Int32 × AH)
  | 0, _, _, _, _ => none
  | n + 1, v4, v5, v6, h => if (hfi h a3 0) ≤ v6 then some (v5, h) else bnd (f_X11_reading v6 (f_X11_stepped v4) h) (fun q5 => gd (SH (hra h 0 3) = (5, 0)) (bnd (f_X3_take (a3 + 7) v6 q5 (hfi h (hra h 0 3) 2) h) (fun q7 => if q7.1 = true then f_X11_drawn_l20 a3 n (f_X11_stepped v4) v5 (v6 + 1) q7.2 else f_X11_drawn_l20 a3 n (f_X11_stepped v4) (v5 + 1) (v6 + 1) q7.2)))
def f_X11_drawn (v1 : Int32) (v2 : Int32) (h : AH) : Option (XR Int32) := bnd (f_X11_bookAt v1 h) (fun q1 => Sum.elim (fun xq1 => gd (SH xq1.1 = (0, 0)) (bnd (f_X11_fillShades xq1.1 xq1.2) (fun q3 => bnd (f_X11_drawn_l20 xq1.1 FU v2 0 0 q3) (fun q9 => gd (ib 1 4 = true) (gd (ib 1 4 = true) (lt (sia q9.2 31 (cl 1) ((hia q9.2 31 (cl 1)) + q9.1)) (fun h12 => some (.inl (q9.1, h12))))))))) (fun xq1 => some (.inr xq1)) q1)
set_option maxRecDepth 20000 in
theorem cl_X11_drawn_20 (G : GG) (K : KQ) (a3 : Nat) (s3 : SH a3 = (0, 0)) : ∀ (n : Nat) (v4 : Int32) (v5 : Int32) (v6 : Int32) (h : AH) (r : Int32 × AH), f_X11_drawn_l20 a3 n v4 v5 v6 h = some r → J G mX11_drawn 8 1 1 K 72 [(0, .ref (ad G 0)), (5, .int r.1)] [] r.2 → J G mX11_drawn 8 1 1 K 20 [(0, .ref (ad G 0)), (3, .ref (ad G a3)), (4, .int v4), (5, .int v5), (6, .int v6)] [] h := by
  intro n
  induction n with
  | zero => intro v4 v5 v6 h r hL; cases hL
  | succ n ih =>
    intro v4 v5 v6 h r hL kE
    unfold f_X11_drawn_l20 at hL
    refine j_iload 4 dX11_drawn_20 rfl ?_
    refine j_aload_n 1 dX11_drawn_22 rfl ?_
    refine jg_RX11_164 rfl s3 dX11_drawn_23 ?_
    refine j_icmp_ge 72 dX11_drawn_26 (by decide) (fun z4 => ?_) (fun z4 => ?_)
    · replace hL := (if_pos z4).symm.trans hL
      cases hL
      refine j_sub [0, 3] rfl ?_
      exact kE 
    · replace hL := (if_neg z4).symm.trans hL
      refine j_iload 2 dX11_drawn_29 rfl ?_
      refine j_callSi (c_X11_stepped G v4 h) cv_RX11_247 rfl (by decide) rfl rfl (Nat.le_of_ble_eq_true rfl) dX11_drawn_31 (by decide) ?_
      refine j_istore (lv' := [(4, .int (f_X11_stepped v4)), (0, .ref (ad G 0)), (3, .ref (ad G a3)), (5, .int v5), (6, .int v6)]) dX11_drawn_34 (by decide) rfl ?_
      refine j_aload_n 2 dX11_drawn_36 rfl ?_
      refine jg_RX11_250 rfl s3 dX11_drawn_37 ?_
      refine j_iload 4 dX11_drawn_40 rfl ?_
      refine j_aload_n 1 dX11_drawn_42 rfl ?_
      refine j_iload 4 dX11_drawn_43 rfl ?_
      refine j_iload 0 dX11_drawn_45 rfl ?_
      obtain ⟨q5, hq5, hL⟩ := bnd_ex hL
      refine j_callVi (c_X11_reading G v6 (f_X11_stepped v4) h _ hq5) cv_RX11_253 rfl sh_0 (by decide) rfl (by decide) rfl rfl (Nat.le_of_ble_eq_true rfl) dX11_drawn_47 (by decide) ?_
      refine j_aload_n 1 dX11_drawn_50 rfl ?_
      refine jg_RX11_31 rfl sh_0 dX11_drawn_51 ?_
      obtain ⟨g6, hL⟩ := gd_ex hL
      refine jg_RX11_154 rfl g6 dX11_drawn_54 ?_
      obtain ⟨q7, hq7, hL⟩ := bnd_ex hL
      refine j_callVi (c_X3_take G (a3 + 7) (shf_0_12 s3) v6 q5 (hfi h (hra h 0 3) 2) h _ hq7) cv_RX11_256 rfl (shf_0_12 s3) (by decide) rfl (by decide) rfl rfl (Nat.le_of_ble_eq_true rfl) dX11_drawn_57 (by decide) ?_
      refine j_ifz_ne 66 dX11_drawn_60 (by decide) (fun z8 => ?_) (fun z8 => ?_)
      · replace hL := (if_pos z8).symm.trans hL
        refine j_iinc (lv' := [(6, .int (v6 + 1)), (4, .int (f_X11_stepped v4)), (0, .ref (ad G 0)), (3, .ref (ad G a3)), (5, .int v5)]) 4 dX11_drawn_66 rfl rfl (by decide) rfl ?_
        refine j_goto 20 dX11_drawn_69 (by decide) ?_
        refine j_sub [2, 3, 1, 4, 0] rfl ?_
        exact ih (f_X11_stepped v4) v5 (v6 + 1) q7.2 r hL kE
      · replace hL := (if_neg z8).symm.trans hL
        refine j_iinc (lv' := [(5, .int (v5 + 1)), (4, .int (f_X11_stepped v4)), (0, .ref (ad G 0)), (3, .ref (ad G a3)), (6, .int v6)]) 3 dX11_drawn_63 rfl rfl (by decide) rfl ?_
        refine j_iinc (lv' := [(6, .int (v6 + 1)), (5, .int (v5 + 1)), (4, .int (f_X11_stepped v4)), (0, .ref (ad G 0)), (3, .ref (ad G a3))]) 4 dX11_drawn_66 rfl rfl (by decide) rfl ?_
        refine j_goto 20 dX11_drawn_69 (by decide) ?_
        refine j_sub [3, 4, 2, 1, 0] rfl ?_
        exact ih (f_X11_stepped v4) (v5 + 1) (v6 + 1) q7.2 r hL kE

set_option maxRecDepth 20000 in
theorem c_X11_drawn (G : GG) (v1 : Int32) (v2 : Int32) (h : AH) (r : XR Int32) (hL : f_X11_drawn v1 v2 h = some r) : SpXg G 8 1 mX11_drawn [.ref (ad G 0), .int v1, .int v2] h vmI r := by
  refine wsx_of pn_RX11 (Nat.le_of_ble_eq_true rfl) ?_
  show J G mX11_drawn 8 1 0 (KXg G 1 vmI r) 0 [(0, .ref (ad G 0)), (1, .int v1), (2, .int v2)] [] h
  obtain ⟨K, hK⟩ : ∃ K, K = KXg G 1 vmI r := ⟨_, rfl⟩
  rw [← hK]
  unfold f_X11_drawn at hL
  refine j_aload_n 0 dX11_drawn_0 rfl ?_
  refine j_iload_n 1 dX11_drawn_1 rfl ?_
  obtain ⟨q1, hq1, hL⟩ := bnd_ex hL
  refine j_callVx (vm2 := vmI) (c_X11_bookAt G v1 h _ hq1) cv_RX11_118 rfl sh_0 (by decide) rfl (by decide) rfl rfl (Nat.le_of_ble_eq_true rfl) dX11_drawn_2 (by decide) kc_yX11_drawn (fun xq1 eq1 => ?_) (fun xq1 eq1 => ?_)
  rotate_left
  · subst eq1
    replace hL : some (Sum.inr xq1) = some r := hL
    cases hL
    exact hK
  subst eq1
  refine j_eq (st' := [.ref (ad G xq1.1)]) rfl rfl ?_
  obtain ⟨g2, hL⟩ := gd_ex hL
  refine j_astore_n (lv' := [(3, .ref (ad G xq1.1)), (0, .ref (ad G 0)), (1, .int v1), (2, .int v2)]) dX11_drawn_5 (by decide) rfl ?_
  refine j_aload_n 1 dX11_drawn_6 rfl ?_
  refine j_aload_n 0 dX11_drawn_7 rfl ?_
  obtain ⟨q3, hq3, hL⟩ := bnd_ex hL
  refine j_callVv (c_X11_fillShades G xq1.1 g2 xq1.2 _ hq3) cv_RX11_243 rfl sh_0 (by decide) rfl (by decide) rfl rfl (Nat.le_of_ble_eq_true rfl) dX11_drawn_8 (by decide) ?_
  refine j_iload_n 3 dX11_drawn_11 rfl ?_
  refine j_istore (lv' := [(4, .int v2), (3, .ref (ad G xq1.1)), (0, .ref (ad G 0)), (1, .int v1), (2, .int v2)]) dX11_drawn_12 (by decide) rfl ?_
  refine j_iconst 0 dX11_drawn_14 (by decide) ?_
  refine j_istore (lv' := [(5, .int 0), (4, .int v2), (3, .ref (ad G xq1.1)), (0, .ref (ad G 0)), (1, .int v1), (2, .int v2)]) dX11_drawn_15 (by decide) rfl ?_
  refine j_iconst 0 dX11_drawn_17 (by decide) ?_
  refine j_istore (lv' := [(6, .int 0), (5, .int 0), (4, .int v2), (3, .ref (ad G xq1.1)), (0, .ref (ad G 0)), (1, .int v1), (2, .int v2)]) dX11_drawn_18 (by decide) rfl ?_
  obtain ⟨q9, hq9, hL⟩ := bnd_ex hL
  refine j_sub [4, 3, 2, 1, 0] rfl ?_
  refine cl_X11_drawn_20 G K xq1.1 g2 FU v2 0 0 q3 q9 hq9 ?_
  refine j_aload_n 0 dX11_drawn_72 rfl ?_
  refine jg_RX11_55 rfl sh_0 dX11_drawn_73 ?_
  refine j_iconst 1 dX11_drawn_76 (by decide) ?_
  refine j_dup2 dX11_drawn_77 rfl rfl ?_
  obtain ⟨g10, hL⟩ := gd_ex hL
  refine j_iald (shf_11_8 sh_0) (ib_in g10) dX11_drawn_78 ?_
  refine j_iload 1 dX11_drawn_79 rfl ?_
  refine j_iadd dX11_drawn_81 ?_
  obtain ⟨g11, hL⟩ := gd_ex hL
  refine j_iast (shf_11_8 sh_0) (ib_in g11) dX11_drawn_82 ?_
  obtain ⟨h12, eh12, hL⟩ := lt_ex hL
  refine j_heap eh12 ?_
  refine j_iload 1 dX11_drawn_83 rfl ?_
  cases hL
  exact j_xreti (by decide) dX11_drawn_85 rfl hK

def f_X11_read (v1 : Int32) (v2 : Int32) (v3 : Int32) (h : AH) : Option (XR Bool) := bnd (f_X11_bookWithLeaf v1 v2 h) (fun q1 => Sum.elim (fun xq1 => gd (SH xq1.1 = (0, 0)) (gd (SH (hra xq1.2 0 3) = (5, 0)) (bnd (f_X3_take (xq1.1 + 7) v2 v3 (hfi xq1.2 (hra xq1.2 0 3) 2) xq1.2) (fun q4 => if q4.1 = true then some (.inl (true, q4.2)) else gd (ib 1 4 = true) (gd (ib 1 4 = true) (lt (sia q4.2 31 (cl 1) ((hia q4.2 31 (cl 1)) + 1)) (fun h8 => some (.inl (false, h8))))))))) (fun xq1 => some (.inr xq1)) q1)
set_option maxRecDepth 20000 in
theorem c_X11_read (G : GG) (v1 : Int32) (v2 : Int32) (v3 : Int32) (h : AH) (r : XR Bool) (hL : f_X11_read v1 v2 v3 h = some r) : SpXg G 9 2 mX11_read [.ref (ad G 0), .int v1, .int v2, .int v3] h vmZ r := by
  refine wsx_of pn_RX11 (Nat.le_of_ble_eq_true rfl) ?_
  show J G mX11_read 9 2 0 (KXg G 2 vmZ r) 0 [(0, .ref (ad G 0)), (1, .int v1), (2, .int v2), (3, .int v3)] [] h
  obtain ⟨K, hK⟩ : ∃ K, K = KXg G 2 vmZ r := ⟨_, rfl⟩
  rw [← hK]
  unfold f_X11_read at hL
  refine j_aload_n 0 dX11_read_0 rfl ?_
  refine j_iload_n 1 dX11_read_1 rfl ?_
  refine j_iload_n 2 dX11_read_2 rfl ?_
  obtain ⟨q1, hq1, hL⟩ := bnd_ex hL
  refine j_callVx (vm2 := vmZ) (c_X11_bookWithLeaf G v1 v2 h _ hq1) cv_RX11_193 rfl sh_0 (by decide) rfl (by decide) rfl rfl (Nat.le_of_ble_eq_true rfl) dX11_read_3 (by decide) kc_yX11_read (fun xq1 eq1 => ?_) (fun xq1 eq1 => ?_)
  rotate_left
  · subst eq1
    replace hL : some (Sum.inr xq1) = some r := hL
    cases hL
    exact hK
  subst eq1
  refine j_eq (st' := [.ref (ad G xq1.1)]) rfl rfl ?_
  obtain ⟨g2, hL⟩ := gd_ex hL
  refine j_astore (lv' := [(4, .ref (ad G xq1.1)), (0, .ref (ad G 0)), (1, .int v1), (2, .int v2), (3, .int v3)]) dX11_read_6 (by decide) rfl ?_
  refine j_aload 0 dX11_read_8 rfl ?_
  refine jg_RX11_250 rfl g2 dX11_read_10 ?_
  refine j_iload_n 3 dX11_read_13 rfl ?_
  refine j_iload_n 4 dX11_read_14 rfl ?_
  refine j_aload_n 1 dX11_read_15 rfl ?_
  refine jg_RX11_31 rfl sh_0 dX11_read_16 ?_
  obtain ⟨g3, hL⟩ := gd_ex hL
  refine jg_RX11_154 rfl g3 dX11_read_19 ?_
  obtain ⟨q4, hq4, hL⟩ := bnd_ex hL
  refine j_callVi (c_X3_take G (xq1.1 + 7) (shf_0_12 g2) v2 v3 (hfi xq1.2 (hra xq1.2 0 3) 2) xq1.2 _ hq4) cv_RX11_256 rfl (shf_0_12 g2) (by decide) rfl (by decide) rfl rfl (Nat.le_of_ble_eq_true rfl) dX11_read_22 (by decide) ?_
  refine j_ifz_eq 30 dX11_read_25 (by decide) (fun z5 => ?_) (fun z5 => ?_)
  · replace hL := (if_neg z5).symm.trans hL
    refine j_aload_n 1 dX11_read_30 rfl ?_
    refine jg_RX11_55 rfl sh_0 dX11_read_31 ?_
    refine j_iconst 1 dX11_read_34 (by decide) ?_
    refine j_dup2 dX11_read_35 rfl rfl ?_
    obtain ⟨g6, hL⟩ := gd_ex hL
    refine j_iald (shf_11_8 sh_0) (ib_in g6) dX11_read_36 ?_
    refine j_iconst 1 dX11_read_37 (by decide) ?_
    refine j_iadd dX11_read_38 ?_
    obtain ⟨g7, hL⟩ := gd_ex hL
    refine j_iast (shf_11_8 sh_0) (ib_in g7) dX11_read_39 ?_
    obtain ⟨h8, eh8, hL⟩ := lt_ex hL
    refine j_heap eh8 ?_
    refine j_iconst 0 dX11_read_40 (by decide) ?_
    cases hL
    exact j_xret0 (by decide) dX11_read_41 rfl hK
  · replace hL := (if_pos z5).symm.trans hL
    refine j_iconst 1 dX11_read_28 (by decide) ?_
    cases hL
    exact j_xret1 (by decide) dX11_read_29 rfl hK

def f_X11_checkAheadRead (a0 : Nat) (v1 : Int32) (h : AH) : Option (XR Unit) := if v1 ≤ 0 then some (.inl ((), h)) else bnd (f_X3_wasRead (a0 + 7) (v1 - 1) h) (fun q2 => if q2 = true then some (.inl ((), h)) else some (.inr (0, h)))
set_option maxRecDepth 20000 in
theorem c_X11_checkAheadRead (G : GG) (a0 : Nat) (s0 : SH a0 = (0, 0)) (v1 : Int32) (h : AH) (r : XR Unit) (hL : f_X11_checkAheadRead a0 v1 h = some r) : SpXg G 7 1 mX11_checkAheadRead [.ref (ad G a0), .int v1] h vmV r := by
  refine wsx_of pn_RX11 (Nat.le_of_ble_eq_true rfl) ?_
  show J G mX11_checkAheadRead 7 1 0 (KXg G 1 vmV r) 0 [(0, .ref (ad G a0)), (1, .int v1)] [] h
  obtain ⟨K, hK⟩ : ∃ K, K = KXg G 1 vmV r := ⟨_, rfl⟩
  rw [← hK]
  unfold f_X11_checkAheadRead at hL
  refine j_iload_n 1 dX11_checkAheadRead_0 rfl ?_
  refine j_if_le 28 dX11_checkAheadRead_1 (by decide) (fun z1 => ?_) (fun z1 => ?_)
  · replace hL := (if_pos z1).symm.trans hL
    cases hL
    exact j_xretv (by decide) dX11_checkAheadRead_28 rfl hK
  · replace hL := (if_neg z1).symm.trans hL
    refine j_aload_n 0 dX11_checkAheadRead_4 rfl ?_
    refine jg_RX11_250 rfl s0 dX11_checkAheadRead_5 ?_
    refine j_iload_n 1 dX11_checkAheadRead_8 rfl ?_
    refine j_iconst 1 dX11_checkAheadRead_9 (by decide) ?_
    refine j_isub dX11_checkAheadRead_10 ?_
    obtain ⟨q2, hq2, hL⟩ := bnd_ex hL
    refine j_callVi (c_X3_wasRead G (a0 + 7) (shf_0_12 s0) (v1 - 1) h _ hq2) cv_RX11_260 rfl (shf_0_12 s0) (by decide) rfl (by decide) rfl rfl (Nat.le_of_ble_eq_true rfl) dX11_checkAheadRead_11 (by decide) ?_
    refine j_ifz_ne 28 dX11_checkAheadRead_14 (by decide) (fun z3 => ?_) (fun z3 => ?_)
    · replace hL := (if_pos z3).symm.trans hL
      cases hL
      exact j_xretv (by decide) dX11_checkAheadRead_28 rfl hK
    · replace hL := (if_neg z3).symm.trans hL
      cases hL
      exact j_thrNW kc_yX11_checkAheadRead rfl (List.mem_of_getElem? (i := 18) rfl) (by decide) (by decide) (Nat.le_of_ble_eq_true rfl) dX11_checkAheadRead_17 dX11_checkAheadRead_20 dX11_checkAheadRead_21 dX11_checkAheadRead_24 dX11_checkAheadRead_27 hK

def f_X11_bounds (v1 : Int32) (v2 : Int32) (v3 : Int32) (h : AH) : Option (XR Int32) := bnd (f_X11_bookWithLeaf v1 v2 h) (fun q1 => Sum.elim (fun xq1 => gd (SH xq1.1 = (0, 0)) (if v3 < 0 then some (.inr (0, xq1.2)) else if 7 < v3 then some (.inr (0, xq1.2)) else bnd (f_X3_wasRead (xq1.1 + 7) v2 xq1.2) (fun q5 => if q5 = true then if 2 ≤ v3 then bnd (f_X11_checkAheadRead xq1.1 v2 xq1.2) (fun q8 => Sum.elim (fun xq8 => gd (SH (hra xq8.2 0 3) = (5, 0)) (bnd (f_X9_fill 33 xq1.1 (xq1.1 + 7) (hra xq8.2 0 3) xq8.2) (fun q10 => if v3 = 2 then gd (ib v2 40 = true) (some (.inl (hia q10 34 (cl v2), q10))) else (if v3 = 3 then gd (ib v2 40 = true) (some (.inl (hia q10 35 (cl v2), q10))) else (if v3 = 4 then gd (ib v2 40 = true) (some (.inl (hia q10 36 (cl v2), q10))) else (if v3 = 5 then gd (ib v2 40 = true) (some (.inl (hia q10 37 (cl v2), q10))) else (if v3 = 6 then gd (ib v2 40 = true) (some (.inl (hia q10 38 (cl v2), q10))) else (bnd (f_X9_isStrange 33 v2 q10) (fun q21 => if q21 = true then some (.inl (1, q10)) else some (.inl (0, q10))))))))))) (fun xq8 => some (.inr xq8)) q8) else if v3 = 0 then gd (ib v2 40 = true) (some (.inl (hia xq1.2 (xq1.1 + 7 + 1) (cl v2), xq1.2))) else gd (ib v2 40 = true) (some (.inl (hia xq1.2 (xq1.1 + 7 + 2) (cl v2), xq1.2))) else some (.inr (0, xq1.2))))) (fun xq1 => some (.inr xq1)) q1)
set_option maxRecDepth 20000 in
theorem c_X11_bounds (G : GG) (v1 : Int32) (v2 : Int32) (v3 : Int32) (h : AH) (r : XR Int32) (hL : f_X11_bounds v1 v2 v3 h = some r) : SpXg G 9 4 mX11_bounds [.ref (ad G 0), .int v1, .int v2, .int v3] h vmI r := by
  refine wsx_of pn_RX11 (Nat.le_of_ble_eq_true rfl) ?_
  show J G mX11_bounds 9 4 0 (KXg G 4 vmI r) 0 [(0, .ref (ad G 0)), (1, .int v1), (2, .int v2), (3, .int v3)] [] h
  obtain ⟨K, hK⟩ : ∃ K, K = KXg G 4 vmI r := ⟨_, rfl⟩
  rw [← hK]
  unfold f_X11_bounds at hL
  refine j_aload_n 0 dX11_bounds_0 rfl ?_
  refine j_iload_n 1 dX11_bounds_1 rfl ?_
  refine j_iload_n 2 dX11_bounds_2 rfl ?_
  obtain ⟨q1, hq1, hL⟩ := bnd_ex hL
  refine j_callVx (vm2 := vmI) (c_X11_bookWithLeaf G v1 v2 h _ hq1) cv_RX11_193 rfl sh_0 (by decide) rfl (by decide) rfl rfl (Nat.le_of_ble_eq_true rfl) dX11_bounds_3 (by decide) kc_yX11_bounds (fun xq1 eq1 => ?_) (fun xq1 eq1 => ?_)
  rotate_left
  · subst eq1
    replace hL : some (Sum.inr xq1) = some r := hL
    cases hL
    exact hK
  subst eq1
  refine j_eq (st' := [.ref (ad G xq1.1)]) rfl rfl ?_
  obtain ⟨g2, hL⟩ := gd_ex hL
  refine j_astore (lv' := [(4, .ref (ad G xq1.1)), (0, .ref (ad G 0)), (1, .int v1), (2, .int v2), (3, .int v3)]) dX11_bounds_6 (by decide) rfl ?_
  refine j_iload_n 4 dX11_bounds_8 rfl ?_
  refine j_if_lt 30 dX11_bounds_9 (by decide) (fun z3 => ?_) (fun z3 => ?_)
  · replace hL := (if_pos z3).symm.trans hL
    cases hL
    exact j_thrN kc_yX11_bounds rfl (List.mem_of_getElem? (i := 14) rfl) (by decide) (by decide) (Nat.le_of_ble_eq_true rfl) dX11_bounds_30 dX11_bounds_33 dX11_bounds_34 dX11_bounds_36 dX11_bounds_39 hK
  · replace hL := (if_neg z3).symm.trans hL
    refine j_iload_n 4 dX11_bounds_12 rfl ?_
    refine j_bipush 7 dX11_bounds_13 (by decide) ?_
    refine j_icmp_gt 30 dX11_bounds_15 (by decide) (fun z4 => ?_) (fun z4 => ?_)
    · replace hL := (if_pos z4).symm.trans hL
      cases hL
      exact j_thrN kc_yX11_bounds rfl (List.mem_of_getElem? (i := 14) rfl) (by decide) (by decide) (Nat.le_of_ble_eq_true rfl) dX11_bounds_30 dX11_bounds_33 dX11_bounds_34 dX11_bounds_36 dX11_bounds_39 hK
    · replace hL := (if_neg z4).symm.trans hL
      refine j_aload 0 dX11_bounds_18 rfl ?_
      refine jg_RX11_250 rfl g2 dX11_bounds_20 ?_
      refine j_iload_n 3 dX11_bounds_23 rfl ?_
      obtain ⟨q5, hq5, hL⟩ := bnd_ex hL
      refine j_callVi (c_X3_wasRead G (xq1.1 + 7) (shf_0_12 g2) v2 xq1.2 _ hq5) cv_RX11_260 rfl (shf_0_12 g2) (by decide) rfl (by decide) rfl rfl (Nat.le_of_ble_eq_true rfl) dX11_bounds_24 (by decide) ?_
      refine j_ifz_ne 40 dX11_bounds_27 (by decide) (fun z6 => ?_) (fun z6 => ?_)
      · replace hL := (if_pos z6).symm.trans hL
        refine j_iload_n 4 dX11_bounds_40 rfl ?_
        refine j_iconst 2 dX11_bounds_41 (by decide) ?_
        refine j_icmp_ge 73 dX11_bounds_42 (by decide) (fun z7 => ?_) (fun z7 => ?_)
        · replace hL := (if_pos z7).symm.trans hL
          refine j_aload 0 dX11_bounds_73 rfl ?_
          refine j_iload_n 3 dX11_bounds_75 rfl ?_
          obtain ⟨q8, hq8, hL⟩ := bnd_ex hL
          refine j_callSx (vm2 := vmI) (c_X11_checkAheadRead G xq1.1 g2 v2 xq1.2 _ hq8) cv_RX11_270 rfl (by decide) rfl rfl (Nat.le_of_ble_eq_true rfl) dX11_bounds_76 (by decide) kc_yX11_bounds (fun xq8 eq8 => ?_) (fun xq8 eq8 => ?_)
          rotate_left
          · subst eq8
            replace hL : some (Sum.inr xq8) = some r := hL
            cases hL
            exact hK
          subst eq8
          refine j_eq (st' := []) rfl rfl ?_
          refine j_aload_n 1 dX11_bounds_79 rfl ?_
          refine jg_RX11_65 rfl sh_0 dX11_bounds_80 ?_
          refine j_aload 0 dX11_bounds_83 rfl ?_
          refine j_aload 0 dX11_bounds_85 rfl ?_
          refine jg_RX11_250 rfl g2 dX11_bounds_87 ?_
          refine j_aload_n 1 dX11_bounds_90 rfl ?_
          refine jg_RX11_31 rfl sh_0 dX11_bounds_91 ?_
          obtain ⟨g9, hL⟩ := gd_ex hL
          obtain ⟨q10, hq10, hL⟩ := bnd_ex hL
          refine j_callVv (c_X9_fill G 33 (shf_11_11 sh_0) xq1.1 g2 (xq1.1 + 7) (shf_0_12 g2) (hra xq8.2 0 3) g9 xq8.2 _ hq10) cv_RX11_274 rfl (shf_11_11 sh_0) (by decide) rfl (by decide) rfl rfl (Nat.le_of_ble_eq_true rfl) dX11_bounds_94 (by decide) ?_
          refine j_iload_n 4 dX11_bounds_97 rfl ?_
          by_cases z11 : v3 = 2
          · replace hL := (if_pos z11).symm.trans hL
            refine j_swIn 132 dX11_bounds_98 (by rw [z11]; decide) (by rw [z11]; decide) (by rw [z11]; rfl) (by decide) ?_
            refine j_aload_n 1 dX11_bounds_132 rfl ?_
            refine jg_RX11_65 rfl sh_0 dX11_bounds_133 ?_
            refine jg_RX11_278 rfl (shf_11_11 sh_0) dX11_bounds_136 ?_
            refine j_iload_n 3 dX11_bounds_139 rfl ?_
            obtain ⟨g12, hL⟩ := gd_ex hL
            refine j_iald (shf_9_0 (shf_11_11 sh_0)) (ib_in g12) dX11_bounds_140 ?_
            cases hL
            exact j_xreti (by decide) dX11_bounds_141 rfl hK
          · replace hL := (if_neg z11).symm.trans hL
            by_cases z13 : v3 = 3
            · replace hL := (if_pos z13).symm.trans hL
              refine j_swIn 142 dX11_bounds_98 (by rw [z13]; decide) (by rw [z13]; decide) (by rw [z13]; rfl) (by decide) ?_
              refine j_aload_n 1 dX11_bounds_142 rfl ?_
              refine jg_RX11_65 rfl sh_0 dX11_bounds_143 ?_
              refine jg_RX11_279 rfl (shf_11_11 sh_0) dX11_bounds_146 ?_
              refine j_iload_n 3 dX11_bounds_149 rfl ?_
              obtain ⟨g14, hL⟩ := gd_ex hL
              refine j_iald (shf_9_1 (shf_11_11 sh_0)) (ib_in g14) dX11_bounds_150 ?_
              cases hL
              exact j_xreti (by decide) dX11_bounds_151 rfl hK
            · replace hL := (if_neg z13).symm.trans hL
              by_cases z15 : v3 = 4
              · replace hL := (if_pos z15).symm.trans hL
                refine j_swIn 152 dX11_bounds_98 (by rw [z15]; decide) (by rw [z15]; decide) (by rw [z15]; rfl) (by decide) ?_
                refine j_aload_n 1 dX11_bounds_152 rfl ?_
                refine jg_RX11_65 rfl sh_0 dX11_bounds_153 ?_
                refine jg_RX11_280 rfl (shf_11_11 sh_0) dX11_bounds_156 ?_
                refine j_iload_n 3 dX11_bounds_159 rfl ?_
                obtain ⟨g16, hL⟩ := gd_ex hL
                refine j_iald (shf_9_2 (shf_11_11 sh_0)) (ib_in g16) dX11_bounds_160 ?_
                cases hL
                exact j_xreti (by decide) dX11_bounds_161 rfl hK
              · replace hL := (if_neg z15).symm.trans hL
                by_cases z17 : v3 = 5
                · replace hL := (if_pos z17).symm.trans hL
                  refine j_swIn 162 dX11_bounds_98 (by rw [z17]; decide) (by rw [z17]; decide) (by rw [z17]; rfl) (by decide) ?_
                  refine j_aload_n 1 dX11_bounds_162 rfl ?_
                  refine jg_RX11_65 rfl sh_0 dX11_bounds_163 ?_
                  refine jg_RX11_283 rfl (shf_11_11 sh_0) dX11_bounds_166 ?_
                  refine j_iload_n 3 dX11_bounds_169 rfl ?_
                  obtain ⟨g18, hL⟩ := gd_ex hL
                  refine j_iald (shf_9_3 (shf_11_11 sh_0)) (ib_in g18) dX11_bounds_170 ?_
                  cases hL
                  exact j_xreti (by decide) dX11_bounds_171 rfl hK
                · replace hL := (if_neg z17).symm.trans hL
                  by_cases z19 : v3 = 6
                  · replace hL := (if_pos z19).symm.trans hL
                    refine j_swIn 172 dX11_bounds_98 (by rw [z19]; decide) (by rw [z19]; decide) (by rw [z19]; rfl) (by decide) ?_
                    refine j_aload_n 1 dX11_bounds_172 rfl ?_
                    refine jg_RX11_65 rfl sh_0 dX11_bounds_173 ?_
                    refine jg_RX11_286 rfl (shf_11_11 sh_0) dX11_bounds_176 ?_
                    refine j_iload_n 3 dX11_bounds_179 rfl ?_
                    obtain ⟨g20, hL⟩ := gd_ex hL
                    refine j_iald (shf_9_4 (shf_11_11 sh_0)) (ib_in g20) dX11_bounds_180 ?_
                    cases hL
                    exact j_xreti (by decide) dX11_bounds_181 rfl hK
                  · replace hL := (if_neg z19).symm.trans hL
                    refine j_swOut 182 dX11_bounds_98 (sw_out (by have wz11 := sw_ne z11 (k := 2) (by decide); have wz13 := sw_ne z13 (k := 3) (by decide); have wz15 := sw_ne z15 (k := 4) (by decide); have wz17 := sw_ne z17 (k := 5) (by decide); have wz19 := sw_ne z19 (k := 6) (by decide); omega)) (by decide) ?_
                    refine j_aload_n 1 dX11_bounds_182 rfl ?_
                    refine jg_RX11_65 rfl sh_0 dX11_bounds_183 ?_
                    refine j_iload_n 3 dX11_bounds_186 rfl ?_
                    obtain ⟨q21, hq21, hL⟩ := bnd_ex hL
                    refine j_callVi (c_X9_isStrange G 33 (shf_11_11 sh_0) v2 q10 _ hq21) cv_RX11_289 rfl (shf_11_11 sh_0) (by decide) rfl (by decide) rfl rfl (Nat.le_of_ble_eq_true rfl) dX11_bounds_187 (by decide) ?_
                    refine j_ifz_eq 197 dX11_bounds_190 (by decide) (fun z22 => ?_) (fun z22 => ?_)
                    · replace hL := (if_neg z22).symm.trans hL
                      refine j_iconst 0 dX11_bounds_197 (by decide) ?_
                      cases hL
                      exact j_xreti (by decide) dX11_bounds_198 rfl hK
                    · replace hL := (if_pos z22).symm.trans hL
                      refine j_iconst 1 dX11_bounds_193 (by decide) ?_
                      refine j_goto 198 dX11_bounds_194 (by decide) ?_
                      cases hL
                      exact j_xreti (by decide) dX11_bounds_198 rfl hK
        · replace hL := (if_neg z7).symm.trans hL
          refine j_iload_n 4 dX11_bounds_45 rfl ?_
          refine j_if_ne 62 dX11_bounds_46 (by decide) (fun z23 => ?_) (fun z23 => ?_)
          · replace hL := (if_neg z23).symm.trans hL
            refine j_aload 0 dX11_bounds_62 rfl ?_
            refine jg_RX11_250 rfl g2 dX11_bounds_64 ?_
            refine jg_RX11_267 rfl (shf_0_12 g2) dX11_bounds_67 ?_
            refine j_iload_n 3 dX11_bounds_70 rfl ?_
            obtain ⟨g24, hL⟩ := gd_ex hL
            refine j_iald (shf_3_1 (shf_0_12 g2)) (ib_in g24) dX11_bounds_71 ?_
            cases hL
            exact j_xreti (by decide) dX11_bounds_72 rfl hK
          · replace hL := (if_pos z23).symm.trans hL
            refine j_aload 0 dX11_bounds_49 rfl ?_
            refine jg_RX11_250 rfl g2 dX11_bounds_51 ?_
            refine jg_RX11_264 rfl (shf_0_12 g2) dX11_bounds_54 ?_
            refine j_iload_n 3 dX11_bounds_57 rfl ?_
            obtain ⟨g25, hL⟩ := gd_ex hL
            refine j_iald (shf_3_0 (shf_0_12 g2)) (ib_in g25) dX11_bounds_58 ?_
            refine j_goto 72 dX11_bounds_59 (by decide) ?_
            cases hL
            exact j_xreti (by decide) dX11_bounds_72 rfl hK
      · replace hL := (if_neg z6).symm.trans hL
        cases hL
        exact j_thrN kc_yX11_bounds rfl (List.mem_of_getElem? (i := 14) rfl) (by decide) (by decide) (Nat.le_of_ble_eq_true rfl) dX11_bounds_30 dX11_bounds_33 dX11_bounds_34 dX11_bounds_36 dX11_bounds_39 hK

def f_X11_knownAt (v1 : Int32) (a2 : Nat) (h : AH) : Option (XR Nat) := bnd (f_X11_bookAt v1 h) (fun q1 => Sum.elim (fun xq1 => gd (SH xq1.1 = (0, 0)) (bnd (f_X0_isKnown xq1.1 xq1.2) (fun q3 => if q3 = true then gd (SH (hra xq1.2 0 3) = (5, 0)) (bnd (f_X9_fill a2 xq1.1 (xq1.1 + 7) (hra xq1.2 0 3) xq1.2) (fun q6 => some (.inl (xq1.1, q6)))) else some (.inr (0, xq1.2))))) (fun xq1 => some (.inr xq1)) q1)
set_option maxRecDepth 20000 in
theorem c_X11_knownAt (G : GG) (v1 : Int32) (a2 : Nat) (s2 : SH a2 = (9, 0)) (h : AH) (r : XR Nat) (hL : f_X11_knownAt v1 a2 h = some r) : SpXg G 8 2 mX11_knownAt [.ref (ad G 0), .int v1, .ref (ad G a2)] h (vmR G) r := by
  refine wsx_of pn_RX11 (Nat.le_of_ble_eq_true rfl) ?_
  show J G mX11_knownAt 8 2 0 (KXg G 2 (vmR G) r) 0 [(0, .ref (ad G 0)), (1, .int v1), (2, .ref (ad G a2))] [] h
  obtain ⟨K, hK⟩ : ∃ K, K = KXg G 2 (vmR G) r := ⟨_, rfl⟩
  rw [← hK]
  unfold f_X11_knownAt at hL
  refine j_aload_n 0 dX11_knownAt_0 rfl ?_
  refine j_iload_n 1 dX11_knownAt_1 rfl ?_
  obtain ⟨q1, hq1, hL⟩ := bnd_ex hL
  refine j_callVx (vm2 := (vmR G)) (c_X11_bookAt G v1 h _ hq1) cv_RX11_118 rfl sh_0 (by decide) rfl (by decide) rfl rfl (Nat.le_of_ble_eq_true rfl) dX11_knownAt_2 (by decide) kc_yX11_knownAt (fun xq1 eq1 => ?_) (fun xq1 eq1 => ?_)
  rotate_left
  · subst eq1
    replace hL : some (Sum.inr xq1) = some r := hL
    cases hL
    exact hK
  subst eq1
  refine j_eq (st' := [.ref (ad G xq1.1)]) rfl rfl ?_
  obtain ⟨g2, hL⟩ := gd_ex hL
  refine j_astore_n (lv' := [(3, .ref (ad G xq1.1)), (0, .ref (ad G 0)), (1, .int v1), (2, .ref (ad G a2))]) dX11_knownAt_5 (by decide) rfl ?_
  refine j_aload_n 0 dX11_knownAt_6 rfl ?_
  obtain ⟨q3, hq3, hL⟩ := bnd_ex hL
  refine j_callVi (c_X0_isKnown G xq1.1 g2 xq1.2 _ hq3) cv_RX11_176 rfl g2 (by decide) rfl (by decide) rfl rfl (Nat.le_of_ble_eq_true rfl) dX11_knownAt_7 (by decide) ?_
  refine j_ifz_ne 24 dX11_knownAt_10 (by decide) (fun z4 => ?_) (fun z4 => ?_)
  · replace hL := (if_pos z4).symm.trans hL
    refine j_aload_n 3 dX11_knownAt_24 rfl ?_
    refine j_aload_n 0 dX11_knownAt_25 rfl ?_
    refine j_aload_n 0 dX11_knownAt_26 rfl ?_
    refine jg_RX11_250 rfl g2 dX11_knownAt_27 ?_
    refine j_aload_n 1 dX11_knownAt_30 rfl ?_
    refine jg_RX11_31 rfl sh_0 dX11_knownAt_31 ?_
    obtain ⟨g5, hL⟩ := gd_ex hL
    obtain ⟨q6, hq6, hL⟩ := bnd_ex hL
    refine j_callVv (c_X9_fill G a2 s2 xq1.1 g2 (xq1.1 + 7) (shf_0_12 g2) (hra xq1.2 0 3) g5 xq1.2 _ hq6) cv_RX11_274 rfl s2 (by decide) rfl (by decide) rfl rfl (Nat.le_of_ble_eq_true rfl) dX11_knownAt_34 (by decide) ?_
    refine j_aload_n 0 dX11_knownAt_37 rfl ?_
    cases hL
    exact j_xretr (by decide) dX11_knownAt_38 rfl hK
  · replace hL := (if_neg z4).symm.trans hL
    cases hL
    exact j_thrNW kc_yX11_knownAt rfl (List.mem_of_getElem? (i := 19) rfl) (by decide) (by decide) (Nat.le_of_ble_eq_true rfl) dX11_knownAt_13 dX11_knownAt_16 dX11_knownAt_17 dX11_knownAt_20 dX11_knownAt_23 hK

def f_X11_checkHeld (a0 : Nat) (v1 : Int32) (h : AH) : Option (XR Unit) := if v1 < 0 then some (.inr (0, h)) else if 12 ≤ v1 then some (.inr (0, h)) else gd (ib v1 12 = true) (if 1 ≤ (hia h (a0 + 7) (cl v1)) then some (.inl ((), h)) else some (.inr (0, h)))
set_option maxRecDepth 20000 in
theorem c_X11_checkHeld (G : GG) (a0 : Nat) (s0 : SH a0 = (9, 0)) (v1 : Int32) (h : AH) (r : XR Unit) (hL : f_X11_checkHeld a0 v1 h = some r) : SpXg G 7 1 mX11_checkHeld [.ref (ad G a0), .int v1] h vmV r := by
  refine wsx_of pn_RX11 (Nat.le_of_ble_eq_true rfl) ?_
  show J G mX11_checkHeld 7 1 0 (KXg G 1 vmV r) 0 [(0, .ref (ad G a0)), (1, .int v1)] [] h
  obtain ⟨K, hK⟩ : ∃ K, K = KXg G 1 vmV r := ⟨_, rfl⟩
  rw [← hK]
  unfold f_X11_checkHeld at hL
  refine j_iload_n 1 dX11_checkHeld_0 rfl ?_
  refine j_if_lt 20 dX11_checkHeld_1 (by decide) (fun z1 => ?_) (fun z1 => ?_)
  · replace hL := (if_pos z1).symm.trans hL
    cases hL
    exact j_thrNW kc_yX11_checkHeld rfl (List.mem_of_getElem? (i := 16) rfl) (by decide) (by decide) (Nat.le_of_ble_eq_true rfl) dX11_checkHeld_20 dX11_checkHeld_23 dX11_checkHeld_24 dX11_checkHeld_27 dX11_checkHeld_30 hK
  · replace hL := (if_neg z1).symm.trans hL
    refine j_iload_n 1 dX11_checkHeld_4 rfl ?_
    refine j_bipush 12 dX11_checkHeld_5 (by decide) ?_
    refine j_icmp_ge 20 dX11_checkHeld_7 (by decide) (fun z2 => ?_) (fun z2 => ?_)
    · replace hL := (if_pos z2).symm.trans hL
      cases hL
      exact j_thrNW kc_yX11_checkHeld rfl (List.mem_of_getElem? (i := 16) rfl) (by decide) (by decide) (Nat.le_of_ble_eq_true rfl) dX11_checkHeld_20 dX11_checkHeld_23 dX11_checkHeld_24 dX11_checkHeld_27 dX11_checkHeld_30 hK
    · replace hL := (if_neg z2).symm.trans hL
      refine j_aload_n 0 dX11_checkHeld_10 rfl ?_
      refine jg_RX11_435 rfl s0 dX11_checkHeld_11 ?_
      refine j_iload_n 1 dX11_checkHeld_14 rfl ?_
      obtain ⟨g3, hL⟩ := gd_ex hL
      refine j_iald (shf_9_6 s0) (ib_in g3) dX11_checkHeld_15 ?_
      refine j_iconst 1 dX11_checkHeld_16 (by decide) ?_
      refine j_icmp_ge 31 dX11_checkHeld_17 (by decide) (fun z4 => ?_) (fun z4 => ?_)
      · replace hL := (if_pos z4).symm.trans hL
        cases hL
        exact j_xretv (by decide) dX11_checkHeld_31 rfl hK
      · replace hL := (if_neg z4).symm.trans hL
        cases hL
        exact j_thrNW kc_yX11_checkHeld rfl (List.mem_of_getElem? (i := 16) rfl) (by decide) (by decide) (Nat.le_of_ble_eq_true rfl) dX11_checkHeld_20 dX11_checkHeld_23 dX11_checkHeld_24 dX11_checkHeld_27 dX11_checkHeld_30 hK

def f_X11_light (v1 : Int32) (v2 : Int32) (h : AH) : Option (XR Int32) := bnd (f_X11_knownAt v1 33 h) (fun q1 => Sum.elim (fun xq1 => gd (SH xq1.1 = (0, 0)) (bnd (f_X11_checkHeld 33 v2 xq1.2) (fun q3 => Sum.elim (fun xq3 => gd (ib v2 12 = true) (some (.inl (hia xq3.2 39 (cl v2), xq3.2)))) (fun xq3 => some (.inr xq3)) q3))) (fun xq1 => some (.inr xq1)) q1)
set_option maxRecDepth 20000 in
theorem c_X11_light (G : GG) (v1 : Int32) (v2 : Int32) (h : AH) (r : XR Int32) (hL : f_X11_light v1 v2 h = some r) : SpXg G 9 3 mX11_light [.ref (ad G 0), .int v1, .int v2] h vmI r := by
  refine wsx_of pn_RX11 (Nat.le_of_ble_eq_true rfl) ?_
  show J G mX11_light 9 3 0 (KXg G 3 vmI r) 0 [(0, .ref (ad G 0)), (1, .int v1), (2, .int v2)] [] h
  obtain ⟨K, hK⟩ : ∃ K, K = KXg G 3 vmI r := ⟨_, rfl⟩
  rw [← hK]
  unfold f_X11_light at hL
  refine j_aload_n 0 dX11_light_0 rfl ?_
  refine j_iload_n 1 dX11_light_1 rfl ?_
  refine j_aload_n 0 dX11_light_2 rfl ?_
  refine jg_RX11_65 rfl sh_0 dX11_light_3 ?_
  obtain ⟨q1, hq1, hL⟩ := bnd_ex hL
  refine j_callVx (vm2 := vmI) (c_X11_knownAt G v1 33 (shf_11_11 sh_0) h _ hq1) cv_RX11_292 rfl sh_0 (by decide) rfl (by decide) rfl rfl (Nat.le_of_ble_eq_true rfl) dX11_light_6 (by decide) kc_yX11_light (fun xq1 eq1 => ?_) (fun xq1 eq1 => ?_)
  rotate_left
  · subst eq1
    replace hL : some (Sum.inr xq1) = some r := hL
    cases hL
    exact hK
  subst eq1
  refine j_eq (st' := [.ref (ad G xq1.1)]) rfl rfl ?_
  obtain ⟨g2, hL⟩ := gd_ex hL
  refine j_pop dX11_light_9 rfl ?_
  refine j_aload_n 0 dX11_light_10 rfl ?_
  refine jg_RX11_65 rfl sh_0 dX11_light_11 ?_
  refine j_iload_n 2 dX11_light_14 rfl ?_
  obtain ⟨q3, hq3, hL⟩ := bnd_ex hL
  refine j_callSx (vm2 := vmI) (c_X11_checkHeld G 33 (shf_11_11 sh_0) v2 xq1.2 _ hq3) cv_RX11_296 rfl (by decide) rfl rfl (Nat.le_of_ble_eq_true rfl) dX11_light_15 (by decide) kc_yX11_light (fun xq3 eq3 => ?_) (fun xq3 eq3 => ?_)
  rotate_left
  · subst eq3
    replace hL : some (Sum.inr xq3) = some r := hL
    cases hL
    exact hK
  subst eq3
  refine j_eq (st' := []) rfl rfl ?_
  refine j_aload_n 0 dX11_light_18 rfl ?_
  refine jg_RX11_65 rfl sh_0 dX11_light_19 ?_
  refine jg_RX11_300 rfl (shf_11_11 sh_0) dX11_light_22 ?_
  refine j_iload_n 2 dX11_light_25 rfl ?_
  obtain ⟨g4, hL⟩ := gd_ex hL
  refine j_iald (shf_9_5 (shf_11_11 sh_0)) (ib_in g4) dX11_light_26 ?_
  cases hL
  exact j_xreti (by decide) dX11_light_27 rfl hK

def f_X11_sleepy (v1 : Int32) (v2 : Int32) (h : AH) : Option (XR Int32) := bnd (f_X11_knownAt v1 33 h) (fun q1 => Sum.elim (fun xq1 => gd (SH xq1.1 = (0, 0)) (if v2 = 0 then bnd (f_X9_pairs 33 xq1.1 true xq1.2) (fun q4 => some (.inl (q4, xq1.2))) else (if v2 = 1 then bnd (f_X9_pairs 33 xq1.1 false xq1.2) (fun q6 => some (.inl (q6, xq1.2))) else (if v2 = 2 then bnd (f_X9_pairs 33 xq1.1 true xq1.2) (fun q8 => bnd (f_X1_ofAtLeast 51 xq1.1 q8 xq1.2) (fun q9 => some (.inl (q9.1, q9.2)))) else (some (.inr (0, xq1.2))))))) (fun xq1 => some (.inr xq1)) q1)
set_option maxRecDepth 20000 in
theorem c_X11_sleepy (G : GG) (v1 : Int32) (v2 : Int32) (h : AH) (r : XR Int32) (hL : f_X11_sleepy v1 v2 h = some r) : SpXg G 9 3 mX11_sleepy [.ref (ad G 0), .int v1, .int v2] h vmI r := by
  refine wsx_of pn_RX11 (Nat.le_of_ble_eq_true rfl) ?_
  show J G mX11_sleepy 9 3 0 (KXg G 3 vmI r) 0 [(0, .ref (ad G 0)), (1, .int v1), (2, .int v2)] [] h
  obtain ⟨K, hK⟩ : ∃ K, K = KXg G 3 vmI r := ⟨_, rfl⟩
  rw [← hK]
  unfold f_X11_sleepy at hL
  refine j_aload_n 0 dX11_sleepy_0 rfl ?_
  refine j_iload_n 1 dX11_sleepy_1 rfl ?_
  refine j_aload_n 0 dX11_sleepy_2 rfl ?_
  refine jg_RX11_65 rfl sh_0 dX11_sleepy_3 ?_
  obtain ⟨q1, hq1, hL⟩ := bnd_ex hL
  refine j_callVx (vm2 := vmI) (c_X11_knownAt G v1 33 (shf_11_11 sh_0) h _ hq1) cv_RX11_292 rfl sh_0 (by decide) rfl (by decide) rfl rfl (Nat.le_of_ble_eq_true rfl) dX11_sleepy_6 (by decide) kc_yX11_sleepy (fun xq1 eq1 => ?_) (fun xq1 eq1 => ?_)
  rotate_left
  · subst eq1
    replace hL : some (Sum.inr xq1) = some r := hL
    cases hL
    exact hK
  subst eq1
  refine j_eq (st' := [.ref (ad G xq1.1)]) rfl rfl ?_
  obtain ⟨g2, hL⟩ := gd_ex hL
  refine j_astore_n (lv' := [(3, .ref (ad G xq1.1)), (0, .ref (ad G 0)), (1, .int v1), (2, .int v2)]) dX11_sleepy_9 (by decide) rfl ?_
  refine j_iload_n 3 dX11_sleepy_10 rfl ?_
  by_cases z3 : v2 = 0
  · replace hL := (if_pos z3).symm.trans hL
    refine j_swIn 36 dX11_sleepy_11 (by rw [z3]; decide) (by rw [z3]; decide) (by rw [z3]; rfl) (by decide) ?_
    refine j_aload_n 1 dX11_sleepy_36 rfl ?_
    refine jg_RX11_65 rfl sh_0 dX11_sleepy_37 ?_
    refine j_aload_n 0 dX11_sleepy_40 rfl ?_
    refine j_iconst 1 dX11_sleepy_41 (by decide) ?_
    refine j_eq (st' := [.int (bI true), .ref (ad G xq1.1), .ref (ad G 33)]) rfl rfl ?_
    obtain ⟨q4, hq4, hL⟩ := bnd_ex hL
    refine j_callVi (c_X9_pairs G 33 (shf_11_11 sh_0) xq1.1 g2 true xq1.2 _ hq4) cv_RX11_303 rfl (shf_11_11 sh_0) (by decide) rfl (by decide) rfl rfl (Nat.le_of_ble_eq_true rfl) dX11_sleepy_42 (by decide) ?_
    cases hL
    exact j_xreti (by decide) dX11_sleepy_45 rfl hK
  · replace hL := (if_neg z3).symm.trans hL
    by_cases z5 : v2 = 1
    · replace hL := (if_pos z5).symm.trans hL
      refine j_swIn 46 dX11_sleepy_11 (by rw [z5]; decide) (by rw [z5]; decide) (by rw [z5]; rfl) (by decide) ?_
      refine j_aload_n 1 dX11_sleepy_46 rfl ?_
      refine jg_RX11_65 rfl sh_0 dX11_sleepy_47 ?_
      refine j_aload_n 0 dX11_sleepy_50 rfl ?_
      refine j_iconst 0 dX11_sleepy_51 (by decide) ?_
      refine j_eq (st' := [.int (bI false), .ref (ad G xq1.1), .ref (ad G 33)]) rfl rfl ?_
      obtain ⟨q6, hq6, hL⟩ := bnd_ex hL
      refine j_callVi (c_X9_pairs G 33 (shf_11_11 sh_0) xq1.1 g2 false xq1.2 _ hq6) cv_RX11_303 rfl (shf_11_11 sh_0) (by decide) rfl (by decide) rfl rfl (Nat.le_of_ble_eq_true rfl) dX11_sleepy_52 (by decide) ?_
      cases hL
      exact j_xreti (by decide) dX11_sleepy_55 rfl hK
    · replace hL := (if_neg z5).symm.trans hL
      by_cases z7 : v2 = 2
      · replace hL := (if_pos z7).symm.trans hL
        refine j_swIn 56 dX11_sleepy_11 (by rw [z7]; decide) (by rw [z7]; decide) (by rw [z7]; rfl) (by decide) ?_
        refine j_aload_n 1 dX11_sleepy_56 rfl ?_
        refine jg_RX11_75 rfl sh_0 dX11_sleepy_57 ?_
        refine j_aload_n 0 dX11_sleepy_60 rfl ?_
        refine j_aload_n 1 dX11_sleepy_61 rfl ?_
        refine jg_RX11_65 rfl sh_0 dX11_sleepy_62 ?_
        refine j_aload_n 0 dX11_sleepy_65 rfl ?_
        refine j_iconst 1 dX11_sleepy_66 (by decide) ?_
        refine j_eq (st' := [.int (bI true), .ref (ad G xq1.1), .ref (ad G 33), .ref (ad G xq1.1), .ref (ad G 51)]) rfl rfl ?_
        obtain ⟨q8, hq8, hL⟩ := bnd_ex hL
        refine j_callVi (c_X9_pairs G 33 (shf_11_11 sh_0) xq1.1 g2 true xq1.2 _ hq8) cv_RX11_303 rfl (shf_11_11 sh_0) (by decide) rfl (by decide) rfl rfl (Nat.le_of_ble_eq_true rfl) dX11_sleepy_67 (by decide) ?_
        obtain ⟨q9, hq9, hL⟩ := bnd_ex hL
        refine j_callVi (c_X1_ofAtLeast G 51 (shf_11_13 sh_0) xq1.1 g2 q8 xq1.2 _ hq9) cv_RX11_307 rfl (shf_11_13 sh_0) (by decide) rfl (by decide) rfl rfl (Nat.le_of_ble_eq_true rfl) dX11_sleepy_70 (by decide) ?_
        cases hL
        exact j_xreti (by decide) dX11_sleepy_73 rfl hK
      · replace hL := (if_neg z7).symm.trans hL
        refine j_swOut 74 dX11_sleepy_11 (sw_out (by have wz3 := sw_ne z3 (k := 0) (by decide); have wz5 := sw_ne z5 (k := 1) (by decide); have wz7 := sw_ne z7 (k := 2) (by decide); omega)) (by decide) ?_
        cases hL
        exact j_thrN kc_yX11_sleepy rfl (List.mem_of_getElem? (i := 14) rfl) (by decide) (by decide) (Nat.le_of_ble_eq_true rfl) dX11_sleepy_74 dX11_sleepy_77 dX11_sleepy_78 dX11_sleepy_80 dX11_sleepy_83 hK

def f_X11_partedInto (v1 : Int32) (h : AH) : Option (XR Int64) := bnd (f_X4_sort 54 33 h) (fun q1 => if v1 < 1 then some (.inr (0, q1)) else if 4 < v1 then some (.inr (0, q1)) else if v1 ≤ (hfi q1 54 0) then bnd (f_X4_part 54 v1 q1) (fun q5 => some (.inl (q5.1, q5.2))) else some (.inr (0, q1)))
set_option maxRecDepth 20000 in
theorem c_X11_partedInto (G : GG) (v1 : Int32) (h : AH) (r : XR Int64) (hL : f_X11_partedInto v1 h = some r) : SpXg G 7 1 mX11_partedInto [.ref (ad G 0), .int v1] h vmL r := by
  refine wsx_of pn_RX11 (Nat.le_of_ble_eq_true rfl) ?_
  show J G mX11_partedInto 7 1 0 (KXg G 1 vmL r) 0 [(0, .ref (ad G 0)), (1, .int v1)] [] h
  obtain ⟨K, hK⟩ : ∃ K, K = KXg G 1 vmL r := ⟨_, rfl⟩
  rw [← hK]
  unfold f_X11_partedInto at hL
  refine j_aload_n 0 dX11_partedInto_0 rfl ?_
  refine jg_RX11_82 rfl sh_0 dX11_partedInto_1 ?_
  refine j_aload_n 0 dX11_partedInto_4 rfl ?_
  refine jg_RX11_65 rfl sh_0 dX11_partedInto_5 ?_
  obtain ⟨q1, hq1, hL⟩ := bnd_ex hL
  refine j_callVv (c_X4_sort G 54 (shf_11_14 sh_0) 33 (shf_11_11 sh_0) h _ hq1) cv_RX11_442 rfl (shf_11_14 sh_0) (by decide) rfl (by decide) rfl rfl (Nat.le_of_ble_eq_true rfl) dX11_partedInto_8 (by decide) ?_
  refine j_iload_n 1 dX11_partedInto_11 rfl ?_
  refine j_iconst 1 dX11_partedInto_12 (by decide) ?_
  refine j_icmp_lt 32 dX11_partedInto_13 (by decide) (fun z2 => ?_) (fun z2 => ?_)
  · replace hL := (if_pos z2).symm.trans hL
    cases hL
    exact j_thrNW kc_yX11_partedInto rfl (List.mem_of_getElem? (i := 20) rfl) (by decide) (by decide) (Nat.le_of_ble_eq_true rfl) dX11_partedInto_32 dX11_partedInto_35 dX11_partedInto_36 dX11_partedInto_39 dX11_partedInto_42 hK
  · replace hL := (if_neg z2).symm.trans hL
    refine j_iload_n 1 dX11_partedInto_16 rfl ?_
    refine j_iconst 4 dX11_partedInto_17 (by decide) ?_
    refine j_icmp_gt 32 dX11_partedInto_18 (by decide) (fun z3 => ?_) (fun z3 => ?_)
    · replace hL := (if_pos z3).symm.trans hL
      cases hL
      exact j_thrNW kc_yX11_partedInto rfl (List.mem_of_getElem? (i := 20) rfl) (by decide) (by decide) (Nat.le_of_ble_eq_true rfl) dX11_partedInto_32 dX11_partedInto_35 dX11_partedInto_36 dX11_partedInto_39 dX11_partedInto_42 hK
    · replace hL := (if_neg z3).symm.trans hL
      refine j_iload_n 1 dX11_partedInto_21 rfl ?_
      refine j_aload_n 0 dX11_partedInto_22 rfl ?_
      refine jg_RX11_82 rfl sh_0 dX11_partedInto_23 ?_
      refine jg_RX11_446 rfl (shf_11_14 sh_0) dX11_partedInto_26 ?_
      refine j_icmp_le 43 dX11_partedInto_29 (by decide) (fun z4 => ?_) (fun z4 => ?_)
      · replace hL := (if_pos z4).symm.trans hL
        refine j_aload_n 0 dX11_partedInto_43 rfl ?_
        refine jg_RX11_82 rfl sh_0 dX11_partedInto_44 ?_
        refine j_iload_n 1 dX11_partedInto_47 rfl ?_
        obtain ⟨q5, hq5, hL⟩ := bnd_ex hL
        refine j_callVl (c_X4_part G 54 (shf_11_14 sh_0) v1 q1 _ hq5) cv_RX11_449 rfl (shf_11_14 sh_0) (by decide) rfl (by decide) rfl rfl (Nat.le_of_ble_eq_true rfl) dX11_partedInto_48 (by decide) ?_
        cases hL
        exact j_xretl (by decide) dX11_partedInto_51 rfl hK
      · replace hL := (if_neg z4).symm.trans hL
        cases hL
        exact j_thrNW kc_yX11_partedInto rfl (List.mem_of_getElem? (i := 20) rfl) (by decide) (by decide) (Nat.le_of_ble_eq_true rfl) dX11_partedInto_32 dX11_partedInto_35 dX11_partedInto_36 dX11_partedInto_39 dX11_partedInto_42 hK

def f_X11_humps (v1 : Int32) (v2 : Int32) (h : AH) : Option (XR Int64) := bnd (f_X11_knownAt v1 33 h) (fun q1 => Sum.elim (fun xq1 => gd (SH xq1.1 = (0, 0)) (bnd (f_X11_partedInto v2 xq1.2) (fun q3 => Sum.elim (fun xq3 => some (.inl (xq3.1, xq3.2))) (fun xq3 => some (.inr xq3)) q3))) (fun xq1 => some (.inr xq1)) q1)
set_option maxRecDepth 20000 in
theorem c_X11_humps (G : GG) (v1 : Int32) (v2 : Int32) (h : AH) (r : XR Int64) (hL : f_X11_humps v1 v2 h = some r) : SpXg G 9 3 mX11_humps [.ref (ad G 0), .int v1, .int v2] h vmL r := by
  refine wsx_of pn_RX11 (Nat.le_of_ble_eq_true rfl) ?_
  show J G mX11_humps 9 3 0 (KXg G 3 vmL r) 0 [(0, .ref (ad G 0)), (1, .int v1), (2, .int v2)] [] h
  obtain ⟨K, hK⟩ : ∃ K, K = KXg G 3 vmL r := ⟨_, rfl⟩
  rw [← hK]
  unfold f_X11_humps at hL
  refine j_aload_n 0 dX11_humps_0 rfl ?_
  refine j_iload_n 1 dX11_humps_1 rfl ?_
  refine j_aload_n 0 dX11_humps_2 rfl ?_
  refine jg_RX11_65 rfl sh_0 dX11_humps_3 ?_
  obtain ⟨q1, hq1, hL⟩ := bnd_ex hL
  refine j_callVx (vm2 := vmL) (c_X11_knownAt G v1 33 (shf_11_11 sh_0) h _ hq1) cv_RX11_292 rfl sh_0 (by decide) rfl (by decide) rfl rfl (Nat.le_of_ble_eq_true rfl) dX11_humps_6 (by decide) kc_yX11_humps (fun xq1 eq1 => ?_) (fun xq1 eq1 => ?_)
  rotate_left
  · subst eq1
    replace hL : some (Sum.inr xq1) = some r := hL
    cases hL
    exact hK
  subst eq1
  refine j_eq (st' := [.ref (ad G xq1.1)]) rfl rfl ?_
  obtain ⟨g2, hL⟩ := gd_ex hL
  refine j_pop dX11_humps_9 rfl ?_
  refine j_aload_n 0 dX11_humps_10 rfl ?_
  refine j_iload_n 2 dX11_humps_11 rfl ?_
  obtain ⟨q3, hq3, hL⟩ := bnd_ex hL
  refine j_callVx (vm2 := vmL) (c_X11_partedInto G v2 xq1.2 _ hq3) cv_RX11_311 rfl sh_0 (by decide) rfl (by decide) rfl rfl (Nat.le_of_ble_eq_true rfl) dX11_humps_12 (by decide) kc_yX11_humps (fun xq3 eq3 => ?_) (fun xq3 eq3 => ?_)
  rotate_left
  · subst eq3
    replace hL : some (Sum.inr xq3) = some r := hL
    cases hL
    exact hK
  subst eq3
  refine j_eq (st' := [.long xq3.1]) rfl rfl ?_
  cases hL
  exact j_xretl (by decide) dX11_humps_15 rfl hK

def f_X11_hump (v1 : Int32) (v2 : Int32) (v3 : Int32) (h : AH) : Option (XR Int32) := bnd (f_X11_knownAt v1 33 h) (fun q1 => Sum.elim (fun xq1 => gd (SH xq1.1 = (0, 0)) (bnd (f_X11_checkHeld 33 v3 xq1.2) (fun q3 => Sum.elim (fun xq3 => bnd (f_X11_partedInto v2 xq3.2) (fun q4 => Sum.elim (fun xq4 => bnd (f_X4_groupOf 54 v3 xq4.2) (fun q5 => some (.inl (q5, xq4.2)))) (fun xq4 => some (.inr xq4)) q4)) (fun xq3 => some (.inr xq3)) q3))) (fun xq1 => some (.inr xq1)) q1)
set_option maxRecDepth 20000 in
theorem c_X11_hump (G : GG) (v1 : Int32) (v2 : Int32) (v3 : Int32) (h : AH) (r : XR Int32) (hL : f_X11_hump v1 v2 v3 h = some r) : SpXg G 9 4 mX11_hump [.ref (ad G 0), .int v1, .int v2, .int v3] h vmI r := by
  refine wsx_of pn_RX11 (Nat.le_of_ble_eq_true rfl) ?_
  show J G mX11_hump 9 4 0 (KXg G 4 vmI r) 0 [(0, .ref (ad G 0)), (1, .int v1), (2, .int v2), (3, .int v3)] [] h
  obtain ⟨K, hK⟩ : ∃ K, K = KXg G 4 vmI r := ⟨_, rfl⟩
  rw [← hK]
  unfold f_X11_hump at hL
  refine j_aload_n 0 dX11_hump_0 rfl ?_
  refine j_iload_n 1 dX11_hump_1 rfl ?_
  refine j_aload_n 0 dX11_hump_2 rfl ?_
  refine jg_RX11_65 rfl sh_0 dX11_hump_3 ?_
  obtain ⟨q1, hq1, hL⟩ := bnd_ex hL
  refine j_callVx (vm2 := vmI) (c_X11_knownAt G v1 33 (shf_11_11 sh_0) h _ hq1) cv_RX11_292 rfl sh_0 (by decide) rfl (by decide) rfl rfl (Nat.le_of_ble_eq_true rfl) dX11_hump_6 (by decide) kc_yX11_hump (fun xq1 eq1 => ?_) (fun xq1 eq1 => ?_)
  rotate_left
  · subst eq1
    replace hL : some (Sum.inr xq1) = some r := hL
    cases hL
    exact hK
  subst eq1
  refine j_eq (st' := [.ref (ad G xq1.1)]) rfl rfl ?_
  obtain ⟨g2, hL⟩ := gd_ex hL
  refine j_pop dX11_hump_9 rfl ?_
  refine j_aload_n 0 dX11_hump_10 rfl ?_
  refine jg_RX11_65 rfl sh_0 dX11_hump_11 ?_
  refine j_iload_n 3 dX11_hump_14 rfl ?_
  obtain ⟨q3, hq3, hL⟩ := bnd_ex hL
  refine j_callSx (vm2 := vmI) (c_X11_checkHeld G 33 (shf_11_11 sh_0) v3 xq1.2 _ hq3) cv_RX11_296 rfl (by decide) rfl rfl (Nat.le_of_ble_eq_true rfl) dX11_hump_15 (by decide) kc_yX11_hump (fun xq3 eq3 => ?_) (fun xq3 eq3 => ?_)
  rotate_left
  · subst eq3
    replace hL : some (Sum.inr xq3) = some r := hL
    cases hL
    exact hK
  subst eq3
  refine j_eq (st' := []) rfl rfl ?_
  refine j_aload_n 0 dX11_hump_18 rfl ?_
  refine j_iload_n 2 dX11_hump_19 rfl ?_
  obtain ⟨q4, hq4, hL⟩ := bnd_ex hL
  refine j_callVx (vm2 := vmI) (c_X11_partedInto G v2 xq3.2 _ hq4) cv_RX11_311 rfl sh_0 (by decide) rfl (by decide) rfl rfl (Nat.le_of_ble_eq_true rfl) dX11_hump_20 (by decide) kc_yX11_hump (fun xq4 eq4 => ?_) (fun xq4 eq4 => ?_)
  rotate_left
  · subst eq4
    replace hL : some (Sum.inr xq4) = some r := hL
    cases hL
    exact hK
  subst eq4
  refine j_eq (st' := [.long xq4.1]) rfl rfl ?_
  refine j_pop2 dX11_hump_23 rfl ?_
  refine j_aload_n 0 dX11_hump_24 rfl ?_
  refine jg_RX11_82 rfl sh_0 dX11_hump_25 ?_
  refine j_iload_n 3 dX11_hump_28 rfl ?_
  obtain ⟨q5, hq5, hL⟩ := bnd_ex hL
  refine j_callVi (c_X4_groupOf G 54 (shf_11_14 sh_0) v3 xq4.2 _ hq5) cv_RX11_315 rfl (shf_11_14 sh_0) (by decide) rfl (by decide) rfl rfl (Nat.le_of_ble_eq_true rfl) dX11_hump_29 (by decide) ?_
  cases hL
  exact j_xreti (by decide) dX11_hump_32 rfl hK

