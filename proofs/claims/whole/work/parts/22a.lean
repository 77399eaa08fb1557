def f_X7_put_l3 (a0 : Nat) (v1 : Int32) : Nat → Int32 → AH → Option (AH)
  | 0, _, _ => none
  | n + 1, v2, h => if v2 < 0 then some h else if 500 ≤ (hfi h a0 0) then f_X7_put_l3 a0 v1 n (v2 + (-8)) h else gd (ib (hfi h a0 0) 500 = true) (lt (sia h (a0 + 1) (cl (hfi h a0 0)) (((Int32.toUInt32 v1 >>> (Int32.toUInt32 v2 &&& Int32.toUInt32 31)).toInt32) &&& 255)) (fun h4 => lt (sfi h4 a0 0 ((hfi h4 a0 0) + 1)) (fun h5 => f_X7_put_l3 a0 v1 n (v2 + (-8)) h5)))
def f_X7_put (a0 : Nat) (v1 : Int32) (h : AH) : Option (AH) := bnd (f_X7_put_l3 a0 v1 FU 24 h) (fun q6 => some q6)
set_option maxRecDepth 20000 in
theorem cl_X7_put_3 (G : GG) (K : KQ) (a0 : Nat) (v1 : Int32) (s0 : SH a0 = (7, 0)) : ∀ (n : Nat) (v2 : Int32) (h : AH) (r : AH), f_X7_put_l3 a0 v1 n v2 h = some r → J G mX7_put 1 0 0 K 49 [] [] r → J G mX7_put 1 0 0 K 3 [(0, .ref (ad G a0)), (1, .int v1), (2, .int v2)] [] h := by
  intro n
  induction n with
  | zero => intro v2 h r hL; cases hL
  | succ n ih =>
    intro v2 h r hL kE
    unfold f_X7_put_l3 at hL
    refine j_iload_n 2 dX7_put_3 rfl ?_
    refine j_if_lt 49 dX7_put_4 (by decide) (fun z1 => ?_) (fun z1 => ?_)
    · replace hL := (if_pos z1).symm.trans hL
      cases hL
      refine j_sub [] rfl ?_
      exact kE 
    · replace hL := (if_neg z1).symm.trans hL
      refine j_aload_n 0 dX7_put_7 rfl ?_
      refine jg_RX7_19 rfl s0 dX7_put_8 ?_
      refine j_sipush 500 dX7_put_11 (by decide) ?_
      refine j_icmp_ge 43 dX7_put_14 (by decide) (fun z2 => ?_) (fun z2 => ?_)
      · replace hL := (if_pos z2).symm.trans hL
        refine j_iinc (lv' := [(2, .int (v2 + (-8))), (0, .ref (ad G a0)), (1, .int v1)]) 2 dX7_put_43 rfl rfl (by decide) rfl ?_
        refine j_goto 3 dX7_put_46 (by decide) ?_
        refine j_sub [1, 2, 0] rfl ?_
        exact ih (v2 + (-8)) h r hL kE
      · replace hL := (if_neg z2).symm.trans hL
        refine j_aload_n 0 dX7_put_17 rfl ?_
        refine jg_RX7_15 rfl s0 dX7_put_18 ?_
        refine j_aload_n 0 dX7_put_21 rfl ?_
        refine jg_RX7_19 rfl s0 dX7_put_22 ?_
        refine j_iload_n 1 dX7_put_25 rfl ?_
        refine j_iload_n 2 dX7_put_26 rfl ?_
        refine j_iushr dX7_put_27 ?_
        refine j_sipush 255 dX7_put_28 (by decide) ?_
        refine j_iand dX7_put_31 ?_
        obtain ⟨g3, hL⟩ := gd_ex hL
        refine j_iast (shf_7_5 s0) (ib_in g3) dX7_put_32 ?_
        obtain ⟨h4, eh4, hL⟩ := lt_ex hL
        refine j_heap eh4 ?_
        refine j_aload_n 0 dX7_put_33 rfl ?_
        refine j_dup dX7_put_34 rfl ?_
        refine jg_RX7_19 rfl s0 dX7_put_35 ?_
        refine j_iconst 1 dX7_put_38 (by decide) ?_
        refine j_iadd dX7_put_39 ?_
        refine jp_RX7_19 rfl s0 dX7_put_40 ?_
        obtain ⟨h5, eh5, hL⟩ := lt_ex hL
        refine j_heap eh5 ?_
        refine j_iinc (lv' := [(2, .int (v2 + (-8))), (0, .ref (ad G a0)), (1, .int v1)]) 2 dX7_put_43 rfl rfl (by decide) rfl ?_
        refine j_goto 3 dX7_put_46 (by decide) ?_
        refine j_sub [1, 2, 0] rfl ?_
        exact ih (v2 + (-8)) h5 r hL kE

set_option maxRecDepth 20000 in
theorem c_X7_put (G : GG) (a0 : Nat) (s0 : SH a0 = (7, 0)) (v1 : Int32) (h : AH) (r : AH) (hL : f_X7_put a0 v1 h = some r) : SpV G 1 mX7_put [.ref (ad G a0), .int v1] h r := by
  refine sp_v pf_X7_put (Nat.le_of_ble_eq_true rfl) ?_
  show J G mX7_put 1 0 0 (KMv G r) 0 [(0, .ref (ad G a0)), (1, .int v1)] [] h
  obtain ⟨K, hK⟩ : ∃ K, K = KMv G r := ⟨_, rfl⟩
  rw [← hK]
  unfold f_X7_put at hL
  refine j_bipush 24 dX7_put_0 (by decide) ?_
  refine j_istore_n (lv' := [(2, .int 24), (0, .ref (ad G a0)), (1, .int v1)]) dX7_put_2 (by decide) rfl ?_
  obtain ⟨q6, hq6, hL⟩ := bnd_ex hL
  refine j_sub [1, 2, 0] rfl ?_
  refine cl_X7_put_3 G K a0 v1 s0 FU 24 h q6 hq6 ?_
  cases hL
  exact j_retv dX7_put_49 rfl hK

def f_X11_feed (v1 : Int32) (v2 : Int32) (v3 : Int32) (v4 : Int32) (v5 : Int32) (h : AH) : Option (Int32 × AH) := if ((hfi h 1 0) + 20) ≤ 500 then bnd (f_X7_put 1 v1 h) (fun q2 => bnd (f_X7_put 1 v2 q2) (fun q3 => bnd (f_X7_put 1 v3 q3) (fun q4 => bnd (f_X7_put 1 v4 q4) (fun q5 => bnd (f_X7_put 1 v5 q5) (fun q6 => some (hfi q6 1 0, q6)))))) else some ((-1), h)
set_option maxRecDepth 20000 in
theorem c_X11_feed (G : GG) (v1 : Int32) (v2 : Int32) (v3 : Int32) (v4 : Int32) (v5 : Int32) (h : AH) (r : Int32 × AH) (hL : f_X11_feed v1 v2 v3 v4 v5 h = some r) : SpI G 2 mX11_feed [.ref (ad G 0), .int v1, .int v2, .int v3, .int v4, .int v5] h r.1 r.2 := by
  refine sp_i pf_X11_feed (Nat.le_of_ble_eq_true rfl) ?_
  show J G mX11_feed 2 0 0 (KMi G r.1 r.2) 0 [(0, .ref (ad G 0)), (1, .int v1), (2, .int v2), (3, .int v3), (4, .int v4), (5, .int v5)] [] h
  obtain ⟨K, hK⟩ : ∃ K, K = KMi G r.1 r.2 := ⟨_, rfl⟩
  rw [← hK]
  unfold f_X11_feed at hL
  refine j_aload_n 0 dX11_feed_0 rfl ?_
  refine jg_RX11_10 rfl sh_0 dX11_feed_1 ?_
  refine jg_RX11_110 rfl (shf_11_0 sh_0) dX11_feed_4 ?_
  refine j_bipush 20 dX11_feed_7 (by decide) ?_
  refine j_iadd dX11_feed_9 ?_
  refine j_sipush 500 dX11_feed_10 (by decide) ?_
  refine j_icmp_le 18 dX11_feed_13 (by decide) (fun z1 => ?_) (fun z1 => ?_)
  · replace hL := (if_pos z1).symm.trans hL
    refine j_aload_n 0 dX11_feed_18 rfl ?_
    refine jg_RX11_10 rfl sh_0 dX11_feed_19 ?_
    refine j_iload_n 1 dX11_feed_22 rfl ?_
    obtain ⟨q2, hq2, hL⟩ := bnd_ex hL
    refine j_callVv (c_X7_put G 1 (shf_11_0 sh_0) v1 h _ hq2) cv_RX11_114 rfl (shf_11_0 sh_0) (by decide) rfl (by decide) rfl rfl (Nat.le_of_ble_eq_true rfl) dX11_feed_23 (by decide) ?_
    refine j_aload_n 0 dX11_feed_26 rfl ?_
    refine jg_RX11_10 rfl sh_0 dX11_feed_27 ?_
    refine j_iload_n 2 dX11_feed_30 rfl ?_
    obtain ⟨q3, hq3, hL⟩ := bnd_ex hL
    refine j_callVv (c_X7_put G 1 (shf_11_0 sh_0) v2 q2 _ hq3) cv_RX11_114 rfl (shf_11_0 sh_0) (by decide) rfl (by decide) rfl rfl (Nat.le_of_ble_eq_true rfl) dX11_feed_31 (by decide) ?_
    refine j_aload_n 0 dX11_feed_34 rfl ?_
    refine jg_RX11_10 rfl sh_0 dX11_feed_35 ?_
    refine j_iload_n 3 dX11_feed_38 rfl ?_
    obtain ⟨q4, hq4, hL⟩ := bnd_ex hL
    refine j_callVv (c_X7_put G 1 (shf_11_0 sh_0) v3 q3 _ hq4) cv_RX11_114 rfl (shf_11_0 sh_0) (by decide) rfl (by decide) rfl rfl (Nat.le_of_ble_eq_true rfl) dX11_feed_39 (by decide) ?_
    refine j_aload_n 0 dX11_feed_42 rfl ?_
    refine jg_RX11_10 rfl sh_0 dX11_feed_43 ?_
    refine j_iload 4 dX11_feed_46 rfl ?_
    obtain ⟨q5, hq5, hL⟩ := bnd_ex hL
    refine j_callVv (c_X7_put G 1 (shf_11_0 sh_0) v4 q4 _ hq5) cv_RX11_114 rfl (shf_11_0 sh_0) (by decide) rfl (by decide) rfl rfl (Nat.le_of_ble_eq_true rfl) dX11_feed_48 (by decide) ?_
    refine j_aload_n 0 dX11_feed_51 rfl ?_
    refine jg_RX11_10 rfl sh_0 dX11_feed_52 ?_
    refine j_iload 5 dX11_feed_55 rfl ?_
    obtain ⟨q6, hq6, hL⟩ := bnd_ex hL
    refine j_callVv (c_X7_put G 1 (shf_11_0 sh_0) v5 q5 _ hq6) cv_RX11_114 rfl (shf_11_0 sh_0) (by decide) rfl (by decide) rfl rfl (Nat.le_of_ble_eq_true rfl) dX11_feed_57 (by decide) ?_
    refine j_aload_n 0 dX11_feed_60 rfl ?_
    refine jg_RX11_10 rfl sh_0 dX11_feed_61 ?_
    refine jg_RX11_110 rfl (shf_11_0 sh_0) dX11_feed_64 ?_
    cases hL
    exact j_reti dX11_feed_67 rfl hK
  · replace hL := (if_neg z1).symm.trans hL
    refine j_iconst (-1) dX11_feed_16 (by decide) ?_
    cases hL
    exact j_reti dX11_feed_17 rfl hK

def f_X7_sortOf (v0 : Int32) : Int32 := if v0 < 97 then if v0 < 48 then if v0 = 59 then 3 else 4 else if 57 < v0 then if v0 = 59 then 3 else 4 else 2 else if 122 < v0 then if v0 < 48 then if v0 = 59 then 3 else 4 else if 57 < v0 then if v0 = 59 then 3 else 4 else 2 else 1
set_option maxRecDepth 20000 in
theorem c_X7_sortOf (G : GG) (v0 : Int32) (h : AH) : SpI G 1 mX7_sortOf [.int v0] h (f_X7_sortOf v0) h := by
  obtain ⟨r, hL⟩ : ∃ r, f_X7_sortOf v0 = r := ⟨_, rfl⟩
  rw [hL]
  refine sp_i pf_X7_sortOf (Nat.le_of_ble_eq_true rfl) ?_
  show J G mX7_sortOf 1 0 0 (KMi G r h) 0 [(0, .int v0)] [] h
  obtain ⟨K, hK⟩ : ∃ K, K = KMi G r h := ⟨_, rfl⟩
  rw [← hK]
  unfold f_X7_sortOf at hL
  refine j_iload_n 0 dX7_sortOf_0 rfl ?_
  refine j_bipush 97 dX7_sortOf_1 (by decide) ?_
  refine j_icmp_lt 14 dX7_sortOf_3 (by decide) (fun z1 => ?_) (fun z1 => ?_)
  · replace hL := (if_pos z1).symm.trans hL
    refine j_iload_n 0 dX7_sortOf_14 rfl ?_
    refine j_bipush 48 dX7_sortOf_15 (by decide) ?_
    refine j_icmp_lt 28 dX7_sortOf_17 (by decide) (fun z2 => ?_) (fun z2 => ?_)
    · replace hL := (if_pos z2).symm.trans hL
      refine j_iload_n 0 dX7_sortOf_28 rfl ?_
      refine j_bipush 59 dX7_sortOf_29 (by decide) ?_
      refine j_icmp_ne 38 dX7_sortOf_31 (by decide) (fun z3 => ?_) (fun z3 => ?_)
      · replace hL := (if_neg z3).symm.trans hL
        refine j_iconst 4 dX7_sortOf_38 (by decide) ?_
        subst hL
        exact j_reti dX7_sortOf_39 rfl hK
      · replace hL := (if_pos z3).symm.trans hL
        refine j_iconst 3 dX7_sortOf_34 (by decide) ?_
        refine j_goto 39 dX7_sortOf_35 (by decide) ?_
        subst hL
        exact j_reti dX7_sortOf_39 rfl hK
    · replace hL := (if_neg z2).symm.trans hL
      refine j_iload_n 0 dX7_sortOf_20 rfl ?_
      refine j_bipush 57 dX7_sortOf_21 (by decide) ?_
      refine j_icmp_gt 28 dX7_sortOf_23 (by decide) (fun z4 => ?_) (fun z4 => ?_)
      · replace hL := (if_pos z4).symm.trans hL
        refine j_iload_n 0 dX7_sortOf_28 rfl ?_
        refine j_bipush 59 dX7_sortOf_29 (by decide) ?_
        refine j_icmp_ne 38 dX7_sortOf_31 (by decide) (fun z5 => ?_) (fun z5 => ?_)
        · replace hL := (if_neg z5).symm.trans hL
          refine j_iconst 4 dX7_sortOf_38 (by decide) ?_
          subst hL
          exact j_reti dX7_sortOf_39 rfl hK
        · replace hL := (if_pos z5).symm.trans hL
          refine j_iconst 3 dX7_sortOf_34 (by decide) ?_
          refine j_goto 39 dX7_sortOf_35 (by decide) ?_
          subst hL
          exact j_reti dX7_sortOf_39 rfl hK
      · replace hL := (if_neg z4).symm.trans hL
        refine j_iconst 2 dX7_sortOf_26 (by decide) ?_
        subst hL
        exact j_reti dX7_sortOf_27 rfl hK
  · replace hL := (if_neg z1).symm.trans hL
    refine j_iload_n 0 dX7_sortOf_6 rfl ?_
    refine j_bipush 122 dX7_sortOf_7 (by decide) ?_
    refine j_icmp_gt 14 dX7_sortOf_9 (by decide) (fun z6 => ?_) (fun z6 => ?_)
    · replace hL := (if_pos z6).symm.trans hL
      refine j_iload_n 0 dX7_sortOf_14 rfl ?_
      refine j_bipush 48 dX7_sortOf_15 (by decide) ?_
      refine j_icmp_lt 28 dX7_sortOf_17 (by decide) (fun z7 => ?_) (fun z7 => ?_)
      · replace hL := (if_pos z7).symm.trans hL
        refine j_iload_n 0 dX7_sortOf_28 rfl ?_
        refine j_bipush 59 dX7_sortOf_29 (by decide) ?_
        refine j_icmp_ne 38 dX7_sortOf_31 (by decide) (fun z8 => ?_) (fun z8 => ?_)
        · replace hL := (if_neg z8).symm.trans hL
          refine j_iconst 4 dX7_sortOf_38 (by decide) ?_
          subst hL
          exact j_reti dX7_sortOf_39 rfl hK
        · replace hL := (if_pos z8).symm.trans hL
          refine j_iconst 3 dX7_sortOf_34 (by decide) ?_
          refine j_goto 39 dX7_sortOf_35 (by decide) ?_
          subst hL
          exact j_reti dX7_sortOf_39 rfl hK
      · replace hL := (if_neg z7).symm.trans hL
        refine j_iload_n 0 dX7_sortOf_20 rfl ?_
        refine j_bipush 57 dX7_sortOf_21 (by decide) ?_
        refine j_icmp_gt 28 dX7_sortOf_23 (by decide) (fun z9 => ?_) (fun z9 => ?_)
        · replace hL := (if_pos z9).symm.trans hL
          refine j_iload_n 0 dX7_sortOf_28 rfl ?_
          refine j_bipush 59 dX7_sortOf_29 (by decide) ?_
          refine j_icmp_ne 38 dX7_sortOf_31 (by decide) (fun z10 => ?_) (fun z10 => ?_)
          · replace hL := (if_neg z10).symm.trans hL
            refine j_iconst 4 dX7_sortOf_38 (by decide) ?_
            subst hL
            exact j_reti dX7_sortOf_39 rfl hK
          · replace hL := (if_pos z10).symm.trans hL
            refine j_iconst 3 dX7_sortOf_34 (by decide) ?_
            refine j_goto 39 dX7_sortOf_35 (by decide) ?_
            subst hL
            exact j_reti dX7_sortOf_39 rfl hK
        · replace hL := (if_neg z9).symm.trans hL
          refine j_iconst 2 dX7_sortOf_26 (by decide) ?_
          subst hL
          exact j_reti dX7_sortOf_27 rfl hK
    · replace hL := (if_neg z6).symm.trans hL
      refine j_iconst 1 dX7_sortOf_12 (by decide) ?_
      subst hL
      exact j_reti dX7_sortOf_13 rfl hK

def f_X7_step_l5 (a0 : Nat) (h : AH) : Nat → Int32 → Option (Int32)
  | 0, _ => none
  | n + 1, v1 => if (hfi h a0 6) ≤ v1 then some v1 else gd (ib v1 500 = true) (if (hia h (a0 + 1) (cl v1)) = 32 then f_X7_step_l5 a0 h n (v1 + 1) else gd (ib v1 500 = true) (if (hia h (a0 + 1) (cl v1)) = 10 then f_X7_step_l5 a0 h n (v1 + 1) else some v1))
def f_X7_step_l75 (a0 : Nat) (h : AH) : Nat → Int32 → Option (Int32)
  | 0, _ => none
  | n + 1, v1 => if (hfi h a0 6) ≤ v1 then some v1 else if (hfi h a0 8) = 1 then gd (ib v1 500 = true) (if (f_X7_sortOf (hia h (a0 + 1) (cl v1))) = (hfi h a0 8) then f_X7_step_l75 a0 h n (v1 + 1) else some v1) else if (hfi h a0 8) = 2 then gd (ib v1 500 = true) (if (f_X7_sortOf (hia h (a0 + 1) (cl v1))) = (hfi h a0 8) then f_X7_step_l75 a0 h n (v1 + 1) else some v1) else some v1
def f_X7_step (a0 : Nat) (h : AH) : Option (AH) := bnd (f_X7_step_l5 a0 h FU (hfi h a0 7)) (fun q6 => lt (sfi h a0 3 q6) (fun h7 => lt (sfi h7 a0 8 0) (fun h8 => if (hfi h8 a0 6) ≤ q6 then lt (sfi h8 a0 7 q6) (fun h10 => some h10) else gd (ib q6 500 = true) (lt (sfi h8 a0 8 (f_X7_sortOf (hia h8 (a0 + 1) (cl q6)))) (fun h12 => bnd (f_X7_step_l75 a0 h12 FU (q6 + 1)) (fun q20 => lt (sfi h12 a0 7 q20) (fun h21 => some h21)))))))
set_option maxRecDepth 20000 in
theorem cl_X7_step_5 (G : GG) (K : KQ) (a0 : Nat) (s0 : SH a0 = (7, 0)) : ∀ (n : Nat) (v1 : Int32) (h : AH) (r : Int32), f_X7_step_l5 a0 h n v1 = some r → J G mX7_step 2 0 0 K 41 [(0, .ref (ad G a0)), (1, .int r)] [] h → J G mX7_step 2 0 0 K 5 [(0, .ref (ad G a0)), (1, .int v1)] [] h := by
  intro n
  induction n with
  | zero => intro v1 h r hL; cases hL
  | succ n ih =>
    intro v1 h r hL kE
    unfold f_X7_step_l5 at hL
    refine j_iload_n 1 dX7_step_5 rfl ?_
    refine j_aload_n 0 dX7_step_6 rfl ?_
    refine jg_RX7_22 rfl s0 dX7_step_7 ?_
    refine j_icmp_ge 41 dX7_step_10 (by decide) (fun z1 => ?_) (fun z1 => ?_)
    · replace hL := (if_pos z1).symm.trans hL
      cases hL
      refine j_sub [0, 1] rfl ?_
      exact kE 
    · replace hL := (if_neg z1).symm.trans hL
      refine j_aload_n 0 dX7_step_13 rfl ?_
      refine jg_RX7_15 rfl s0 dX7_step_14 ?_
      refine j_iload_n 1 dX7_step_17 rfl ?_
      obtain ⟨g2, hL⟩ := gd_ex hL
      refine j_iald (shf_7_5 s0) (ib_in g2) dX7_step_18 ?_
      refine j_bipush 32 dX7_step_19 (by decide) ?_
      refine j_icmp_eq 35 dX7_step_21 (by decide) (fun z3 => ?_) (fun z3 => ?_)
      · replace hL := (if_pos z3).symm.trans hL
        refine j_iinc (lv' := [(1, .int (v1 + 1)), (0, .ref (ad G a0))]) 1 dX7_step_35 rfl rfl (by decide) rfl ?_
        refine j_goto 5 dX7_step_38 (by decide) ?_
        refine j_sub [1, 0] rfl ?_
        exact ih (v1 + 1) h r hL kE
      · replace hL := (if_neg z3).symm.trans hL
        refine j_aload_n 0 dX7_step_24 rfl ?_
        refine jg_RX7_15 rfl s0 dX7_step_25 ?_
        refine j_iload_n 1 dX7_step_28 rfl ?_
        obtain ⟨g4, hL⟩ := gd_ex hL
        refine j_iald (shf_7_5 s0) (ib_in g4) dX7_step_29 ?_
        refine j_bipush 10 dX7_step_30 (by decide) ?_
        refine j_icmp_ne 41 dX7_step_32 (by decide) (fun z5 => ?_) (fun z5 => ?_)
        · replace hL := (if_neg z5).symm.trans hL
          cases hL
          refine j_sub [0, 1] rfl ?_
          exact kE 
        · replace hL := (if_pos z5).symm.trans hL
          refine j_iinc (lv' := [(1, .int (v1 + 1)), (0, .ref (ad G a0))]) 1 dX7_step_35 rfl rfl (by decide) rfl ?_
          refine j_goto 5 dX7_step_38 (by decide) ?_
          refine j_sub [1, 0] rfl ?_
          exact ih (v1 + 1) h r hL kE

set_option maxRecDepth 20000 in
theorem cl_X7_step_75 (G : GG) (K : KQ) (a0 : Nat) (s0 : SH a0 = (7, 0)) : ∀ (n : Nat) (v1 : Int32) (h : AH) (r : Int32), f_X7_step_l75 a0 h n v1 = some r → J G mX7_step 2 0 0 K 121 [(0, .ref (ad G a0)), (1, .int r)] [] h → J G mX7_step 2 0 0 K 75 [(0, .ref (ad G a0)), (1, .int v1)] [] h := by
  intro n
  induction n with
  | zero => intro v1 h r hL; cases hL
  | succ n ih =>
    intro v1 h r hL kE
    unfold f_X7_step_l75 at hL
    refine j_iload_n 1 dX7_step_75 rfl ?_
    refine j_aload_n 0 dX7_step_76 rfl ?_
    refine jg_RX7_22 rfl s0 dX7_step_77 ?_
    refine j_icmp_ge 121 dX7_step_80 (by decide) (fun z13 => ?_) (fun z13 => ?_)
    · replace hL := (if_pos z13).symm.trans hL
      cases hL
      refine j_sub [0, 1] rfl ?_
      exact kE 
    · replace hL := (if_neg z13).symm.trans hL
      refine j_aload_n 0 dX7_step_83 rfl ?_
      refine jg_RX7_37 rfl s0 dX7_step_84 ?_
      refine j_iconst 1 dX7_step_87 (by decide) ?_
      refine j_icmp_eq 99 dX7_step_88 (by decide) (fun z14 => ?_) (fun z14 => ?_)
      · replace hL := (if_pos z14).symm.trans hL
        refine j_aload_n 0 dX7_step_99 rfl ?_
        refine jg_RX7_15 rfl s0 dX7_step_100 ?_
        refine j_iload_n 1 dX7_step_103 rfl ?_
        obtain ⟨g15, hL⟩ := gd_ex hL
        refine j_iald (shf_7_5 s0) (ib_in g15) dX7_step_104 ?_
        refine j_callSi (c_X7_sortOf G (hia h (a0 + 1) (cl v1)) h) cv_RX7_55 rfl (by decide) rfl rfl (Nat.le_of_ble_eq_true rfl) dX7_step_105 (by decide) ?_
        refine j_aload_n 0 dX7_step_108 rfl ?_
        refine jg_RX7_37 rfl s0 dX7_step_109 ?_
        refine j_icmp_ne 121 dX7_step_112 (by decide) (fun z16 => ?_) (fun z16 => ?_)
        · replace hL := (if_neg z16).symm.trans hL
          cases hL
          refine j_sub [0, 1] rfl ?_
          exact kE 
        · replace hL := (if_pos z16).symm.trans hL
          refine j_iinc (lv' := [(1, .int (v1 + 1)), (0, .ref (ad G a0))]) 1 dX7_step_115 rfl rfl (by decide) rfl ?_
          refine j_goto 75 dX7_step_118 (by decide) ?_
          refine j_sub [1, 0] rfl ?_
          exact ih (v1 + 1) h r hL kE
      · replace hL := (if_neg z14).symm.trans hL
        refine j_aload_n 0 dX7_step_91 rfl ?_
        refine jg_RX7_37 rfl s0 dX7_step_92 ?_
        refine j_iconst 2 dX7_step_95 (by decide) ?_
        refine j_icmp_ne 121 dX7_step_96 (by decide) (fun z17 => ?_) (fun z17 => ?_)
        · replace hL := (if_neg z17).symm.trans hL
          cases hL
          refine j_sub [0, 1] rfl ?_
          exact kE 
        · replace hL := (if_pos z17).symm.trans hL
          refine j_aload_n 0 dX7_step_99 rfl ?_
          refine jg_RX7_15 rfl s0 dX7_step_100 ?_
          refine j_iload_n 1 dX7_step_103 rfl ?_
          obtain ⟨g18, hL⟩ := gd_ex hL
          refine j_iald (shf_7_5 s0) (ib_in g18) dX7_step_104 ?_
          refine j_callSi (c_X7_sortOf G (hia h (a0 + 1) (cl v1)) h) cv_RX7_55 rfl (by decide) rfl rfl (Nat.le_of_ble_eq_true rfl) dX7_step_105 (by decide) ?_
          refine j_aload_n 0 dX7_step_108 rfl ?_
          refine jg_RX7_37 rfl s0 dX7_step_109 ?_
          refine j_icmp_ne 121 dX7_step_112 (by decide) (fun z19 => ?_) (fun z19 => ?_)
          · replace hL := (if_neg z19).symm.trans hL
            cases hL
            refine j_sub [0, 1] rfl ?_
            exact kE 
          · replace hL := (if_pos z19).symm.trans hL
            refine j_iinc (lv' := [(1, .int (v1 + 1)), (0, .ref (ad G a0))]) 1 dX7_step_115 rfl rfl (by decide) rfl ?_
            refine j_goto 75 dX7_step_118 (by decide) ?_
            refine j_sub [1, 0] rfl ?_
            exact ih (v1 + 1) h r hL kE

set_option maxRecDepth 20000 in
theorem c_X7_step (G : GG) (a0 : Nat) (s0 : SH a0 = (7, 0)) (h : AH) (r : AH) (hL : f_X7_step a0 h = some r) : SpV G 2 mX7_step [.ref (ad G a0)] h r := by
  refine sp_v pf_X7_step (Nat.le_of_ble_eq_true rfl) ?_
  show J G mX7_step 2 0 0 (KMv G r) 0 [(0, .ref (ad G a0))] [] h
  obtain ⟨K, hK⟩ : ∃ K, K = KMv G r := ⟨_, rfl⟩
  rw [← hK]
  unfold f_X7_step at hL
  refine j_aload_n 0 dX7_step_0 rfl ?_
  refine jg_RX7_31 rfl s0 dX7_step_1 ?_
  refine j_istore_n (lv' := [(1, .int (hfi h a0 7)), (0, .ref (ad G a0))]) dX7_step_4 (by decide) rfl ?_
  obtain ⟨q6, hq6, hL⟩ := bnd_ex hL
  refine j_sub [1, 0] rfl ?_
  refine cl_X7_step_5 G K a0 s0 FU (hfi h a0 7) h q6 hq6 ?_
  refine j_aload_n 0 dX7_step_41 rfl ?_
  refine j_iload_n 1 dX7_step_42 rfl ?_
  refine jp_RX7_44 rfl s0 dX7_step_43 ?_
  obtain ⟨h7, eh7, hL⟩ := lt_ex hL
  refine j_heap eh7 ?_
  refine j_aload_n 0 dX7_step_46 rfl ?_
  refine j_iconst 0 dX7_step_47 (by decide) ?_
  refine jp_RX7_37 rfl s0 dX7_step_48 ?_
  obtain ⟨h8, eh8, hL⟩ := lt_ex hL
  refine j_heap eh8 ?_
  refine j_iload_n 1 dX7_step_51 rfl ?_
  refine j_aload_n 0 dX7_step_52 rfl ?_
  refine jg_RX7_22 rfl s0 dX7_step_53 ?_
  refine j_icmp_ge 121 dX7_step_56 (by decide) (fun z9 => ?_) (fun z9 => ?_)
  · replace hL := (if_pos z9).symm.trans hL
    refine j_aload_n 0 dX7_step_121 rfl ?_
    refine j_iload_n 1 dX7_step_122 rfl ?_
    refine jp_RX7_31 rfl s0 dX7_step_123 ?_
    obtain ⟨h10, eh10, hL⟩ := lt_ex hL
    refine j_heap eh10 ?_
    cases hL
    exact j_retv dX7_step_126 rfl hK
  · replace hL := (if_neg z9).symm.trans hL
    refine j_aload_n 0 dX7_step_59 rfl ?_
    refine j_aload_n 0 dX7_step_60 rfl ?_
    refine jg_RX7_15 rfl s0 dX7_step_61 ?_
    refine j_iload_n 1 dX7_step_64 rfl ?_
    obtain ⟨g11, hL⟩ := gd_ex hL
    refine j_iald (shf_7_5 s0) (ib_in g11) dX7_step_65 ?_
    refine j_callSi (c_X7_sortOf G (hia h8 (a0 + 1) (cl q6)) h8) cv_RX7_55 rfl (by decide) rfl rfl (Nat.le_of_ble_eq_true rfl) dX7_step_66 (by decide) ?_
    refine jp_RX7_37 rfl s0 dX7_step_69 ?_
    obtain ⟨h12, eh12, hL⟩ := lt_ex hL
    refine j_heap eh12 ?_
    refine j_iinc (lv' := [(1, .int (q6 + 1)), (0, .ref (ad G a0))]) 1 dX7_step_72 rfl rfl (by decide) rfl ?_
    obtain ⟨q20, hq20, hL⟩ := bnd_ex hL
    refine j_sub [1, 0] rfl ?_
    refine cl_X7_step_75 G K a0 s0 FU (q6 + 1) h12 q20 hq20 ?_
    refine j_aload_n 0 dX7_step_121 rfl ?_
    refine j_iload_n 1 dX7_step_122 rfl ?_
    refine jp_RX7_31 rfl s0 dX7_step_123 ?_
    obtain ⟨h21, eh21, hL⟩ := lt_ex hL
    refine j_heap eh21 ?_
    cases hL
    exact j_retv dX7_step_126 rfl hK

def f_X7_begin (a0 : Nat) (v1 : Int32) (h : AH) : Option (AH) := lt (sfi h a0 6 v1) (fun h1 => lt (sfi h1 a0 1 0) (fun h2 => lt (sfi h2 a0 2 (-1)) (fun h3 => lt (sfi h3 a0 4 0) (fun h4 => lt (sfi h4 a0 7 0) (fun h5 => bnd (f_X7_step a0 h5) (fun q6 => some q6))))))
set_option maxRecDepth 20000 in
theorem c_X7_begin (G : GG) (a0 : Nat) (s0 : SH a0 = (7, 0)) (v1 : Int32) (h : AH) (r : AH) (hL : f_X7_begin a0 v1 h = some r) : SpV G 3 mX7_begin [.ref (ad G a0), .int v1] h r := by
  refine sp_v pf_X7_begin (Nat.le_of_ble_eq_true rfl) ?_
  show J G mX7_begin 3 0 0 (KMv G r) 0 [(0, .ref (ad G a0)), (1, .int v1)] [] h
  obtain ⟨K, hK⟩ : ∃ K, K = KMv G r := ⟨_, rfl⟩
  rw [← hK]
  unfold f_X7_begin at hL
  refine j_aload_n 0 dX7_begin_0 rfl ?_
  refine j_iload_n 1 dX7_begin_1 rfl ?_
  refine jp_RX7_22 rfl s0 dX7_begin_2 ?_
  obtain ⟨h1, eh1, hL⟩ := lt_ex hL
  refine j_heap eh1 ?_
  refine j_aload_n 0 dX7_begin_5 rfl ?_
  refine j_iconst 0 dX7_begin_6 (by decide) ?_
  refine jp_RX7_25 rfl s0 dX7_begin_7 ?_
  obtain ⟨h2, eh2, hL⟩ := lt_ex hL
  refine j_heap eh2 ?_
  refine j_aload_n 0 dX7_begin_10 rfl ?_
  refine j_iconst (-1) dX7_begin_11 (by decide) ?_
  refine jp_RX7_9 rfl s0 dX7_begin_12 ?_
  obtain ⟨h3, eh3, hL⟩ := lt_ex hL
  refine j_heap eh3 ?_
  refine j_aload_n 0 dX7_begin_15 rfl ?_
  refine j_iconst 0 dX7_begin_16 (by decide) ?_
  refine jp_RX7_28 rfl s0 dX7_begin_17 ?_
  obtain ⟨h4, eh4, hL⟩ := lt_ex hL
  refine j_heap eh4 ?_
  refine j_aload_n 0 dX7_begin_20 rfl ?_
  refine j_iconst 0 dX7_begin_21 (by decide) ?_
  refine jp_RX7_31 rfl s0 dX7_begin_22 ?_
  obtain ⟨h5, eh5, hL⟩ := lt_ex hL
  refine j_heap eh5 ?_
  refine j_aload_n 0 dX7_begin_25 rfl ?_
  obtain ⟨q6, hq6, hL⟩ := bnd_ex hL
  refine j_callVv (c_X7_step G a0 s0 h5 _ hq6) cv_RX7_34 rfl s0 (by decide) rfl (by decide) rfl rfl (Nat.le_of_ble_eq_true rfl) dX7_begin_26 (by decide) ?_
  cases hL
  exact j_retv dX7_begin_29 rfl hK

def f_X3_wipe (a0 : Nat) (h : AH) : Option (AH) := bnd (f_J7_fill_53178 (a0 + 1) 40 (-1) h) (fun q1 => bnd (f_J7_fill_53178 (a0 + 2) 40 0 q1) (fun q2 => some q2))
set_option maxRecDepth 20000 in
theorem c_X3_wipe (G : GG) (a0 : Nat) (s0 : SH a0 = (3, 0)) (h : AH) (r : AH) (hL : f_X3_wipe a0 h = some r) : SpV G 2 mX3_wipe [.ref (ad G a0)] h r := by
  refine sp_v pf_X3_wipe (Nat.le_of_ble_eq_true rfl) ?_
  show J G mX3_wipe 2 0 0 (KMv G r) 0 [(0, .ref (ad G a0))] [] h
  obtain ⟨K, hK⟩ : ∃ K, K = KMv G r := ⟨_, rfl⟩
  rw [← hK]
  unfold f_X3_wipe at hL
  refine j_aload_n 0 dX3_wipe_0 rfl ?_
  refine jg_RX3_9 rfl s0 dX3_wipe_1 ?_
  refine j_iconst (-1) dX3_wipe_4 (by decide) ?_
  obtain ⟨q1, hq1, hL⟩ := bnd_ex hL
  refine j_callSv (c_J7_fill_53178 G (a0 + 1) 40 (shf_3_0 s0) (-1) h _ hq1) cv_RX3_18 rfl (by decide) rfl rfl (Nat.le_of_ble_eq_true rfl) dX3_wipe_5 (by decide) ?_
  refine j_aload_n 0 dX3_wipe_8 rfl ?_
  refine jg_RX3_15 rfl s0 dX3_wipe_9 ?_
  refine j_iconst 0 dX3_wipe_12 (by decide) ?_
  obtain ⟨q2, hq2, hL⟩ := bnd_ex hL
  refine j_callSv (c_J7_fill_53178 G (a0 + 2) 40 (shf_3_1 s0) 0 q1 _ hq2) cv_RX3_18 rfl (by decide) rfl rfl (Nat.le_of_ble_eq_true rfl) dX3_wipe_13 (by decide) ?_
  cases hL
  exact j_retv dX3_wipe_16 rfl hK

def f_X0_wipe (a0 : Nat) (h : AH) : Option (AH) := lt (sfi h a0 0 0) (fun h1 => lt (sfi h1 a0 1 0) (fun h2 => lt (sfi h2 a0 2 0) (fun h3 => lt (sfi h3 a0 3 0) (fun h4 => lt (sfi h4 a0 4 0) (fun h5 => lt (sfi h5 a0 5 0) (fun h6 => bnd (f_X3_wipe (a0 + 7) h6) (fun q7 => bnd (f_X3_wipe (a0 + 10) q7) (fun q8 => some q8))))))))
set_option maxRecDepth 20000 in
theorem c_X0_wipe (G : GG) (a0 : Nat) (s0 : SH a0 = (0, 0)) (h : AH) (r : AH) (hL : f_X0_wipe a0 h = some r) : SpV G 3 mX0_wipe [.ref (ad G a0)] h r := by
  refine sp_v pf_X0_wipe (Nat.le_of_ble_eq_true rfl) ?_
  show J G mX0_wipe 3 0 0 (KMv G r) 0 [(0, .ref (ad G a0))] [] h
  obtain ⟨K, hK⟩ : ∃ K, K = KMv G r := ⟨_, rfl⟩
  rw [← hK]
  unfold f_X0_wipe at hL
  refine j_aload_n 0 dX0_wipe_0 rfl ?_
  refine j_iconst 0 dX0_wipe_1 (by decide) ?_
  refine jp_RX0_71 rfl s0 dX0_wipe_2 ?_
  obtain ⟨h1, eh1, hL⟩ := lt_ex hL
  refine j_heap eh1 ?_
  refine j_aload_n 0 dX0_wipe_5 rfl ?_
  refine j_iconst 0 dX0_wipe_6 (by decide) ?_
  refine jp_RX0_75 rfl s0 dX0_wipe_7 ?_
  obtain ⟨h2, eh2, hL⟩ := lt_ex hL
  refine j_heap eh2 ?_
  refine j_aload_n 0 dX0_wipe_10 rfl ?_
  refine j_iconst 0 dX0_wipe_11 (by decide) ?_
  refine jp_RX0_78 rfl s0 dX0_wipe_12 ?_
  obtain ⟨h3, eh3, hL⟩ := lt_ex hL
  refine j_heap eh3 ?_
  refine j_aload_n 0 dX0_wipe_15 rfl ?_
  refine j_iconst 0 dX0_wipe_16 (by decide) ?_
  refine jp_RX0_81 rfl s0 dX0_wipe_17 ?_
  obtain ⟨h4, eh4, hL⟩ := lt_ex hL
  refine j_heap eh4 ?_
  refine j_aload_n 0 dX0_wipe_20 rfl ?_
  refine j_iconst 0 dX0_wipe_21 (by decide) ?_
  refine jp_RX0_84 rfl s0 dX0_wipe_22 ?_
  obtain ⟨h5, eh5, hL⟩ := lt_ex hL
  refine j_heap eh5 ?_
  refine j_aload_n 0 dX0_wipe_25 rfl ?_
  refine j_iconst 0 dX0_wipe_26 (by decide) ?_
  refine jp_RX0_87 rfl s0 dX0_wipe_27 ?_
  obtain ⟨h6, eh6, hL⟩ := lt_ex hL
  refine j_heap eh6 ?_
  refine j_aload_n 0 dX0_wipe_30 rfl ?_
  refine jg_RX0_33 rfl s0 dX0_wipe_31 ?_
  obtain ⟨q7, hq7, hL⟩ := bnd_ex hL
  refine j_callVv (c_X3_wipe G (a0 + 7) (shf_0_12 s0) h6 _ hq7) cv_RX0_90 rfl (shf_0_12 s0) (by decide) rfl (by decide) rfl rfl (Nat.le_of_ble_eq_true rfl) dX0_wipe_34 (by decide) ?_
  refine j_aload_n 0 dX0_wipe_37 rfl ?_
  refine jg_RX0_37 rfl s0 dX0_wipe_38 ?_
  obtain ⟨q8, hq8, hL⟩ := bnd_ex hL
  refine j_callVv (c_X3_wipe G (a0 + 10) (shf_0_13 s0) q7 _ hq8) cv_RX0_90 rfl (shf_0_13 s0) (by decide) rfl (by decide) rfl rfl (Nat.le_of_ble_eq_true rfl) dX0_wipe_41 (by decide) ?_
  cases hL
  exact j_retv dX0_wipe_44 rfl hK

def f_X7_hasMore (a0 : Nat) (h : AH) : Bool := if (hfi h a0 1) = 0 then if (hfi h a0 8) = 0 then false else true else false
set_option maxRecDepth 20000 in
theorem c_X7_hasMore (G : GG) (a0 : Nat) (s0 : SH a0 = (7, 0)) (h : AH) : SpI G 1 mX7_hasMore [.ref (ad G a0)] h (bI (f_X7_hasMore a0 h)) h := by
  obtain ⟨r, hL⟩ : ∃ r, f_X7_hasMore a0 h = r := ⟨_, rfl⟩
  rw [hL]
  refine sp_i pf_X7_hasMore (Nat.le_of_ble_eq_true rfl) ?_
  show J G mX7_hasMore 1 0 0 (KMi G (bI r) h) 0 [(0, .ref (ad G a0))] [] h
  obtain ⟨K, hK⟩ : ∃ K, K = KMi G (bI r) h := ⟨_, rfl⟩
  rw [← hK]
  unfold f_X7_hasMore at hL
  refine j_aload_n 0 dX7_hasMore_0 rfl ?_
  refine jg_RX7_25 rfl s0 dX7_hasMore_1 ?_
  refine j_if_ne 18 dX7_hasMore_4 (by decide) (fun z1 => ?_) (fun z1 => ?_)
  · replace hL := (if_neg z1).symm.trans hL
    refine j_iconst 0 dX7_hasMore_18 (by decide) ?_
    subst hL
    exact j_ret0 dX7_hasMore_19 rfl hK
  · replace hL := (if_pos z1).symm.trans hL
    refine j_aload_n 0 dX7_hasMore_7 rfl ?_
    refine jg_RX7_37 rfl s0 dX7_hasMore_8 ?_
    refine j_if_eq 18 dX7_hasMore_11 (by decide) (fun z2 => ?_) (fun z2 => ?_)
    · replace hL := (if_pos z2).symm.trans hL
      refine j_iconst 0 dX7_hasMore_18 (by decide) ?_
      subst hL
      exact j_ret0 dX7_hasMore_19 rfl hK
    · replace hL := (if_neg z2).symm.trans hL
      refine j_iconst 1 dX7_hasMore_14 (by decide) ?_
      refine j_goto 19 dX7_hasMore_15 (by decide) ?_
      subst hL
      exact j_ret1 dX7_hasMore_19 rfl hK

def f_X7_spells_l20 (a0 : Nat) (t1 : Nat) (h : AH) : Nat → Int32 → Option ((Unit) ⊕ (Bool))
  | 0, _ => none
  | n + 1, v2 => gd (t1 < 35) (if (slen t1) ≤ v2 then some (.inl ()) else gd (ib ((hfi h a0 3) + v2) 500 = true) (gd (t1 < 35 ∧ ib v2 (strLen.getD t1 0) = true) (if (hia h (a0 + 1) (cl ((hfi h a0 3) + v2))) = (schr t1 v2) then f_X7_spells_l20 a0 t1 h n (v2 + 1) else some (.inr false))))
def f_X7_spells (a0 : Nat) (t1 : Nat) (h : AH) : Option (Bool) := gd (t1 < 35) (if (slen t1) = ((hfi h a0 7) - (hfi h a0 3)) then bnd (f_X7_spells_l20 a0 t1 h FU 0) (fun q8 => Sum.elim (fun xq8 => some true) (fun xq8 => some xq8) q8) else some false)
set_option maxRecDepth 20000 in
theorem cl_X7_spells_20 (G : GG) (K : KQ) (a0 : Nat) (t1 : Nat) (s0 : SH a0 = (7, 0)) : ∀ (n : Nat) (v2 : Int32) (h : AH) (r : (Unit) ⊕ (Bool)), f_X7_spells_l20 a0 t1 h n v2 = some r → (∀ x, r = .inl x → J G mX7_spells 5 0 0 K 55 [] [] h) → (∀ x, r = .inr x → K = KMi G (bI x) h) → J G mX7_spells 5 0 0 K 20 [(0, .ref (ad G a0)), (1, .ref (gK G t1)), (2, .int v2)] [] h := by
  intro n
  induction n with
  | zero => intro v2 h r hL; cases hL
  | succ n ih =>
    intro v2 h r hL kE kR
    unfold f_X7_spells_l20 at hL
    refine j_iload_n 2 dX7_spells_20 rfl ?_
    refine j_aload_n 1 dX7_spells_21 rfl ?_
    obtain ⟨g3, hL⟩ := gd_ex hL
    refine j_callStr (c_String_length G t1 g3 h) cv_RX7_59 rfl (by decide) rfl rfl (Nat.le_of_ble_eq_true rfl) dX7_spells_22 (by decide) g3 rfl ?_
    refine j_icmp_ge 55 dX7_spells_25 (by decide) (fun z4 => ?_) (fun z4 => ?_)
    · replace hL := (if_pos z4).symm.trans hL
      cases hL
      refine j_sub [] rfl ?_
      exact kE _ rfl
    · replace hL := (if_neg z4).symm.trans hL
      refine j_aload_n 0 dX7_spells_28 rfl ?_
      refine jg_RX7_15 rfl s0 dX7_spells_29 ?_
      refine j_aload_n 0 dX7_spells_32 rfl ?_
      refine jg_RX7_44 rfl s0 dX7_spells_33 ?_
      refine j_iload_n 2 dX7_spells_36 rfl ?_
      refine j_iadd dX7_spells_37 ?_
      obtain ⟨g5, hL⟩ := gd_ex hL
      refine j_iald (shf_7_5 s0) (ib_in g5) dX7_spells_38 ?_
      refine j_aload_n 1 dX7_spells_39 rfl ?_
      refine j_iload_n 2 dX7_spells_40 rfl ?_
      obtain ⟨g6, hL⟩ := gd_ex hL
      refine j_callStr (c_String_charAt G t1 v2 g6.1 (ib_in g6.2) h) cv_RX7_63 rfl (by decide) rfl rfl (Nat.le_of_ble_eq_true rfl) dX7_spells_41 (by decide) g6.1 rfl ?_
      refine j_icmp_eq 49 dX7_spells_44 (by decide) (fun z7 => ?_) (fun z7 => ?_)
      · replace hL := (if_pos z7).symm.trans hL
        refine j_iinc (lv' := [(2, .int (v2 + 1)), (0, .ref (ad G a0)), (1, .ref (gK G t1))]) 2 dX7_spells_49 rfl rfl (by decide) rfl ?_
        refine j_goto 20 dX7_spells_52 (by decide) ?_
        refine j_sub [1, 2, 0] rfl ?_
        exact ih (v2 + 1) h r hL kE kR
      · replace hL := (if_neg z7).symm.trans hL
        refine j_iconst 0 dX7_spells_47 (by decide) ?_
        cases hL
        exact j_ret0 dX7_spells_48 rfl (kR _ rfl)

set_option maxRecDepth 20000 in
theorem c_X7_spells (G : GG) (a0 : Nat) (s0 : SH a0 = (7, 0)) (t1 : Nat) (h : AH) (r : Bool) (hL : f_X7_spells a0 t1 h = some r) : SpI G 5 mX7_spells [.ref (ad G a0), .ref (gK G t1)] h (bI r) h := by
  refine sp_i pf_X7_spells (Nat.le_of_ble_eq_true rfl) ?_
  show J G mX7_spells 5 0 0 (KMi G (bI r) h) 0 [(0, .ref (ad G a0)), (1, .ref (gK G t1))] [] h
  obtain ⟨K, hK⟩ : ∃ K, K = KMi G (bI r) h := ⟨_, rfl⟩
  rw [← hK]
  unfold f_X7_spells at hL
  refine j_aload_n 1 dX7_spells_0 rfl ?_
  obtain ⟨g1, hL⟩ := gd_ex hL
  refine j_callStr (c_String_length G t1 g1 h) cv_RX7_59 rfl (by decide) rfl rfl (Nat.le_of_ble_eq_true rfl) dX7_spells_1 (by decide) g1 rfl ?_
  refine j_aload_n 0 dX7_spells_4 rfl ?_
  refine jg_RX7_31 rfl s0 dX7_spells_5 ?_
  refine j_aload_n 0 dX7_spells_8 rfl ?_
  refine jg_RX7_44 rfl s0 dX7_spells_9 ?_
  refine j_isub dX7_spells_12 ?_
  refine j_icmp_eq 18 dX7_spells_13 (by decide) (fun z2 => ?_) (fun z2 => ?_)
  · replace hL := (if_pos z2).symm.trans hL
    refine j_iconst 0 dX7_spells_18 (by decide) ?_
    refine j_istore_n (lv' := [(2, .int 0), (0, .ref (ad G a0)), (1, .ref (gK G t1))]) dX7_spells_19 (by decide) rfl ?_
    obtain ⟨q8, hq8, hL⟩ := bnd_ex hL
    refine j_sub [1, 2, 0] rfl ?_
    refine cl_X7_spells_20 G K a0 t1 s0 FU 0 h q8 hq8 (fun xq8 eq8 => ?_) (fun xq8 eq8 => ?_)
    · subst eq8
      refine j_iconst 1 dX7_spells_55 (by decide) ?_
      cases hL
      exact j_ret1 dX7_spells_56 rfl hK
    · subst eq8
      cases hL
      exact hK
  · replace hL := (if_neg z2).symm.trans hL
    refine j_iconst 0 dX7_spells_16 (by decide) ?_
    cases hL
    exact j_ret0 dX7_spells_17 rfl hK

def f_X7_takes (a0 : Nat) (t1 : Nat) (h : AH) : Option (Bool × AH) := if (hfi h a0 1) = 0 then if (hfi h a0 8) = 1 then bnd (f_X7_spells a0 t1 h) (fun q3 => if q3 = true then lt (sfi h a0 4 (hfi h a0 3)) (fun h5 => bnd (f_X7_step a0 h5) (fun q6 => some (true, q6))) else some (false, h)) else some (false, h) else some (false, h)
set_option maxRecDepth 20000 in
theorem c_X7_takes (G : GG) (a0 : Nat) (s0 : SH a0 = (7, 0)) (t1 : Nat) (h : AH) (r : Bool × AH) (hL : f_X7_takes a0 t1 h = some r) : SpI G 6 mX7_takes [.ref (ad G a0), .ref (gK G t1)] h (bI r.1) r.2 := by
  refine sp_i pf_X7_takes (Nat.le_of_ble_eq_true rfl) ?_
  show J G mX7_takes 6 0 0 (KMi G (bI r.1) r.2) 0 [(0, .ref (ad G a0)), (1, .ref (gK G t1))] [] h
  obtain ⟨K, hK⟩ : ∃ K, K = KMi G (bI r.1) r.2 := ⟨_, rfl⟩
  rw [← hK]
  unfold f_X7_takes at hL
  refine j_aload_n 0 dX7_takes_0 rfl ?_
  refine jg_RX7_25 rfl s0 dX7_takes_1 ?_
  refine j_if_ne 23 dX7_takes_4 (by decide) (fun z1 => ?_) (fun z1 => ?_)
  · replace hL := (if_neg z1).symm.trans hL
    refine j_iconst 0 dX7_takes_23 (by decide) ?_
    cases hL
    exact j_ret0 dX7_takes_24 rfl hK
  · replace hL := (if_pos z1).symm.trans hL
    refine j_aload_n 0 dX7_takes_7 rfl ?_
    refine jg_RX7_37 rfl s0 dX7_takes_8 ?_
    refine j_iconst 1 dX7_takes_11 (by decide) ?_
    refine j_icmp_ne 23 dX7_takes_12 (by decide) (fun z2 => ?_) (fun z2 => ?_)
    · replace hL := (if_neg z2).symm.trans hL
      refine j_iconst 0 dX7_takes_23 (by decide) ?_
      cases hL
      exact j_ret0 dX7_takes_24 rfl hK
    · replace hL := (if_pos z2).symm.trans hL
      refine j_aload_n 0 dX7_takes_15 rfl ?_
      refine j_aload_n 1 dX7_takes_16 rfl ?_
      obtain ⟨q3, hq3, hL⟩ := bnd_ex hL
      refine j_callVi (c_X7_spells G a0 s0 t1 h _ hq3) cv_RX7_40 rfl s0 (by decide) rfl (by decide) rfl rfl (Nat.le_of_ble_eq_true rfl) dX7_takes_17 (by decide) ?_
      refine j_ifz_ne 25 dX7_takes_20 (by decide) (fun z4 => ?_) (fun z4 => ?_)
      · replace hL := (if_pos z4).symm.trans hL
        refine j_aload_n 0 dX7_takes_25 rfl ?_
        refine j_aload_n 0 dX7_takes_26 rfl ?_
        refine jg_RX7_44 rfl s0 dX7_takes_27 ?_
        refine jp_RX7_28 rfl s0 dX7_takes_30 ?_
        obtain ⟨h5, eh5, hL⟩ := lt_ex hL
        refine j_heap eh5 ?_
        refine j_aload_n 0 dX7_takes_33 rfl ?_
        obtain ⟨q6, hq6, hL⟩ := bnd_ex hL
        refine j_callVv (c_X7_step G a0 s0 h5 _ hq6) cv_RX7_34 rfl s0 (by decide) rfl (by decide) rfl rfl (Nat.le_of_ble_eq_true rfl) dX7_takes_34 (by decide) ?_
        refine j_iconst 1 dX7_takes_37 (by decide) ?_
        cases hL
        exact j_ret1 dX7_takes_38 rfl hK
      · replace hL := (if_neg z4).symm.trans hL
        refine j_iconst 0 dX7_takes_23 (by decide) ?_
        cases hL
        exact j_ret0 dX7_takes_24 rfl hK

def f_X7_blame (a0 : Nat) (v1 : Int32) (v2 : Int32) (h : AH) : Option (AH) := if (hfi h a0 1) = 0 then lt (sfi h a0 1 v1) (fun h2 => lt (sfi h2 a0 2 v2) (fun h3 => some h3)) else some h
set_option maxRecDepth 20000 in
theorem c_X7_blame (G : GG) (a0 : Nat) (s0 : SH a0 = (7, 0)) (v1 : Int32) (v2 : Int32) (h : AH) (r : AH) (hL : f_X7_blame a0 v1 v2 h = some r) : SpV G 1 mX7_blame [.ref (ad G a0), .int v1, .int v2] h r := by
  refine sp_v pf_X7_blame (Nat.le_of_ble_eq_true rfl) ?_
  show J G mX7_blame 1 0 0 (KMv G r) 0 [(0, .ref (ad G a0)), (1, .int v1), (2, .int v2)] [] h
  obtain ⟨K, hK⟩ : ∃ K, K = KMv G r := ⟨_, rfl⟩
  rw [← hK]
  unfold f_X7_blame at hL
  refine j_aload_n 0 dX7_blame_0 rfl ?_
  refine jg_RX7_25 rfl s0 dX7_blame_1 ?_
  refine j_if_ne 17 dX7_blame_4 (by decide) (fun z1 => ?_) (fun z1 => ?_)
  · replace hL := (if_neg z1).symm.trans hL
    cases hL
    exact j_retv dX7_blame_17 rfl hK
  · replace hL := (if_pos z1).symm.trans hL
    refine j_aload_n 0 dX7_blame_7 rfl ?_
    refine j_iload_n 1 dX7_blame_8 rfl ?_
    refine jp_RX7_25 rfl s0 dX7_blame_9 ?_
    obtain ⟨h2, eh2, hL⟩ := lt_ex hL
    refine j_heap eh2 ?_
    refine j_aload_n 0 dX7_blame_12 rfl ?_
    refine j_iload_n 2 dX7_blame_13 rfl ?_
    refine jp_RX7_9 rfl s0 dX7_blame_14 ?_
    obtain ⟨h3, eh3, hL⟩ := lt_ex hL
    refine j_heap eh3 ?_
    cases hL
    exact j_retv dX7_blame_17 rfl hK

def f_X7_digits_l23 (a0 : Nat) (h : AH) : Nat → Int32 → Int32 → Option (Int32)
  | 0, _, _ => none
  | n + 1, v1, v2 => if (hfi h a0 7) ≤ v2 then some v1 else gd (ib v2 500 = true) (f_X7_digits_l23 a0 h n (((10 * v1) + (hia h (a0 + 1) (cl v2))) - 48) (v2 + 1))
def f_X7_digits (a0 : Nat) (h : AH) : Option (Int32) := if ((hfi h a0 7) - (hfi h a0 3)) ≤ 4 then bnd (f_X7_digits_l23 a0 h FU 0 (hfi h a0 3)) (fun q4 => some q4) else some 2147483647
set_option maxRecDepth 20000 in
theorem cl_X7_digits_23 (G : GG) (K : KQ) (a0 : Nat) (s0 : SH a0 = (7, 0)) : ∀ (n : Nat) (v1 : Int32) (v2 : Int32) (h : AH) (r : Int32), f_X7_digits_l23 a0 h n v1 v2 = some r → J G mX7_digits 1 0 0 K 52 [(1, .int r)] [] h → J G mX7_digits 1 0 0 K 23 [(0, .ref (ad G a0)), (1, .int v1), (2, .int v2)] [] h := by
  intro n
  induction n with
  | zero => intro v1 v2 h r hL; cases hL
  | succ n ih =>
    intro v1 v2 h r hL kE
    unfold f_X7_digits_l23 at hL
    refine j_iload_n 2 dX7_digits_23 rfl ?_
    refine j_aload_n 0 dX7_digits_24 rfl ?_
    refine jg_RX7_31 rfl s0 dX7_digits_25 ?_
    refine j_icmp_ge 52 dX7_digits_28 (by decide) (fun z2 => ?_) (fun z2 => ?_)
    · replace hL := (if_pos z2).symm.trans hL
      cases hL
      refine j_sub [1] rfl ?_
      exact kE 
    · replace hL := (if_neg z2).symm.trans hL
      refine j_bipush 10 dX7_digits_31 (by decide) ?_
      refine j_iload_n 1 dX7_digits_33 rfl ?_
      refine j_imul dX7_digits_34 ?_
      refine j_aload_n 0 dX7_digits_35 rfl ?_
      refine jg_RX7_15 rfl s0 dX7_digits_36 ?_
      refine j_iload_n 2 dX7_digits_39 rfl ?_
      obtain ⟨g3, hL⟩ := gd_ex hL
      refine j_iald (shf_7_5 s0) (ib_in g3) dX7_digits_40 ?_
      refine j_iadd dX7_digits_41 ?_
      refine j_bipush 48 dX7_digits_42 (by decide) ?_
      refine j_isub dX7_digits_44 ?_
      refine j_istore_n (lv' := [(1, .int (((10 * v1) + (hia h (a0 + 1) (cl v2))) - 48)), (0, .ref (ad G a0)), (2, .int v2)]) dX7_digits_45 (by decide) rfl ?_
      refine j_iinc (lv' := [(2, .int (v2 + 1)), (1, .int (((10 * v1) + (hia h (a0 + 1) (cl v2))) - 48)), (0, .ref (ad G a0))]) 2 dX7_digits_46 rfl rfl (by decide) rfl ?_
      refine j_goto 23 dX7_digits_49 (by decide) ?_
      refine j_sub [2, 1, 0] rfl ?_
      exact ih (((10 * v1) + (hia h (a0 + 1) (cl v2))) - 48) (v2 + 1) h r hL kE

set_option maxRecDepth 20000 in
theorem c_X7_digits (G : GG) (a0 : Nat) (s0 : SH a0 = (7, 0)) (h : AH) (r : Int32) (hL : f_X7_digits a0 h = some r) : SpI G 1 mX7_digits [.ref (ad G a0)] h r h := by
  refine sp_i pf_X7_digits (Nat.le_of_ble_eq_true rfl) ?_
  show J G mX7_digits 1 0 0 (KMi G r h) 0 [(0, .ref (ad G a0))] [] h
  obtain ⟨K, hK⟩ : ∃ K, K = KMi G r h := ⟨_, rfl⟩
  rw [← hK]
  unfold f_X7_digits at hL
  refine j_aload_n 0 dX7_digits_0 rfl ?_
  refine jg_RX7_31 rfl s0 dX7_digits_1 ?_
  refine j_aload_n 0 dX7_digits_4 rfl ?_
  refine jg_RX7_44 rfl s0 dX7_digits_5 ?_
  refine j_isub dX7_digits_8 ?_
  refine j_iconst 4 dX7_digits_9 (by decide) ?_
  refine j_icmp_le 16 dX7_digits_10 (by decide) (fun z1 => ?_) (fun z1 => ?_)
  · replace hL := (if_pos z1).symm.trans hL
    refine j_iconst 0 dX7_digits_16 (by decide) ?_
    refine j_istore_n (lv' := [(1, .int 0), (0, .ref (ad G a0))]) dX7_digits_17 (by decide) rfl ?_
    refine j_aload_n 1 dX7_digits_18 rfl ?_
    refine jg_RX7_44 rfl s0 dX7_digits_19 ?_
    refine j_istore_n (lv' := [(2, .int (hfi h a0 3)), (1, .int 0), (0, .ref (ad G a0))]) dX7_digits_22 (by decide) rfl ?_
    obtain ⟨q4, hq4, hL⟩ := bnd_ex hL
    refine j_sub [2, 1, 0] rfl ?_
    refine cl_X7_digits_23 G K a0 s0 FU 0 (hfi h a0 3) h q4 hq4 ?_
    refine j_iload_n 0 dX7_digits_52 rfl ?_
    cases hL
    exact j_reti dX7_digits_53 rfl hK
  · replace hL := (if_neg z1).symm.trans hL
    refine j_ldc rfl kk_RX7_69 dX7_digits_13 ?_
    cases hL
    exact j_reti dX7_digits_15 rfl hK

def f_X7_number (a0 : Nat) (v1 : Int32) (v2 : Int32) (h : AH) : Option (Int32 × AH) := if (hfi h a0 1) = 0 then if (hfi h a0 8) = 2 then bnd (f_X7_digits a0 h) (fun q3 => if q3 < v1 then bnd (f_X7_blame a0 2 (hfi h a0 3) h) (fun q5 => some (v1, q5)) else if q3 ≤ v2 then lt (sfi h a0 4 (hfi h a0 3)) (fun h7 => bnd (f_X7_step a0 h7) (fun q8 => some (q3, q8))) else bnd (f_X7_blame a0 2 (hfi h a0 3) h) (fun q9 => some (v1, q9))) else bnd (f_X7_blame a0 1 (hfi h a0 3) h) (fun q10 => some (v1, q10)) else some (v1, h)
set_option maxRecDepth 20000 in
theorem c_X7_number (G : GG) (a0 : Nat) (s0 : SH a0 = (7, 0)) (v1 : Int32) (v2 : Int32) (h : AH) (r : Int32 × AH) (hL : f_X7_number a0 v1 v2 h = some r) : SpI G 3 mX7_number [.ref (ad G a0), .int v1, .int v2] h r.1 r.2 := by
  refine sp_i pf_X7_number (Nat.le_of_ble_eq_true rfl) ?_
  show J G mX7_number 3 0 0 (KMi G r.1 r.2) 0 [(0, .ref (ad G a0)), (1, .int v1), (2, .int v2)] [] h
  obtain ⟨K, hK⟩ : ∃ K, K = KMi G r.1 r.2 := ⟨_, rfl⟩
  rw [← hK]
  unfold f_X7_number at hL
  refine j_aload_n 0 dX7_number_0 rfl ?_
  refine jg_RX7_25 rfl s0 dX7_number_1 ?_
  refine j_if_eq 9 dX7_number_4 (by decide) (fun z1 => ?_) (fun z1 => ?_)
  · replace hL := (if_pos z1).symm.trans hL
    refine j_aload_n 0 dX7_number_9 rfl ?_
    refine jg_RX7_37 rfl s0 dX7_number_10 ?_
    refine j_iconst 2 dX7_number_13 (by decide) ?_
    refine j_icmp_eq 28 dX7_number_14 (by decide) (fun z2 => ?_) (fun z2 => ?_)
    · replace hL := (if_pos z2).symm.trans hL
      refine j_aload_n 0 dX7_number_28 rfl ?_
      obtain ⟨q3, hq3, hL⟩ := bnd_ex hL
      refine j_callVi (c_X7_digits G a0 s0 h _ hq3) cv_RX7_51 rfl s0 (by decide) rfl (by decide) rfl rfl (Nat.le_of_ble_eq_true rfl) dX7_number_29 (by decide) ?_
      refine j_istore_n (lv' := [(3, .int q3), (0, .ref (ad G a0)), (1, .int v1), (2, .int v2)]) dX7_number_32 (by decide) rfl ?_
      refine j_iload_n 0 dX7_number_33 rfl ?_
      refine j_iload_n 2 dX7_number_34 rfl ?_
      refine j_icmp_lt 43 dX7_number_35 (by decide) (fun z4 => ?_) (fun z4 => ?_)
      · replace hL := (if_pos z4).symm.trans hL
        refine j_aload_n 1 dX7_number_43 rfl ?_
        refine j_iconst 2 dX7_number_44 (by decide) ?_
        refine j_aload_n 1 dX7_number_45 rfl ?_
        refine jg_RX7_44 rfl s0 dX7_number_46 ?_
        obtain ⟨q5, hq5, hL⟩ := bnd_ex hL
        refine j_callVv (c_X7_blame G a0 s0 2 (hfi h a0 3) h _ hq5) cv_RX7_47 rfl s0 (by decide) rfl (by decide) rfl rfl (Nat.le_of_ble_eq_true rfl) dX7_number_49 (by decide) ?_
        refine j_iload_n 2 dX7_number_52 rfl ?_
        cases hL
        exact j_reti dX7_number_53 rfl hK
      · replace hL := (if_neg z4).symm.trans hL
        refine j_iload_n 0 dX7_number_38 rfl ?_
        refine j_iload_n 3 dX7_number_39 rfl ?_
        refine j_icmp_le 54 dX7_number_40 (by decide) (fun z6 => ?_) (fun z6 => ?_)
        · replace hL := (if_pos z6).symm.trans hL
          refine j_aload_n 1 dX7_number_54 rfl ?_
          refine j_aload_n 1 dX7_number_55 rfl ?_
          refine jg_RX7_44 rfl s0 dX7_number_56 ?_
          refine jp_RX7_28 rfl s0 dX7_number_59 ?_
          obtain ⟨h7, eh7, hL⟩ := lt_ex hL
          refine j_heap eh7 ?_
          refine j_aload_n 1 dX7_number_62 rfl ?_
          obtain ⟨q8, hq8, hL⟩ := bnd_ex hL
          refine j_callVv (c_X7_step G a0 s0 h7 _ hq8) cv_RX7_34 rfl s0 (by decide) rfl (by decide) rfl rfl (Nat.le_of_ble_eq_true rfl) dX7_number_63 (by decide) ?_
          refine j_iload_n 0 dX7_number_66 rfl ?_
          cases hL
          exact j_reti dX7_number_67 rfl hK
        · replace hL := (if_neg z6).symm.trans hL
          refine j_aload_n 1 dX7_number_43 rfl ?_
          refine j_iconst 2 dX7_number_44 (by decide) ?_
          refine j_aload_n 1 dX7_number_45 rfl ?_
          refine jg_RX7_44 rfl s0 dX7_number_46 ?_
          obtain ⟨q9, hq9, hL⟩ := bnd_ex hL
          refine j_callVv (c_X7_blame G a0 s0 2 (hfi h a0 3) h _ hq9) cv_RX7_47 rfl s0 (by decide) rfl (by decide) rfl rfl (Nat.le_of_ble_eq_true rfl) dX7_number_49 (by decide) ?_
          refine j_iload_n 2 dX7_number_52 rfl ?_
          cases hL
          exact j_reti dX7_number_53 rfl hK
    · replace hL := (if_neg z2).symm.trans hL
      refine j_aload_n 0 dX7_number_17 rfl ?_
      refine j_iconst 1 dX7_number_18 (by decide) ?_
      refine j_aload_n 0 dX7_number_19 rfl ?_
      refine jg_RX7_44 rfl s0 dX7_number_20 ?_
      obtain ⟨q10, hq10, hL⟩ := bnd_ex hL
      refine j_callVv (c_X7_blame G a0 s0 1 (hfi h a0 3) h _ hq10) cv_RX7_47 rfl s0 (by decide) rfl (by decide) rfl rfl (Nat.le_of_ble_eq_true rfl) dX7_number_23 (by decide) ?_
      refine j_iload_n 1 dX7_number_26 rfl ?_
      cases hL
      exact j_reti dX7_number_27 rfl hK
  · replace hL := (if_neg z1).symm.trans hL
    refine j_iload_n 1 dX7_number_7 rfl ?_
    cases hL
    exact j_reti dX7_number_8 rfl hK

def f_X0_writeText_l94 (a0 : Nat) (v2 : Int32) (v3 : Int32) (v4 : Int32) (v5 : Int32) : Nat → Int32 → AH → Option (AH)
  | 0, _, _ => none
  | n + 1, v6, h => if v3 ≤ v6 then some h else if 40 ≤ (hfi h a0 0) then some h else gd (ib (hfi h a0 0) 40 = true) (lt (sia h (a0 + 1) (cl (hfi h a0 0)) v2) (fun h23 => gd (ib (hfi h23 a0 0) 40 = true) (lt (sia h23 (a0 + 2) (cl (hfi h23 a0 0)) (hfi h23 a0 1)) (fun h25 => gd (ib (hfi h25 a0 0) 40 = true) (lt (sia h25 (a0 + 3) (cl (hfi h25 a0 0)) v6) (fun h27 => gd (ib (hfi h27 a0 0) 40 = true) (lt (sia h27 (a0 + 4) (cl (hfi h27 a0 0)) v4) (fun h29 => gd (ib (hfi h29 a0 0) 40 = true) (lt (sia h29 (a0 + 5) (cl (hfi h29 a0 0)) v5) (fun h31 => gd (ib (hfi h31 a0 0) 40 = true) (lt (sia h31 (a0 + 6) (cl (hfi h31 a0 0)) 0) (fun h33 => lt (sfi h33 a0 0 ((hfi h33 a0 0) + 1)) (fun h34 => f_X0_writeText_l94 a0 v2 v3 v4 v5 n (v6 + 1) h34)))))))))))))
def f_X0_writeText (a0 : Nat) (a1 : Nat) (h : AH) : Option (AH) := bnd (f_X7_number a1 0 11 h) (fun q1 => bnd (f_X7_number a1 1 20 q1.2) (fun q2 => lt (fun  (h6 : AH) => bnd (f_X7_takes a1 3 h6) (fun q7 => lt (fun (x11 : Int32) (h12 : AH) => bnd (f_X7_takes a1 4 h12) (fun q13 => lt (fun (x17 : Int32) (h18 : AH) => if (hfi h18 a1 1) = 0 then bnd (f_X0_writeText_l94 a0 q1.1 q2.1 x11 x17 FU 0 h18) (fun q35 => lt (sfi q35 a0 1 ((hfi q35 a0 1) + 1)) (fun h36 => lt (sfi h36 a0 2 ((hfi h36 a0 2) ||| (1 <<< ((q1.1 : Int32) &&& 31)))) (fun h37 => some h37))) else some h18) (fun j15 => if q13.1 = true then bnd (f_X7_number a1 0 500 q13.2) (fun q16 => j15 q16.1 q16.2) else j15 0 q13.2))) (fun j9 => if q7.1 = true then bnd (f_X7_number a1 0 200 q7.2) (fun q10 => j9 q10.1 q10.2) else j9 40 q7.2))) (fun j4 => if ((hfi q2.2 a0 0) + q2.1) ≤ 40 then j4  q2.2 else bnd (f_X7_blame a1 2 (hfi q2.2 a1 4) q2.2) (fun q5 => j4  q5))))
set_option maxRecDepth 20000 in
theorem cl_X0_writeText_94 (G : GG) (K : KQ) (a0 : Nat) (v2 : Int32) (v3 : Int32) (v4 : Int32) (v5 : Int32) (s0 : SH a0 = (0, 0)) : ∀ (n : Nat) (v6 : Int32) (h : AH) (r : AH), f_X0_writeText_l94 a0 v2 v3 v4 v5 n v6 h = some r → J G mX0_writeText 7 0 0 K 191 [(0, .ref (ad G a0)), (2, .int v2)] [] r → J G mX0_writeText 7 0 0 K 94 [(0, .ref (ad G a0)), (2, .int v2), (3, .int v3), (4, .int v4), (5, .int v5), (6, .int v6)] [] h := by
  intro n
  induction n with
  | zero => intro v6 h r hL; cases hL
  | succ n ih =>
    intro v6 h r hL kE
    unfold f_X0_writeText_l94 at hL
    refine j_iload 5 dX0_writeText_94 rfl ?_
    refine j_iload_n 2 dX0_writeText_96 rfl ?_
    refine j_icmp_ge 191 dX0_writeText_97 (by decide) (fun z20 => ?_) (fun z20 => ?_)
    · replace hL := (if_pos z20).symm.trans hL
      cases hL
      refine j_sub [0, 1] rfl ?_
      exact kE 
    · replace hL := (if_neg z20).symm.trans hL
      refine j_aload_n 0 dX0_writeText_100 rfl ?_
      refine jg_RX0_71 rfl s0 dX0_writeText_101 ?_
      refine j_bipush 40 dX0_writeText_104 (by decide) ?_
      refine j_icmp_ge 191 dX0_writeText_106 (by decide) (fun z21 => ?_) (fun z21 => ?_)
      · replace hL := (if_pos z21).symm.trans hL
        cases hL
        refine j_sub [0, 1] rfl ?_
        exact kE 
      · replace hL := (if_neg z21).symm.trans hL
        refine j_aload_n 0 dX0_writeText_109 rfl ?_
        refine jg_RX0_9 rfl s0 dX0_writeText_110 ?_
        refine j_aload_n 0 dX0_writeText_113 rfl ?_
        refine jg_RX0_71 rfl s0 dX0_writeText_114 ?_
        refine j_iload_n 1 dX0_writeText_117 rfl ?_
        obtain ⟨g22, hL⟩ := gd_ex hL
        refine j_iast (shf_0_6 s0) (ib_in g22) dX0_writeText_118 ?_
        obtain ⟨h23, eh23, hL⟩ := lt_ex hL
        refine j_heap eh23 ?_
        refine j_aload_n 0 dX0_writeText_119 rfl ?_
        refine jg_RX0_15 rfl s0 dX0_writeText_120 ?_
        refine j_aload_n 0 dX0_writeText_123 rfl ?_
        refine jg_RX0_71 rfl s0 dX0_writeText_124 ?_
        refine j_aload_n 0 dX0_writeText_127 rfl ?_
        refine jg_RX0_75 rfl s0 dX0_writeText_128 ?_
        obtain ⟨g24, hL⟩ := gd_ex hL
        refine j_iast (shf_0_7 s0) (ib_in g24) dX0_writeText_131 ?_
        obtain ⟨h25, eh25, hL⟩ := lt_ex hL
        refine j_heap eh25 ?_
        refine j_aload_n 0 dX0_writeText_132 rfl ?_
        refine jg_RX0_18 rfl s0 dX0_writeText_133 ?_
        refine j_aload_n 0 dX0_writeText_136 rfl ?_
        refine jg_RX0_71 rfl s0 dX0_writeText_137 ?_
        refine j_iload 5 dX0_writeText_140 rfl ?_
        obtain ⟨g26, hL⟩ := gd_ex hL
        refine j_iast (shf_0_8 s0) (ib_in g26) dX0_writeText_142 ?_
        obtain ⟨h27, eh27, hL⟩ := lt_ex hL
        refine j_heap eh27 ?_
        refine j_aload_n 0 dX0_writeText_143 rfl ?_
        refine jg_RX0_21 rfl s0 dX0_writeText_144 ?_
        refine j_aload_n 0 dX0_writeText_147 rfl ?_
        refine jg_RX0_71 rfl s0 dX0_writeText_148 ?_
        refine j_iload 3 dX0_writeText_151 rfl ?_
        obtain ⟨g28, hL⟩ := gd_ex hL
        refine j_iast (shf_0_9 s0) (ib_in g28) dX0_writeText_153 ?_
        obtain ⟨h29, eh29, hL⟩ := lt_ex hL
        refine j_heap eh29 ?_
        refine j_aload_n 0 dX0_writeText_154 rfl ?_
        refine jg_RX0_24 rfl s0 dX0_writeText_155 ?_
        refine j_aload_n 0 dX0_writeText_158 rfl ?_
        refine jg_RX0_71 rfl s0 dX0_writeText_159 ?_
        refine j_iload 4 dX0_writeText_162 rfl ?_
        obtain ⟨g30, hL⟩ := gd_ex hL
        refine j_iast (shf_0_10 s0) (ib_in g30) dX0_writeText_164 ?_
        obtain ⟨h31, eh31, hL⟩ := lt_ex hL
        refine j_heap eh31 ?_
        refine j_aload_n 0 dX0_writeText_165 rfl ?_
        refine jg_RX0_27 rfl s0 dX0_writeText_166 ?_
        refine j_aload_n 0 dX0_writeText_169 rfl ?_
        refine jg_RX0_71 rfl s0 dX0_writeText_170 ?_
        refine j_iconst 0 dX0_writeText_173 (by decide) ?_
        obtain ⟨g32, hL⟩ := gd_ex hL
        refine j_iast (shf_0_11 s0) (ib_in g32) dX0_writeText_174 ?_
        obtain ⟨h33, eh33, hL⟩ := lt_ex hL
        refine j_heap eh33 ?_
        refine j_aload_n 0 dX0_writeText_175 rfl ?_
        refine j_dup dX0_writeText_176 rfl ?_
        refine jg_RX0_71 rfl s0 dX0_writeText_177 ?_
        refine j_iconst 1 dX0_writeText_180 (by decide) ?_
        refine j_iadd dX0_writeText_181 ?_
        refine jp_RX0_71 rfl s0 dX0_writeText_182 ?_
        obtain ⟨h34, eh34, hL⟩ := lt_ex hL
        refine j_heap eh34 ?_
        refine j_iinc (lv' := [(6, .int (v6 + 1)), (0, .ref (ad G a0)), (2, .int v2), (3, .int v3), (4, .int v4), (5, .int v5)]) 5 dX0_writeText_185 rfl rfl (by decide) rfl ?_
        refine j_goto 94 dX0_writeText_188 (by decide) ?_
        refine j_sub [1, 2, 3, 4, 5, 0] rfl ?_
        exact ih (v6 + 1) h34 r hL kE

set_option maxRecDepth 20000 in
theorem c_X0_writeText (G : GG) (a0 : Nat) (s0 : SH a0 = (0, 0)) (a1 : Nat) (s1 : SH a1 = (7, 0)) (h : AH) (r : AH) (hL : f_X0_writeText a0 a1 h = some r) : SpV G 7 mX0_writeText [.ref (ad G a0), .ref (ad G a1)] h r := by
  refine sp_v pf_X0_writeText (Nat.le_of_ble_eq_true rfl) ?_
  show J G mX0_writeText 7 0 0 (KMv G r) 0 [(0, .ref (ad G a0)), (1, .ref (ad G a1))] [] h
  obtain ⟨K, hK⟩ : ∃ K, K = KMv G r := ⟨_, rfl⟩
  rw [← hK]
  unfold f_X0_writeText at hL
  refine j_aload_n 1 dX0_writeText_0 rfl ?_
  refine j_iconst 0 dX0_writeText_1 (by decide) ?_
  refine j_bipush 11 dX0_writeText_2 (by decide) ?_
  obtain ⟨q1, hq1, hL⟩ := bnd_ex hL
  refine j_callVi (c_X7_number G a1 s1 0 11 h _ hq1) cv_RX0_101 rfl s1 (by decide) rfl (by decide) rfl rfl (Nat.le_of_ble_eq_true rfl) dX0_writeText_4 (by decide) ?_
  refine j_istore_n (lv' := [(2, .int q1.1), (0, .ref (ad G a0)), (1, .ref (ad G a1))]) dX0_writeText_7 (by decide) rfl ?_
  refine j_aload_n 2 dX0_writeText_8 rfl ?_
  refine j_iconst 1 dX0_writeText_9 (by decide) ?_
  refine j_bipush 20 dX0_writeText_10 (by decide) ?_
  obtain ⟨q2, hq2, hL⟩ := bnd_ex hL
  refine j_callVi (c_X7_number G a1 s1 1 20 q1.2 _ hq2) cv_RX0_101 rfl s1 (by decide) rfl (by decide) rfl rfl (Nat.le_of_ble_eq_true rfl) dX0_writeText_12 (by decide) ?_
  refine j_istore_n (lv' := [(3, .int q2.1), (2, .int q1.1), (0, .ref (ad G a0)), (1, .ref (ad G a1))]) dX0_writeText_15 (by decide) rfl ?_
  refine j_aload_n 2 dX0_writeText_16 rfl ?_
  refine jg_RX0_71 rfl s0 dX0_writeText_17 ?_
  refine j_iload_n 0 dX0_writeText_20 rfl ?_
  refine j_iadd dX0_writeText_21 ?_
  refine j_bipush 40 dX0_writeText_22 (by decide) ?_
  obtain ⟨j4, ej4, hL⟩ := lt_ex hL
  have kj4 : ∀  (h6 : AH), j4  h6 = some r → J G mX0_writeText 7 0 0 K 36 [(0, .ref (ad G a0)), (1, .ref (ad G a1)), (2, .int q1.1), (3, .int q2.1)] [] h6 := by
    intro  h6 hL
    rw [ej4] at hL
    replace hL : (bnd (f_X7_takes a1 3 h6) (fun q7 => lt (fun (x11 : Int32) (h12 : AH) => bnd (f_X7_takes a1 4 h12) (fun q13 => lt (fun (x17 : Int32) (h18 : AH) => if (hfi h18 a1 1) = 0 then bnd (f_X0_writeText_l94 a0 q1.1 q2.1 x11 x17 FU 0 h18) (fun q35 => lt (sfi q35 a0 1 ((hfi q35 a0 1) + 1)) (fun h36 => lt (sfi h36 a0 2 ((hfi h36 a0 2) ||| (1 <<< ((q1.1 : Int32) &&& 31)))) (fun h37 => some h37))) else some h18) (fun j15 => if q13.1 = true then bnd (f_X7_number a1 0 500 q13.2) (fun q16 => j15 q16.1 q16.2) else j15 0 q13.2))) (fun j9 => if q7.1 = true then bnd (f_X7_number a1 0 200 q7.2) (fun q10 => j9 q10.1 q10.2) else j9 40 q7.2))) = some r := hL
    refine j_aload_n 1 dX0_writeText_36 rfl ?_
    refine j_ldcS rfl (List.mem_of_getElem? (i := 3) rfl) dX0_writeText_37 ?_
    obtain ⟨q7, hq7, hL⟩ := bnd_ex hL
    refine j_callVi (c_X7_takes G a1 s1 3 h6 _ hq7) cv_RX0_93 rfl s1 (by decide) rfl (by decide) rfl rfl (Nat.le_of_ble_eq_true rfl) dX0_writeText_39 (by decide) ?_
    obtain ⟨j9, ej9, hL⟩ := lt_ex hL
    have kj9 : ∀ (x11 : Int32) (h12 : AH), j9 x11 h12 = some r → J G mX0_writeText 7 0 0 K 58 [(0, .ref (ad G a0)), (1, .ref (ad G a1)), (2, .int q1.1), (3, .int q2.1)] [.int x11] h12 := by
      intro x11 h12 hL
      rw [ej9] at hL
      replace hL : (bnd (f_X7_takes a1 4 h12) (fun q13 => lt (fun (x17 : Int32) (h18 : AH) => if (hfi h18 a1 1) = 0 then bnd (f_X0_writeText_l94 a0 q1.1 q2.1 x11 x17 FU 0 h18) (fun q35 => lt (sfi q35 a0 1 ((hfi q35 a0 1) + 1)) (fun h36 => lt (sfi h36 a0 2 ((hfi h36 a0 2) ||| (1 <<< ((q1.1 : Int32) &&& 31)))) (fun h37 => some h37))) else some h18) (fun j15 => if q13.1 = true then bnd (f_X7_number a1 0 500 q13.2) (fun q16 => j15 q16.1 q16.2) else j15 0 q13.2))) = some r := hL
      refine j_istore (lv' := [(4, .int x11), (0, .ref (ad G a0)), (1, .ref (ad G a1)), (2, .int q1.1), (3, .int q2.1)]) dX0_writeText_58 (by decide) rfl ?_
      refine j_aload_n 2 dX0_writeText_60 rfl ?_
      refine j_ldcS rfl (List.mem_of_getElem? (i := 4) rfl) dX0_writeText_61 ?_
      obtain ⟨q13, hq13, hL⟩ := bnd_ex hL
      refine j_callVi (c_X7_takes G a1 s1 4 h12 _ hq13) cv_RX0_93 rfl s1 (by decide) rfl (by decide) rfl rfl (Nat.le_of_ble_eq_true rfl) dX0_writeText_63 (by decide) ?_
      obtain ⟨j15, ej15, hL⟩ := lt_ex hL
      have kj15 : ∀ (x17 : Int32) (h18 : AH), j15 x17 h18 = some r → J G mX0_writeText 7 0 0 K 81 [(0, .ref (ad G a0)), (1, .ref (ad G a1)), (2, .int q1.1), (3, .int q2.1), (4, .int x11)] [.int x17] h18 := by
        intro x17 h18 hL
        rw [ej15] at hL
        replace hL : (if (hfi h18 a1 1) = 0 then bnd (f_X0_writeText_l94 a0 q1.1 q2.1 x11 x17 FU 0 h18) (fun q35 => lt (sfi q35 a0 1 ((hfi q35 a0 1) + 1)) (fun h36 => lt (sfi h36 a0 2 ((hfi h36 a0 2) ||| (1 <<< ((q1.1 : Int32) &&& 31)))) (fun h37 => some h37))) else some h18) = some r := hL
        refine j_istore (lv' := [(5, .int x17), (0, .ref (ad G a0)), (1, .ref (ad G a1)), (2, .int q1.1), (3, .int q2.1), (4, .int x11)]) dX0_writeText_81 (by decide) rfl ?_
        refine j_aload_n 2 dX0_writeText_83 rfl ?_
        refine jg_RX0_129 rfl s1 dX0_writeText_84 ?_
        refine j_if_eq 91 dX0_writeText_87 (by decide) (fun z19 => ?_) (fun z19 => ?_)
        · replace hL := (if_pos z19).symm.trans hL
          refine j_iconst 0 dX0_writeText_91 (by decide) ?_
          refine j_istore (lv' := [(6, .int 0), (5, .int x17), (0, .ref (ad G a0)), (1, .ref (ad G a1)), (2, .int q1.1), (3, .int q2.1), (4, .int x11)]) dX0_writeText_92 (by decide) rfl ?_
          obtain ⟨q35, hq35, hL⟩ := bnd_ex hL
          refine j_sub [2, 4, 5, 6, 1, 0] rfl ?_
          refine cl_X0_writeText_94 G K a0 q1.1 q2.1 x11 x17 s0 FU 0 h18 q35 hq35 ?_
          refine j_aload_n 0 dX0_writeText_191 rfl ?_
          refine j_dup dX0_writeText_192 rfl ?_
          refine jg_RX0_75 rfl s0 dX0_writeText_193 ?_
          refine j_iconst 1 dX0_writeText_196 (by decide) ?_
          refine j_iadd dX0_writeText_197 ?_
          refine jp_RX0_75 rfl s0 dX0_writeText_198 ?_
          obtain ⟨h36, eh36, hL⟩ := lt_ex hL
          refine j_heap eh36 ?_
          refine j_aload_n 0 dX0_writeText_201 rfl ?_
          refine j_dup dX0_writeText_202 rfl ?_
          refine jg_RX0_78 rfl s0 dX0_writeText_203 ?_
          refine j_iconst 1 dX0_writeText_206 (by decide) ?_
          refine j_iload_n 1 dX0_writeText_207 rfl ?_
          refine j_ishl dX0_writeText_208 ?_
          refine j_ior dX0_writeText_209 ?_
          refine jp_RX0_78 rfl s0 dX0_writeText_210 ?_
          obtain ⟨h37, eh37, hL⟩ := lt_ex hL
          refine j_heap eh37 ?_
          cases hL
          exact j_retv dX0_writeText_213 rfl hK
        · replace hL := (if_neg z19).symm.trans hL
          cases hL
          exact j_retv dX0_writeText_90 rfl hK
      refine j_ifz_eq 80 dX0_writeText_66 (by decide) (fun z14 => ?_) (fun z14 => ?_)
      · replace hL := (if_neg z14).symm.trans hL
        refine j_iconst 0 dX0_writeText_80 (by decide) ?_
        refine j_sub [1, 2, 3, 4, 0] rfl ?_
        exact kj15 0 q13.2 hL
      · replace hL := (if_pos z14).symm.trans hL
        refine j_aload_n 2 dX0_writeText_69 rfl ?_
        refine j_iconst 0 dX0_writeText_70 (by decide) ?_
        refine j_sipush 500 dX0_writeText_71 (by decide) ?_
        obtain ⟨q16, hq16, hL⟩ := bnd_ex hL
        refine j_callVi (c_X7_number G a1 s1 0 500 q13.2 _ hq16) cv_RX0_101 rfl s1 (by decide) rfl (by decide) rfl rfl (Nat.le_of_ble_eq_true rfl) dX0_writeText_74 (by decide) ?_
        refine j_goto 81 dX0_writeText_77 (by decide) ?_
        refine j_sub [1, 2, 3, 4, 0] rfl ?_
        exact kj15 q16.1 q16.2 hL
    refine j_ifz_eq 56 dX0_writeText_42 (by decide) (fun z8 => ?_) (fun z8 => ?_)
    · replace hL := (if_neg z8).symm.trans hL
      refine j_bipush 40 dX0_writeText_56 (by decide) ?_
      refine j_sub [0, 1, 2, 3] rfl ?_
      exact kj9 40 q7.2 hL
    · replace hL := (if_pos z8).symm.trans hL
      refine j_aload_n 1 dX0_writeText_45 rfl ?_
      refine j_iconst 0 dX0_writeText_46 (by decide) ?_
      refine j_sipush 200 dX0_writeText_47 (by decide) ?_
      obtain ⟨q10, hq10, hL⟩ := bnd_ex hL
      refine j_callVi (c_X7_number G a1 s1 0 200 q7.2 _ hq10) cv_RX0_101 rfl s1 (by decide) rfl (by decide) rfl rfl (Nat.le_of_ble_eq_true rfl) dX0_writeText_50 (by decide) ?_
      refine j_goto 58 dX0_writeText_53 (by decide) ?_
      refine j_sub [0, 1, 2, 3] rfl ?_
      exact kj9 q10.1 q10.2 hL
  refine j_icmp_le 36 dX0_writeText_24 (by decide) (fun z3 => ?_) (fun z3 => ?_)
  · replace hL := (if_pos z3).symm.trans hL
    refine j_sub [2, 3, 1, 0] rfl ?_
    exact kj4  q2.2 hL
  · replace hL := (if_neg z3).symm.trans hL
    refine j_aload_n 3 dX0_writeText_27 rfl ?_
    refine j_iconst 2 dX0_writeText_28 (by decide) ?_
    refine j_aload_n 3 dX0_writeText_29 rfl ?_
    refine jg_RX0_122 rfl s1 dX0_writeText_30 ?_
    obtain ⟨q5, hq5, hL⟩ := bnd_ex hL
    refine j_callVv (c_X7_blame G a1 s1 2 (hfi q2.2 a1 4) q2.2 _ hq5) cv_RX0_118 rfl s1 (by decide) rfl (by decide) rfl rfl (Nat.le_of_ble_eq_true rfl) dX0_writeText_33 (by decide) ?_
    refine j_sub [2, 3, 1, 0] rfl ?_
    exact kj4  q5 hL

def f_X0_writeSpilt (a0 : Nat) (a1 : Nat) (h : AH) : Option (AH) := bnd (f_X7_number a1 0 9999 h) (fun q1 => lt (fun  (h8 : AH) => bnd (f_X7_number a1 1 999 h8) (fun q9 => if (hfi q9.2 a1 1) = 0 then if (hfi q9.2 a0 0) ≤ q1.1 then some q9.2 else gd (ib q1.1 40 = true) (lt (sia q9.2 (a0 + 6) (cl q1.1) q9.1) (fun h13 => some h13)) else some q9.2)) (fun j3 => if q1.1 < (hfi q1.2 a0 0) then gd (ib q1.1 40 = true) (if (hia q1.2 (a0 + 6) (cl q1.1)) ≤ 0 then j3  q1.2 else bnd (f_X7_blame a1 5 (hfi q1.2 a1 4) q1.2) (fun q6 => j3  q6)) else bnd (f_X7_blame a1 3 (hfi q1.2 a1 4) q1.2) (fun q7 => j3  q7)))
set_option maxRecDepth 20000 in
theorem c_X0_writeSpilt (G : GG) (a0 : Nat) (s0 : SH a0 = (0, 0)) (a1 : Nat) (s1 : SH a1 = (7, 0)) (h : AH) (r : AH) (hL : f_X0_writeSpilt a0 a1 h = some r) : SpV G 4 mX0_writeSpilt [.ref (ad G a0), .ref (ad G a1)] h r := by
  refine sp_v pf_X0_writeSpilt (Nat.le_of_ble_eq_true rfl) ?_
  show J G mX0_writeSpilt 4 0 0 (KMv G r) 0 [(0, .ref (ad G a0)), (1, .ref (ad G a1))] [] h
  obtain ⟨K, hK⟩ : ∃ K, K = KMv G r := ⟨_, rfl⟩
  rw [← hK]
  unfold f_X0_writeSpilt at hL
  refine j_aload_n 1 dX0_writeSpilt_0 rfl ?_
  refine j_iconst 0 dX0_writeSpilt_1 (by decide) ?_
  refine j_sipush 9999 dX0_writeSpilt_2 (by decide) ?_
  obtain ⟨q1, hq1, hL⟩ := bnd_ex hL
  refine j_callVi (c_X7_number G a1 s1 0 9999 h _ hq1) cv_RX0_101 rfl s1 (by decide) rfl (by decide) rfl rfl (Nat.le_of_ble_eq_true rfl) dX0_writeSpilt_5 (by decide) ?_
  refine j_istore_n (lv' := [(2, .int q1.1), (0, .ref (ad G a0)), (1, .ref (ad G a1))]) dX0_writeSpilt_8 (by decide) rfl ?_
  refine j_iload_n 0 dX0_writeSpilt_9 rfl ?_
  refine j_aload_n 1 dX0_writeSpilt_10 rfl ?_
  refine jg_RX0_71 rfl s0 dX0_writeSpilt_11 ?_
  obtain ⟨j3, ej3, hL⟩ := lt_ex hL
  have kj3 : ∀  (h8 : AH), j3  h8 = some r → J G mX0_writeSpilt 4 0 0 K 47 [(0, .ref (ad G a0)), (1, .ref (ad G a1)), (2, .int q1.1)] [] h8 := by
    intro  h8 hL
    rw [ej3] at hL
    replace hL : (bnd (f_X7_number a1 1 999 h8) (fun q9 => if (hfi q9.2 a1 1) = 0 then if (hfi q9.2 a0 0) ≤ q1.1 then some q9.2 else gd (ib q1.1 40 = true) (lt (sia q9.2 (a0 + 6) (cl q1.1) q9.1) (fun h13 => some h13)) else some q9.2)) = some r := hL
    refine j_aload_n 1 dX0_writeSpilt_47 rfl ?_
    refine j_iconst 1 dX0_writeSpilt_48 (by decide) ?_
    refine j_sipush 999 dX0_writeSpilt_49 (by decide) ?_
    obtain ⟨q9, hq9, hL⟩ := bnd_ex hL
    refine j_callVi (c_X7_number G a1 s1 1 999 h8 _ hq9) cv_RX0_101 rfl s1 (by decide) rfl (by decide) rfl rfl (Nat.le_of_ble_eq_true rfl) dX0_writeSpilt_52 (by decide) ?_
    refine j_istore_n (lv' := [(3, .int q9.1), (0, .ref (ad G a0)), (1, .ref (ad G a1)), (2, .int q1.1)]) dX0_writeSpilt_55 (by decide) rfl ?_
    refine j_aload_n 2 dX0_writeSpilt_56 rfl ?_
    refine jg_RX0_129 rfl s1 dX0_writeSpilt_57 ?_
    refine j_if_ne 78 dX0_writeSpilt_60 (by decide) (fun z10 => ?_) (fun z10 => ?_)
    · replace hL := (if_neg z10).symm.trans hL
      cases hL
      exact j_retv dX0_writeSpilt_78 rfl hK
    · replace hL := (if_pos z10).symm.trans hL
      refine j_iload_n 3 dX0_writeSpilt_63 rfl ?_
      refine j_aload_n 1 dX0_writeSpilt_64 rfl ?_
      refine jg_RX0_71 rfl s0 dX0_writeSpilt_65 ?_
      refine j_icmp_ge 78 dX0_writeSpilt_68 (by decide) (fun z11 => ?_) (fun z11 => ?_)
      · replace hL := (if_pos z11).symm.trans hL
        cases hL
        exact j_retv dX0_writeSpilt_78 rfl hK
      · replace hL := (if_neg z11).symm.trans hL
        refine j_aload_n 1 dX0_writeSpilt_71 rfl ?_
        refine jg_RX0_27 rfl s0 dX0_writeSpilt_72 ?_
        refine j_iload_n 3 dX0_writeSpilt_75 rfl ?_
        refine j_iload_n 0 dX0_writeSpilt_76 rfl ?_
        obtain ⟨g12, hL⟩ := gd_ex hL
        refine j_iast (shf_0_11 s0) (ib_in g12) dX0_writeSpilt_77 ?_
        obtain ⟨h13, eh13, hL⟩ := lt_ex hL
        refine j_heap eh13 ?_
        cases hL
        exact j_retv dX0_writeSpilt_78 rfl hK
  refine j_icmp_lt 29 dX0_writeSpilt_14 (by decide) (fun z2 => ?_) (fun z2 => ?_)
  · replace hL := (if_pos z2).symm.trans hL
    refine j_aload_n 1 dX0_writeSpilt_29 rfl ?_
    refine jg_RX0_27 rfl s0 dX0_writeSpilt_30 ?_
    refine j_iload_n 0 dX0_writeSpilt_33 rfl ?_
    obtain ⟨g4, hL⟩ := gd_ex hL
    refine j_iald (shf_0_11 s0) (ib_in g4) dX0_writeSpilt_34 ?_
    refine j_if_le 47 dX0_writeSpilt_35 (by decide) (fun z5 => ?_) (fun z5 => ?_)
    · replace hL := (if_pos z5).symm.trans hL
      refine j_sub [1, 2, 0] rfl ?_
      exact kj3  q1.2 hL
    · replace hL := (if_neg z5).symm.trans hL
      refine j_aload_n 2 dX0_writeSpilt_38 rfl ?_
      refine j_iconst 5 dX0_writeSpilt_39 (by decide) ?_
      refine j_aload_n 2 dX0_writeSpilt_40 rfl ?_
      refine jg_RX0_122 rfl s1 dX0_writeSpilt_41 ?_
      obtain ⟨q6, hq6, hL⟩ := bnd_ex hL
      refine j_callVv (c_X7_blame G a1 s1 5 (hfi q1.2 a1 4) q1.2 _ hq6) cv_RX0_118 rfl s1 (by decide) rfl (by decide) rfl rfl (Nat.le_of_ble_eq_true rfl) dX0_writeSpilt_44 (by decide) ?_
      refine j_sub [1, 2, 0] rfl ?_
      exact kj3  q6 hL
  · replace hL := (if_neg z2).symm.trans hL
    refine j_aload_n 2 dX0_writeSpilt_17 rfl ?_
    refine j_iconst 3 dX0_writeSpilt_18 (by decide) ?_
    refine j_aload_n 2 dX0_writeSpilt_19 rfl ?_
    refine jg_RX0_122 rfl s1 dX0_writeSpilt_20 ?_
    obtain ⟨q7, hq7, hL⟩ := bnd_ex hL
    refine j_callVv (c_X7_blame G a1 s1 3 (hfi q1.2 a1 4) q1.2 _ hq7) cv_RX0_118 rfl s1 (by decide) rfl (by decide) rfl rfl (Nat.le_of_ble_eq_true rfl) dX0_writeSpilt_23 (by decide) ?_
    refine j_goto 47 dX0_writeSpilt_26 (by decide) ?_
    refine j_sub [1, 2, 0] rfl ?_
    exact kj3  q7 hL

def f_X0_writeWashed (a0 : Nat) (a1 : Nat) (h : AH) : Option (AH) := lt (fun  (h4 : AH) => bnd (f_X7_number a1 0 500 h4) (fun q5 => lt (fun  (h11 : AH) => bnd (f_X7_number a1 1 99 h11) (fun q12 => if (hfi q12.2 a1 1) = 0 then if 4 ≤ (hfi q12.2 a0 4) then some q12.2 else gd (ib (hfi q12.2 a0 4) 4 = true) (lt (sia q12.2 (a0 + 13) (cl (hfi q12.2 a0 4)) q5.1) (fun h16 => gd (ib (hfi h16 a0 4) 4 = true) (lt (sia h16 (a0 + 14) (cl (hfi h16 a0 4)) q12.1) (fun h18 => lt (sfi h18 a0 4 ((hfi h18 a0 4) + 1)) (fun h19 => some h19))))) else some q12.2)) (fun j7 => if (hfi q5.2 a0 4) ≤ 0 then j7  q5.2 else gd (ib ((hfi q5.2 a0 4) - 1) 4 = true) (if (hia q5.2 (a0 + 13) (cl ((hfi q5.2 a0 4) - 1))) < q5.1 then j7  q5.2 else bnd (f_X7_blame a1 4 (hfi q5.2 a1 4) q5.2) (fun q10 => j7  q10))))) (fun j2 => if (hfi h a0 4) < 4 then j2  h else bnd (f_X7_blame a1 2 (hfi h a1 4) h) (fun q3 => j2  q3))
set_option maxRecDepth 20000 in
theorem c_X0_writeWashed (G : GG) (a0 : Nat) (s0 : SH a0 = (0, 0)) (a1 : Nat) (s1 : SH a1 = (7, 0)) (h : AH) (r : AH) (hL : f_X0_writeWashed a0 a1 h = some r) : SpV G 4 mX0_writeWashed [.ref (ad G a0), .ref (ad G a1)] h r := by
  refine sp_v pf_X0_writeWashed (Nat.le_of_ble_eq_true rfl) ?_
  show J G mX0_writeWashed 4 0 0 (KMv G r) 0 [(0, .ref (ad G a0)), (1, .ref (ad G a1))] [] h
  obtain ⟨K, hK⟩ : ∃ K, K = KMv G r := ⟨_, rfl⟩
  rw [← hK]
  unfold f_X0_writeWashed at hL
  refine j_aload_n 0 dX0_writeWashed_0 rfl ?_
  refine jg_RX0_84 rfl s0 dX0_writeWashed_1 ?_
  refine j_iconst 4 dX0_writeWashed_4 (by decide) ?_
  obtain ⟨j2, ej2, hL⟩ := lt_ex hL
  have kj2 : ∀  (h4 : AH), j2  h4 = some r → J G mX0_writeWashed 4 0 0 K 17 [(0, .ref (ad G a0)), (1, .ref (ad G a1))] [] h4 := by
    intro  h4 hL
    rw [ej2] at hL
    replace hL : (bnd (f_X7_number a1 0 500 h4) (fun q5 => lt (fun  (h11 : AH) => bnd (f_X7_number a1 1 99 h11) (fun q12 => if (hfi q12.2 a1 1) = 0 then if 4 ≤ (hfi q12.2 a0 4) then some q12.2 else gd (ib (hfi q12.2 a0 4) 4 = true) (lt (sia q12.2 (a0 + 13) (cl (hfi q12.2 a0 4)) q5.1) (fun h16 => gd (ib (hfi h16 a0 4) 4 = true) (lt (sia h16 (a0 + 14) (cl (hfi h16 a0 4)) q12.1) (fun h18 => lt (sfi h18 a0 4 ((hfi h18 a0 4) + 1)) (fun h19 => some h19))))) else some q12.2)) (fun j7 => if (hfi q5.2 a0 4) ≤ 0 then j7  q5.2 else gd (ib ((hfi q5.2 a0 4) - 1) 4 = true) (if (hia q5.2 (a0 + 13) (cl ((hfi q5.2 a0 4) - 1))) < q5.1 then j7  q5.2 else bnd (f_X7_blame a1 4 (hfi q5.2 a1 4) q5.2) (fun q10 => j7  q10))))) = some r := hL
    refine j_aload_n 1 dX0_writeWashed_17 rfl ?_
    refine j_iconst 0 dX0_writeWashed_18 (by decide) ?_
    refine j_sipush 500 dX0_writeWashed_19 (by decide) ?_
    obtain ⟨q5, hq5, hL⟩ := bnd_ex hL
    refine j_callVi (c_X7_number G a1 s1 0 500 h4 _ hq5) cv_RX0_101 rfl s1 (by decide) rfl (by decide) rfl rfl (Nat.le_of_ble_eq_true rfl) dX0_writeWashed_22 (by decide) ?_
    refine j_istore_n (lv' := [(2, .int q5.1), (0, .ref (ad G a0)), (1, .ref (ad G a1))]) dX0_writeWashed_25 (by decide) rfl ?_
    refine j_aload_n 1 dX0_writeWashed_26 rfl ?_
    refine jg_RX0_84 rfl s0 dX0_writeWashed_27 ?_
    obtain ⟨j7, ej7, hL⟩ := lt_ex hL
    have kj7 : ∀  (h11 : AH), j7  h11 = some r → J G mX0_writeWashed 4 0 0 K 57 [(0, .ref (ad G a0)), (1, .ref (ad G a1)), (2, .int q5.1)] [] h11 := by
      intro  h11 hL
      rw [ej7] at hL
      replace hL : (bnd (f_X7_number a1 1 99 h11) (fun q12 => if (hfi q12.2 a1 1) = 0 then if 4 ≤ (hfi q12.2 a0 4) then some q12.2 else gd (ib (hfi q12.2 a0 4) 4 = true) (lt (sia q12.2 (a0 + 13) (cl (hfi q12.2 a0 4)) q5.1) (fun h16 => gd (ib (hfi h16 a0 4) 4 = true) (lt (sia h16 (a0 + 14) (cl (hfi h16 a0 4)) q12.1) (fun h18 => lt (sfi h18 a0 4 ((hfi h18 a0 4) + 1)) (fun h19 => some h19))))) else some q12.2)) = some r := hL
      refine j_aload_n 1 dX0_writeWashed_57 rfl ?_
      refine j_iconst 1 dX0_writeWashed_58 (by decide) ?_
      refine j_bipush 99 dX0_writeWashed_59 (by decide) ?_
      obtain ⟨q12, hq12, hL⟩ := bnd_ex hL
      refine j_callVi (c_X7_number G a1 s1 1 99 h11 _ hq12) cv_RX0_101 rfl s1 (by decide) rfl (by decide) rfl rfl (Nat.le_of_ble_eq_true rfl) dX0_writeWashed_61 (by decide) ?_
      refine j_istore_n (lv' := [(3, .int q12.1), (0, .ref (ad G a0)), (1, .ref (ad G a1)), (2, .int q5.1)]) dX0_writeWashed_64 (by decide) rfl ?_
      refine j_aload_n 2 dX0_writeWashed_65 rfl ?_
      refine jg_RX0_129 rfl s1 dX0_writeWashed_66 ?_
      refine j_if_ne 110 dX0_writeWashed_69 (by decide) (fun z13 => ?_) (fun z13 => ?_)
      · replace hL := (if_neg z13).symm.trans hL
        cases hL
        exact j_retv dX0_writeWashed_110 rfl hK
      · replace hL := (if_pos z13).symm.trans hL
        refine j_aload_n 1 dX0_writeWashed_72 rfl ?_
        refine jg_RX0_84 rfl s0 dX0_writeWashed_73 ?_
        refine j_iconst 4 dX0_writeWashed_76 (by decide) ?_
        refine j_icmp_ge 110 dX0_writeWashed_77 (by decide) (fun z14 => ?_) (fun z14 => ?_)
        · replace hL := (if_pos z14).symm.trans hL
          cases hL
          exact j_retv dX0_writeWashed_110 rfl hK
        · replace hL := (if_neg z14).symm.trans hL
          refine j_aload_n 1 dX0_writeWashed_80 rfl ?_
          refine jg_RX0_40 rfl s0 dX0_writeWashed_81 ?_
          refine j_aload_n 1 dX0_writeWashed_84 rfl ?_
          refine jg_RX0_84 rfl s0 dX0_writeWashed_85 ?_
          refine j_iload_n 3 dX0_writeWashed_88 rfl ?_
          obtain ⟨g15, hL⟩ := gd_ex hL
          refine j_iast (shf_0_14 s0) (ib_in g15) dX0_writeWashed_89 ?_
          obtain ⟨h16, eh16, hL⟩ := lt_ex hL
          refine j_heap eh16 ?_
          refine j_aload_n 1 dX0_writeWashed_90 rfl ?_
          refine jg_RX0_43 rfl s0 dX0_writeWashed_91 ?_
          refine j_aload_n 1 dX0_writeWashed_94 rfl ?_
          refine jg_RX0_84 rfl s0 dX0_writeWashed_95 ?_
          refine j_iload_n 0 dX0_writeWashed_98 rfl ?_
          obtain ⟨g17, hL⟩ := gd_ex hL
          refine j_iast (shf_0_15 s0) (ib_in g17) dX0_writeWashed_99 ?_
          obtain ⟨h18, eh18, hL⟩ := lt_ex hL
          refine j_heap eh18 ?_
          refine j_aload_n 1 dX0_writeWashed_100 rfl ?_
          refine j_dup dX0_writeWashed_101 rfl ?_
          refine jg_RX0_84 rfl s0 dX0_writeWashed_102 ?_
          refine j_iconst 1 dX0_writeWashed_105 (by decide) ?_
          refine j_iadd dX0_writeWashed_106 ?_
          refine jp_RX0_84 rfl s0 dX0_writeWashed_107 ?_
          obtain ⟨h19, eh19, hL⟩ := lt_ex hL
          refine j_heap eh19 ?_
          cases hL
          exact j_retv dX0_writeWashed_110 rfl hK
    refine j_if_le 57 dX0_writeWashed_30 (by decide) (fun z6 => ?_) (fun z6 => ?_)
    · replace hL := (if_pos z6).symm.trans hL
      refine j_sub [1, 2, 0] rfl ?_
      exact kj7  q5.2 hL
    · replace hL := (if_neg z6).symm.trans hL
      refine j_iload_n 0 dX0_writeWashed_33 rfl ?_
      refine j_aload_n 1 dX0_writeWashed_34 rfl ?_
      refine jg_RX0_40 rfl s0 dX0_writeWashed_35 ?_
      refine j_aload_n 1 dX0_writeWashed_38 rfl ?_
      refine jg_RX0_84 rfl s0 dX0_writeWashed_39 ?_
      refine j_iconst 1 dX0_writeWashed_42 (by decide) ?_
      refine j_isub dX0_writeWashed_43 ?_
      obtain ⟨g8, hL⟩ := gd_ex hL
      refine j_iald (shf_0_14 s0) (ib_in g8) dX0_writeWashed_44 ?_
      refine j_icmp_gt 57 dX0_writeWashed_45 (by decide) (fun z9 => ?_) (fun z9 => ?_)
      · replace hL := (if_pos z9).symm.trans hL
        refine j_sub [1, 2, 0] rfl ?_
        exact kj7  q5.2 hL
      · replace hL := (if_neg z9).symm.trans hL
        refine j_aload_n 2 dX0_writeWashed_48 rfl ?_
        refine j_iconst 4 dX0_writeWashed_49 (by decide) ?_
        refine j_aload_n 2 dX0_writeWashed_50 rfl ?_
        refine jg_RX0_122 rfl s1 dX0_writeWashed_51 ?_
        obtain ⟨q10, hq10, hL⟩ := bnd_ex hL
        refine j_callVv (c_X7_blame G a1 s1 4 (hfi q5.2 a1 4) q5.2 _ hq10) cv_RX0_118 rfl s1 (by decide) rfl (by decide) rfl rfl (Nat.le_of_ble_eq_true rfl) dX0_writeWashed_54 (by decide) ?_
        refine j_sub [1, 2, 0] rfl ?_
        exact kj7  q10 hL
  refine j_icmp_lt 17 dX0_writeWashed_5 (by decide) (fun z1 => ?_) (fun z1 => ?_)
  · replace hL := (if_pos z1).symm.trans hL
    refine j_sub [0, 1] rfl ?_
    exact kj2  h hL
  · replace hL := (if_neg z1).symm.trans hL
    refine j_aload_n 1 dX0_writeWashed_8 rfl ?_
    refine j_iconst 2 dX0_writeWashed_9 (by decide) ?_
    refine j_aload_n 1 dX0_writeWashed_10 rfl ?_
    refine jg_RX0_122 rfl s1 dX0_writeWashed_11 ?_
    obtain ⟨q3, hq3, hL⟩ := bnd_ex hL
    refine j_callVv (c_X7_blame G a1 s1 2 (hfi h a1 4) h _ hq3) cv_RX0_118 rfl s1 (by decide) rfl (by decide) rfl rfl (Nat.le_of_ble_eq_true rfl) dX0_writeWashed_14 (by decide) ?_
    refine j_sub [0, 1] rfl ?_
    exact kj2  q3 hL

def f_X0_writeLine (a0 : Nat) (a1 : Nat) (h : AH) : Option (AH) := bnd (f_X7_takes a1 2 h) (fun q1 => if q1.1 = true then bnd (f_X0_writeText a0 a1 q1.2) (fun q14 => some q14) else bnd (f_X7_takes a1 5 q1.2) (fun q3 => if q3.1 = true then bnd (f_X7_number a1 0 100 q3.2) (fun q12 => lt (sfi q12.2 a0 3 q12.1) (fun h13 => some h13)) else bnd (f_X7_takes a1 6 q3.2) (fun q5 => if q5.1 = true then bnd (f_X0_writeSpilt a0 a1 q5.2) (fun q11 => some q11) else bnd (f_X7_takes a1 7 q5.2) (fun q7 => if q7.1 = true then bnd (f_X0_writeWashed a0 a1 q7.2) (fun q10 => some q10) else bnd (f_X7_blame a1 1 (hfi q7.2 a1 3) q7.2) (fun q9 => some q9)))))
set_option maxRecDepth 20000 in
theorem c_X0_writeLine (G : GG) (a0 : Nat) (s0 : SH a0 = (0, 0)) (a1 : Nat) (s1 : SH a1 = (7, 0)) (h : AH) (r : AH) (hL : f_X0_writeLine a0 a1 h = some r) : SpV G 8 mX0_writeLine [.ref (ad G a0), .ref (ad G a1)] h r := by
  refine sp_v pf_X0_writeLine (Nat.le_of_ble_eq_true rfl) ?_
  show J G mX0_writeLine 8 0 0 (KMv G r) 0 [(0, .ref (ad G a0)), (1, .ref (ad G a1))] [] h
  obtain ⟨K, hK⟩ : ∃ K, K = KMv G r := ⟨_, rfl⟩
  rw [← hK]
  unfold f_X0_writeLine at hL
  refine j_aload_n 1 dX0_writeLine_0 rfl ?_
  refine j_ldcS rfl (List.mem_of_getElem? (i := 2) rfl) dX0_writeLine_1 ?_
  obtain ⟨q1, hq1, hL⟩ := bnd_ex hL
  refine j_callVi (c_X7_takes G a1 s1 2 h _ hq1) cv_RX0_93 rfl s1 (by decide) rfl (by decide) rfl rfl (Nat.le_of_ble_eq_true rfl) dX0_writeLine_3 (by decide) ?_
  refine j_ifz_eq 17 dX0_writeLine_6 (by decide) (fun z2 => ?_) (fun z2 => ?_)
  · replace hL := (if_neg z2).symm.trans hL
    refine j_aload_n 1 dX0_writeLine_17 rfl ?_
    refine j_ldcS rfl (List.mem_of_getElem? (i := 5) rfl) dX0_writeLine_18 ?_
    obtain ⟨q3, hq3, hL⟩ := bnd_ex hL
    refine j_callVi (c_X7_takes G a1 s1 5 q1.2 _ hq3) cv_RX0_93 rfl s1 (by decide) rfl (by decide) rfl rfl (Nat.le_of_ble_eq_true rfl) dX0_writeLine_20 (by decide) ?_
    refine j_ifz_eq 40 dX0_writeLine_23 (by decide) (fun z4 => ?_) (fun z4 => ?_)
    · replace hL := (if_neg z4).symm.trans hL
      refine j_aload_n 1 dX0_writeLine_40 rfl ?_
      refine j_ldcS rfl (List.mem_of_getElem? (i := 6) rfl) dX0_writeLine_41 ?_
      obtain ⟨q5, hq5, hL⟩ := bnd_ex hL
      refine j_callVi (c_X7_takes G a1 s1 6 q3.2 _ hq5) cv_RX0_93 rfl s1 (by decide) rfl (by decide) rfl rfl (Nat.le_of_ble_eq_true rfl) dX0_writeLine_43 (by decide) ?_
      refine j_ifz_eq 57 dX0_writeLine_46 (by decide) (fun z6 => ?_) (fun z6 => ?_)
      · replace hL := (if_neg z6).symm.trans hL
        refine j_aload_n 1 dX0_writeLine_57 rfl ?_
        refine j_ldcS rfl (List.mem_of_getElem? (i := 7) rfl) dX0_writeLine_58 ?_
        obtain ⟨q7, hq7, hL⟩ := bnd_ex hL
        refine j_callVi (c_X7_takes G a1 s1 7 q5.2 _ hq7) cv_RX0_93 rfl s1 (by decide) rfl (by decide) rfl rfl (Nat.le_of_ble_eq_true rfl) dX0_writeLine_60 (by decide) ?_
        refine j_ifz_eq 74 dX0_writeLine_63 (by decide) (fun z8 => ?_) (fun z8 => ?_)
        · replace hL := (if_neg z8).symm.trans hL
          refine j_aload_n 1 dX0_writeLine_74 rfl ?_
          refine j_iconst 1 dX0_writeLine_75 (by decide) ?_
          refine j_aload_n 1 dX0_writeLine_76 rfl ?_
          refine jg_RX0_115 rfl s1 dX0_writeLine_77 ?_
          obtain ⟨q9, hq9, hL⟩ := bnd_ex hL
          refine j_callVv (c_X7_blame G a1 s1 1 (hfi q7.2 a1 3) q7.2 _ hq9) cv_RX0_118 rfl s1 (by decide) rfl (by decide) rfl rfl (Nat.le_of_ble_eq_true rfl) dX0_writeLine_80 (by decide) ?_
          cases hL
          exact j_retv dX0_writeLine_83 rfl hK
        · replace hL := (if_pos z8).symm.trans hL
          refine j_aload_n 0 dX0_writeLine_66 rfl ?_
          refine j_aload_n 1 dX0_writeLine_67 rfl ?_
          obtain ⟨q10, hq10, hL⟩ := bnd_ex hL
          refine j_callVv (c_X0_writeWashed G a0 s0 a1 s1 q7.2 _ hq10) cv_RX0_112 rfl s0 (by decide) rfl (by decide) rfl rfl (Nat.le_of_ble_eq_true rfl) dX0_writeLine_68 (by decide) ?_
          refine j_goto 83 dX0_writeLine_71 (by decide) ?_
          cases hL
          exact j_retv dX0_writeLine_83 rfl hK
      · replace hL := (if_pos z6).symm.trans hL
        refine j_aload_n 0 dX0_writeLine_49 rfl ?_
        refine j_aload_n 1 dX0_writeLine_50 rfl ?_
        obtain ⟨q11, hq11, hL⟩ := bnd_ex hL
        refine j_callVv (c_X0_writeSpilt G a0 s0 a1 s1 q5.2 _ hq11) cv_RX0_107 rfl s0 (by decide) rfl (by decide) rfl rfl (Nat.le_of_ble_eq_true rfl) dX0_writeLine_51 (by decide) ?_
        refine j_goto 83 dX0_writeLine_54 (by decide) ?_
        cases hL
        exact j_retv dX0_writeLine_83 rfl hK
    · replace hL := (if_pos z4).symm.trans hL
      refine j_aload_n 0 dX0_writeLine_26 rfl ?_
      refine j_aload_n 1 dX0_writeLine_27 rfl ?_
      refine j_iconst 0 dX0_writeLine_28 (by decide) ?_
      refine j_bipush 100 dX0_writeLine_29 (by decide) ?_
      obtain ⟨q12, hq12, hL⟩ := bnd_ex hL
      refine j_callVi (c_X7_number G a1 s1 0 100 q3.2 _ hq12) cv_RX0_101 rfl s1 (by decide) rfl (by decide) rfl rfl (Nat.le_of_ble_eq_true rfl) dX0_writeLine_31 (by decide) ?_
      refine jp_RX0_81 rfl s0 dX0_writeLine_34 ?_
      obtain ⟨h13, eh13, hL⟩ := lt_ex hL
      refine j_heap eh13 ?_
      refine j_goto 83 dX0_writeLine_37 (by decide) ?_
      cases hL
      exact j_retv dX0_writeLine_83 rfl hK
  · replace hL := (if_pos z2).symm.trans hL
    refine j_aload_n 0 dX0_writeLine_9 rfl ?_
    refine j_aload_n 1 dX0_writeLine_10 rfl ?_
    obtain ⟨q14, hq14, hL⟩ := bnd_ex hL
    refine j_callVv (c_X0_writeText G a0 s0 a1 s1 q1.2 _ hq14) cv_RX0_97 rfl s0 (by decide) rfl (by decide) rfl rfl (Nat.le_of_ble_eq_true rfl) dX0_writeLine_11 (by decide) ?_
    refine j_goto 83 dX0_writeLine_14 (by decide) ?_
    cases hL
    exact j_retv dX0_writeLine_83 rfl hK

def f_X7_endLine (a0 : Nat) (h : AH) : Option (AH) := if (hfi h a0 1) = 0 then if (hfi h a0 8) = 3 then bnd (f_X7_step a0 h) (fun q4 => some q4) else bnd (f_X7_blame a0 1 (hfi h a0 3) h) (fun q3 => some q3) else some h
set_option maxRecDepth 20000 in
theorem c_X7_endLine (G : GG) (a0 : Nat) (s0 : SH a0 = (7, 0)) (h : AH) (r : AH) (hL : f_X7_endLine a0 h = some r) : SpV G 3 mX7_endLine [.ref (ad G a0)] h r := by
  refine sp_v pf_X7_endLine (Nat.le_of_ble_eq_true rfl) ?_
  show J G mX7_endLine 3 0 0 (KMv G r) 0 [(0, .ref (ad G a0))] [] h
  obtain ⟨K, hK⟩ : ∃ K, K = KMv G r := ⟨_, rfl⟩
  rw [← hK]
  unfold f_X7_endLine at hL
  refine j_aload_n 0 dX7_endLine_0 rfl ?_
  refine jg_RX7_25 rfl s0 dX7_endLine_1 ?_
  refine j_if_eq 8 dX7_endLine_4 (by decide) (fun z1 => ?_) (fun z1 => ?_)
  · replace hL := (if_pos z1).symm.trans hL
    refine j_aload_n 0 dX7_endLine_8 rfl ?_
    refine jg_RX7_37 rfl s0 dX7_endLine_9 ?_
    refine j_iconst 3 dX7_endLine_12 (by decide) ?_
    refine j_icmp_ne 23 dX7_endLine_13 (by decide) (fun z2 => ?_) (fun z2 => ?_)
    · replace hL := (if_neg z2).symm.trans hL
      refine j_aload_n 0 dX7_endLine_23 rfl ?_
      refine j_iconst 1 dX7_endLine_24 (by decide) ?_
      refine j_aload_n 0 dX7_endLine_25 rfl ?_
      refine jg_RX7_44 rfl s0 dX7_endLine_26 ?_
      obtain ⟨q3, hq3, hL⟩ := bnd_ex hL
      refine j_callVv (c_X7_blame G a0 s0 1 (hfi h a0 3) h _ hq3) cv_RX7_47 rfl s0 (by decide) rfl (by decide) rfl rfl (Nat.le_of_ble_eq_true rfl) dX7_endLine_29 (by decide) ?_
      cases hL
      exact j_retv dX7_endLine_32 rfl hK
    · replace hL := (if_pos z2).symm.trans hL
      refine j_aload_n 0 dX7_endLine_16 rfl ?_
      obtain ⟨q4, hq4, hL⟩ := bnd_ex hL
      refine j_callVv (c_X7_step G a0 s0 h _ hq4) cv_RX7_34 rfl s0 (by decide) rfl (by decide) rfl rfl (Nat.le_of_ble_eq_true rfl) dX7_endLine_17 (by decide) ?_
      refine j_goto 32 dX7_endLine_20 (by decide) ?_
      cases hL
      exact j_retv dX7_endLine_32 rfl hK
  · replace hL := (if_neg z1).symm.trans hL
    cases hL
    exact j_retv dX7_endLine_7 rfl hK

def f_X0_write_l6 (a0 : Nat) (a1 : Nat) : Nat → Int32 → AH → Option (AH)
  | 0, _, _ => none
  | n + 1, v2, h => if 500 ≤ v2 then some h else if (f_X7_hasMore a1 h) = true then bnd (f_X0_writeLine a0 a1 h) (fun q4 => bnd (f_X7_endLine a1 q4) (fun q5 => f_X0_write_l6 a0 a1 n (v2 + 1) q5)) else some h
def f_X0_write (a0 : Nat) (a1 : Nat) (h : AH) : Option (AH) := bnd (f_X0_wipe a0 h) (fun q1 => bnd (f_X0_write_l6 a0 a1 FU 0 q1) (fun q6 => some q6))
set_option maxRecDepth 20000 in
theorem cl_X0_write_6 (G : GG) (K : KQ) (a0 : Nat) (a1 : Nat) (s0 : SH a0 = (0, 0)) (s1 : SH a1 = (7, 0)) : ∀ (n : Nat) (v2 : Int32) (h : AH) (r : AH), f_X0_write_l6 a0 a1 n v2 h = some r → J G mX0_write 9 0 0 K 35 [] [] r → J G mX0_write 9 0 0 K 6 [(0, .ref (ad G a0)), (1, .ref (ad G a1)), (2, .int v2)] [] h := by
  intro n
  induction n with
  | zero => intro v2 h r hL; cases hL
  | succ n ih =>
    intro v2 h r hL kE
    unfold f_X0_write_l6 at hL
    refine j_iload_n 2 dX0_write_6 rfl ?_
    refine j_sipush 500 dX0_write_7 (by decide) ?_
    refine j_icmp_ge 35 dX0_write_10 (by decide) (fun z2 => ?_) (fun z2 => ?_)
    · replace hL := (if_pos z2).symm.trans hL
      cases hL
      refine j_sub [] rfl ?_
      exact kE 
    · replace hL := (if_neg z2).symm.trans hL
      refine j_aload_n 1 dX0_write_13 rfl ?_
      refine j_callVi (c_X7_hasMore G a1 s1 h) cv_RX0_58 rfl s1 (by decide) rfl (by decide) rfl rfl (Nat.le_of_ble_eq_true rfl) dX0_write_14 (by decide) ?_
      refine j_ifz_eq 35 dX0_write_17 (by decide) (fun z3 => ?_) (fun z3 => ?_)
      · replace hL := (if_neg z3).symm.trans hL
        cases hL
        refine j_sub [] rfl ?_
        exact kE 
      · replace hL := (if_pos z3).symm.trans hL
        refine j_aload_n 0 dX0_write_20 rfl ?_
        refine j_aload_n 1 dX0_write_21 rfl ?_
        obtain ⟨q4, hq4, hL⟩ := bnd_ex hL
        refine j_callVv (c_X0_writeLine G a0 s0 a1 s1 h _ hq4) cv_RX0_64 rfl s0 (by decide) rfl (by decide) rfl rfl (Nat.le_of_ble_eq_true rfl) dX0_write_22 (by decide) ?_
        refine j_aload_n 1 dX0_write_25 rfl ?_
        obtain ⟨q5, hq5, hL⟩ := bnd_ex hL
        refine j_callVv (c_X7_endLine G a1 s1 q4 _ hq5) cv_RX0_68 rfl s1 (by decide) rfl (by decide) rfl rfl (Nat.le_of_ble_eq_true rfl) dX0_write_26 (by decide) ?_
        refine j_iinc (lv' := [(2, .int (v2 + 1)), (0, .ref (ad G a0)), (1, .ref (ad G a1))]) 2 dX0_write_29 rfl rfl (by decide) rfl ?_
        refine j_goto 6 dX0_write_32 (by decide) ?_
        refine j_sub [1, 2, 0] rfl ?_
        exact ih (v2 + 1) q5 r hL kE

set_option maxRecDepth 20000 in
theorem c_X0_write (G : GG) (a0 : Nat) (s0 : SH a0 = (0, 0)) (a1 : Nat) (s1 : SH a1 = (7, 0)) (h : AH) (r : AH) (hL : f_X0_write a0 a1 h = some r) : SpV G 9 mX0_write [.ref (ad G a0), .ref (ad G a1)] h r := by
  refine sp_v pf_X0_write (Nat.le_of_ble_eq_true rfl) ?_
  show J G mX0_write 9 0 0 (KMv G r) 0 [(0, .ref (ad G a0)), (1, .ref (ad G a1))] [] h
  obtain ⟨K, hK⟩ : ∃ K, K = KMv G r := ⟨_, rfl⟩
  rw [← hK]
  unfold f_X0_write at hL
  refine j_aload_n 0 dX0_write_0 rfl ?_
  obtain ⟨q1, hq1, hL⟩ := bnd_ex hL
  refine j_callVv (c_X0_wipe G a0 s0 h _ hq1) cv_RX0_55 rfl s0 (by decide) rfl (by decide) rfl rfl (Nat.le_of_ble_eq_true rfl) dX0_write_1 (by decide) ?_
  refine j_iconst 0 dX0_write_4 (by decide) ?_
  refine j_istore_n (lv' := [(2, .int 0), (0, .ref (ad G a0)), (1, .ref (ad G a1))]) dX0_write_5 (by decide) rfl ?_
  obtain ⟨q6, hq6, hL⟩ := bnd_ex hL
  refine j_sub [1, 2, 0] rfl ?_
  refine cl_X0_write_6 G K a0 a1 s0 s1 FU 0 q1 q6 hq6 ?_
  cases hL
  exact j_retv dX0_write_35 rfl hK

def f_X11_written  (h : AH) : Option (Int32 × AH) := lt (sfi h 1 0 0) (fun h1 => if (hfi h1 1 1) = 0 then some (hfi h1 1 1, h1) else gd (ib 0 4 = true) (gd (ib 0 4 = true) (lt (sia h1 31 (cl 0) ((hia h1 31 (cl 0)) + 1)) (fun h5 => some (hfi h5 1 1, h5)))))
set_option maxRecDepth 20000 in
theorem c_X11_written (G : GG)  (h : AH) (r : Int32 × AH) (hL : f_X11_written h = some r) : SpI G 1 mX11_written [.ref (ad G 0)] h r.1 r.2 := by
  refine sp_i pf_X11_written (Nat.le_of_ble_eq_true rfl) ?_
  show J G mX11_written 1 0 0 (KMi G r.1 r.2) 0 [(0, .ref (ad G 0))] [] h
  obtain ⟨K, hK⟩ : ∃ K, K = KMi G r.1 r.2 := ⟨_, rfl⟩
  rw [← hK]
  unfold f_X11_written at hL
  refine j_aload_n 0 dX11_written_0 rfl ?_
  refine jg_RX11_10 rfl sh_0 dX11_written_1 ?_
  refine j_iconst 0 dX11_written_4 (by decide) ?_
  refine jp_RX11_110 rfl (shf_11_0 sh_0) dX11_written_5 ?_
  obtain ⟨h1, eh1, hL⟩ := lt_ex hL
  refine j_heap eh1 ?_
  refine j_aload_n 0 dX11_written_8 rfl ?_
  refine jg_RX11_10 rfl sh_0 dX11_written_9 ?_
  refine jg_RX11_132 rfl (shf_11_0 sh_0) dX11_written_12 ?_
  refine j_if_eq 28 dX11_written_15 (by decide) (fun z2 => ?_) (fun z2 => ?_)
  · replace hL := (if_pos z2).symm.trans hL
    refine j_aload_n 0 dX11_written_28 rfl ?_
    refine jg_RX11_10 rfl sh_0 dX11_written_29 ?_
    refine jg_RX11_132 rfl (shf_11_0 sh_0) dX11_written_32 ?_
    cases hL
    exact j_reti dX11_written_35 rfl hK
  · replace hL := (if_neg z2).symm.trans hL
    refine j_aload_n 0 dX11_written_18 rfl ?_
    refine jg_RX11_55 rfl sh_0 dX11_written_19 ?_
    refine j_iconst 0 dX11_written_22 (by decide) ?_
    refine j_dup2 dX11_written_23 rfl rfl ?_
    obtain ⟨g3, hL⟩ := gd_ex hL
    refine j_iald (shf_11_8 sh_0) (ib_in g3) dX11_written_24 ?_
    refine j_iconst 1 dX11_written_25 (by decide) ?_
    refine j_iadd dX11_written_26 ?_
    obtain ⟨g4, hL⟩ := gd_ex hL
    refine j_iast (shf_11_8 sh_0) (ib_in g4) dX11_written_27 ?_
    obtain ⟨h5, eh5, hL⟩ := lt_ex hL
    refine j_heap eh5 ?_
    refine j_aload_n 0 dX11_written_28 rfl ?_
    refine jg_RX11_10 rfl sh_0 dX11_written_29 ?_
    refine jg_RX11_132 rfl (shf_11_0 sh_0) dX11_written_32 ?_
    cases hL
    exact j_reti dX11_written_35 rfl hK

def f_X5_once (a0 : Nat) (a1 : Nat) (v2 : Int32) (h : AH) : Option (AH) := if ((hfi h a0 3) &&& v2) = 0 then lt (sfi h a0 3 ((hfi h a0 3) ||| v2)) (fun h2 => some h2) else bnd (f_X7_blame a1 5 (hfi h a1 4) h) (fun q3 => lt (sfi q3 a0 3 ((hfi q3 a0 3) ||| v2)) (fun h4 => some h4))
set_option maxRecDepth 20000 in
theorem c_X5_once (G : GG) (a0 : Nat) (s0 : SH a0 = (5, 0)) (a1 : Nat) (s1 : SH a1 = (7, 0)) (v2 : Int32) (h : AH) (r : AH) (hL : f_X5_once a0 a1 v2 h = some r) : SpV G 2 mX5_once [.ref (ad G a0), .ref (ad G a1), .int v2] h r := by
  refine sp_v pf_X5_once (Nat.le_of_ble_eq_true rfl) ?_
  show J G mX5_once 2 0 0 (KMv G r) 0 [(0, .ref (ad G a0)), (1, .ref (ad G a1)), (2, .int v2)] [] h
  obtain ⟨K, hK⟩ : ∃ K, K = KMv G r := ⟨_, rfl⟩
  rw [← hK]
  unfold f_X5_once at hL
  refine j_aload_n 0 dX5_once_0 rfl ?_
  refine jg_RX5_21 rfl s0 dX5_once_1 ?_
  refine j_iload_n 2 dX5_once_4 rfl ?_
  refine j_iand dX5_once_5 ?_
  refine j_if_eq 18 dX5_once_6 (by decide) (fun z1 => ?_) (fun z1 => ?_)
  · replace hL := (if_pos z1).symm.trans hL
    refine j_aload_n 0 dX5_once_18 rfl ?_
    refine j_dup dX5_once_19 rfl ?_
    refine jg_RX5_21 rfl s0 dX5_once_20 ?_
    refine j_iload_n 2 dX5_once_23 rfl ?_
    refine j_ior dX5_once_24 ?_
    refine jp_RX5_21 rfl s0 dX5_once_25 ?_
    obtain ⟨h2, eh2, hL⟩ := lt_ex hL
    refine j_heap eh2 ?_
    cases hL
    exact j_retv dX5_once_28 rfl hK
  · replace hL := (if_neg z1).symm.trans hL
    refine j_aload_n 1 dX5_once_9 rfl ?_
    refine j_iconst 5 dX5_once_10 (by decide) ?_
    refine j_aload_n 1 dX5_once_11 rfl ?_
    refine jg_RX5_60 rfl s1 dX5_once_12 ?_
    obtain ⟨q3, hq3, hL⟩ := bnd_ex hL
    refine j_callVv (c_X7_blame G a1 s1 5 (hfi h a1 4) h _ hq3) cv_RX5_56 rfl s1 (by decide) rfl (by decide) rfl rfl (Nat.le_of_ble_eq_true rfl) dX5_once_15 (by decide) ?_
    refine j_aload_n 0 dX5_once_18 rfl ?_
    refine j_dup dX5_once_19 rfl ?_
    refine jg_RX5_21 rfl s0 dX5_once_20 ?_
    refine j_iload_n 2 dX5_once_23 rfl ?_
    refine j_ior dX5_once_24 ?_
    refine jp_RX5_21 rfl s0 dX5_once_25 ?_
    obtain ⟨h4, eh4, hL⟩ := lt_ex hL
    refine j_heap eh4 ?_
    cases hL
    exact j_retv dX5_once_28 rfl hK

def f_X5_writeLine (a0 : Nat) (a1 : Nat) (h : AH) : Option (AH) := bnd (f_X7_takes a1 8 h) (fun q1 => if q1.1 = true then bnd (f_X5_once a0 a1 1 q1.2) (fun q14 => bnd (f_X7_number a1 1 50 q14) (fun q15 => lt (sfi q15.2 a0 0 q15.1) (fun h16 => some h16))) else bnd (f_X7_takes a1 9 q1.2) (fun q3 => if q3.1 = true then bnd (f_X5_once a0 a1 2 q3.2) (fun q11 => bnd (f_X7_number a1 0 90 q11) (fun q12 => lt (sfi q12.2 a0 1 q12.1) (fun h13 => some h13))) else bnd (f_X7_takes a1 10 q3.2) (fun q5 => if q5.1 = true then bnd (f_X5_once a0 a1 4 q5.2) (fun q8 => bnd (f_X7_number a1 0 50 q8) (fun q9 => lt (sfi q9.2 a0 2 q9.1) (fun h10 => some h10))) else bnd (f_X7_blame a1 1 (hfi q5.2 a1 3) q5.2) (fun q7 => some q7))))
set_option maxRecDepth 20000 in
theorem c_X5_writeLine (G : GG) (a0 : Nat) (s0 : SH a0 = (5, 0)) (a1 : Nat) (s1 : SH a1 = (7, 0)) (h : AH) (r : AH) (hL : f_X5_writeLine a0 a1 h = some r) : SpV G 7 mX5_writeLine [.ref (ad G a0), .ref (ad G a1)] h r := by
  refine sp_v pf_X5_writeLine (Nat.le_of_ble_eq_true rfl) ?_
  show J G mX5_writeLine 7 0 0 (KMv G r) 0 [(0, .ref (ad G a0)), (1, .ref (ad G a1))] [] h
  obtain ⟨K, hK⟩ : ∃ K, K = KMv G r := ⟨_, rfl⟩
  rw [← hK]
  unfold f_X5_writeLine at hL
  refine j_aload_n 1 dX5_writeLine_0 rfl ?_
  refine j_ldcS rfl (List.mem_of_getElem? (i := 8) rfl) dX5_writeLine_1 ?_
  obtain ⟨q1, hq1, hL⟩ := bnd_ex hL
  refine j_callVi (c_X7_takes G a1 s1 8 h _ hq1) cv_RX5_39 rfl s1 (by decide) rfl (by decide) rfl rfl (Nat.le_of_ble_eq_true rfl) dX5_writeLine_3 (by decide) ?_
  refine j_ifz_eq 29 dX5_writeLine_6 (by decide) (fun z2 => ?_) (fun z2 => ?_)
  · replace hL := (if_neg z2).symm.trans hL
    refine j_aload_n 1 dX5_writeLine_29 rfl ?_
    refine j_ldcS rfl (List.mem_of_getElem? (i := 9) rfl) dX5_writeLine_30 ?_
    obtain ⟨q3, hq3, hL⟩ := bnd_ex hL
    refine j_callVi (c_X7_takes G a1 s1 9 q1.2 _ hq3) cv_RX5_39 rfl s1 (by decide) rfl (by decide) rfl rfl (Nat.le_of_ble_eq_true rfl) dX5_writeLine_32 (by decide) ?_
    refine j_ifz_eq 58 dX5_writeLine_35 (by decide) (fun z4 => ?_) (fun z4 => ?_)
    · replace hL := (if_neg z4).symm.trans hL
      refine j_aload_n 1 dX5_writeLine_58 rfl ?_
      refine j_ldcS rfl (List.mem_of_getElem? (i := 10) rfl) dX5_writeLine_59 ?_
      obtain ⟨q5, hq5, hL⟩ := bnd_ex hL
      refine j_callVi (c_X7_takes G a1 s1 10 q3.2 _ hq5) cv_RX5_39 rfl s1 (by decide) rfl (by decide) rfl rfl (Nat.le_of_ble_eq_true rfl) dX5_writeLine_61 (by decide) ?_
      refine j_ifz_eq 87 dX5_writeLine_64 (by decide) (fun z6 => ?_) (fun z6 => ?_)
      · replace hL := (if_neg z6).symm.trans hL
        refine j_aload_n 1 dX5_writeLine_87 rfl ?_
        refine j_iconst 1 dX5_writeLine_88 (by decide) ?_
        refine j_aload_n 1 dX5_writeLine_89 rfl ?_
        refine jg_RX5_53 rfl s1 dX5_writeLine_90 ?_
        obtain ⟨q7, hq7, hL⟩ := bnd_ex hL
        refine j_callVv (c_X7_blame G a1 s1 1 (hfi q5.2 a1 3) q5.2 _ hq7) cv_RX5_56 rfl s1 (by decide) rfl (by decide) rfl rfl (Nat.le_of_ble_eq_true rfl) dX5_writeLine_93 (by decide) ?_
        cases hL
        exact j_retv dX5_writeLine_96 rfl hK
      · replace hL := (if_pos z6).symm.trans hL
        refine j_aload_n 0 dX5_writeLine_67 rfl ?_
        refine j_aload_n 1 dX5_writeLine_68 rfl ?_
        refine j_iconst 4 dX5_writeLine_69 (by decide) ?_
        obtain ⟨q8, hq8, hL⟩ := bnd_ex hL
        refine j_callVv (c_X5_once G a0 s0 a1 s1 4 q5.2 _ hq8) cv_RX5_43 rfl s0 (by decide) rfl (by decide) rfl rfl (Nat.le_of_ble_eq_true rfl) dX5_writeLine_70 (by decide) ?_
        refine j_aload_n 0 dX5_writeLine_73 rfl ?_
        refine j_aload_n 1 dX5_writeLine_74 rfl ?_
        refine j_iconst 0 dX5_writeLine_75 (by decide) ?_
        refine j_bipush 50 dX5_writeLine_76 (by decide) ?_
        obtain ⟨q9, hq9, hL⟩ := bnd_ex hL
        refine j_callVi (c_X7_number G a1 s1 0 50 q8 _ hq9) cv_RX5_47 rfl s1 (by decide) rfl (by decide) rfl rfl (Nat.le_of_ble_eq_true rfl) dX5_writeLine_78 (by decide) ?_
        refine jp_RX5_18 rfl s0 dX5_writeLine_81 ?_
        obtain ⟨h10, eh10, hL⟩ := lt_ex hL
        refine j_heap eh10 ?_
        refine j_goto 96 dX5_writeLine_84 (by decide) ?_
        cases hL
        exact j_retv dX5_writeLine_96 rfl hK
    · replace hL := (if_pos z4).symm.trans hL
      refine j_aload_n 0 dX5_writeLine_38 rfl ?_
      refine j_aload_n 1 dX5_writeLine_39 rfl ?_
      refine j_iconst 2 dX5_writeLine_40 (by decide) ?_
      obtain ⟨q11, hq11, hL⟩ := bnd_ex hL
      refine j_callVv (c_X5_once G a0 s0 a1 s1 2 q3.2 _ hq11) cv_RX5_43 rfl s0 (by decide) rfl (by decide) rfl rfl (Nat.le_of_ble_eq_true rfl) dX5_writeLine_41 (by decide) ?_
      refine j_aload_n 0 dX5_writeLine_44 rfl ?_
      refine j_aload_n 1 dX5_writeLine_45 rfl ?_
      refine j_iconst 0 dX5_writeLine_46 (by decide) ?_
      refine j_bipush 90 dX5_writeLine_47 (by decide) ?_
      obtain ⟨q12, hq12, hL⟩ := bnd_ex hL
      refine j_callVi (c_X7_number G a1 s1 0 90 q11 _ hq12) cv_RX5_47 rfl s1 (by decide) rfl (by decide) rfl rfl (Nat.le_of_ble_eq_true rfl) dX5_writeLine_49 (by decide) ?_
      refine jp_RX5_15 rfl s0 dX5_writeLine_52 ?_
      obtain ⟨h13, eh13, hL⟩ := lt_ex hL
      refine j_heap eh13 ?_
      refine j_goto 96 dX5_writeLine_55 (by decide) ?_
      cases hL
      exact j_retv dX5_writeLine_96 rfl hK
  · replace hL := (if_pos z2).symm.trans hL
    refine j_aload_n 0 dX5_writeLine_9 rfl ?_
    refine j_aload_n 1 dX5_writeLine_10 rfl ?_
    refine j_iconst 1 dX5_writeLine_11 (by decide) ?_
    obtain ⟨q14, hq14, hL⟩ := bnd_ex hL
    refine j_callVv (c_X5_once G a0 s0 a1 s1 1 q1.2 _ hq14) cv_RX5_43 rfl s0 (by decide) rfl (by decide) rfl rfl (Nat.le_of_ble_eq_true rfl) dX5_writeLine_12 (by decide) ?_
    refine j_aload_n 0 dX5_writeLine_15 rfl ?_
    refine j_aload_n 1 dX5_writeLine_16 rfl ?_
    refine j_iconst 1 dX5_writeLine_17 (by decide) ?_
    refine j_bipush 50 dX5_writeLine_18 (by decide) ?_
    obtain ⟨q15, hq15, hL⟩ := bnd_ex hL
    refine j_callVi (c_X7_number G a1 s1 1 50 q14 _ hq15) cv_RX5_47 rfl s1 (by decide) rfl (by decide) rfl rfl (Nat.le_of_ble_eq_true rfl) dX5_writeLine_20 (by decide) ?_
    refine jp_RX5_9 rfl s0 dX5_writeLine_23 ?_
    obtain ⟨h16, eh16, hL⟩ := lt_ex hL
    refine j_heap eh16 ?_
    refine j_goto 96 dX5_writeLine_26 (by decide) ?_
    cases hL
    exact j_retv dX5_writeLine_96 rfl hK

def f_X5_write_l23 (a0 : Nat) (a1 : Nat) : Nat → Int32 → AH → Option (AH)
  | 0, _, _ => none
  | n + 1, v2, h => if 500 ≤ v2 then some h else if (f_X7_hasMore a1 h) = true then bnd (f_X5_writeLine a0 a1 h) (fun q7 => bnd (f_X7_endLine a1 q7) (fun q8 => f_X5_write_l23 a0 a1 n (v2 + 1) q8)) else some h
def f_X5_write (a0 : Nat) (a1 : Nat) (h : AH) : Option (AH) := lt (sfi h a0 0 2) (fun h1 => lt (sfi h1 a0 1 20) (fun h2 => lt (sfi h2 a0 2 3) (fun h3 => lt (sfi h3 a0 3 0) (fun h4 => bnd (f_X5_write_l23 a0 a1 FU 0 h4) (fun q9 => some q9)))))
set_option maxRecDepth 20000 in
theorem cl_X5_write_23 (G : GG) (K : KQ) (a0 : Nat) (a1 : Nat) (s0 : SH a0 = (5, 0)) (s1 : SH a1 = (7, 0)) : ∀ (n : Nat) (v2 : Int32) (h : AH) (r : AH), f_X5_write_l23 a0 a1 n v2 h = some r → J G mX5_write 8 0 0 K 52 [] [] r → J G mX5_write 8 0 0 K 23 [(0, .ref (ad G a0)), (1, .ref (ad G a1)), (2, .int v2)] [] h := by
  intro n
  induction n with
  | zero => intro v2 h r hL; cases hL
  | succ n ih =>
    intro v2 h r hL kE
    unfold f_X5_write_l23 at hL
    refine j_iload_n 2 dX5_write_23 rfl ?_
    refine j_sipush 500 dX5_write_24 (by decide) ?_
    refine j_icmp_ge 52 dX5_write_27 (by decide) (fun z5 => ?_) (fun z5 => ?_)
    · replace hL := (if_pos z5).symm.trans hL
      cases hL
      refine j_sub [] rfl ?_
      exact kE 
    · replace hL := (if_neg z5).symm.trans hL
      refine j_aload_n 1 dX5_write_30 rfl ?_
      refine j_callVi (c_X7_hasMore G a1 s1 h) cv_RX5_24 rfl s1 (by decide) rfl (by decide) rfl rfl (Nat.le_of_ble_eq_true rfl) dX5_write_31 (by decide) ?_
      refine j_ifz_eq 52 dX5_write_34 (by decide) (fun z6 => ?_) (fun z6 => ?_)
      · replace hL := (if_neg z6).symm.trans hL
        cases hL
        refine j_sub [] rfl ?_
        exact kE 
      · replace hL := (if_pos z6).symm.trans hL
        refine j_aload_n 0 dX5_write_37 rfl ?_
        refine j_aload_n 1 dX5_write_38 rfl ?_
        obtain ⟨q7, hq7, hL⟩ := bnd_ex hL
        refine j_callVv (c_X5_writeLine G a0 s0 a1 s1 h _ hq7) cv_RX5_30 rfl s0 (by decide) rfl (by decide) rfl rfl (Nat.le_of_ble_eq_true rfl) dX5_write_39 (by decide) ?_
        refine j_aload_n 1 dX5_write_42 rfl ?_
        obtain ⟨q8, hq8, hL⟩ := bnd_ex hL
        refine j_callVv (c_X7_endLine G a1 s1 q7 _ hq8) cv_RX5_34 rfl s1 (by decide) rfl (by decide) rfl rfl (Nat.le_of_ble_eq_true rfl) dX5_write_43 (by decide) ?_
        refine j_iinc (lv' := [(2, .int (v2 + 1)), (0, .ref (ad G a0)), (1, .ref (ad G a1))]) 2 dX5_write_46 rfl rfl (by decide) rfl ?_
        refine j_goto 23 dX5_write_49 (by decide) ?_
        refine j_sub [1, 2, 0] rfl ?_
        exact ih (v2 + 1) q8 r hL kE

set_option maxRecDepth 20000 in
theorem c_X5_write (G : GG) (a0 : Nat) (s0 : SH a0 = (5, 0)) (a1 : Nat) (s1 : SH a1 = (7, 0)) (h : AH) (r : AH) (hL : f_X5_write a0 a1 h = some r) : SpV G 8 mX5_write [.ref (ad G a0), .ref (ad G a1)] h r := by
  refine sp_v pf_X5_write (Nat.le_of_ble_eq_true rfl) ?_
  show J G mX5_write 8 0 0 (KMv G r) 0 [(0, .ref (ad G a0)), (1, .ref (ad G a1))] [] h
  obtain ⟨K, hK⟩ : ∃ K, K = KMv G r := ⟨_, rfl⟩
  rw [← hK]
  unfold f_X5_write at hL
  refine j_aload_n 0 dX5_write_0 rfl ?_
  refine j_iconst 2 dX5_write_1 (by decide) ?_
  refine jp_RX5_9 rfl s0 dX5_write_2 ?_
  obtain ⟨h1, eh1, hL⟩ := lt_ex hL
  refine j_heap eh1 ?_
  refine j_aload_n 0 dX5_write_5 rfl ?_
  refine j_bipush 20 dX5_write_6 (by decide) ?_
  refine jp_RX5_15 rfl s0 dX5_write_8 ?_
  obtain ⟨h2, eh2, hL⟩ := lt_ex hL
  refine j_heap eh2 ?_
  refine j_aload_n 0 dX5_write_11 rfl ?_
  refine j_iconst 3 dX5_write_12 (by decide) ?_
  refine jp_RX5_18 rfl s0 dX5_write_13 ?_
  obtain ⟨h3, eh3, hL⟩ := lt_ex hL
  refine j_heap eh3 ?_
  refine j_aload_n 0 dX5_write_16 rfl ?_
  refine j_iconst 0 dX5_write_17 (by decide) ?_
  refine jp_RX5_21 rfl s0 dX5_write_18 ?_
  obtain ⟨h4, eh4, hL⟩ := lt_ex hL
  refine j_heap eh4 ?_
  refine j_iconst 0 dX5_write_21 (by decide) ?_
  refine j_istore_n (lv' := [(2, .int 0), (0, .ref (ad G a0)), (1, .ref (ad G a1))]) dX5_write_22 (by decide) rfl ?_
  obtain ⟨q9, hq9, hL⟩ := bnd_ex hL
  refine j_sub [1, 2, 0] rfl ?_
  refine cl_X5_write_23 G K a0 a1 s0 s1 FU 0 h4 q9 hq9 ?_
  cases hL
  exact j_retv dX5_write_52 rfl hK

