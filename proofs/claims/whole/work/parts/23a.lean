def f_X12_thrown  (h : AH) : Int32 := (hfi h 193 2)
set_option maxRecDepth 20000 in
theorem c_X12_thrown (G : GG)  (h : AH) : SpI G 1 mX12_thrown [.ref (ad G 193)] h (f_X12_thrown h) h := by
  obtain ⟨r, hL⟩ : ∃ r, f_X12_thrown h = r := ⟨_, rfl⟩
  rw [hL]
  refine sp_i pf_X12_thrown (Nat.le_of_ble_eq_true rfl) ?_
  show J G mX12_thrown 1 0 0 (KMi G r h) 0 [(0, .ref (ad G 193))] [] h
  obtain ⟨K, hK⟩ : ∃ K, K = KMi G r h := ⟨_, rfl⟩
  rw [← hK]
  unfold f_X12_thrown at hL
  refine j_aload_n 0 dX12_thrown_0 rfl ?_
  refine jg_RX12_158 rfl sh_193 dX12_thrown_1 ?_
  subst hL
  exact j_reti dX12_thrown_4 rfl hK

def f_X12_fail (v1 : Int32) (h : AH) : Option (Int32 × AH) := lt (sfi h 193 2 v1) (fun h1 => some (0, h1))
set_option maxRecDepth 20000 in
theorem c_X12_fail (G : GG) (v1 : Int32) (h : AH) (r : Int32 × AH) (hL : f_X12_fail v1 h = some r) : SpI G 1 mX12_fail [.ref (ad G 193), .int v1] h r.1 r.2 := by
  refine sp_i pf_X12_fail (Nat.le_of_ble_eq_true rfl) ?_
  show J G mX12_fail 1 0 0 (KMi G r.1 r.2) 0 [(0, .ref (ad G 193)), (1, .int v1)] [] h
  obtain ⟨K, hK⟩ : ∃ K, K = KMi G r.1 r.2 := ⟨_, rfl⟩
  rw [← hK]
  unfold f_X12_fail at hL
  refine j_aload_n 0 dX12_fail_0 rfl ?_
  refine j_iload_n 1 dX12_fail_1 rfl ?_
  refine jp_RX12_158 rfl sh_193 dX12_fail_2 ?_
  obtain ⟨h1, eh1, hL⟩ := lt_ex hL
  refine j_heap eh1 ?_
  refine j_iconst 0 dX12_fail_5 (by decide) ?_
  cases hL
  exact j_reti dX12_fail_6 rfl hK

def f_X12_isIn (v0 : Int32) (v1 : Int32) (v2 : Int32) : Bool := if v0 < v1 then false else if v2 < v0 then false else true
set_option maxRecDepth 20000 in
theorem c_X12_isIn (G : GG) (v0 : Int32) (v1 : Int32) (v2 : Int32) (h : AH) : SpI G 1 mX12_isIn [.int v0, .int v1, .int v2] h (bI (f_X12_isIn v0 v1 v2)) h := by
  obtain ⟨r, hL⟩ : ∃ r, f_X12_isIn v0 v1 v2 = r := ⟨_, rfl⟩
  rw [hL]
  refine sp_i pf_X12_isIn (Nat.le_of_ble_eq_true rfl) ?_
  show J G mX12_isIn 1 0 0 (KMi G (bI r) h) 0 [(0, .int v0), (1, .int v1), (2, .int v2)] [] h
  obtain ⟨K, hK⟩ : ∃ K, K = KMi G (bI r) h := ⟨_, rfl⟩
  rw [← hK]
  unfold f_X12_isIn at hL
  refine j_iload_n 0 dX12_isIn_0 rfl ?_
  refine j_iload_n 1 dX12_isIn_1 rfl ?_
  refine j_icmp_lt 14 dX12_isIn_2 (by decide) (fun z1 => ?_) (fun z1 => ?_)
  · replace hL := (if_pos z1).symm.trans hL
    refine j_iconst 0 dX12_isIn_14 (by decide) ?_
    subst hL
    exact j_ret0 dX12_isIn_15 rfl hK
  · replace hL := (if_neg z1).symm.trans hL
    refine j_iload_n 0 dX12_isIn_5 rfl ?_
    refine j_iload_n 2 dX12_isIn_6 rfl ?_
    refine j_icmp_gt 14 dX12_isIn_7 (by decide) (fun z2 => ?_) (fun z2 => ?_)
    · replace hL := (if_pos z2).symm.trans hL
      refine j_iconst 0 dX12_isIn_14 (by decide) ?_
      subst hL
      exact j_ret0 dX12_isIn_15 rfl hK
    · replace hL := (if_neg z2).symm.trans hL
      refine j_iconst 1 dX12_isIn_10 (by decide) ?_
      refine j_goto 15 dX12_isIn_11 (by decide) ?_
      subst hL
      exact j_ret1 dX12_isIn_15 rfl hK

def f_X12_isBook (v0 : Int32) : Bool := (f_X12_isIn v0 0 5)
set_option maxRecDepth 20000 in
theorem c_X12_isBook (G : GG) (v0 : Int32) (h : AH) : SpI G 2 mX12_isBook [.int v0] h (bI (f_X12_isBook v0)) h := by
  obtain ⟨r, hL⟩ : ∃ r, f_X12_isBook v0 = r := ⟨_, rfl⟩
  rw [hL]
  refine sp_i pf_X12_isBook (Nat.le_of_ble_eq_true rfl) ?_
  show J G mX12_isBook 2 0 0 (KMi G (bI r) h) 0 [(0, .int v0)] [] h
  obtain ⟨K, hK⟩ : ∃ K, K = KMi G (bI r) h := ⟨_, rfl⟩
  rw [← hK]
  unfold f_X12_isBook at hL
  refine j_iload_n 0 dX12_isBook_0 rfl ?_
  refine j_iconst 0 dX12_isBook_1 (by decide) ?_
  refine j_iconst 5 dX12_isBook_2 (by decide) ?_
  refine j_callSi (c_X12_isIn G v0 0 5 h) cv_RX12_161 rfl (by decide) rfl rfl (Nat.le_of_ble_eq_true rfl) dX12_isBook_3 (by decide) ?_
  subst hL
  exact j_retz dX12_isBook_6 rfl hK

def f_X12_isWay (v0 : Int32) : Bool := (f_X12_isIn v0 0 5)
set_option maxRecDepth 20000 in
theorem c_X12_isWay (G : GG) (v0 : Int32) (h : AH) : SpI G 2 mX12_isWay [.int v0] h (bI (f_X12_isWay v0)) h := by
  obtain ⟨r, hL⟩ : ∃ r, f_X12_isWay v0 = r := ⟨_, rfl⟩
  rw [hL]
  refine sp_i pf_X12_isWay (Nat.le_of_ble_eq_true rfl) ?_
  show J G mX12_isWay 2 0 0 (KMi G (bI r) h) 0 [(0, .int v0)] [] h
  obtain ⟨K, hK⟩ : ∃ K, K = KMi G (bI r) h := ⟨_, rfl⟩
  rw [← hK]
  unfold f_X12_isWay at hL
  refine j_iload_n 0 dX12_isWay_0 rfl ?_
  refine j_iconst 0 dX12_isWay_1 (by decide) ?_
  refine j_iconst 5 dX12_isWay_2 (by decide) ?_
  refine j_callSi (c_X12_isIn G v0 0 5 h) cv_RX12_161 rfl (by decide) rfl rfl (Nat.le_of_ble_eq_true rfl) dX12_isWay_3 (by decide) ?_
  subst hL
  exact j_retz dX12_isWay_6 rfl hK

def f_X12_isLeaf (v1 : Int32) (v2 : Int32) (h : AH) : Option (Bool) := if (f_X12_isBook v1) = true then gd (ib v1 8 = true) (if (f_X12_isIn v2 0 ((hia h 196 (cl v1)) - 1)) = true then some true else some false) else some false
set_option maxRecDepth 20000 in
theorem c_X12_isLeaf (G : GG) (v1 : Int32) (v2 : Int32) (h : AH) (r : Bool) (hL : f_X12_isLeaf v1 v2 h = some r) : SpI G 3 mX12_isLeaf [.ref (ad G 193), .int v1, .int v2] h (bI r) h := by
  refine sp_i pf_X12_isLeaf (Nat.le_of_ble_eq_true rfl) ?_
  show J G mX12_isLeaf 3 0 0 (KMi G (bI r) h) 0 [(0, .ref (ad G 193)), (1, .int v1), (2, .int v2)] [] h
  obtain ⟨K, hK⟩ : ∃ K, K = KMi G (bI r) h := ⟨_, rfl⟩
  rw [← hK]
  unfold f_X12_isLeaf at hL
  refine j_iload_n 1 dX12_isLeaf_0 rfl ?_
  refine j_callSi (c_X12_isBook G v1 h) cv_RX12_165 rfl (by decide) rfl rfl (Nat.le_of_ble_eq_true rfl) dX12_isLeaf_1 (by decide) ?_
  refine j_ifz_eq 27 dX12_isLeaf_4 (by decide) (fun z1 => ?_) (fun z1 => ?_)
  · replace hL := (if_neg z1).symm.trans hL
    refine j_iconst 0 dX12_isLeaf_27 (by decide) ?_
    cases hL
    exact j_ret0 dX12_isLeaf_28 rfl hK
  · replace hL := (if_pos z1).symm.trans hL
    refine j_iload_n 2 dX12_isLeaf_7 rfl ?_
    refine j_iconst 0 dX12_isLeaf_8 (by decide) ?_
    refine j_aload_n 0 dX12_isLeaf_9 rfl ?_
    refine jg_RX12_32 rfl sh_193 dX12_isLeaf_10 ?_
    refine j_iload_n 1 dX12_isLeaf_13 rfl ?_
    obtain ⟨g2, hL⟩ := gd_ex hL
    refine j_iald (shf_12_3 sh_193) (ib_in g2) dX12_isLeaf_14 ?_
    refine j_iconst 1 dX12_isLeaf_15 (by decide) ?_
    refine j_isub dX12_isLeaf_16 ?_
    refine j_callSi (c_X12_isIn G v2 0 ((hia h 196 (cl v1)) - 1) h) cv_RX12_161 rfl (by decide) rfl rfl (Nat.le_of_ble_eq_true rfl) dX12_isLeaf_17 (by decide) ?_
    refine j_ifz_eq 27 dX12_isLeaf_20 (by decide) (fun z3 => ?_) (fun z3 => ?_)
    · replace hL := (if_neg z3).symm.trans hL
      refine j_iconst 0 dX12_isLeaf_27 (by decide) ?_
      cases hL
      exact j_ret0 dX12_isLeaf_28 rfl hK
    · replace hL := (if_pos z3).symm.trans hL
      refine j_iconst 1 dX12_isLeaf_23 (by decide) ?_
      refine j_goto 28 dX12_isLeaf_24 (by decide) ?_
      cases hL
      exact j_ret1 dX12_isLeaf_28 rfl hK

def f_X12_at (v0 : Int32) (v1 : Int32) : Int32 := ((40 * v0) + v1)
set_option maxRecDepth 20000 in
theorem c_X12_at (G : GG) (v0 : Int32) (v1 : Int32) (h : AH) : SpI G 1 mX12_at [.int v0, .int v1] h (f_X12_at v0 v1) h := by
  obtain ⟨r, hL⟩ : ∃ r, f_X12_at v0 v1 = r := ⟨_, rfl⟩
  rw [hL]
  refine sp_i pf_X12_at (Nat.le_of_ble_eq_true rfl) ?_
  show J G mX12_at 1 0 0 (KMi G r h) 0 [(0, .int v0), (1, .int v1)] [] h
  obtain ⟨K, hK⟩ : ∃ K, K = KMi G r h := ⟨_, rfl⟩
  rw [← hK]
  unfold f_X12_at at hL
  refine j_bipush 40 dX12_at_0 (by decide) ?_
  refine j_iload_n 0 dX12_at_2 rfl ?_
  refine j_imul dX12_at_3 ?_
  refine j_iload_n 1 dX12_at_4 rfl ?_
  refine j_iadd dX12_at_5 ?_
  subst hL
  exact j_reti dX12_at_6 rfl hK

def f_X12_feed_l23 (v1 : Int32) (v2 : Int32) (v3 : Int32) (v4 : Int32) (v5 : Int32) : Nat → Int32 → AH → Option (AH)
  | 0, _, _ => none
  | n + 1, v6, h => if 20 ≤ v6 then some h else lt (fun (x9 : Int32) => gd (ib (hfi h 193 27) 500 = true) (lt (sia h 219 (cl (hfi h 193 27)) ((x9 >>> (((24 - (8 * (v6 - v6 / 4 * 4))) : Int32) &&& 31)) &&& 255)) (fun h11 => lt (sfi h11 193 27 ((hfi h11 193 27) + 1)) (fun h12 => f_X12_feed_l23 v1 v2 v3 v4 v5 n (v6 + 1) h12)))) (fun j5 => if 4 ≤ v6 then if 8 ≤ v6 then if 12 ≤ v6 then if 16 ≤ v6 then j5 v5 else j5 v4 else j5 v3 else j5 v2 else j5 v1)
def f_X12_feed (v1 : Int32) (v2 : Int32) (v3 : Int32) (v4 : Int32) (v5 : Int32) (h : AH) : Option (Int32 × AH) := lt (sfi h 193 2 0) (fun h1 => if ((hfi h1 193 27) + 20) ≤ 500 then bnd (f_X12_feed_l23 v1 v2 v3 v4 v5 FU 0 h1) (fun q13 => some (hfi q13 193 27, q13)) else some ((-1), h1))
set_option maxRecDepth 20000 in
theorem cl_X12_feed_23 (G : GG) (K : KQ) (v1 : Int32) (v2 : Int32) (v3 : Int32) (v4 : Int32) (v5 : Int32)  : ∀ (n : Nat) (v6 : Int32) (h : AH) (r : AH), f_X12_feed_l23 v1 v2 v3 v4 v5 n v6 h = some r → J G mX12_feed 1 0 0 K 120 [(0, .ref (ad G 193))] [] r → J G mX12_feed 1 0 0 K 23 [(0, .ref (ad G 193)), (1, .int v1), (2, .int v2), (3, .int v3), (4, .int v4), (5, .int v5), (6, .int v6)] [] h := by
  intro n
  induction n with
  | zero => intro v6 h r hL; cases hL
  | succ n ih =>
    intro v6 h r hL kE
    unfold f_X12_feed_l23 at hL
    refine j_iload 6 dX12_feed_23 rfl ?_
    refine j_bipush 20 dX12_feed_25 (by decide) ?_
    refine j_icmp_ge 120 dX12_feed_27 (by decide) (fun z3 => ?_) (fun z3 => ?_)
    · replace hL := (if_pos z3).symm.trans hL
      cases hL
      refine j_sub [0] rfl ?_
      exact kE 
    · replace hL := (if_neg z3).symm.trans hL
      refine j_iload 6 dX12_feed_30 rfl ?_
      refine j_iconst 4 dX12_feed_32 (by decide) ?_
      obtain ⟨j5, ej5, hL⟩ := lt_ex hL
      have kj5 : ∀ (x9 : Int32), j5 x9 = some r → J G mX12_feed 1 0 0 K 76 [(0, .ref (ad G 193)), (1, .int v1), (2, .int v2), (3, .int v3), (4, .int v4), (5, .int v5), (6, .int v6)] [.int x9] h := by
        intro x9 hL
        rw [ej5] at hL
        replace hL : (gd (ib (hfi h 193 27) 500 = true) (lt (sia h 219 (cl (hfi h 193 27)) ((x9 >>> (((24 - (8 * (v6 - v6 / 4 * 4))) : Int32) &&& 31)) &&& 255)) (fun h11 => lt (sfi h11 193 27 ((hfi h11 193 27) + 1)) (fun h12 => f_X12_feed_l23 v1 v2 v3 v4 v5 n (v6 + 1) h12)))) = some r := hL
        refine j_istore (lv' := [(7, .int x9), (0, .ref (ad G 193)), (1, .int v1), (2, .int v2), (3, .int v3), (4, .int v4), (5, .int v5), (6, .int v6)]) dX12_feed_76 (by decide) rfl ?_
        refine j_aload_n 1 dX12_feed_78 rfl ?_
        refine jg_RX12_99 rfl sh_193 dX12_feed_79 ?_
        refine j_aload_n 1 dX12_feed_82 rfl ?_
        refine jg_RX12_169 rfl sh_193 dX12_feed_83 ?_
        refine j_iload 0 dX12_feed_86 rfl ?_
        refine j_bipush 24 dX12_feed_88 (by decide) ?_
        refine j_bipush 8 dX12_feed_90 (by decide) ?_
        refine j_iload 7 dX12_feed_92 rfl ?_
        refine j_iconst 4 dX12_feed_94 (by decide) ?_
        refine j_irem dX12_feed_95 (by decide) ?_
        refine j_imul dX12_feed_96 ?_
        refine j_isub dX12_feed_97 ?_
        refine j_ishr dX12_feed_98 ?_
        refine j_sipush 255 dX12_feed_99 (by decide) ?_
        refine j_iand dX12_feed_102 ?_
        obtain ⟨g10, hL⟩ := gd_ex hL
        refine j_iast (shf_12_26 sh_193) (ib_in g10) dX12_feed_103 ?_
        obtain ⟨h11, eh11, hL⟩ := lt_ex hL
        refine j_heap eh11 ?_
        refine j_aload_n 1 dX12_feed_104 rfl ?_
        refine j_dup dX12_feed_105 rfl ?_
        refine jg_RX12_169 rfl sh_193 dX12_feed_106 ?_
        refine j_iconst 1 dX12_feed_109 (by decide) ?_
        refine j_iadd dX12_feed_110 ?_
        refine jp_RX12_169 rfl sh_193 dX12_feed_111 ?_
        obtain ⟨h12, eh12, hL⟩ := lt_ex hL
        refine j_heap eh12 ?_
        refine j_iinc (lv' := [(6, .int (v6 + 1)), (7, .int x9), (0, .ref (ad G 193)), (1, .int v1), (2, .int v2), (3, .int v3), (4, .int v4), (5, .int v5)]) 7 dX12_feed_114 rfl rfl (by decide) rfl ?_
        refine j_goto 23 dX12_feed_117 (by decide) ?_
        refine j_sub [2, 3, 4, 5, 6, 7, 0] rfl ?_
        exact ih (v6 + 1) h12 r hL kE
      refine j_icmp_ge 40 dX12_feed_33 (by decide) (fun z4 => ?_) (fun z4 => ?_)
      · replace hL := (if_pos z4).symm.trans hL
        refine j_iload 6 dX12_feed_40 rfl ?_
        refine j_bipush 8 dX12_feed_42 (by decide) ?_
        refine j_icmp_ge 51 dX12_feed_44 (by decide) (fun z6 => ?_) (fun z6 => ?_)
        · replace hL := (if_pos z6).symm.trans hL
          refine j_iload 6 dX12_feed_51 rfl ?_
          refine j_bipush 12 dX12_feed_53 (by decide) ?_
          refine j_icmp_ge 62 dX12_feed_55 (by decide) (fun z7 => ?_) (fun z7 => ?_)
          · replace hL := (if_pos z7).symm.trans hL
            refine j_iload 6 dX12_feed_62 rfl ?_
            refine j_bipush 16 dX12_feed_64 (by decide) ?_
            refine j_icmp_ge 74 dX12_feed_66 (by decide) (fun z8 => ?_) (fun z8 => ?_)
            · replace hL := (if_pos z8).symm.trans hL
              refine j_iload 5 dX12_feed_74 rfl ?_
              refine j_sub [0, 1, 2, 3, 4, 5, 6] rfl ?_
              exact kj5 v5 hL
            · replace hL := (if_neg z8).symm.trans hL
              refine j_iload 4 dX12_feed_69 rfl ?_
              refine j_goto 76 dX12_feed_71 (by decide) ?_
              refine j_sub [0, 1, 2, 3, 4, 5, 6] rfl ?_
              exact kj5 v4 hL
          · replace hL := (if_neg z7).symm.trans hL
            refine j_iload_n 3 dX12_feed_58 rfl ?_
            refine j_goto 76 dX12_feed_59 (by decide) ?_
            refine j_sub [0, 1, 2, 3, 4, 5, 6] rfl ?_
            exact kj5 v3 hL
        · replace hL := (if_neg z6).symm.trans hL
          refine j_iload_n 2 dX12_feed_47 rfl ?_
          refine j_goto 76 dX12_feed_48 (by decide) ?_
          refine j_sub [0, 1, 2, 3, 4, 5, 6] rfl ?_
          exact kj5 v2 hL
      · replace hL := (if_neg z4).symm.trans hL
        refine j_iload_n 1 dX12_feed_36 rfl ?_
        refine j_goto 76 dX12_feed_37 (by decide) ?_
        refine j_sub [0, 1, 2, 3, 4, 5, 6] rfl ?_
        exact kj5 v1 hL

set_option maxRecDepth 20000 in
theorem c_X12_feed (G : GG) (v1 : Int32) (v2 : Int32) (v3 : Int32) (v4 : Int32) (v5 : Int32) (h : AH) (r : Int32 × AH) (hL : f_X12_feed v1 v2 v3 v4 v5 h = some r) : SpI G 1 mX12_feed [.ref (ad G 193), .int v1, .int v2, .int v3, .int v4, .int v5] h r.1 r.2 := by
  refine sp_i pf_X12_feed (Nat.le_of_ble_eq_true rfl) ?_
  show J G mX12_feed 1 0 0 (KMi G r.1 r.2) 0 [(0, .ref (ad G 193)), (1, .int v1), (2, .int v2), (3, .int v3), (4, .int v4), (5, .int v5)] [] h
  obtain ⟨K, hK⟩ : ∃ K, K = KMi G r.1 r.2 := ⟨_, rfl⟩
  rw [← hK]
  unfold f_X12_feed at hL
  refine j_aload_n 0 dX12_feed_0 rfl ?_
  refine j_iconst 0 dX12_feed_1 (by decide) ?_
  refine jp_RX12_158 rfl sh_193 dX12_feed_2 ?_
  obtain ⟨h1, eh1, hL⟩ := lt_ex hL
  refine j_heap eh1 ?_
  refine j_aload_n 0 dX12_feed_5 rfl ?_
  refine jg_RX12_169 rfl sh_193 dX12_feed_6 ?_
  refine j_bipush 20 dX12_feed_9 (by decide) ?_
  refine j_iadd dX12_feed_11 ?_
  refine j_sipush 500 dX12_feed_12 (by decide) ?_
  refine j_icmp_le 20 dX12_feed_15 (by decide) (fun z2 => ?_) (fun z2 => ?_)
  · replace hL := (if_pos z2).symm.trans hL
    refine j_iconst 0 dX12_feed_20 (by decide) ?_
    refine j_istore (lv' := [(6, .int 0), (0, .ref (ad G 193)), (1, .int v1), (2, .int v2), (3, .int v3), (4, .int v4), (5, .int v5)]) dX12_feed_21 (by decide) rfl ?_
    obtain ⟨q13, hq13, hL⟩ := bnd_ex hL
    refine j_sub [1, 2, 3, 4, 5, 6, 0] rfl ?_
    refine cl_X12_feed_23 G K v1 v2 v3 v4 v5 FU 0 h1 q13 hq13 ?_
    refine j_aload_n 0 dX12_feed_120 rfl ?_
    refine jg_RX12_169 rfl sh_193 dX12_feed_121 ?_
    cases hL
    exact j_reti dX12_feed_124 rfl hK
  · replace hL := (if_neg z2).symm.trans hL
    refine j_iconst (-1) dX12_feed_18 (by decide) ?_
    cases hL
    exact j_reti dX12_feed_19 rfl hK

def f_X12_byteAt (v1 : Int32) (h : AH) : Option (Int32) := if (hfi h 193 29) ≤ v1 then some (-1) else gd (ib v1 500 = true) (some (hia h 219 (cl v1)))
set_option maxRecDepth 20000 in
theorem c_X12_byteAt (G : GG) (v1 : Int32) (h : AH) (r : Int32) (hL : f_X12_byteAt v1 h = some r) : SpI G 1 mX12_byteAt [.ref (ad G 193), .int v1] h r h := by
  refine sp_i pf_X12_byteAt (Nat.le_of_ble_eq_true rfl) ?_
  show J G mX12_byteAt 1 0 0 (KMi G r h) 0 [(0, .ref (ad G 193)), (1, .int v1)] [] h
  obtain ⟨K, hK⟩ : ∃ K, K = KMi G r h := ⟨_, rfl⟩
  rw [← hK]
  unfold f_X12_byteAt at hL
  refine j_iload_n 1 dX12_byteAt_0 rfl ?_
  refine j_aload_n 0 dX12_byteAt_1 rfl ?_
  refine jg_RX12_172 rfl sh_193 dX12_byteAt_2 ?_
  refine j_icmp_ge 17 dX12_byteAt_5 (by decide) (fun z1 => ?_) (fun z1 => ?_)
  · replace hL := (if_pos z1).symm.trans hL
    refine j_iconst (-1) dX12_byteAt_17 (by decide) ?_
    cases hL
    exact j_reti dX12_byteAt_18 rfl hK
  · replace hL := (if_neg z1).symm.trans hL
    refine j_aload_n 0 dX12_byteAt_8 rfl ?_
    refine jg_RX12_99 rfl sh_193 dX12_byteAt_9 ?_
    refine j_iload_n 1 dX12_byteAt_12 rfl ?_
    obtain ⟨g2, hL⟩ := gd_ex hL
    refine j_iald (shf_12_26 sh_193) (ib_in g2) dX12_byteAt_13 ?_
    refine j_goto 18 dX12_byteAt_14 (by decide) ?_
    cases hL
    exact j_reti dX12_byteAt_18 rfl hK

def f_X12_isLetter (v0 : Int32) : Bool := if v0 < 97 then false else if 122 < v0 then false else true
set_option maxRecDepth 20000 in
theorem c_X12_isLetter (G : GG) (v0 : Int32) (h : AH) : SpI G 1 mX12_isLetter [.int v0] h (bI (f_X12_isLetter v0)) h := by
  obtain ⟨r, hL⟩ : ∃ r, f_X12_isLetter v0 = r := ⟨_, rfl⟩
  rw [hL]
  refine sp_i pf_X12_isLetter (Nat.le_of_ble_eq_true rfl) ?_
  show J G mX12_isLetter 1 0 0 (KMi G (bI r) h) 0 [(0, .int v0)] [] h
  obtain ⟨K, hK⟩ : ∃ K, K = KMi G (bI r) h := ⟨_, rfl⟩
  rw [← hK]
  unfold f_X12_isLetter at hL
  refine j_iload_n 0 dX12_isLetter_0 rfl ?_
  refine j_bipush 97 dX12_isLetter_1 (by decide) ?_
  refine j_icmp_lt 16 dX12_isLetter_3 (by decide) (fun z1 => ?_) (fun z1 => ?_)
  · replace hL := (if_pos z1).symm.trans hL
    refine j_iconst 0 dX12_isLetter_16 (by decide) ?_
    subst hL
    exact j_ret0 dX12_isLetter_17 rfl hK
  · replace hL := (if_neg z1).symm.trans hL
    refine j_iload_n 0 dX12_isLetter_6 rfl ?_
    refine j_bipush 122 dX12_isLetter_7 (by decide) ?_
    refine j_icmp_gt 16 dX12_isLetter_9 (by decide) (fun z2 => ?_) (fun z2 => ?_)
    · replace hL := (if_pos z2).symm.trans hL
      refine j_iconst 0 dX12_isLetter_16 (by decide) ?_
      subst hL
      exact j_ret0 dX12_isLetter_17 rfl hK
    · replace hL := (if_neg z2).symm.trans hL
      refine j_iconst 1 dX12_isLetter_12 (by decide) ?_
      refine j_goto 17 dX12_isLetter_13 (by decide) ?_
      subst hL
      exact j_ret1 dX12_isLetter_17 rfl hK

def f_X12_isDigit (v0 : Int32) : Bool := if v0 < 48 then false else if 57 < v0 then false else true
set_option maxRecDepth 20000 in
theorem c_X12_isDigit (G : GG) (v0 : Int32) (h : AH) : SpI G 1 mX12_isDigit [.int v0] h (bI (f_X12_isDigit v0)) h := by
  obtain ⟨r, hL⟩ : ∃ r, f_X12_isDigit v0 = r := ⟨_, rfl⟩
  rw [hL]
  refine sp_i pf_X12_isDigit (Nat.le_of_ble_eq_true rfl) ?_
  show J G mX12_isDigit 1 0 0 (KMi G (bI r) h) 0 [(0, .int v0)] [] h
  obtain ⟨K, hK⟩ : ∃ K, K = KMi G (bI r) h := ⟨_, rfl⟩
  rw [← hK]
  unfold f_X12_isDigit at hL
  refine j_iload_n 0 dX12_isDigit_0 rfl ?_
  refine j_bipush 48 dX12_isDigit_1 (by decide) ?_
  refine j_icmp_lt 16 dX12_isDigit_3 (by decide) (fun z1 => ?_) (fun z1 => ?_)
  · replace hL := (if_pos z1).symm.trans hL
    refine j_iconst 0 dX12_isDigit_16 (by decide) ?_
    subst hL
    exact j_ret0 dX12_isDigit_17 rfl hK
  · replace hL := (if_neg z1).symm.trans hL
    refine j_iload_n 0 dX12_isDigit_6 rfl ?_
    refine j_bipush 57 dX12_isDigit_7 (by decide) ?_
    refine j_icmp_gt 16 dX12_isDigit_9 (by decide) (fun z2 => ?_) (fun z2 => ?_)
    · replace hL := (if_pos z2).symm.trans hL
      refine j_iconst 0 dX12_isDigit_16 (by decide) ?_
      subst hL
      exact j_ret0 dX12_isDigit_17 rfl hK
    · replace hL := (if_neg z2).symm.trans hL
      refine j_iconst 1 dX12_isDigit_12 (by decide) ?_
      refine j_goto 17 dX12_isDigit_13 (by decide) ?_
      subst hL
      exact j_ret1 dX12_isDigit_17 rfl hK

def f_X12_stepOn_l0  : Nat → AH → Option (AH)
  | 0, _ => none
  | n + 1, h => bnd (f_X12_byteAt (hfi h 193 28) h) (fun q1 => if q1 = 32 then lt (sfi h 193 28 ((hfi h 193 28) + 1)) (fun h3 => f_X12_stepOn_l0 n  h3) else bnd (f_X12_byteAt (hfi h 193 28) h) (fun q4 => if q4 = 10 then lt (sfi h 193 28 ((hfi h 193 28) + 1)) (fun h6 => f_X12_stepOn_l0 n  h6) else some h))
def f_X12_stepOn_l123  : Nat → AH → Option (AH)
  | 0, _ => none
  | n + 1, h => bnd (f_X12_byteAt (hfi h 193 28) h) (fun q20 => if (f_X12_isDigit q20) = true then bnd (f_X12_byteAt (hfi h 193 28) h) (fun q22 => lt (sfi h 193 31 (f_J9_min_7cf53 100000 (((10 * (hfi h 193 31)) + q22) - 48))) (fun h23 => lt (sfi h23 193 28 ((hfi h23 193 28) + 1)) (fun h24 => f_X12_stepOn_l123 n  h24))) else some h)
def f_X12_stepOn_l76  : Nat → AH → Option (AH)
  | 0, _ => none
  | n + 1, h => bnd (f_X12_byteAt (hfi h 193 28) h) (fun q28 => if (f_X12_isLetter q28) = true then lt (sfi h 193 28 ((hfi h 193 28) + 1)) (fun h30 => f_X12_stepOn_l76 n  h30) else some h)
def f_X12_stepOn  (h : AH) : Option (AH) := bnd (f_X12_stepOn_l0 FU h) (fun q7 => lt (sfi q7 193 32 (hfi q7 193 28)) (fun h8 => bnd (f_X12_byteAt (hfi h8 193 28) h8) (fun q9 => if q9 = (-1) then lt (sfi h8 193 30 0) (fun h34 => lt (sfi h34 193 33 (hfi h34 193 28)) (fun h35 => some h35)) else if (f_X12_isLetter q9) = true then bnd (f_X12_stepOn_l76 FU h8) (fun q31 => lt (sfi q31 193 30 1) (fun h32 => lt (sfi h32 193 33 (hfi h32 193 28)) (fun h33 => some h33))) else if (f_X12_isDigit q9) = true then lt (sfi h8 193 31 0) (fun h19 => bnd (f_X12_stepOn_l123 FU h19) (fun q25 => lt (sfi q25 193 30 2) (fun h26 => lt (sfi h26 193 33 (hfi h26 193 28)) (fun h27 => some h27)))) else lt (sfi h8 193 28 ((hfi h8 193 28) + 1)) (fun h13 => if q9 = 59 then lt (sfi h13 193 30 3) (fun h17 => lt (sfi h17 193 33 (hfi h17 193 28)) (fun h18 => some h18)) else lt (sfi h13 193 30 4) (fun h15 => lt (sfi h15 193 33 (hfi h15 193 28)) (fun h16 => some h16))))))
set_option maxRecDepth 20000 in
theorem cl_X12_stepOn_0 (G : GG) (K : KQ)   : ∀ (n : Nat)  (h : AH) (r : AH), f_X12_stepOn_l0 n h = some r → J G mX12_stepOn 2 0 0 K 39 [(0, .ref (ad G 193))] [] r → J G mX12_stepOn 2 0 0 K 0 [(0, .ref (ad G 193))] [] h := by
  intro n
  induction n with
  | zero => intro  h r hL; cases hL
  | succ n ih =>
    intro  h r hL kE
    unfold f_X12_stepOn_l0 at hL
    refine j_aload_n 0 dX12_stepOn_0 rfl ?_
    refine j_aload_n 0 dX12_stepOn_1 rfl ?_
    refine jg_RX12_175 rfl sh_193 dX12_stepOn_2 ?_
    obtain ⟨q1, hq1, hL⟩ := bnd_ex hL
    refine j_callVi (c_X12_byteAt G (hfi h 193 28) h _ hq1) cv_RX12_178 rfl sh_193 (by decide) rfl (by decide) rfl rfl (Nat.le_of_ble_eq_true rfl) dX12_stepOn_5 (by decide) ?_
    refine j_bipush 32 dX12_stepOn_8 (by decide) ?_
    refine j_icmp_eq 26 dX12_stepOn_10 (by decide) (fun z2 => ?_) (fun z2 => ?_)
    · replace hL := (if_pos z2).symm.trans hL
      refine j_aload_n 0 dX12_stepOn_26 rfl ?_
      refine j_dup dX12_stepOn_27 rfl ?_
      refine jg_RX12_175 rfl sh_193 dX12_stepOn_28 ?_
      refine j_iconst 1 dX12_stepOn_31 (by decide) ?_
      refine j_iadd dX12_stepOn_32 ?_
      refine jp_RX12_175 rfl sh_193 dX12_stepOn_33 ?_
      obtain ⟨h3, eh3, hL⟩ := lt_ex hL
      refine j_heap eh3 ?_
      refine j_goto 0 dX12_stepOn_36 (by decide) ?_
      refine j_sub [0] rfl ?_
      exact ih  h3 r hL kE
    · replace hL := (if_neg z2).symm.trans hL
      refine j_aload_n 0 dX12_stepOn_13 rfl ?_
      refine j_aload_n 0 dX12_stepOn_14 rfl ?_
      refine jg_RX12_175 rfl sh_193 dX12_stepOn_15 ?_
      obtain ⟨q4, hq4, hL⟩ := bnd_ex hL
      refine j_callVi (c_X12_byteAt G (hfi h 193 28) h _ hq4) cv_RX12_178 rfl sh_193 (by decide) rfl (by decide) rfl rfl (Nat.le_of_ble_eq_true rfl) dX12_stepOn_18 (by decide) ?_
      refine j_bipush 10 dX12_stepOn_21 (by decide) ?_
      refine j_icmp_ne 39 dX12_stepOn_23 (by decide) (fun z5 => ?_) (fun z5 => ?_)
      · replace hL := (if_neg z5).symm.trans hL
        cases hL
        refine j_sub [0] rfl ?_
        exact kE 
      · replace hL := (if_pos z5).symm.trans hL
        refine j_aload_n 0 dX12_stepOn_26 rfl ?_
        refine j_dup dX12_stepOn_27 rfl ?_
        refine jg_RX12_175 rfl sh_193 dX12_stepOn_28 ?_
        refine j_iconst 1 dX12_stepOn_31 (by decide) ?_
        refine j_iadd dX12_stepOn_32 ?_
        refine jp_RX12_175 rfl sh_193 dX12_stepOn_33 ?_
        obtain ⟨h6, eh6, hL⟩ := lt_ex hL
        refine j_heap eh6 ?_
        refine j_goto 0 dX12_stepOn_36 (by decide) ?_
        refine j_sub [0] rfl ?_
        exact ih  h6 r hL kE

set_option maxRecDepth 20000 in
theorem cl_X12_stepOn_123 (G : GG) (K : KQ)   : ∀ (n : Nat)  (h : AH) (r : AH), f_X12_stepOn_l123 n h = some r → J G mX12_stepOn 2 0 0 K 178 [(0, .ref (ad G 193))] [] r → J G mX12_stepOn 2 0 0 K 123 [(0, .ref (ad G 193))] [] h := by
  intro n
  induction n with
  | zero => intro  h r hL; cases hL
  | succ n ih =>
    intro  h r hL kE
    unfold f_X12_stepOn_l123 at hL
    refine j_aload_n 0 dX12_stepOn_123 rfl ?_
    refine j_aload_n 0 dX12_stepOn_124 rfl ?_
    refine jg_RX12_175 rfl sh_193 dX12_stepOn_125 ?_
    obtain ⟨q20, hq20, hL⟩ := bnd_ex hL
    refine j_callVi (c_X12_byteAt G (hfi h 193 28) h _ hq20) cv_RX12_178 rfl sh_193 (by decide) rfl (by decide) rfl rfl (Nat.le_of_ble_eq_true rfl) dX12_stepOn_128 (by decide) ?_
    refine j_callSi (c_X12_isDigit G q20 h) cv_RX12_191 rfl (by decide) rfl rfl (Nat.le_of_ble_eq_true rfl) dX12_stepOn_131 (by decide) ?_
    refine j_ifz_eq 178 dX12_stepOn_134 (by decide) (fun z21 => ?_) (fun z21 => ?_)
    · replace hL := (if_neg z21).symm.trans hL
      cases hL
      refine j_sub [0] rfl ?_
      exact kE 
    · replace hL := (if_pos z21).symm.trans hL
      refine j_aload_n 0 dX12_stepOn_137 rfl ?_
      refine j_ldc rfl kk_RX12_197 dX12_stepOn_138 ?_
      refine j_bipush 10 dX12_stepOn_140 (by decide) ?_
      refine j_aload_n 0 dX12_stepOn_142 rfl ?_
      refine jg_RX12_194 rfl sh_193 dX12_stepOn_143 ?_
      refine j_imul dX12_stepOn_146 ?_
      refine j_aload_n 0 dX12_stepOn_147 rfl ?_
      refine j_aload_n 0 dX12_stepOn_148 rfl ?_
      refine jg_RX12_175 rfl sh_193 dX12_stepOn_149 ?_
      obtain ⟨q22, hq22, hL⟩ := bnd_ex hL
      refine j_callVi (c_X12_byteAt G (hfi h 193 28) h _ hq22) cv_RX12_178 rfl sh_193 (by decide) rfl (by decide) rfl rfl (Nat.le_of_ble_eq_true rfl) dX12_stepOn_152 (by decide) ?_
      refine j_iadd dX12_stepOn_155 ?_
      refine j_bipush 48 dX12_stepOn_156 (by decide) ?_
      refine j_isub dX12_stepOn_158 ?_
      refine j_callSi (c_J9_min_7cf53 G 100000 (((10 * (hfi h 193 31)) + q22) - 48) h) cv_RX12_198 rfl (by decide) rfl rfl (Nat.le_of_ble_eq_true rfl) dX12_stepOn_159 (by decide) ?_
      refine jp_RX12_194 rfl sh_193 dX12_stepOn_162 ?_
      obtain ⟨h23, eh23, hL⟩ := lt_ex hL
      refine j_heap eh23 ?_
      refine j_aload_n 0 dX12_stepOn_165 rfl ?_
      refine j_dup dX12_stepOn_166 rfl ?_
      refine jg_RX12_175 rfl sh_193 dX12_stepOn_167 ?_
      refine j_iconst 1 dX12_stepOn_170 (by decide) ?_
      refine j_iadd dX12_stepOn_171 ?_
      refine jp_RX12_175 rfl sh_193 dX12_stepOn_172 ?_
      obtain ⟨h24, eh24, hL⟩ := lt_ex hL
      refine j_heap eh24 ?_
      refine j_goto 123 dX12_stepOn_175 (by decide) ?_
      refine j_sub [0] rfl ?_
      exact ih  h24 r hL kE

set_option maxRecDepth 20000 in
theorem cl_X12_stepOn_76 (G : GG) (K : KQ)   : ∀ (n : Nat)  (h : AH) (r : AH), f_X12_stepOn_l76 n h = some r → J G mX12_stepOn 2 0 0 K 103 [(0, .ref (ad G 193))] [] r → J G mX12_stepOn 2 0 0 K 76 [(0, .ref (ad G 193))] [] h := by
  intro n
  induction n with
  | zero => intro  h r hL; cases hL
  | succ n ih =>
    intro  h r hL kE
    unfold f_X12_stepOn_l76 at hL
    refine j_aload_n 0 dX12_stepOn_76 rfl ?_
    refine j_aload_n 0 dX12_stepOn_77 rfl ?_
    refine jg_RX12_175 rfl sh_193 dX12_stepOn_78 ?_
    obtain ⟨q28, hq28, hL⟩ := bnd_ex hL
    refine j_callVi (c_X12_byteAt G (hfi h 193 28) h _ hq28) cv_RX12_178 rfl sh_193 (by decide) rfl (by decide) rfl rfl (Nat.le_of_ble_eq_true rfl) dX12_stepOn_81 (by decide) ?_
    refine j_callSi (c_X12_isLetter G q28 h) cv_RX12_188 rfl (by decide) rfl rfl (Nat.le_of_ble_eq_true rfl) dX12_stepOn_84 (by decide) ?_
    refine j_ifz_eq 103 dX12_stepOn_87 (by decide) (fun z29 => ?_) (fun z29 => ?_)
    · replace hL := (if_neg z29).symm.trans hL
      cases hL
      refine j_sub [0] rfl ?_
      exact kE 
    · replace hL := (if_pos z29).symm.trans hL
      refine j_aload_n 0 dX12_stepOn_90 rfl ?_
      refine j_dup dX12_stepOn_91 rfl ?_
      refine jg_RX12_175 rfl sh_193 dX12_stepOn_92 ?_
      refine j_iconst 1 dX12_stepOn_95 (by decide) ?_
      refine j_iadd dX12_stepOn_96 ?_
      refine jp_RX12_175 rfl sh_193 dX12_stepOn_97 ?_
      obtain ⟨h30, eh30, hL⟩ := lt_ex hL
      refine j_heap eh30 ?_
      refine j_goto 76 dX12_stepOn_100 (by decide) ?_
      refine j_sub [0] rfl ?_
      exact ih  h30 r hL kE

set_option maxRecDepth 20000 in
theorem c_X12_stepOn (G : GG)  (h : AH) (r : AH) (hL : f_X12_stepOn h = some r) : SpV G 2 mX12_stepOn [.ref (ad G 193)] h r := by
  refine sp_v pf_X12_stepOn (Nat.le_of_ble_eq_true rfl) ?_
  show J G mX12_stepOn 2 0 0 (KMv G r) 0 [(0, .ref (ad G 193))] [] h
  obtain ⟨K, hK⟩ : ∃ K, K = KMv G r := ⟨_, rfl⟩
  rw [← hK]
  unfold f_X12_stepOn at hL
  obtain ⟨q7, hq7, hL⟩ := bnd_ex hL
  refine j_sub [0] rfl ?_
  refine cl_X12_stepOn_0 G K  FU  h q7 hq7 ?_
  refine j_aload_n 0 dX12_stepOn_39 rfl ?_
  refine j_aload_n 0 dX12_stepOn_40 rfl ?_
  refine jg_RX12_175 rfl sh_193 dX12_stepOn_41 ?_
  refine jp_RX12_182 rfl sh_193 dX12_stepOn_44 ?_
  obtain ⟨h8, eh8, hL⟩ := lt_ex hL
  refine j_heap eh8 ?_
  refine j_aload_n 0 dX12_stepOn_47 rfl ?_
  refine j_aload_n 0 dX12_stepOn_48 rfl ?_
  refine jg_RX12_175 rfl sh_193 dX12_stepOn_49 ?_
  obtain ⟨q9, hq9, hL⟩ := bnd_ex hL
  refine j_callVi (c_X12_byteAt G (hfi h8 193 28) h8 _ hq9) cv_RX12_178 rfl sh_193 (by decide) rfl (by decide) rfl rfl (Nat.le_of_ble_eq_true rfl) dX12_stepOn_52 (by decide) ?_
  refine j_istore_n (lv' := [(1, .int q9), (0, .ref (ad G 193))]) dX12_stepOn_55 (by decide) rfl ?_
  refine j_iload_n 0 dX12_stepOn_56 rfl ?_
  refine j_iconst (-1) dX12_stepOn_57 (by decide) ?_
  refine j_icmp_ne 69 dX12_stepOn_58 (by decide) (fun z10 => ?_) (fun z10 => ?_)
  · replace hL := (if_neg z10).symm.trans hL
    refine j_iload_n 0 dX12_stepOn_69 rfl ?_
    refine j_callSi (c_X12_isLetter G q9 h8) cv_RX12_188 rfl (by decide) rfl rfl (Nat.le_of_ble_eq_true rfl) dX12_stepOn_70 (by decide) ?_
    refine j_ifz_eq 111 dX12_stepOn_73 (by decide) (fun z11 => ?_) (fun z11 => ?_)
    · replace hL := (if_neg z11).symm.trans hL
      refine j_iload_n 0 dX12_stepOn_111 rfl ?_
      refine j_callSi (c_X12_isDigit G q9 h8) cv_RX12_191 rfl (by decide) rfl rfl (Nat.le_of_ble_eq_true rfl) dX12_stepOn_112 (by decide) ?_
      refine j_ifz_eq 186 dX12_stepOn_115 (by decide) (fun z12 => ?_) (fun z12 => ?_)
      · replace hL := (if_neg z12).symm.trans hL
        refine j_aload_n 1 dX12_stepOn_186 rfl ?_
        refine j_dup dX12_stepOn_187 rfl ?_
        refine jg_RX12_175 rfl sh_193 dX12_stepOn_188 ?_
        refine j_iconst 1 dX12_stepOn_191 (by decide) ?_
        refine j_iadd dX12_stepOn_192 ?_
        refine jp_RX12_175 rfl sh_193 dX12_stepOn_193 ?_
        obtain ⟨h13, eh13, hL⟩ := lt_ex hL
        refine j_heap eh13 ?_
        refine j_aload_n 1 dX12_stepOn_196 rfl ?_
        refine j_iload_n 0 dX12_stepOn_197 rfl ?_
        refine j_bipush 59 dX12_stepOn_198 (by decide) ?_
        refine j_icmp_ne 207 dX12_stepOn_200 (by decide) (fun z14 => ?_) (fun z14 => ?_)
        · replace hL := (if_neg z14).symm.trans hL
          refine j_iconst 4 dX12_stepOn_207 (by decide) ?_
          refine jp_RX12_185 rfl sh_193 dX12_stepOn_208 ?_
          obtain ⟨h15, eh15, hL⟩ := lt_ex hL
          refine j_heap eh15 ?_
          refine j_aload_n 1 dX12_stepOn_211 rfl ?_
          refine j_aload_n 1 dX12_stepOn_212 rfl ?_
          refine jg_RX12_175 rfl sh_193 dX12_stepOn_213 ?_
          refine jp_RX12_204 rfl sh_193 dX12_stepOn_216 ?_
          obtain ⟨h16, eh16, hL⟩ := lt_ex hL
          refine j_heap eh16 ?_
          cases hL
          exact j_retv dX12_stepOn_219 rfl hK
        · replace hL := (if_pos z14).symm.trans hL
          refine j_iconst 3 dX12_stepOn_203 (by decide) ?_
          refine j_goto 208 dX12_stepOn_204 (by decide) ?_
          refine jp_RX12_185 rfl sh_193 dX12_stepOn_208 ?_
          obtain ⟨h17, eh17, hL⟩ := lt_ex hL
          refine j_heap eh17 ?_
          refine j_aload_n 1 dX12_stepOn_211 rfl ?_
          refine j_aload_n 1 dX12_stepOn_212 rfl ?_
          refine jg_RX12_175 rfl sh_193 dX12_stepOn_213 ?_
          refine jp_RX12_204 rfl sh_193 dX12_stepOn_216 ?_
          obtain ⟨h18, eh18, hL⟩ := lt_ex hL
          refine j_heap eh18 ?_
          cases hL
          exact j_retv dX12_stepOn_219 rfl hK
      · replace hL := (if_pos z12).symm.trans hL
        refine j_aload_n 1 dX12_stepOn_118 rfl ?_
        refine j_iconst 0 dX12_stepOn_119 (by decide) ?_
        refine jp_RX12_194 rfl sh_193 dX12_stepOn_120 ?_
        obtain ⟨h19, eh19, hL⟩ := lt_ex hL
        refine j_heap eh19 ?_
        obtain ⟨q25, hq25, hL⟩ := bnd_ex hL
        refine j_sub [1] rfl ?_
        refine cl_X12_stepOn_123 G K  FU  h19 q25 hq25 ?_
        refine j_aload_n 0 dX12_stepOn_178 rfl ?_
        refine j_iconst 2 dX12_stepOn_179 (by decide) ?_
        refine jp_RX12_185 rfl sh_193 dX12_stepOn_180 ?_
        obtain ⟨h26, eh26, hL⟩ := lt_ex hL
        refine j_heap eh26 ?_
        refine j_goto 211 dX12_stepOn_183 (by decide) ?_
        refine j_aload_n 0 dX12_stepOn_211 rfl ?_
        refine j_aload_n 0 dX12_stepOn_212 rfl ?_
        refine jg_RX12_175 rfl sh_193 dX12_stepOn_213 ?_
        refine jp_RX12_204 rfl sh_193 dX12_stepOn_216 ?_
        obtain ⟨h27, eh27, hL⟩ := lt_ex hL
        refine j_heap eh27 ?_
        cases hL
        exact j_retv dX12_stepOn_219 rfl hK
    · replace hL := (if_pos z11).symm.trans hL
      obtain ⟨q31, hq31, hL⟩ := bnd_ex hL
      refine j_sub [1] rfl ?_
      refine cl_X12_stepOn_76 G K  FU  h8 q31 hq31 ?_
      refine j_aload_n 0 dX12_stepOn_103 rfl ?_
      refine j_iconst 1 dX12_stepOn_104 (by decide) ?_
      refine jp_RX12_185 rfl sh_193 dX12_stepOn_105 ?_
      obtain ⟨h32, eh32, hL⟩ := lt_ex hL
      refine j_heap eh32 ?_
      refine j_goto 211 dX12_stepOn_108 (by decide) ?_
      refine j_aload_n 0 dX12_stepOn_211 rfl ?_
      refine j_aload_n 0 dX12_stepOn_212 rfl ?_
      refine jg_RX12_175 rfl sh_193 dX12_stepOn_213 ?_
      refine jp_RX12_204 rfl sh_193 dX12_stepOn_216 ?_
      obtain ⟨h33, eh33, hL⟩ := lt_ex hL
      refine j_heap eh33 ?_
      cases hL
      exact j_retv dX12_stepOn_219 rfl hK
  · replace hL := (if_pos z10).symm.trans hL
    refine j_aload_n 1 dX12_stepOn_61 rfl ?_
    refine j_iconst 0 dX12_stepOn_62 (by decide) ?_
    refine jp_RX12_185 rfl sh_193 dX12_stepOn_63 ?_
    obtain ⟨h34, eh34, hL⟩ := lt_ex hL
    refine j_heap eh34 ?_
    refine j_goto 211 dX12_stepOn_66 (by decide) ?_
    refine j_aload_n 1 dX12_stepOn_211 rfl ?_
    refine j_aload_n 1 dX12_stepOn_212 rfl ?_
    refine jg_RX12_175 rfl sh_193 dX12_stepOn_213 ?_
    refine jp_RX12_204 rfl sh_193 dX12_stepOn_216 ?_
    obtain ⟨h35, eh35, hL⟩ := lt_ex hL
    refine j_heap eh35 ?_
    cases hL
    exact j_retv dX12_stepOn_219 rfl hK

def f_X12_wrong (v1 : Int32) (h : AH) : Option (AH) := if (hfi h 193 34) = 0 then lt (sfi h 193 34 v1) (fun h2 => lt (sfi h2 193 35 (hfi h2 193 32)) (fun h3 => some h3)) else some h
set_option maxRecDepth 20000 in
theorem c_X12_wrong (G : GG) (v1 : Int32) (h : AH) (r : AH) (hL : f_X12_wrong v1 h = some r) : SpV G 1 mX12_wrong [.ref (ad G 193), .int v1] h r := by
  refine sp_v pf_X12_wrong (Nat.le_of_ble_eq_true rfl) ?_
  show J G mX12_wrong 1 0 0 (KMv G r) 0 [(0, .ref (ad G 193)), (1, .int v1)] [] h
  obtain ⟨K, hK⟩ : ∃ K, K = KMv G r := ⟨_, rfl⟩
  rw [← hK]
  unfold f_X12_wrong at hL
  refine j_aload_n 0 dX12_wrong_0 rfl ?_
  refine jg_RX12_207 rfl sh_193 dX12_wrong_1 ?_
  refine j_if_eq 8 dX12_wrong_4 (by decide) (fun z1 => ?_) (fun z1 => ?_)
  · replace hL := (if_pos z1).symm.trans hL
    refine j_aload_n 0 dX12_wrong_8 rfl ?_
    refine j_iload_n 1 dX12_wrong_9 rfl ?_
    refine jp_RX12_207 rfl sh_193 dX12_wrong_10 ?_
    obtain ⟨h2, eh2, hL⟩ := lt_ex hL
    refine j_heap eh2 ?_
    refine j_aload_n 0 dX12_wrong_13 rfl ?_
    refine j_aload_n 0 dX12_wrong_14 rfl ?_
    refine jg_RX12_182 rfl sh_193 dX12_wrong_15 ?_
    refine jp_RX12_210 rfl sh_193 dX12_wrong_18 ?_
    obtain ⟨h3, eh3, hL⟩ := lt_ex hL
    refine j_heap eh3 ?_
    cases hL
    exact j_retv dX12_wrong_21 rfl hK
  · replace hL := (if_neg z1).symm.trans hL
    cases hL
    exact j_retv dX12_wrong_7 rfl hK

def f_X12_is_l39 (t1 : Nat) (h : AH) : Nat → Bool → Int32 → Option (Bool)
  | 0, _, _ => none
  | n + 1, v2, v3 => if v2 = true then gd (t1 < 35) (if (slen t1) ≤ v3 then some v2 else gd (t1 < 35 ∧ ib v3 (strLen.getD t1 0) = true) (gd (ib ((hfi h 193 32) + v3) 500 = true) (if (schr t1 v3) = (hia h 219 (cl ((hfi h 193 32) + v3))) then f_X12_is_l39 t1 h n true (v3 + 1) else f_X12_is_l39 t1 h n false (v3 + 1)))) else some v2
def f_X12_is (t1 : Nat) (h : AH) : Option (Bool) := lt (fun (x6 : Bool) => bnd (f_X12_is_l39 t1 h FU x6 0) (fun q13 => some q13)) (fun j2 => if (hfi h 193 34) = 0 then if (hfi h 193 30) = 1 then gd (t1 < 35) (if (slen t1) = ((hfi h 193 33) - (hfi h 193 32)) then j2 true else j2 false) else j2 false else j2 false)
set_option maxRecDepth 20000 in
theorem cl_X12_is_39 (G : GG) (K : KQ) (t1 : Nat)  : ∀ (n : Nat) (v2 : Bool) (v3 : Int32) (h : AH) (r : Bool), f_X12_is_l39 t1 h n v2 v3 = some r → J G mX12_is 5 0 0 K 82 [(2, .int (bI r))] [] h → J G mX12_is 5 0 0 K 39 [(0, .ref (ad G 193)), (1, .ref (gK G t1)), (2, .int (bI v2)), (3, .int v3)] [] h := by
  intro n
  induction n with
  | zero => intro v2 v3 h r hL; cases hL
  | succ n ih =>
    intro v2 v3 h r hL kE
    unfold f_X12_is_l39 at hL
    refine j_iload_n 2 dX12_is_39 rfl ?_
    refine j_ifz_eq 82 dX12_is_40 (by decide) (fun z7 => ?_) (fun z7 => ?_)
    · replace hL := (if_neg z7).symm.trans hL
      cases hL
      refine j_sub [2] rfl ?_
      exact kE 
    · replace hL := (if_pos z7).symm.trans hL
      refine j_iload_n 3 dX12_is_43 rfl ?_
      refine j_aload_n 1 dX12_is_44 rfl ?_
      obtain ⟨g8, hL⟩ := gd_ex hL
      refine j_callStr (c_String_length G t1 g8 h) cv_RX12_213 rfl (by decide) rfl rfl (Nat.le_of_ble_eq_true rfl) dX12_is_45 (by decide) g8 rfl ?_
      refine j_icmp_ge 82 dX12_is_48 (by decide) (fun z9 => ?_) (fun z9 => ?_)
      · replace hL := (if_pos z9).symm.trans hL
        cases hL
        refine j_sub [2] rfl ?_
        exact kE 
      · replace hL := (if_neg z9).symm.trans hL
        refine j_aload_n 1 dX12_is_51 rfl ?_
        refine j_iload_n 3 dX12_is_52 rfl ?_
        obtain ⟨g10, hL⟩ := gd_ex hL
        refine j_callStr (c_String_charAt G t1 v3 g10.1 (ib_in g10.2) h) cv_RX12_217 rfl (by decide) rfl rfl (Nat.le_of_ble_eq_true rfl) dX12_is_53 (by decide) g10.1 rfl ?_
        refine j_aload_n 0 dX12_is_56 rfl ?_
        refine jg_RX12_99 rfl sh_193 dX12_is_57 ?_
        refine j_aload_n 0 dX12_is_60 rfl ?_
        refine jg_RX12_182 rfl sh_193 dX12_is_61 ?_
        refine j_iload_n 3 dX12_is_64 rfl ?_
        refine j_iadd dX12_is_65 ?_
        obtain ⟨g11, hL⟩ := gd_ex hL
        refine j_iald (shf_12_26 sh_193) (ib_in g11) dX12_is_66 ?_
        refine j_icmp_ne 74 dX12_is_67 (by decide) (fun z12 => ?_) (fun z12 => ?_)
        · replace hL := (if_neg z12).symm.trans hL
          refine j_iconst 0 dX12_is_74 (by decide) ?_
          refine j_istore_n (lv' := [(2, .int 0), (0, .ref (ad G 193)), (1, .ref (gK G t1)), (3, .int v3)]) dX12_is_75 (by decide) rfl ?_
          refine j_iinc (lv' := [(3, .int (v3 + 1)), (2, .int 0), (0, .ref (ad G 193)), (1, .ref (gK G t1))]) 3 dX12_is_76 rfl rfl (by decide) rfl ?_
          refine j_goto 39 dX12_is_79 (by decide) ?_
          refine j_lv (lv' := [(3, .int (v3 + 1)), (2, .int (bI false)), (0, .ref (ad G 193)), (1, .ref (gK G t1))]) rfl rfl rfl ?_
          refine j_sub [2, 3, 1, 0] rfl ?_
          exact ih false (v3 + 1) h r hL kE
        · replace hL := (if_pos z12).symm.trans hL
          refine j_iconst 1 dX12_is_70 (by decide) ?_
          refine j_goto 75 dX12_is_71 (by decide) ?_
          refine j_istore_n (lv' := [(2, .int 1), (0, .ref (ad G 193)), (1, .ref (gK G t1)), (3, .int v3)]) dX12_is_75 (by decide) rfl ?_
          refine j_iinc (lv' := [(3, .int (v3 + 1)), (2, .int 1), (0, .ref (ad G 193)), (1, .ref (gK G t1))]) 3 dX12_is_76 rfl rfl (by decide) rfl ?_
          refine j_goto 39 dX12_is_79 (by decide) ?_
          refine j_lv (lv' := [(3, .int (v3 + 1)), (2, .int (bI true)), (0, .ref (ad G 193)), (1, .ref (gK G t1))]) rfl rfl rfl ?_
          refine j_sub [2, 3, 1, 0] rfl ?_
          exact ih true (v3 + 1) h r hL kE

set_option maxRecDepth 20000 in
theorem c_X12_is (G : GG) (t1 : Nat) (h : AH) (r : Bool) (hL : f_X12_is t1 h = some r) : SpI G 5 mX12_is [.ref (ad G 193), .ref (gK G t1)] h (bI r) h := by
  refine sp_i pf_X12_is (Nat.le_of_ble_eq_true rfl) ?_
  show J G mX12_is 5 0 0 (KMi G (bI r) h) 0 [(0, .ref (ad G 193)), (1, .ref (gK G t1))] [] h
  obtain ⟨K, hK⟩ : ∃ K, K = KMi G (bI r) h := ⟨_, rfl⟩
  rw [← hK]
  unfold f_X12_is at hL
  refine j_aload_n 0 dX12_is_0 rfl ?_
  refine jg_RX12_207 rfl sh_193 dX12_is_1 ?_
  obtain ⟨j2, ej2, hL⟩ := lt_ex hL
  have kj2 : ∀ (x6 : Bool), j2 x6 = some r → J G mX12_is 5 0 0 K 36 [(0, .ref (ad G 193)), (1, .ref (gK G t1))] [.int (bI x6)] h := by
    intro x6 hL
    rw [ej2] at hL
    replace hL : (bnd (f_X12_is_l39 t1 h FU x6 0) (fun q13 => some q13)) = some r := hL
    refine j_istore_n (lv' := [(2, .int (bI x6)), (0, .ref (ad G 193)), (1, .ref (gK G t1))]) dX12_is_36 (by decide) rfl ?_
    refine j_iconst 0 dX12_is_37 (by decide) ?_
    refine j_istore_n (lv' := [(3, .int 0), (2, .int (bI x6)), (0, .ref (ad G 193)), (1, .ref (gK G t1))]) dX12_is_38 (by decide) rfl ?_
    obtain ⟨q13, hq13, hL⟩ := bnd_ex hL
    refine j_sub [2, 3, 1, 0] rfl ?_
    refine cl_X12_is_39 G K t1 FU x6 0 h q13 hq13 ?_
    refine j_iload_n 0 dX12_is_82 rfl ?_
    cases hL
    exact j_retz dX12_is_83 rfl hK
  refine j_if_ne 35 dX12_is_4 (by decide) (fun z1 => ?_) (fun z1 => ?_)
  · replace hL := (if_neg z1).symm.trans hL
    refine j_iconst 0 dX12_is_35 (by decide) ?_
    refine j_sub [0, 1] rfl ?_
    exact kj2 false hL
  · replace hL := (if_pos z1).symm.trans hL
    refine j_aload_n 0 dX12_is_7 rfl ?_
    refine jg_RX12_185 rfl sh_193 dX12_is_8 ?_
    refine j_iconst 1 dX12_is_11 (by decide) ?_
    refine j_icmp_ne 35 dX12_is_12 (by decide) (fun z3 => ?_) (fun z3 => ?_)
    · replace hL := (if_neg z3).symm.trans hL
      refine j_iconst 0 dX12_is_35 (by decide) ?_
      refine j_sub [0, 1] rfl ?_
      exact kj2 false hL
    · replace hL := (if_pos z3).symm.trans hL
      refine j_aload_n 1 dX12_is_15 rfl ?_
      obtain ⟨g4, hL⟩ := gd_ex hL
      refine j_callStr (c_String_length G t1 g4 h) cv_RX12_213 rfl (by decide) rfl rfl (Nat.le_of_ble_eq_true rfl) dX12_is_16 (by decide) g4 rfl ?_
      refine j_aload_n 0 dX12_is_19 rfl ?_
      refine jg_RX12_204 rfl sh_193 dX12_is_20 ?_
      refine j_aload_n 0 dX12_is_23 rfl ?_
      refine jg_RX12_182 rfl sh_193 dX12_is_24 ?_
      refine j_isub dX12_is_27 ?_
      refine j_icmp_ne 35 dX12_is_28 (by decide) (fun z5 => ?_) (fun z5 => ?_)
      · replace hL := (if_neg z5).symm.trans hL
        refine j_iconst 0 dX12_is_35 (by decide) ?_
        refine j_sub [0, 1] rfl ?_
        exact kj2 false hL
      · replace hL := (if_pos z5).symm.trans hL
        refine j_iconst 1 dX12_is_31 (by decide) ?_
        refine j_goto 36 dX12_is_32 (by decide) ?_
        refine j_sub [0, 1] rfl ?_
        exact kj2 true hL

def f_X12_which_l2 (a1 : Nat) (n1 : Nat) (h : AH) : Nat → Int32 → Option ((Unit) ⊕ (Int32))
  | 0, _ => none
  | n + 1, v2 => if (Int32.ofNat n1) ≤ v2 then some (.inl ()) else gd (ib v2 n1 = true) (bnd (f_X12_is (strAt a1 (cl v2)) h) (fun q3 => if q3 = true then some (.inr v2) else f_X12_which_l2 a1 n1 h n (v2 + 1)))
def f_X12_which (a1 n1 : Nat) (h : AH) : Option (Int32) := bnd (f_X12_which_l2 a1 n1 h FU 0) (fun q5 => Sum.elim (fun xq5 => some (-1)) (fun xq5 => some xq5) q5)
set_option maxRecDepth 20000 in
theorem cl_X12_which_2 (G : GG) (K : KQ) (a1 : Nat) {n1 : Nat} (s1 : SH a1 = (24, n1)) : ∀ (n : Nat) (v2 : Int32) (h : AH) (r : (Unit) ⊕ (Int32)), f_X12_which_l2 a1 n1 h n v2 = some r → (∀ x, r = .inl x → J G mX12_which 6 0 0 K 26 [] [] h) → (∀ x, r = .inr x → K = KMi G x h) → J G mX12_which 6 0 0 K 2 [(0, .ref (ad G 193)), (1, .ref (ad G a1)), (2, .int v2)] [] h := by
  intro n
  induction n with
  | zero => intro v2 h r hL; cases hL
  | succ n ih =>
    intro v2 h r hL kE kR
    unfold f_X12_which_l2 at hL
    refine j_iload_n 2 dX12_which_2 rfl ?_
    refine j_aload_n 1 dX12_which_3 rfl ?_
    refine j_alenS s1 dX12_which_4 ?_
    refine j_icmp_ge 26 dX12_which_5 (by decide) (fun z1 => ?_) (fun z1 => ?_)
    · replace hL := (if_pos z1).symm.trans hL
      cases hL
      refine j_sub [] rfl ?_
      exact kE _ rfl
    · replace hL := (if_neg z1).symm.trans hL
      refine j_aload_n 0 dX12_which_8 rfl ?_
      refine j_aload_n 1 dX12_which_9 rfl ?_
      refine j_iload_n 2 dX12_which_10 rfl ?_
      obtain ⟨g2, hL⟩ := gd_ex hL
      refine j_aldS s1 (ib_in g2) dX12_which_11 ?_
      obtain ⟨q3, hq3, hL⟩ := bnd_ex hL
      refine j_callVi (c_X12_is G (strAt a1 (cl v2)) h _ hq3) cv_RX12_221 rfl sh_193 (by decide) rfl (by decide) rfl rfl (Nat.le_of_ble_eq_true rfl) dX12_which_12 (by decide) ?_
      refine j_ifz_eq 20 dX12_which_15 (by decide) (fun z4 => ?_) (fun z4 => ?_)
      · replace hL := (if_neg z4).symm.trans hL
        refine j_iinc (lv' := [(2, .int (v2 + 1)), (0, .ref (ad G 193)), (1, .ref (ad G a1))]) 2 dX12_which_20 rfl rfl (by decide) rfl ?_
        refine j_goto 2 dX12_which_23 (by decide) ?_
        refine j_sub [1, 2, 0] rfl ?_
        exact ih (v2 + 1) h r hL kE kR
      · replace hL := (if_pos z4).symm.trans hL
        refine j_iload_n 2 dX12_which_18 rfl ?_
        cases hL
        exact j_reti dX12_which_19 rfl (kR _ rfl)

set_option maxRecDepth 20000 in
theorem c_X12_which (G : GG) (a1 n1 : Nat) (s1 : SH a1 = (24, n1)) (h : AH) (r : Int32) (hL : f_X12_which a1 n1 h = some r) : SpI G 6 mX12_which [.ref (ad G 193), .ref (ad G a1)] h r h := by
  refine sp_i pf_X12_which (Nat.le_of_ble_eq_true rfl) ?_
  show J G mX12_which 6 0 0 (KMi G r h) 0 [(0, .ref (ad G 193)), (1, .ref (ad G a1))] [] h
  obtain ⟨K, hK⟩ : ∃ K, K = KMi G r h := ⟨_, rfl⟩
  rw [← hK]
  unfold f_X12_which at hL
  refine j_iconst 0 dX12_which_0 (by decide) ?_
  refine j_istore_n (lv' := [(2, .int 0), (0, .ref (ad G 193)), (1, .ref (ad G a1))]) dX12_which_1 (by decide) rfl ?_
  obtain ⟨q5, hq5, hL⟩ := bnd_ex hL
  refine j_sub [1, 2, 0] rfl ?_
  refine cl_X12_which_2 G K a1 s1 FU 0 h q5 hq5 (fun xq5 eq5 => ?_) (fun xq5 eq5 => ?_)
  · subst eq5
    refine j_iconst (-1) dX12_which_26 (by decide) ?_
    cases hL
    exact j_reti dX12_which_27 rfl hK
  · subst eq5
    cases hL
    exact hK

def f_X12_passes (t1 : Nat) (h : AH) : Option (Bool × AH) := bnd (f_X12_is t1 h) (fun q1 => if q1 = true then bnd (f_X12_stepOn h) (fun q3 => some (q1, q3)) else some (q1, h))
set_option maxRecDepth 20000 in
theorem c_X12_passes (G : GG) (t1 : Nat) (h : AH) (r : Bool × AH) (hL : f_X12_passes t1 h = some r) : SpI G 6 mX12_passes [.ref (ad G 193), .ref (gK G t1)] h (bI r.1) r.2 := by
  refine sp_i pf_X12_passes (Nat.le_of_ble_eq_true rfl) ?_
  show J G mX12_passes 6 0 0 (KMi G (bI r.1) r.2) 0 [(0, .ref (ad G 193)), (1, .ref (gK G t1))] [] h
  obtain ⟨K, hK⟩ : ∃ K, K = KMi G (bI r.1) r.2 := ⟨_, rfl⟩
  rw [← hK]
  unfold f_X12_passes at hL
  refine j_aload_n 0 dX12_passes_0 rfl ?_
  refine j_aload_n 1 dX12_passes_1 rfl ?_
  obtain ⟨q1, hq1, hL⟩ := bnd_ex hL
  refine j_callVi (c_X12_is G t1 h _ hq1) cv_RX12_221 rfl sh_193 (by decide) rfl (by decide) rfl rfl (Nat.le_of_ble_eq_true rfl) dX12_passes_2 (by decide) ?_
  refine j_istore_n (lv' := [(2, .int (bI q1)), (0, .ref (ad G 193)), (1, .ref (gK G t1))]) dX12_passes_5 (by decide) rfl ?_
  refine j_iload_n 0 dX12_passes_6 rfl ?_
  refine j_ifz_eq 14 dX12_passes_7 (by decide) (fun z2 => ?_) (fun z2 => ?_)
  · replace hL := (if_neg z2).symm.trans hL
    refine j_iload_n 0 dX12_passes_14 rfl ?_
    cases hL
    exact j_retz dX12_passes_15 rfl hK
  · replace hL := (if_pos z2).symm.trans hL
    refine j_aload_n 1 dX12_passes_10 rfl ?_
    obtain ⟨q3, hq3, hL⟩ := bnd_ex hL
    refine j_callVv (c_X12_stepOn G  h _ hq3) cv_RX12_225 rfl sh_193 (by decide) rfl (by decide) rfl rfl (Nat.le_of_ble_eq_true rfl) dX12_passes_11 (by decide) ?_
    refine j_iload_n 0 dX12_passes_14 rfl ?_
    cases hL
    exact j_retz dX12_passes_15 rfl hK

def f_X12_readNumber (v1 : Int32) (v2 : Int32) (h : AH) : Option (Int32 × AH) := if (hfi h 193 34) = 0 then lt (fun  (h11 : AH) => if (hfi h11 193 34) = 0 then bnd (f_X12_stepOn h11) (fun q13 => some (hfi h11 193 31, q13)) else some (hfi h11 193 31, h11)) (fun j3 => if (hfi h 193 30) = 2 then if 4 < ((hfi h 193 33) - (hfi h 193 32)) then bnd (f_X12_wrong 2 h) (fun q5 => j3  q5) else if (hfi h 193 31) < v1 then bnd (f_X12_wrong 2 h) (fun q7 => j3  q7) else if (hfi h 193 31) ≤ v2 then j3  h else bnd (f_X12_wrong 2 h) (fun q9 => j3  q9) else bnd (f_X12_wrong 1 h) (fun q10 => j3  q10)) else some (0, h)
set_option maxRecDepth 20000 in
theorem c_X12_readNumber (G : GG) (v1 : Int32) (v2 : Int32) (h : AH) (r : Int32 × AH) (hL : f_X12_readNumber v1 v2 h = some r) : SpI G 3 mX12_readNumber [.ref (ad G 193), .int v1, .int v2] h r.1 r.2 := by
  refine sp_i pf_X12_readNumber (Nat.le_of_ble_eq_true rfl) ?_
  show J G mX12_readNumber 3 0 0 (KMi G r.1 r.2) 0 [(0, .ref (ad G 193)), (1, .int v1), (2, .int v2)] [] h
  obtain ⟨K, hK⟩ : ∃ K, K = KMi G r.1 r.2 := ⟨_, rfl⟩
  rw [← hK]
  unfold f_X12_readNumber at hL
  refine j_aload_n 0 dX12_readNumber_0 rfl ?_
  refine jg_RX12_207 rfl sh_193 dX12_readNumber_1 ?_
  refine j_if_eq 9 dX12_readNumber_4 (by decide) (fun z1 => ?_) (fun z1 => ?_)
  · replace hL := (if_pos z1).symm.trans hL
    refine j_aload_n 0 dX12_readNumber_9 rfl ?_
    refine jg_RX12_185 rfl sh_193 dX12_readNumber_10 ?_
    refine j_iconst 2 dX12_readNumber_13 (by decide) ?_
    obtain ⟨j3, ej3, hL⟩ := lt_ex hL
    have kj3 : ∀  (h11 : AH), j3  h11 = some r → J G mX12_readNumber 3 0 0 K 59 [(0, .ref (ad G 193))] [] h11 := by
      intro  h11 hL
      rw [ej3] at hL
      replace hL : (if (hfi h11 193 34) = 0 then bnd (f_X12_stepOn h11) (fun q13 => some (hfi h11 193 31, q13)) else some (hfi h11 193 31, h11)) = some r := hL
      refine j_aload_n 0 dX12_readNumber_59 rfl ?_
      refine jg_RX12_194 rfl sh_193 dX12_readNumber_60 ?_
      refine j_istore_n (lv' := [(3, .int (hfi h11 193 31)), (0, .ref (ad G 193))]) dX12_readNumber_63 (by decide) rfl ?_
      refine j_aload_n 1 dX12_readNumber_64 rfl ?_
      refine jg_RX12_207 rfl sh_193 dX12_readNumber_65 ?_
      refine j_if_ne 75 dX12_readNumber_68 (by decide) (fun z12 => ?_) (fun z12 => ?_)
      · replace hL := (if_neg z12).symm.trans hL
        refine j_iload_n 0 dX12_readNumber_75 rfl ?_
        cases hL
        exact j_reti dX12_readNumber_76 rfl hK
      · replace hL := (if_pos z12).symm.trans hL
        refine j_aload_n 1 dX12_readNumber_71 rfl ?_
        obtain ⟨q13, hq13, hL⟩ := bnd_ex hL
        refine j_callVv (c_X12_stepOn G  h11 _ hq13) cv_RX12_225 rfl sh_193 (by decide) rfl (by decide) rfl rfl (Nat.le_of_ble_eq_true rfl) dX12_readNumber_72 (by decide) ?_
        refine j_iload_n 0 dX12_readNumber_75 rfl ?_
        cases hL
        exact j_reti dX12_readNumber_76 rfl hK
    refine j_icmp_eq 25 dX12_readNumber_14 (by decide) (fun z2 => ?_) (fun z2 => ?_)
    · replace hL := (if_pos z2).symm.trans hL
      refine j_aload_n 0 dX12_readNumber_25 rfl ?_
      refine jg_RX12_204 rfl sh_193 dX12_readNumber_26 ?_
      refine j_aload_n 0 dX12_readNumber_29 rfl ?_
      refine jg_RX12_182 rfl sh_193 dX12_readNumber_30 ?_
      refine j_isub dX12_readNumber_33 ?_
      refine j_iconst 4 dX12_readNumber_34 (by decide) ?_
      refine j_icmp_gt 54 dX12_readNumber_35 (by decide) (fun z4 => ?_) (fun z4 => ?_)
      · replace hL := (if_pos z4).symm.trans hL
        refine j_aload_n 0 dX12_readNumber_54 rfl ?_
        refine j_iconst 2 dX12_readNumber_55 (by decide) ?_
        obtain ⟨q5, hq5, hL⟩ := bnd_ex hL
        refine j_callVv (c_X12_wrong G 2 h _ hq5) cv_RX12_228 rfl sh_193 (by decide) rfl (by decide) rfl rfl (Nat.le_of_ble_eq_true rfl) dX12_readNumber_56 (by decide) ?_
        refine j_sub [0] rfl ?_
        exact kj3  q5 hL
      · replace hL := (if_neg z4).symm.trans hL
        refine j_aload_n 0 dX12_readNumber_38 rfl ?_
        refine jg_RX12_194 rfl sh_193 dX12_readNumber_39 ?_
        refine j_iload_n 1 dX12_readNumber_42 rfl ?_
        refine j_icmp_lt 54 dX12_readNumber_43 (by decide) (fun z6 => ?_) (fun z6 => ?_)
        · replace hL := (if_pos z6).symm.trans hL
          refine j_aload_n 0 dX12_readNumber_54 rfl ?_
          refine j_iconst 2 dX12_readNumber_55 (by decide) ?_
          obtain ⟨q7, hq7, hL⟩ := bnd_ex hL
          refine j_callVv (c_X12_wrong G 2 h _ hq7) cv_RX12_228 rfl sh_193 (by decide) rfl (by decide) rfl rfl (Nat.le_of_ble_eq_true rfl) dX12_readNumber_56 (by decide) ?_
          refine j_sub [0] rfl ?_
          exact kj3  q7 hL
        · replace hL := (if_neg z6).symm.trans hL
          refine j_aload_n 0 dX12_readNumber_46 rfl ?_
          refine jg_RX12_194 rfl sh_193 dX12_readNumber_47 ?_
          refine j_iload_n 2 dX12_readNumber_50 rfl ?_
          refine j_icmp_le 59 dX12_readNumber_51 (by decide) (fun z8 => ?_) (fun z8 => ?_)
          · replace hL := (if_pos z8).symm.trans hL
            refine j_sub [0] rfl ?_
            exact kj3  h hL
          · replace hL := (if_neg z8).symm.trans hL
            refine j_aload_n 0 dX12_readNumber_54 rfl ?_
            refine j_iconst 2 dX12_readNumber_55 (by decide) ?_
            obtain ⟨q9, hq9, hL⟩ := bnd_ex hL
            refine j_callVv (c_X12_wrong G 2 h _ hq9) cv_RX12_228 rfl sh_193 (by decide) rfl (by decide) rfl rfl (Nat.le_of_ble_eq_true rfl) dX12_readNumber_56 (by decide) ?_
            refine j_sub [0] rfl ?_
            exact kj3  q9 hL
    · replace hL := (if_neg z2).symm.trans hL
      refine j_aload_n 0 dX12_readNumber_17 rfl ?_
      refine j_iconst 1 dX12_readNumber_18 (by decide) ?_
      obtain ⟨q10, hq10, hL⟩ := bnd_ex hL
      refine j_callVv (c_X12_wrong G 1 h _ hq10) cv_RX12_228 rfl sh_193 (by decide) rfl (by decide) rfl rfl (Nat.le_of_ble_eq_true rfl) dX12_readNumber_19 (by decide) ?_
      refine j_goto 59 dX12_readNumber_22 (by decide) ?_
      refine j_sub [0] rfl ?_
      exact kj3  q10 hL
  · replace hL := (if_neg z1).symm.trans hL
    refine j_iconst 0 dX12_readNumber_7 (by decide) ?_
    cases hL
    exact j_reti dX12_readNumber_8 rfl hK

def f_X12_perhaps (t1 : Nat) (v2 : Int32) (v3 : Int32) (h : AH) : Option (Int32 × AH) := bnd (f_X12_passes t1 h) (fun q1 => if q1.1 = true then bnd (f_X12_readNumber 0 v2 q1.2) (fun q3 => some (q3.1, q3.2)) else some (v3, q1.2))
set_option maxRecDepth 20000 in
theorem c_X12_perhaps (G : GG) (t1 : Nat) (v2 : Int32) (v3 : Int32) (h : AH) (r : Int32 × AH) (hL : f_X12_perhaps t1 v2 v3 h = some r) : SpI G 7 mX12_perhaps [.ref (ad G 193), .ref (gK G t1), .int v2, .int v3] h r.1 r.2 := by
  refine sp_i pf_X12_perhaps (Nat.le_of_ble_eq_true rfl) ?_
  show J G mX12_perhaps 7 0 0 (KMi G r.1 r.2) 0 [(0, .ref (ad G 193)), (1, .ref (gK G t1)), (2, .int v2), (3, .int v3)] [] h
  obtain ⟨K, hK⟩ : ∃ K, K = KMi G r.1 r.2 := ⟨_, rfl⟩
  rw [← hK]
  unfold f_X12_perhaps at hL
  refine j_aload_n 0 dX12_perhaps_0 rfl ?_
  refine j_aload_n 1 dX12_perhaps_1 rfl ?_
  obtain ⟨q1, hq1, hL⟩ := bnd_ex hL
  refine j_callVi (c_X12_passes G t1 h _ hq1) cv_RX12_232 rfl sh_193 (by decide) rfl (by decide) rfl rfl (Nat.le_of_ble_eq_true rfl) dX12_perhaps_2 (by decide) ?_
  refine j_ifz_eq 17 dX12_perhaps_5 (by decide) (fun z2 => ?_) (fun z2 => ?_)
  · replace hL := (if_neg z2).symm.trans hL
    refine j_iload_n 3 dX12_perhaps_17 rfl ?_
    cases hL
    exact j_reti dX12_perhaps_18 rfl hK
  · replace hL := (if_pos z2).symm.trans hL
    refine j_aload_n 0 dX12_perhaps_8 rfl ?_
    refine j_iconst 0 dX12_perhaps_9 (by decide) ?_
    refine j_iload_n 2 dX12_perhaps_10 rfl ?_
    obtain ⟨q3, hq3, hL⟩ := bnd_ex hL
    refine j_callVi (c_X12_readNumber G 0 v2 q1.2 _ hq3) cv_RX12_235 rfl sh_193 (by decide) rfl (by decide) rfl rfl (Nat.le_of_ble_eq_true rfl) dX12_perhaps_11 (by decide) ?_
    refine j_goto 18 dX12_perhaps_14 (by decide) ?_
    cases hL
    exact j_reti dX12_perhaps_18 rfl hK

def f_X12_semi  (h : AH) : Option (AH) := if (hfi h 193 34) = 0 then if (hfi h 193 30) = 3 then if (hfi h 193 34) = 0 then bnd (f_X12_stepOn h) (fun q6 => some q6) else some h else bnd (f_X12_wrong 1 h) (fun q7 => if (hfi q7 193 34) = 0 then bnd (f_X12_stepOn q7) (fun q9 => some q9) else some q7) else if (hfi h 193 34) = 0 then bnd (f_X12_stepOn h) (fun q3 => some q3) else some h
set_option maxRecDepth 20000 in
theorem c_X12_semi (G : GG)  (h : AH) (r : AH) (hL : f_X12_semi h = some r) : SpV G 3 mX12_semi [.ref (ad G 193)] h r := by
  refine sp_v pf_X12_semi (Nat.le_of_ble_eq_true rfl) ?_
  show J G mX12_semi 3 0 0 (KMv G r) 0 [(0, .ref (ad G 193))] [] h
  obtain ⟨K, hK⟩ : ∃ K, K = KMv G r := ⟨_, rfl⟩
  rw [← hK]
  unfold f_X12_semi at hL
  refine j_aload_n 0 dX12_semi_0 rfl ?_
  refine jg_RX12_207 rfl sh_193 dX12_semi_1 ?_
  refine j_if_ne 20 dX12_semi_4 (by decide) (fun z1 => ?_) (fun z1 => ?_)
  · replace hL := (if_neg z1).symm.trans hL
    refine j_aload_n 0 dX12_semi_20 rfl ?_
    refine jg_RX12_207 rfl sh_193 dX12_semi_21 ?_
    refine j_if_ne 31 dX12_semi_24 (by decide) (fun z2 => ?_) (fun z2 => ?_)
    · replace hL := (if_neg z2).symm.trans hL
      cases hL
      exact j_retv dX12_semi_31 rfl hK
    · replace hL := (if_pos z2).symm.trans hL
      refine j_aload_n 0 dX12_semi_27 rfl ?_
      obtain ⟨q3, hq3, hL⟩ := bnd_ex hL
      refine j_callVv (c_X12_stepOn G  h _ hq3) cv_RX12_225 rfl sh_193 (by decide) rfl (by decide) rfl rfl (Nat.le_of_ble_eq_true rfl) dX12_semi_28 (by decide) ?_
      cases hL
      exact j_retv dX12_semi_31 rfl hK
  · replace hL := (if_pos z1).symm.trans hL
    refine j_aload_n 0 dX12_semi_7 rfl ?_
    refine jg_RX12_185 rfl sh_193 dX12_semi_8 ?_
    refine j_iconst 3 dX12_semi_11 (by decide) ?_
    refine j_icmp_eq 20 dX12_semi_12 (by decide) (fun z4 => ?_) (fun z4 => ?_)
    · replace hL := (if_pos z4).symm.trans hL
      refine j_aload_n 0 dX12_semi_20 rfl ?_
      refine jg_RX12_207 rfl sh_193 dX12_semi_21 ?_
      refine j_if_ne 31 dX12_semi_24 (by decide) (fun z5 => ?_) (fun z5 => ?_)
      · replace hL := (if_neg z5).symm.trans hL
        cases hL
        exact j_retv dX12_semi_31 rfl hK
      · replace hL := (if_pos z5).symm.trans hL
        refine j_aload_n 0 dX12_semi_27 rfl ?_
        obtain ⟨q6, hq6, hL⟩ := bnd_ex hL
        refine j_callVv (c_X12_stepOn G  h _ hq6) cv_RX12_225 rfl sh_193 (by decide) rfl (by decide) rfl rfl (Nat.le_of_ble_eq_true rfl) dX12_semi_28 (by decide) ?_
        cases hL
        exact j_retv dX12_semi_31 rfl hK
    · replace hL := (if_neg z4).symm.trans hL
      refine j_aload_n 0 dX12_semi_15 rfl ?_
      refine j_iconst 1 dX12_semi_16 (by decide) ?_
      obtain ⟨q7, hq7, hL⟩ := bnd_ex hL
      refine j_callVv (c_X12_wrong G 1 h _ hq7) cv_RX12_228 rfl sh_193 (by decide) rfl (by decide) rfl rfl (Nat.le_of_ble_eq_true rfl) dX12_semi_17 (by decide) ?_
      refine j_aload_n 0 dX12_semi_20 rfl ?_
      refine jg_RX12_207 rfl sh_193 dX12_semi_21 ?_
      refine j_if_ne 31 dX12_semi_24 (by decide) (fun z8 => ?_) (fun z8 => ?_)
      · replace hL := (if_neg z8).symm.trans hL
        cases hL
        exact j_retv dX12_semi_31 rfl hK
      · replace hL := (if_pos z8).symm.trans hL
        refine j_aload_n 0 dX12_semi_27 rfl ?_
        obtain ⟨q9, hq9, hL⟩ := bnd_ex hL
        refine j_callVv (c_X12_stepOn G  q7 _ hq9) cv_RX12_225 rfl sh_193 (by decide) rfl (by decide) rfl rfl (Nat.le_of_ble_eq_true rfl) dX12_semi_28 (by decide) ?_
        cases hL
        exact j_retv dX12_semi_31 rfl hK

def f_X12_begin (v1 : Int32) (h : AH) : Option (AH) := lt (sfi h 193 27 0) (fun h1 => lt (sfi h1 193 29 v1) (fun h2 => lt (sfi h2 193 28 0) (fun h3 => lt (sfi h3 193 34 0) (fun h4 => lt (sfi h4 193 36 (-1)) (fun h5 => bnd (f_X12_stepOn h5) (fun q6 => some q6))))))
set_option maxRecDepth 20000 in
theorem c_X12_begin (G : GG) (v1 : Int32) (h : AH) (r : AH) (hL : f_X12_begin v1 h = some r) : SpV G 3 mX12_begin [.ref (ad G 193), .int v1] h r := by
  refine sp_v pf_X12_begin (Nat.le_of_ble_eq_true rfl) ?_
  show J G mX12_begin 3 0 0 (KMv G r) 0 [(0, .ref (ad G 193)), (1, .int v1)] [] h
  obtain ⟨K, hK⟩ : ∃ K, K = KMv G r := ⟨_, rfl⟩
  rw [← hK]
  unfold f_X12_begin at hL
  refine j_aload_n 0 dX12_begin_0 rfl ?_
  refine j_iconst 0 dX12_begin_1 (by decide) ?_
  refine jp_RX12_169 rfl sh_193 dX12_begin_2 ?_
  obtain ⟨h1, eh1, hL⟩ := lt_ex hL
  refine j_heap eh1 ?_
  refine j_aload_n 0 dX12_begin_5 rfl ?_
  refine j_iload_n 1 dX12_begin_6 rfl ?_
  refine jp_RX12_172 rfl sh_193 dX12_begin_7 ?_
  obtain ⟨h2, eh2, hL⟩ := lt_ex hL
  refine j_heap eh2 ?_
  refine j_aload_n 0 dX12_begin_10 rfl ?_
  refine j_iconst 0 dX12_begin_11 (by decide) ?_
  refine jp_RX12_175 rfl sh_193 dX12_begin_12 ?_
  obtain ⟨h3, eh3, hL⟩ := lt_ex hL
  refine j_heap eh3 ?_
  refine j_aload_n 0 dX12_begin_15 rfl ?_
  refine j_iconst 0 dX12_begin_16 (by decide) ?_
  refine jp_RX12_207 rfl sh_193 dX12_begin_17 ?_
  obtain ⟨h4, eh4, hL⟩ := lt_ex hL
  refine j_heap eh4 ?_
  refine j_aload_n 0 dX12_begin_20 rfl ?_
  refine j_iconst (-1) dX12_begin_21 (by decide) ?_
  refine jp_RX12_102 rfl sh_193 dX12_begin_22 ?_
  obtain ⟨h5, eh5, hL⟩ := lt_ex hL
  refine j_heap eh5 ?_
  refine j_aload_n 0 dX12_begin_25 rfl ?_
  obtain ⟨q6, hq6, hL⟩ := bnd_ex hL
  refine j_callVv (c_X12_stepOn G  h5 _ hq6) cv_RX12_225 rfl sh_193 (by decide) rfl (by decide) rfl rfl (Nat.le_of_ble_eq_true rfl) dX12_begin_26 (by decide) ?_
  cases hL
  exact j_retv dX12_begin_29 rfl hK

def f_X12_fallen  (h : AH) : Option (Int32 × AH) := lt (sfi h 193 36 (hfi h 193 35)) (fun h1 => gd (ib 0 4 = true) (gd (ib 0 4 = true) (lt (sia h1 218 (cl 0) ((hia h1 218 (cl 0)) + 1)) (fun h4 => some (hfi h4 193 34, h4)))))
set_option maxRecDepth 20000 in
theorem c_X12_fallen (G : GG)  (h : AH) (r : Int32 × AH) (hL : f_X12_fallen h = some r) : SpI G 1 mX12_fallen [.ref (ad G 193)] h r.1 r.2 := by
  refine sp_i pf_X12_fallen (Nat.le_of_ble_eq_true rfl) ?_
  show J G mX12_fallen 1 0 0 (KMi G r.1 r.2) 0 [(0, .ref (ad G 193))] [] h
  obtain ⟨K, hK⟩ : ∃ K, K = KMi G r.1 r.2 := ⟨_, rfl⟩
  rw [← hK]
  unfold f_X12_fallen at hL
  refine j_aload_n 0 dX12_fallen_0 rfl ?_
  refine j_aload_n 0 dX12_fallen_1 rfl ?_
  refine jg_RX12_210 rfl sh_193 dX12_fallen_2 ?_
  refine jp_RX12_102 rfl sh_193 dX12_fallen_5 ?_
  obtain ⟨h1, eh1, hL⟩ := lt_ex hL
  refine j_heap eh1 ?_
  refine j_aload_n 0 dX12_fallen_8 rfl ?_
  refine jg_RX12_96 rfl sh_193 dX12_fallen_9 ?_
  refine j_iconst 0 dX12_fallen_12 (by decide) ?_
  refine j_dup2 dX12_fallen_13 rfl rfl ?_
  obtain ⟨g2, hL⟩ := gd_ex hL
  refine j_iald (shf_12_25 sh_193) (ib_in g2) dX12_fallen_14 ?_
  refine j_iconst 1 dX12_fallen_15 (by decide) ?_
  refine j_iadd dX12_fallen_16 ?_
  obtain ⟨g3, hL⟩ := gd_ex hL
  refine j_iast (shf_12_25 sh_193) (ib_in g3) dX12_fallen_17 ?_
  obtain ⟨h4, eh4, hL⟩ := lt_ex hL
  refine j_heap eh4 ?_
  refine j_aload_n 0 dX12_fallen_18 rfl ?_
  refine jg_RX12_207 rfl sh_193 dX12_fallen_19 ?_
  cases hL
  exact j_reti dX12_fallen_22 rfl hK

def f_X12_readText_l56 (v1 : Int32) (v2 : Int32) (v3 : Int32) (v4 : Int32) : Nat → Int32 → AH → Option (AH)
  | 0, _, _ => none
  | n + 1, v5, h => if v2 ≤ v5 then some h else if (hfi h 193 34) = 0 then gd (ib 6 8 = true) (gd (ib (f_X12_at 6 (hia h 196 (cl 6))) 320 = true) (lt (sia h 202 (cl (f_X12_at 6 (hia h 196 (cl 6)))) v1) (fun h10 => gd (ib 6 8 = true) (gd (ib (f_X12_at 6 (hia h 196 (cl 6))) 320 = true) (lt (sia h10 203 (cl (f_X12_at 6 (hia h 196 (cl 6)))) (hia h10 197 (cl 6))) (fun h13 => gd (ib (f_X12_at 6 (hia h 196 (cl 6))) 320 = true) (lt (sia h13 204 (cl (f_X12_at 6 (hia h 196 (cl 6)))) v5) (fun h15 => gd (ib (f_X12_at 6 (hia h 196 (cl 6))) 320 = true) (lt (sia h15 205 (cl (f_X12_at 6 (hia h 196 (cl 6)))) v3) (fun h17 => gd (ib (f_X12_at 6 (hia h 196 (cl 6))) 320 = true) (lt (sia h17 206 (cl (f_X12_at 6 (hia h 196 (cl 6)))) v4) (fun h19 => gd (ib (f_X12_at 6 (hia h 196 (cl 6))) 320 = true) (lt (sia h19 207 (cl (f_X12_at 6 (hia h 196 (cl 6)))) 0) (fun h21 => gd (ib (f_X12_at 6 (hia h 196 (cl 6))) 320 = true) (lt (sia h21 208 (cl (f_X12_at 6 (hia h 196 (cl 6)))) (-1)) (fun h23 => gd (ib 6 8 = true) (gd (ib 6 8 = true) (lt (sia h23 196 (cl 6) ((hia h23 196 (cl 6)) + 1)) (fun h26 => f_X12_readText_l56 v1 v2 v3 v4 n (v5 + 1) h26))))))))))))))))))) else some h
def f_X12_readText  (h : AH) : Option (AH) := bnd (f_X12_readNumber 0 11 h) (fun q1 => gd (ib 6 8 = true) (bnd (f_X12_readNumber 1 (f_J9_min_7cf53 20 (40 - (hia q1.2 196 (cl 6)))) q1.2) (fun q3 => bnd (f_X12_perhaps 31 200 40 q3.2) (fun q4 => bnd (f_X12_perhaps 32 500 0 q4.2) (fun q5 => bnd (f_X12_readText_l56 q1.1 q3.1 q4.1 q5.1 FU 0 q5.2) (fun q27 => gd (ib 6 8 = true) (gd (ib 6 8 = true) (lt (sia q27 197 (cl 6) ((hia q27 197 (cl 6)) + 1)) (fun h30 => some h30)))))))))
set_option maxRecDepth 20000 in
theorem cl_X12_readText_56 (G : GG) (K : KQ) (v1 : Int32) (v2 : Int32) (v3 : Int32) (v4 : Int32)  : ∀ (n : Nat) (v5 : Int32) (h : AH) (r : AH), f_X12_readText_l56 v1 v2 v3 v4 n v5 h = some r → J G mX12_readText 8 0 0 K 164 [(0, .ref (ad G 193))] [] r → J G mX12_readText 8 0 0 K 56 [(0, .ref (ad G 193)), (1, .int v1), (2, .int v2), (3, .int v3), (4, .int v4), (5, .int v5)] [] h := by
  intro n
  induction n with
  | zero => intro v5 h r hL; cases hL
  | succ n ih =>
    intro v5 h r hL kE
    unfold f_X12_readText_l56 at hL
    refine j_iload 5 dX12_readText_56 rfl ?_
    refine j_iload_n 2 dX12_readText_58 rfl ?_
    refine j_icmp_ge 164 dX12_readText_59 (by decide) (fun z6 => ?_) (fun z6 => ?_)
    · replace hL := (if_pos z6).symm.trans hL
      cases hL
      refine j_sub [0] rfl ?_
      exact kE 
    · replace hL := (if_neg z6).symm.trans hL
      refine j_aload_n 0 dX12_readText_62 rfl ?_
      refine jg_RX12_207 rfl sh_193 dX12_readText_63 ?_
      refine j_if_ne 164 dX12_readText_66 (by decide) (fun z7 => ?_) (fun z7 => ?_)
      · replace hL := (if_neg z7).symm.trans hL
        cases hL
        refine j_sub [0] rfl ?_
        exact kE 
      · replace hL := (if_pos z7).symm.trans hL
        refine j_bipush 6 dX12_readText_69 (by decide) ?_
        refine j_aload_n 0 dX12_readText_71 rfl ?_
        refine jg_RX12_32 rfl sh_193 dX12_readText_72 ?_
        refine j_bipush 6 dX12_readText_75 (by decide) ?_
        obtain ⟨g8, hL⟩ := gd_ex hL
        refine j_iald (shf_12_3 sh_193) (ib_in g8) dX12_readText_77 ?_
        refine j_callSi (c_X12_at G 6 (hia h 196 (cl 6)) h) cv_RX12_244 rfl (by decide) rfl rfl (Nat.le_of_ble_eq_true rfl) dX12_readText_78 (by decide) ?_
        refine j_istore (lv' := [(6, .int (f_X12_at 6 (hia h 196 (cl 6)))), (0, .ref (ad G 193)), (1, .int v1), (2, .int v2), (3, .int v3), (4, .int v4), (5, .int v5)]) dX12_readText_81 (by decide) rfl ?_
        refine j_aload_n 1 dX12_readText_83 rfl ?_
        refine jg_RX12_50 rfl sh_193 dX12_readText_84 ?_
        refine j_iload 0 dX12_readText_87 rfl ?_
        refine j_iload_n 2 dX12_readText_89 rfl ?_
        obtain ⟨g9, hL⟩ := gd_ex hL
        refine j_iast (shf_12_9 sh_193) (ib_in g9) dX12_readText_90 ?_
        obtain ⟨h10, eh10, hL⟩ := lt_ex hL
        refine j_heap eh10 ?_
        refine j_aload_n 1 dX12_readText_91 rfl ?_
        refine jg_RX12_53 rfl sh_193 dX12_readText_92 ?_
        refine j_iload 0 dX12_readText_95 rfl ?_
        refine j_aload_n 1 dX12_readText_97 rfl ?_
        refine jg_RX12_36 rfl sh_193 dX12_readText_98 ?_
        refine j_bipush 6 dX12_readText_101 (by decide) ?_
        obtain ⟨g11, hL⟩ := gd_ex hL
        refine j_iald (shf_12_4 sh_193) (ib_in g11) dX12_readText_103 ?_
        obtain ⟨g12, hL⟩ := gd_ex hL
        refine j_iast (shf_12_10 sh_193) (ib_in g12) dX12_readText_104 ?_
        obtain ⟨h13, eh13, hL⟩ := lt_ex hL
        refine j_heap eh13 ?_
        refine j_aload_n 1 dX12_readText_105 rfl ?_
        refine jg_RX12_55 rfl sh_193 dX12_readText_106 ?_
        refine j_iload 0 dX12_readText_109 rfl ?_
        refine j_iload 6 dX12_readText_111 rfl ?_
        obtain ⟨g14, hL⟩ := gd_ex hL
        refine j_iast (shf_12_11 sh_193) (ib_in g14) dX12_readText_113 ?_
        obtain ⟨h15, eh15, hL⟩ := lt_ex hL
        refine j_heap eh15 ?_
        refine j_aload_n 1 dX12_readText_114 rfl ?_
        refine jg_RX12_58 rfl sh_193 dX12_readText_115 ?_
        refine j_iload 0 dX12_readText_118 rfl ?_
        refine j_iload_n 4 dX12_readText_120 rfl ?_
        obtain ⟨g16, hL⟩ := gd_ex hL
        refine j_iast (shf_12_12 sh_193) (ib_in g16) dX12_readText_121 ?_
        obtain ⟨h17, eh17, hL⟩ := lt_ex hL
        refine j_heap eh17 ?_
        refine j_aload_n 1 dX12_readText_122 rfl ?_
        refine jg_RX12_61 rfl sh_193 dX12_readText_123 ?_
        refine j_iload 0 dX12_readText_126 rfl ?_
        refine j_iload 5 dX12_readText_128 rfl ?_
        obtain ⟨g18, hL⟩ := gd_ex hL
        refine j_iast (shf_12_13 sh_193) (ib_in g18) dX12_readText_130 ?_
        obtain ⟨h19, eh19, hL⟩ := lt_ex hL
        refine j_heap eh19 ?_
        refine j_aload_n 1 dX12_readText_131 rfl ?_
        refine jg_RX12_64 rfl sh_193 dX12_readText_132 ?_
        refine j_iload 0 dX12_readText_135 rfl ?_
        refine j_iconst 0 dX12_readText_137 (by decide) ?_
        obtain ⟨g20, hL⟩ := gd_ex hL
        refine j_iast (shf_12_14 sh_193) (ib_in g20) dX12_readText_138 ?_
        obtain ⟨h21, eh21, hL⟩ := lt_ex hL
        refine j_heap eh21 ?_
        refine j_aload_n 1 dX12_readText_139 rfl ?_
        refine jg_RX12_66 rfl sh_193 dX12_readText_140 ?_
        refine j_iload 0 dX12_readText_143 rfl ?_
        refine j_iconst (-1) dX12_readText_145 (by decide) ?_
        obtain ⟨g22, hL⟩ := gd_ex hL
        refine j_iast (shf_12_15 sh_193) (ib_in g22) dX12_readText_146 ?_
        obtain ⟨h23, eh23, hL⟩ := lt_ex hL
        refine j_heap eh23 ?_
        refine j_aload_n 1 dX12_readText_147 rfl ?_
        refine jg_RX12_32 rfl sh_193 dX12_readText_148 ?_
        refine j_bipush 6 dX12_readText_151 (by decide) ?_
        refine j_dup2 dX12_readText_153 rfl rfl ?_
        obtain ⟨g24, hL⟩ := gd_ex hL
        refine j_iald (shf_12_3 sh_193) (ib_in g24) dX12_readText_154 ?_
        refine j_iconst 1 dX12_readText_155 (by decide) ?_
        refine j_iadd dX12_readText_156 ?_
        obtain ⟨g25, hL⟩ := gd_ex hL
        refine j_iast (shf_12_3 sh_193) (ib_in g25) dX12_readText_157 ?_
        obtain ⟨h26, eh26, hL⟩ := lt_ex hL
        refine j_heap eh26 ?_
        refine j_iinc (lv' := [(5, .int (v5 + 1)), (6, .int (f_X12_at 6 (hia h 196 (cl 6)))), (0, .ref (ad G 193)), (1, .int v1), (2, .int v2), (3, .int v3), (4, .int v4)]) 6 dX12_readText_158 rfl rfl (by decide) rfl ?_
        refine j_goto 56 dX12_readText_161 (by decide) ?_
        refine j_sub [2, 3, 4, 5, 6, 0] rfl ?_
        exact ih (v5 + 1) h26 r hL kE

set_option maxRecDepth 20000 in
theorem c_X12_readText (G : GG)  (h : AH) (r : AH) (hL : f_X12_readText h = some r) : SpV G 8 mX12_readText [.ref (ad G 193)] h r := by
  refine sp_v pf_X12_readText (Nat.le_of_ble_eq_true rfl) ?_
  show J G mX12_readText 8 0 0 (KMv G r) 0 [(0, .ref (ad G 193))] [] h
  obtain ⟨K, hK⟩ : ∃ K, K = KMv G r := ⟨_, rfl⟩
  rw [← hK]
  unfold f_X12_readText at hL
  refine j_aload_n 0 dX12_readText_0 rfl ?_
  refine j_iconst 0 dX12_readText_1 (by decide) ?_
  refine j_bipush 11 dX12_readText_2 (by decide) ?_
  obtain ⟨q1, hq1, hL⟩ := bnd_ex hL
  refine j_callVi (c_X12_readNumber G 0 11 h _ hq1) cv_RX12_235 rfl sh_193 (by decide) rfl (by decide) rfl rfl (Nat.le_of_ble_eq_true rfl) dX12_readText_4 (by decide) ?_
  refine j_istore_n (lv' := [(1, .int q1.1), (0, .ref (ad G 193))]) dX12_readText_7 (by decide) rfl ?_
  refine j_aload_n 1 dX12_readText_8 rfl ?_
  refine j_iconst 1 dX12_readText_9 (by decide) ?_
  refine j_bipush 20 dX12_readText_10 (by decide) ?_
  refine j_bipush 40 dX12_readText_12 (by decide) ?_
  refine j_aload_n 1 dX12_readText_14 rfl ?_
  refine jg_RX12_32 rfl sh_193 dX12_readText_15 ?_
  refine j_bipush 6 dX12_readText_18 (by decide) ?_
  obtain ⟨g2, hL⟩ := gd_ex hL
  refine j_iald (shf_12_3 sh_193) (ib_in g2) dX12_readText_20 ?_
  refine j_isub dX12_readText_21 ?_
  refine j_callSi (c_J9_min_7cf53 G 20 (40 - (hia q1.2 196 (cl 6))) q1.2) cv_RX12_198 rfl (by decide) rfl rfl (Nat.le_of_ble_eq_true rfl) dX12_readText_22 (by decide) ?_
  obtain ⟨q3, hq3, hL⟩ := bnd_ex hL
  refine j_callVi (c_X12_readNumber G 1 (f_J9_min_7cf53 20 (40 - (hia q1.2 196 (cl 6)))) q1.2 _ hq3) cv_RX12_235 rfl sh_193 (by decide) rfl (by decide) rfl rfl (Nat.le_of_ble_eq_true rfl) dX12_readText_25 (by decide) ?_
  refine j_istore_n (lv' := [(2, .int q3.1), (1, .int q1.1), (0, .ref (ad G 193))]) dX12_readText_28 (by decide) rfl ?_
  refine j_aload_n 2 dX12_readText_29 rfl ?_
  refine j_ldcS rfl (List.mem_of_getElem? (i := 31) rfl) dX12_readText_30 ?_
  refine j_sipush 200 dX12_readText_32 (by decide) ?_
  refine j_bipush 40 dX12_readText_35 (by decide) ?_
  obtain ⟨q4, hq4, hL⟩ := bnd_ex hL
  refine j_callVi (c_X12_perhaps G 31 200 40 q3.2 _ hq4) cv_RX12_239 rfl sh_193 (by decide) rfl (by decide) rfl rfl (Nat.le_of_ble_eq_true rfl) dX12_readText_37 (by decide) ?_
  refine j_istore_n (lv' := [(3, .int q4.1), (2, .int q3.1), (1, .int q1.1), (0, .ref (ad G 193))]) dX12_readText_40 (by decide) rfl ?_
  refine j_aload_n 3 dX12_readText_41 rfl ?_
  refine j_ldcS rfl (List.mem_of_getElem? (i := 32) rfl) dX12_readText_42 ?_
  refine j_sipush 500 dX12_readText_44 (by decide) ?_
  refine j_iconst 0 dX12_readText_47 (by decide) ?_
  obtain ⟨q5, hq5, hL⟩ := bnd_ex hL
  refine j_callVi (c_X12_perhaps G 32 500 0 q4.2 _ hq5) cv_RX12_239 rfl sh_193 (by decide) rfl (by decide) rfl rfl (Nat.le_of_ble_eq_true rfl) dX12_readText_48 (by decide) ?_
  refine j_istore (lv' := [(4, .int q5.1), (3, .int q4.1), (2, .int q3.1), (1, .int q1.1), (0, .ref (ad G 193))]) dX12_readText_51 (by decide) rfl ?_
  refine j_iconst 0 dX12_readText_53 (by decide) ?_
  refine j_istore (lv' := [(5, .int 0), (4, .int q5.1), (3, .int q4.1), (2, .int q3.1), (1, .int q1.1), (0, .ref (ad G 193))]) dX12_readText_54 (by decide) rfl ?_
  obtain ⟨q27, hq27, hL⟩ := bnd_ex hL
  refine j_sub [5, 4, 3, 2, 1, 0] rfl ?_
  refine cl_X12_readText_56 G K q1.1 q3.1 q4.1 q5.1 FU 0 q5.2 q27 hq27 ?_
  refine j_aload_n 0 dX12_readText_164 rfl ?_
  refine jg_RX12_36 rfl sh_193 dX12_readText_165 ?_
  refine j_bipush 6 dX12_readText_168 (by decide) ?_
  refine j_dup2 dX12_readText_170 rfl rfl ?_
  obtain ⟨g28, hL⟩ := gd_ex hL
  refine j_iald (shf_12_4 sh_193) (ib_in g28) dX12_readText_171 ?_
  refine j_iconst 1 dX12_readText_172 (by decide) ?_
  refine j_iadd dX12_readText_173 ?_
  obtain ⟨g29, hL⟩ := gd_ex hL
  refine j_iast (shf_12_4 sh_193) (ib_in g29) dX12_readText_174 ?_
  obtain ⟨h30, eh30, hL⟩ := lt_ex hL
  refine j_heap eh30 ?_
  cases hL
  exact j_retv dX12_readText_175 rfl hK

def f_X12_readSpilt  (h : AH) : Option (AH) := if (hfi h 193 34) = 0 then lt (fun  (h13 : AH) => lt (fun  (h17 : AH) => bnd (f_X12_readNumber 1 999 h17) (fun q18 => if (hfi q18.2 193 34) = 0 then gd (ib (f_X12_at 6 (hfi h13 193 31)) 320 = true) (lt (sia q18.2 207 (cl (f_X12_at 6 (hfi h13 193 31))) q18.1) (fun h21 => some h21)) else some q18.2)) (fun j15 => if (hfi h13 193 34) = 0 then bnd (f_X12_stepOn h13) (fun q16 => j15  q16) else j15  h13)) (fun j3 => if (hfi h 193 30) = 2 then if ((hfi h 193 33) - (hfi h 193 32)) ≤ 4 then gd (ib 6 8 = true) (if (hfi h 193 31) < (hia h 196 (cl 6)) then gd (ib (f_X12_at 6 (hfi h 193 31)) 320 = true) (if (hia h 207 (cl (f_X12_at 6 (hfi h 193 31)))) ≤ 0 then j3  h else bnd (f_X12_wrong 5 h) (fun q9 => j3  q9)) else bnd (f_X12_wrong 3 h) (fun q10 => j3  q10)) else bnd (f_X12_wrong 2 h) (fun q11 => j3  q11) else bnd (f_X12_wrong 1 h) (fun q12 => j3  q12)) else some h
set_option maxRecDepth 20000 in
theorem c_X12_readSpilt (G : GG)  (h : AH) (r : AH) (hL : f_X12_readSpilt h = some r) : SpV G 4 mX12_readSpilt [.ref (ad G 193)] h r := by
  refine sp_v pf_X12_readSpilt (Nat.le_of_ble_eq_true rfl) ?_
  show J G mX12_readSpilt 4 0 0 (KMv G r) 0 [(0, .ref (ad G 193))] [] h
  obtain ⟨K, hK⟩ : ∃ K, K = KMv G r := ⟨_, rfl⟩
  rw [← hK]
  unfold f_X12_readSpilt at hL
  refine j_aload_n 0 dX12_readSpilt_0 rfl ?_
  refine jg_RX12_207 rfl sh_193 dX12_readSpilt_1 ?_
  refine j_if_eq 8 dX12_readSpilt_4 (by decide) (fun z1 => ?_) (fun z1 => ?_)
  · replace hL := (if_pos z1).symm.trans hL
    refine j_aload_n 0 dX12_readSpilt_8 rfl ?_
    refine jg_RX12_185 rfl sh_193 dX12_readSpilt_9 ?_
    refine j_iconst 2 dX12_readSpilt_12 (by decide) ?_
    obtain ⟨j3, ej3, hL⟩ := lt_ex hL
    have kj3 : ∀  (h13 : AH), j3  h13 = some r → J G mX12_readSpilt 4 0 0 K 89 [(0, .ref (ad G 193))] [] h13 := by
      intro  h13 hL
      rw [ej3] at hL
      replace hL : (lt (fun  (h17 : AH) => bnd (f_X12_readNumber 1 999 h17) (fun q18 => if (hfi q18.2 193 34) = 0 then gd (ib (f_X12_at 6 (hfi h13 193 31)) 320 = true) (lt (sia q18.2 207 (cl (f_X12_at 6 (hfi h13 193 31))) q18.1) (fun h21 => some h21)) else some q18.2)) (fun j15 => if (hfi h13 193 34) = 0 then bnd (f_X12_stepOn h13) (fun q16 => j15  q16) else j15  h13)) = some r := hL
      refine j_aload_n 0 dX12_readSpilt_89 rfl ?_
      refine jg_RX12_194 rfl sh_193 dX12_readSpilt_90 ?_
      refine j_istore_n (lv' := [(1, .int (hfi h13 193 31)), (0, .ref (ad G 193))]) dX12_readSpilt_93 (by decide) rfl ?_
      refine j_aload_n 1 dX12_readSpilt_94 rfl ?_
      refine jg_RX12_207 rfl sh_193 dX12_readSpilt_95 ?_
      obtain ⟨j15, ej15, hL⟩ := lt_ex hL
      have kj15 : ∀  (h17 : AH), j15  h17 = some r → J G mX12_readSpilt 4 0 0 K 105 [(0, .ref (ad G 193)), (1, .int (hfi h13 193 31))] [] h17 := by
        intro  h17 hL
        rw [ej15] at hL
        replace hL : (bnd (f_X12_readNumber 1 999 h17) (fun q18 => if (hfi q18.2 193 34) = 0 then gd (ib (f_X12_at 6 (hfi h13 193 31)) 320 = true) (lt (sia q18.2 207 (cl (f_X12_at 6 (hfi h13 193 31))) q18.1) (fun h21 => some h21)) else some q18.2)) = some r := hL
        refine j_aload_n 0 dX12_readSpilt_105 rfl ?_
        refine j_iconst 1 dX12_readSpilt_106 (by decide) ?_
        refine j_sipush 999 dX12_readSpilt_107 (by decide) ?_
        obtain ⟨q18, hq18, hL⟩ := bnd_ex hL
        refine j_callVi (c_X12_readNumber G 1 999 h17 _ hq18) cv_RX12_235 rfl sh_193 (by decide) rfl (by decide) rfl rfl (Nat.le_of_ble_eq_true rfl) dX12_readSpilt_110 (by decide) ?_
        refine j_istore_n (lv' := [(2, .int q18.1), (0, .ref (ad G 193)), (1, .int (hfi h13 193 31))]) dX12_readSpilt_113 (by decide) rfl ?_
        refine j_aload_n 1 dX12_readSpilt_114 rfl ?_
        refine jg_RX12_207 rfl sh_193 dX12_readSpilt_115 ?_
        refine j_if_ne 133 dX12_readSpilt_118 (by decide) (fun z19 => ?_) (fun z19 => ?_)
        · replace hL := (if_neg z19).symm.trans hL
          cases hL
          exact j_retv dX12_readSpilt_133 rfl hK
        · replace hL := (if_pos z19).symm.trans hL
          refine j_aload_n 1 dX12_readSpilt_121 rfl ?_
          refine jg_RX12_64 rfl sh_193 dX12_readSpilt_122 ?_
          refine j_bipush 6 dX12_readSpilt_125 (by decide) ?_
          refine j_iload_n 2 dX12_readSpilt_127 rfl ?_
          refine j_callSi (c_X12_at G 6 (hfi h13 193 31) q18.2) cv_RX12_244 rfl (by decide) rfl rfl (Nat.le_of_ble_eq_true rfl) dX12_readSpilt_128 (by decide) ?_
          refine j_iload_n 0 dX12_readSpilt_131 rfl ?_
          obtain ⟨g20, hL⟩ := gd_ex hL
          refine j_iast (shf_12_14 sh_193) (ib_in g20) dX12_readSpilt_132 ?_
          obtain ⟨h21, eh21, hL⟩ := lt_ex hL
          refine j_heap eh21 ?_
          cases hL
          exact j_retv dX12_readSpilt_133 rfl hK
      refine j_if_ne 105 dX12_readSpilt_98 (by decide) (fun z14 => ?_) (fun z14 => ?_)
      · replace hL := (if_neg z14).symm.trans hL
        refine j_sub [1, 0] rfl ?_
        exact kj15  h13 hL
      · replace hL := (if_pos z14).symm.trans hL
        refine j_aload_n 1 dX12_readSpilt_101 rfl ?_
        obtain ⟨q16, hq16, hL⟩ := bnd_ex hL
        refine j_callVv (c_X12_stepOn G  h13 _ hq16) cv_RX12_225 rfl sh_193 (by decide) rfl (by decide) rfl rfl (Nat.le_of_ble_eq_true rfl) dX12_readSpilt_102 (by decide) ?_
        refine j_sub [1, 0] rfl ?_
        exact kj15  q16 hL
    refine j_icmp_eq 24 dX12_readSpilt_13 (by decide) (fun z2 => ?_) (fun z2 => ?_)
    · replace hL := (if_pos z2).symm.trans hL
      refine j_aload_n 0 dX12_readSpilt_24 rfl ?_
      refine jg_RX12_204 rfl sh_193 dX12_readSpilt_25 ?_
      refine j_aload_n 0 dX12_readSpilt_28 rfl ?_
      refine jg_RX12_182 rfl sh_193 dX12_readSpilt_29 ?_
      refine j_isub dX12_readSpilt_32 ?_
      refine j_iconst 4 dX12_readSpilt_33 (by decide) ?_
      refine j_icmp_le 45 dX12_readSpilt_34 (by decide) (fun z4 => ?_) (fun z4 => ?_)
      · replace hL := (if_pos z4).symm.trans hL
        refine j_aload_n 0 dX12_readSpilt_45 rfl ?_
        refine jg_RX12_194 rfl sh_193 dX12_readSpilt_46 ?_
        refine j_aload_n 0 dX12_readSpilt_49 rfl ?_
        refine jg_RX12_32 rfl sh_193 dX12_readSpilt_50 ?_
        refine j_bipush 6 dX12_readSpilt_53 (by decide) ?_
        obtain ⟨g5, hL⟩ := gd_ex hL
        refine j_iald (shf_12_3 sh_193) (ib_in g5) dX12_readSpilt_55 ?_
        refine j_icmp_lt 67 dX12_readSpilt_56 (by decide) (fun z6 => ?_) (fun z6 => ?_)
        · replace hL := (if_pos z6).symm.trans hL
          refine j_aload_n 0 dX12_readSpilt_67 rfl ?_
          refine jg_RX12_64 rfl sh_193 dX12_readSpilt_68 ?_
          refine j_bipush 6 dX12_readSpilt_71 (by decide) ?_
          refine j_aload_n 0 dX12_readSpilt_73 rfl ?_
          refine jg_RX12_194 rfl sh_193 dX12_readSpilt_74 ?_
          refine j_callSi (c_X12_at G 6 (hfi h 193 31) h) cv_RX12_244 rfl (by decide) rfl rfl (Nat.le_of_ble_eq_true rfl) dX12_readSpilt_77 (by decide) ?_
          obtain ⟨g7, hL⟩ := gd_ex hL
          refine j_iald (shf_12_14 sh_193) (ib_in g7) dX12_readSpilt_80 ?_
          refine j_if_le 89 dX12_readSpilt_81 (by decide) (fun z8 => ?_) (fun z8 => ?_)
          · replace hL := (if_pos z8).symm.trans hL
            refine j_sub [0] rfl ?_
            exact kj3  h hL
          · replace hL := (if_neg z8).symm.trans hL
            refine j_aload_n 0 dX12_readSpilt_84 rfl ?_
            refine j_iconst 5 dX12_readSpilt_85 (by decide) ?_
            obtain ⟨q9, hq9, hL⟩ := bnd_ex hL
            refine j_callVv (c_X12_wrong G 5 h _ hq9) cv_RX12_228 rfl sh_193 (by decide) rfl (by decide) rfl rfl (Nat.le_of_ble_eq_true rfl) dX12_readSpilt_86 (by decide) ?_
            refine j_sub [0] rfl ?_
            exact kj3  q9 hL
        · replace hL := (if_neg z6).symm.trans hL
          refine j_aload_n 0 dX12_readSpilt_59 rfl ?_
          refine j_iconst 3 dX12_readSpilt_60 (by decide) ?_
          obtain ⟨q10, hq10, hL⟩ := bnd_ex hL
          refine j_callVv (c_X12_wrong G 3 h _ hq10) cv_RX12_228 rfl sh_193 (by decide) rfl (by decide) rfl rfl (Nat.le_of_ble_eq_true rfl) dX12_readSpilt_61 (by decide) ?_
          refine j_goto 89 dX12_readSpilt_64 (by decide) ?_
          refine j_sub [0] rfl ?_
          exact kj3  q10 hL
      · replace hL := (if_neg z4).symm.trans hL
        refine j_aload_n 0 dX12_readSpilt_37 rfl ?_
        refine j_iconst 2 dX12_readSpilt_38 (by decide) ?_
        obtain ⟨q11, hq11, hL⟩ := bnd_ex hL
        refine j_callVv (c_X12_wrong G 2 h _ hq11) cv_RX12_228 rfl sh_193 (by decide) rfl (by decide) rfl rfl (Nat.le_of_ble_eq_true rfl) dX12_readSpilt_39 (by decide) ?_
        refine j_goto 89 dX12_readSpilt_42 (by decide) ?_
        refine j_sub [0] rfl ?_
        exact kj3  q11 hL
    · replace hL := (if_neg z2).symm.trans hL
      refine j_aload_n 0 dX12_readSpilt_16 rfl ?_
      refine j_iconst 1 dX12_readSpilt_17 (by decide) ?_
      obtain ⟨q12, hq12, hL⟩ := bnd_ex hL
      refine j_callVv (c_X12_wrong G 1 h _ hq12) cv_RX12_228 rfl sh_193 (by decide) rfl (by decide) rfl rfl (Nat.le_of_ble_eq_true rfl) dX12_readSpilt_18 (by decide) ?_
      refine j_goto 89 dX12_readSpilt_21 (by decide) ?_
      refine j_sub [0] rfl ?_
      exact kj3  q12 hL
  · replace hL := (if_neg z1).symm.trans hL
    cases hL
    exact j_retv dX12_readSpilt_7 rfl hK

def f_X12_readWashed  (h : AH) : Option (AH) := gd (ib 6 8 = true) (lt (fun  (h11 : AH) => bnd (f_X12_readNumber 0 500 h11) (fun q12 => bnd (f_X12_readNumber 1 99 q12.2) (fun q13 => gd (ib (24 + (hia h 199 (cl 6))) 32 = true) (lt (sia q13.2 210 (cl (24 + (hia h 199 (cl 6)))) q12.1) (fun h15 => gd (ib (24 + (hia h 199 (cl 6))) 32 = true) (lt (sia h15 211 (cl (24 + (hia h 199 (cl 6)))) q13.1) (fun h17 => gd (ib 6 8 = true) (gd (ib 6 8 = true) (lt (sia h17 199 (cl 6) ((hia h17 199 (cl 6)) + 1)) (fun h20 => some h20)))))))))) (fun j3 => if (hfi h 193 34) = 0 then if (hfi h 193 30) = 2 then if 4 < ((hfi h 193 33) - (hfi h 193 32)) then j3  h else if 500 < (hfi h 193 31) then j3  h else if (hia h 199 (cl 6)) ≤ 0 then j3  h else gd (ib ((24 + (hia h 199 (cl 6))) - 1) 32 = true) (if (hia h 210 (cl ((24 + (hia h 199 (cl 6))) - 1))) < (hfi h 193 31) then j3  h else bnd (f_X12_wrong 4 h) (fun q10 => j3  q10)) else j3  h else j3  h))
set_option maxRecDepth 20000 in
theorem c_X12_readWashed (G : GG)  (h : AH) (r : AH) (hL : f_X12_readWashed h = some r) : SpV G 4 mX12_readWashed [.ref (ad G 193)] h r := by
  refine sp_v pf_X12_readWashed (Nat.le_of_ble_eq_true rfl) ?_
  show J G mX12_readWashed 4 0 0 (KMv G r) 0 [(0, .ref (ad G 193))] [] h
  obtain ⟨K, hK⟩ : ∃ K, K = KMv G r := ⟨_, rfl⟩
  rw [← hK]
  unfold f_X12_readWashed at hL
  refine j_aload_n 0 dX12_readWashed_0 rfl ?_
  refine jg_RX12_41 rfl sh_193 dX12_readWashed_1 ?_
  refine j_bipush 6 dX12_readWashed_4 (by decide) ?_
  obtain ⟨g1, hL⟩ := gd_ex hL
  refine j_iald (shf_12_6 sh_193) (ib_in g1) dX12_readWashed_6 ?_
  refine j_istore_n (lv' := [(1, .int (hia h 199 (cl 6))), (0, .ref (ad G 193))]) dX12_readWashed_7 (by decide) rfl ?_
  refine j_aload_n 1 dX12_readWashed_8 rfl ?_
  refine jg_RX12_207 rfl sh_193 dX12_readWashed_9 ?_
  obtain ⟨j3, ej3, hL⟩ := lt_ex hL
  have kj3 : ∀  (h11 : AH), j3  h11 = some r → J G mX12_readWashed 4 0 0 K 73 [(0, .ref (ad G 193)), (1, .int (hia h 199 (cl 6)))] [] h11 := by
    intro  h11 hL
    rw [ej3] at hL
    replace hL : (bnd (f_X12_readNumber 0 500 h11) (fun q12 => bnd (f_X12_readNumber 1 99 q12.2) (fun q13 => gd (ib (24 + (hia h 199 (cl 6))) 32 = true) (lt (sia q13.2 210 (cl (24 + (hia h 199 (cl 6)))) q12.1) (fun h15 => gd (ib (24 + (hia h 199 (cl 6))) 32 = true) (lt (sia h15 211 (cl (24 + (hia h 199 (cl 6)))) q13.1) (fun h17 => gd (ib 6 8 = true) (gd (ib 6 8 = true) (lt (sia h17 199 (cl 6) ((hia h17 199 (cl 6)) + 1)) (fun h20 => some h20)))))))))) = some r := hL
    refine j_aload_n 0 dX12_readWashed_73 rfl ?_
    refine j_iconst 0 dX12_readWashed_74 (by decide) ?_
    refine j_sipush 500 dX12_readWashed_75 (by decide) ?_
    obtain ⟨q12, hq12, hL⟩ := bnd_ex hL
    refine j_callVi (c_X12_readNumber G 0 500 h11 _ hq12) cv_RX12_235 rfl sh_193 (by decide) rfl (by decide) rfl rfl (Nat.le_of_ble_eq_true rfl) dX12_readWashed_78 (by decide) ?_
    refine j_istore_n (lv' := [(2, .int q12.1), (0, .ref (ad G 193)), (1, .int (hia h 199 (cl 6)))]) dX12_readWashed_81 (by decide) rfl ?_
    refine j_aload_n 1 dX12_readWashed_82 rfl ?_
    refine j_iconst 1 dX12_readWashed_83 (by decide) ?_
    refine j_bipush 99 dX12_readWashed_84 (by decide) ?_
    obtain ⟨q13, hq13, hL⟩ := bnd_ex hL
    refine j_callVi (c_X12_readNumber G 1 99 q12.2 _ hq13) cv_RX12_235 rfl sh_193 (by decide) rfl (by decide) rfl rfl (Nat.le_of_ble_eq_true rfl) dX12_readWashed_86 (by decide) ?_
    refine j_istore_n (lv' := [(3, .int q13.1), (2, .int q12.1), (0, .ref (ad G 193)), (1, .int (hia h 199 (cl 6)))]) dX12_readWashed_89 (by decide) rfl ?_
    refine j_aload_n 2 dX12_readWashed_90 rfl ?_
    refine jg_RX12_72 rfl sh_193 dX12_readWashed_91 ?_
    refine j_bipush 24 dX12_readWashed_94 (by decide) ?_
    refine j_iload_n 3 dX12_readWashed_96 rfl ?_
    refine j_iadd dX12_readWashed_97 ?_
    refine j_iload_n 1 dX12_readWashed_98 rfl ?_
    obtain ⟨g14, hL⟩ := gd_ex hL
    refine j_iast (shf_12_17 sh_193) (ib_in g14) dX12_readWashed_99 ?_
    obtain ⟨h15, eh15, hL⟩ := lt_ex hL
    refine j_heap eh15 ?_
    refine j_aload_n 2 dX12_readWashed_100 rfl ?_
    refine jg_RX12_75 rfl sh_193 dX12_readWashed_101 ?_
    refine j_bipush 24 dX12_readWashed_104 (by decide) ?_
    refine j_iload_n 3 dX12_readWashed_106 rfl ?_
    refine j_iadd dX12_readWashed_107 ?_
    refine j_iload_n 0 dX12_readWashed_108 rfl ?_
    obtain ⟨g16, hL⟩ := gd_ex hL
    refine j_iast (shf_12_18 sh_193) (ib_in g16) dX12_readWashed_109 ?_
    obtain ⟨h17, eh17, hL⟩ := lt_ex hL
    refine j_heap eh17 ?_
    refine j_aload_n 2 dX12_readWashed_110 rfl ?_
    refine jg_RX12_41 rfl sh_193 dX12_readWashed_111 ?_
    refine j_bipush 6 dX12_readWashed_114 (by decide) ?_
    refine j_dup2 dX12_readWashed_116 rfl rfl ?_
    obtain ⟨g18, hL⟩ := gd_ex hL
    refine j_iald (shf_12_6 sh_193) (ib_in g18) dX12_readWashed_117 ?_
    refine j_iconst 1 dX12_readWashed_118 (by decide) ?_
    refine j_iadd dX12_readWashed_119 ?_
    obtain ⟨g19, hL⟩ := gd_ex hL
    refine j_iast (shf_12_6 sh_193) (ib_in g19) dX12_readWashed_120 ?_
    obtain ⟨h20, eh20, hL⟩ := lt_ex hL
    refine j_heap eh20 ?_
    cases hL
    exact j_retv dX12_readWashed_121 rfl hK
  refine j_if_ne 73 dX12_readWashed_12 (by decide) (fun z2 => ?_) (fun z2 => ?_)
  · replace hL := (if_neg z2).symm.trans hL
    refine j_sub [1, 0] rfl ?_
    exact kj3  h hL
  · replace hL := (if_pos z2).symm.trans hL
    refine j_aload_n 1 dX12_readWashed_15 rfl ?_
    refine jg_RX12_185 rfl sh_193 dX12_readWashed_16 ?_
    refine j_iconst 2 dX12_readWashed_19 (by decide) ?_
    refine j_icmp_ne 73 dX12_readWashed_20 (by decide) (fun z4 => ?_) (fun z4 => ?_)
    · replace hL := (if_neg z4).symm.trans hL
      refine j_sub [1, 0] rfl ?_
      exact kj3  h hL
    · replace hL := (if_pos z4).symm.trans hL
      refine j_aload_n 1 dX12_readWashed_23 rfl ?_
      refine jg_RX12_204 rfl sh_193 dX12_readWashed_24 ?_
      refine j_aload_n 1 dX12_readWashed_27 rfl ?_
      refine jg_RX12_182 rfl sh_193 dX12_readWashed_28 ?_
      refine j_isub dX12_readWashed_31 ?_
      refine j_iconst 4 dX12_readWashed_32 (by decide) ?_
      refine j_icmp_gt 73 dX12_readWashed_33 (by decide) (fun z5 => ?_) (fun z5 => ?_)
      · replace hL := (if_pos z5).symm.trans hL
        refine j_sub [1, 0] rfl ?_
        exact kj3  h hL
      · replace hL := (if_neg z5).symm.trans hL
        refine j_aload_n 1 dX12_readWashed_36 rfl ?_
        refine jg_RX12_194 rfl sh_193 dX12_readWashed_37 ?_
        refine j_sipush 500 dX12_readWashed_40 (by decide) ?_
        refine j_icmp_gt 73 dX12_readWashed_43 (by decide) (fun z6 => ?_) (fun z6 => ?_)
        · replace hL := (if_pos z6).symm.trans hL
          refine j_sub [1, 0] rfl ?_
          exact kj3  h hL
        · replace hL := (if_neg z6).symm.trans hL
          refine j_iload_n 0 dX12_readWashed_46 rfl ?_
          refine j_if_le 73 dX12_readWashed_47 (by decide) (fun z7 => ?_) (fun z7 => ?_)
          · replace hL := (if_pos z7).symm.trans hL
            refine j_sub [1, 0] rfl ?_
            exact kj3  h hL
          · replace hL := (if_neg z7).symm.trans hL
            refine j_aload_n 1 dX12_readWashed_50 rfl ?_
            refine jg_RX12_194 rfl sh_193 dX12_readWashed_51 ?_
            refine j_aload_n 1 dX12_readWashed_54 rfl ?_
            refine jg_RX12_72 rfl sh_193 dX12_readWashed_55 ?_
            refine j_bipush 24 dX12_readWashed_58 (by decide) ?_
            refine j_iload_n 0 dX12_readWashed_60 rfl ?_
            refine j_iadd dX12_readWashed_61 ?_
            refine j_iconst 1 dX12_readWashed_62 (by decide) ?_
            refine j_isub dX12_readWashed_63 ?_
            obtain ⟨g8, hL⟩ := gd_ex hL
            refine j_iald (shf_12_17 sh_193) (ib_in g8) dX12_readWashed_64 ?_
            refine j_icmp_gt 73 dX12_readWashed_65 (by decide) (fun z9 => ?_) (fun z9 => ?_)
            · replace hL := (if_pos z9).symm.trans hL
              refine j_sub [1, 0] rfl ?_
              exact kj3  h hL
            · replace hL := (if_neg z9).symm.trans hL
              refine j_aload_n 1 dX12_readWashed_68 rfl ?_
              refine j_iconst 4 dX12_readWashed_69 (by decide) ?_
              obtain ⟨q10, hq10, hL⟩ := bnd_ex hL
              refine j_callVv (c_X12_wrong G 4 h _ hq10) cv_RX12_228 rfl sh_193 (by decide) rfl (by decide) rfl rfl (Nat.le_of_ble_eq_true rfl) dX12_readWashed_70 (by decide) ?_
              refine j_sub [1, 0] rfl ?_
              exact kj3  q10 hL

def f_X12_readLine  (h : AH) : Option (AH) := bnd (f_X12_which 194 4 h) (fun q1 => lt (fun  (h9 : AH) => if (hfi h9 193 34) = 0 then bnd (f_X12_stepOn h9) (fun q11 => if q1 = 0 then bnd (f_X12_readText q11) (fun q23 => bnd (f_X12_semi q23) (fun q24 => some q24)) else if q1 = 1 then bnd (f_X12_readNumber 0 100 q11) (fun q19 => gd (ib 6 8 = true) (lt (sia q19.2 198 (cl 6) q19.1) (fun h21 => bnd (f_X12_semi h21) (fun q22 => some q22)))) else if q1 = 2 then bnd (f_X12_readSpilt q11) (fun q17 => bnd (f_X12_semi q17) (fun q18 => some q18)) else bnd (f_X12_readWashed q11) (fun q15 => bnd (f_X12_semi q15) (fun q16 => some q16))) else some h9) (fun j3 => if q1 = (-1) then bnd (f_X12_wrong 1 h) (fun q8 => j3  q8) else if q1 = 3 then gd (ib 6 8 = true) (if (hia h 199 (cl 6)) = 4 then bnd (f_X12_wrong 2 h) (fun q7 => j3  q7) else j3  h) else j3  h))
set_option maxRecDepth 20000 in
theorem c_X12_readLine (G : GG)  (h : AH) (r : AH) (hL : f_X12_readLine h = some r) : SpV G 9 mX12_readLine [.ref (ad G 193)] h r := by
  refine sp_v pf_X12_readLine (Nat.le_of_ble_eq_true rfl) ?_
  show J G mX12_readLine 9 0 0 (KMv G r) 0 [(0, .ref (ad G 193))] [] h
  obtain ⟨K, hK⟩ : ∃ K, K = KMv G r := ⟨_, rfl⟩
  rw [← hK]
  unfold f_X12_readLine at hL
  refine j_aload_n 0 dX12_readLine_0 rfl ?_
  refine j_aload_n 0 dX12_readLine_1 rfl ?_
  refine jg_RX12_17 rfl sh_193 dX12_readLine_2 ?_
  obtain ⟨q1, hq1, hL⟩ := bnd_ex hL
  refine j_callVi (c_X12_which G 194 4 (shf_12_0 sh_193) h _ hq1) cv_RX12_247 rfl sh_193 (by decide) rfl (by decide) rfl rfl (Nat.le_of_ble_eq_true rfl) dX12_readLine_5 (by decide) ?_
  refine j_istore_n (lv' := [(1, .int q1), (0, .ref (ad G 193))]) dX12_readLine_8 (by decide) rfl ?_
  refine j_iload_n 0 dX12_readLine_9 rfl ?_
  refine j_iconst (-1) dX12_readLine_10 (by decide) ?_
  obtain ⟨j3, ej3, hL⟩ := lt_ex hL
  have kj3 : ∀  (h9 : AH), j3  h9 = some r → J G mX12_readLine 9 0 0 K 43 [(0, .ref (ad G 193)), (1, .int q1)] [] h9 := by
    intro  h9 hL
    rw [ej3] at hL
    replace hL : (if (hfi h9 193 34) = 0 then bnd (f_X12_stepOn h9) (fun q11 => if q1 = 0 then bnd (f_X12_readText q11) (fun q23 => bnd (f_X12_semi q23) (fun q24 => some q24)) else if q1 = 1 then bnd (f_X12_readNumber 0 100 q11) (fun q19 => gd (ib 6 8 = true) (lt (sia q19.2 198 (cl 6) q19.1) (fun h21 => bnd (f_X12_semi h21) (fun q22 => some q22)))) else if q1 = 2 then bnd (f_X12_readSpilt q11) (fun q17 => bnd (f_X12_semi q17) (fun q18 => some q18)) else bnd (f_X12_readWashed q11) (fun q15 => bnd (f_X12_semi q15) (fun q16 => some q16))) else some h9) = some r := hL
    refine j_aload_n 0 dX12_readLine_43 rfl ?_
    refine jg_RX12_207 rfl sh_193 dX12_readLine_44 ?_
    refine j_if_eq 51 dX12_readLine_47 (by decide) (fun z10 => ?_) (fun z10 => ?_)
    · replace hL := (if_pos z10).symm.trans hL
      refine j_aload_n 0 dX12_readLine_51 rfl ?_
      obtain ⟨q11, hq11, hL⟩ := bnd_ex hL
      refine j_callVv (c_X12_stepOn G  h9 _ hq11) cv_RX12_225 rfl sh_193 (by decide) rfl (by decide) rfl rfl (Nat.le_of_ble_eq_true rfl) dX12_readLine_52 (by decide) ?_
      refine j_iload_n 1 dX12_readLine_55 rfl ?_
      refine j_if_ne 66 dX12_readLine_56 (by decide) (fun z12 => ?_) (fun z12 => ?_)
      · replace hL := (if_neg z12).symm.trans hL
        refine j_iload_n 1 dX12_readLine_66 rfl ?_
        refine j_iconst 1 dX12_readLine_67 (by decide) ?_
        refine j_icmp_ne 88 dX12_readLine_68 (by decide) (fun z13 => ?_) (fun z13 => ?_)
        · replace hL := (if_neg z13).symm.trans hL
          refine j_iload_n 1 dX12_readLine_88 rfl ?_
          refine j_iconst 2 dX12_readLine_89 (by decide) ?_
          refine j_icmp_ne 100 dX12_readLine_90 (by decide) (fun z14 => ?_) (fun z14 => ?_)
          · replace hL := (if_neg z14).symm.trans hL
            refine j_aload_n 0 dX12_readLine_100 rfl ?_
            obtain ⟨q15, hq15, hL⟩ := bnd_ex hL
            refine j_callVv (c_X12_readWashed G  q11 _ hq15) cv_RX12_257 rfl sh_193 (by decide) rfl (by decide) rfl rfl (Nat.le_of_ble_eq_true rfl) dX12_readLine_101 (by decide) ?_
            refine j_aload_n 0 dX12_readLine_104 rfl ?_
            obtain ⟨q16, hq16, hL⟩ := bnd_ex hL
            refine j_callVv (c_X12_semi G  q15 _ hq16) cv_RX12_260 rfl sh_193 (by decide) rfl (by decide) rfl rfl (Nat.le_of_ble_eq_true rfl) dX12_readLine_105 (by decide) ?_
            cases hL
            exact j_retv dX12_readLine_108 rfl hK
          · replace hL := (if_pos z14).symm.trans hL
            refine j_aload_n 0 dX12_readLine_93 rfl ?_
            obtain ⟨q17, hq17, hL⟩ := bnd_ex hL
            refine j_callVv (c_X12_readSpilt G  q11 _ hq17) cv_RX12_254 rfl sh_193 (by decide) rfl (by decide) rfl rfl (Nat.le_of_ble_eq_true rfl) dX12_readLine_94 (by decide) ?_
            refine j_goto 104 dX12_readLine_97 (by decide) ?_
            refine j_aload_n 0 dX12_readLine_104 rfl ?_
            obtain ⟨q18, hq18, hL⟩ := bnd_ex hL
            refine j_callVv (c_X12_semi G  q17 _ hq18) cv_RX12_260 rfl sh_193 (by decide) rfl (by decide) rfl rfl (Nat.le_of_ble_eq_true rfl) dX12_readLine_105 (by decide) ?_
            cases hL
            exact j_retv dX12_readLine_108 rfl hK
        · replace hL := (if_pos z13).symm.trans hL
          refine j_aload_n 0 dX12_readLine_71 rfl ?_
          refine jg_RX12_39 rfl sh_193 dX12_readLine_72 ?_
          refine j_bipush 6 dX12_readLine_75 (by decide) ?_
          refine j_aload_n 0 dX12_readLine_77 rfl ?_
          refine j_iconst 0 dX12_readLine_78 (by decide) ?_
          refine j_bipush 100 dX12_readLine_79 (by decide) ?_
          obtain ⟨q19, hq19, hL⟩ := bnd_ex hL
          refine j_callVi (c_X12_readNumber G 0 100 q11 _ hq19) cv_RX12_235 rfl sh_193 (by decide) rfl (by decide) rfl rfl (Nat.le_of_ble_eq_true rfl) dX12_readLine_81 (by decide) ?_
          obtain ⟨g20, hL⟩ := gd_ex hL
          refine j_iast (shf_12_5 sh_193) (ib_in g20) dX12_readLine_84 ?_
          obtain ⟨h21, eh21, hL⟩ := lt_ex hL
          refine j_heap eh21 ?_
          refine j_goto 104 dX12_readLine_85 (by decide) ?_
          refine j_aload_n 0 dX12_readLine_104 rfl ?_
          obtain ⟨q22, hq22, hL⟩ := bnd_ex hL
          refine j_callVv (c_X12_semi G  h21 _ hq22) cv_RX12_260 rfl sh_193 (by decide) rfl (by decide) rfl rfl (Nat.le_of_ble_eq_true rfl) dX12_readLine_105 (by decide) ?_
          cases hL
          exact j_retv dX12_readLine_108 rfl hK
      · replace hL := (if_pos z12).symm.trans hL
        refine j_aload_n 0 dX12_readLine_59 rfl ?_
        obtain ⟨q23, hq23, hL⟩ := bnd_ex hL
        refine j_callVv (c_X12_readText G  q11 _ hq23) cv_RX12_251 rfl sh_193 (by decide) rfl (by decide) rfl rfl (Nat.le_of_ble_eq_true rfl) dX12_readLine_60 (by decide) ?_
        refine j_goto 104 dX12_readLine_63 (by decide) ?_
        refine j_aload_n 0 dX12_readLine_104 rfl ?_
        obtain ⟨q24, hq24, hL⟩ := bnd_ex hL
        refine j_callVv (c_X12_semi G  q23 _ hq24) cv_RX12_260 rfl sh_193 (by decide) rfl (by decide) rfl rfl (Nat.le_of_ble_eq_true rfl) dX12_readLine_105 (by decide) ?_
        cases hL
        exact j_retv dX12_readLine_108 rfl hK
    · replace hL := (if_neg z10).symm.trans hL
      cases hL
      exact j_retv dX12_readLine_50 rfl hK
  refine j_icmp_ne 22 dX12_readLine_11 (by decide) (fun z2 => ?_) (fun z2 => ?_)
  · replace hL := (if_neg z2).symm.trans hL
    refine j_iload_n 0 dX12_readLine_22 rfl ?_
    refine j_iconst 3 dX12_readLine_23 (by decide) ?_
    refine j_icmp_ne 43 dX12_readLine_24 (by decide) (fun z4 => ?_) (fun z4 => ?_)
    · replace hL := (if_neg z4).symm.trans hL
      refine j_sub [1, 0] rfl ?_
      exact kj3  h hL
    · replace hL := (if_pos z4).symm.trans hL
      refine j_aload_n 1 dX12_readLine_27 rfl ?_
      refine jg_RX12_41 rfl sh_193 dX12_readLine_28 ?_
      refine j_bipush 6 dX12_readLine_31 (by decide) ?_
      obtain ⟨g5, hL⟩ := gd_ex hL
      refine j_iald (shf_12_6 sh_193) (ib_in g5) dX12_readLine_33 ?_
      refine j_iconst 4 dX12_readLine_34 (by decide) ?_
      refine j_icmp_ne 43 dX12_readLine_35 (by decide) (fun z6 => ?_) (fun z6 => ?_)
      · replace hL := (if_neg z6).symm.trans hL
        refine j_sub [1, 0] rfl ?_
        exact kj3  h hL
      · replace hL := (if_pos z6).symm.trans hL
        refine j_aload_n 1 dX12_readLine_38 rfl ?_
        refine j_iconst 2 dX12_readLine_39 (by decide) ?_
        obtain ⟨q7, hq7, hL⟩ := bnd_ex hL
        refine j_callVv (c_X12_wrong G 2 h _ hq7) cv_RX12_228 rfl sh_193 (by decide) rfl (by decide) rfl rfl (Nat.le_of_ble_eq_true rfl) dX12_readLine_40 (by decide) ?_
        refine j_sub [1, 0] rfl ?_
        exact kj3  q7 hL
  · replace hL := (if_pos z2).symm.trans hL
    refine j_aload_n 1 dX12_readLine_14 rfl ?_
    refine j_iconst 1 dX12_readLine_15 (by decide) ?_
    obtain ⟨q8, hq8, hL⟩ := bnd_ex hL
    refine j_callVv (c_X12_wrong G 1 h _ hq8) cv_RX12_228 rfl sh_193 (by decide) rfl (by decide) rfl rfl (Nat.le_of_ble_eq_true rfl) dX12_readLine_16 (by decide) ?_
    refine j_goto 43 dX12_readLine_19 (by decide) ?_
    refine j_sub [1, 0] rfl ?_
    exact kj3  q8 hL

