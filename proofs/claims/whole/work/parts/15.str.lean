/-! texts: String.length and charAt of the constants -/
def slen (i : Nat) : Int32 := Int32.ofNat (strLen.getD i 0)
def schr (i : Nat) (k : Int32) : Int32 := (((strByt.getD i []).getD (cl k) 0 &&& 255).toUInt32 % 65536).toInt32
section STR
variable {G : GG} {Y Y' : MI} {d d' C q : Nat} {K : KQ} {pc : Nat} {lv : List (Nat × Value)} {st rest As : List Value} {h h' : AH}
theorem j_getsC (hY : Y.1.cls = RJ0) (hd : decode Y.2.1 pc = .ok (.getstatic 38, 3)) (k : J G Y d C q K (pc + 3) lv (.int 1 :: st) h) : J G Y d C q K pc lv st h := by
  intro p e R s m args below meth c H locs ls hC hw hS hl
  have k := k p e R s m args below meth c H locs ls hC hw hS hl
  obtain ⟨hx, hb, hml, hr, hlk, hown, hts, hex, hTT, hPS, hR⟩ := hC
  exact va_gets hx hb hPS.2.2.2.1 hS (hY ▸ hown) (hts _ kf_RJ0_38) (fun _ z => z) hd k
theorem j_getsF (hY : Y.1.cls = RJ0) (hd : decode Y.2.1 pc = .ok (.getstatic 1053, 3)) (k : ∀ v : Value, (v = .null ∨ ∃ t, v = .ref t) → J G Y d C q K (pc + 3) lv (v :: st) h) : J G Y d C q K pc lv st h := by
  intro p e R s m args below meth c H locs ls hC hw hS hl
  have k := fun v hv => k v hv p e R s m args below meth c H locs ls hC hw hS hl
  obtain ⟨hx, hb, hml, hr, hlk, hown, hts, hex, hTT, hPS, hR⟩ := hC
  rcases hPS.2.2.2.2.1 with hz | ⟨t, hz⟩
  · exact va_gets hx hb hz hS (hY ▸ hown) (hts _ kf_RJ0_1053) (fun _ z => z) hd (k _ (Or.inl rfl))
  · exact va_gets hx hb hz hS (hY ▸ hown) (hts _ kf_RJ0_1053) (fun _ z => z) hd (k _ (Or.inr ⟨t, rfl⟩))
theorem j_getSV {i : Nat} (hi : i < 35) (hY : Y.1.cls = RJ0) (hd : decode Y.2.1 pc = .ok (.getfield 9, 3)) (k : J G Y d C q K (pc + 3) lv (.ref (gV G i) :: st) h) : J G Y d C q K pc lv (.ref (gK G i) :: st) h := by
  intro p e R s m args below meth c H locs ls hC hw hS hl
  have k := k p e R s m args below meth c H locs ls hC hw hS hl
  obtain ⟨hx, hb, hml, hr, hlk, hown, hts, hex, hTT, hPS, hR⟩ := hC
  exact vk_getf hx hb (hPS.1 i hi).2.2.1 hS (hY ▸ hown) (hts _ kf_RJ0_9) (fun _ z => z) hd k
theorem j_getSC {i : Nat} (hi : i < 35) (hY : Y.1.cls = RJ0) (hd : decode Y.2.1 pc = .ok (.getfield 15, 3)) (k : J G Y d C q K (pc + 3) lv (.int 0 :: st) h) : J G Y d C q K pc lv (.ref (gK G i) :: st) h := by
  intro p e R s m args below meth c H locs ls hC hw hS hl
  have k := k p e R s m args below meth c H locs ls hC hw hS hl
  obtain ⟨hx, hb, hml, hr, hlk, hown, hts, hex, hTT, hPS, hR⟩ := hC
  exact vk_getf hx hb (hPS.1 i hi).2.1 hS (hY ▸ hown) (hts _ kf_RJ0_15) (fun _ z => z) hd k
theorem j_alenB {i : Nat} (hi : i < 35) (hd : decode Y.2.1 pc = .ok (.arraylength, 1)) (k : J G Y d C q K (pc + 1) lv (.int (Int32.ofNat (strLen.getD i 0)) :: st) h) : J G Y d C q K pc lv (.ref (gV G i) :: st) h := by
  intro p e R s m args below meth c H locs ls hC hw hS hl
  have k := k p e R s m args below meth c H locs ls hC hw hS hl
  obtain ⟨hx, hb, hml, hr, hlk, hown, hts, hex, hTT, hPS, hR⟩ := hC
  exact va_tlen hx hb (hPS.1 i hi).2.2.2 hS rfl hd k
theorem j_bald {i : Nat} {j : Int32} (hi : i < 35) (hin : vp_in j (strLen.getD i 0)) (hd : decode Y.2.1 pc = .ok (.baload, 1)) (k : J G Y d C q K (pc + 1) lv (.int ((strByt.getD i []).getD (cl j) 0) :: st) h) : J G Y d C q K pc lv (.int j :: .ref (gV G i) :: st) h := by
  intro p e R s m args below meth c H locs ls hC hw hS hl
  have k := k p e R s m args below meth c H locs ls hC hw hS hl
  obtain ⟨hx, hb, hml, hr, hlk, hown, hts, hex, hTT, hPS, hR⟩ := hC
  exact va_tb hx hb (hPS.1 i hi).2.2.2 hS hin rfl hd k
theorem j_callStr {own : String} {idx i na : Nat} {v : Int32} (hs : SpI G d' Y' (.ref (gK G i) :: As) h v h') (hcv : CV own idx Y' na) (hY : Y.1.cls = own) (hdd : d' + 1 ≤ d) (hAs : As.length = na) (hst : st = As.reverse ++ .ref (gK G i) :: rest) (hW : (rest.map fun v => v.category).sum ≤ 8) (hd : decode Y.2.1 pc = .ok (.invokevirtual idx, 3)) (hq : q ≤ C) (hi : i < 35) (hY' : Y'.1.cls = "java/lang/String") (kk : J G Y d C q K (pc + 3) lv (.int v :: rest) h') : J G Y d C q K pc lv st h := by
  intro p e R s m args below meth c H locs ls hC hw hS hl
  have hC0 := hC
  obtain ⟨hx, hb, hml, hr, hlk, hown, hts, hex, hTT, hPS, hR1, hR2, hR3, hR4, hB⟩ := hC
  obtain ⟨g1, g2, g3⟩ := hcv
  obtain ⟨cell, w1, w2, w3, -⟩ := (hPS.1 i hi).1.kept hS.2.1
  refine j_back (va_runV (As := As) (rest := rest) ⟨hx, hb, hml, hY ▸ hown, hts⟩ hs (cwV (R := R) (ws' := GW) na hts g1 rfl rfl rfl g2 ⟨?_, ?_⟩) ⟨wd_blind G _ h, ⟨cell, w1, w2, by rw [hY']; exact w3⟩, fun U hU hWm => ⟨rfl, wd_now hC0 hw hS hU hWm⟩⟩ rfl hAs hl.1 hst (lv_room hW) hd ⟨by omega, by omega⟩) hC0 hS hl (fun _ _ e => by obtain ⟨rfl, rfl⟩ := e; exact kk)
  · show d' + 1 ≤ R.frames; omega
  · show 8 + (Y'.2.2.1 + 11) + 40 * d' ≤ R.locals; omega
end STR
theorem j_ldcSW {G : GG} {Y : MI} {d C q : Nat} {K : KQ} {pc : Nat} {lv : List (Nat × Value)} {st : List Value} {h : AH} {idx : Nat} {own tx : String} {i : Nat} (hY : Y.1.cls = own) (hw0 : (own, idx, tx, i) ∈ strTab) (hd : decode Y.2.1 pc = .ok (.ldc_w idx, 3)) (k : J G Y d C q K (pc + 3) lv (.ref (gK G i) :: st) h) : J G Y d C q K pc lv st h := by
  intro p e R s m args below meth c H locs ls hC hw hS hl
  have k := k p e R s m args below meth c H locs ls hC hw hS hl
  obtain ⟨hx, hb, hml, hr, hlk, hown, hts, hex, hTT, hPS, hR⟩ := hC
  have hZ := hTT.2.2.1 _ hw0
  intro T hT X
  obtain ⟨t, a1, b1⟩ := k T hT X
  exact ⟨t, Stand.ldcStringW X hx (own := own) (text := tx) (index := idx) (a := gK G i) (hY ▸ hown) hZ.1 hZ.2 (g := F0 m pc ls st) rfl (by rw [hb]; exact hd) t a1, b1⟩
theorem j_retn {G : GG} {Y : MI} {d pc : Nat} {lv : List (Nat × Value)} {h : AH} {v : Int32} {ty : FieldType} (hd : decode Y.2.1 pc = .ok (.ireturn, 1)) (hr0 : Y.2.2.2 = some ty) (hn : narrow ty (.int v) = .int v) : J G Y d 0 0 (KMi G v h) pc lv [.int v] h := j_zret hd hr0 hn ⟨rfl, rfl⟩
theorem c_coder (G : GG) (i : Nat) (hi : i < 35) (h : AH) : SpI G 1 mJ0_coder_7d493 [.ref (gK G i)] h 0 h := by
  refine sp_i pf_J0_coder_7d493 (Nat.le_of_ble_eq_true rfl) ?_
  show J G mJ0_coder_7d493 1 0 0 (KMi G 0 h) 0 [(0, .ref (gK G i))] [] h
  refine j_getsC rfl dJ0_coder_7d493_0 ?_
  refine j_if_eq 13 dJ0_coder_7d493_3 (by decide) (fun z => absurd z (by decide)) (fun z => ?_)
  refine j_aload_n 0 dJ0_coder_7d493_6 rfl ?_
  refine j_getSC hi rfl dJ0_coder_7d493_7 ?_
  refine j_goto 14 dJ0_coder_7d493_10 (by decide) ?_
  exact j_retn dJ0_coder_7d493_14 rfl rfl
theorem c_isLatin1 (G : GG) (i : Nat) (hi : i < 35) (h : AH) : SpI G 1 mJ0_isLatin1_aae02 [.ref (gK G i)] h 1 h := by
  refine sp_i pf_J0_isLatin1_aae02 (Nat.le_of_ble_eq_true rfl) ?_
  show J G mJ0_isLatin1_aae02 1 0 0 (KMi G 1 h) 0 [(0, .ref (gK G i))] [] h
  refine j_getsC rfl dJ0_isLatin1_aae02_0 ?_
  refine j_if_eq 17 dJ0_isLatin1_aae02_3 (by decide) (fun z => absurd z (by decide)) (fun z => ?_)
  refine j_aload_n 0 dJ0_isLatin1_aae02_6 rfl ?_
  refine j_getSC hi rfl dJ0_isLatin1_aae02_7 ?_
  refine j_if_ne 17 dJ0_isLatin1_aae02_10 (by decide) (fun z => absurd rfl z) (fun z => ?_)
  refine j_iconst 1 dJ0_isLatin1_aae02_13 (by decide) ?_
  refine j_goto 18 dJ0_isLatin1_aae02_14 (by decide) ?_
  exact j_retn dJ0_isLatin1_aae02_18 rfl rfl
theorem c_String_length (G : GG) (i : Nat) (hi : i < 35) (h : AH) : SpI G 2 mJ0_length_8abf5 [.ref (gK G i)] h (slen i) h := by
  refine sp_i pf_J0_length_8abf5 (Nat.le_of_ble_eq_true rfl) ?_
  show J G mJ0_length_8abf5 2 0 0 (KMi G (slen i) h) 0 [(0, .ref (gK G i))] [] h
  refine j_aload_n 0 dJ0_length_8abf5_0 rfl ?_
  refine j_getSV hi rfl dJ0_length_8abf5_1 ?_
  refine j_alenB hi dJ0_length_8abf5_4 ?_
  refine j_aload_n 0 dJ0_length_8abf5_5 rfl ?_
  refine j_callStr (c_coder G i hi h) cv_RJ0_335 rfl (by decide) rfl rfl (Nat.le_of_ble_eq_true rfl) dJ0_length_8abf5_6 (by decide) hi rfl ?_
  refine j_ishr dJ0_length_8abf5_9 ?_
  refine j_eq (pc' := 10) (st' := [.int (slen i)]) rfl (by unfold slen; rw [sb_shr0]) ?_
  exact j_reti dJ0_length_8abf5_10 rfl rfl
theorem c_checkP (G : GG) (x n : Int32) (v : Value) (hv : v = .null ∨ ∃ t, v = .ref t) (h0 : ¬ x < 0) (h1 : x < n) (h : AH) : SpI G 1 mJ3_checkIndex_8e157 [.int x, .int n, v] h x h := by
  refine sp_i pf_J3_checkIndex_8e157 (by rcases hv with rfl | ⟨t, rfl⟩ <;> exact Nat.le_of_ble_eq_true rfl) ?_
  show J G mJ3_checkIndex_8e157 1 0 0 (KMi G x h) 0 [(0, .int x), (1, .int n), (2, v)] [] h
  refine j_iload_n 0 dJ3_checkIndex_8e157_0 rfl ?_
  refine j_if_lt 9 dJ3_checkIndex_8e157_1 (by decide) (fun z => absurd z h0) (fun z => ?_)
  refine j_iload_n 0 dJ3_checkIndex_8e157_4 rfl ?_
  refine j_iload_n 1 dJ3_checkIndex_8e157_5 rfl ?_
  refine j_icmp_lt 16 dJ3_checkIndex_8e157_6 (by decide) (fun z => ?_) (fun z => absurd h1 z)
  refine j_iload_n 0 dJ3_checkIndex_8e157_16 rfl ?_
  exact j_reti dJ3_checkIndex_8e157_17 rfl rfl
theorem c_checkS (G : GG) (x n : Int32) (h0 : ¬ x < 0) (h1 : x < n) (h : AH) : SpV G 2 mJ0_checkIndex_df160 [.int x, .int n] h h := by
  refine sp_v pf_J0_checkIndex_df160 (Nat.le_of_ble_eq_true rfl) ?_
  show J G mJ0_checkIndex_df160 2 0 0 (KMv G h) 0 [(0, .int x), (1, .int n)] [] h
  refine j_iload_n 0 dJ0_checkIndex_df160_0 rfl ?_
  refine j_iload_n 1 dJ0_checkIndex_df160_1 rfl ?_
  refine j_getsF rfl dJ0_checkIndex_df160_2 (fun v hv => ?_)
  refine j_callSi (c_checkP G x n v hv h0 h1 h) cv_RJ0_1059 rfl (by decide) rfl rfl (Nat.le_of_ble_eq_true rfl) dJ0_checkIndex_df160_5 (by decide) ?_
  refine j_pop dJ0_checkIndex_df160_8 rfl ?_
  exact j_retv dJ0_checkIndex_df160_9 rfl rfl
theorem c_L1charAt (G : GG) (i : Nat) (k : Int32) (hi : i < 35) (hk : vp_in k (strLen.getD i 0)) (h : AH) : SpI G 3 mJ1_charAt_3b067 [.ref (gV G i), .int k] h (schr i k) h := by
  have h0 : ¬ k < 0 := fun z => hk (Or.inl z)
  have hlen : strLen.getD i 0 < 2 ^ 31 := by
    have hb : ∀ i : Fin 35, strLen.getD i.val 0 < 2 ^ 31 := by decide
    exact hb ⟨i, hi⟩
  have h1 : k < Int32.ofNat (strLen.getD i 0) := by
    obtain ⟨j, hj, rfl⟩ := vp_in_of hk hlen
    exact nI_lt hj hlen
  refine sp_i pf_J1_charAt_3b067 (Nat.le_of_ble_eq_true rfl) ?_
  show J G mJ1_charAt_3b067 3 0 0 (KMi G (schr i k) h) 0 [(0, .ref (gV G i)), (1, .int k)] [] h
  refine j_iload_n 1 dJ1_charAt_3b067_0 rfl ?_
  refine j_aload_n 0 dJ1_charAt_3b067_1 rfl ?_
  refine j_alenB hi dJ1_charAt_3b067_2 ?_
  refine j_callSv (c_checkS G k _ h0 h1 h) cv_RJ1_9 rfl (by decide) rfl rfl (Nat.le_of_ble_eq_true rfl) dJ1_charAt_3b067_3 (by decide) ?_
  refine j_aload_n 0 dJ1_charAt_3b067_6 rfl ?_
  refine j_iload_n 1 dJ1_charAt_3b067_7 rfl ?_
  refine j_bald hi hk dJ1_charAt_3b067_8 ?_
  refine j_sipush 255 dJ1_charAt_3b067_9 (by decide) ?_
  refine j_iand dJ1_charAt_3b067_12 ?_
  refine j_i2c dJ1_charAt_3b067_13 ?_
  exact j_retn (v := schr i k) dJ1_charAt_3b067_14 rfl (pk_nc _)
theorem c_String_charAt (G : GG) (i : Nat) (k : Int32) (hi : i < 35) (hk : vp_in k (strLen.getD i 0)) (h : AH) : SpI G 4 mJ0_charAt_5068e [.ref (gK G i), .int k] h (schr i k) h := by
  refine sp_i pf_J0_charAt_5068e (Nat.le_of_ble_eq_true rfl) ?_
  show J G mJ0_charAt_5068e 4 0 0 (KMi G (schr i k) h) 0 [(0, .ref (gK G i)), (1, .int k)] [] h
  refine j_aload_n 0 dJ0_charAt_5068e_0 rfl ?_
  refine j_callStr (c_isLatin1 G i hi h) cv_RJ0_492 rfl (by decide) rfl rfl (Nat.le_of_ble_eq_true rfl) dJ0_charAt_5068e_1 (by decide) hi rfl ?_
  refine j_if_eq 16 dJ0_charAt_5068e_4 (by decide) (fun z => absurd z (by decide)) (fun z => ?_)
  refine j_aload_n 0 dJ0_charAt_5068e_7 rfl ?_
  refine j_getSV hi rfl dJ0_charAt_5068e_8 ?_
  refine j_iload_n 1 dJ0_charAt_5068e_11 rfl ?_
  refine j_callSi (c_L1charAt G i k hi hk h) cv_RJ0_495 rfl (by decide) rfl rfl (Nat.le_of_ble_eq_true rfl) dJ0_charAt_5068e_12 (by decide) ?_
  exact j_retn (v := schr i k) dJ0_charAt_5068e_15 rfl (pk_nc _)
