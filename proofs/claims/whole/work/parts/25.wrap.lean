theorem pn_RL : plainName RL = true := by decide +kernel
theorem sh_236 : SH 236 = (21, 1) := by decide +kernel
theorem j_widen {G : GG} {Y : MI} {d C q q' : Nat} {K : KQ} {pc : Nat} {lv : List (Nat × Value)} {st : List Value} {h : AH} (hq : q ≤ q') (k : J G Y d C q' K pc lv st h) : J G Y d C q K pc lv st h := fun p e R s m args below meth c H locs ls hC hw hS hl => W.widen hq (by omega) (k p e R s m args below meth c H locs ls hC hw hS hl)
abbrev mL_book : MI := (yL_book, cL_book, 5, (Option.some Jvm.ClassFile.FieldType.int))
abbrev hh_book : List (Nat × Nat × Nat × Nat) := [(0, 10, 13, 13), (0, 10, 17, 15)]
def f_L_book (v1 v2 : Int32) (h : AH) : Option (Int32 × AH) := bnd (f_X11_book v1 v2 h) (fun q => Sum.elim (fun x => some (0, sla x.2 236 0 x.1.toInt64)) (fun x => some ((if x.1 = 0 then 1 else 2), x.2)) q)
set_option maxRecDepth 20000 in
theorem c_L_book (G : GG) (v1 v2 : Int32) (h : AH) (r : Int32 × AH) (hL : f_L_book v1 v2 h = some r) : SpW G 11 2 mL_book hh_book [.ref (ad G 0), .int v1, .int v2, .ref (ad G 236)] h r.1 r.2 := by
  obtain ⟨q1, hq1, hL⟩ := bnd_ex hL
  refine spw_of pn_RL (Nat.le_of_ble_eq_true rfl) ?_
  show J G mL_book 11 2 0 (KW G 2 r.1 r.2) 0 [(0, .ref (ad G 0)), (1, .int v1), (2, .int v2), (3, .ref (ad G 236))] [] h
  refine j_aload_n 3 dL_book_0 rfl ?_
  refine j_iconst 0 dL_book_1 (by decide) ?_
  refine j_aload_n 0 dL_book_2 rfl ?_
  refine j_iload_n 1 dL_book_3 rfl ?_
  refine j_iload_n 2 dL_book_4 rfl ?_
  refine j_callVc (hh := hh_book) (c_X11_book G v1 v2 h _ hq1) cv_RL_7 rfl rfl sh_0 (by decide) rfl (by decide) rfl rfl (Nat.le_of_ble_eq_true rfl) dL_book_5 (by decide) kh_yL_book (fun x e => ?_) (fun x e => ?_)
  · subst e
    replace hL : some (0, sla x.2 236 0 x.1.toInt64) = some r := hL
    cases hL
    refine j_eq (st' := [.int x.1, .int 0, .ref (ad G 236)]) rfl rfl ?_
    refine j_i2l dL_book_8 ?_
    refine j_last (n := 1) sh_236 (ib_in (by decide)) dL_book_9 ?_
    refine j_goto 21 dL_book_10 (by decide) ?_
    refine j_iconst 0 dL_book_21 (by decide) ?_
    exact j_wret (by decide) dL_book_22 rfl
  · subst e
    replace hL : some ((if x.1 = 0 then 1 else 2), x.2) = some r := hL
    by_cases z : x.1 = 0
    · rw [if_pos z] at hL
      cases hL
      refine ⟨[], ⟨0, 10, 13, 13⟩, [⟨0, 10, 17, 15⟩], rfl, (fun y hy => nomatch hy), by decide, Or.inl ⟨rfl, z⟩, fun q9 => ?_⟩
      refine j_astore (lv' := [(4, .ref q9), (0, .ref (ad G 0)), (1, .int v1), (2, .int v2), (3, .ref (ad G 236))]) dL_book_13 (by decide) rfl ?_
      refine j_iconst 1 dL_book_15 (by decide) ?_
      exact j_wret (by decide) dL_book_16 rfl
    · rw [if_neg z] at hL
      cases hL
      refine ⟨[⟨0, 10, 13, 13⟩], ⟨0, 10, 17, 15⟩, [], rfl, (fun y hy => by rcases List.mem_singleton.mp hy with rfl; exact ⟨rfl, z⟩), by decide, Or.inr ⟨rfl, z⟩, fun q9 => ?_⟩
      refine j_astore (lv' := [(4, .ref q9), (0, .ref (ad G 0)), (1, .int v1), (2, .int v2), (3, .ref (ad G 236))]) dL_book_17 (by decide) rfl ?_
      refine j_iconst 2 dL_book_19 (by decide) ?_
      exact j_wret (by decide) dL_book_20 rfl
abbrev mL_law : MI := (yL_law, cL_law, 4, (Option.some Jvm.ClassFile.FieldType.int))
abbrev hh_law : List (Nat × Nat × Nat × Nat) := [(0, 9, 12, 15)]
def f_L_law (v1 : Int32) (h : AH) : Option (Int32 × AH) := bnd (f_X11_law v1 h) (fun q => Sum.elim (fun x => some (0, sla x.2 236 0 x.1.toInt64)) (fun x => gd (¬ x.1 = 0) (some (1, x.2))) q)
set_option maxRecDepth 20000 in
theorem c_L_law (G : GG) (v1 : Int32) (h : AH) (r : Int32 × AH) (hL : f_L_law v1 h = some r) : SpW G 10 1 mL_law hh_law [.ref (ad G 0), .int v1, .ref (ad G 236)] h r.1 r.2 := by
  obtain ⟨q1, hq1, hL⟩ := bnd_ex hL
  refine spw_of pn_RL (Nat.le_of_ble_eq_true rfl) ?_
  show J G mL_law 10 1 0 (KW G 1 r.1 r.2) 0 [(0, .ref (ad G 0)), (1, .int v1), (2, .ref (ad G 236))] [] h
  refine j_aload_n 2 dL_law_0 rfl ?_
  refine j_iconst 0 dL_law_1 (by decide) ?_
  refine j_aload_n 0 dL_law_2 rfl ?_
  refine j_iload_n 1 dL_law_3 rfl ?_
  refine j_callVc (hh := hh_law) (c_X11_law G v1 h _ hq1) cv_RL_17 rfl rfl sh_0 (by decide) rfl (by decide) rfl rfl (Nat.le_of_ble_eq_true rfl) dL_law_4 (by decide) kh_yL_law (fun x e => ?_) (fun x e => ?_)
  · subst e
    replace hL : some (0, sla x.2 236 0 x.1.toInt64) = some r := hL
    cases hL
    refine j_eq (st' := [.int x.1, .int 0, .ref (ad G 236)]) rfl rfl ?_
    refine j_i2l dL_law_7 ?_
    refine j_last (n := 1) sh_236 (ib_in (by decide)) dL_law_8 ?_
    refine j_goto 15 dL_law_9 (by decide) ?_
    refine j_iconst 0 dL_law_15 (by decide) ?_
    exact j_wret (by decide) dL_law_16 rfl
  · subst e
    replace hL : gd (¬ x.1 = 0) (some (1, x.2)) = some r := hL
    obtain ⟨g1, hL⟩ := gd_ex hL
    cases hL
    refine ⟨[], ⟨0, 9, 12, 15⟩, [], rfl, (fun y hy => nomatch hy), by decide, Or.inr ⟨rfl, g1⟩, fun q9 => ?_⟩
    refine j_astore_n (lv' := [(3, .ref q9), (0, .ref (ad G 0)), (1, .int v1), (2, .ref (ad G 236))]) dL_law_12 (by decide) rfl ?_
    refine j_iconst 1 dL_law_13 (by decide) ?_
    exact j_wret (by decide) dL_law_14 rfl
abbrev mL_way : MI := (yL_way, cL_way, 5, (Option.some Jvm.ClassFile.FieldType.int))
abbrev hh_way : List (Nat × Nat × Nat × Nat) := [(0, 10, 13, 13), (0, 10, 17, 15)]
def f_L_way (v1 v2 : Int32) (h : AH) : Option (Int32 × AH) := bnd (f_X11_way v1 v2 h) (fun q => Sum.elim (fun x => some (0, sla x.2 236 0 x.1.toInt64)) (fun x => some ((if x.1 = 0 then 1 else 2), x.2)) q)
set_option maxRecDepth 20000 in
theorem c_L_way (G : GG) (v1 v2 : Int32) (h : AH) (r : Int32 × AH) (hL : f_L_way v1 v2 h = some r) : SpW G 10 2 mL_way hh_way [.ref (ad G 0), .int v1, .int v2, .ref (ad G 236)] h r.1 r.2 := by
  obtain ⟨q1, hq1, hL⟩ := bnd_ex hL
  refine spw_of pn_RL (Nat.le_of_ble_eq_true rfl) ?_
  show J G mL_way 10 2 0 (KW G 2 r.1 r.2) 0 [(0, .ref (ad G 0)), (1, .int v1), (2, .int v2), (3, .ref (ad G 236))] [] h
  refine j_aload_n 3 dL_way_0 rfl ?_
  refine j_iconst 0 dL_way_1 (by decide) ?_
  refine j_aload_n 0 dL_way_2 rfl ?_
  refine j_iload_n 1 dL_way_3 rfl ?_
  refine j_iload_n 2 dL_way_4 rfl ?_
  refine j_callVc (hh := hh_way) (c_X11_way G v1 v2 h _ hq1) cv_RL_21 rfl rfl sh_0 (by decide) rfl (by decide) rfl rfl (Nat.le_of_ble_eq_true rfl) dL_way_5 (by decide) kh_yL_way (fun x e => ?_) (fun x e => ?_)
  · subst e
    replace hL : some (0, sla x.2 236 0 x.1.toInt64) = some r := hL
    cases hL
    refine j_eq (st' := [.int x.1, .int 0, .ref (ad G 236)]) rfl rfl ?_
    refine j_i2l dL_way_8 ?_
    refine j_last (n := 1) sh_236 (ib_in (by decide)) dL_way_9 ?_
    refine j_goto 21 dL_way_10 (by decide) ?_
    refine j_iconst 0 dL_way_21 (by decide) ?_
    exact j_wret (by decide) dL_way_22 rfl
  · subst e
    replace hL : some ((if x.1 = 0 then 1 else 2), x.2) = some r := hL
    by_cases z : x.1 = 0
    · rw [if_pos z] at hL
      cases hL
      refine ⟨[], ⟨0, 10, 13, 13⟩, [⟨0, 10, 17, 15⟩], rfl, (fun y hy => nomatch hy), by decide, Or.inl ⟨rfl, z⟩, fun q9 => ?_⟩
      refine j_astore (lv' := [(4, .ref q9), (0, .ref (ad G 0)), (1, .int v1), (2, .int v2), (3, .ref (ad G 236))]) dL_way_13 (by decide) rfl ?_
      refine j_iconst 1 dL_way_15 (by decide) ?_
      exact j_wret (by decide) dL_way_16 rfl
    · rw [if_neg z] at hL
      cases hL
      refine ⟨[⟨0, 10, 13, 13⟩], ⟨0, 10, 17, 15⟩, [], rfl, (fun y hy => by rcases List.mem_singleton.mp hy with rfl; exact ⟨rfl, z⟩), by decide, Or.inr ⟨rfl, z⟩, fun q9 => ?_⟩
      refine j_astore (lv' := [(4, .ref q9), (0, .ref (ad G 0)), (1, .int v1), (2, .int v2), (3, .ref (ad G 236))]) dL_way_17 (by decide) rfl ?_
      refine j_iconst 2 dL_way_19 (by decide) ?_
      exact j_wret (by decide) dL_way_20 rfl
abbrev mL_count : MI := (yL_count, cL_count, 4, (Option.some Jvm.ClassFile.FieldType.int))
abbrev hh_count : List (Nat × Nat × Nat × Nat) := [(0, 9, 12, 13)]
def f_L_count (v1 : Int32) (h : AH) : Option (Int32 × AH) := bnd (f_X11_count v1 h) (fun q => Sum.elim (fun x => some (0, sla x.2 236 0 x.1.toInt64)) (fun x => gd (x.1 = 0) (some (1, x.2))) q)
set_option maxRecDepth 20000 in
theorem c_L_count (G : GG) (v1 : Int32) (h : AH) (r : Int32 × AH) (hL : f_L_count v1 h = some r) : SpW G 9 1 mL_count hh_count [.ref (ad G 0), .int v1, .ref (ad G 236)] h r.1 r.2 := by
  obtain ⟨q1, hq1, hL⟩ := bnd_ex hL
  refine spw_of pn_RL (Nat.le_of_ble_eq_true rfl) ?_
  show J G mL_count 9 1 0 (KW G 1 r.1 r.2) 0 [(0, .ref (ad G 0)), (1, .int v1), (2, .ref (ad G 236))] [] h
  refine j_aload_n 2 dL_count_0 rfl ?_
  refine j_iconst 0 dL_count_1 (by decide) ?_
  refine j_aload_n 0 dL_count_2 rfl ?_
  refine j_iload_n 1 dL_count_3 rfl ?_
  refine j_callVc (hh := hh_count) (c_X11_count G v1 h _ hq1) cv_RL_24 rfl rfl sh_0 (by decide) rfl (by decide) rfl rfl (Nat.le_of_ble_eq_true rfl) dL_count_4 (by decide) kh_yL_count (fun x e => ?_) (fun x e => ?_)
  · subst e
    replace hL : some (0, sla x.2 236 0 x.1.toInt64) = some r := hL
    cases hL
    refine j_eq (st' := [.int x.1, .int 0, .ref (ad G 236)]) rfl rfl ?_
    refine j_i2l dL_count_7 ?_
    refine j_last (n := 1) sh_236 (ib_in (by decide)) dL_count_8 ?_
    refine j_goto 15 dL_count_9 (by decide) ?_
    refine j_iconst 0 dL_count_15 (by decide) ?_
    exact j_wret (by decide) dL_count_16 rfl
  · subst e
    replace hL : gd (x.1 = 0) (some (1, x.2)) = some r := hL
    obtain ⟨g1, hL⟩ := gd_ex hL
    cases hL
    refine ⟨[], ⟨0, 9, 12, 13⟩, [], rfl, (fun y hy => nomatch hy), by decide, Or.inl ⟨rfl, g1⟩, fun q9 => ?_⟩
    refine j_astore_n (lv' := [(3, .ref q9), (0, .ref (ad G 0)), (1, .int v1), (2, .ref (ad G 236))]) dL_count_12 (by decide) rfl ?_
    refine j_iconst 1 dL_count_13 (by decide) ?_
    exact j_wret (by decide) dL_count_14 rfl
abbrev mL_about : MI := (yL_about, cL_about, 5, (Option.some Jvm.ClassFile.FieldType.int))
abbrev hh_about : List (Nat × Nat × Nat × Nat) := [(0, 10, 13, 13)]
def f_L_about (v1 v2 : Int32) (h : AH) : Option (Int32 × AH) := bnd (f_X11_about v1 v2 h) (fun q => Sum.elim (fun x => some (0, sla x.2 236 0 x.1.toInt64)) (fun x => gd (x.1 = 0) (some (1, x.2))) q)
set_option maxRecDepth 20000 in
theorem c_L_about (G : GG) (v1 v2 : Int32) (h : AH) (r : Int32 × AH) (hL : f_L_about v1 v2 h = some r) : SpW G 9 2 mL_about hh_about [.ref (ad G 0), .int v1, .int v2, .ref (ad G 236)] h r.1 r.2 := by
  obtain ⟨q1, hq1, hL⟩ := bnd_ex hL
  refine spw_of pn_RL (Nat.le_of_ble_eq_true rfl) ?_
  show J G mL_about 9 2 0 (KW G 2 r.1 r.2) 0 [(0, .ref (ad G 0)), (1, .int v1), (2, .int v2), (3, .ref (ad G 236))] [] h
  refine j_aload_n 3 dL_about_0 rfl ?_
  refine j_iconst 0 dL_about_1 (by decide) ?_
  refine j_aload_n 0 dL_about_2 rfl ?_
  refine j_iload_n 1 dL_about_3 rfl ?_
  refine j_iload_n 2 dL_about_4 rfl ?_
  refine j_callVc (hh := hh_about) (c_X11_about G v1 v2 h _ hq1) cv_RL_27 rfl rfl sh_0 (by decide) rfl (by decide) rfl rfl (Nat.le_of_ble_eq_true rfl) dL_about_5 (by decide) kh_yL_about (fun x e => ?_) (fun x e => ?_)
  · subst e
    replace hL : some (0, sla x.2 236 0 x.1.toInt64) = some r := hL
    cases hL
    refine j_eq (st' := [.int x.1, .int 0, .ref (ad G 236)]) rfl rfl ?_
    refine j_i2l dL_about_8 ?_
    refine j_last (n := 1) sh_236 (ib_in (by decide)) dL_about_9 ?_
    refine j_goto 17 dL_about_10 (by decide) ?_
    refine j_iconst 0 dL_about_17 (by decide) ?_
    exact j_wret (by decide) dL_about_18 rfl
  · subst e
    replace hL : gd (x.1 = 0) (some (1, x.2)) = some r := hL
    obtain ⟨g1, hL⟩ := gd_ex hL
    cases hL
    refine ⟨[], ⟨0, 10, 13, 13⟩, [], rfl, (fun y hy => nomatch hy), by decide, Or.inl ⟨rfl, g1⟩, fun q9 => ?_⟩
    refine j_astore (lv' := [(4, .ref q9), (0, .ref (ad G 0)), (1, .int v1), (2, .int v2), (3, .ref (ad G 236))]) dL_about_13 (by decide) rfl ?_
    refine j_iconst 1 dL_about_15 (by decide) ?_
    exact j_wret (by decide) dL_about_16 rfl
abbrev mL_leaf : MI := (yL_leaf, cL_leaf, 6, (Option.some Jvm.ClassFile.FieldType.int))
abbrev hh_leaf : List (Nat × Nat × Nat × Nat) := [(0, 12, 15, 13)]
def f_L_leaf (v1 v2 v3 : Int32) (h : AH) : Option (Int32 × AH) := bnd (f_X11_leaf v1 v2 v3 h) (fun q => Sum.elim (fun x => some (0, sla x.2 236 0 x.1.toInt64)) (fun x => gd (x.1 = 0) (some (1, x.2))) q)
set_option maxRecDepth 20000 in
theorem c_L_leaf (G : GG) (v1 v2 v3 : Int32) (h : AH) (r : Int32 × AH) (hL : f_L_leaf v1 v2 v3 h = some r) : SpW G 10 3 mL_leaf hh_leaf [.ref (ad G 0), .int v1, .int v2, .int v3, .ref (ad G 236)] h r.1 r.2 := by
  obtain ⟨q1, hq1, hL⟩ := bnd_ex hL
  refine spw_of pn_RL (Nat.le_of_ble_eq_true rfl) ?_
  show J G mL_leaf 10 3 0 (KW G 3 r.1 r.2) 0 [(0, .ref (ad G 0)), (1, .int v1), (2, .int v2), (3, .int v3), (4, .ref (ad G 236))] [] h
  refine j_aload 4 dL_leaf_0 rfl ?_
  refine j_iconst 0 dL_leaf_2 (by decide) ?_
  refine j_aload_n 0 dL_leaf_3 rfl ?_
  refine j_iload_n 1 dL_leaf_4 rfl ?_
  refine j_iload_n 2 dL_leaf_5 rfl ?_
  refine j_iload_n 3 dL_leaf_6 rfl ?_
  refine j_callVc (hh := hh_leaf) (c_X11_leaf G v1 v2 v3 h _ hq1) cv_RL_30 rfl rfl sh_0 (by decide) rfl (by decide) rfl rfl (Nat.le_of_ble_eq_true rfl) dL_leaf_7 (by decide) kh_yL_leaf (fun x e => ?_) (fun x e => ?_)
  · subst e
    replace hL : some (0, sla x.2 236 0 x.1.toInt64) = some r := hL
    cases hL
    refine j_eq (st' := [.int x.1, .int 0, .ref (ad G 236)]) rfl rfl ?_
    refine j_i2l dL_leaf_10 ?_
    refine j_last (n := 1) sh_236 (ib_in (by decide)) dL_leaf_11 ?_
    refine j_goto 19 dL_leaf_12 (by decide) ?_
    refine j_iconst 0 dL_leaf_19 (by decide) ?_
    exact j_wret (by decide) dL_leaf_20 rfl
  · subst e
    replace hL : gd (x.1 = 0) (some (1, x.2)) = some r := hL
    obtain ⟨g1, hL⟩ := gd_ex hL
    cases hL
    refine ⟨[], ⟨0, 12, 15, 13⟩, [], rfl, (fun y hy => nomatch hy), by decide, Or.inl ⟨rfl, g1⟩, fun q9 => ?_⟩
    refine j_astore (lv' := [(5, .ref q9), (0, .ref (ad G 0)), (1, .int v1), (2, .int v2), (3, .int v3), (4, .ref (ad G 236))]) dL_leaf_15 (by decide) rfl ?_
    refine j_iconst 1 dL_leaf_17 (by decide) ?_
    exact j_wret (by decide) dL_leaf_18 rfl
abbrev mL_turnings : MI := (yL_turnings, cL_turnings, 6, (Option.some Jvm.ClassFile.FieldType.int))
abbrev hh_turnings : List (Nat × Nat × Nat × Nat) := [(0, 12, 15, 13)]
def f_L_turnings (v1 v2 v3 : Int32) (h : AH) : Option (Int32 × AH) := bnd (f_X11_turnings v1 v2 v3 h) (fun q => Sum.elim (fun x => some (0, sla x.2 236 0 x.1.toInt64)) (fun x => gd (x.1 = 0) (some (1, x.2))) q)
set_option maxRecDepth 20000 in
theorem c_L_turnings (G : GG) (v1 v2 v3 : Int32) (h : AH) (r : Int32 × AH) (hL : f_L_turnings v1 v2 v3 h = some r) : SpW G 9 3 mL_turnings hh_turnings [.ref (ad G 0), .int v1, .int v2, .int v3, .ref (ad G 236)] h r.1 r.2 := by
  obtain ⟨q1, hq1, hL⟩ := bnd_ex hL
  refine spw_of pn_RL (Nat.le_of_ble_eq_true rfl) ?_
  show J G mL_turnings 9 3 0 (KW G 3 r.1 r.2) 0 [(0, .ref (ad G 0)), (1, .int v1), (2, .int v2), (3, .int v3), (4, .ref (ad G 236))] [] h
  refine j_aload 4 dL_turnings_0 rfl ?_
  refine j_iconst 0 dL_turnings_2 (by decide) ?_
  refine j_aload_n 0 dL_turnings_3 rfl ?_
  refine j_iload_n 1 dL_turnings_4 rfl ?_
  refine j_iload_n 2 dL_turnings_5 rfl ?_
  refine j_iload_n 3 dL_turnings_6 rfl ?_
  refine j_callVc (hh := hh_turnings) (c_X11_turnings G v1 v2 v3 h _ hq1) cv_RL_34 rfl rfl sh_0 (by decide) rfl (by decide) rfl rfl (Nat.le_of_ble_eq_true rfl) dL_turnings_7 (by decide) kh_yL_turnings (fun x e => ?_) (fun x e => ?_)
  · subst e
    replace hL : some (0, sla x.2 236 0 x.1.toInt64) = some r := hL
    cases hL
    refine j_eq (st' := [.int x.1, .int 0, .ref (ad G 236)]) rfl rfl ?_
    refine j_i2l dL_turnings_10 ?_
    refine j_last (n := 1) sh_236 (ib_in (by decide)) dL_turnings_11 ?_
    refine j_goto 19 dL_turnings_12 (by decide) ?_
    refine j_iconst 0 dL_turnings_19 (by decide) ?_
    exact j_wret (by decide) dL_turnings_20 rfl
  · subst e
    replace hL : gd (x.1 = 0) (some (1, x.2)) = some r := hL
    obtain ⟨g1, hL⟩ := gd_ex hL
    cases hL
    refine ⟨[], ⟨0, 12, 15, 13⟩, [], rfl, (fun y hy => nomatch hy), by decide, Or.inl ⟨rfl, g1⟩, fun q9 => ?_⟩
    refine j_astore (lv' := [(5, .ref q9), (0, .ref (ad G 0)), (1, .int v1), (2, .int v2), (3, .int v3), (4, .ref (ad G 236))]) dL_turnings_15 (by decide) rfl ?_
    refine j_iconst 1 dL_turnings_17 (by decide) ?_
    exact j_wret (by decide) dL_turnings_18 rfl
abbrev mL_reader : MI := (yL_reader, cL_reader, 7, (Option.some Jvm.ClassFile.FieldType.int))
abbrev hh_reader : List (Nat × Nat × Nat × Nat) := [(0, 14, 17, 13)]
def f_L_reader (v1 v2 v3 v4 : Int32) (h : AH) : Option (Int32 × AH) := bnd (f_X11_reader v1 v2 v3 v4 h) (fun q => Sum.elim (fun x => some (0, sla x.2 236 0 x.1.toInt64)) (fun x => gd (x.1 = 0) (some (1, x.2))) q)
set_option maxRecDepth 20000 in
theorem c_L_reader (G : GG) (v1 v2 v3 v4 : Int32) (h : AH) (r : Int32 × AH) (hL : f_L_reader v1 v2 v3 v4 h = some r) : SpW G 9 2 mL_reader hh_reader [.ref (ad G 0), .int v1, .int v2, .int v3, .int v4, .ref (ad G 236)] h r.1 r.2 := by
  obtain ⟨q1, hq1, hL⟩ := bnd_ex hL
  refine spw_of pn_RL (Nat.le_of_ble_eq_true rfl) ?_
  show J G mL_reader 9 2 0 (KW G 2 r.1 r.2) 0 [(0, .ref (ad G 0)), (1, .int v1), (2, .int v2), (3, .int v3), (4, .int v4), (5, .ref (ad G 236))] [] h
  refine j_aload 5 dL_reader_0 rfl ?_
  refine j_iconst 0 dL_reader_2 (by decide) ?_
  refine j_aload_n 0 dL_reader_3 rfl ?_
  refine j_iload_n 1 dL_reader_4 rfl ?_
  refine j_iload_n 2 dL_reader_5 rfl ?_
  refine j_iload_n 3 dL_reader_6 rfl ?_
  refine j_iload 4 dL_reader_7 rfl ?_
  refine j_callVc (hh := hh_reader) (c_X11_reader G v1 v2 v3 v4 h _ hq1) cv_RL_37 rfl rfl sh_0 (by decide) rfl (by decide) rfl rfl (Nat.le_of_ble_eq_true rfl) dL_reader_9 (by decide) kh_yL_reader (fun x e => ?_) (fun x e => ?_)
  · subst e
    replace hL : some (0, sla x.2 236 0 x.1.toInt64) = some r := hL
    cases hL
    refine j_eq (st' := [.int x.1, .int 0, .ref (ad G 236)]) rfl rfl ?_
    refine j_i2l dL_reader_12 ?_
    refine j_last (n := 1) sh_236 (ib_in (by decide)) dL_reader_13 ?_
    refine j_goto 21 dL_reader_14 (by decide) ?_
    refine j_iconst 0 dL_reader_21 (by decide) ?_
    exact j_wret (by decide) dL_reader_22 rfl
  · subst e
    replace hL : gd (x.1 = 0) (some (1, x.2)) = some r := hL
    obtain ⟨g1, hL⟩ := gd_ex hL
    cases hL
    refine ⟨[], ⟨0, 14, 17, 13⟩, [], rfl, (fun y hy => nomatch hy), by decide, Or.inl ⟨rfl, g1⟩, fun q9 => ?_⟩
    refine j_astore (lv' := [(6, .ref q9), (0, .ref (ad G 0)), (1, .int v1), (2, .int v2), (3, .int v3), (4, .int v4), (5, .ref (ad G 236))]) dL_reader_17 (by decide) rfl ?_
    refine j_iconst 1 dL_reader_19 (by decide) ?_
    exact j_wret (by decide) dL_reader_20 rfl
abbrev mL_gone : MI := (yL_gone, cL_gone, 4, (Option.some Jvm.ClassFile.FieldType.int))
abbrev hh_gone : List (Nat × Nat × Nat × Nat) := [(0, 9, 12, 13)]
def f_L_gone (v1 : Int32) (h : AH) : Option (Int32 × AH) := bnd (f_X11_gone v1 h) (fun q => Sum.elim (fun x => some (0, sla x.2 236 0 x.1.toInt64)) (fun x => gd (x.1 = 0) (some (1, x.2))) q)
set_option maxRecDepth 20000 in
theorem c_L_gone (G : GG) (v1 : Int32) (h : AH) (r : Int32 × AH) (hL : f_L_gone v1 h = some r) : SpW G 9 1 mL_gone hh_gone [.ref (ad G 0), .int v1, .ref (ad G 236)] h r.1 r.2 := by
  obtain ⟨q1, hq1, hL⟩ := bnd_ex hL
  refine spw_of pn_RL (Nat.le_of_ble_eq_true rfl) ?_
  show J G mL_gone 9 1 0 (KW G 1 r.1 r.2) 0 [(0, .ref (ad G 0)), (1, .int v1), (2, .ref (ad G 236))] [] h
  refine j_aload_n 2 dL_gone_0 rfl ?_
  refine j_iconst 0 dL_gone_1 (by decide) ?_
  refine j_aload_n 0 dL_gone_2 rfl ?_
  refine j_iload_n 1 dL_gone_3 rfl ?_
  refine j_callVc (hh := hh_gone) (c_X11_gone G v1 h _ hq1) cv_RL_41 rfl rfl sh_0 (by decide) rfl (by decide) rfl rfl (Nat.le_of_ble_eq_true rfl) dL_gone_4 (by decide) kh_yL_gone (fun x e => ?_) (fun x e => ?_)
  · subst e
    replace hL : some (0, sla x.2 236 0 x.1.toInt64) = some r := hL
    cases hL
    refine j_eq (st' := [.int x.1, .int 0, .ref (ad G 236)]) rfl rfl ?_
    refine j_i2l dL_gone_7 ?_
    refine j_last (n := 1) sh_236 (ib_in (by decide)) dL_gone_8 ?_
    refine j_goto 15 dL_gone_9 (by decide) ?_
    refine j_iconst 0 dL_gone_15 (by decide) ?_
    exact j_wret (by decide) dL_gone_16 rfl
  · subst e
    replace hL : gd (x.1 = 0) (some (1, x.2)) = some r := hL
    obtain ⟨g1, hL⟩ := gd_ex hL
    cases hL
    refine ⟨[], ⟨0, 9, 12, 13⟩, [], rfl, (fun y hy => nomatch hy), by decide, Or.inl ⟨rfl, g1⟩, fun q9 => ?_⟩
    refine j_astore_n (lv' := [(3, .ref q9), (0, .ref (ad G 0)), (1, .int v1), (2, .ref (ad G 236))]) dL_gone_12 (by decide) rfl ?_
    refine j_iconst 1 dL_gone_13 (by decide) ?_
    exact j_wret (by decide) dL_gone_14 rfl
abbrev mL_dirt : MI := (yL_dirt, cL_dirt, 6, (Option.some Jvm.ClassFile.FieldType.int))
abbrev hh_dirt : List (Nat × Nat × Nat × Nat) := [(0, 12, 15, 13)]
def f_L_dirt (v1 v2 v3 : Int32) (h : AH) : Option (Int32 × AH) := bnd (f_X11_dirt v1 v2 v3 h) (fun q => Sum.elim (fun x => some (0, sla x.2 236 0 x.1.toInt64)) (fun x => gd (x.1 = 0) (some (1, x.2))) q)
set_option maxRecDepth 20000 in
theorem c_L_dirt (G : GG) (v1 v2 v3 : Int32) (h : AH) (r : Int32 × AH) (hL : f_L_dirt v1 v2 v3 h = some r) : SpW G 10 3 mL_dirt hh_dirt [.ref (ad G 0), .int v1, .int v2, .int v3, .ref (ad G 236)] h r.1 r.2 := by
  obtain ⟨q1, hq1, hL⟩ := bnd_ex hL
  refine spw_of pn_RL (Nat.le_of_ble_eq_true rfl) ?_
  show J G mL_dirt 10 3 0 (KW G 3 r.1 r.2) 0 [(0, .ref (ad G 0)), (1, .int v1), (2, .int v2), (3, .int v3), (4, .ref (ad G 236))] [] h
  refine j_aload 4 dL_dirt_0 rfl ?_
  refine j_iconst 0 dL_dirt_2 (by decide) ?_
  refine j_aload_n 0 dL_dirt_3 rfl ?_
  refine j_iload_n 1 dL_dirt_4 rfl ?_
  refine j_iload_n 2 dL_dirt_5 rfl ?_
  refine j_iload_n 3 dL_dirt_6 rfl ?_
  refine j_callVc (hh := hh_dirt) (c_X11_dirt G v1 v2 v3 h _ hq1) cv_RL_44 rfl rfl sh_0 (by decide) rfl (by decide) rfl rfl (Nat.le_of_ble_eq_true rfl) dL_dirt_7 (by decide) kh_yL_dirt (fun x e => ?_) (fun x e => ?_)
  · subst e
    replace hL : some (0, sla x.2 236 0 x.1.toInt64) = some r := hL
    cases hL
    refine j_eq (st' := [.int x.1, .int 0, .ref (ad G 236)]) rfl rfl ?_
    refine j_i2l dL_dirt_10 ?_
    refine j_last (n := 1) sh_236 (ib_in (by decide)) dL_dirt_11 ?_
    refine j_goto 19 dL_dirt_12 (by decide) ?_
    refine j_iconst 0 dL_dirt_19 (by decide) ?_
    exact j_wret (by decide) dL_dirt_20 rfl
  · subst e
    replace hL : gd (x.1 = 0) (some (1, x.2)) = some r := hL
    obtain ⟨g1, hL⟩ := gd_ex hL
    cases hL
    refine ⟨[], ⟨0, 12, 15, 13⟩, [], rfl, (fun y hy => nomatch hy), by decide, Or.inl ⟨rfl, g1⟩, fun q9 => ?_⟩
    refine j_astore (lv' := [(5, .ref q9), (0, .ref (ad G 0)), (1, .int v1), (2, .int v2), (3, .int v3), (4, .ref (ad G 236))]) dL_dirt_15 (by decide) rfl ?_
    refine j_iconst 1 dL_dirt_17 (by decide) ?_
    exact j_wret (by decide) dL_dirt_18 rfl
abbrev mL_drawn : MI := (yL_drawn, cL_drawn, 5, (Option.some Jvm.ClassFile.FieldType.int))
abbrev hh_drawn : List (Nat × Nat × Nat × Nat) := [(0, 10, 13, 13)]
def f_L_drawn (v1 v2 : Int32) (h : AH) : Option (Int32 × AH) := bnd (f_X11_drawn v1 v2 h) (fun q => Sum.elim (fun x => some (0, sla x.2 236 0 x.1.toInt64)) (fun x => gd (x.1 = 0) (some (1, x.2))) q)
set_option maxRecDepth 20000 in
theorem c_L_drawn (G : GG) (v1 v2 : Int32) (h : AH) (r : Int32 × AH) (hL : f_L_drawn v1 v2 h = some r) : SpW G 9 1 mL_drawn hh_drawn [.ref (ad G 0), .int v1, .int v2, .ref (ad G 236)] h r.1 r.2 := by
  obtain ⟨q1, hq1, hL⟩ := bnd_ex hL
  refine spw_of pn_RL (Nat.le_of_ble_eq_true rfl) ?_
  show J G mL_drawn 9 1 0 (KW G 1 r.1 r.2) 0 [(0, .ref (ad G 0)), (1, .int v1), (2, .int v2), (3, .ref (ad G 236))] [] h
  refine j_aload_n 3 dL_drawn_0 rfl ?_
  refine j_iconst 0 dL_drawn_1 (by decide) ?_
  refine j_aload_n 0 dL_drawn_2 rfl ?_
  refine j_iload_n 1 dL_drawn_3 rfl ?_
  refine j_iload_n 2 dL_drawn_4 rfl ?_
  refine j_callVc (hh := hh_drawn) (c_X11_drawn G v1 v2 h _ hq1) cv_RL_47 rfl rfl sh_0 (by decide) rfl (by decide) rfl rfl (Nat.le_of_ble_eq_true rfl) dL_drawn_5 (by decide) kh_yL_drawn (fun x e => ?_) (fun x e => ?_)
  · subst e
    replace hL : some (0, sla x.2 236 0 x.1.toInt64) = some r := hL
    cases hL
    refine j_eq (st' := [.int x.1, .int 0, .ref (ad G 236)]) rfl rfl ?_
    refine j_i2l dL_drawn_8 ?_
    refine j_last (n := 1) sh_236 (ib_in (by decide)) dL_drawn_9 ?_
    refine j_goto 17 dL_drawn_10 (by decide) ?_
    refine j_iconst 0 dL_drawn_17 (by decide) ?_
    exact j_wret (by decide) dL_drawn_18 rfl
  · subst e
    replace hL : gd (x.1 = 0) (some (1, x.2)) = some r := hL
    obtain ⟨g1, hL⟩ := gd_ex hL
    cases hL
    refine ⟨[], ⟨0, 10, 13, 13⟩, [], rfl, (fun y hy => nomatch hy), by decide, Or.inl ⟨rfl, g1⟩, fun q9 => ?_⟩
    refine j_astore (lv' := [(4, .ref q9), (0, .ref (ad G 0)), (1, .int v1), (2, .int v2), (3, .ref (ad G 236))]) dL_drawn_13 (by decide) rfl ?_
    refine j_iconst 1 dL_drawn_15 (by decide) ?_
    exact j_wret (by decide) dL_drawn_16 rfl
abbrev mL_read : MI := (yL_read, cL_read, 6, (Option.some Jvm.ClassFile.FieldType.int))
abbrev hh_read : List (Nat × Nat × Nat × Nat) := [(0, 19, 22, 13)]
def f_L_read (v1 v2 v3 : Int32) (h : AH) : Option (Int32 × AH) := bnd (f_X11_read v1 v2 v3 h) (fun q => Sum.elim (fun x => some (0, sla x.2 236 0 (if x.1 = true then 1 else 0))) (fun x => gd (x.1 = 0) (some (1, x.2))) q)
set_option maxRecDepth 20000 in
theorem c_L_read (G : GG) (v1 v2 v3 : Int32) (h : AH) (r : Int32 × AH) (hL : f_L_read v1 v2 v3 h = some r) : SpW G 10 2 mL_read hh_read [.ref (ad G 0), .int v1, .int v2, .int v3, .ref (ad G 236)] h r.1 r.2 := by
  obtain ⟨q1, hq1, hL⟩ := bnd_ex hL
  refine spw_of pn_RL (Nat.le_of_ble_eq_true rfl) ?_
  show J G mL_read 10 2 0 (KW G 2 r.1 r.2) 0 [(0, .ref (ad G 0)), (1, .int v1), (2, .int v2), (3, .int v3), (4, .ref (ad G 236))] [] h
  refine j_aload 4 dL_read_0 rfl ?_
  refine j_iconst 0 dL_read_2 (by decide) ?_
  refine j_aload_n 0 dL_read_3 rfl ?_
  refine j_iload_n 1 dL_read_4 rfl ?_
  refine j_iload_n 2 dL_read_5 rfl ?_
  refine j_iload_n 3 dL_read_6 rfl ?_
  refine j_callVc (hh := hh_read) (c_X11_read G v1 v2 v3 h _ hq1) cv_RL_50 rfl rfl sh_0 (by decide) rfl (by decide) rfl rfl (Nat.le_of_ble_eq_true rfl) dL_read_7 (by decide) kh_yL_read (fun x e => ?_) (fun x e => ?_)
  · subst e
    replace hL : some (0, sla x.2 236 0 (if x.1 = true then 1 else 0)) = some r := hL
    cases hL
    refine j_eq (st' := [.int (bI x.1), .int 0, .ref (ad G 236)]) rfl rfl ?_
    refine j_ifz_eq 17 dL_read_10 (by decide) (fun z => ?_) (fun z => ?_)
    · refine j_lconst 0 dL_read_17 (by decide) ?_
      rw [if_neg z]
      refine j_last (n := 1) sh_236 (ib_in (by decide)) dL_read_18 ?_
      refine j_goto 26 dL_read_19 (by decide) ?_
      refine j_iconst 0 dL_read_26 (by decide) ?_
      exact j_wret (by decide) dL_read_27 rfl
    · refine j_lconst 1 dL_read_13 (by decide) ?_
      refine j_goto 18 dL_read_14 (by decide) ?_
      rw [if_pos z]
      refine j_last (n := 1) sh_236 (ib_in (by decide)) dL_read_18 ?_
      refine j_goto 26 dL_read_19 (by decide) ?_
      refine j_iconst 0 dL_read_26 (by decide) ?_
      exact j_wret (by decide) dL_read_27 rfl
  · subst e
    replace hL : gd (x.1 = 0) (some (1, x.2)) = some r := hL
    obtain ⟨g1, hL⟩ := gd_ex hL
    cases hL
    refine ⟨[], ⟨0, 19, 22, 13⟩, [], rfl, (fun y hy => nomatch hy), by decide, Or.inl ⟨rfl, g1⟩, fun q9 => ?_⟩
    refine j_astore (lv' := [(5, .ref q9), (0, .ref (ad G 0)), (1, .int v1), (2, .int v2), (3, .int v3), (4, .ref (ad G 236))]) dL_read_22 (by decide) rfl ?_
    refine j_iconst 1 dL_read_24 (by decide) ?_
    exact j_wret (by decide) dL_read_25 rfl
abbrev mL_bounds : MI := (yL_bounds, cL_bounds, 6, (Option.some Jvm.ClassFile.FieldType.int))
abbrev hh_bounds : List (Nat × Nat × Nat × Nat) := [(0, 12, 15, 13)]
def f_L_bounds (v1 v2 v3 : Int32) (h : AH) : Option (Int32 × AH) := bnd (f_X11_bounds v1 v2 v3 h) (fun q => Sum.elim (fun x => some (0, sla x.2 236 0 x.1.toInt64)) (fun x => gd (x.1 = 0) (some (1, x.2))) q)
set_option maxRecDepth 20000 in
theorem c_L_bounds (G : GG) (v1 v2 v3 : Int32) (h : AH) (r : Int32 × AH) (hL : f_L_bounds v1 v2 v3 h = some r) : SpW G 10 4 mL_bounds hh_bounds [.ref (ad G 0), .int v1, .int v2, .int v3, .ref (ad G 236)] h r.1 r.2 := by
  obtain ⟨q1, hq1, hL⟩ := bnd_ex hL
  refine spw_of pn_RL (Nat.le_of_ble_eq_true rfl) ?_
  show J G mL_bounds 10 4 0 (KW G 4 r.1 r.2) 0 [(0, .ref (ad G 0)), (1, .int v1), (2, .int v2), (3, .int v3), (4, .ref (ad G 236))] [] h
  refine j_aload 4 dL_bounds_0 rfl ?_
  refine j_iconst 0 dL_bounds_2 (by decide) ?_
  refine j_aload_n 0 dL_bounds_3 rfl ?_
  refine j_iload_n 1 dL_bounds_4 rfl ?_
  refine j_iload_n 2 dL_bounds_5 rfl ?_
  refine j_iload_n 3 dL_bounds_6 rfl ?_
  refine j_callVc (hh := hh_bounds) (c_X11_bounds G v1 v2 v3 h _ hq1) cv_RL_54 rfl rfl sh_0 (by decide) rfl (by decide) rfl rfl (Nat.le_of_ble_eq_true rfl) dL_bounds_7 (by decide) kh_yL_bounds (fun x e => ?_) (fun x e => ?_)
  · subst e
    replace hL : some (0, sla x.2 236 0 x.1.toInt64) = some r := hL
    cases hL
    refine j_eq (st' := [.int x.1, .int 0, .ref (ad G 236)]) rfl rfl ?_
    refine j_i2l dL_bounds_10 ?_
    refine j_last (n := 1) sh_236 (ib_in (by decide)) dL_bounds_11 ?_
    refine j_goto 19 dL_bounds_12 (by decide) ?_
    refine j_iconst 0 dL_bounds_19 (by decide) ?_
    exact j_wret (by decide) dL_bounds_20 rfl
  · subst e
    replace hL : gd (x.1 = 0) (some (1, x.2)) = some r := hL
    obtain ⟨g1, hL⟩ := gd_ex hL
    cases hL
    refine ⟨[], ⟨0, 12, 15, 13⟩, [], rfl, (fun y hy => nomatch hy), by decide, Or.inl ⟨rfl, g1⟩, fun q9 => ?_⟩
    refine j_astore (lv' := [(5, .ref q9), (0, .ref (ad G 0)), (1, .int v1), (2, .int v2), (3, .int v3), (4, .ref (ad G 236))]) dL_bounds_15 (by decide) rfl ?_
    refine j_iconst 1 dL_bounds_17 (by decide) ?_
    exact j_wret (by decide) dL_bounds_18 rfl
abbrev mL_light : MI := (yL_light, cL_light, 5, (Option.some Jvm.ClassFile.FieldType.int))
abbrev hh_light : List (Nat × Nat × Nat × Nat) := [(0, 10, 13, 13)]
def f_L_light (v1 v2 : Int32) (h : AH) : Option (Int32 × AH) := bnd (f_X11_light v1 v2 h) (fun q => Sum.elim (fun x => some (0, sla x.2 236 0 x.1.toInt64)) (fun x => gd (x.1 = 0) (some (1, x.2))) q)
set_option maxRecDepth 20000 in
theorem c_L_light (G : GG) (v1 v2 : Int32) (h : AH) (r : Int32 × AH) (hL : f_L_light v1 v2 h = some r) : SpW G 10 3 mL_light hh_light [.ref (ad G 0), .int v1, .int v2, .ref (ad G 236)] h r.1 r.2 := by
  obtain ⟨q1, hq1, hL⟩ := bnd_ex hL
  refine spw_of pn_RL (Nat.le_of_ble_eq_true rfl) ?_
  show J G mL_light 10 3 0 (KW G 3 r.1 r.2) 0 [(0, .ref (ad G 0)), (1, .int v1), (2, .int v2), (3, .ref (ad G 236))] [] h
  refine j_aload_n 3 dL_light_0 rfl ?_
  refine j_iconst 0 dL_light_1 (by decide) ?_
  refine j_aload_n 0 dL_light_2 rfl ?_
  refine j_iload_n 1 dL_light_3 rfl ?_
  refine j_iload_n 2 dL_light_4 rfl ?_
  refine j_callVc (hh := hh_light) (c_X11_light G v1 v2 h _ hq1) cv_RL_57 rfl rfl sh_0 (by decide) rfl (by decide) rfl rfl (Nat.le_of_ble_eq_true rfl) dL_light_5 (by decide) kh_yL_light (fun x e => ?_) (fun x e => ?_)
  · subst e
    replace hL : some (0, sla x.2 236 0 x.1.toInt64) = some r := hL
    cases hL
    refine j_eq (st' := [.int x.1, .int 0, .ref (ad G 236)]) rfl rfl ?_
    refine j_i2l dL_light_8 ?_
    refine j_last (n := 1) sh_236 (ib_in (by decide)) dL_light_9 ?_
    refine j_goto 17 dL_light_10 (by decide) ?_
    refine j_iconst 0 dL_light_17 (by decide) ?_
    exact j_wret (by decide) dL_light_18 rfl
  · subst e
    replace hL : gd (x.1 = 0) (some (1, x.2)) = some r := hL
    obtain ⟨g1, hL⟩ := gd_ex hL
    cases hL
    refine ⟨[], ⟨0, 10, 13, 13⟩, [], rfl, (fun y hy => nomatch hy), by decide, Or.inl ⟨rfl, g1⟩, fun q9 => ?_⟩
    refine j_astore (lv' := [(4, .ref q9), (0, .ref (ad G 0)), (1, .int v1), (2, .int v2), (3, .ref (ad G 236))]) dL_light_13 (by decide) rfl ?_
    refine j_iconst 1 dL_light_15 (by decide) ?_
    exact j_wret (by decide) dL_light_16 rfl
abbrev mL_sleepy : MI := (yL_sleepy, cL_sleepy, 5, (Option.some Jvm.ClassFile.FieldType.int))
abbrev hh_sleepy : List (Nat × Nat × Nat × Nat) := [(0, 10, 13, 13)]
def f_L_sleepy (v1 v2 : Int32) (h : AH) : Option (Int32 × AH) := bnd (f_X11_sleepy v1 v2 h) (fun q => Sum.elim (fun x => some (0, sla x.2 236 0 x.1.toInt64)) (fun x => gd (x.1 = 0) (some (1, x.2))) q)
set_option maxRecDepth 20000 in
theorem c_L_sleepy (G : GG) (v1 v2 : Int32) (h : AH) (r : Int32 × AH) (hL : f_L_sleepy v1 v2 h = some r) : SpW G 10 3 mL_sleepy hh_sleepy [.ref (ad G 0), .int v1, .int v2, .ref (ad G 236)] h r.1 r.2 := by
  obtain ⟨q1, hq1, hL⟩ := bnd_ex hL
  refine spw_of pn_RL (Nat.le_of_ble_eq_true rfl) ?_
  show J G mL_sleepy 10 3 0 (KW G 3 r.1 r.2) 0 [(0, .ref (ad G 0)), (1, .int v1), (2, .int v2), (3, .ref (ad G 236))] [] h
  refine j_aload_n 3 dL_sleepy_0 rfl ?_
  refine j_iconst 0 dL_sleepy_1 (by decide) ?_
  refine j_aload_n 0 dL_sleepy_2 rfl ?_
  refine j_iload_n 1 dL_sleepy_3 rfl ?_
  refine j_iload_n 2 dL_sleepy_4 rfl ?_
  refine j_callVc (hh := hh_sleepy) (c_X11_sleepy G v1 v2 h _ hq1) cv_RL_60 rfl rfl sh_0 (by decide) rfl (by decide) rfl rfl (Nat.le_of_ble_eq_true rfl) dL_sleepy_5 (by decide) kh_yL_sleepy (fun x e => ?_) (fun x e => ?_)
  · subst e
    replace hL : some (0, sla x.2 236 0 x.1.toInt64) = some r := hL
    cases hL
    refine j_eq (st' := [.int x.1, .int 0, .ref (ad G 236)]) rfl rfl ?_
    refine j_i2l dL_sleepy_8 ?_
    refine j_last (n := 1) sh_236 (ib_in (by decide)) dL_sleepy_9 ?_
    refine j_goto 17 dL_sleepy_10 (by decide) ?_
    refine j_iconst 0 dL_sleepy_17 (by decide) ?_
    exact j_wret (by decide) dL_sleepy_18 rfl
  · subst e
    replace hL : gd (x.1 = 0) (some (1, x.2)) = some r := hL
    obtain ⟨g1, hL⟩ := gd_ex hL
    cases hL
    refine ⟨[], ⟨0, 10, 13, 13⟩, [], rfl, (fun y hy => nomatch hy), by decide, Or.inl ⟨rfl, g1⟩, fun q9 => ?_⟩
    refine j_astore (lv' := [(4, .ref q9), (0, .ref (ad G 0)), (1, .int v1), (2, .int v2), (3, .ref (ad G 236))]) dL_sleepy_13 (by decide) rfl ?_
    refine j_iconst 1 dL_sleepy_15 (by decide) ?_
    exact j_wret (by decide) dL_sleepy_16 rfl
abbrev mL_humps : MI := (yL_humps, cL_humps, 5, (Option.some Jvm.ClassFile.FieldType.int))
abbrev hh_humps : List (Nat × Nat × Nat × Nat) := [(0, 9, 12, 13)]
def f_L_humps (v1 v2 : Int32) (h : AH) : Option (Int32 × AH) := bnd (f_X11_humps v1 v2 h) (fun q => Sum.elim (fun x => some (0, sla x.2 236 0 x.1)) (fun x => gd (x.1 = 0) (some (1, x.2))) q)
set_option maxRecDepth 20000 in
theorem c_L_humps (G : GG) (v1 v2 : Int32) (h : AH) (r : Int32 × AH) (hL : f_L_humps v1 v2 h = some r) : SpW G 10 3 mL_humps hh_humps [.ref (ad G 0), .int v1, .int v2, .ref (ad G 236)] h r.1 r.2 := by
  obtain ⟨q1, hq1, hL⟩ := bnd_ex hL
  refine spw_of pn_RL (Nat.le_of_ble_eq_true rfl) ?_
  show J G mL_humps 10 3 0 (KW G 3 r.1 r.2) 0 [(0, .ref (ad G 0)), (1, .int v1), (2, .int v2), (3, .ref (ad G 236))] [] h
  refine j_aload_n 3 dL_humps_0 rfl ?_
  refine j_iconst 0 dL_humps_1 (by decide) ?_
  refine j_aload_n 0 dL_humps_2 rfl ?_
  refine j_iload_n 1 dL_humps_3 rfl ?_
  refine j_iload_n 2 dL_humps_4 rfl ?_
  refine j_callVc (hh := hh_humps) (c_X11_humps G v1 v2 h _ hq1) cv_RL_63 rfl rfl sh_0 (by decide) rfl (by decide) rfl rfl (Nat.le_of_ble_eq_true rfl) dL_humps_5 (by decide) kh_yL_humps (fun x e => ?_) (fun x e => ?_)
  · subst e
    replace hL : some (0, sla x.2 236 0 x.1) = some r := hL
    cases hL
    refine j_eq (st' := [.long x.1, .int 0, .ref (ad G 236)]) rfl rfl ?_
    refine j_last (n := 1) sh_236 (ib_in (by decide)) dL_humps_8 ?_
    refine j_goto 16 dL_humps_9 (by decide) ?_
    refine j_iconst 0 dL_humps_16 (by decide) ?_
    exact j_wret (by decide) dL_humps_17 rfl
  · subst e
    replace hL : gd (x.1 = 0) (some (1, x.2)) = some r := hL
    obtain ⟨g1, hL⟩ := gd_ex hL
    cases hL
    refine ⟨[], ⟨0, 9, 12, 13⟩, [], rfl, (fun y hy => nomatch hy), by decide, Or.inl ⟨rfl, g1⟩, fun q9 => ?_⟩
    refine j_astore (lv' := [(4, .ref q9), (0, .ref (ad G 0)), (1, .int v1), (2, .int v2), (3, .ref (ad G 236))]) dL_humps_12 (by decide) rfl ?_
    refine j_iconst 1 dL_humps_14 (by decide) ?_
    exact j_wret (by decide) dL_humps_15 rfl
abbrev mL_hump : MI := (yL_hump, cL_hump, 6, (Option.some Jvm.ClassFile.FieldType.int))
abbrev hh_hump : List (Nat × Nat × Nat × Nat) := [(0, 12, 15, 13)]
def f_L_hump (v1 v2 v3 : Int32) (h : AH) : Option (Int32 × AH) := bnd (f_X11_hump v1 v2 v3 h) (fun q => Sum.elim (fun x => some (0, sla x.2 236 0 x.1.toInt64)) (fun x => gd (x.1 = 0) (some (1, x.2))) q)
set_option maxRecDepth 20000 in
theorem c_L_hump (G : GG) (v1 v2 v3 : Int32) (h : AH) (r : Int32 × AH) (hL : f_L_hump v1 v2 v3 h = some r) : SpW G 10 4 mL_hump hh_hump [.ref (ad G 0), .int v1, .int v2, .int v3, .ref (ad G 236)] h r.1 r.2 := by
  obtain ⟨q1, hq1, hL⟩ := bnd_ex hL
  refine spw_of pn_RL (Nat.le_of_ble_eq_true rfl) ?_
  show J G mL_hump 10 4 0 (KW G 4 r.1 r.2) 0 [(0, .ref (ad G 0)), (1, .int v1), (2, .int v2), (3, .int v3), (4, .ref (ad G 236))] [] h
  refine j_aload 4 dL_hump_0 rfl ?_
  refine j_iconst 0 dL_hump_2 (by decide) ?_
  refine j_aload_n 0 dL_hump_3 rfl ?_
  refine j_iload_n 1 dL_hump_4 rfl ?_
  refine j_iload_n 2 dL_hump_5 rfl ?_
  refine j_iload_n 3 dL_hump_6 rfl ?_
  refine j_callVc (hh := hh_hump) (c_X11_hump G v1 v2 v3 h _ hq1) cv_RL_67 rfl rfl sh_0 (by decide) rfl (by decide) rfl rfl (Nat.le_of_ble_eq_true rfl) dL_hump_7 (by decide) kh_yL_hump (fun x e => ?_) (fun x e => ?_)
  · subst e
    replace hL : some (0, sla x.2 236 0 x.1.toInt64) = some r := hL
    cases hL
    refine j_eq (st' := [.int x.1, .int 0, .ref (ad G 236)]) rfl rfl ?_
    refine j_i2l dL_hump_10 ?_
    refine j_last (n := 1) sh_236 (ib_in (by decide)) dL_hump_11 ?_
    refine j_goto 19 dL_hump_12 (by decide) ?_
    refine j_iconst 0 dL_hump_19 (by decide) ?_
    exact j_wret (by decide) dL_hump_20 rfl
  · subst e
    replace hL : gd (x.1 = 0) (some (1, x.2)) = some r := hL
    obtain ⟨g1, hL⟩ := gd_ex hL
    cases hL
    refine ⟨[], ⟨0, 12, 15, 13⟩, [], rfl, (fun y hy => nomatch hy), by decide, Or.inl ⟨rfl, g1⟩, fun q9 => ?_⟩
    refine j_astore (lv' := [(5, .ref q9), (0, .ref (ad G 0)), (1, .int v1), (2, .int v2), (3, .int v3), (4, .ref (ad G 236))]) dL_hump_15 (by decide) rfl ?_
    refine j_iconst 1 dL_hump_17 (by decide) ?_
    exact j_wret (by decide) dL_hump_18 rfl
abbrev mL_fitted : MI := (yL_fitted, cL_fitted, 6, (Option.some Jvm.ClassFile.FieldType.int))
abbrev hh_fitted : List (Nat × Nat × Nat × Nat) := [(0, 12, 15, 13)]
def f_L_fitted (v1 v2 v3 : Int32) (h : AH) : Option (Int32 × AH) := bnd (f_X11_fitted v1 v2 v3 h) (fun q => Sum.elim (fun x => some (0, sla x.2 236 0 x.1.toInt64)) (fun x => gd (x.1 = 0) (some (1, x.2))) q)
set_option maxRecDepth 20000 in
theorem c_L_fitted (G : GG) (v1 v2 v3 : Int32) (h : AH) (r : Int32 × AH) (hL : f_L_fitted v1 v2 v3 h = some r) : SpW G 10 4 mL_fitted hh_fitted [.ref (ad G 0), .int v1, .int v2, .int v3, .ref (ad G 236)] h r.1 r.2 := by
  obtain ⟨q1, hq1, hL⟩ := bnd_ex hL
  refine spw_of pn_RL (Nat.le_of_ble_eq_true rfl) ?_
  show J G mL_fitted 10 4 0 (KW G 4 r.1 r.2) 0 [(0, .ref (ad G 0)), (1, .int v1), (2, .int v2), (3, .int v3), (4, .ref (ad G 236))] [] h
  refine j_aload 4 dL_fitted_0 rfl ?_
  refine j_iconst 0 dL_fitted_2 (by decide) ?_
  refine j_aload_n 0 dL_fitted_3 rfl ?_
  refine j_iload_n 1 dL_fitted_4 rfl ?_
  refine j_iload_n 2 dL_fitted_5 rfl ?_
  refine j_iload_n 3 dL_fitted_6 rfl ?_
  refine j_callVc (hh := hh_fitted) (c_X11_fitted G v1 v2 v3 h _ hq1) cv_RL_70 rfl rfl sh_0 (by decide) rfl (by decide) rfl rfl (Nat.le_of_ble_eq_true rfl) dL_fitted_7 (by decide) kh_yL_fitted (fun x e => ?_) (fun x e => ?_)
  · subst e
    replace hL : some (0, sla x.2 236 0 x.1.toInt64) = some r := hL
    cases hL
    refine j_eq (st' := [.int x.1, .int 0, .ref (ad G 236)]) rfl rfl ?_
    refine j_i2l dL_fitted_10 ?_
    refine j_last (n := 1) sh_236 (ib_in (by decide)) dL_fitted_11 ?_
    refine j_goto 19 dL_fitted_12 (by decide) ?_
    refine j_iconst 0 dL_fitted_19 (by decide) ?_
    exact j_wret (by decide) dL_fitted_20 rfl
  · subst e
    replace hL : gd (x.1 = 0) (some (1, x.2)) = some r := hL
    obtain ⟨g1, hL⟩ := gd_ex hL
    cases hL
    refine ⟨[], ⟨0, 12, 15, 13⟩, [], rfl, (fun y hy => nomatch hy), by decide, Or.inl ⟨rfl, g1⟩, fun q9 => ?_⟩
    refine j_astore (lv' := [(5, .ref q9), (0, .ref (ad G 0)), (1, .int v1), (2, .int v2), (3, .int v3), (4, .ref (ad G 236))]) dL_fitted_15 (by decide) rfl ?_
    refine j_iconst 1 dL_fitted_17 (by decide) ?_
    exact j_wret (by decide) dL_fitted_18 rfl
abbrev mL_years : MI := (yL_years, cL_years, 4, (Option.some Jvm.ClassFile.FieldType.int))
abbrev hh_years : List (Nat × Nat × Nat × Nat) := [(0, 9, 12, 13)]
def f_L_years (v1 : Int32) (h : AH) : Option (Int32 × AH) := bnd (f_X11_years v1 h) (fun q => Sum.elim (fun x => some (0, sla x.2 236 0 x.1.toInt64)) (fun x => gd (x.1 = 0) (some (1, x.2))) q)
set_option maxRecDepth 20000 in
theorem c_L_years (G : GG) (v1 : Int32) (h : AH) (r : Int32 × AH) (hL : f_L_years v1 h = some r) : SpW G 8 1 mL_years hh_years [.ref (ad G 0), .int v1, .ref (ad G 236)] h r.1 r.2 := by
  obtain ⟨q1, hq1, hL⟩ := bnd_ex hL
  refine spw_of pn_RL (Nat.le_of_ble_eq_true rfl) ?_
  show J G mL_years 8 1 0 (KW G 1 r.1 r.2) 0 [(0, .ref (ad G 0)), (1, .int v1), (2, .ref (ad G 236))] [] h
  refine j_aload_n 2 dL_years_0 rfl ?_
  refine j_iconst 0 dL_years_1 (by decide) ?_
  refine j_aload_n 0 dL_years_2 rfl ?_
  refine j_iload_n 1 dL_years_3 rfl ?_
  refine j_callVc (hh := hh_years) (c_X11_years G v1 h _ hq1) cv_RL_73 rfl rfl sh_0 (by decide) rfl (by decide) rfl rfl (Nat.le_of_ble_eq_true rfl) dL_years_4 (by decide) kh_yL_years (fun x e => ?_) (fun x e => ?_)
  · subst e
    replace hL : some (0, sla x.2 236 0 x.1.toInt64) = some r := hL
    cases hL
    refine j_eq (st' := [.int x.1, .int 0, .ref (ad G 236)]) rfl rfl ?_
    refine j_i2l dL_years_7 ?_
    refine j_last (n := 1) sh_236 (ib_in (by decide)) dL_years_8 ?_
    refine j_goto 15 dL_years_9 (by decide) ?_
    refine j_iconst 0 dL_years_15 (by decide) ?_
    exact j_wret (by decide) dL_years_16 rfl
  · subst e
    replace hL : gd (x.1 = 0) (some (1, x.2)) = some r := hL
    obtain ⟨g1, hL⟩ := gd_ex hL
    cases hL
    refine ⟨[], ⟨0, 9, 12, 13⟩, [], rfl, (fun y hy => nomatch hy), by decide, Or.inl ⟨rfl, g1⟩, fun q9 => ?_⟩
    refine j_astore_n (lv' := [(3, .ref q9), (0, .ref (ad G 0)), (1, .int v1), (2, .ref (ad G 236))]) dL_years_12 (by decide) rfl ?_
    refine j_iconst 1 dL_years_13 (by decide) ?_
    exact j_wret (by decide) dL_years_14 rfl
abbrev mL_whose : MI := (yL_whose, cL_whose, 4, (Option.some Jvm.ClassFile.FieldType.int))
abbrev hh_whose : List (Nat × Nat × Nat × Nat) := [(0, 9, 12, 13)]
def f_L_whose (v1 : Int32) (h : AH) : Option (Int32 × AH) := bnd (f_X11_whose v1 h) (fun q => Sum.elim (fun x => some (0, sla x.2 236 0 x.1.toInt64)) (fun x => gd (x.1 = 0) (some (1, x.2))) q)
set_option maxRecDepth 20000 in
theorem c_L_whose (G : GG) (v1 : Int32) (h : AH) (r : Int32 × AH) (hL : f_L_whose v1 h = some r) : SpW G 10 2 mL_whose hh_whose [.ref (ad G 0), .int v1, .ref (ad G 236)] h r.1 r.2 := by
  obtain ⟨q1, hq1, hL⟩ := bnd_ex hL
  refine spw_of pn_RL (Nat.le_of_ble_eq_true rfl) ?_
  show J G mL_whose 10 2 0 (KW G 2 r.1 r.2) 0 [(0, .ref (ad G 0)), (1, .int v1), (2, .ref (ad G 236))] [] h
  refine j_aload_n 2 dL_whose_0 rfl ?_
  refine j_iconst 0 dL_whose_1 (by decide) ?_
  refine j_aload_n 0 dL_whose_2 rfl ?_
  refine j_iload_n 1 dL_whose_3 rfl ?_
  refine j_callVc (hh := hh_whose) (c_X11_whose G v1 h _ hq1) cv_RL_76 rfl rfl sh_0 (by decide) rfl (by decide) rfl rfl (Nat.le_of_ble_eq_true rfl) dL_whose_4 (by decide) kh_yL_whose (fun x e => ?_) (fun x e => ?_)
  · subst e
    replace hL : some (0, sla x.2 236 0 x.1.toInt64) = some r := hL
    cases hL
    refine j_eq (st' := [.int x.1, .int 0, .ref (ad G 236)]) rfl rfl ?_
    refine j_i2l dL_whose_7 ?_
    refine j_last (n := 1) sh_236 (ib_in (by decide)) dL_whose_8 ?_
    refine j_goto 15 dL_whose_9 (by decide) ?_
    refine j_iconst 0 dL_whose_15 (by decide) ?_
    exact j_wret (by decide) dL_whose_16 rfl
  · subst e
    replace hL : gd (x.1 = 0) (some (1, x.2)) = some r := hL
    obtain ⟨g1, hL⟩ := gd_ex hL
    cases hL
    refine ⟨[], ⟨0, 9, 12, 13⟩, [], rfl, (fun y hy => nomatch hy), by decide, Or.inl ⟨rfl, g1⟩, fun q9 => ?_⟩
    refine j_astore_n (lv' := [(3, .ref q9), (0, .ref (ad G 0)), (1, .int v1), (2, .ref (ad G 236))]) dL_whose_12 (by decide) rfl ?_
    refine j_iconst 1 dL_whose_13 (by decide) ?_
    exact j_wret (by decide) dL_whose_14 rfl
abbrev mL_order : MI := (yL_order, cL_order, 5, (Option.some Jvm.ClassFile.FieldType.int))
abbrev hh_order : List (Nat × Nat × Nat × Nat) := [(0, 10, 13, 13)]
def f_L_order (v1 v2 : Int32) (h : AH) : Option (Int32 × AH) := bnd (f_X11_order v1 v2 h) (fun q => Sum.elim (fun x => some (0, sla x.2 236 0 x.1.toInt64)) (fun x => gd (x.1 = 0) (some (1, x.2))) q)
set_option maxRecDepth 20000 in
theorem c_L_order (G : GG) (v1 v2 : Int32) (h : AH) (r : Int32 × AH) (hL : f_L_order v1 v2 h = some r) : SpW G 10 3 mL_order hh_order [.ref (ad G 0), .int v1, .int v2, .ref (ad G 236)] h r.1 r.2 := by
  obtain ⟨q1, hq1, hL⟩ := bnd_ex hL
  refine spw_of pn_RL (Nat.le_of_ble_eq_true rfl) ?_
  show J G mL_order 10 3 0 (KW G 3 r.1 r.2) 0 [(0, .ref (ad G 0)), (1, .int v1), (2, .int v2), (3, .ref (ad G 236))] [] h
  refine j_aload_n 3 dL_order_0 rfl ?_
  refine j_iconst 0 dL_order_1 (by decide) ?_
  refine j_aload_n 0 dL_order_2 rfl ?_
  refine j_iload_n 1 dL_order_3 rfl ?_
  refine j_iload_n 2 dL_order_4 rfl ?_
  refine j_callVc (hh := hh_order) (c_X11_order G v1 v2 h _ hq1) cv_RL_79 rfl rfl sh_0 (by decide) rfl (by decide) rfl rfl (Nat.le_of_ble_eq_true rfl) dL_order_5 (by decide) kh_yL_order (fun x e => ?_) (fun x e => ?_)
  · subst e
    replace hL : some (0, sla x.2 236 0 x.1.toInt64) = some r := hL
    cases hL
    refine j_eq (st' := [.int x.1, .int 0, .ref (ad G 236)]) rfl rfl ?_
    refine j_i2l dL_order_8 ?_
    refine j_last (n := 1) sh_236 (ib_in (by decide)) dL_order_9 ?_
    refine j_goto 17 dL_order_10 (by decide) ?_
    refine j_iconst 0 dL_order_17 (by decide) ?_
    exact j_wret (by decide) dL_order_18 rfl
  · subst e
    replace hL : gd (x.1 = 0) (some (1, x.2)) = some r := hL
    obtain ⟨g1, hL⟩ := gd_ex hL
    cases hL
    refine ⟨[], ⟨0, 10, 13, 13⟩, [], rfl, (fun y hy => nomatch hy), by decide, Or.inl ⟨rfl, g1⟩, fun q9 => ?_⟩
    refine j_astore (lv' := [(4, .ref q9), (0, .ref (ad G 0)), (1, .int v1), (2, .int v2), (3, .ref (ad G 236))]) dL_order_13 (by decide) rfl ?_
    refine j_iconst 1 dL_order_15 (by decide) ?_
    exact j_wret (by decide) dL_order_16 rfl
abbrev mL_falls : MI := (yL_falls, cL_falls, 5, (Option.some Jvm.ClassFile.FieldType.int))
abbrev hh_falls : List (Nat × Nat × Nat × Nat) := [(0, 10, 13, 13)]
def f_L_falls (v1 v2 : Int32) (h : AH) : Option (Int32 × AH) := bnd (f_X11_falls v1 v2 h) (fun q => Sum.elim (fun x => some (0, sla x.2 236 0 x.1.toInt64)) (fun x => gd (x.1 = 0) (some (1, x.2))) q)
set_option maxRecDepth 20000 in
theorem c_L_falls (G : GG) (v1 v2 : Int32) (h : AH) (r : Int32 × AH) (hL : f_L_falls v1 v2 h = some r) : SpW G 10 3 mL_falls hh_falls [.ref (ad G 0), .int v1, .int v2, .ref (ad G 236)] h r.1 r.2 := by
  obtain ⟨q1, hq1, hL⟩ := bnd_ex hL
  refine spw_of pn_RL (Nat.le_of_ble_eq_true rfl) ?_
  show J G mL_falls 10 3 0 (KW G 3 r.1 r.2) 0 [(0, .ref (ad G 0)), (1, .int v1), (2, .int v2), (3, .ref (ad G 236))] [] h
  refine j_aload_n 3 dL_falls_0 rfl ?_
  refine j_iconst 0 dL_falls_1 (by decide) ?_
  refine j_aload_n 0 dL_falls_2 rfl ?_
  refine j_iload_n 1 dL_falls_3 rfl ?_
  refine j_iload_n 2 dL_falls_4 rfl ?_
  refine j_callVc (hh := hh_falls) (c_X11_falls G v1 v2 h _ hq1) cv_RL_82 rfl rfl sh_0 (by decide) rfl (by decide) rfl rfl (Nat.le_of_ble_eq_true rfl) dL_falls_5 (by decide) kh_yL_falls (fun x e => ?_) (fun x e => ?_)
  · subst e
    replace hL : some (0, sla x.2 236 0 x.1.toInt64) = some r := hL
    cases hL
    refine j_eq (st' := [.int x.1, .int 0, .ref (ad G 236)]) rfl rfl ?_
    refine j_i2l dL_falls_8 ?_
    refine j_last (n := 1) sh_236 (ib_in (by decide)) dL_falls_9 ?_
    refine j_goto 17 dL_falls_10 (by decide) ?_
    refine j_iconst 0 dL_falls_17 (by decide) ?_
    exact j_wret (by decide) dL_falls_18 rfl
  · subst e
    replace hL : gd (x.1 = 0) (some (1, x.2)) = some r := hL
    obtain ⟨g1, hL⟩ := gd_ex hL
    cases hL
    refine ⟨[], ⟨0, 10, 13, 13⟩, [], rfl, (fun y hy => nomatch hy), by decide, Or.inl ⟨rfl, g1⟩, fun q9 => ?_⟩
    refine j_astore (lv' := [(4, .ref q9), (0, .ref (ad G 0)), (1, .int v1), (2, .int v2), (3, .ref (ad G 236))]) dL_falls_13 (by decide) rfl ?_
    refine j_iconst 1 dL_falls_15 (by decide) ?_
    exact j_wret (by decide) dL_falls_16 rfl
abbrev mL_turn : MI := (yL_turn, cL_turn, 4, (Option.some Jvm.ClassFile.FieldType.int))
abbrev hh_turn : List (Nat × Nat × Nat × Nat) := [(0, 9, 12, 13)]
def f_L_turn (v1 : Int32) (h : AH) : Option (Int32 × AH) := bnd (f_X11_turn v1 h) (fun q => Sum.elim (fun x => some (0, sla x.2 236 0 x.1.toInt64)) (fun x => gd (x.1 = 0) (some (1, x.2))) q)
set_option maxRecDepth 20000 in
theorem c_L_turn (G : GG) (v1 : Int32) (h : AH) (r : Int32 × AH) (hL : f_L_turn v1 h = some r) : SpW G 8 1 mL_turn hh_turn [.ref (ad G 0), .int v1, .ref (ad G 236)] h r.1 r.2 := by
  obtain ⟨q1, hq1, hL⟩ := bnd_ex hL
  refine spw_of pn_RL (Nat.le_of_ble_eq_true rfl) ?_
  show J G mL_turn 8 1 0 (KW G 1 r.1 r.2) 0 [(0, .ref (ad G 0)), (1, .int v1), (2, .ref (ad G 236))] [] h
  refine j_aload_n 2 dL_turn_0 rfl ?_
  refine j_iconst 0 dL_turn_1 (by decide) ?_
  refine j_aload_n 0 dL_turn_2 rfl ?_
  refine j_iload_n 1 dL_turn_3 rfl ?_
  refine j_callVc (hh := hh_turn) (c_X11_turn G v1 h _ hq1) cv_RL_85 rfl rfl sh_0 (by decide) rfl (by decide) rfl rfl (Nat.le_of_ble_eq_true rfl) dL_turn_4 (by decide) kh_yL_turn (fun x e => ?_) (fun x e => ?_)
  · subst e
    replace hL : some (0, sla x.2 236 0 x.1.toInt64) = some r := hL
    cases hL
    refine j_eq (st' := [.int x.1, .int 0, .ref (ad G 236)]) rfl rfl ?_
    refine j_i2l dL_turn_7 ?_
    refine j_last (n := 1) sh_236 (ib_in (by decide)) dL_turn_8 ?_
    refine j_goto 15 dL_turn_9 (by decide) ?_
    refine j_iconst 0 dL_turn_15 (by decide) ?_
    exact j_wret (by decide) dL_turn_16 rfl
  · subst e
    replace hL : gd (x.1 = 0) (some (1, x.2)) = some r := hL
    obtain ⟨g1, hL⟩ := gd_ex hL
    cases hL
    refine ⟨[], ⟨0, 9, 12, 13⟩, [], rfl, (fun y hy => nomatch hy), by decide, Or.inl ⟨rfl, g1⟩, fun q9 => ?_⟩
    refine j_astore_n (lv' := [(3, .ref q9), (0, .ref (ad G 0)), (1, .int v1), (2, .ref (ad G 236))]) dL_turn_12 (by decide) rfl ?_
    refine j_iconst 1 dL_turn_13 (by decide) ?_
    exact j_wret (by decide) dL_turn_14 rfl
abbrev mL_town : MI := (yL_town, cL_town, 4, (Option.some Jvm.ClassFile.FieldType.int))
abbrev hh_town : List (Nat × Nat × Nat × Nat) := [(0, 9, 12, 13)]
def f_L_town (v1 : Int32) (h : AH) : Option (Int32 × AH) := bnd (f_X11_town v1 h) (fun q => Sum.elim (fun x => some (0, sla x.2 236 0 x.1.toInt64)) (fun x => gd (x.1 = 0) (some (1, x.2))) q)
set_option maxRecDepth 20000 in
theorem c_L_town (G : GG) (v1 : Int32) (h : AH) (r : Int32 × AH) (hL : f_L_town v1 h = some r) : SpW G 9 1 mL_town hh_town [.ref (ad G 0), .int v1, .ref (ad G 236)] h r.1 r.2 := by
  obtain ⟨q1, hq1, hL⟩ := bnd_ex hL
  refine spw_of pn_RL (Nat.le_of_ble_eq_true rfl) ?_
  show J G mL_town 9 1 0 (KW G 1 r.1 r.2) 0 [(0, .ref (ad G 0)), (1, .int v1), (2, .ref (ad G 236))] [] h
  refine j_aload_n 2 dL_town_0 rfl ?_
  refine j_iconst 0 dL_town_1 (by decide) ?_
  refine j_aload_n 0 dL_town_2 rfl ?_
  refine j_iload_n 1 dL_town_3 rfl ?_
  refine j_callVc (hh := hh_town) (c_X11_town G v1 h _ hq1) cv_RL_88 rfl rfl sh_0 (by decide) rfl (by decide) rfl rfl (Nat.le_of_ble_eq_true rfl) dL_town_4 (by decide) kh_yL_town (fun x e => ?_) (fun x e => ?_)
  · subst e
    replace hL : some (0, sla x.2 236 0 x.1.toInt64) = some r := hL
    cases hL
    refine j_eq (st' := [.int x.1, .int 0, .ref (ad G 236)]) rfl rfl ?_
    refine j_i2l dL_town_7 ?_
    refine j_last (n := 1) sh_236 (ib_in (by decide)) dL_town_8 ?_
    refine j_goto 15 dL_town_9 (by decide) ?_
    refine j_iconst 0 dL_town_15 (by decide) ?_
    exact j_wret (by decide) dL_town_16 rfl
  · subst e
    replace hL : gd (x.1 = 0) (some (1, x.2)) = some r := hL
    obtain ⟨g1, hL⟩ := gd_ex hL
    cases hL
    refine ⟨[], ⟨0, 9, 12, 13⟩, [], rfl, (fun y hy => nomatch hy), by decide, Or.inl ⟨rfl, g1⟩, fun q9 => ?_⟩
    refine j_astore_n (lv' := [(3, .ref q9), (0, .ref (ad G 0)), (1, .int v1), (2, .ref (ad G 236))]) dL_town_12 (by decide) rfl ?_
    refine j_iconst 1 dL_town_13 (by decide) ?_
    exact j_wret (by decide) dL_town_14 rfl
abbrev mL_alike : MI := (yL_alike, cL_alike, 5, (Option.some Jvm.ClassFile.FieldType.int))
abbrev hh_alike : List (Nat × Nat × Nat × Nat) := [(0, 10, 13, 13)]
def f_L_alike (v1 v2 : Int32) (h : AH) : Option (Int32 × AH) := bnd (f_X11_alike v1 v2 h) (fun q => Sum.elim (fun x => some (0, sla x.2 236 0 x.1.toInt64)) (fun x => gd (x.1 = 0) (some (1, x.2))) q)
set_option maxRecDepth 20000 in
theorem c_L_alike (G : GG) (v1 v2 : Int32) (h : AH) (r : Int32 × AH) (hL : f_L_alike v1 v2 h = some r) : SpW G 10 4 mL_alike hh_alike [.ref (ad G 0), .int v1, .int v2, .ref (ad G 236)] h r.1 r.2 := by
  obtain ⟨q1, hq1, hL⟩ := bnd_ex hL
  refine spw_of pn_RL (Nat.le_of_ble_eq_true rfl) ?_
  show J G mL_alike 10 4 0 (KW G 4 r.1 r.2) 0 [(0, .ref (ad G 0)), (1, .int v1), (2, .int v2), (3, .ref (ad G 236))] [] h
  refine j_aload_n 3 dL_alike_0 rfl ?_
  refine j_iconst 0 dL_alike_1 (by decide) ?_
  refine j_aload_n 0 dL_alike_2 rfl ?_
  refine j_iload_n 1 dL_alike_3 rfl ?_
  refine j_iload_n 2 dL_alike_4 rfl ?_
  refine j_callVc (hh := hh_alike) (c_X11_alike G v1 v2 h _ hq1) cv_RL_91 rfl rfl sh_0 (by decide) rfl (by decide) rfl rfl (Nat.le_of_ble_eq_true rfl) dL_alike_5 (by decide) kh_yL_alike (fun x e => ?_) (fun x e => ?_)
  · subst e
    replace hL : some (0, sla x.2 236 0 x.1.toInt64) = some r := hL
    cases hL
    refine j_eq (st' := [.int x.1, .int 0, .ref (ad G 236)]) rfl rfl ?_
    refine j_i2l dL_alike_8 ?_
    refine j_last (n := 1) sh_236 (ib_in (by decide)) dL_alike_9 ?_
    refine j_goto 17 dL_alike_10 (by decide) ?_
    refine j_iconst 0 dL_alike_17 (by decide) ?_
    exact j_wret (by decide) dL_alike_18 rfl
  · subst e
    replace hL : gd (x.1 = 0) (some (1, x.2)) = some r := hL
    obtain ⟨g1, hL⟩ := gd_ex hL
    cases hL
    refine ⟨[], ⟨0, 10, 13, 13⟩, [], rfl, (fun y hy => nomatch hy), by decide, Or.inl ⟨rfl, g1⟩, fun q9 => ?_⟩
    refine j_astore (lv' := [(4, .ref q9), (0, .ref (ad G 0)), (1, .int v1), (2, .int v2), (3, .ref (ad G 236))]) dL_alike_13 (by decide) rfl ?_
    refine j_iconst 1 dL_alike_15 (by decide) ?_
    exact j_wret (by decide) dL_alike_16 rfl
abbrev mL_nearest : MI := (yL_nearest, cL_nearest, 4, (Option.some Jvm.ClassFile.FieldType.int))
abbrev hh_nearest : List (Nat × Nat × Nat × Nat) := [(0, 9, 12, 13)]
def f_L_nearest (v1 : Int32) (h : AH) : Option (Int32 × AH) := bnd (f_X11_nearest v1 h) (fun q => Sum.elim (fun x => some (0, sla x.2 236 0 x.1.toInt64)) (fun x => gd (x.1 = 0) (some (1, x.2))) q)
set_option maxRecDepth 20000 in
theorem c_L_nearest (G : GG) (v1 : Int32) (h : AH) (r : Int32 × AH) (hL : f_L_nearest v1 h = some r) : SpW G 10 2 mL_nearest hh_nearest [.ref (ad G 0), .int v1, .ref (ad G 236)] h r.1 r.2 := by
  obtain ⟨q1, hq1, hL⟩ := bnd_ex hL
  refine spw_of pn_RL (Nat.le_of_ble_eq_true rfl) ?_
  show J G mL_nearest 10 2 0 (KW G 2 r.1 r.2) 0 [(0, .ref (ad G 0)), (1, .int v1), (2, .ref (ad G 236))] [] h
  refine j_aload_n 2 dL_nearest_0 rfl ?_
  refine j_iconst 0 dL_nearest_1 (by decide) ?_
  refine j_aload_n 0 dL_nearest_2 rfl ?_
  refine j_iload_n 1 dL_nearest_3 rfl ?_
  refine j_callVc (hh := hh_nearest) (c_X11_nearest G v1 h _ hq1) cv_RL_94 rfl rfl sh_0 (by decide) rfl (by decide) rfl rfl (Nat.le_of_ble_eq_true rfl) dL_nearest_4 (by decide) kh_yL_nearest (fun x e => ?_) (fun x e => ?_)
  · subst e
    replace hL : some (0, sla x.2 236 0 x.1.toInt64) = some r := hL
    cases hL
    refine j_eq (st' := [.int x.1, .int 0, .ref (ad G 236)]) rfl rfl ?_
    refine j_i2l dL_nearest_7 ?_
    refine j_last (n := 1) sh_236 (ib_in (by decide)) dL_nearest_8 ?_
    refine j_goto 15 dL_nearest_9 (by decide) ?_
    refine j_iconst 0 dL_nearest_15 (by decide) ?_
    exact j_wret (by decide) dL_nearest_16 rfl
  · subst e
    replace hL : gd (x.1 = 0) (some (1, x.2)) = some r := hL
    obtain ⟨g1, hL⟩ := gd_ex hL
    cases hL
    refine ⟨[], ⟨0, 9, 12, 13⟩, [], rfl, (fun y hy => nomatch hy), by decide, Or.inl ⟨rfl, g1⟩, fun q9 => ?_⟩
    refine j_astore_n (lv' := [(3, .ref q9), (0, .ref (ad G 0)), (1, .int v1), (2, .ref (ad G 236))]) dL_nearest_12 (by decide) rfl ?_
    refine j_iconst 1 dL_nearest_13 (by decide) ?_
    exact j_wret (by decide) dL_nearest_14 rfl
abbrev mL_sure : MI := (yL_sure, cL_sure, 6, (Option.some Jvm.ClassFile.FieldType.int))
abbrev hh_sure : List (Nat × Nat × Nat × Nat) := [(0, 12, 15, 13)]
def f_L_sure (v1 v2 v3 : Int32) (h : AH) : Option (Int32 × AH) := bnd (f_X11_sure v1 v2 v3 h) (fun q => Sum.elim (fun x => some (0, sla x.2 236 0 x.1.toInt64)) (fun x => gd (x.1 = 0) (some (1, x.2))) q)
set_option maxRecDepth 20000 in
theorem c_L_sure (G : GG) (v1 v2 v3 : Int32) (h : AH) (r : Int32 × AH) (hL : f_L_sure v1 v2 v3 h = some r) : SpW G 10 4 mL_sure hh_sure [.ref (ad G 0), .int v1, .int v2, .int v3, .ref (ad G 236)] h r.1 r.2 := by
  obtain ⟨q1, hq1, hL⟩ := bnd_ex hL
  refine spw_of pn_RL (Nat.le_of_ble_eq_true rfl) ?_
  show J G mL_sure 10 4 0 (KW G 4 r.1 r.2) 0 [(0, .ref (ad G 0)), (1, .int v1), (2, .int v2), (3, .int v3), (4, .ref (ad G 236))] [] h
  refine j_aload 4 dL_sure_0 rfl ?_
  refine j_iconst 0 dL_sure_2 (by decide) ?_
  refine j_aload_n 0 dL_sure_3 rfl ?_
  refine j_iload_n 1 dL_sure_4 rfl ?_
  refine j_iload_n 2 dL_sure_5 rfl ?_
  refine j_iload_n 3 dL_sure_6 rfl ?_
  refine j_callVc (hh := hh_sure) (c_X11_sure G v1 v2 v3 h _ hq1) cv_RL_97 rfl rfl sh_0 (by decide) rfl (by decide) rfl rfl (Nat.le_of_ble_eq_true rfl) dL_sure_7 (by decide) kh_yL_sure (fun x e => ?_) (fun x e => ?_)
  · subst e
    replace hL : some (0, sla x.2 236 0 x.1.toInt64) = some r := hL
    cases hL
    refine j_eq (st' := [.int x.1, .int 0, .ref (ad G 236)]) rfl rfl ?_
    refine j_i2l dL_sure_10 ?_
    refine j_last (n := 1) sh_236 (ib_in (by decide)) dL_sure_11 ?_
    refine j_goto 19 dL_sure_12 (by decide) ?_
    refine j_iconst 0 dL_sure_19 (by decide) ?_
    exact j_wret (by decide) dL_sure_20 rfl
  · subst e
    replace hL : gd (x.1 = 0) (some (1, x.2)) = some r := hL
    obtain ⟨g1, hL⟩ := gd_ex hL
    cases hL
    refine ⟨[], ⟨0, 12, 15, 13⟩, [], rfl, (fun y hy => nomatch hy), by decide, Or.inl ⟨rfl, g1⟩, fun q9 => ?_⟩
    refine j_astore (lv' := [(5, .ref q9), (0, .ref (ad G 0)), (1, .int v1), (2, .int v2), (3, .int v3), (4, .ref (ad G 236))]) dL_sure_15 (by decide) rfl ?_
    refine j_iconst 1 dL_sure_17 (by decide) ?_
    exact j_wret (by decide) dL_sure_18 rfl
abbrev mL_before : MI := (yL_before, cL_before, 7, (Option.some Jvm.ClassFile.FieldType.int))
abbrev hh_before : List (Nat × Nat × Nat × Nat) := [(0, 14, 17, 13), (0, 14, 21, 15)]
def f_L_before (v1 v2 v3 v4 : Int32) (h : AH) : Option (Int32 × AH) := bnd (f_X11_before v1 v2 v3 v4 h) (fun q => Sum.elim (fun x => some (0, sla x.2 236 0 x.1.toInt64)) (fun x => some ((if x.1 = 0 then 1 else 2), x.2)) q)
set_option maxRecDepth 20000 in
theorem c_L_before (G : GG) (v1 v2 v3 v4 : Int32) (h : AH) (r : Int32 × AH) (hL : f_L_before v1 v2 v3 v4 h = some r) : SpW G 10 4 mL_before hh_before [.ref (ad G 0), .int v1, .int v2, .int v3, .int v4, .ref (ad G 236)] h r.1 r.2 := by
  obtain ⟨q1, hq1, hL⟩ := bnd_ex hL
  refine spw_of pn_RL (Nat.le_of_ble_eq_true rfl) ?_
  show J G mL_before 10 4 0 (KW G 4 r.1 r.2) 0 [(0, .ref (ad G 0)), (1, .int v1), (2, .int v2), (3, .int v3), (4, .int v4), (5, .ref (ad G 236))] [] h
  refine j_aload 5 dL_before_0 rfl ?_
  refine j_iconst 0 dL_before_2 (by decide) ?_
  refine j_aload_n 0 dL_before_3 rfl ?_
  refine j_iload_n 1 dL_before_4 rfl ?_
  refine j_iload_n 2 dL_before_5 rfl ?_
  refine j_iload_n 3 dL_before_6 rfl ?_
  refine j_iload 4 dL_before_7 rfl ?_
  refine j_callVc (hh := hh_before) (c_X11_before G v1 v2 v3 v4 h _ hq1) cv_RL_100 rfl rfl sh_0 (by decide) rfl (by decide) rfl rfl (Nat.le_of_ble_eq_true rfl) dL_before_9 (by decide) kh_yL_before (fun x e => ?_) (fun x e => ?_)
  · subst e
    replace hL : some (0, sla x.2 236 0 x.1.toInt64) = some r := hL
    cases hL
    refine j_eq (st' := [.int x.1, .int 0, .ref (ad G 236)]) rfl rfl ?_
    refine j_i2l dL_before_12 ?_
    refine j_last (n := 1) sh_236 (ib_in (by decide)) dL_before_13 ?_
    refine j_goto 25 dL_before_14 (by decide) ?_
    refine j_iconst 0 dL_before_25 (by decide) ?_
    exact j_wret (by decide) dL_before_26 rfl
  · subst e
    replace hL : some ((if x.1 = 0 then 1 else 2), x.2) = some r := hL
    by_cases z : x.1 = 0
    · rw [if_pos z] at hL
      cases hL
      refine ⟨[], ⟨0, 14, 17, 13⟩, [⟨0, 14, 21, 15⟩], rfl, (fun y hy => nomatch hy), by decide, Or.inl ⟨rfl, z⟩, fun q9 => ?_⟩
      refine j_astore (lv' := [(6, .ref q9), (0, .ref (ad G 0)), (1, .int v1), (2, .int v2), (3, .int v3), (4, .int v4), (5, .ref (ad G 236))]) dL_before_17 (by decide) rfl ?_
      refine j_iconst 1 dL_before_19 (by decide) ?_
      exact j_wret (by decide) dL_before_20 rfl
    · rw [if_neg z] at hL
      cases hL
      refine ⟨[⟨0, 14, 17, 13⟩], ⟨0, 14, 21, 15⟩, [], rfl, (fun y hy => by rcases List.mem_singleton.mp hy with rfl; exact ⟨rfl, z⟩), by decide, Or.inr ⟨rfl, z⟩, fun q9 => ?_⟩
      refine j_astore (lv' := [(6, .ref q9), (0, .ref (ad G 0)), (1, .int v1), (2, .int v2), (3, .int v3), (4, .int v4), (5, .ref (ad G 236))]) dL_before_21 (by decide) rfl ?_
      refine j_iconst 2 dL_before_23 (by decide) ?_
      exact j_wret (by decide) dL_before_24 rfl
abbrev mL_told : MI := (yL_told, cL_told, 7, (Option.some Jvm.ClassFile.FieldType.int))
abbrev hh_told : List (Nat × Nat × Nat × Nat) := [(0, 14, 17, 13), (0, 14, 21, 15)]
def f_L_told (v1 v2 v3 v4 : Int32) (h : AH) : Option (Int32 × AH) := bnd (f_X11_told v1 v2 v3 v4 h) (fun q => Sum.elim (fun x => some (0, sla x.2 236 0 x.1.toInt64)) (fun x => some ((if x.1 = 0 then 1 else 2), x.2)) q)
set_option maxRecDepth 20000 in
theorem c_L_told (G : GG) (v1 v2 v3 v4 : Int32) (h : AH) (r : Int32 × AH) (hL : f_L_told v1 v2 v3 v4 h = some r) : SpW G 9 3 mL_told hh_told [.ref (ad G 0), .int v1, .int v2, .int v3, .int v4, .ref (ad G 236)] h r.1 r.2 := by
  obtain ⟨q1, hq1, hL⟩ := bnd_ex hL
  refine spw_of pn_RL (Nat.le_of_ble_eq_true rfl) ?_
  show J G mL_told 9 3 0 (KW G 3 r.1 r.2) 0 [(0, .ref (ad G 0)), (1, .int v1), (2, .int v2), (3, .int v3), (4, .int v4), (5, .ref (ad G 236))] [] h
  refine j_aload 5 dL_told_0 rfl ?_
  refine j_iconst 0 dL_told_2 (by decide) ?_
  refine j_aload_n 0 dL_told_3 rfl ?_
  refine j_iload_n 1 dL_told_4 rfl ?_
  refine j_iload_n 2 dL_told_5 rfl ?_
  refine j_iload_n 3 dL_told_6 rfl ?_
  refine j_iload 4 dL_told_7 rfl ?_
  refine j_callVc (hh := hh_told) (c_X11_told G v1 v2 v3 v4 h _ hq1) cv_RL_103 rfl rfl sh_0 (by decide) rfl (by decide) rfl rfl (Nat.le_of_ble_eq_true rfl) dL_told_9 (by decide) kh_yL_told (fun x e => ?_) (fun x e => ?_)
  · subst e
    replace hL : some (0, sla x.2 236 0 x.1.toInt64) = some r := hL
    cases hL
    refine j_eq (st' := [.int x.1, .int 0, .ref (ad G 236)]) rfl rfl ?_
    refine j_i2l dL_told_12 ?_
    refine j_last (n := 1) sh_236 (ib_in (by decide)) dL_told_13 ?_
    refine j_goto 25 dL_told_14 (by decide) ?_
    refine j_iconst 0 dL_told_25 (by decide) ?_
    exact j_wret (by decide) dL_told_26 rfl
  · subst e
    replace hL : some ((if x.1 = 0 then 1 else 2), x.2) = some r := hL
    by_cases z : x.1 = 0
    · rw [if_pos z] at hL
      cases hL
      refine ⟨[], ⟨0, 14, 17, 13⟩, [⟨0, 14, 21, 15⟩], rfl, (fun y hy => nomatch hy), by decide, Or.inl ⟨rfl, z⟩, fun q9 => ?_⟩
      refine j_astore (lv' := [(6, .ref q9), (0, .ref (ad G 0)), (1, .int v1), (2, .int v2), (3, .int v3), (4, .int v4), (5, .ref (ad G 236))]) dL_told_17 (by decide) rfl ?_
      refine j_iconst 1 dL_told_19 (by decide) ?_
      exact j_wret (by decide) dL_told_20 rfl
    · rw [if_neg z] at hL
      cases hL
      refine ⟨[⟨0, 14, 17, 13⟩], ⟨0, 14, 21, 15⟩, [], rfl, (fun y hy => by rcases List.mem_singleton.mp hy with rfl; exact ⟨rfl, z⟩), by decide, Or.inr ⟨rfl, z⟩, fun q9 => ?_⟩
      refine j_astore (lv' := [(6, .ref q9), (0, .ref (ad G 0)), (1, .int v1), (2, .int v2), (3, .int v3), (4, .int v4), (5, .ref (ad G 236))]) dL_told_21 (by decide) rfl ?_
      refine j_iconst 2 dL_told_23 (by decide) ?_
      exact j_wret (by decide) dL_told_24 rfl
abbrev mL_next : MI := (yL_next, cL_next, 4, (Option.some Jvm.ClassFile.FieldType.int))
abbrev hh_next : List (Nat × Nat × Nat × Nat) := [(0, 9, 12, 13)]
def f_L_next (v1 : Int32) (h : AH) : Option (Int32 × AH) := bnd (f_X11_next v1 h) (fun q => Sum.elim (fun x => some (0, sla x.2 236 0 x.1.toInt64)) (fun x => gd (x.1 = 0) (some (1, x.2))) q)
set_option maxRecDepth 20000 in
theorem c_L_next (G : GG) (v1 : Int32) (h : AH) (r : Int32 × AH) (hL : f_L_next v1 h = some r) : SpW G 9 1 mL_next hh_next [.ref (ad G 0), .int v1, .ref (ad G 236)] h r.1 r.2 := by
  obtain ⟨q1, hq1, hL⟩ := bnd_ex hL
  refine spw_of pn_RL (Nat.le_of_ble_eq_true rfl) ?_
  show J G mL_next 9 1 0 (KW G 1 r.1 r.2) 0 [(0, .ref (ad G 0)), (1, .int v1), (2, .ref (ad G 236))] [] h
  refine j_aload_n 2 dL_next_0 rfl ?_
  refine j_iconst 0 dL_next_1 (by decide) ?_
  refine j_aload_n 0 dL_next_2 rfl ?_
  refine j_iload_n 1 dL_next_3 rfl ?_
  refine j_callVc (hh := hh_next) (c_X11_next G v1 h _ hq1) cv_RL_106 rfl rfl sh_0 (by decide) rfl (by decide) rfl rfl (Nat.le_of_ble_eq_true rfl) dL_next_4 (by decide) kh_yL_next (fun x e => ?_) (fun x e => ?_)
  · subst e
    replace hL : some (0, sla x.2 236 0 x.1.toInt64) = some r := hL
    cases hL
    refine j_eq (st' := [.int x.1, .int 0, .ref (ad G 236)]) rfl rfl ?_
    refine j_i2l dL_next_7 ?_
    refine j_last (n := 1) sh_236 (ib_in (by decide)) dL_next_8 ?_
    refine j_goto 15 dL_next_9 (by decide) ?_
    refine j_iconst 0 dL_next_15 (by decide) ?_
    exact j_wret (by decide) dL_next_16 rfl
  · subst e
    replace hL : gd (x.1 = 0) (some (1, x.2)) = some r := hL
    obtain ⟨g1, hL⟩ := gd_ex hL
    cases hL
    refine ⟨[], ⟨0, 9, 12, 13⟩, [], rfl, (fun y hy => nomatch hy), by decide, Or.inl ⟨rfl, g1⟩, fun q9 => ?_⟩
    refine j_astore_n (lv' := [(3, .ref q9), (0, .ref (ad G 0)), (1, .int v1), (2, .ref (ad G 236))]) dL_next_12 (by decide) rfl ?_
    refine j_iconst 1 dL_next_13 (by decide) ?_
    exact j_wret (by decide) dL_next_14 rfl
theorem ch_RL_118 : CH RL 118 mL_book hh_book 4 := ⟨gi_H km_RL_118 kt_yL_book kn_ThumbBookLaw kh_yL_book, ⟨by decide, by decide, by decide +kernel⟩, by decide⟩
theorem ch_RL_128 : CH RL 128 mL_law hh_law 3 := ⟨gi_H km_RL_128 kt_yL_law kn_ThumbBookLaw kh_yL_law, ⟨by decide, by decide, by decide +kernel⟩, by decide⟩
theorem ch_RL_132 : CH RL 132 mL_way hh_way 4 := ⟨gi_H km_RL_132 kt_yL_way kn_ThumbBookLaw kh_yL_way, ⟨by decide, by decide, by decide +kernel⟩, by decide⟩
theorem ch_RL_139 : CH RL 139 mL_count hh_count 3 := ⟨gi_H km_RL_139 kt_yL_count kn_ThumbBookLaw kh_yL_count, ⟨by decide, by decide, by decide +kernel⟩, by decide⟩
theorem ch_RL_142 : CH RL 142 mL_about hh_about 4 := ⟨gi_H km_RL_142 kt_yL_about kn_ThumbBookLaw kh_yL_about, ⟨by decide, by decide, by decide +kernel⟩, by decide⟩
theorem ch_RL_145 : CH RL 145 mL_leaf hh_leaf 5 := ⟨gi_H km_RL_145 kt_yL_leaf kn_ThumbBookLaw kh_yL_leaf, ⟨by decide, by decide, by decide +kernel⟩, by decide⟩
theorem ch_RL_149 : CH RL 149 mL_turnings hh_turnings 5 := ⟨gi_H km_RL_149 kt_yL_turnings kn_ThumbBookLaw kh_yL_turnings, ⟨by decide, by decide, by decide +kernel⟩, by decide⟩
theorem ch_RL_152 : CH RL 152 mL_reader hh_reader 6 := ⟨gi_H km_RL_152 kt_yL_reader kn_ThumbBookLaw kh_yL_reader, ⟨by decide, by decide, by decide +kernel⟩, by decide⟩
theorem ch_RL_156 : CH RL 156 mL_gone hh_gone 3 := ⟨gi_H km_RL_156 kt_yL_gone kn_ThumbBookLaw kh_yL_gone, ⟨by decide, by decide, by decide +kernel⟩, by decide⟩
theorem ch_RL_159 : CH RL 159 mL_dirt hh_dirt 5 := ⟨gi_H km_RL_159 kt_yL_dirt kn_ThumbBookLaw kh_yL_dirt, ⟨by decide, by decide, by decide +kernel⟩, by decide⟩
theorem ch_RL_162 : CH RL 162 mL_drawn hh_drawn 4 := ⟨gi_H km_RL_162 kt_yL_drawn kn_ThumbBookLaw kh_yL_drawn, ⟨by decide, by decide, by decide +kernel⟩, by decide⟩
theorem ch_RL_165 : CH RL 165 mL_read hh_read 5 := ⟨gi_H km_RL_165 kt_yL_read kn_ThumbBookLaw kh_yL_read, ⟨by decide, by decide, by decide +kernel⟩, by decide⟩
theorem ch_RL_168 : CH RL 168 mL_bounds hh_bounds 5 := ⟨gi_H km_RL_168 kt_yL_bounds kn_ThumbBookLaw kh_yL_bounds, ⟨by decide, by decide, by decide +kernel⟩, by decide⟩
theorem ch_RL_171 : CH RL 171 mL_light hh_light 4 := ⟨gi_H km_RL_171 kt_yL_light kn_ThumbBookLaw kh_yL_light, ⟨by decide, by decide, by decide +kernel⟩, by decide⟩
theorem ch_RL_174 : CH RL 174 mL_sleepy hh_sleepy 4 := ⟨gi_H km_RL_174 kt_yL_sleepy kn_ThumbBookLaw kh_yL_sleepy, ⟨by decide, by decide, by decide +kernel⟩, by decide⟩
theorem ch_RL_177 : CH RL 177 mL_humps hh_humps 4 := ⟨gi_H km_RL_177 kt_yL_humps kn_ThumbBookLaw kh_yL_humps, ⟨by decide, by decide, by decide +kernel⟩, by decide⟩
theorem ch_RL_180 : CH RL 180 mL_hump hh_hump 5 := ⟨gi_H km_RL_180 kt_yL_hump kn_ThumbBookLaw kh_yL_hump, ⟨by decide, by decide, by decide +kernel⟩, by decide⟩
theorem ch_RL_183 : CH RL 183 mL_fitted hh_fitted 5 := ⟨gi_H km_RL_183 kt_yL_fitted kn_ThumbBookLaw kh_yL_fitted, ⟨by decide, by decide, by decide +kernel⟩, by decide⟩
theorem ch_RL_186 : CH RL 186 mL_years hh_years 3 := ⟨gi_H km_RL_186 kt_yL_years kn_ThumbBookLaw kh_yL_years, ⟨by decide, by decide, by decide +kernel⟩, by decide⟩
theorem ch_RL_189 : CH RL 189 mL_whose hh_whose 3 := ⟨gi_H km_RL_189 kt_yL_whose kn_ThumbBookLaw kh_yL_whose, ⟨by decide, by decide, by decide +kernel⟩, by decide⟩
theorem ch_RL_192 : CH RL 192 mL_order hh_order 4 := ⟨gi_H km_RL_192 kt_yL_order kn_ThumbBookLaw kh_yL_order, ⟨by decide, by decide, by decide +kernel⟩, by decide⟩
theorem ch_RL_195 : CH RL 195 mL_falls hh_falls 4 := ⟨gi_H km_RL_195 kt_yL_falls kn_ThumbBookLaw kh_yL_falls, ⟨by decide, by decide, by decide +kernel⟩, by decide⟩
theorem ch_RL_206 : CH RL 206 mL_turn hh_turn 3 := ⟨gi_H km_RL_206 kt_yL_turn kn_ThumbBookLaw kh_yL_turn, ⟨by decide, by decide, by decide +kernel⟩, by decide⟩
theorem ch_RL_209 : CH RL 209 mL_town hh_town 3 := ⟨gi_H km_RL_209 kt_yL_town kn_ThumbBookLaw kh_yL_town, ⟨by decide, by decide, by decide +kernel⟩, by decide⟩
theorem ch_RL_212 : CH RL 212 mL_alike hh_alike 4 := ⟨gi_H km_RL_212 kt_yL_alike kn_ThumbBookLaw kh_yL_alike, ⟨by decide, by decide, by decide +kernel⟩, by decide⟩
theorem ch_RL_215 : CH RL 215 mL_nearest hh_nearest 3 := ⟨gi_H km_RL_215 kt_yL_nearest kn_ThumbBookLaw kh_yL_nearest, ⟨by decide, by decide, by decide +kernel⟩, by decide⟩
theorem ch_RL_218 : CH RL 218 mL_sure hh_sure 5 := ⟨gi_H km_RL_218 kt_yL_sure kn_ThumbBookLaw kh_yL_sure, ⟨by decide, by decide, by decide +kernel⟩, by decide⟩
theorem ch_RL_221 : CH RL 221 mL_before hh_before 6 := ⟨gi_H km_RL_221 kt_yL_before kn_ThumbBookLaw kh_yL_before, ⟨by decide, by decide, by decide +kernel⟩, by decide⟩
theorem ch_RL_224 : CH RL 224 mL_told hh_told 6 := ⟨gi_H km_RL_224 kt_yL_told kn_ThumbBookLaw kh_yL_told, ⟨by decide, by decide, by decide +kernel⟩, by decide⟩
theorem ch_RL_227 : CH RL 227 mL_next hh_next 3 := ⟨gi_H km_RL_227 kt_yL_next kn_ThumbBookLaw kh_yL_next, ⟨by decide, by decide, by decide +kernel⟩, by decide⟩
