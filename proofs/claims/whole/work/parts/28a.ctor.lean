def J2 (G : GG) (Y : MI) (d CM SM : Nat) (K : List va_E → KQ) (n pc : Nat) (lv : List (Nat × Value)) (st : List Value) (l : List va_E) (cm sm : Nat) : Prop := ∀ pre : List va_E, pre.length = n → J1 G Y d CM SM (K pre) pc lv st (pre ++ l) cm sm
def Sp2 (G : GG) (d CM SM : Nat) (Y : MI) (avs : List Value) (n : Nat) (l l' : List va_E) : Prop := ∀ pre : List va_E, pre.length = n → Sp1 G d CM SM Y avs (pre ++ l) (pre ++ l')
section C2
variable {G : GG} {Y Y' : MI} {d d' CM SM cm sm : Nat} {K : List va_E → KQ} {n pc : Nat} {lv lv' : List (Nat × Value)} {st rest : List Value} {l l' l0 l0' l1 pre : List va_E}
theorem p_get {k : Nat} {c : va_E} (hn : pre.length = n) (h : l[k]? = some c) : (pre ++ l)[n + k]? = some c := by
  subst hn
  rw [List.getElem?_append_right (by omega), Nat.add_sub_cancel_left]
  exact h
theorem p_set {k : Nat} {c : va_E} (hn : pre.length = n) (h : l.set k c = l') : (pre ++ l).set (n + k) c = pre ++ l' := by
  subst hn
  rw [List.set_append_right _ _ (by omega), Nat.add_sub_cancel_left, h]
theorem p_len {k : Nat} (hn : pre.length = n) (h : l.length = k) : (pre ++ l).length = n + k := by rw [List.length_append, hn, h]
theorem p_push {c : va_E} (h : l ++ [c] = l') : (pre ++ l) ++ [c] = pre ++ l' := by rw [List.append_assoc, h]
theorem m_eq {st' : List Value} {l' : List va_E} {cm' sm' : Nat} (e2 : st = st') (e3 : l = l') (e4 : cm = cm') (e5 : sm = sm') (k : J2 G Y d CM SM K n pc lv st' l' cm' sm') : J2 G Y d CM SM K n pc lv st l cm sm := by subst e2; subst e3; subst e4; subst e5; exact k
theorem m_iconst {m0 : Int} (v : Int32) (hd : decode Y.2.1 pc = .ok (.iconst m0, 1)) (hv : Int32.ofInt m0 = v) (k : J2 G Y d CM SM K n (pc + 1) lv (.int v :: st) l cm sm) : J2 G Y d CM SM K n pc lv st l cm sm := fun pre hn => k_iconst v hd hv (k pre hn)
theorem m_bipush {m0 : Int} (v : Int32) (hd : decode Y.2.1 pc = .ok (.bipush m0, 2)) (hv : (Int8.ofInt m0).toInt32 = v) (k : J2 G Y d CM SM K n (pc + 2) lv (.int v :: st) l cm sm) : J2 G Y d CM SM K n pc lv st l cm sm := fun pre hn => k_bipush v hd hv (k pre hn)
theorem m_sipush {m0 : Int} (v : Int32) (hd : decode Y.2.1 pc = .ok (.sipush m0, 3)) (hv : (Int16.ofInt m0).toInt32 = v) (k : J2 G Y d CM SM K n (pc + 3) lv (.int v :: st) l cm sm) : J2 G Y d CM SM K n pc lv st l cm sm := fun pre hn => k_sipush v hd hv (k pre hn)
theorem m_iload_n {k0 : Fin 4} {x : Int32} (ps : Nat) (hd : decode Y.2.1 pc = .ok (.iload_n k0, 1)) (hk : lv[ps]? = some ((k0 : Nat), .int x)) (k : J2 G Y d CM SM K n (pc + 1) lv (.int x :: st) l cm sm) : J2 G Y d CM SM K n pc lv st l cm sm := fun pre hn => k_iload_n ps hd hk (k pre hn)
theorem m_istore_n {k0 : Fin 4} {x : Int32} (hd : decode Y.2.1 pc = .ok (.istore_n k0, 1)) (hn0 : (k0 : Nat) < Y.2.2.1) (hl2 : ((k0 : Nat), Value.int x) :: lv.filter (fun q => !(q.1 == (k0 : Nat)) && !(q.1 + 1 == (k0 : Nat) && q.2.category == 2)) = lv') (k : J2 G Y d CM SM K n (pc + 1) lv' st l cm sm) : J2 G Y d CM SM K n pc lv (.int x :: st) l cm sm := fun pre hn => k_istore_n hd hn0 hl2 (k pre hn)
theorem m_aload_n {k0 : Fin 4} {x : Nat} (ps : Nat) (hd : decode Y.2.1 pc = .ok (.aload_n k0, 1)) (hk : lv[ps]? = some ((k0 : Nat), .ref x)) (k : J2 G Y d CM SM K n (pc + 1) lv (.ref x :: st) l cm sm) : J2 G Y d CM SM K n pc lv st l cm sm := fun pre hn => k_aload_n ps hd hk (k pre hn)
theorem m_astore_n {k0 : Fin 4} {x : Nat} (hd : decode Y.2.1 pc = .ok (.astore_n k0, 1)) (hn0 : (k0 : Nat) < Y.2.2.1) (hl2 : ((k0 : Nat), Value.ref x) :: lv.filter (fun q => !(q.1 == (k0 : Nat)) && !(q.1 + 1 == (k0 : Nat) && q.2.category == 2)) = lv') (k : J2 G Y d CM SM K n (pc + 1) lv' st l cm sm) : J2 G Y d CM SM K n pc lv (.ref x :: st) l cm sm := fun pre hn => k_astore_n hd hn0 hl2 (k pre hn)
theorem m_iinc {i : Nat} {m0 : Int} {x v : Int32} (ps : Nat) (hd : decode Y.2.1 pc = .ok (.iinc i m0, 3)) (hk : lv[ps]? = some (i, .int x)) (hv : x + Int32.ofInt m0 = v) (hn0 : i < Y.2.2.1) (hl2 : (i, Value.int v) :: lv.filter (fun q => !(q.1 == i) && !(q.1 + 1 == i && q.2.category == 2)) = lv') (k : J2 G Y d CM SM K n (pc + 3) lv' st l cm sm) : J2 G Y d CM SM K n pc lv st l cm sm := fun pre hn => k_iinc ps hd hk hv hn0 hl2 (k pre hn)
theorem m_icmp_ge {x y : Int32} {off : Int} (tgt : Nat) (hd : decode Y.2.1 pc = .ok (.if_icmp .ge off, 3)) (ht : (pc : Int) + off = (tgt : Int)) (kt : y ≤ x → J2 G Y d CM SM K n tgt lv st l cm sm) (kf : ¬ y ≤ x → J2 G Y d CM SM K n (pc + 3) lv st l cm sm) : J2 G Y d CM SM K n pc lv (.int y :: .int x :: st) l cm sm := fun pre hn => k_icmp_ge tgt hd ht (fun z => kt z pre hn) (fun z => kf z pre hn)
theorem m_goto {off : Int} (tgt : Nat) (hd : decode Y.2.1 pc = .ok (.goto off, 3)) (ht : (pc : Int) + off = (tgt : Int)) (k : J2 G Y d CM SM K n tgt lv st l cm sm) : J2 G Y d CM SM K n pc lv st l cm sm := fun pre hn => k_goto tgt hd ht (k pre hn)
theorem m_dup {va : Value} (hd : decode Y.2.1 pc = .ok (.dup, 1)) (hva : va.category = 1) (k : J2 G Y d CM SM K n (pc + 1) lv (va :: va :: st) l cm sm) : J2 G Y d CM SM K n pc lv (va :: st) l cm sm := fun pre hn => k_dup hd hva (k pre hn)
theorem m_ldcS {idx : Nat} {own tx : String} {i : Nat} (hY : Y.1.cls = own) (hw0 : (own, idx, tx, i) ∈ strTab) (hd : decode Y.2.1 pc = .ok (.ldc idx, 2)) (k : J2 G Y d CM SM K n (pc + 2) lv (.ref (gK G i) :: st) l cm sm) : J2 G Y d CM SM K n pc lv st l cm sm := fun pre hn => k_ldcS hY hw0 hd (k pre hn)
theorem m_obj {idx a : Nat} {own : String} (hY : Y.1.cls = own) (hlink : Cond.methodLink own idx objectInit ∈ GW) (hd1 : 1 ≤ d) (hW : (st.map fun v => v.category).sum ≤ 8) (hd : decode Y.2.1 pc = .ok (.invokespecial idx, 3)) (k : J2 G Y d CM SM K n (pc + 3) lv st l cm sm) : J2 G Y d CM SM K n pc lv (.ref a :: st) l cm sm := fun pre hn => k_obj hY hlink ki_java_lang_Object__init____V kc_java_lang_Object__init____V hd1 hW hd (k pre hn)
theorem m_put {own Cn : String} {T : u_T} {N ci k0 idx k1 r : Nat} {v : Value} {ty : FieldType} {fs : List Value} (ty0 : Nat → FieldType) (hr : n + k1 = r) (hY : Y.1.cls = own) (hin : ∀ w ∈ u_ws Cn T N, w ∈ GW) (hty : ∀ k, k < N → parseFieldDescriptor (T k).2.2.1 = some (ty0 k)) (hnm : ∀ a, a < N → ∀ b, b < N → a ≠ b → (T a).2.1 ≠ (T b).2.1) (hcl : vwCl[ci]? = some (Cn, T, N)) (hk : k0 < N) (hT1 : (T k0).1 = Cn) (hfin : (T k0).2.2.2 = false) (hlink : Cond.fieldLink own idx Cn (T k0).2.1 (T k0).2.2.1 ∈ GW) (hc : l[k1]? = some (.inr (ci, fs))) (hdt : parseFieldDescriptor (T k0).2.2.1 = some ty) (hn9 : narrow ty v = v) (hfit : fits ty v = true) (hlen : k0 < fs.length) (hset : l.set k1 (.inr (ci, fs.set k0 v)) = l') (hd : decode Y.2.1 pc = .ok (.putfield idx, 3)) (k : J2 G Y d CM SM K n (pc + 3) lv st l' cm sm) : J2 G Y d CM SM K n pc lv (v :: .ref (ad G r) :: st) l cm sm := fun pre hn => by subst hr; exact k_put ty0 hY hin hty hnm hcl hk hT1 hfin hlink (p_get hn hc) hdt hn9 hfit hlen (p_set hn hset) hd (k pre hn)
theorem m_putF {own Cn : String} {T : u_T} {N ci k0 idx k1 r : Nat} {v : Value} {ty : FieldType} {fs : List Value} (ty0 : Nat → FieldType) (hr : n + k1 = r) (hY : Y.1.cls = own) (hin : ∀ w ∈ u_ws Cn T N, w ∈ GW) (hty : ∀ k, k < N → parseFieldDescriptor (T k).2.2.1 = some (ty0 k)) (hnm : ∀ a, a < N → ∀ b, b < N → a ≠ b → (T a).2.1 ≠ (T b).2.1) (hcl : vwCl[ci]? = some (Cn, T, N)) (hk : k0 < N) (hT1 : (T k0).1 = Cn) (hfin : (T k0).2.2.2 = true) (hown1 : own = Cn) (hini : Y.1.name = "<init>") (hlink : Cond.fieldLink own idx Cn (T k0).2.1 (T k0).2.2.1 ∈ GW) (hc : l[k1]? = some (.inr (ci, fs))) (hdt : parseFieldDescriptor (T k0).2.2.1 = some ty) (hn9 : narrow ty v = v) (hfit : fits ty v = true) (hlen : k0 < fs.length) (hset : l.set k1 (.inr (ci, fs.set k0 v)) = l') (hd : decode Y.2.1 pc = .ok (.putfield idx, 3)) (k : J2 G Y d CM SM K n (pc + 3) lv st l' cm sm) : J2 G Y d CM SM K n pc lv (v :: .ref (ad G r) :: st) l cm sm := fun pre hn => by subst hr; exact k_putF ty0 hY hin hty hnm hcl hk hT1 hfin hown1 hini hlink (p_get hn hc) hdt hn9 hfit hlen (p_set hn hset) hd (k pre hn)
theorem m_get {own Cn : String} {T : u_T} {N ci k0 idx k1 r : Nat} {v : Value} {fs : List Value} (hr : n + k1 = r) (hY : Y.1.cls = own) (hin : ∀ w ∈ u_ws Cn T N, w ∈ GW) (hcl : vwCl[ci]? = some (Cn, T, N)) (hk : k0 < N) (hT1 : (T k0).1 = Cn) (hlink : Cond.fieldLink own idx Cn (T k0).2.1 (T k0).2.2.1 ∈ GW) (hc : l[k1]? = some (.inr (ci, fs))) (hv : fs[k0]? = some v) (hd : decode Y.2.1 pc = .ok (.getfield idx, 3)) (k : J2 G Y d CM SM K n (pc + 3) lv (v :: st) l cm sm) : J2 G Y d CM SM K n pc lv (.ref (ad G r) :: st) l cm sm := fun pre hn => by subst hr; exact k_get hY hin hcl hk hT1 hlink (p_get hn hc) hv hd (k pre hn)
theorem m_new {own Cn : String} {T : u_T} {N ci idx k1 r : Nat} {fs : List Value} (ty0 : Nat → FieldType) (hr : n + k1 = r) (hY : Y.1.cls = own) (hin : ∀ w ∈ u_ws Cn T N, w ∈ GW) (hty : ∀ k, k < N → parseFieldDescriptor (T k).2.2.1 = some (ty0 k)) (hcl : vwCl[ci]? = some (Cn, T, N)) (hlink : Cond.classLink own idx Cn ∈ GW) (hinst : Cond.instantiable Cn N ∈ GW) (hini : Cond.initialized Cn ∈ GW) (hfs : ∀ j, j < N → defaultValue (ty0 j) = vp_V fs j) (hc1 : cm + 1 ≤ CM) (hc2 : sm + N ≤ SM) (hlen : l.length = k1) (hcs : l ++ [.inr (ci, fs)] = l') (hd : decode Y.2.1 pc = .ok (.new idx, 3)) (k : J2 G Y d CM SM K n (pc + 3) lv (.ref (ad G r) :: st) l' (cm + 1) (sm + N)) : J2 G Y d CM SM K n pc lv st l cm sm := fun pre hn => k_new ty0 hY hin hty hcl hlink hinst hini hfs hc1 hc2 (p_push hcs) hd (by rw [p_len hn hlen, hr]; exact k pre hn)
theorem m_newI {m0 : Int32} {N k1 r : Nat} (hr : n + k1 = r) (hn0 : ¬ m0 < 0) (hN : m0.toNatClampNeg = N) (hbytes : N * 4 ≤ 536870912) (hc1 : cm + 1 ≤ CM) (hc2 : sm + N ≤ SM) (hlen : l.length = k1) (hcs : l ++ [.inl (gA G 0, N, .inl (fun _ => 0))] = l') (hd : decode Y.2.1 pc = .ok (.newarray .int, 2)) (k : J2 G Y d CM SM K n (pc + 2) lv (.ref (ad G r) :: st) l' (cm + 1) (sm + N)) : J2 G Y d CM SM K n pc lv (.int m0 :: st) l cm sm := fun pre hn => k_newI hn0 hN hbytes hc1 hc2 (p_push hcs) hd (by rw [p_len hn hlen, hr]; exact k pre hn)
theorem m_newJ {m0 : Int32} {N k1 r : Nat} (hr : n + k1 = r) (hn0 : ¬ m0 < 0) (hN : m0.toNatClampNeg = N) (hbytes : N * 8 ≤ 536870912) (hc1 : cm + 1 ≤ CM) (hc2 : sm + N ≤ SM) (hlen : l.length = k1) (hcs : l ++ [.inl (gA G 1, N, .inr (.inl (fun _ => 0)))] = l') (hd : decode Y.2.1 pc = .ok (.newarray .long, 2)) (k : J2 G Y d CM SM K n (pc + 2) lv (.ref (ad G r) :: st) l' (cm + 1) (sm + N)) : J2 G Y d CM SM K n pc lv (.int m0 :: st) l cm sm := fun pre hn => k_newJ hn0 hN hbytes hc1 hc2 (p_push hcs) hd (by rw [p_len hn hlen, hr]; exact k pre hn)
theorem m_anew {own Cn : String} {idx t0 : Nat} {cA0 : ClassId} {m0 : Int32} {N k1 r : Nat} (hr : n + k1 = r) (hY : Y.1.cls = own) (hlink : Cond.classLink own idx Cn ∈ GW) (hover : Cn ∈ aoTab) (ht : (tys G)[t0]? = some (cA0, .object Cn)) (hn0 : ¬ m0 < 0) (hN : m0.toNatClampNeg = N) (hbytes : N * 4 ≤ 536870912) (hc1 : cm + 1 ≤ CM) (hc2 : sm + N ≤ SM) (hlen : l.length = k1) (hcs : l ++ [.inl (cA0, N, .inr (.inr (.inr (.inr (fun _ => none)))))] = l') (hd : decode Y.2.1 pc = .ok (.anewarray idx, 3)) (k : J2 G Y d CM SM K n (pc + 3) lv (.ref (ad G r) :: st) l' (cm + 1) (sm + N)) : J2 G Y d CM SM K n pc lv (.int m0 :: st) l cm sm := fun pre hn => k_anew hY hlink hover ht hn0 hN hbytes hc1 hc2 (p_push hcs) hd (by rw [p_len hn hlen, hr]; exact k pre hn)
theorem m_iast {k1 r n1 : Nat} {f : Nat → Int32} {i x : Int32} (hr : n + k1 = r) (hc : l[k1]? = some (.inl (gA G 0, n1, .inl f))) (hin : vp_in i n1) (hset : l.set k1 (.inl (gA G 0, n1, .inl (upd f i.toNatClampNeg x))) = l') (hd : decode Y.2.1 pc = .ok (.iastore, 1)) (k : J2 G Y d CM SM K n (pc + 1) lv st l' cm sm) : J2 G Y d CM SM K n pc lv (.int x :: .int i :: .ref (ad G r) :: st) l cm sm := fun pre hn => by subst hr; exact k_iast rfl (p_get hn hc) hin (p_set hn hset) hd (k pre hn)
theorem m_aast {k1 r n1 t0 v k2 ci : Nat} {cA : ClassId} {q0 : vw_C} {vs : List Value} {f : Nat → Option Nat} {i : Int32} (hr : n + k1 = r) (hr2 : n + k2 = v) (ht : (tys G)[t0]? = some (cA, .object q0.1)) (hc : l[k1]? = some (.inl (cA, n1, .inr (.inr (.inr (.inr f)))))) (hv : l[k2]? = some (.inr (ci, vs))) (hcl : vwCl[ci]? = some q0) (hin : vp_in i n1) (hset : l.set k1 (.inl (cA, n1, .inr (.inr (.inr (.inr (va_up f i.toNatClampNeg (some (ad G v)))))))) = l') (hd : decode Y.2.1 pc = .ok (.aastore, 1)) (k : J2 G Y d CM SM K n (pc + 1) lv st l' cm sm) : J2 G Y d CM SM K n pc lv (.ref (ad G v) :: .int i :: .ref (ad G r) :: st) l cm sm := fun pre hn => by subst hr; subst hr2; exact k_aast ht (p_get hn hc) (p_get hn hv) hcl hin (p_set hn hset) hd (k pre hn)
theorem m_aastS {k1 r n1 j : Nat} {f : Nat → Option Nat} {i : Int32} (hr : n + k1 = r) (hj : j < 35) (hc : l[k1]? = some (.inl (gA G 4, n1, .inr (.inr (.inr (.inr f)))))) (hin : vp_in i n1) (hset : l.set k1 (.inl (gA G 4, n1, .inr (.inr (.inr (.inr (va_up f i.toNatClampNeg (some (gK G j)))))))) = l') (hd : decode Y.2.1 pc = .ok (.aastore, 1)) (k : J2 G Y d CM SM K n (pc + 1) lv st l' cm sm) : J2 G Y d CM SM K n pc lv (.ref (gK G j) :: .int i :: .ref (ad G r) :: st) l cm sm := fun pre hn => by subst hr; exact k_aastS rfl hj (p_get hn hc) hin (p_set hn hset) hd (k pre hn)
theorem m_ret (hc1 : cm ≤ CM) (hc2 : sm ≤ SM) (hd : decode Y.2.1 pc = .ok (.return_, 1)) (hr9 : Y.2.2.2 = none) : J2 G Y d CM SM (fun pre => K1 G CM SM (pre ++ l)) n pc lv [] l cm sm := fun pre hn => k_ret hc1 hc2 hd hr9
theorem sp2_of {avs : List Value} (hp : plainFor Y.1 = true) (hlen : (lg_sl avs).length ≤ Y.2.2.1) (body : J2 G Y d CM SM (fun pre => K1 G CM SM (pre ++ l')) n 0 (lv_args 0 avs) [] l 0 0) : Sp2 G d CM SM Y avs n l l' := fun pre hn => sp1_of hp hlen (body pre hn)
theorem m_callI {own : String} {idx r c1 s1 : Nat} (hs : Sp2 G d' c1 s1 Y' [.ref (ad G r)] r l0 l0') (hr : n + l1.length = r) (h0 : l1 ++ l0 = l) (h1 : l1 ++ l0' = l') (hY : Y.1.cls = own) (hcode : Cond.code Y'.1 Y'.2.1 Y'.2.2.1 none ∈ GW) (hret : Y'.2.2.2 = none) (hini : Cond.initialized Y'.1.cls ∈ GW) (hlink : Cond.methodLink own idx Y'.1 ∈ GW) (hinst : Cond.instanceMethod Y'.1 ∈ GW) (hnm : Y'.1.name = "<init>") (hmh : Y'.1.cls ≠ "java/lang/invoke/MethodHandle" ∧ Y'.1.cls ≠ "java/lang/invoke/VarHandle" ∧ (parseMethodDescriptor Y'.1.desc).map (fun d => d.parameters.length) = some 0) (hml : Y'.2.2.1 ≤ 21) (hdd : d' + 1 ≤ d) (hW : (rest.map fun v => v.category).sum ≤ 8) (hc1 : cm + c1 ≤ CM) (hc2 : sm + s1 ≤ SM) (hd : decode Y.2.1 pc = .ok (.invokespecial idx, 3))
    (kk : J2 G Y d CM SM K n (pc + 3) lv rest l' (cm + c1) (sm + s1)) : J2 G Y d CM SM K n pc lv (.ref (ad G r) :: rest) l cm sm := fun pre hn => by
  have hq := hs (pre ++ l1) (by rw [List.length_append, hn, hr])
  rw [List.append_assoc, List.append_assoc, h0, h1] at hq
  exact k_callI hq hY hcode hret hini hlink hinst hnm hmh hml hdd rfl hW hc1 hc2 hd (kk pre hn)
theorem m_callIN {own host : String} {idx r c1 s1 : Nat} (hs : Sp2 G d' c1 s1 Y' [.ref (ad G r)] r l0 l0') (hr : n + l1.length = r) (h0 : l1 ++ l0 = l) (h1 : l1 ++ l0' = l') (hY : Y.1.cls = own) (hcode : Cond.code Y'.1 Y'.2.1 Y'.2.2.1 none ∈ GW) (hret : Y'.2.2.2 = none) (hini : Cond.initialized Y'.1.cls ∈ GW) (hlink : (own, idx, Y'.1, host) ∈ nestTab) (hinst : Cond.instanceMethod Y'.1 ∈ GW) (hnm : Y'.1.name = "<init>") (hmh : Y'.1.cls ≠ "java/lang/invoke/MethodHandle" ∧ Y'.1.cls ≠ "java/lang/invoke/VarHandle" ∧ (parseMethodDescriptor Y'.1.desc).map (fun d => d.parameters.length) = some 0) (hml : Y'.2.2.1 ≤ 21) (hdd : d' + 1 ≤ d) (hW : (rest.map fun v => v.category).sum ≤ 8) (hc1 : cm + c1 ≤ CM) (hc2 : sm + s1 ≤ SM) (hd : decode Y.2.1 pc = .ok (.invokespecial idx, 3))
    (kk : J2 G Y d CM SM K n (pc + 3) lv rest l' (cm + c1) (sm + s1)) : J2 G Y d CM SM K n pc lv (.ref (ad G r) :: rest) l cm sm := fun pre hn => by
  have hq := hs (pre ++ l1) (by rw [List.length_append, hn, hr])
  rw [List.append_assoc, List.append_assoc, h0, h1] at hq
  exact k_callIN hq hY hcode hret hini hlink hinst hnm hmh hml hdd rfl hW hc1 hc2 hd (kk pre hn)
end C2
/-! Arrays.fill over a row of ints -/
def pF (f : Nat → Int32) (v : Int32) (i : Nat) : Nat → Int32 := fun j => if j < i then v else f j
theorem pF_0 (f : Nat → Int32) (v : Int32) : pF f v 0 = f := by funext j; unfold pF; rw [if_neg (by omega)]
theorem pF_s (f : Nat → Int32) (v : Int32) (i : Nat) : upd (pF f v i) i v = pF f v (i + 1) := by
  funext j
  unfold upd pF
  by_cases h : j = i
  · subst h; simp
  · by_cases h2 : j < i
    · rw [if_neg h, if_pos h2, if_pos (by omega)]
    · rw [if_neg h, if_neg h2, if_neg (by omega)]
theorem o32_le {a b : Nat} (ha : a < 100000) (hb : b < 100000) : Int32.ofNat a ≤ Int32.ofNat b ↔ a ≤ b := Int32.ofNat_le_ofNat (by omega) (by omega)
theorem o32_cl {a : Nat} (ha : a < 100000) : (Int32.ofNat a).toNatClampNeg = a := Int32.toNatClampNeg_ofNat_of_lt (by omega)
theorem o32_in {i n : Nat} (hi : i < n) (hn : n < 100000) : vp_in (Int32.ofNat i) n := by
  intro q
  rcases q with q | q
  · have h0 : Int32.ofNat 0 ≤ Int32.ofNat i := (o32_le (by omega) (by omega)).mpr (Nat.zero_le _)
    exact absurd q (Int32.not_lt.mpr h0)
  · rw [o32_cl (by omega)] at q
    omega
theorem o32_s (i : Nat) : Int32.ofNat i + Int32.ofInt 1 = Int32.ofNat (i + 1) := by rw [Int32.ofNat_add]; rfl
theorem c2_fillL (G : GG) (cs cs' : List va_E) (r N : Nat) (f : Nat → Int32) (v : Int32) (hN : N < 100000) (hc : cs[r]? = some (.inl (gA G 0, N, .inl f))) (hs : cs.set r (.inl (gA G 0, N, .inl (pF f v N))) = cs') : ∀ (w i : Nat), i + w = N → J1 G mJ7_fill_53178 1 0 0 (K1 G 0 0 cs') 5 [(3, .int (Int32.ofNat N)), (2, .int (Int32.ofNat i)), (0, .ref (ad G r)), (1, .int v)] [] (cs.set r (.inl (gA G 0, N, .inl (pF f v i)))) 0 0 := by
  have hlt : r < cs.length := (List.getElem?_eq_some_iff.mp hc).1
  intro w
  induction w with
  | zero =>
    intro i hi
    have e : i = N := by omega
    subst e
    refine k_iload_n 1 dJ7_fill_53178_5 rfl ?_
    refine k_iload_n 0 dJ7_fill_53178_6 rfl ?_
    refine k_icmp_ge 20 dJ7_fill_53178_7 (by decide) (fun z => ?_) (fun z => absurd (Int32.le_refl _) z)
    rw [hs]
    exact k_ret (Nat.le_refl _) (Nat.le_refl _) dJ7_fill_53178_20 rfl
  | succ w ih =>
    intro i hi
    refine k_iload_n 1 dJ7_fill_53178_5 rfl ?_
    refine k_iload_n 0 dJ7_fill_53178_6 rfl ?_
    refine k_icmp_ge 20 dJ7_fill_53178_7 (by decide) (fun z => absurd ((o32_le (by omega) (by omega)).mp z) (by omega)) (fun z => ?_)
    refine k_aload_n 2 dJ7_fill_53178_10 rfl ?_
    refine k_iload_n 1 dJ7_fill_53178_11 rfl ?_
    refine k_iload_n 3 dJ7_fill_53178_12 rfl ?_
    refine k_iast (cs' := cs.set r (.inl (gA G 0, N, .inl (pF f v (i + 1))))) rfl (List.getElem?_set_self hlt) (o32_in (by omega) hN) (by rw [List.set_set, o32_cl (by omega), pF_s]) dJ7_fill_53178_13 ?_
    refine k_iinc (v := Int32.ofNat (i + 1)) (lv' := [(2, .int (Int32.ofNat (i + 1))), (3, .int (Int32.ofNat N)), (0, .ref (ad G r)), (1, .int v)]) 1 dJ7_fill_53178_14 rfl (o32_s i) (by decide) rfl ?_
    refine k_goto 5 dJ7_fill_53178_17 (by decide) ?_
    refine k_sub (lv' := [(3, .int (Int32.ofNat N)), (2, .int (Int32.ofNat (i + 1))), (0, .ref (ad G r)), (1, .int v)]) [1, 0, 2, 3] rfl ?_
    exact ih (i + 1) (by omega)
theorem c2_fill (G : GG) (cs cs' : List va_E) (r N : Nat) (f : Nat → Int32) (v : Int32) (hN : N < 100000) (hc : cs[r]? = some (.inl (gA G 0, N, .inl f))) (hs : cs.set r (.inl (gA G 0, N, .inl (pF f v N))) = cs') : Sp1 G 1 0 0 mJ7_fill_53178 [.ref (ad G r), .int v] cs cs' := by
  refine sp1_of pf_J7_fill_53178 (Nat.le_of_ble_eq_true rfl) ?_
  show J1 G mJ7_fill_53178 1 0 0 _ 0 [(0, .ref (ad G r)), (1, .int v)] [] cs 0 0
  refine k_iconst 0 dJ7_fill_53178_0 (by decide) ?_
  refine k_istore_n (lv' := [(2, .int 0), (0, .ref (ad G r)), (1, .int v)]) dJ7_fill_53178_1 (by decide) rfl ?_
  refine k_aload_n 1 dJ7_fill_53178_2 rfl ?_
  refine k_alen hc dJ7_fill_53178_3 ?_
  refine k_istore_n (lv' := [(3, .int (Int32.ofNat N)), (2, .int 0), (0, .ref (ad G r)), (1, .int v)]) dJ7_fill_53178_4 (by decide) rfl ?_
  have h := c2_fillL G cs cs' r N f v hN hc hs N 0 (by omega)
  rw [pF_0] at h
  have hself : cs.set r (.inl (gA G 0, N, .inl f)) = cs := by
    obtain ⟨hlt, he⟩ := List.getElem?_eq_some_iff.mp hc
    rw [← he]
    exact List.set_getElem_self hlt
  rw [hself] at h
  exact h

theorem ls_at {T : List va_E} {k : Nat} {a c0 : va_E} (h : T.length = k) : (c0 :: (T ++ [a]))[k + 1]? = some a := by
  subst h
  simp
theorem ls_set {T : List va_E} {k : Nat} {a b c0 : va_E} (h : T.length = k) : (c0 :: (T ++ [a])).set (k + 1) b = c0 :: (T ++ [b]) := by
  subst h
  simp
theorem len_app1 {T : List va_E} {k : Nat} (a : va_E) (h : T.length = k) : (T ++ [a]).length = k + 1 := by rw [List.length_append, h]; rfl
theorem len_app {T B : List va_E} {k b : Nat} (h : T.length = k) (hb : B.length = b) : (T ++ B).length = k + b := by rw [List.length_append, h, hb]
