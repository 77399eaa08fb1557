/-! while the cells are made: a list of cells, the next one lies at its end -/
def wsC (G : GG) (cs : List va_E) : va_W := cs.mapIdx (fun i c => (ad G i, c))
def PW (G : GG) (cs : List va_E) (H : Heap) : Prop := va_P (gD G) vwCl (wsC G cs) H ∧ H.size = gB G + cs.length
theorem wc_at (G : GG) {cs : List va_E} {r : Nat} {c : va_E} (h : cs[r]? = some c) : (wsC G cs)[r]? = some (ad G r, c) := by
  unfold wsC
  rw [List.getElem?_mapIdx, h]
  rfl
theorem wc_get {G : GG} {cs : List va_E} {k : Nat} {q : Nat × va_E} (h : (wsC G cs)[k]? = some q) : ∃ c, cs[k]? = some c ∧ q = (ad G k, c) := by
  unfold wsC at h
  rw [List.getElem?_mapIdx] at h
  cases hc : cs[k]? with
  | none => rw [hc] at h; cases h
  | some c => rw [hc] at h; exact ⟨c, rfl, (Option.some.inj h).symm⟩
theorem wc_D (G : GG) (cs : List va_E) : va_D (AA G) (wsC G cs) := by
  refine ⟨fun i j p q hi hj e => ?_, fun k q hk => ?_⟩
  · obtain ⟨_, -, rfl⟩ := wc_get hi
    obtain ⟨_, -, rfl⟩ := wc_get hj
    have e : gB G + i = gB G + j := e
    omega
  · obtain ⟨_, -, rfl⟩ := wc_get hk
    show gB G ≤ gB G + k
    omega
theorem wc_set (G : GG) (cs : List va_E) (r : Nat) (c : va_E) : (wsC G cs).set r (ad G r, c) = wsC G (cs.set r c) := by
  apply List.ext_getElem?
  intro k
  unfold wsC
  simp only [List.getElem?_set, List.getElem?_mapIdx, List.length_mapIdx]
  by_cases e : r = k
  · subst e
    by_cases hl : r < cs.length
    · simp [hl]
    · simp [hl]
  · simp [e]
theorem wc_push (G : GG) (cs : List va_E) (c : va_E) : wsC G (cs ++ [c]) = wsC G cs ++ [(ad G cs.length, c)] := by
  unfold wsC
  rw [List.mapIdx_append]
  simp [List.mapIdx, List.mapIdx.go]
def aoTab : List String := [RX0, RX10, "java/lang/String"]
def WT1 (G : GG) (U : State) : Prop := WT G U ∧ ∀ C ∈ aoTab, va_AO C U
theorem WT1.warm {G : GG} {s U : State} (hW : s.WarmedH U.vm) (h : WT1 G s) : WT1 G U := ⟨WT.warm hW h.1, fun C hC => va_AO.moved hW.alike (h.2 C hC)⟩
def W1 (G : GG) (cs : List va_E) (U : State) : Prop := WT1 G U ∧ PS G U U.heap ∧ PW G cs U.heap
def Q1 (G : GG) (cs' : List va_E) : Array Value → State → Outcome → State → Prop := fun _ st o t => o = .returned none ∧ PW G cs' t.heap ∧ va_F (AA G) st t
def rm1 (d CM SM : Nat) : Room := { frames := d, cells := CM, slots := SM, locals := 40 * d }
/-- a constructor: from the cells cs to the cells cs' -/
def Sp1 (G : GG) (d CM SM : Nat) (Y : MI) (avs : List Value) (cs cs' : List va_E) : Prop := Met (gL G) Y.1 (wsy Y) (rm1 d CM SM) (va_Pc avs (W1 G cs)) (Q1 G cs') CM SM (AA G)
def K1 (G : GG) (CM SM : Nat) (cs' : List va_E) : KQ := fun below args s => MQ below (Q1 G cs') args s CM SM (AA G)
def JC1 (G : GG) (Y : MI) (d CM SM : Nat) (p : Program) (R : Room) (s : State) (m : MethodId) (args : Array Value) (meth : Method) (c : Code) : Prop :=
  p.tables.exec = Jvm.exec ∧ c.code = Y.2.1 ∧ c.maxLocals = Y.2.2.1 ∧ meth.sig.returnType = Y.2.2.2 ∧ meth.locks = false ∧ s.vm.findClass Y.1.cls = some m.cls ∧ (∀ w ∈ GW, w.before args s = true) ∧ meth.name = Y.1.name ∧ WT1 G s ∧ PS G s s.heap ∧ d ≤ R.frames ∧ 40 * d ≤ R.locals ∧ CM ≤ R.cells ∧ SM ≤ R.slots ∧ gB G ≤ s.heap.size ∧ ((Cond.code Y.1 Y.2.1 Y.2.2.1 Y.2.2.2 ∈ GW → ∀ x ∈ c.exceptionTable.toList, False) ∧ ∀ hh, Cond.codeWith Y.1 Y.2.1 Y.2.2.1 Y.2.2.2 hh ∈ GW → c.exceptionTable.toList = tableOf hh)
def J1 (G : GG) (Y : MI) (d CM SM : Nat) (K : KQ) (pc : Nat) (lv : List (Nat × Value)) (st : List Value) (cs : List va_E) (cm sm : Nat) : Prop :=
  ∀ (p : Program) (e : Env) (R : Room) (s : State) (m : MethodId) (args : Array Value) (below : List Frame) (meth : Method) (c : Code) (H : Heap) (locs : List Loc) (ls : Array Slot),
    JC1 G Y d CM SM p R s m args meth c → PW G cs H → va_S (AA G) s.heap H locs → lv_has ls Y.2.2.1 lv →
    W p (gL G) e R s m args below meth c H locs cm sm (K below args s) (F0 m pc ls st)
section CT
variable {G : GG} {Y Y' : MI} {d d' CM SM cm sm : Nat} {K : KQ} {pc : Nat} {lv lv' : List (Nat × Value)} {st rest : List Value} {cs cs' : List va_E}
theorem k_eq {st' : List Value} {cs' : List va_E} {cm' sm' : Nat} (e2 : st = st') (e3 : cs = cs') (e4 : cm = cm') (e5 : sm = sm') (k : J1 G Y d CM SM K pc lv st' cs' cm' sm') : J1 G Y d CM SM K pc lv st cs cm sm := by subst e2; subst e3; subst e4; subst e5; exact k
theorem k_sub (ks : List Nat) (hk : lv_pick lv ks = lv') (k : J1 G Y d CM SM K pc lv' st cs cm sm) : J1 G Y d CM SM K pc lv st cs cm sm := fun p e R s m args below meth c H locs ls hC hw hS hl => k p e R s m args below meth c H locs ls hC hw hS (lv_sub hl ks hk)
theorem k_iconst {n : Int} (v : Int32) (hd : decode Y.2.1 pc = .ok (.iconst n, 1)) (hv : Int32.ofInt n = v) (k : J1 G Y d CM SM K (pc + 1) lv (.int v :: st) cs cm sm) : J1 G Y d CM SM K pc lv st cs cm sm := fun p e R s m args below meth c H locs ls hC hw hS hl => lv_iconst hC.1 hC.2.1 hd hv (k p e R s m args below meth c H locs ls hC hw hS hl)
theorem k_bipush {n : Int} (v : Int32) (hd : decode Y.2.1 pc = .ok (.bipush n, 2)) (hv : (Int8.ofInt n).toInt32 = v) (k : J1 G Y d CM SM K (pc + 2) lv (.int v :: st) cs cm sm) : J1 G Y d CM SM K pc lv st cs cm sm := fun p e R s m args below meth c H locs ls hC hw hS hl => lv_bipush hC.1 hC.2.1 hd hv (k p e R s m args below meth c H locs ls hC hw hS hl)
theorem k_sipush {n : Int} (v : Int32) (hd : decode Y.2.1 pc = .ok (.sipush n, 3)) (hv : (Int16.ofInt n).toInt32 = v) (k : J1 G Y d CM SM K (pc + 3) lv (.int v :: st) cs cm sm) : J1 G Y d CM SM K pc lv st cs cm sm := fun p e R s m args below meth c H locs ls hC hw hS hl => lv_sipush hC.1 hC.2.1 hd hv (k p e R s m args below meth c H locs ls hC hw hS hl)
theorem k_iload_n {k0 : Fin 4} {x : Int32} (ps : Nat) (hd : decode Y.2.1 pc = .ok (.iload_n k0, 1)) (hk : lv[ps]? = some ((k0 : Nat), .int x)) (k : J1 G Y d CM SM K (pc + 1) lv (.int x :: st) cs cm sm) : J1 G Y d CM SM K pc lv st cs cm sm := fun p e R s m args below meth c H locs ls hC hw hS hl => lv_iload_n hC.1 hC.2.1 hd rfl (lv_at hl ps hk) (k p e R s m args below meth c H locs ls hC hw hS hl)
theorem k_aload_n {k0 : Fin 4} {x : Nat} (ps : Nat) (hd : decode Y.2.1 pc = .ok (.aload_n k0, 1)) (hk : lv[ps]? = some ((k0 : Nat), .ref x)) (k : J1 G Y d CM SM K (pc + 1) lv (.ref x :: st) cs cm sm) : J1 G Y d CM SM K pc lv st cs cm sm := fun p e R s m args below meth c H locs ls hC hw hS hl => lv_aload_n hC.1 hC.2.1 hd rfl (lv_at hl ps hk) (k p e R s m args below meth c H locs ls hC hw hS hl)
theorem k_istore_n {k0 : Fin 4} {x : Int32} (hd : decode Y.2.1 pc = .ok (.istore_n k0, 1)) (hn : (k0 : Nat) < Y.2.2.1) (hl2 : ((k0 : Nat), Value.int x) :: lv.filter (fun q => !(q.1 == (k0 : Nat)) && !(q.1 + 1 == (k0 : Nat) && q.2.category == 2)) = lv') (k : J1 G Y d CM SM K (pc + 1) lv' st cs cm sm) : J1 G Y d CM SM K pc lv (.int x :: st) cs cm sm := fun p e R s m args below meth c H locs ls hC hw hS hl => lv_istore_n hC.1 hC.2.1 hd rfl hl hn hl2 (fun ls hl => k p e R s m args below meth c H locs ls hC hw hS hl)
theorem k_istore {i : Nat} {x : Int32} (hd : decode Y.2.1 pc = .ok (.istore i, 2)) (hn : i < Y.2.2.1) (hl2 : (i, Value.int x) :: lv.filter (fun q => !(q.1 == i) && !(q.1 + 1 == i && q.2.category == 2)) = lv') (k : J1 G Y d CM SM K (pc + 2) lv' st cs cm sm) : J1 G Y d CM SM K pc lv (.int x :: st) cs cm sm := fun p e R s m args below meth c H locs ls hC hw hS hl => lv_istore hC.1 hC.2.1 hd hl hn hl2 (fun ls hl => k p e R s m args below meth c H locs ls hC hw hS hl)
theorem k_astore_n {k0 : Fin 4} {x : Nat} (hd : decode Y.2.1 pc = .ok (.astore_n k0, 1)) (hn : (k0 : Nat) < Y.2.2.1) (hl2 : ((k0 : Nat), Value.ref x) :: lv.filter (fun q => !(q.1 == (k0 : Nat)) && !(q.1 + 1 == (k0 : Nat) && q.2.category == 2)) = lv') (k : J1 G Y d CM SM K (pc + 1) lv' st cs cm sm) : J1 G Y d CM SM K pc lv (.ref x :: st) cs cm sm := fun p e R s m args below meth c H locs ls hC hw hS hl => lv_astore_n hC.1 hC.2.1 hd rfl hl hn hl2 (fun ls hl => k p e R s m args below meth c H locs ls hC hw hS hl)
theorem k_astore {i : Nat} {x : Nat} (hd : decode Y.2.1 pc = .ok (.astore i, 2)) (hn : i < Y.2.2.1) (hl2 : (i, Value.ref x) :: lv.filter (fun q => !(q.1 == i) && !(q.1 + 1 == i && q.2.category == 2)) = lv') (k : J1 G Y d CM SM K (pc + 2) lv' st cs cm sm) : J1 G Y d CM SM K pc lv (.ref x :: st) cs cm sm := fun p e R s m args below meth c H locs ls hC hw hS hl => lv_astore hC.1 hC.2.1 hd hl hn hl2 (fun ls hl => k p e R s m args below meth c H locs ls hC hw hS hl)
theorem k_iinc {i : Nat} {n : Int} {x v : Int32} (ps : Nat) (hd : decode Y.2.1 pc = .ok (.iinc i n, 3)) (hk : lv[ps]? = some (i, .int x)) (hv : x + Int32.ofInt n = v) (hn : i < Y.2.2.1) (hl2 : (i, Value.int v) :: lv.filter (fun q => !(q.1 == i) && !(q.1 + 1 == i && q.2.category == 2)) = lv') (k : J1 G Y d CM SM K (pc + 3) lv' st cs cm sm) : J1 G Y d CM SM K pc lv st cs cm sm := fun p e R s m args below meth c H locs ls hC hw hS hl => lv_iinc hC.1 hC.2.1 hd hl hk hv hn hl2 (fun ls hl => k p e R s m args below meth c H locs ls hC hw hS hl)
theorem k_icmp_ge {x y : Int32} {off : Int} (tgt : Nat) (hd : decode Y.2.1 pc = .ok (.if_icmp .ge off, 3)) (ht : (pc : Int) + off = (tgt : Int)) (kt : y ≤ x → J1 G Y d CM SM K tgt lv st cs cm sm) (kf : ¬ y ≤ x → J1 G Y d CM SM K (pc + 3) lv st cs cm sm) : J1 G Y d CM SM K pc lv (.int y :: .int x :: st) cs cm sm := fun p e R s m args below meth c H locs ls hC hw hS hl => lv_icmp_ge hC.1 hC.2.1 hd ht (fun z => kt z p e R s m args below meth c H locs ls hC hw hS hl) (fun z => kf z p e R s m args below meth c H locs ls hC hw hS hl)
theorem k_goto {off : Int} (tgt : Nat) (hd : decode Y.2.1 pc = .ok (.goto off, 3)) (ht : (pc : Int) + off = (tgt : Int)) (k : J1 G Y d CM SM K tgt lv st cs cm sm) : J1 G Y d CM SM K pc lv st cs cm sm := fun p e R s m args below meth c H locs ls hC hw hS hl => lv_goto hC.1 hC.2.1 hd ht (k p e R s m args below meth c H locs ls hC hw hS hl)
theorem k_dup {va : Value} (hd : decode Y.2.1 pc = .ok (.dup, 1)) (hva : va.category = 1) (k : J1 G Y d CM SM K (pc + 1) lv (va :: va :: st) cs cm sm) : J1 G Y d CM SM K pc lv (va :: st) cs cm sm := fun p e R s m args below meth c H locs ls hC hw hS hl => lv_dup hC.1 hC.2.1 hd hva (k p e R s m args below meth c H locs ls hC hw hS hl)
theorem k_ldcS {idx : Nat} {own tx : String} {i : Nat} (hY : Y.1.cls = own) (hw0 : (own, idx, tx, i) ∈ strTab) (hd : decode Y.2.1 pc = .ok (.ldc idx, 2)) (k : J1 G Y d CM SM K (pc + 2) lv (.ref (gK G i) :: st) cs cm sm) : J1 G Y d CM SM K pc lv st cs cm sm := fun p e R s m args below meth c H locs ls hC hw hS hl => va_ldcS hC.1 hC.2.1 (hY ▸ hC.2.2.2.2.2.1) (hC.2.2.2.2.2.2.2.2.1.1.2.2.1 _ hw0) hd (k p e R s m args below meth c H locs ls hC hw hS hl)
theorem k_obj {idx a : Nat} {own : String} (hY : Y.1.cls = own) (hlink : Cond.methodLink own idx objectInit ∈ GW) (hi : Cond.instanceMethod objectInit ∈ GW) (hc : Cond.code objectInit ⟨#[0xb1]⟩ 1 none ∈ GW) (hd1 : 1 ≤ d) (hW : (st.map fun v => v.category).sum ≤ 8) (hd : decode Y.2.1 pc = .ok (.invokespecial idx, 3)) (k : J1 G Y d CM SM K (pc + 3) lv st cs cm sm) : J1 G Y d CM SM K pc lv (.ref a :: st) cs cm sm := by
  intro p e R s m args below meth c H locs ls hC hw hS hl
  have k := k p e R s m args below meth c H locs ls hC hw hS hl
  obtain ⟨hx, hb, hml, hr, hlk, hown, hts, hnm0, ⟨hTT, hAO⟩, hPS, hR1, hR2, hR3, hR4, hB⟩ := hC
  exact W.objInit hx hb (hY ▸ hown) (hts _ hlink) (hts _ hi) (hts _ hc) rfl (by rw [hml]; exact hl.1) rfl hd (by omega) (by have := lv_room (m := m) (pc := pc) (ls := ls) (rest := .ref a :: st) hW; omega) k
theorem k_get {own Cn : String} {T : u_T} {N ci k0 idx r : Nat} {v : Value} {fs : List Value} (hY : Y.1.cls = own) (hin : ∀ w ∈ u_ws Cn T N, w ∈ GW) (hcl : vwCl[ci]? = some (Cn, T, N)) (hk : k0 < N) (hT1 : (T k0).1 = Cn) (hlink : Cond.fieldLink own idx Cn (T k0).2.1 (T k0).2.2.1 ∈ GW) (hc : cs[r]? = some (.inr (ci, fs))) (hv : fs[k0]? = some v) (hd : decode Y.2.1 pc = .ok (.getfield idx, 3)) (k : J1 G Y d CM SM K (pc + 3) lv (v :: st) cs cm sm) : J1 G Y d CM SM K pc lv (.ref (ad G r) :: st) cs cm sm := by
  intro p e R s m args below meth c H locs ls hC hw hS hl
  have k := k p e R s m args below meth c H locs ls hC hw hS hl
  obtain ⟨hx, hb, hml, hr, hlk, hown, hts, hnm0, ⟨hTT, hAO⟩, hPS, hR1, hR2, hR3, hR4, hB⟩ := hC
  exact va_get hx hb hts hin (hY ▸ hown) hTT.1 hw.1 r (wc_at G hc) hcl k0 hk (hts _ hlink) (by rw [hT1]; exact fun x z => z) hv hd k
theorem pw_set {H H1 : Heap} {r : Nat} {c : va_E} (hs : (cs.set r c) = cs') (hP : va_P (gD G) vwCl ((wsC G cs).set r (ad G r, c)) H1) (hz : H1.size = H.size) (hw : PW G cs H) : PW G cs' H1 := by
  rw [wc_set, hs] at hP
  exact ⟨hP, by rw [hz, hw.2, ← hs, List.length_set]⟩

theorem k_put {own Cn : String} {T : u_T} {N ci k0 idx r : Nat} {v : Value} {ty : FieldType} {fs : List Value} (ty0 : Nat → FieldType) (hY : Y.1.cls = own) (hin : ∀ w ∈ u_ws Cn T N, w ∈ GW) (hty : ∀ k, k < N → parseFieldDescriptor (T k).2.2.1 = some (ty0 k)) (hnm : ∀ a, a < N → ∀ b, b < N → a ≠ b → (T a).2.1 ≠ (T b).2.1) (hcl : vwCl[ci]? = some (Cn, T, N)) (hk : k0 < N) (hT1 : (T k0).1 = Cn) (hfin : (T k0).2.2.2 = false) (hlink : Cond.fieldLink own idx Cn (T k0).2.1 (T k0).2.2.1 ∈ GW) (hc : cs[r]? = some (.inr (ci, fs))) (hdt : parseFieldDescriptor (T k0).2.2.1 = some ty) (hn : narrow ty v = v) (hfit : fits ty v = true) (hlen : k0 < fs.length) (hset : cs.set r (.inr (ci, fs.set k0 v)) = cs') (hd : decode Y.2.1 pc = .ok (.putfield idx, 3)) (k : J1 G Y d CM SM K (pc + 3) lv st cs' cm sm) : J1 G Y d CM SM K pc lv (v :: .ref (ad G r) :: st) cs cm sm := by
  intro p e R s m args below meth c H locs ls hC hw hS0 hl
  have k := fun H1 locs1 w1 s1 => k p e R s m args below meth c H1 locs1 ls hC w1 s1 hl
  obtain ⟨hx, hb, hml, hr0, hlk, hown, hts, hnm0, ⟨hTT, hAO⟩, hPS, hR1, hR2, hR3, hR4, hB⟩ := hC
  have hown := hY ▸ hown
  have hap := va_apart (own := own) hts hin ty0 hty hnm hTT.1 hcl
  have he := wc_at G hc
  obtain ⟨r9, h1, cell, q1, q2, q3, q4⟩ := hw.1 r _ he
  have hr9 : r9 = (Cn, T, N) := Option.some.inj (h1.symm.trans hcl)
  subst hr9
  obtain ⟨hS, hfc, kC, hkC, hkind⟩ := hTT.1.1 ci _ hcl
  obtain ⟨cf, kf, fi, f, hi, hsl⟩ := hS k0 hk
  have hlay := hts _ (hin _ (u_in_lay hk))
  unfold u_lay at hlay
  rw [if_neg (by rw [hfin]; decide)] at hlay
  have hst := (u_facts hfc hkC (u_lays hts hin hk) hi).1
  have h6 := u_store hfc hkC hkind hlay hi hdt hn hfit
  refine W.putK hx hb (f := f) ⟨hown, hts _ hlink, ⟨_, _, _, (by rw [hT1] at hi; exact hi)⟩, hst⟩ (by rw [q2]; exact h6) q1 q3 (by rw [hsl]; exact k2_hasslot (q4 k0 hk)) rfl rfl hd fun H' e1 e2 e3 => ?_
  rw [hsl] at e1 ⊢
  exact k H' _ (pw_set hset (hw.1.set (wc_D G cs) he ⟨_, hcl, t_OB.to (V := updV (vp_V fs) k0 v) ⟨_, e1, q2, q3, t_set q4 hap hk v⟩ (fun j _ => vp_updV_set hlen v j)⟩ e3) e2 hw) (hS0.put e2 e3 ((wc_D G cs).2 r _ he))

theorem k_putF {own Cn : String} {T : u_T} {N ci k0 idx r : Nat} {v : Value} {ty : FieldType} {fs : List Value} (ty0 : Nat → FieldType) (hY : Y.1.cls = own) (hin : ∀ w ∈ u_ws Cn T N, w ∈ GW) (hty : ∀ k, k < N → parseFieldDescriptor (T k).2.2.1 = some (ty0 k)) (hnm : ∀ a, a < N → ∀ b, b < N → a ≠ b → (T a).2.1 ≠ (T b).2.1) (hcl : vwCl[ci]? = some (Cn, T, N)) (hk : k0 < N) (hT1 : (T k0).1 = Cn) (hfin : (T k0).2.2.2 = true) (hown1 : own = Cn) (hini : Y.1.name = "<init>") (hlink : Cond.fieldLink own idx Cn (T k0).2.1 (T k0).2.2.1 ∈ GW) (hc : cs[r]? = some (.inr (ci, fs))) (hdt : parseFieldDescriptor (T k0).2.2.1 = some ty) (hn : narrow ty v = v) (hfit : fits ty v = true) (hlen : k0 < fs.length) (hset : cs.set r (.inr (ci, fs.set k0 v)) = cs') (hd : decode Y.2.1 pc = .ok (.putfield idx, 3)) (k : J1 G Y d CM SM K (pc + 3) lv st cs' cm sm) : J1 G Y d CM SM K pc lv (v :: .ref (ad G r) :: st) cs cm sm := by
  intro p e R s m args below meth c H locs ls hC hw hS0 hl
  have k := fun H1 locs1 w1 s1 => k p e R s m args below meth c H1 locs1 ls hC w1 s1 hl
  obtain ⟨hx, hb, hml, hr0, hlk, hown, hts, hnm0, ⟨hTT, hAO⟩, hPS, hR1, hR2, hR3, hR4, hB⟩ := hC
  have hown := hY ▸ hown
  have hap := va_apart (own := own) hts hin ty0 hty hnm hTT.1 hcl
  have he := wc_at G hc
  obtain ⟨r9, h1, cell, q1, q2, q3, q4⟩ := hw.1 r _ he
  have hr9 : r9 = (Cn, T, N) := Option.some.inj (h1.symm.trans hcl)
  subst hr9
  obtain ⟨hS, hfc, kC, hkC, hkind⟩ := hTT.1.1 ci _ hcl
  obtain ⟨cf, kf, fi, f, hi, hsl⟩ := hS k0 hk
  have hlay := hts _ (hin _ (u_in_lay hk))
  unfold u_lay at hlay
  rw [if_pos hfin] at hlay
  have hst := (u_facts hfc hkC (u_lays hts hin hk) hi).1
  have hcf : m.cls = cf := by
    obtain ⟨_, _, c', _, _, _, -, -, hf', -, -, -, hown2, -⟩ := Cond.laysFinal_spec hlay
    have e1 : c' = cf := by have := hi.symm.trans hf'; simp at this; exact this.1.symm
    rw [hT1, ← hown1] at hown2
    rw [← e1]; exact Option.some.inj (hown.symm.trans hown2)
  have h6 := u_fits hfc hkC hkind (Or.inr hlay) hi hdt hn hfit
  refine W.putFinK hx hb hown (hts _ hlink) (by rw [hT1] at hi; exact hi) hst hcf (hnm0.trans hini) (by rw [q2]; exact h6) q1 q3 (by rw [hsl]; exact k2_hasslot (q4 k0 hk)) rfl rfl hd fun H' e1 e2 e3 => ?_
  rw [hsl] at e1 ⊢
  exact k H' _ (pw_set hset (hw.1.set (wc_D G cs) he ⟨_, hcl, t_OB.to (V := updV (vp_V fs) k0 v) ⟨_, e1, q2, q3, t_set q4 hap hk v⟩ (fun j _ => vp_updV_set hlen v j)⟩ e3) e2 hw) (hS0.put e2 e3 ((wc_D G cs).2 r _ he))

theorem pw_push {H H1 : Heap} {c : va_E} (hw : PW G cs H) (ho : ∀ q, q < H.size → H1[q]? = H[q]?) (hz : H1.size = H.size + 1) (hc : va_at (gD G) vwCl (H.size, c) H1) (hcs : cs ++ [c] = cs') : PW G cs' H1 := by
  subst hcs
  refine ⟨?_, by rw [hz, hw.2, List.length_append]; rfl⟩
  rw [wc_push]
  have hk : ∀ (k : Nat) (x : Nat × va_E), (wsC G cs)[k]? = some x → H1[x.1]? = H[x.1]? := fun k x hx => ho x.1 ((hw.1 k x hx).lt)
  refine (hw.1.kept hk).app (fun k x hx => ?_)
  have hz9 : k < 1 := (List.getElem?_eq_some_iff.mp hx).1
  rw [show k = 0 by omega] at hx
  cases hx
  have e : ad G cs.length = H.size := hw.2.symm
  rw [e]
  exact hc
theorem s_push {s : State} {H H1 : Heap} {locs : List Loc} (hS : va_S (AA G) s.heap H locs) (ho : ∀ q, q < H.size → H1[q]? = H[q]?) (hz : H1.size = H.size + 1) : va_S (AA G) s.heap H1 locs := ⟨Nat.le_trans hS.1 (by omega), fun x h1 h2 => (ho x (Nat.lt_of_lt_of_le h1 hS.1)).trans (hS.2.1 x h1 h2), hS.2.2⟩
theorem k_new {own Cn : String} {T : u_T} {N ci idx : Nat} {fs : List Value} (ty0 : Nat → FieldType) (hY : Y.1.cls = own) (hin : ∀ w ∈ u_ws Cn T N, w ∈ GW) (hty : ∀ k, k < N → parseFieldDescriptor (T k).2.2.1 = some (ty0 k)) (hcl : vwCl[ci]? = some (Cn, T, N)) (hlink : Cond.classLink own idx Cn ∈ GW) (hinst : Cond.instantiable Cn N ∈ GW) (hini : Cond.initialized Cn ∈ GW) (hfs : ∀ j, j < N → defaultValue (ty0 j) = vp_V fs j) (hc1 : cm + 1 ≤ CM) (hc2 : sm + N ≤ SM) (hcs : cs ++ [.inr (ci, fs)] = cs') (hd : decode Y.2.1 pc = .ok (.new idx, 3)) (k : J1 G Y d CM SM K (pc + 3) lv (.ref (ad G cs.length) :: st) cs' (cm + 1) (sm + N)) : J1 G Y d CM SM K pc lv st cs cm sm := by
  intro p e R s m args below meth c H locs ls hC hw hS hl
  have k := fun H1 w1 s1 => k p e R s m args below meth c H1 locs ls hC w1 s1 hl
  obtain ⟨hx, hb, hml, hr0, hlk, hown, hts, hnm0, ⟨hTT, hAO⟩, hPS, hR1, hR2, hR3, hR4, hB⟩ := hC
  have hKn := hTT.1.1 ci _ hcl
  have ez : ad G cs.length = H.size := hw.2.symm
  rw [ez] at k
  refine W.newcK hx hb (hY ▸ hown) (hts _ hlink) (hts _ hinst) (hts _ hini) rfl hd (by omega) (by omega) hKn.2.1 rfl fun H1 kC hkC e1 z1 o1 => ?_
  exact k H1 (pw_push (c := .inr (ci, fs)) hw o1 z1 ⟨_, hcl, (u_born ty0 hts hin hKn hkC e1 hty).to hfs⟩ hcs) (s_push hS o1 z1)
theorem k_newI {n : Int32} {N : Nat} (hn : ¬ n < 0) (hN : n.toNatClampNeg = N) (hbytes : N * 4 ≤ 536870912) (hc1 : cm + 1 ≤ CM) (hc2 : sm + N ≤ SM) (hcs : cs ++ [.inl (gA G 0, N, .inl (fun _ => 0))] = cs') (hd : decode Y.2.1 pc = .ok (.newarray .int, 2)) (k : J1 G Y d CM SM K (pc + 2) lv (.ref (ad G cs.length) :: st) cs' (cm + 1) (sm + N)) : J1 G Y d CM SM K pc lv (.int n :: st) cs cm sm := by
  intro p e R s m args below meth c H locs ls hC hw hS hl
  have k := fun H1 w1 s1 => k p e R s m args below meth c H1 locs ls hC w1 s1 hl
  obtain ⟨hx, hb, hml, hr0, hlk, hown, hts, hnm0, ⟨hTT, hAO⟩, hPS, hR1, hR2, hR3, hR4, hB⟩ := hC
  have ez : ad G cs.length = H.size := hw.2.symm
  rw [ez] at k
  refine va_newaK hx hb (atype := .int) (hts _ ka_1_79) rfl hd rfl hn hN hbytes (by omega) (by omega) rfl fun H1 cA e1 z1 o1 hAr hNm => ?_
  have hA0 : cA = gA G 0 := Option.some.inj (hNm.symm.trans (hTT.1.2 0 _ rfl).2)
  subst hA0
  exact k H1 (pw_push hw o1 z1 (by show H1[H.size]? = some (vp_cell _ _); rw [vp_cell_i]; exact e1) hcs) (s_push hS o1 z1)
theorem k_newJ {n : Int32} {N : Nat} (hn : ¬ n < 0) (hN : n.toNatClampNeg = N) (hbytes : N * 8 ≤ 536870912) (hc1 : cm + 1 ≤ CM) (hc2 : sm + N ≤ SM) (hcs : cs ++ [.inl (gA G 1, N, .inr (.inl (fun _ => 0)))] = cs') (hd : decode Y.2.1 pc = .ok (.newarray .long, 2)) (k : J1 G Y d CM SM K (pc + 2) lv (.ref (ad G cs.length) :: st) cs' (cm + 1) (sm + N)) : J1 G Y d CM SM K pc lv (.int n :: st) cs cm sm := by
  intro p e R s m args below meth c H locs ls hC hw hS hl
  have k := fun H1 w1 s1 => k p e R s m args below meth c H1 locs ls hC w1 s1 hl
  obtain ⟨hx, hb, hml, hr0, hlk, hown, hts, hnm0, ⟨hTT, hAO⟩, hPS, hR1, hR2, hR3, hR4, hB⟩ := hC
  have ez : ad G cs.length = H.size := hw.2.symm
  rw [ez] at k
  refine va_newaK hx hb (atype := .long) (hts _ ka_7_6) rfl hd rfl hn hN hbytes (by omega) (by omega) rfl fun H1 cA e1 z1 o1 hAr hNm => ?_
  have hA0 : cA = gA G 1 := Option.some.inj (hNm.symm.trans (hTT.1.2 1 _ rfl).2)
  subst hA0
  exact k H1 (pw_push hw o1 z1 (by show H1[H.size]? = some (vp_cell _ _); rw [vp_cell_l]; exact e1) hcs) (s_push hS o1 z1)
theorem k_anew {own Cn : String} {idx t0 : Nat} {cA0 : ClassId} {n : Int32} {N : Nat} (hY : Y.1.cls = own) (hlink : Cond.classLink own idx Cn ∈ GW) (hover : Cn ∈ aoTab) (ht : (tys G)[t0]? = some (cA0, .object Cn)) (hn : ¬ n < 0) (hN : n.toNatClampNeg = N) (hbytes : N * 4 ≤ 536870912) (hc1 : cm + 1 ≤ CM) (hc2 : sm + N ≤ SM) (hcs : cs ++ [.inl (cA0, N, .inr (.inr (.inr (.inr (fun _ => none)))))] = cs') (hd : decode Y.2.1 pc = .ok (.anewarray idx, 3)) (k : J1 G Y d CM SM K (pc + 3) lv (.ref (ad G cs.length) :: st) cs' (cm + 1) (sm + N)) : J1 G Y d CM SM K pc lv (.int n :: st) cs cm sm := by
  intro p e R s m args below meth c H locs ls hC hw hS hl
  have k := fun H1 w1 s1 => k p e R s m args below meth c H1 locs ls hC w1 s1 hl
  obtain ⟨hx, hb, hml, hr0, hlk, hown, hts, hnm0, ⟨hTT, hAO⟩, hPS, hR1, hR2, hR3, hR4, hB⟩ := hC
  have ez : ad G cs.length = H.size := hw.2.symm
  rw [ez] at k
  subst hN
  refine W.anew hx hb (hY ▸ hown) (hts _ hlink) (va_AO.use (hAO _ hover)) rfl hd rfl hn hbytes (by omega) (by omega) fun cA kA comp f1 f2 f3 f4 => ?_
  generalize hH1 : H.push ({ cls := cA, slots := Array.replicate n.toNatClampNeg .null, vm := .none } : Cell) = H1
  have z1 : H1.size = H.size + 1 := by rw [← hH1, Array.size_push]
  have e1 : H1[H.size]? = some (arrV cA n.toNatClampNeg (fun _ => .null)) := by rw [← hH1, Array.getElem?_push_size, ← arrV_new]
  have o1 : ∀ q : Nat, q < H.size → H1[q]? = H[q]? := fun q hq => by rw [← hH1, Array.getElem?_push, if_neg (Nat.ne_of_lt hq)]
  obtain ⟨kA9, comp9, w1, w2, w3, w4⟩ := (hTT.1.2 t0 _ ht).2
  have hA0 : cA = cA0 := Option.some.inj (f1.symm.trans w4)
  subst hA0
  exact k H1 (pw_push hw o1 z1 (by show H1[H.size]? = some (vp_cell _ _); rw [vp_cell_q]; exact e1) hcs) (s_push hS o1 z1)
theorem k_iast {r n : Nat} {cA : ClassId} {f : Nat → Int32} {i x : Int32} (hA : cA = gA G 0) (hc : cs[r]? = some (.inl (cA, n, .inl f))) (hin : vp_in i n) (hset : cs.set r (.inl (cA, n, .inl (upd f i.toNatClampNeg x))) = cs') (hd : decode Y.2.1 pc = .ok (.iastore, 1)) (k : J1 G Y d CM SM K (pc + 1) lv st cs' cm sm) : J1 G Y d CM SM K pc lv (.int x :: .int i :: .ref (ad G r) :: st) cs cm sm := by
  intro p e R s m args below meth c H locs ls hC hw hS hl
  have k := fun H1 locs1 w1 s1 => k p e R s m args below meth c H1 locs1 ls hC w1 s1 hl
  obtain ⟨hx, hb, hml, hr0, hlk, hown, hts, hnm0, ⟨hTT, hAO⟩, hPS, hR1, hR2, hR3, hR4, hB⟩ := hC
  subst hA
  have ha := wc_at G hc
  refine W.iast hx hb (hw.1 r _ ha) ((hTT.1.2 0 _ rfl).1 n (fun j => .int (f j))) (fun q => by cases q) (by show ¬ (i < 0 ∨ (arrV _ _ _).slots.size ≤ _); rw [arrV_size]; exact hin) rfl rfl hd fun H1 e z oq => ?_
  refine k H1 _ (pw_set hset (hw.1.set (wc_D G cs) ha ?_ oq) z hw) (hS.put z oq ((wc_D G cs).2 r _ ha))
  show H1[ad G r]? = some (vp_cell _ _)
  rw [e, vp_cell_i, vp_cell_i, arrV_store]
  congr 2
  funext q
  by_cases hq : q = i.toNatClampNeg
  · subst hq
    simp [updV, upd]
  · simp [updV, upd, hq]
theorem k_aast {r n t0 v ci : Nat} {cA : ClassId} {q0 : vw_C} {vs : List Value} {f : Nat → Option Nat} {i : Int32} (ht : (tys G)[t0]? = some (cA, .object q0.1)) (hc : cs[r]? = some (.inl (cA, n, .inr (.inr (.inr (.inr f)))))) (hv : cs[v]? = some (.inr (ci, vs))) (hcl : vwCl[ci]? = some q0) (hin : vp_in i n) (hset : cs.set r (.inl (cA, n, .inr (.inr (.inr (.inr (va_up f i.toNatClampNeg (some (ad G v)))))))) = cs') (hd : decode Y.2.1 pc = .ok (.aastore, 1)) (k : J1 G Y d CM SM K (pc + 1) lv st cs' cm sm) : J1 G Y d CM SM K pc lv (.ref (ad G v) :: .int i :: .ref (ad G r) :: st) cs cm sm := by
  intro p e R s m args below meth c H locs ls hC hw hS hl
  have k := fun H1 locs1 w1 s1 => k p e R s m args below meth c H1 locs1 ls hC w1 s1 hl
  obtain ⟨hx, hb, hml, hr0, hlk, hown, hts, hnm0, ⟨hTT, hAO⟩, hPS, hR1, hR2, hR3, hR4, hB⟩ := hC
  have ha := wc_at G hc
  have hlt : i.toNatClampNeg < n := Nat.not_le.mp fun q => hin (Or.inr q)
  have h0 : ¬ i < 0 := fun q => hin (Or.inl q)
  obtain ⟨r', hr', cellV, g1, g2, g3, -⟩ := hw.1 v _ (wc_at G hv)
  have hcls := (hTT.1.1 ci q0 hcl).2
  obtain ⟨kA, comp, k1, k2, k3, -⟩ := (hTT.1.2 t0 _ ht).2
  have hcomp : comp = (gD G).1 ci := Option.some.inj (k3.symm.trans hcls.1)
  subst hcomp
  obtain ⟨kC, hkC, -⟩ := hcls.2
  refine W.aast hx hb (hw.1 r _ ha) (fun q h => by cases h) (fun h => by cases h) k1 k2 rfl hkC ⟨h0, by show _ < (arrV _ _ _).slots.size; rw [arrV_size]; exact hlt⟩ g1 (fun q h => by rw [g3] at h; cases h) (by rw [g2]; exact hkC) (by rw [g2]; exact va_assign hcls) rfl rfl hd fun H1 e z oq => ?_
  refine k H1 _ (pw_set hset (hw.1.set (wc_D G cs) ha ?_ oq) z hw) (hS.put z oq ((wc_D G cs).2 r _ ha))
  show H1[ad G r]? = some (vp_cell _ _)
  rw [e, vp_cell_q, vp_cell_q, arrV_store]
  congr 2
  funext q
  by_cases hq : q = i.toNatClampNeg
  · subst hq
    simp [updV, va_up, va_rf]
  · simp [updV, va_up, hq]
theorem k_aastS {r n j : Nat} {cA : ClassId} {f : Nat → Option Nat} {i : Int32} (hA : cA = gA G 4) (hj : j < 35) (hc : cs[r]? = some (.inl (cA, n, .inr (.inr (.inr (.inr f)))))) (hin : vp_in i n) (hset : cs.set r (.inl (cA, n, .inr (.inr (.inr (.inr (va_up f i.toNatClampNeg (some (gK G j)))))))) = cs') (hd : decode Y.2.1 pc = .ok (.aastore, 1)) (k : J1 G Y d CM SM K (pc + 1) lv st cs' cm sm) : J1 G Y d CM SM K pc lv (.ref (gK G j) :: .int i :: .ref (ad G r) :: st) cs cm sm := by
  intro p e R s m args below meth c H locs ls hC hw hS hl
  have k := fun H1 locs1 w1 s1 => k p e R s m args below meth c H1 locs1 ls hC w1 s1 hl
  obtain ⟨hx, hb, hml, hr0, hlk, hown, hts, hnm0, ⟨hTT, hAO⟩, hPS, hR1, hR2, hR3, hR4, hB⟩ := hC
  subst hA
  have ha := wc_at G hc
  have hlt : i.toNatClampNeg < n := Nat.not_le.mp fun q => hin (Or.inr q)
  have h0 : ¬ i < 0 := fun q => hin (Or.inl q)
  obtain ⟨cellV, g1, g3, g4, -⟩ := (hPS.1 j hj).1.kept hS.2.1
  obtain ⟨kA, comp, k1, k2, k3, -⟩ := (hTT.1.2 4 _ rfl).2
  obtain ⟨kE, hkE, -⟩ := Vm.findClass_spec k3
  have hce : comp = cellV.cls := Option.some.inj (k3.symm.trans g4)
  refine W.aast hx hb (hw.1 r _ ha) (fun q h => by cases h) (fun h => by cases h) k1 k2 rfl hkE ⟨h0, by show _ < (arrV _ _ _).slots.size; rw [arrV_size]; exact hlt⟩ g1 (fun q h => by rw [h] at g3; cases g3) (by rw [← hce]; exact hkE) (by rw [← hce]; exact va_asg _ _) rfl rfl hd fun H1 e z oq => ?_
  refine k H1 _ (pw_set hset (hw.1.set (wc_D G cs) ha ?_ oq) z hw) (hS.put z oq ((wc_D G cs).2 r _ ha))
  show H1[ad G r]? = some (vp_cell _ _)
  rw [e, vp_cell_q, vp_cell_q, arrV_store]
  congr 2
  funext q
  by_cases hq : q = i.toNatClampNeg
  · subst hq
    simp [updV, va_up, va_rf]
  · simp [updV, va_up, hq]
theorem k_alen {r n : Nat} {f : Nat → Int32} (hc : cs[r]? = some (.inl (gA G 0, n, .inl f))) (hd : decode Y.2.1 pc = .ok (.arraylength, 1)) (k : J1 G Y d CM SM K (pc + 1) lv (.int (Int32.ofNat n) :: st) cs cm sm) : J1 G Y d CM SM K pc lv (.ref (ad G r) :: st) cs cm sm := by
  intro p e R s m args below meth c H locs ls hC hw hS hl
  have k := k p e R s m args below meth c H locs ls hC hw hS hl
  obtain ⟨hx, hb, hml, hr0, hlk, hown, hts, hnm0, ⟨hTT, hAO⟩, hPS, hR1, hR2, hR3, hR4, hB⟩ := hC
  exact va_alen hx hb hTT.1 hw.1 r 0 (wc_at G hc) (ty := .int) rfl rfl hd k
theorem k_ret (hc1 : cm ≤ CM) (hc2 : sm ≤ SM) (hd : decode Y.2.1 pc = .ok (.return_, 1)) (hr9 : Y.2.2.2 = none) : J1 G Y d CM SM (K1 G CM SM cs) pc lv [] cs cm sm := by
  intro p e R s m args below meth c H locs ls hC hw hS hl
  obtain ⟨hx, hb, hml, hr0, hlk, hown, hts, hnm0, ⟨hTT, hAO⟩, hPS, hR1, hR2, hR3, hR4, hB⟩ := hC
  refine W.widen (k := CM) (n := SM) hc1 hc2 ?_
  exact W.vret hx hb (hr0.trans hr9) (fun t ht hW => ⟨rfl, by rw [ht]; exact hw, hS.F ht⟩) hS.2.2 hd
theorem sp1_of {avs : List Value} (hp : plainFor Y.1 = true) (hlen : (lg_sl avs).length ≤ Y.2.2.1) (body : J1 G Y d CM SM (K1 G CM SM cs') 0 (lv_args 0 avs) [] cs 0 0) : Sp1 G d CM SM Y avs cs cs' := by
  refine va_MetF (cc := Y.2.1) (maxL := Y.2.2.1) (ret := Y.2.2.2) hp rfl ?_
  intro p e s m args below meth c s₁ B hml hv
  obtain ⟨rfl, hT, hPS, hw⟩ := hv
  have hts := atoms_spec (ws := wsy Y) B.pre
  rw [lg_entry_eq]
  exact body p e _ s m _ below meth c s.heap [] _ ⟨B.exec, B.bytes, hml, B.returns, B.notSynchronized, findClass_of_methodNamed B.named, fun w hw => hts w (List.mem_cons_of_mem _ hw), (name_of_methodNamed B.named B.method).1, hT, hPS, Nat.le_refl _, Nat.le_refl _, Nat.le_refl _, Nat.le_refl _, by rw [hw.2]; omega, tab_of B (fun w hw => hts w (List.mem_cons_of_mem _ hw))⟩ hw va_S.rf (lv_entry avs hlen)
theorem w1_now {p : Program} {R : Room} {s : State} {m : MethodId} {args : Array Value} {meth : Method} {c : Code} {H : Heap} {locs : List Loc} (hT : WT1 G s) (hPS : PS G s s.heap) (hw : PW G cs H) (hS : va_S (AA G) s.heap H locs) {U : State} (hU : U.heap = H) (hW : s.WarmedH U.vm) : W1 G cs U :=
  ⟨WT1.warm hW hT, by rw [hU]; exact PS.moved hW.alike (PS.kept hPS hS.1 hS.2.1), by rw [hU]; exact hw⟩
theorem w1_blind (G : GG) (avs : List Value) (cs : List va_E) : FrameBlind (va_Pc avs (W1 G cs)) := fun a U g mk q => ⟨q.1, WT1.warm (State.WarmedH.refl U) q.2.1, PS.moved (Vm.Alike.refl U.vm) q.2.2.1, q.2.2.2⟩
theorem k_back {p : Program} {e : Env} {R : Room} {s : State} {m : MethodId} {args : Array Value} {below : List Frame} {meth : Method} {c : Code} {H : Heap} {locs : List Loc} {ls : Array Slot} {a : Array Value} {c1 s1 : Nat} (hr : va_Run p (gL G) e R s m args below meth c H locs cm sm c1 s1 (F0 m pc ls st) rest (Q1 G cs' a) (AA G)) (hC : JC1 G Y d CM SM p R s m args meth c) (hS : va_S (AA G) s.heap H locs) (hl : lv_has ls Y.2.2.1 lv)
    (kk : J1 G Y d CM SM K (pc + 3) lv rest cs' (cm + c1) (sm + s1)) : W p (gL G) e R s m args below meth c H locs cm sm (K below args s) (F0 m pc ls st) := by
  intro T hT X
  obtain ⟨v, st₀, t, T', L, h0, X', hL, e1, e2, ⟨hv, hw', hFr⟩, st1⟩ := hr T hT X
  cases hv
  obtain ⟨t2, a1, b1⟩ := kk p e R s m args below meth c T'.heap (locs ++ L) ls hC (by rw [e1]; exact hw') (s_more hS h0 e1 hFr hL) hl T' rfl X'
  exact ⟨t2, st1 t2 a1, b1⟩
theorem k_callI {own : String} {idx r c1 s1 : Nat} (hs : Sp1 G d' c1 s1 Y' [.ref (ad G r)] cs cs') (hY : Y.1.cls = own) (hcode : Cond.code Y'.1 Y'.2.1 Y'.2.2.1 none ∈ GW) (hret : Y'.2.2.2 = none) (hini : Cond.initialized Y'.1.cls ∈ GW) (hlink : Cond.methodLink own idx Y'.1 ∈ GW) (hinst : Cond.instanceMethod Y'.1 ∈ GW) (hnm : Y'.1.name = "<init>") (hmh : Y'.1.cls ≠ "java/lang/invoke/MethodHandle" ∧ Y'.1.cls ≠ "java/lang/invoke/VarHandle" ∧ (parseMethodDescriptor Y'.1.desc).map (fun d => d.parameters.length) = some 0) (hml : Y'.2.2.1 ≤ 21) (hdd : d' + 1 ≤ d) (hst : st = .ref (ad G r) :: rest) (hW : (rest.map fun v => v.category).sum ≤ 8) (hc1 : cm + c1 ≤ CM) (hc2 : sm + s1 ≤ SM) (hd : decode Y.2.1 pc = .ok (.invokespecial idx, 3))
    (kk : J1 G Y d CM SM K (pc + 3) lv rest cs' (cm + c1) (sm + s1)) : J1 G Y d CM SM K pc lv st cs cm sm := by
  intro p e R s m args below meth c H locs ls hC hw hS hl
  have hC0 := hC
  obtain ⟨hx, hb, hml0, hr0, hlk, hown, hts, hnm0, ⟨hTT, hAO⟩, hPS, hR1, hR2, hR3, hR4, hB⟩ := hC
  refine k_back (va_runI (As := []) (rest := rest) ⟨hx, hb, hml0, hY ▸ hown, hts⟩ hs (cwI (R := R) (ws' := GW) 0 hts (gi_code (Y := Y') (by rw [hret]; exact hcode)) (by unfold wsy; rw [hret]) rfl rfl (hts _ hini) (hts _ hlink) (hts _ hinst) hnm hmh ⟨?_, ?_⟩) ⟨w1_blind G _ cs, fun U hU hWm => ⟨rfl, w1_now (p := p) (R := R) (m := m) (args := args) (meth := meth) (c := c) ⟨hTT, hAO⟩ hPS hw hS hU hWm⟩⟩ rfl rfl hl.1 hst (lv_room hW) hd ⟨by omega, by omega⟩) hC0 hS hl kk
  · show d' + 1 ≤ R.frames; omega
  · show 8 + (Y'.2.2.1 + 11) + 40 * d' ≤ R.locals; omega
theorem k_callIN {own host : String} {idx r c1 s1 : Nat} (hs : Sp1 G d' c1 s1 Y' [.ref (ad G r)] cs cs') (hY : Y.1.cls = own) (hcode : Cond.code Y'.1 Y'.2.1 Y'.2.2.1 none ∈ GW) (hret : Y'.2.2.2 = none) (hini : Cond.initialized Y'.1.cls ∈ GW) (hlink : (own, idx, Y'.1, host) ∈ nestTab) (hinst : Cond.instanceMethod Y'.1 ∈ GW) (hnm : Y'.1.name = "<init>") (hmh : Y'.1.cls ≠ "java/lang/invoke/MethodHandle" ∧ Y'.1.cls ≠ "java/lang/invoke/VarHandle" ∧ (parseMethodDescriptor Y'.1.desc).map (fun d => d.parameters.length) = some 0) (hml : Y'.2.2.1 ≤ 21) (hdd : d' + 1 ≤ d) (hst : st = .ref (ad G r) :: rest) (hW : (rest.map fun v => v.category).sum ≤ 8) (hc1 : cm + c1 ≤ CM) (hc2 : sm + s1 ≤ SM) (hd : decode Y.2.1 pc = .ok (.invokespecial idx, 3))
    (kk : J1 G Y d CM SM K (pc + 3) lv rest cs' (cm + c1) (sm + s1)) : J1 G Y d CM SM K pc lv st cs cm sm := by
  intro p e R s m args below meth c H locs ls hC hw hS hl
  have hC0 := hC
  obtain ⟨hx, hb, hml0, hr0, hlk, hown, hts, hnm0, ⟨hTT, hAO⟩, hPS, hR1, hR2, hR3, hR4, hB⟩ := hC
  refine k_back (va_runIN (host := host) (As := []) (rest := rest) ⟨hx, hb, hml0, hY ▸ hown, hts⟩ hs ⟨va_cnB (R := R) (ret := none) (ws' := GW) 0 hts (gi_code (Y := Y') (by rw [hret]; exact hcode)) (by unfold wsy; rw [hret]) rfl rfl (hTT.2.1 _ hlink) (hts _ hini) hmh ⟨?_, ?_⟩, hnm, hts _ hinst⟩ ⟨w1_blind G _ cs, fun U hU hWm => ⟨rfl, w1_now (p := p) (R := R) (m := m) (args := args) (meth := meth) (c := c) ⟨hTT, hAO⟩ hPS hw hS hU hWm⟩⟩ rfl rfl hl.1 hst (lv_room hW) hd ⟨by omega, by omega⟩) hC0 hS hl kk
  · show d' + 1 ≤ R.frames; omega
  · show 8 + (Y'.2.2.1 + 11) + 40 * d' ≤ R.locals; omega
theorem k_callS {own : String} {idx na : Nat} {As : List Value} (hs : Sp1 G d' 0 0 Y' As cs cs') (hcv : CS own idx Y' na) (hY : Y.1.cls = own) (hdd : d' + 1 ≤ d) (hAs : As.length = na) (hst : st = As.reverse ++ rest) (hW : (rest.map fun v => v.category).sum ≤ 8) (hc1 : cm ≤ CM) (hc2 : sm ≤ SM) (hd : decode Y.2.1 pc = .ok (.invokestatic idx, 3))
    (kk : J1 G Y d CM SM K (pc + 3) lv rest cs' cm sm) : J1 G Y d CM SM K pc lv st cs cm sm := by
  intro p e R s m args below meth c H locs ls hC hw hS hl
  have hC0 := hC
  obtain ⟨hx, hb, hml0, hr0, hlk, hown, hts, hnm0, ⟨hTT, hAO⟩, hPS, hR1, hR2, hR3, hR4, hB⟩ := hC
  obtain ⟨g1, g2, g3⟩ := hcv
  refine k_back (c1 := 0) (s1 := 0) (va_runS (As := As) (rest := rest) ⟨hx, hb, hml0, hY ▸ hown, hts⟩ hs (va_cwS (R := R) (ws' := GW) na hts g1 rfl rfl rfl g2 ⟨?_, ?_⟩) ⟨w1_blind G _ cs, fun U hU hWm => ⟨rfl, w1_now (p := p) (R := R) (m := m) (args := args) (meth := meth) (c := c) ⟨hTT, hAO⟩ hPS hw hS hU hWm⟩⟩ rfl hAs hl.1 hst (lv_room hW) hd ⟨by omega, by omega⟩) hC0 hS hl kk
  · show d' + 1 ≤ R.frames; omega
  · show 8 + (Y'.2.2.1 + 11) + 40 * d' ≤ R.locals; omega

end CT
