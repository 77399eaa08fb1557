theorem st_str {s : State} {args : Array Value} (hn : ∀ w ∈ nrw, w.before args s = true) {A : Nat → Prop} (hA : ∀ a : Nat, a < s.heap.size → ¬ A a) :
    ∃ adK adV : Nat → Nat, ∀ i : Nat, i < 35 → (tmS i).eval args s none [] s = some (.ref (adK i)) ∧ va_O "java/lang/String" (adK i) A s s.heap ∧ va_OF "java/lang/String" "coder" "B" (.int 0) (adK i) A s s.heap ∧ va_OF "java/lang/String" "value" "[B" (.ref (adV i)) (adK i) A s s.heap ∧ va_T .byte (adV i) (strLen.getD i 0) (fun j => .int ((strByt.getD i []).getD j 0)) A s s.heap := by
  have h0 : ∀ i : Nat, ∃ q : Nat × Nat, i < 35 → (tmS i).eval args s none [] s = some (.ref q.1) ∧ va_O "java/lang/String" q.1 A s s.heap ∧ va_OF "java/lang/String" "coder" "B" (.int 0) q.1 A s s.heap ∧ va_OF "java/lang/String" "value" "[B" (.ref q.2) q.1 A s s.heap ∧ va_T .byte q.2 (strLen.getD i 0) (fun j => .int ((strByt.getD i []).getD j 0)) A s s.heap := by
    intro i
    by_cases hi : i < 35
    · obtain ⟨a, c, cA, kA, q1, q2, q3, q4, q5, q6, -⟩ := Cond.exactly_spec (args := args) (first := s) (o := none) (s := s) (idx := []) (t := tmS i) (cls := "java/lang/String") (hn _ (nr_1 i hi))
      obtain ⟨t, ht, hT⟩ := va_Tof (f := fun j => .int ((strByt.getD i []).getD j 0)) (A := A) (nr_11 i hi) (hn _ (nr_3 i hi)) (va_eqt (hn _ (nr_4 i hi))) (fun j hj => va_eqt (hn _ (nr_5 i hi j hj))) hA
      exact ⟨(a, t), fun _ => ⟨q1, ⟨cA, q3, q5, by rw [q6]; exact q2, hA a (Array.getElem?_eq_some_iff.mp q3).1⟩, vk_OFof q1 (va_eqt (hn _ (nr_2 i hi))) hA, vk_OFof q1 ht hA, hT⟩⟩
    · exact ⟨(0, 0), fun h => absurd h hi⟩
  obtain ⟨ad, had⟩ := Classical.axiomOfChoice h0
  exact ⟨fun i => (ad i).1, fun i => (ad i).2, had⟩
theorem st_cls {s : State} {args : Array Value} (hgw : ∀ w ∈ GW, w.before args s = true) : ∃ D : va_G, ∀ (c : Nat) (q : vw_C), vwCl[c]? = some q → u_Kn s q.1 q.2.1 q.2.2 (D.1 c) (D.2 c) := by
  have h : ∀ c : Nat, ∃ d : ClassId × (Nat → Nat), ∀ q : vw_C, vwCl[c]? = some q → u_Kn s q.1 q.2.1 q.2.2 d.1 d.2 := by
    intro c
    have mk : ∀ {C : String} {T : u_T} {N : Nat}, (∀ w ∈ u_ws C T N, w ∈ GW) → Cond.instantiable C N ∈ GW → vwCl[c]? = some (C, T, N) → ∃ d : ClassId × (Nat → Nat), ∀ q : vw_C, vwCl[c]? = some q → u_Kn s q.1 q.2.1 q.2.2 d.1 d.2 := by
      intro C T N hin hi hc
      obtain ⟨cC, iS, hk⟩ := u_known (ws := GW) hgw hin (hgw _ hi)
      exact ⟨(cC, iS), fun q hq => by cases Option.some.inj (hc.symm.trans hq); exact hk⟩
    match c with
    | 0 => exact mk ku_0 kx_ThumbBook_Book rfl
    | 1 => exact mk ku_1 kx_ThumbBook_Chance rfl
    | 2 => exact mk ku_2 kx_ThumbBook_Fit rfl
    | 3 => exact mk ku_3 kx_ThumbBook_Glass rfl
    | 4 => exact mk ku_4 kx_ThumbBook_Humps rfl
    | 5 => exact mk ku_5 kx_ThumbBook_Law rfl
    | 6 => exact mk ku_6 kx_ThumbBook_Order rfl
    | 7 => exact mk ku_7 kx_ThumbBook_Script rfl
    | 8 => exact mk ku_8 kx_ThumbBook_Trials rfl
    | 9 => exact mk ku_9 kx_ThumbBook_Undone rfl
    | 10 => exact mk ku_10 kx_ThumbBook_Way rfl
    | 11 => exact mk ku_11 kx_ThumbBook rfl
    | 12 => exact mk ku_12 kx_ThumbBookModel rfl
    | c + 13 => exact ⟨(Classical.choice ⟨(u_known (ws := GW) hgw ku_0 (hgw _ kx_ThumbBook_Book)).choose⟩, fun _ => 0), fun q hq => by simp at hq⟩
  obtain ⟨d, hd⟩ := Classical.axiomOfChoice h
  exact ⟨(fun c => (d c).1, fun c => (d c).2), fun c q hq => hd c q hq⟩
theorem st_arr {s : State} {args : Array Value} (ht : ∀ w ∈ tables_1, w.before args s = true) : ∃ gA : Nat → ClassId, ∀ (k : Nat) (q : ClassId × FieldType), ([(gA 0, .int), (gA 1, .long), (gA 2, .object "ThumbBook$Book"), (gA 3, .object "ThumbBook$Way"), (gA 4, .object "java/lang/String")] : List (ClassId × FieldType))[k]? = some q → ArrOfT s q.1 q.2 ∧ va_RA s q.1 q.2 := by
  obtain ⟨c0, k0, m0, a1, a2, a3⟩ := Cond.arrayClass_spec (ht _ nr_26)
  obtain ⟨c1, k1, m1, b1, b2, b3⟩ := Cond.arrayClass_spec (ht _ nr_27)
  obtain ⟨m2, c2, k2, d1, -, d2, d3, d4⟩ := Cond.arrayOver_spec (ht _ (nr_9 RX0 (List.mem_of_getElem? (i := 0) rfl)))
  obtain ⟨m3, c3, k3, e1, -, e2, e3, e4⟩ := Cond.arrayOver_spec (ht _ (nr_9 RX10 (List.mem_of_getElem? (i := 1) rfl)))
  obtain ⟨m4, c4, k4, f1, -, f2, f3, f4⟩ := Cond.arrayOver_spec (ht _ (nr_9 "java/lang/String" (List.mem_of_getElem? (i := 2) rfl)))
  refine ⟨fun i => [c0, c1, c2, c3, c4].getD i c0, ?_⟩
  intro k q hq
  match k with
  | 0 => cases hq; exact ⟨fun N z => ⟨(fun k h => by cases h), k0, a2, m0, a3⟩, a1⟩
  | 1 => cases hq; exact ⟨fun N z => ⟨(fun k h => by cases h), k1, b2, m1, b3⟩, b1⟩
  | 2 => cases hq; exact ⟨fun N z => ⟨(fun k h => by cases h), k2, d2, m2, d3⟩, k2, m2, d2, d3, d1, d4⟩
  | 3 => cases hq; exact ⟨fun N z => ⟨(fun k h => by cases h), k3, e2, m3, e3⟩, k3, m3, e2, e3, e1, e4⟩
  | 4 => cases hq; exact ⟨fun N z => ⟨(fun k h => by cases h), k4, f2, m4, f3⟩, k4, m4, f2, f3, f1, f4⟩
  | k + 5 => simp at hq
theorem strTab_in {q : String × Nat × String × Nat} (h : q ∈ strTab) : ∃ i : Nat, i < 35 ∧ strTab.getD i ("", 0, "", 0) = q := by
  obtain ⟨i, hi, e⟩ := List.getElem_of_mem h
  exact ⟨i, hi, by rw [List.getD_eq_getElem?_getD, List.getElem?_eq_getElem hi, e]; rfl⟩
def lw_At (p : Program) (s : State) (m : MethodId) (meth : Method) (c : Code) (b L : Nat) (xs : Nat → Int32) : Prop :=
  p.tables.exec = Jvm.exec ∧ c.code = code ∧ meth.sig.returnType = ret ∧ c.maxLocals = 8 ∧ s.vm.findClass R_law = some m.cls ∧ (∀ w ∈ lw_tbl, w.before #[Value.ref b] s = true) ∧ va_X b L xs s s.heap ∧ b < s.heap.size ∧ meth.locks = false ∧ (Jvm.Cond.and given_1 narrow_1).before #[Value.ref b] s = true ∧ meth.name = "law" ∧ ((Cond.code yL_law_ code 8 ret ∈ GW → ∀ x ∈ c.exceptionTable.toList, False) ∧ ∀ hh, Cond.codeWith yL_law_ code 8 ret hh ∈ GW → c.exceptionTable.toList = tableOf hh)
theorem start_of {p : Program} {e : Env} {s : State} {m : MethodId} {below : List Frame} {meth : Method} {c : Code} (l : Launch) (htr : l.stackTraces = false) {b L : Nat} {xs : Nat → Int32} (hf : ∃ r, f_law xs L 513 0 h0 = some (.inl r)) (C0 : lw_At p s m meth c b L xs) : W p l e room_1 s m #[Value.ref b] below meth c s.heap [] 0 0 (lw_Z below #[Value.ref b] s) (entryFrame m ([Value.ref b] : List Value).toArray 8) := by
  obtain ⟨hx, hb, hret, hml, hown, hts, hX, hbl, hlk, hgv, hnm, hex⟩ := C0
  have hn : ∀ w ∈ nrw, w.before #[Value.ref b] s = true := flat_of_before _ hgv
  have hgw : ∀ w ∈ GW, w.before #[Value.ref b] s = true := fun w hw => hts w (gw_tbl hw)
  have ht : ∀ w ∈ tables_1, w.before #[Value.ref b] s = true := fun w hw => hts w (List.mem_append_right _ hw)
  have hA : ∀ a : Nat, a < s.heap.size → ¬ s.heap.size ≤ a := fun a h => by omega
  obtain ⟨D, hD⟩ := st_cls hgw
  obtain ⟨gA, hgA⟩ := st_arr ht
  obtain ⟨adK, adV, hS⟩ := st_str (A := fun q => s.heap.size ≤ q) hn hA
  obtain ⟨r, hr⟩ := hf
  let G : GG := (l, D, gA, s.heap.size, adK, adV, b, L, xs)
  have hWT : WT G s := by
    refine ⟨⟨hD, hgA⟩, fun q hq => va_Nw.of rfl (ht _ (nr_7 q hq)), fun q hq => ?_, htr, va_Nw.of rfl (ht _ nr_12), va_Nw.of rfl (ht _ nr_13), va_Nc.of (hn _ nr_14), fun y hy => va_Nw.of rfl (ht _ (nr_8 y hy))⟩
    obtain ⟨i, hi, e⟩ := strTab_in hq
    have h1 := ht _ (nr_6 i hi)
    have h2 := (hS i hi).1
    have h3 := nr_10 i hi
    unfold tmS at h2
    rw [e] at h1 h2 h3
    show vk_R q.1 q.2.1 q.2.2.1 (adK q.2.2.2) s
    rw [h3]
    exact vk_R.of h1 h2
  have hPS : PS G s s.heap := ⟨fun i hi => (hS i hi).2, vx_Zqof (ht _ nr_19) (ht _ nr_23) (hn _ nr_15) hA, vx_Zqof (ht _ nr_20) (ht _ nr_23) (hn _ nr_16) hA, va_Zof (ht _ nr_21) (ht _ nr_24) (va_eqt (hn _ nr_17)) hA, va_Zqof (ht _ nr_22) (ht _ nr_25) (hn _ nr_18) hA, hX, hbl, hA b hbl⟩
  have hAO : ∀ C ∈ aoTab, va_AO C s := fun C hC => va_AO.of (ht _ (nr_9 C hC))
  have k := law_go G r hr p e room_1 s m #[Value.ref b] below meth c s.heap [] _ ⟨hx, hb, hml, hret, hlk, hown, hgw, hnm, ⟨hWT, hAO⟩, hPS, by decide, by decide, by decide, by decide, Nat.le_refl _, hex⟩ ⟨fun k q hq => by simp [wsC] at hq, rfl⟩ va_S.rf (lv_entry [Value.ref b] (n := 8) (Nat.le_of_ble_eq_true rfl))
  rw [lg_entry_eq]
  intro T hT X
  obtain ⟨t, a1, b1⟩ := k T hT X
  exact ⟨t, a1, b1 rfl⟩
