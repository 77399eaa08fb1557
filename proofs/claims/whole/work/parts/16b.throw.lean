/-! methods that return or throw -/
def exN (n : Nat) : String := if n = 0 then "java/util/NoSuchElementException" else "java/lang/IllegalArgumentException"
abbrev XR (α : Type) : Type := (α × AH) ⊕ (Nat × AH)
def vmI (x : Int32) : Option Value := some (.int x)
def vmZ (b : Bool) : Option Value := some (.int (bI b))
def vmL (x : Int64) : Option Value := some (.long x)
def vmR (G : GG) (a : Nat) : Option Value := some (.ref (ad G a))
def vmV (_ : Unit) : Option Value := none
def SpXg {α : Type} (G : GG) (d C : Nat) (Y : MI) (avs : List Value) (h : AH) (vm : α → Option Value) (r : XR α) : Prop := SpX G d C Y avs h (fun o g => ∃ x, r = .inl x ∧ o = vm x.1 ∧ g = x.2) (fun E g => ∃ x, r = .inr x ∧ E = exN x.1 ∧ g = x.2)
def KXg {α : Type} (G : GG) (C : Nat) (vm : α → Option Value) (r : XR α) : KQ := KX G C (fun o g => ∃ x, r = .inl x ∧ o = vm x.1 ∧ g = x.2) (fun E g => ∃ x, r = .inr x ∧ E = exN x.1 ∧ g = x.2)
section THR
variable {α β : Type} {G : GG} {Y Y' : MI} {d d' C C' q : Nat} {K : KQ} {pc : Nat} {lv : List (Nat × Value)} {st rest As : List Value} {h : AH}
theorem wsx_of {avs : List Value} {vm : α → Option Value} {r : XR α} (hp : plainName Y.1.cls = true) (hlen : (lg_sl avs).length ≤ Y.2.2.1) (body : J G Y d C 0 (KXg G C vm r) 0 (lv_args 0 avs) [] h) : SpXg G d C Y avs h vm r := by
  refine vx_ofW (cc := Y.2.1) (maxL := Y.2.2.1) (ret := Y.2.2.2) hp rfl ?_
  intro p e s m args below meth c s₁ B hml ht hv
  obtain ⟨rfl, hT, hPS, hw⟩ := hv
  have hts := atoms_spec (ws := wsy Y) B.pre
  rw [lg_entry_eq]
  exact body p e _ s m _ below meth c s.heap [] _ ⟨B.exec, B.bytes, hml, B.returns, B.notSynchronized, findClass_of_methodNamed B.named, fun w hw => hts w (List.mem_cons_of_mem _ hw), tab_of B (fun w hw => hts w (List.mem_cons_of_mem _ hw)), hT, hPS, Nat.le_refl _, Nat.le_refl _, Nat.le_refl _, Nat.le_refl _, wh_lt hw⟩ hw va_S.rf (lv_entry avs hlen)
theorem j_xreti {v : Int32} (hq : q ≤ C) (hd : decode Y.2.1 pc = .ok (.ireturn, 1)) (hr0 : Y.2.2.2 = some .int) (hK : K = KXg G C vmI (.inl (v, h))) : J G Y d C q K pc lv [.int v] h := by
  subst hK
  intro p e R s m args below meth c H locs ls hC hw hS hl
  obtain ⟨hx, hb, hml, hr, hlk, hown, hts, hex, hTT, hPS, hR⟩ := hC
  refine W.widen (k := C) (n := 6 * C) hq (by omega) (vx_ret ?_)
  exact W.iret hx hb (hr.trans hr0) (fun t ht hW => ⟨_, h, rfl, ⟨_, rfl, rfl, rfl⟩, by rw [ht]; exact hw, hS.F ht⟩) hS.2.2 hd
theorem j_xretz {b : Bool} (hq : q ≤ C) (hd : decode Y.2.1 pc = .ok (.ireturn, 1)) (hr0 : Y.2.2.2 = some .boolean) (hK : K = KXg G C vmZ (.inl (b, h))) : J G Y d C q K pc lv [.int (bI b)] h := by
  subst hK
  intro p e R s m args below meth c H locs ls hC hw hS hl
  obtain ⟨hx, hb, hml, hr, hlk, hown, hts, hex, hTT, hPS, hR⟩ := hC
  refine W.widen (k := C) (n := 6 * C) hq (by omega) (vx_ret ?_)
  exact W.zret hx hb (hr.trans hr0) (bI_n b) (fun t ht hW => ⟨_, h, rfl, ⟨_, rfl, rfl, rfl⟩, by rw [ht]; exact hw, hS.F ht⟩) hS.2.2 hd
theorem j_xret1 (hq : q ≤ C) (hd : decode Y.2.1 pc = .ok (.ireturn, 1)) (hr0 : Y.2.2.2 = some .boolean) (hK : K = KXg G C vmZ (.inl (true, h))) : J G Y d C q K pc lv [.int 1] h := j_xretz (b := true) hq hd hr0 hK
theorem j_xret0 (hq : q ≤ C) (hd : decode Y.2.1 pc = .ok (.ireturn, 1)) (hr0 : Y.2.2.2 = some .boolean) (hK : K = KXg G C vmZ (.inl (false, h))) : J G Y d C q K pc lv [.int 0] h := j_xretz (b := false) hq hd hr0 hK
theorem j_xretl {v : Int64} (hq : q ≤ C) (hd : decode Y.2.1 pc = .ok (.lreturn, 1)) (hr0 : Y.2.2.2 = some .long) (hK : K = KXg G C vmL (.inl (v, h))) : J G Y d C q K pc lv [.long v] h := by
  subst hK
  intro p e R s m args below meth c H locs ls hC hw hS hl
  obtain ⟨hx, hb, hml, hr, hlk, hown, hts, hex, hTT, hPS, hR⟩ := hC
  refine W.widen (k := C) (n := 6 * C) hq (by omega) (vx_ret ?_)
  exact W.lret hx hb (hr.trans hr0) (fun t ht hW => ⟨_, h, rfl, ⟨_, rfl, rfl, rfl⟩, by rw [ht]; exact hw, hS.F ht⟩) hS.2.2 hd
theorem j_xretv (hq : q ≤ C) (hd : decode Y.2.1 pc = .ok (.return_, 1)) (hr0 : Y.2.2.2 = none) (hK : K = KXg G C vmV (.inl ((), h))) : J G Y d C q K pc lv [] h := by
  subst hK
  intro p e R s m args below meth c H locs ls hC hw hS hl
  obtain ⟨hx, hb, hml, hr, hlk, hown, hts, hex, hTT, hPS, hR⟩ := hC
  refine W.widen (k := C) (n := 6 * C) hq (by omega) (vx_ret ?_)
  exact W.vret hx hb (hr.trans hr0) (fun t ht hW => ⟨_, h, rfl, ⟨_, rfl, rfl, rfl⟩, by rw [ht]; exact hw, hS.F ht⟩) hS.2.2 hd
theorem j_xretr {a : Nat} {cn : String} (hq : q ≤ C) (hd : decode Y.2.1 pc = .ok (.areturn, 1)) (hr0 : Y.2.2.2 = some (.object cn)) (hK : K = KXg G C (vmR G) (.inl (a, h))) : J G Y d C q K pc lv [.ref (ad G a)] h := by
  subst hK
  intro p e R s m args below meth c H locs ls hC hw hS hl
  obtain ⟨hx, hb, hml, hr, hlk, hown, hts, hex, hTT, hPS, hR⟩ := hC
  refine W.widen (k := C) (n := 6 * C) hq (by omega) (vx_ret ?_)
  exact W.aret hx hb (hr.trans hr0) (Or.inl ⟨_, rfl⟩) (Or.inr ⟨_, rfl⟩) (fun t ht hW => ⟨_, h, rfl, ⟨_, rfl, rfl, rfl⟩, by rw [ht]; exact hw, hS.F ht⟩) hS.2.2 hd
/-- behind a call that returned or threw -/
theorem j_backx {p : Program} {e : Env} {R : Room} {s : State} {m : MethodId} {args : Array Value} {below : List Frame} {meth : Method} {c : Code} {H : Heap} {locs : List Loc} {ls : Array Slot} {a : Array Value} {vm : α → Option Value} {r' : XR α} {vm2 : β → Option Value}
    (hr : vx_Run p (gL G) e R s m args below meth c H locs q (6 * q) C' (6 * C') (F0 m pc ls st) rest (Qr G (fun o g => ∃ x, r' = .inl x ∧ o = vm x.1 ∧ g = x.2) a) (XQ G (fun E g => ∃ x, r' = .inr x ∧ E = exN x.1 ∧ g = x.2)) (AA G)) (hC : JC G Y d C p R s m args meth c) (hS : va_S (AA G) s.heap H locs) (hl : lv_has ls Y.2.2.1 lv) (hqC : q + C' ≤ C) (hcg : Cond.code Y.1 Y.2.1 Y.2.2.1 Y.2.2.2 ∈ GW)
    (kI : ∀ x, r' = .inl x → J G Y d C (q + C') K (pc + 3) lv ((vm x.1).toList ++ rest) x.2) (kR : ∀ x, r' = .inr x → K = KXg G C vm2 (.inr x)) : W p (gL G) e R s m args below meth c H locs q (6 * q) (K below args s) (F0 m pc ls st) := by
  intro T hT X
  rcases hr T hT X with ⟨v, st₀, t, T', L, h0, X', hL, e1, e2, ⟨v', h', hv, ⟨x, hx1, hx2, hx3⟩, hw', hFr⟩, st1⟩ | ⟨q9, st₀, t, T', L, E, ce, h0, X', hL, e1, e2, ⟨h', ⟨x, hx1, hx2, hx3⟩, hw', hFr⟩, hce, hcv, hcl, st1⟩
  · cases hv
    subst hx2; subst hx3
    obtain ⟨t2, a1, b1⟩ := kI x hx1 p e R s m args below meth c T'.heap (locs ++ L) ls hC (by rw [e1]; exact hw') (s_more hS h0 e1 hFr hL) hl T' rfl (by rw [Nat.mul_add]; exact X')
    exact ⟨t2, st1 t2 a1, b1⟩
  · have hS2 := s_more hS h0 e1 hFr hL
    rw [kR x hx1]
    obtain ⟨hx, hb, hml, hr0, hlk, hown, hts, hex, hTT, hPS, hR⟩ := hC
    have hZ : vx_W p (gL G) e R s m args below meth c T'.heap (locs ++ L) (q + C') (6 * q + 6 * C') (KXg G C vm2 (.inr x) below args s) (F0 m pc ls rest) q9 := by
      refine vx_out (E := E) (ce := ce) (fun z hz => (hex.1 hcg z hz).elim) hlk (by rw [e1]; exact hce) hcv hcl (fun t9 ht9 hW9 => ⟨h', ⟨x, rfl, hx2, hx3⟩, by rw [ht9, e1]; exact hw', hS2.F ht9⟩) hS2.2.2 hqC (by omega)
    obtain ⟨t2, a1, b1⟩ := hZ T' rfl X'
    exact ⟨t2, st1.trans a1, b1⟩
theorem j_callVx {own : String} {idx a na n ci N : Nat} {T : u_T} {vm : α → Option Value} {r' : XR α} {vm2 : β → Option Value} (hs : SpXg G d' C' Y' (.ref (ad G a) :: As) h vm r') (hcv : CV own idx Y' na) (hY : Y.1.cls = own) (hsh : SH a = (ci, n)) (hci : ci < 13) (hcl : vwCl[ci]? = some (Y'.1.cls, T, N)) (hdd : d' + 1 ≤ d) (hAs : As.length = na) (hst : st = As.reverse ++ .ref (ad G a) :: rest) (hW : (rest.map fun v => v.category).sum ≤ 8) (hd : decode Y.2.1 pc = .ok (.invokevirtual idx, 3)) (hq : q + C' ≤ C) (hcg : Cond.code Y.1 Y.2.1 Y.2.2.1 Y.2.2.2 ∈ GW)
    (kI : ∀ x, r' = .inl x → J G Y d C (q + C') K (pc + 3) lv ((vm x.1).toList ++ rest) x.2) (kR : ∀ x, r' = .inr x → K = KXg G C vm2 (.inr x)) : J G Y d C q K pc lv st h := by
  intro p e R s m args below meth c H locs ls hC hw hS hl
  have hC0 := hC
  obtain ⟨hx, hb, hml, hr, hlk, hown, hts, hex, hTT, hPS, hR1, hR2, hR3, hR4, hB⟩ := hC
  obtain ⟨g1, g2, g3⟩ := hcv
  refine j_backx (vx_runV (As := As) (rest := rest) ⟨hx, hb, hml, hY ▸ hown, hts⟩ hs (cwV (R := R) (ws' := GW) na hts g1 rfl rfl rfl g2 ⟨?_, ?_⟩) ⟨wd_blind G _ h, va_recv hTT.1 hw hcl (by rw [ws_at G h (sh_lt hsh (by omega)), cel_obj hsh hci]), fun U hU hWm => ⟨rfl, wd_now hC0 hw hS hU hWm⟩⟩ rfl hAs hl.1 hst (lv_room hW) hd ⟨by omega, by omega⟩) hC0 hS hl hq hcg kI kR
  · show d' + 1 ≤ R.frames; omega
  · show 8 + (Y'.2.2.1 + 11) + 40 * d' ≤ R.locals; omega
theorem j_callSx {own : String} {idx na : Nat} {vm : α → Option Value} {r' : XR α} {vm2 : β → Option Value} (hs : SpXg G d' C' Y' As h vm r') (hcv : CS own idx Y' na) (hY : Y.1.cls = own) (hdd : d' + 1 ≤ d) (hAs : As.length = na) (hst : st = As.reverse ++ rest) (hW : (rest.map fun v => v.category).sum ≤ 8) (hd : decode Y.2.1 pc = .ok (.invokestatic idx, 3)) (hq : q + C' ≤ C) (hcg : Cond.code Y.1 Y.2.1 Y.2.2.1 Y.2.2.2 ∈ GW)
    (kI : ∀ x, r' = .inl x → J G Y d C (q + C') K (pc + 3) lv ((vm x.1).toList ++ rest) x.2) (kR : ∀ x, r' = .inr x → K = KXg G C vm2 (.inr x)) : J G Y d C q K pc lv st h := by
  intro p e R s m args below meth c H locs ls hC hw hS hl
  have hC0 := hC
  obtain ⟨hx, hb, hml, hr, hlk, hown, hts, hex, hTT, hPS, hR1, hR2, hR3, hR4, hB⟩ := hC
  obtain ⟨g1, g2, g3⟩ := hcv
  refine j_backx (vx_runS (As := As) (rest := rest) ⟨hx, hb, hml, hY ▸ hown, hts⟩ hs (va_cwS (R := R) (ws' := GW) na hts g1 rfl rfl rfl g2 ⟨?_, ?_⟩) ⟨wd_blind G _ h, fun U hU hWm => ⟨rfl, wd_now hC0 hw hS hU hWm⟩⟩ rfl hAs hl.1 hst (lv_room hW) hd ⟨by omega, by omega⟩) hC0 hS hl hq hcg kI kR
  · show d' + 1 ≤ R.frames; omega
  · show 8 + (Y'.2.2.1 + 11) + 40 * d' ≤ R.locals; omega
end THR
abbrev exNames : List String := ["java/lang/RuntimeException", "java/lang/Exception"]
def exB (c : String) : List Cond := [Cond.castable c c, Cond.declares (exS "java/lang/RuntimeException"), Cond.declares (exS "java/lang/Exception"), Cond.declares (exS "java/lang/Throwable")]
abbrev nseN : String := "java/util/NoSuchElementException"
abbrev iaeN : String := "java/lang/IllegalArgumentException"
abbrev nseA : List Cond := vx_atX RX11 190 nseN 13 prog_30_method_4_code exNames
abbrev iaeA : List Cond := vx_atS RX11 385 iaeN exNames
theorem an_nse : ∀ w ∈ nseA.filter (fun w => !goodWord w), w ∈ exB nseN := by decide +kernel
theorem an_iae : ∀ w ∈ iaeA.filter (fun w => !goodWord w), w ∈ exB iaeN := by decide +kernel
theorem at_nse : ∀ w ∈ nseA.filter goodWord, w ∈ lw_tbl := by decide +kernel
theorem at_iae : ∀ w ∈ iaeA.filter goodWord, w ∈ lw_tbl := by decide +kernel
theorem ao_nse : ∀ w ∈ Cond.classLink RX11 186 nseN :: Cond.initialized nseN :: nseA, vx_ot w = true := by decide +kernel
theorem ao_iae : ∀ w ∈ Cond.classLink RX11 381 iaeN :: Cond.initialized iaeN :: iaeA, vx_ot w = true := by decide +kernel
theorem gw_of_good {L : List Cond} (h : ∀ w ∈ L.filter goodWord, w ∈ lw_tbl) : ∀ w ∈ L.filter goodWord, w ∈ GW := fun w hw => List.mem_filter.mpr ⟨h w hw, (List.mem_filter.mp hw).2⟩
theorem n13_0 : decode prog_30_method_4_code 0 = .ok (.aload_n 0, 1) := by decide +kernel
theorem n13_1 : decode prog_30_method_4_code 1 = .ok (.aload_n 1, 1) := by decide +kernel
theorem n13_2 : decode prog_30_method_4_code 2 = .ok (.invokespecial 13, 3) := by decide +kernel
theorem n13_5 : decode prog_30_method_4_code 5 = .ok (.return_, 1) := by decide +kernel
theorem fit_nse : Bundle.fit nseN = true := by decide +kernel
theorem fit_iae : Bundle.fit iaeN = true := by decide +kernel
theorem fit_names : ∀ n ∈ exNames, Bundle.fit n = true := by decide +kernel
theorem exb_ok {G : GG} {s : State} {args : Array Value} (hT : WT G s) {c : String} (hc : va_Nw (.castable c c) s) : ∀ w ∈ exB c, w.before args s = true := by
  intro w hw
  simp only [exB, List.mem_cons, List.not_mem_nil, or_false] at hw
  have hd := hT.2.2.2.2.2.2.2
  rcases hw with rfl | rfl | rfl | rfl
  · exact va_Nw.use rfl hc
  · exact va_Nw.use rfl (hd _ (by simp [exDecl]))
  · exact va_Nw.use rfl (hd _ (by simp [exDecl]))
  · exact va_Nw.use rfl (hd _ (by simp [exDecl]))
theorem wh_kept {G : GG} {h : AH} {H H1 : Heap} (hw : WH G h H) (hq : ∀ q : Nat, q < H.size → H1[q]? = H[q]?) : WH G h H1 := fun k q hk => (hw k q hk).kept (hq q.1 (hw k q hk).lt)
section THR2
variable {α : Type} {G : GG} {Y : MI} {d C q : Nat} {K : KQ} {pc : Nat} {lv : List (Nat × Value)} {st : List Value} {h : AH} {vm : α → Option Value} {is i : Nat} {tx : String}
theorem j_thrN (hcg : Cond.code Y.1 Y.2.1 Y.2.2.1 Y.2.2.2 ∈ GW) (hY : Y.1.cls = RX11) (hw0 : (RX11, is, tx, i) ∈ strTab) (hd7 : 7 ≤ d) (hqC : q + 1 ≤ C) (hst : (st.map fun v => v.category).sum ≤ 8) (d0 : decode Y.2.1 pc = .ok (.new 186, 3)) (d3 : decode Y.2.1 (pc + 3) = .ok (.dup, 1)) (d4 : decode Y.2.1 (pc + 4) = .ok (.ldc is, 2)) (d6 : decode Y.2.1 (pc + 6) = .ok (.invokespecial 190, 3)) (d9 : decode Y.2.1 (pc + 9) = .ok (.athrow, 1)) (hK : K = KXg G C vm (.inr (0, h))) : J G Y d C q K pc lv st h := by
  subst hK
  intro p e R s m args below meth c H locs ls hC hw hS hl
  obtain ⟨hx, hb, hml, hr, hlk, hown, hts, hex, hTT, hPS, hR1, hR2, hR3, hR4, hB⟩ := hC
  exact vx_throwX n13_0 n13_1 n13_2 n13_5 (names := exNames) hx hb hTT.2.2.2.1 (hY ▸ hown) fit_nse fit_names (hts _ kl_RX11_186) (hts _ kn_java_util_NoSuchElementException) (hTT.2.2.1 _ hw0) (vx_hat (fun w z => hts w (gw_of_good at_nse w z)) an_nse (exb_ok hTT hTT.2.2.2.2.1)) ao_nse hPS.2.1 hPS.2.2.1 hS (by rw [hml]; exact hl.1) d0 d3 d4 d6 d9 (fun z hz => (hex.1 hcg z hz).elim) (by show 2 + 3 < R.frames; omega) (by show _ + (13 * (2 + 1) + 43) ≤ R.locals; omega) (by omega) (by omega) hlk (fun t hA hz hq => ⟨h, ⟨_, rfl, rfl, rfl⟩, wh_kept hw hq, Nat.le_trans hS.1 hz, fun z h1 h2 => by rw [hq z (Nat.lt_of_lt_of_le h1 hS.1)]; exact hS.2.1 z h1 h2⟩) hS.2.2 hqC (by omega)
theorem j_thrNW (hcg : Cond.code Y.1 Y.2.1 Y.2.2.1 Y.2.2.2 ∈ GW) (hY : Y.1.cls = RX11) (hw0 : (RX11, is, tx, i) ∈ strTab) (hd7 : 7 ≤ d) (hqC : q + 1 ≤ C) (hst : (st.map fun v => v.category).sum ≤ 8) (d0 : decode Y.2.1 pc = .ok (.new 186, 3)) (d3 : decode Y.2.1 (pc + 3) = .ok (.dup, 1)) (d4 : decode Y.2.1 (pc + 4) = .ok (.ldc_w is, 3)) (d6 : decode Y.2.1 (pc + 7) = .ok (.invokespecial 190, 3)) (d9 : decode Y.2.1 (pc + 10) = .ok (.athrow, 1)) (hK : K = KXg G C vm (.inr (0, h))) : J G Y d C q K pc lv st h := by
  subst hK
  intro p e R s m args below meth c H locs ls hC hw hS hl
  obtain ⟨hx, hb, hml, hr, hlk, hown, hts, hex, hTT, hPS, hR1, hR2, hR3, hR4, hB⟩ := hC
  exact vx_throwXW n13_0 n13_1 n13_2 n13_5 (names := exNames) hx hb hTT.2.2.2.1 (hY ▸ hown) fit_nse fit_names (hts _ kl_RX11_186) (hts _ kn_java_util_NoSuchElementException) (hTT.2.2.1 _ hw0) (vx_hat (fun w z => hts w (gw_of_good at_nse w z)) an_nse (exb_ok hTT hTT.2.2.2.2.1)) ao_nse hPS.2.1 hPS.2.2.1 hS (by rw [hml]; exact hl.1) d0 d3 d4 d6 d9 (fun z hz => (hex.1 hcg z hz).elim) (by show 2 + 3 < R.frames; omega) (by show _ + (13 * (2 + 1) + 43) ≤ R.locals; omega) (by omega) (by omega) hlk (fun t hA hz hq => ⟨h, ⟨_, rfl, rfl, rfl⟩, wh_kept hw hq, Nat.le_trans hS.1 hz, fun z h1 h2 => by rw [hq z (Nat.lt_of_lt_of_le h1 hS.1)]; exact hS.2.1 z h1 h2⟩) hS.2.2 hqC (by omega)
theorem j_thrIW (hcg : Cond.code Y.1 Y.2.1 Y.2.2.1 Y.2.2.2 ∈ GW) (hY : Y.1.cls = RX11) (hw0 : (RX11, is, tx, i) ∈ strTab) (hd7 : 7 ≤ d) (hqC : q + 1 ≤ C) (hst : (st.map fun v => v.category).sum ≤ 8) (d0 : decode Y.2.1 pc = .ok (.new 381, 3)) (d3 : decode Y.2.1 (pc + 3) = .ok (.dup, 1)) (d4 : decode Y.2.1 (pc + 4) = .ok (.ldc_w is, 3)) (d6 : decode Y.2.1 (pc + 7) = .ok (.invokespecial 385, 3)) (d9 : decode Y.2.1 (pc + 10) = .ok (.athrow, 1)) (hK : K = KXg G C vm (.inr (1, h))) : J G Y d C q K pc lv st h := by
  subst hK
  intro p e R s m args below meth c H locs ls hC hw hS hl
  obtain ⟨hx, hb, hml, hr, hlk, hown, hts, hex, hTT, hPS, hR1, hR2, hR3, hR4, hB⟩ := hC
  exact vx_throwSW (names := exNames) hx hb hTT.2.2.2.1 (hY ▸ hown) fit_iae fit_names (hts _ kl_RX11_381) (hts _ kn_java_lang_IllegalArgumentException) (hTT.2.2.1 _ hw0) (vx_hat (fun w z => hts w (gw_of_good at_iae w z)) an_iae (exb_ok hTT hTT.2.2.2.2.2.1)) ao_iae hPS.2.1 hPS.2.2.1 hS (by rw [hml]; exact hl.1) d0 d3 d4 d6 d9 (fun z hz => (hex.1 hcg z hz).elim) (by show 2 + 3 < R.frames; omega) (by show _ + (13 * (2 + 1) + 43) ≤ R.locals; omega) (by omega) (by omega) hlk (fun t hA hz hq => ⟨h, ⟨_, rfl, rfl, rfl⟩, wh_kept hw hq, Nat.le_trans hS.1 hz, fun z h1 h2 => by rw [hq z (Nat.lt_of_lt_of_le h1 hS.1)]; exact hS.2.1 z h1 h2⟩) hS.2.2 hqC (by omega)
end THR2
