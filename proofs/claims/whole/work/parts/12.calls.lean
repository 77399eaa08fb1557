theorem gi_code {Y : MI} (h : Cond.code Y.1 Y.2.1 Y.2.2.1 Y.2.2.2 ∈ GW) : GoodIn GW (wsy Y) := fun w hw => (List.mem_cons.mp hw).elim (fun e => e ▸ gw_in _ h) (fun z => gw_in w z)
theorem gi_V {Y : MI} {own Cn : String} {idx : Nat} (h1 : Cond.methodLink own idx Y.1 ∈ GW) (h2 : Cond.instanceMethod Y.1 ∈ GW) (h3 : Cond.selects Cn Y.1 Y.1 ∈ GW) (h4 : Cond.initialized Cn ∈ GW) (h5 : Cond.code Y.1 Y.2.1 Y.2.2.1 Y.2.2.2 ∈ GW) : GoodIn GW (wsV own idx Cn Y.1 (wsy Y)) := by
  intro w hw
  unfold wsV at hw
  rcases List.mem_append.mp hw with hw | hw
  · simp only [List.mem_cons, List.not_mem_nil, or_false] at hw
    rcases hw with rfl | rfl | rfl | rfl
    · exact gw_in _ h1
    · exact gw_in _ h2
    · exact gw_in _ h3
    · exact gw_in _ h4
  · exact gi_code h5 w hw
theorem gi_S {Y : MI} {own : String} {idx : Nat} (h1 : Cond.methodLink own idx Y.1 ∈ GW) (h2 : Cond.static Y.1 ∈ GW) (h4 : Cond.initialized Y.1.cls ∈ GW) (h5 : Cond.code Y.1 Y.2.1 Y.2.2.1 Y.2.2.2 ∈ GW) : GoodIn GW (va_wsS own idx Y.1 (wsy Y)) := by
  intro w hw
  unfold va_wsS at hw
  rcases List.mem_append.mp hw with hw | hw
  · simp only [List.mem_cons, List.not_mem_nil, or_false] at hw
    rcases hw with rfl | rfl | rfl
    · exact gw_in _ h1
    · exact gw_in _ h2
    · exact gw_in _ h4
  · exact gi_code h5 w hw
/-- a call by invokevirtual, its words -/
def CV (own : String) (idx : Nat) (Y : MI) (na : Nat) : Prop := GoodIn GW (wsV own idx Y.1.cls Y.1 (wsy Y)) ∧ (Y.1.cls = Y.1.cls ∧ Y.1.cls ≠ "java/lang/invoke/MethodHandle" ∧ Y.1.cls ≠ "java/lang/invoke/VarHandle" ∧ (parseMethodDescriptor Y.1.desc).map (fun d => d.parameters.length) = some na) ∧ Y.2.2.1 ≤ 21
def CS (own : String) (idx : Nat) (Y : MI) (na : Nat) : Prop := GoodIn GW (va_wsS own idx Y.1 (wsy Y)) ∧ (Y.1.cls ≠ "java/lang/invoke/MethodHandle" ∧ Y.1.cls ≠ "java/lang/invoke/VarHandle" ∧ (parseMethodDescriptor Y.1.desc).map (fun d => d.parameters.length) = some na) ∧ Y.2.2.1 ≤ 21
def CN (own : String) (idx : Nat) (Y : MI) (host : String) (na : Nat) : Prop := (own, idx, Y.1, host) ∈ nestTab ∧ GoodIn GW (wsy Y) ∧ Cond.static Y.1 ∈ GW ∧ Cond.initialized Y.1.cls ∈ GW ∧ (Y.1.cls ≠ "java/lang/invoke/MethodHandle" ∧ Y.1.cls ≠ "java/lang/invoke/VarHandle" ∧ (parseMethodDescriptor Y.1.desc).map (fun d => d.parameters.length) = some na) ∧ Y.2.2.1 ≤ 21
theorem wd_blind (G : GG) (avs : List Value) (h : AH) : FrameBlind (va_Pc avs (Wd G h)) := fun a _ g mk q => ⟨q.1, Wd.calling g mk a q.2⟩
section JR2
variable {G : GG} {Y Y' : MI} {d d' C C' q : Nat} {K : KQ} {pc : Nat} {lv : List (Nat × Value)} {st rest As : List Value} {h : AH} {F : Option Value → AH → Prop} {X : String → AH → Prop}
variable {p : Program} {e : Env} {R : Room} {s : State} {m : MethodId} {args : Array Value} {below : List Frame} {meth : Method} {c : Code} {H : Heap} {locs : List Loc} {ls : Array Slot}
theorem wd_now (hC : JC G Y d C p R s m args meth c) (hw : WH G h H) (hS : va_S (AA G) s.heap H locs) {U : State} (hU : U.heap = H) (hW : s.WarmedH U.vm) : Wd G h U := by
  obtain ⟨hx, hb, hml, hr, hlk, hown, hts, hex, hTT, hPS, hR⟩ := hC
  exact ⟨WT.warm hW hTT, by rw [hU]; exact PS.moved hW.alike (PS.kept hPS hS.1 hS.2.1), by rw [hU]; exact hw⟩
theorem s_more {st₀ t T' : State} {L : List Loc} (hS : va_S (AA G) s.heap H locs) (h0 : st₀.heap = H) (e1 : T'.heap = t.heap) (hF : va_F (AA G) st₀ t) (hL : ∀ z ∈ L, AA G z.base) : va_S (AA G) s.heap T'.heap (locs ++ L) := by
  obtain ⟨hz, hk⟩ := hF
  rw [h0] at hz hk
  exact ⟨Nat.le_trans hS.1 (by rw [e1]; exact hz), fun q h1 h2 => by rw [e1, hk q (Nat.lt_of_lt_of_le h1 hS.1) h2]; exact hS.2.1 q h1 h2, fun q hq => by
    rcases List.mem_append.mp hq with h | h
    · exact hS.2.2 q h
    · exact hL q h⟩
/-- behind a call that returned -/
theorem j_back {a : Array Value} (hr : va_Run p (gL G) e R s m args below meth c H locs q (6 * q) 0 (6 * 0) (F0 m pc ls st) rest (Qr G F a) (AA G)) (hC : JC G Y d C p R s m args meth c) (hS : va_S (AA G) s.heap H locs) (hl : lv_has ls Y.2.2.1 lv)
    (kk : ∀ (v : Option Value) (h' : AH), F v h' → J G Y d C q K (pc + 3) lv (v.toList ++ rest) h') : W p (gL G) e R s m args below meth c H locs q (6 * q) (K below args s) (F0 m pc ls st) := by
  intro T hT X
  obtain ⟨v, st₀, t, T', L, h0, X', hL, e1, e2, ⟨v', h', hv, hF, hw', hFr⟩, st1⟩ := hr T hT X
  cases hv
  obtain ⟨t2, a1, b1⟩ := kk v h' hF p e R s m args below meth c T'.heap (locs ++ L) ls hC (by rw [e1]; exact hw') (s_more hS h0 e1 hFr hL) hl T' rfl X'
  exact ⟨t2, st1 t2 a1, b1⟩
theorem j_callV {own : String} {idx a na n ci N : Nat} {T : u_T} (hs : Sp G d' Y' (.ref (ad G a) :: As) h F) (hcv : CV own idx Y' na) (hY : Y.1.cls = own) (hsh : SH a = (ci, n)) (hci : ci < 13) (hcl : vwCl[ci]? = some (Y'.1.cls, T, N)) (hdd : d' + 1 ≤ d) (hAs : As.length = na) (hst : st = As.reverse ++ .ref (ad G a) :: rest) (hW : (rest.map fun v => v.category).sum ≤ 8) (hd : decode Y.2.1 pc = .ok (.invokevirtual idx, 3)) (hq : q ≤ C)
    (kk : ∀ (v : Option Value) (h' : AH), F v h' → J G Y d C q K (pc + 3) lv (v.toList ++ rest) h') : J G Y d C q K pc lv st h := by
  intro p e R s m args below meth c H locs ls hC hw hS hl
  have hC0 := hC
  obtain ⟨hx, hb, hml, hr, hlk, hown, hts, hex, hTT, hPS, hR1, hR2, hR3, hR4, hB⟩ := hC
  obtain ⟨g1, g2, g3⟩ := hcv
  refine j_back (va_runV (As := As) (rest := rest) ⟨hx, hb, hml, hY ▸ hown, hts⟩ hs (cwV (R := R) (ws' := GW) na hts g1 rfl rfl rfl g2 ⟨?_, ?_⟩) ⟨wd_blind G _ h, va_recv hTT.1 hw hcl (by rw [ws_at G h (sh_lt hsh (by omega)), cel_obj hsh hci]), fun U hU hWm => ⟨rfl, wd_now hC0 hw hS hU hWm⟩⟩ rfl hAs hl.1 hst (lv_room hW) hd ⟨by omega, by omega⟩) hC0 hS hl kk
  · show d' + 1 ≤ R.frames; omega
  · show 8 + (Y'.2.2.1 + 11) + 40 * d' ≤ R.locals; omega
theorem j_callS {own : String} {idx na : Nat} (hs : Sp G d' Y' As h F) (hcv : CS own idx Y' na) (hY : Y.1.cls = own) (hdd : d' + 1 ≤ d) (hAs : As.length = na) (hst : st = As.reverse ++ rest) (hW : (rest.map fun v => v.category).sum ≤ 8) (hd : decode Y.2.1 pc = .ok (.invokestatic idx, 3)) (hq : q ≤ C)
    (kk : ∀ (v : Option Value) (h' : AH), F v h' → J G Y d C q K (pc + 3) lv (v.toList ++ rest) h') : J G Y d C q K pc lv st h := by
  intro p e R s m args below meth c H locs ls hC hw hS hl
  have hC0 := hC
  obtain ⟨hx, hb, hml, hr, hlk, hown, hts, hex, hTT, hPS, hR1, hR2, hR3, hR4, hB⟩ := hC
  obtain ⟨g1, g2, g3⟩ := hcv
  refine j_back (va_runS (As := As) (rest := rest) ⟨hx, hb, hml, hY ▸ hown, hts⟩ hs (va_cwS (R := R) (ws' := GW) na hts g1 rfl rfl rfl g2 ⟨?_, ?_⟩) ⟨wd_blind G _ h, fun U hU hWm => ⟨rfl, wd_now hC0 hw hS hU hWm⟩⟩ rfl hAs hl.1 hst (lv_room hW) hd ⟨by omega, by omega⟩) hC0 hS hl kk
  · show d' + 1 ≤ R.frames; omega
  · show 8 + (Y'.2.2.1 + 11) + 40 * d' ≤ R.locals; omega
theorem j_callN {own host : String} {idx na : Nat} (hs : Sp G d' Y' As h F) (hcv : CN own idx Y' host na) (hY : Y.1.cls = own) (hdd : d' + 1 ≤ d) (hAs : As.length = na) (hst : st = As.reverse ++ rest) (hW : (rest.map fun v => v.category).sum ≤ 8) (hd : decode Y.2.1 pc = .ok (.invokestatic idx, 3)) (hq : q ≤ C)
    (kk : ∀ (v : Option Value) (h' : AH), F v h' → J G Y d C q K (pc + 3) lv (v.toList ++ rest) h') : J G Y d C q K pc lv st h := by
  intro p e R s m args below meth c H locs ls hC hw hS hl
  have hC0 := hC
  obtain ⟨hx, hb, hml, hr, hlk, hown, hts, hex, hTT, hPS, hR1, hR2, hR3, hR4, hB⟩ := hC
  obtain ⟨g0, g1, g4, g5, g2, g3⟩ := hcv
  refine j_back (va_runSN (host := host) (As := As) (rest := rest) ⟨hx, hb, hml, hY ▸ hown, hts⟩ hs ⟨va_cnB (R := R) (ws' := GW) na hts g1 rfl rfl rfl (hTT.2.1 _ g0) (hts _ g5) g2 ⟨?_, ?_⟩, hts _ g4, trivial⟩ ⟨wd_blind G _ h, fun U hU hWm => ⟨rfl, wd_now hC0 hw hS hU hWm⟩⟩ rfl hAs hl.1 hst (lv_room hW) hd ⟨by omega, by omega⟩) hC0 hS hl kk
  · show d' + 1 ≤ R.frames; omega
  · show 8 + (Y'.2.2.1 + 11) + 40 * d' ≤ R.locals; omega
/-! the ends of a method that returns -/
theorem j_iret {v : Int32} (hd : decode Y.2.1 pc = .ok (.ireturn, 1)) (hr0 : Y.2.2.2 = some .int) (hF : F (some (.int v)) h) : J G Y d 0 0 (KM G F) pc lv [.int v] h := by
  intro p e R s m args below meth c H locs ls hC hw hS hl
  obtain ⟨hx, hb, hml, hr, hlk, hown, hts, hex, hTT, hPS, hR⟩ := hC
  exact W.iret hx hb (hr.trans hr0) (fun t ht hW => ⟨_, h, rfl, hF, by rw [ht]; exact hw, hS.F ht⟩) hS.2.2 hd
theorem j_zret {v : Int32} {ty : FieldType} (hd : decode Y.2.1 pc = .ok (.ireturn, 1)) (hr0 : Y.2.2.2 = some ty) (hn : narrow ty (.int v) = .int v) (hF : F (some (.int v)) h) : J G Y d 0 0 (KM G F) pc lv [.int v] h := by
  intro p e R s m args below meth c H locs ls hC hw hS hl
  obtain ⟨hx, hb, hml, hr, hlk, hown, hts, hex, hTT, hPS, hR⟩ := hC
  exact W.zret hx hb (hr.trans hr0) hn (fun t ht hW => ⟨_, h, rfl, hF, by rw [ht]; exact hw, hS.F ht⟩) hS.2.2 hd
theorem j_lret {v : Int64} (hd : decode Y.2.1 pc = .ok (.lreturn, 1)) (hr0 : Y.2.2.2 = some .long) (hF : F (some (.long v)) h) : J G Y d 0 0 (KM G F) pc lv [.long v] h := by
  intro p e R s m args below meth c H locs ls hC hw hS hl
  obtain ⟨hx, hb, hml, hr, hlk, hown, hts, hex, hTT, hPS, hR⟩ := hC
  exact W.lret hx hb (hr.trans hr0) (fun t ht hW => ⟨_, h, rfl, hF, by rw [ht]; exact hw, hS.F ht⟩) hS.2.2 hd
theorem j_vret (hd : decode Y.2.1 pc = .ok (.return_, 1)) (hr0 : Y.2.2.2 = none) (hF : F none h) : J G Y d 0 0 (KM G F) pc lv [] h := by
  intro p e R s m args below meth c H locs ls hC hw hS hl
  obtain ⟨hx, hb, hml, hr, hlk, hown, hts, hex, hTT, hPS, hR⟩ := hC
  exact W.vret hx hb (hr.trans hr0) (fun t ht hW => ⟨_, h, rfl, hF, by rw [ht]; exact hw, hS.F ht⟩) hS.2.2 hd
theorem wh_lt {G : GG} {h : AH} {H : Heap} (hw : WH G h H) : gB G ≤ H.size := by
  have h1 := (hw 0 _ (ws_at G h (by omega))).lt
  have h2 : gB G + 0 < H.size := h1
  omega
theorem tab_of {p : Program} {l : Launch} {y : MethodName} {S : Spec} {cc : ByteArray} {maxL : Nat} {ret : Option FieldType} {e : Env} {s s₁ : State} {m : MethodId} {args : Array Value} {below : List Frame} {meth : Method} {c : Code} (B : BodyLoose p l y S cc maxL ret e s m args below meth c s₁) (hts : ∀ w ∈ GW, w.before args s = true) : (Cond.code y cc maxL ret ∈ GW → ∀ x ∈ c.exceptionTable.toList, False) ∧ ∀ hh, Cond.codeWith y cc maxL ret hh ∈ GW → c.exceptionTable.toList = tableOf hh := by
  refine ⟨fun hw => ?_, fun hh hw => vx_table (x := y) B (hts _ hw)⟩
  obtain ⟨meth9, c9, h1, h2, -, -, -, -, h7, -⟩ := Cond.code_spec B.named (hts _ hw)
  cases Option.some.inj (h1.symm.trans B.method)
  cases Option.some.inj (h2.symm.trans (Stand.of_body B).code)
  intro x hx
  rw [Array.isEmpty_iff.mp h7] at hx
  cases hx
/-- a method's contract out of its walk -/
theorem sp_of {avs : List Value} (hp : plainFor Y.1 = true) (hlen : (lg_sl avs).length ≤ Y.2.2.1) (body : J G Y d 0 0 (KM G F) 0 (lv_args 0 avs) [] h) : Sp G d Y avs h F := by
  refine va_MetF (cc := Y.2.1) (maxL := Y.2.2.1) (ret := Y.2.2.2) hp rfl ?_
  intro p e s m args below meth c s₁ B hml hv
  obtain ⟨rfl, hT, hPS, hw⟩ := hv
  have hts := atoms_spec (ws := wsy Y) B.pre
  have hgw : ∀ w ∈ GW, w.before _ s = true := fun w hw => hts w (List.mem_cons_of_mem _ hw)
  rw [lg_entry_eq]
  exact body p e _ s m _ below meth c s.heap [] _ ⟨B.exec, B.bytes, hml, B.returns, B.notSynchronized, findClass_of_methodNamed B.named, hgw, tab_of B hgw, hT, hPS, Nat.le_refl _, Nat.le_refl _, Nat.le_refl _, Nat.le_refl _, wh_lt hw⟩ hw va_S.rf (lv_entry avs hlen)
end JR2
