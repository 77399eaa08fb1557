/-! the law's wrappers: methods with a table of their own, which return in every case -/
def wsh (Y : MI) (hh : List (Nat × Nat × Nat × Nat)) : List Cond := .codeWith Y.1 Y.2.1 Y.2.2.1 Y.2.2.2 hh :: GW
def SpW (G : GG) (d C : Nat) (Y : MI) (hh : List (Nat × Nat × Nat × Nat)) (avs : List Value) (h : AH) (v : Int32) (h' : AH) : Prop := Met (gL G) Y.1 (wsh Y hh) (rmc d C) (va_Pc avs (Wd G h)) (Qr G (fun o g => o = some (.int v) ∧ g = h')) C (6 * C) (AA G)
def KW (G : GG) (C : Nat) (v : Int32) (h' : AH) : KQ := fun below args s => MQ below (Qr G (fun o g => o = some (.int v) ∧ g = h')) args s C (6 * C) (AA G)
def CH (own : String) (idx : Nat) (Y : MI) (hh : List (Nat × Nat × Nat × Nat)) (na : Nat) : Prop := GoodIn GW (va_wsS own idx Y.1 (wsh Y hh)) ∧ (Y.1.cls ≠ "java/lang/invoke/MethodHandle" ∧ Y.1.cls ≠ "java/lang/invoke/VarHandle" ∧ (parseMethodDescriptor Y.1.desc).map (fun d => d.parameters.length) = some na) ∧ Y.2.2.1 ≤ 21
theorem gi_H {Y : MI} {own : String} {idx : Nat} {hh : List (Nat × Nat × Nat × Nat)} (h1 : Cond.methodLink own idx Y.1 ∈ GW) (h2 : Cond.static Y.1 ∈ GW) (h4 : Cond.initialized Y.1.cls ∈ GW) (h5 : Cond.codeWith Y.1 Y.2.1 Y.2.2.1 Y.2.2.2 hh ∈ GW) : GoodIn GW (va_wsS own idx Y.1 (wsh Y hh)) := by
  intro w hw
  unfold va_wsS at hw
  rcases List.mem_append.mp hw with hw | hw
  · simp only [List.mem_cons, List.not_mem_nil, or_false] at hw
    rcases hw with rfl | rfl | rfl
    · exact gw_in _ h1
    · exact gw_in _ h2
    · exact gw_in _ h4
  · rcases List.mem_cons.mp hw with e | z
    · exact e ▸ gw_in _ h5
    · exact gw_in w z
section WRP
variable {α : Type} {G : GG} {Y Y' : MI} {d d' C C' q : Nat} {K : KQ} {pc : Nat} {lv : List (Nat × Value)} {st rest As : List Value} {h h' : AH} {hh : List (Nat × Nat × Nat × Nat)}
theorem spw_of {avs : List Value} {v : Int32} (hp : plainName Y.1.cls = true) (hlen : (lg_sl avs).length ≤ Y.2.2.1) (body : J G Y d C 0 (KW G C v h') 0 (lv_args 0 avs) [] h) : SpW G d C Y hh avs h v h' := by
  refine va_MetW (cc := Y.2.1) (maxL := Y.2.2.1) (ret := Y.2.2.2) (hh := hh) hp rfl ?_
  intro p e s m args below meth c s₁ B hml hv
  obtain ⟨rfl, hT, hPS, hw⟩ := hv
  have hts := atoms_spec (ws := wsh Y hh) B.pre
  have hgw : ∀ w ∈ GW, w.before _ s = true := fun w hw => hts w (List.mem_cons_of_mem _ hw)
  rw [lg_entry_eq]
  exact body p e _ s m _ below meth c s.heap [] _ ⟨B.exec, B.bytes, hml, B.returns, B.notSynchronized, findClass_of_methodNamed B.named, hgw, tab_of B hgw, hT, hPS, Nat.le_refl _, Nat.le_refl _, Nat.le_refl _, Nat.le_refl _, wh_lt hw⟩ hw va_S.rf (lv_entry avs hlen)
theorem j_wret {v : Int32} (hq : q ≤ C) (hd : decode Y.2.1 pc = .ok (.ireturn, 1)) (hr0 : Y.2.2.2 = some .int) : J G Y d C q (KW G C v h) pc lv [.int v] h := by
  intro p e R s m args below meth c H locs ls hC hw hS hl
  obtain ⟨hx, hb, hml, hr, hlk, hown, hts, hex, hTT, hPS, hR⟩ := hC
  refine W.widen (k := C) (n := 6 * C) hq (by omega) ?_
  exact W.iret hx hb (hr.trans hr0) (fun t ht hW => ⟨_, h, rfl, ⟨rfl, rfl⟩, by rw [ht]; exact hw, hS.F ht⟩) hS.2.2 hd
theorem ex_cast {s : State} {args : Array Value} (hT : WT G s) : (Cond.castable nseN nseN).before args s = true ∧ (Cond.castable iaeN iaeN).before args s = true := ⟨va_Nw.use rfl hT.2.2.2.2.1, va_Nw.use rfl hT.2.2.2.2.2.1⟩
/-- a call that may throw, from a method that catches what it throws -/
theorem j_callVc {own : String} {idx a na n ci N : Nat} {T : u_T} {vm : α → Option Value} {r' : XR α} (hs : SpXg G d' C' Y' (.ref (ad G a) :: As) h vm r') (hcv : CV own idx Y' na) (hY : Y.1.cls = RL) (hown0 : own = RL) (hsh : SH a = (ci, n)) (hci : ci < 13) (hcl : vwCl[ci]? = some (Y'.1.cls, T, N)) (hdd : d' + 1 ≤ d) (hAs : As.length = na) (hst : st = As.reverse ++ .ref (ad G a) :: rest) (hW : (rest.map fun v => v.category).sum ≤ 8) (hd : decode Y.2.1 pc = .ok (.invokevirtual idx, 3)) (hqC : q + C' ≤ C) (hcw : Cond.codeWith Y.1 Y.2.1 Y.2.2.1 Y.2.2.2 hh ∈ GW)
    (kI : ∀ x, r' = .inl x → J G Y d C (q + C') K (pc + 3) lv ((vm x.1).toList ++ rest) x.2)
    (kC : ∀ x, r' = .inr x → ∃ (pre : List ExceptionTableEntry) (z : ExceptionTableEntry) (suf : List ExceptionTableEntry), tableOf hh = pre ++ z :: suf ∧ (∀ y ∈ pre, y.catchType = 13 ∧ x.1 ≠ 0) ∧ covers z pc = true ∧ ((z.catchType = 13 ∧ x.1 = 0) ∨ (z.catchType = 15 ∧ x.1 ≠ 0)) ∧ ∀ q9 : Nat, J G Y d C (q + C') K z.handlerPc lv [.ref q9] x.2) : J G Y d C q K pc lv st h := by
  intro p e R s m args below meth c H locs ls hC hw hS hl
  have hC0 := hC
  obtain ⟨hx, hb, hml, hr, hlk, hown, hts, hex, hTT, hPS, hR1, hR2, hR3, hR4, hB⟩ := hC
  obtain ⟨g1, g2, g3⟩ := hcv
  subst hown0
  have hown := hY ▸ hown
  have hrun := vx_runV (p := p) (e := e) (below := below) (meth := meth) (H := H) (locs := locs) (cells := q) (slots := 6 * q) (As := As) (rest := rest) (g := F0 m pc ls st) ⟨hx, hb, hml, hown, hts⟩ hs (cwV (R := R) (ws' := GW) na hts g1 rfl rfl rfl g2 ⟨by show d' + 1 ≤ R.frames; omega, by show 8 + (Y'.2.2.1 + 11) + 40 * d' ≤ R.locals; omega⟩) ⟨wd_blind G _ h, va_recv hTT.1 hw hcl (by rw [ws_at G h (sh_lt hsh (by omega)), cel_obj hsh hci]), fun U hU hWm => ⟨rfl, wd_now hC0 hw hS hU hWm⟩⟩ rfl hAs hl.1 hst (lv_room hW) hd ⟨by omega, by omega⟩
  intro Tt hT X
  rcases hrun Tt hT X with ⟨v, st₀, t, T', L, h0, X', hL, e1, e2, ⟨v', h', hv, ⟨x, hx1, hx2, hx3⟩, hw', hFr⟩, st1⟩ | ⟨q9, st₀, t, T', L, E, ce, h0, X', hL, e1, e2, ⟨h', ⟨x, hx1, hx2, hx3⟩, hw', hFr⟩, hce, hcv, hcl, st1⟩
  · cases hv
    subst hx2; subst hx3
    obtain ⟨t2, a1, b1⟩ := kI x hx1 p e R s m args below meth c T'.heap (locs ++ L) ls hC0 (by rw [e1]; exact hw') (s_more hS h0 e1 hFr hL) hl T' rfl (by rw [Nat.mul_add]; exact X')
    exact ⟨t2, st1 t2 a1, b1⟩
  · have hS2 := s_more hS h0 e1 hFr hL
    obtain ⟨pre, z, suf, k1, k2, k3, k4, k5⟩ := kC x hx1
    have hnext := k5 q9 p e R s m args below meth c T'.heap (locs ++ L) ls hC0 (by rw [e1, ← hx3]; exact hw') hS2 hl
    have hE : E = exN x.1 := hx2
    have hZ : vx_W p (gL G) e R s m args below meth c T'.heap (locs ++ L) (q + C') (6 * q + 6 * C') (K below args s) (F0 m pc ls rest) q9 := by
      rw [← Nat.mul_add]
      refine vx_catch (own := RL) (name := E) (E := E) (ce := ce) hown pre z suf ((hex.2 hh hcw).trans k1) (fun y hy => Or.inr ?_) k3 ?_ ?_ ?_ (by rw [e1]; exact hce) hcv hcl hnext
      · obtain ⟨y1, y2⟩ := k2 y hy
        refine ⟨by rw [y1]; decide, nseN, by rw [y1]; exact hts _ kl_RL_13, ?_⟩
        rw [hE]; unfold exN; rw [if_neg y2]; exact hTT.2.2.2.2.2.2.1
      · rcases k4 with ⟨w1, -⟩ | ⟨w1, -⟩ <;> (rw [w1]; decide)
      · rcases k4 with ⟨w1, w2⟩ | ⟨w1, w2⟩
        · rw [w1, hE]; unfold exN; rw [if_pos w2]; exact hts _ kl_RL_13
        · rw [w1, hE]; unfold exN; rw [if_neg w2]; exact hts _ kl_RL_15
      · rcases k4 with ⟨w1, w2⟩ | ⟨w1, w2⟩
        · rw [hE]; unfold exN; rw [if_pos w2]; exact (ex_cast hTT).1
        · rw [hE]; unfold exN; rw [if_neg w2]; exact (ex_cast hTT).2
    obtain ⟨t2, a1, b1⟩ := hZ T' rfl X'
    exact ⟨t2, st1.trans a1, b1⟩
/-- a call of a wrapper -/
theorem j_callW {own : String} {idx na : Nat} {v : Int32} (hs : SpW G d' C' Y' hh As h v h') (hcv : CH own idx Y' hh na) (hY : Y.1.cls = own) (hdd : d' + 1 ≤ d) (hAs : As.length = na) (hst : st = As.reverse ++ rest) (hW : (rest.map fun v => v.category).sum ≤ 8) (hd : decode Y.2.1 pc = .ok (.invokestatic idx, 3)) (hqC : q + C' ≤ C)
    (kk : J G Y d C (q + C') K (pc + 3) lv (.int v :: rest) h') : J G Y d C q K pc lv st h := by
  intro p e R s m args below meth c H locs ls hC hw hS hl
  have hC0 := hC
  obtain ⟨hx, hb, hml, hr, hlk, hown, hts, hex, hTT, hPS, hR1, hR2, hR3, hR4, hB⟩ := hC
  obtain ⟨g1, g2, g3⟩ := hcv
  have hrun := vx_runSW (p := p) (e := e) (below := below) (meth := meth) (H := H) (locs := locs) (cells := q) (slots := 6 * q) (As := As) (rest := rest) (g := F0 m pc ls st) ⟨hx, hb, hml, hY ▸ hown, hts⟩ hs (vx_cwSW (R := R) (ws' := GW) na hts g1 rfl rfl rfl g2 ⟨by show d' + 1 ≤ R.frames; omega, by show 8 + (Y'.2.2.1 + 11) + 40 * d' ≤ R.locals; omega⟩) ⟨wd_blind G _ h, fun U hU hWm => ⟨rfl, wd_now hC0 hw hS hU hWm⟩⟩ rfl hAs hl.1 hst (lv_room hW) hd ⟨by omega, by omega⟩
  intro T hT X
  obtain ⟨v', st₀, t, T', L, h0, X', hL, e1, e2, ⟨v2, h2, hv, ⟨rfl, rfl⟩, hw', hFr⟩, st1⟩ := hrun T hT X
  cases hv
  obtain ⟨t2, a1, b1⟩ := kk p e R s m args below meth c T'.heap (locs ++ L) ls hC0 (by rw [e1]; exact hw') (s_more hS h0 e1 hFr hL) hl T' rfl (by rw [Nat.mul_add]; exact X')
  exact ⟨t2, st1 t2 a1, b1⟩
end WRP
