abbrev SMT : Nat := 11475
abbrev lvQ (G : GG) : List (Nat × Value) := [(4, .int 0), (3, .ref (ad G 236)), (2, .ref (ad G 193)), (1, .ref (ad G 0)), (0, .ref (gX G))]
theorem law_pre (G : GG) (K : KQ) (k : J1 G mL_law_ 24 20000 120000 K 23 (lvQ G) [] (csF G) 237 SMT) : J1 G mL_law_ 24 20000 120000 K 0 [(0, .ref (gX G))] [] [] 0 0 := by
  have kk : J2 G mL_law_ 24 20000 120000 (fun _ => K) 0 23 (lvQ G) [] (csF G) 237 SMT := by
    intro pre hn
    rw [List.length_eq_zero_iff.mp hn]
    exact k
  have h : J2 G mL_law_ 24 20000 120000 (fun _ => K) 0 0 [(0, .ref (gX G))] [] [] 0 0 := by
    refine m_new (k1 := 0) (r := 0) (l' := [fr_X11]) tyX11 rfl rfl ku_11 tyX11_ok rfl kl_RL_8 kx_ThumbBook kn_ThumbBook df_X11 (by decide) (by decide) rfl rfl dL_law__0 ?_
    refine m_dup dL_law__3 rfl ?_
    refine m_callI (l1 := []) (l' := blk_X11 G) (c_X11_init G) rfl rfl rfl rfl kc_yX11_init rfl kn_ThumbBook km_RL_109 ki_yX11_init rfl ⟨by decide, by decide, by decide +kernel⟩ (by decide) (by decide) (Nat.le_of_ble_eq_true rfl) (by decide) (by decide) dL_law__4 ?_
    refine m_astore_n (lv' := [(1, .ref (ad G 0)), (0, .ref (gX G))]) dL_law__7 (by decide) rfl ?_
    refine m_new (k1 := 193) (r := 193) (l' := blk_X11 G ++ [fr_X12]) tyX12 rfl rfl ku_12 tyX12_ok rfl kl_RL_110 kx_ThumbBookModel kn_ThumbBookModel df_X12 (by decide) (by decide) (blk_X11_len G) rfl dL_law__8 ?_
    refine m_dup dL_law__11 rfl ?_
    refine m_callI (l1 := blk_X11 G) (l' := blk_X11 G ++ blk_X12 G) (c_X12_init G) (by rw [blk_X11_len]) rfl rfl rfl kc_yX12_init rfl kn_ThumbBookModel km_RL_112 ki_yX12_init rfl ⟨by decide, by decide, by decide +kernel⟩ (by decide) (by decide) (Nat.le_of_ble_eq_true rfl) (by decide) (by decide) dL_law__12 ?_
    refine m_astore_n (lv' := [(2, .ref (ad G 193)), (1, .ref (ad G 0)), (0, .ref (gX G))]) dL_law__15 (by decide) rfl ?_
    refine m_iconst 1 dL_law__16 (by decide) ?_
    refine m_newJ (N := 1) (k1 := 236) (r := 236) (l' := csF G) rfl (by decide) (by decide) (by decide) (by decide) (by decide) (by rw [List.length_append, blk_X11_len, blk_X12_len]) rfl dL_law__17 ?_
    refine m_astore_n (lv' := [(3, .ref (ad G 236)), (2, .ref (ad G 193)), (1, .ref (ad G 0)), (0, .ref (gX G))]) dL_law__19 (by decide) rfl ?_
    refine m_iconst 0 dL_law__20 (by decide) ?_
    exact fun pre hn => k_istore (lv' := lvQ G) dL_law__21 (by decide) rfl (kk pre hn)
  exact h [] rfl
theorem law_mid (G : GG) (K : KQ) (k : J G mL_law_ 24 20000 1913 K 23 (lvQ G) [] h0) : J1 G mL_law_ 24 20000 120000 K 23 (lvQ G) [] (csF G) 237 SMT := by
  intro p e R s m args below meth c H locs ls hC hw hS hl
  obtain ⟨hx, hb, hml, hr, hlk, hown, hts, hnm0, ⟨hTT, hAO⟩, hPS, hR1, hR2, hR3, hR4, hB, hex⟩ := hC
  exact W.widen (by decide) (by decide) (k p e R s m args below meth c H locs ls ⟨hx, hb, hml, hr, hlk, hown, hts, hex, hTT, hPS, hR1, hR2, hR3, hR4, hB⟩ (wh_of G hw) hS hl)
def R_law : String := "ThumbBookLaw"
def lw_P (b : Addr) (xs : List Int32) (args : Array Value) (s : State) : Prop := args = #[.ref b] ∧ s.IntsAt b xs ∧ xs.length ≤ 3072 ∧ (Jvm.Cond.and given_1 narrow_1).before args s = true
def lw_Q (_ : Array Value) (s : State) (o : Outcome) (t : State) : Prop := o = .returned (some (.int 1)) ∧ Framed s o t [] 601024 7293034
def lw_Z (below : List Frame) (a : Array Value) (s : State) : State → Prop := fun t => ∃ o, t.status = .running ∧ Ended t below o ∧ lw_Q a s o t
/-- the law's own end, with 1 on the stack, nothing written that was there before, its room as the claim has it -/
theorem lw_ret {p : Program} {l : Launch} {e : Env} {s : State} {m : MethodId} {below : List Frame} {meth : Method} {c : Code} {R : Room} {args : Array Value} (hx : p.tables.exec = Jvm.exec) (hb : c.code = code) (hr : meth.sig.returnType = ret) (hlocks : meth.locks = false) {pc : Nat} {H : Heap} {ls : Array Slot} (hdg : decode code pc = .ok (.ireturn, 1)) : W p l e R s m args below meth c H [] 601024 7293034 (lw_Z below args s) (F0 m pc ls [.int 1]) := by
  intro T hT X
  obtain ⟨fs, hret, hrun, hended, hW, hframe⟩ := X.leave (v := some (.int 1)) (hlocks := hlocks) (fun h => by rw [hr] at h; cases h)
  have hmeth' : T.vm.method? m = some meth := X.method'
  refine ⟨T.setFrames fs, ?_, .returned (some (.int 1)), hrun, hended, rfl, ⟨_, rfl⟩, hW, hframe⟩
  jvm_step X.here [X.here.top, hx, hb, hdg, hmeth', hr, ret, narrow_b1]
  (try refine ⟨rfl, ?_⟩); (try refine ⟨rfl, ?_⟩)
  first | (intro acts; rw [hret _ acts rfl rfl rfl]) | rw [hret _ _ rfl rfl rfl]
  exact Steps.refl _
def K0 (G : GG) : KQ := fun below args s t => s.heap.size = gB G → lw_Z below args s t
theorem law_end (G : GG) (x : AH) (q : Nat) (hq : q ≤ 20000) : J G mL_law_ 24 20000 q (K0 G) 2472 [] [] x := by
  intro p e R s m args below meth c H locs ls hC hw hS hl
  obtain ⟨hx, hb, hml, hr, hlk, hown, hts, hex, hTT, hPS, hR⟩ := hC
  by_cases hz : s.heap.size = gB G
  · have k : W p (gL G) e R s m args below meth c H locs q (6 * q) (lw_Z below args s) (F0 m 2472 ls []) := by
      refine va_forget (fun l hl => by have := hS.2.2 l hl; rw [hz]; exact this) ?_
      refine W.widen (k := 601024) (n := 7293034) (by omega) (by omega) ?_
      refine lv_iconst hx hb dL_law__2472 (v := 1) (by decide) ?_
      exact lw_ret hx hb hr hlk dL_law__2473
    intro T hT X
    obtain ⟨t, a1, b1⟩ := k T hT X
    exact ⟨t, a1, fun _ => b1⟩
  · intro T hT X
    exact ⟨_, Steps.refl _, fun h => absurd h hz⟩
theorem law_go (G : GG) (r : AH) (hr : f_law (gS G) (gN G) 513 0 h0 = some (.inl r)) : J1 G mL_law_ 24 20000 120000 (K0 G) 0 [(0, .ref (gX G))] [] [] 0 0 := by
  refine law_pre G _ (law_mid G _ ?_)
  refine j_sub [4, 3, 2, 1, 0] rfl ?_
  exact cl_law G (K0 G) 513 0 h0 1913 (.inl r) hr (by decide) (fun x _ q' hq => law_end G x q' hq) (fun x e => nomatch e)
