/-! humps, hump -/
/-- one turn of the law with a long -/
def TL (e : Option (Int32 × AH)) (f : AH → Option (Int64 × AH)) (T : Nat) : Prop := ∃ q p, e = some q ∧ f q.2 = some p ∧ f_X12_thrown p.2 = q.1 ∧ (q.1 = 0 → lg_cmp (hla p.2 236 (cl 0)) p.1 = 0) ∧ inv p.2 (T + 1)
section HUQ
variable {h : AH} {S : SV} {T : Nat}
theorem TL_v {e : Option (XR Int64)} {g : Nat × AH → Option (Int32 × AH)} {F : AH → Option (Int64 × AH)} {v : Int64} (oS : okS S) (hM : MI2 h S T) (hc : ∃ h1, Fr (fun c => c < 193) h h1 ∧ CI h1 S ∧ e = some (.inl (v, h1))) (hm : ∀ h', MI2 h' S T → ∃ h1, FrQ h' h1 ∧ F h' = some (v, h1) ∧ hfi h1 193 2 = 0) : TL (bnd e (fun q => Sum.elim (fun x => some (0, sla x.2 236 0 x.1)) g q)) F T := by
  obtain ⟨k1, f1, c1, e1⟩ := hc
  have hM1 : MI2 (sla k1 236 0 v) S T := hM.cls ((f1.mono (fun c q => Or.inl q)).tr (Fr.sla _ _ _ _ (Or.inr rfl)))
  obtain ⟨k2, f2, e2, e3⟩ := hm _ hM1
  refine ⟨(0, sla k1 236 0 v), (v, k2), ?_, e2, e3, fun _ => ?_, S, oS, c1.o.mod (f2.1.mono (fun c q => by unfold WQ at q; omega)), (hM1.fr f2.m).le (by omega)⟩
  · rw [e1, bnd_s]; rfl
  · have : hla k2 236 = hla (sla k1 236 0 v) 236 := (f2.1 236 (by unfold WQ; omega)).2.2.2.1
    rw [this, show cl 0 = 0 from by decide, la_sla_eq]
    exact cmp_self _
theorem TL_x {e : Option (XR Int64)} {k : Int64 × AH → Option (Int32 × AH)} {F : AH → Option (Int64 × AH)} (oS : okS S) (hM : MI2 h S T) (hc : ∃ h1, Fr (fun c => c < 193) h h1 ∧ CI h1 S ∧ e = some (.inr (0, h1))) (hm : ∀ h', MI2 h' S T → ∃ v h1, FrQ h' h1 ∧ F h' = some (v, h1) ∧ hfi h1 193 2 = 1) : TL (bnd e (fun q => Sum.elim k (fun x => gd (x.1 = 0) (some (1, x.2))) q)) F T := by
  obtain ⟨k1, f1, c1, e1⟩ := hc
  have hM1 : MI2 k1 S T := hM.cls (f1.mono (fun c q => Or.inl q))
  obtain ⟨v, k2, f2, e2, e3⟩ := hm _ hM1
  refine ⟨(1, k1), (v, k2), ?_, e2, e3, fun z => absurd (show (1 : Int32) = 0 from z) (by decide), S, oS, c1.mod (f2.1.mono (fun c q => by unfold WQ at q; omega)), (hM1.fr f2.m).le (by omega)⟩
  rw [e1, bnd_s]
  show gd ((0 : Nat) = 0) _ = _
  rw [gd_t rfl]
theorem m_humpsNo {h' h1 : AH} {x y : Int32} (Q : FrQ (sfi h' 193 2 0) h1) (e : f_X12_tellHumps x y (sfi h' 193 2 0) = some (false, h1)) : ∃ v h2, FrQ h' h2 ∧ f_X12_humps x y h' = some (v, h2) ∧ hfi h2 193 2 = 1 := by
  refine ⟨0, sfi h1 193 2 1, ((code0 h').1.tr Q).tr (FrQ.code _ 2 _ (by omega)), ?_, fi_sfi_eq _ _ _ _⟩
  unfold f_X12_humps
  rw [lt_b, e, bnd_s]
  dsimp only
  rw [if_neg (by decide)]
  rfl
theorem tell_no {h' : AH} {y : Int32} {z : Int} (r1 : -2147483648 ≤ z) (r2 : z ≤ 2147483647) (q : ¬ (0 ≤ z ∧ z ≤ 5)) : f_X12_tellHumps (w32 z) y h' = some (false, h') := by
  unfold f_X12_tellHumps
  rw [m_askedOut r1 r2 q, bnd_s, if_neg (by decide)]
theorem tell_nk {h' : AH} {y : Int32} {b : Nat} (hM : MI2 h' S T) (oS : okS S) (hb : b < 6) (hk : ¬ kn (xb S b) (xg S b)) : f_X12_tellHumps (w32 b) y h' = some (false, h') := by
  unfold f_X12_tellHumps
  rw [(m_asked hM oS hb).2 hk, bnd_s, if_neg (by decide)]
theorem t_humps (x y : Int32) (hI : CI h S) (oS : okS S) (hM : MI2 h S T) : TL (f_L_humps x y h) (f_X12_humps x y) T := by
  unfold f_L_humps
  obtain ⟨z, rfl, r1, r2⟩ := w_ex x
  obtain ⟨y, rfl, r3, r4⟩ := w_ex y
  by_cases q : 0 ≤ z ∧ z ≤ 5
  · obtain ⟨b, rfl, hb⟩ := nat_of (n := 5) q
    have hb : b < 6 := by omega
    obtain ⟨k1, k2⟩ := c_known hI oS hb (u := 33) (Or.inl rfl)
    have sX := isB_sh (hI.1.1 b hb).1
    rcases Classical.em (kn (xb S b) (xg S b)) with hk | hk
    · obtain ⟨h1, e1, f1, u1⟩ := k1 hk
      have o := oS.1 b hb
      have oL := oS.2.1
      have kp := k_parted u1 o.1 o.2.1 oL hk r3 r4
      have hd : f_X11_humps (w32 b) (w32 y) h = bnd (f_X11_partedInto (w32 y) h1) (fun q3 => Sum.elim (fun xq3 => some (.inl (xq3.1, xq3.2))) (fun xq3 => some (.inr xq3)) q3) := by
        unfold f_X11_humps
        rw [e1, bnd_s]
        simp only [Sum.elim_inl]
        rw [gd_t sX]
      rcases Classical.em (gOK (xb S b) (xg S b) (xa S) y) with ok | no
      · obtain ⟨g, eg, -⟩ := nat_of (z := y) (n := 4) (by unfold gOK at ok; omega)
        obtain ⟨h2, e2, f2, -⟩ := kp.1 g eg ok
        rw [e2, bnd_s] at hd
        have F2 : Fr (fun c => 33 ≤ c ∧ c ≤ 66 ∧ c ≠ 57) h h2 := (f1.mono (fun c q => by unfold WU at q; omega)).tr (f2.mono (fun c q => by omega))
        refine TL_v oS hM ⟨h2, F2.mono (fun c q => by omega), hI.fr (F2.mono (fun c q => Or.inl q)), hd⟩ (fun h' hM' => ?_)
        obtain ⟨h3, e3, f3, g3, l3, -⟩ := (m_tellHumps (hM'.fr (code0 h').1.m) oS hb hk r3 r4).1 g eg ok
        refine ⟨h3, (code0 h').1.tr f3, ?_, g3.trans (code0 h').2⟩
        unfold f_X12_humps
        rw [lt_b, e3, bnd_s, if_pos rfl, l3]
      · obtain ⟨h2, e2, f2⟩ := kp.2 no
        rw [e2, bnd_s] at hd
        have F2 : Fr (fun c => 33 ≤ c ∧ c ≤ 66 ∧ c ≠ 57) h h2 := (f1.mono (fun c q => by unfold WU at q; omega)).tr (f2.mono (fun c q => by omega))
        refine TL_x oS hM ⟨h2, F2.mono (fun c q => by omega), hI.fr (F2.mono (fun c q => Or.inl q)), hd⟩ (fun h' hM' => ?_)
        obtain ⟨h3, e3, f3⟩ := (m_tellHumps (hM'.fr (code0 h').1.m) oS hb hk r3 r4).2 no
        exact m_humpsNo f3 e3
    · refine TL_x oS hM ⟨h, Fr.rf, hI, ?_⟩ (fun h' hM' => m_humpsNo FrQ.rf (tell_nk (hM'.fr (code0 h').1.m) oS hb hk))
      unfold f_X11_humps
      rw [k2 hk, bnd_s]
      rfl
  · refine TL_x oS hM ⟨h, Fr.rf, hI, ?_⟩ (fun h' hM' => m_humpsNo FrQ.rf (tell_no r1 r2 q))
    unfold f_X11_humps
    rw [c_knownOut r1 r2 q, bnd_s]
    rfl
theorem RM_humpNo {h' h1 : AH} {x y v : Int32} (Q : FrQ (sfi h' 193 2 0) h1) (e : f_X12_tellHumps x y (sfi h' 193 2 0) = some (false, h1)) : RM (f_X12_hump x y v h') h' none := by
  refine RM_fail ((code0 h').1.tr Q) ?_
  unfold f_X12_hump
  rw [lt_b, e, bnd_s]
  dsimp only
  rw [if_neg (by decide), m_fail, bnd_s]
theorem q_hump (x y v : Int32) (hI : CI h S) (oS : okS S) : ∃ s, RC (f_X11_hump x y v h) h s ∧ ∀ h', MI2 h' S T → RM (f_X12_hump x y v h') h' s := by
  obtain ⟨z, rfl, r1, r2⟩ := w_ex x
  obtain ⟨y, rfl, r3, r4⟩ := w_ex y
  by_cases q : 0 ≤ z ∧ z ≤ 5
  · obtain ⟨b, rfl, hb⟩ := nat_of (n := 5) q
    have hb : b < 6 := by omega
    obtain ⟨k1, k2⟩ := c_known hI oS hb (u := 33) (Or.inl rfl)
    have sX := isB_sh (hI.1.1 b hb).1
    rcases Classical.em (kn (xb S b) (xg S b)) with hk | hk
    · obtain ⟨h1, e1, f1, u1⟩ := k1 hk
      have fw1 := WU_ws (Or.inl rfl) f1
      have o := oS.1 b hb
      have oL := oS.2.1
      have kp := k_parted u1 o.1 o.2.1 oL hk r3 r4
      have hd : f_X11_hump (w32 b) (w32 y) v h = bnd (f_X11_checkHeld 33 v h1) (fun q3 => Sum.elim (fun xq3 => bnd (f_X11_partedInto (w32 y) xq3.2) (fun q4 => Sum.elim (fun xq4 => bnd (f_X4_groupOf 54 v xq4.2) (fun q5 => some (.inl (q5, xq4.2)))) (fun xq4 => some (.inr xq4)) q4)) (fun xq3 => some (.inr xq3)) q3) := by
        unfold f_X11_hump
        rw [e1, bnd_s]
        simp only [Sum.elim_inl]
        rw [gd_t sX]
      rcases held_or u1 o.1 v with ⟨k, hk12, rfl, hh, ch⟩ | ⟨ch, nh⟩
      · rw [ch, bnd_s] at hd
        simp only [Sum.elim_inl] at hd
        rcases Classical.em (gOK (xb S b) (xg S b) (xa S) y) with ok | no
        · obtain ⟨g, eg, -⟩ := nat_of (z := y) (n := 4) (by unfold gOK at ok; omega)
          obtain ⟨h2, e2, f2, m2, t2, z2⟩ := kp.1 g eg ok
          have hA := LI_rg2 o.1 o.2.1 oL hk
          have hLL : lOK (hL' (xb S b) (xg S b) (xa S)) := (lS_ok (H := sLo (xb S b)) hA 12).1
          have hK0 : ∀ i, 0 ≤ hK (xb S b) (xg S b) (xa S) i ∧ hK (xb S b) (xg S b) (xa S) i ≤ 12 := (lS_ok (H := sLo (xb S b)) hA 12).2
          have hm := hM_le (xb S b) (xg S b) (xa S)
          have okg := ok
          unfold gOK at okg
          have nn : 0 ≤ (hP' (xb S b) (xg S b) (xa S) g).1 := Rq_ne hLL hm (g - 1) 0 C0 0 (-1, C0) (by omega) (by show 0 + (g - 1) < _; omega)
          have rc : Rc (hM' (xb S b) (xg S b) (xa S)) g (hP' (xb S b) (xg S b) (xa S) g) := Rq_c (L := hL' (xb S b) (xg S b) (xa S)) (m := hM' (xb S b) (xg S b) (xa S)) (g := g) (g - 1) 0 C0 0 (-1, C0) (by omega) (Nat.zero_le _) (fun i hi => by omega) (fun z => by have z : (0 : Int) ≤ -1 := z; omega)
          obtain ⟨c1, c2, c3⟩ := rc nn
          obtain ⟨t3, t4, t5⟩ := t2 nn
          have ex := lS_ex (A := LI (xb S b) (xg S b) (xa S)) (H := sLo (xb S b)) 12 k hk12 (by have := sLo_pos hh; omega)
          have bnd12 : ∀ i, (hP' (xb S b) (xg S b) (xa S) g).2 i ≤ 12 := fun i => Nat.le_trans (c2 i) hm
          obtain ⟨i, hi, ei, bef, eg2⟩ := k_group (h := h2) hm m2 z2 hK0 hk12 ex t3 t4 t5 ⟨bnd12 1, bnd12 2, bnd12 3⟩
          refine ⟨some (gp ((hP' (xb S b) (xg S b) (xa S) g).2 1) ((hP' (xb S b) (xg S b) (xa S) g).2 2) ((hP' (xb S b) (xg S b) (xa S) g).2 3) i), RC_some (fw1.tr (f2.mono (fun c q => by unfold WS; omega))) ?_, fun h' hM => ?_⟩
          · rw [hd, e2, bnd_s]
            simp only [Sum.elim_inl]
            rw [show f_X4_groupOf 54 (w32 k) h2 = _ from eg2, bnd_s]
            rfl
          · have hM1 := hM.fr (code0 h').1.m
            obtain ⟨h3, e3, f3, g3, l3, cu, kd⟩ := (m_tellHumps hM1 oS hb hk r3 r4).1 g eg ok
            have hM3 := hM1.fr f3.m
            refine RM_some ((code0 h').1.tr f3) ?_ (g3.trans (code0 h').2)
            have l32 : f_X12_hump_l32 (w32 k) h3 FU 0 = some (w32 (i : Nat)) := loopN (fun n (s : Int32) => f_X12_hump_l32 (w32 k) h3 n s) (fun j => w32 (j : Nat)) i _ (fun j n hj => by
                have rk := hK0 j
                show f_X12_hump_l32 (w32 k) h3 (n + 1) (w32 j) = f_X12_hump_l32 (w32 k) h3 n (w32 (j + 1 : Nat))
                rw [f_X12_hump_l32, gd_t (by rw [w_ibN _ _ (by omega)]; omega), w_clN _ (by omega), kd j (by omega), if_neg (by rw [w_eq _ _ (by omega) (by omega) (by omega) (by omega)]; exact bef j hj), wl_1, w_add, w_s]) (fun n => by
                show f_X12_hump_l32 (w32 k) h3 (n + 1) (w32 i) = _
                rw [f_X12_hump_l32, gd_t (by rw [w_ibN _ _ (by omega)]; omega), w_clN _ (by omega), kd i hi, if_pos (by rw [ei])]) FU (by unfold FU; omega)
            generalize hP' (xb S b) (xg S b) (xa S) g = P at *
            have st : ∀ (j n : Nat), j + 1 ≤ g → f_X12_hump_l52 (w32 i) h3 (n + 1) (w32 j) = if i < P.2 (j + 1) then some (w32 j) else f_X12_hump_l52 (w32 i) h3 n (w32 (j + 1 : Nat)) := by
              intro j n hj
              have bb := bnd12 (j + 1)
              rw [f_X12_hump_l52, show w32 (j : Int) + 1 = w32 (j + 1 : Nat) from by rw [wl_1, w_add, w_s], gd_t (by rw [w_ibN _ _ (by omega)]; omega), w_clN _ (by omega), cu (j + 1) hj]
              have : (w32 (i : Int) < w32 (P.2 (j + 1) : Nat)) = (i < P.2 (j + 1)) := by rw [w_lt _ _ (by omega) (by omega) (by omega) (by omega)]; apply propext; omega
              simp only [this]
            have l52 : f_X12_hump_l52 (w32 i) h3 FU 0 = some (w32 (gp (P.2 1) (P.2 2) (P.2 3) i)) := by
              have m01 : P.2 1 ≤ P.2 2 := c1 1
              have m12 : P.2 2 ≤ P.2 3 := c1 2
              have m23 : P.2 3 ≤ P.2 4 := c1 3
              show f_X12_hump_l52 (w32 i) h3 (999 + 1) (w32 (0 : Nat)) = _
              unfold gp
              rw [st 0 999 (by omega)]
              by_cases a1 : i < P.2 1
              · rw [if_pos a1, if_pos a1, if_pos (by omega), if_pos (by omega)]; rfl
              · have g2 : 2 ≤ g := by
                  rcases Nat.lt_or_ge 1 g with z | z
                  · omega
                  · have := c3 1 (by omega); omega
                rw [if_neg a1, if_neg a1, st 1 998 (by omega)]
                by_cases a2 : i < P.2 2
                · rw [if_pos a2, if_pos a2, if_pos (by omega)]; rfl
                · have g3 : 3 ≤ g := by
                    rcases Nat.lt_or_ge 2 g with z | z
                    · omega
                    · have := c3 2 (by omega); omega
                  rw [if_neg a2, if_neg a2, st 2 997 (by omega)]
                  by_cases a3 : i < P.2 3
                  · rw [if_pos a3, if_pos a3]; rfl
                  · have g4 : 4 ≤ g := by
                      rcases Nat.lt_or_ge 3 g with z | z
                      · omega
                      · have := c3 3 (by omega); omega
                    have := c3 4 (by omega)
                    rw [if_neg a3, if_neg a3, st 3 996 (by omega), if_pos (show i < P.2 4 by omega)]
                    rfl
            unfold f_X12_hump
            rw [lt_b, e3, bnd_s]
            dsimp only
            rw [if_pos rfl, (m_has_k (hM3.mk oS hb) hk12).1 hh, bnd_s, if_pos rfl, l32, bnd_s, l52, bnd_s]
        · obtain ⟨h2, e2, f2⟩ := kp.2 no
          refine ⟨none, RC_none (fw1.tr (f2.mono (fun c q => by unfold WS; omega))) ?_, fun h' hM => ?_⟩
          · rw [hd, e2, bnd_s]
            rfl
          · obtain ⟨h3, e3, f3⟩ := (m_tellHumps (hM.fr (code0 h').1.m) oS hb hk r3 r4).2 no
            exact RM_humpNo f3 e3
      · refine ⟨none, RC_none fw1 ?_, fun h' hM => ?_⟩
        · rw [hd, ch, bnd_s]
          rfl
        · have hM1 := hM.fr (code0 h').1.m
          rcases Classical.em (gOK (xb S b) (xg S b) (xa S) y) with ok | no
          · obtain ⟨g, eg, -⟩ := nat_of (z := y) (n := 4) (by unfold gOK at ok; omega)
            obtain ⟨h3, e3, f3, -⟩ := (m_tellHumps hM1 oS hb hk r3 r4).1 g eg ok
            refine RM_fail ((code0 h').1.tr f3) ?_
            unfold f_X12_hump
            rw [lt_b, e3, bnd_s]
            dsimp only
            rw [if_pos rfl, nh _ b _ _ ((hM1.fr f3.m).mk oS hb), bnd_s, if_neg (by decide), m_fail, bnd_s]
          · obtain ⟨h3, e3, f3⟩ := (m_tellHumps hM1 oS hb hk r3 r4).2 no
            exact RM_humpNo f3 e3
    · refine ⟨none, RC_none Fr.rf ?_, fun h' hM => RM_humpNo FrQ.rf (tell_nk (hM.fr (code0 h').1.m) oS hb hk)⟩
      unfold f_X11_hump
      rw [k2 hk, bnd_s]
      rfl
  · refine ⟨none, RC_none Fr.rf ?_, fun h' hM => RM_humpNo FrQ.rf (tell_no r1 r2 q)⟩
    unfold f_X11_hump
    rw [c_knownOut r1 r2 q, bnd_s]
    rfl
end HUQ
