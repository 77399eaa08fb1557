/-! humps: the class -/
section HUC
variable {h : AH} {S : SV} {T b B : Nat} {β : BV} {γ : GV} {a : LV}
theorem LI_rg2 (oB : okB β) (oG : okG (vL β) γ) (oL : okL a) (hk : kn β γ) (k : Nat) : 0 ≤ LI β γ a k ∧ LI β γ a k ≤ 1000050 := by
  have r0 := LI_rg oB oG oL hk k
  refine ⟨r0.1, ?_⟩
  unfold LI
  by_cases q : sLo β k = 0
  · rw [if_pos q]; omega
  · rw [if_neg q]
    have p2 := sLo_rg oB k
    have key : ∀ n, n ≤ vL β → sm (sMk β γ a k) n ≤ 2000098 * sm (fun l => if vk β l = k then 1 else 0) n := by
      intro n
      induction n with
      | zero => intro _; exact Int.le_refl _
      | succ n ih =>
        intro hn
        have i := ih (by omega)
        have hn' : n < vL β := by omega
        have rr := sMid_rg oB oG oL hn' (kn_l hk hn').1 (kn_l hk hn').2
        rw [sm_s, sm_s]
        unfold sMk at i ⊢
        by_cases e : vk β n = k
        · rw [if_pos e, if_pos e]; omega
        · rw [if_neg e, if_neg e]; omega
    have kk := key (vL β) (Nat.le_refl _)
    have kk : sm (sMk β γ a k) (vL β) ≤ 2000098 * sLo β k := kk
    have : sLi β γ a k < 1000050 := Int.ediv_lt_of_lt_mul (by omega) (by show sm (sMk β γ a k) (vL β) < _; omega)
    omega
/-- rows r (kinds) and r + 1 (lights) hold the first m of K, L -/
def HR (h : AH) (r : Nat) (m : Nat) (K L : Nat → Int) : Prop := ∀ i, i < m → hia h r i = w32 (K i) ∧ hia h (r + 1) i = w32 (L i)
theorem k_ins {m : Nat} {K L : Nat → Int} (hR : HR h 55 m K L) (hm : m < 12) (h0 : hfi h 54 0 = w32 m) {k : Nat} {v : Int} (hL : lOK L) (hv : 0 ≤ v ∧ v ≤ 1000050) : ∃ h1, f_X4_insert 54 (w32 k) (w32 v) h = some h1 ∧ Fr (fun c => 54 ≤ c ∧ c ≤ 56) h h1 ∧ hfi h1 54 0 = w32 (m + 1 : Nat) ∧ HR h1 55 (m + 1) (ins K (k : Int) (ps L v m)) (ins L v (ps L v m)) := by
  have pl := ps_le L v m
  have pg := ps_gt L v m
  have pa := ps_at L v m
  generalize ps L v m = p at *
  obtain ⟨⟨r1, h1⟩, e, q1, q2, q3, q4⟩ := loopR (fun n (s : Int32 × AH) => f_X4_insert_l5 54 (w32 v) n s.1 s.2) (fun i s => s.1 = w32 (m - i : Nat) ∧ Fr (fun c => c = 55 ∨ c = 56) h s.2 ∧ (∀ j, j < m - i → hia s.2 55 j = w32 (K j) ∧ hia s.2 56 j = w32 (L j)) ∧ ∀ j, m - i < j → j ≤ m → hia s.2 55 j = w32 (K (j - 1)) ∧ hia s.2 56 j = w32 (L (j - 1))) (fun t => t.1 = w32 (p : Nat) ∧ Fr (fun c => c = 55 ∨ c = 56) h t.2 ∧ (∀ j, j < p → hia t.2 55 j = w32 (K j) ∧ hia t.2 56 j = w32 (L j)) ∧ ∀ j, p < j → j ≤ m → hia t.2 55 j = w32 (K (j - 1)) ∧ hia t.2 56 j = w32 (L (j - 1))) (m - p) (fun i n s hi hP => by
      obtain ⟨v3, hh⟩ := s
      obtain ⟨p1, p2, p3, p4⟩ := hP
      dsimp only at p1 p2 p3 p4
      subst p1
      obtain ⟨c, hc⟩ : ∃ c, m - i = c + 1 := ⟨m - i - 1, by omega⟩
      rw [hc] at p3 p4
      obtain ⟨d1, d2⟩ := p3 c (by omega)
      have gt := pg c (by omega) (by omega)
      have rc := hL c
      have em : w32 ((m - i : Nat) : Int) - 1 = w32 (c : Nat) := by rw [hc, wl_1, w_sub]; exact ww (by omega)
      have em2 : w32 ((m - i : Nat) : Int) + (-1) = w32 (m - (i + 1) : Nat) := by rw [hc, wl_1, w_neg, w_add]; exact ww (by omega)
      refine ⟨(w32 (m - (i + 1) : Nat), sia (sia hh 56 (c + 1) (w32 (L c))) 55 (c + 1) (w32 (K c))), ⟨rfl, (p2.tr (Fr.sia _ _ _ _ (Or.inr rfl))).tr (Fr.sia _ _ _ _ (Or.inl rfl)), fun j hj => ?_, fun j hj hj2 => ?_⟩, ?_⟩
      · dsimp only
        simp (disch := omega) only [ia_sia_ne, ia_sia_nk]
        exact p3 j (by omega)
      · dsimp only
        by_cases q : j = c + 1
        · subst q
          simp (disch := omega) only [ia_sia_ne, ia_sia_eq]
          exact ⟨rfl, rfl⟩
        · simp (disch := omega) only [ia_sia_ne, ia_sia_nk]
          exact p4 j (by omega) hj2
      · show f_X4_insert_l5 54 (w32 v) (n + 1) (w32 (m - i : Nat)) hh = f_X4_insert_l5 54 (w32 v) n (w32 (m - (i + 1) : Nat)) _
        rw [f_X4_insert_l5, if_neg (by rw [wl_0, w_le _ _ (by omega) (by omega) (by omega) (by omega)]; omega), em, em2, gd_t (by rw [w_ibN _ _ (by omega)]; omega), w_clN c (by omega), show hia hh (54 + 2) c = _ from d2, if_neg (by rw [w_le _ _ (by omega) (by omega) (by omega) (by omega)]; exact gt), gd_t (by rw [w_ibN _ _ (by omega)]; omega), gd_t (by rw [w_ibN _ _ (by omega)]; omega), lt_b, w_clN (m - i) (by omega), gd_t (by rw [w_ibN _ _ (by omega)]; omega), gd_t (by rw [w_ibN _ _ (by omega)]; omega), lt_b, hc]
        rw [ia_sia_ne _ _ _ _ (54 + 1) (by omega), show hia hh (54 + 1) c = _ from d1]) (fun n s hP => by
      obtain ⟨v3, hh⟩ := s
      obtain ⟨p1, p2, p3, p4⟩ := hP
      dsimp only at p1 p2 p3 p4
      subst p1
      have ep : m - (m - p) = p := by omega
      rw [ep] at p3 p4
      refine ⟨(w32 (p : Nat), hh), ?_, rfl, p2, p3, p4⟩
      show f_X4_insert_l5 54 (w32 v) (n + 1) (w32 (m - (m - p) : Nat)) hh = _
      rw [ep, f_X4_insert_l5]
      rcases Nat.eq_zero_or_pos p with z | z
      · rw [if_pos (by rw [wl_0, w_le _ _ (by omega) (by omega) (by omega) (by omega)]; omega)]
      · have le : L (p - 1) ≤ v := by rcases pa with e | e; omega; exact e
        have rc := hL (p - 1)
        rw [if_neg (by rw [wl_0, w_le _ _ (by omega) (by omega) (by omega) (by omega)]; omega), show w32 (p : Int) - 1 = w32 (p - 1 : Nat) from by rw [wl_1, w_sub]; exact ww (by omega), gd_t (by rw [w_ibN _ _ (by omega)]; omega), w_clN (p - 1) (by omega), show hia hh (54 + 2) (p - 1) = _ from (p3 (p - 1) (by omega)).2, if_pos (by rw [w_le _ _ (by omega) (by omega) (by omega) (by omega)]; exact le)]) FU (by unfold FU; omega) (w32 m, h) ⟨by rw [Nat.sub_zero], Fr.rf, fun j hj => hR j (by omega), fun j hj hj2 => by omega⟩
  dsimp only at q1 q2 q3 q4
  subst q1
  have f0 : hfi h1 54 0 = w32 m := by rw [(q2 54 (by omega)).1]; exact h0
  refine ⟨sfi (sia (sia h1 56 p (w32 v)) 55 p (w32 k)) 54 0 (w32 (m + 1 : Nat)), ?_, ((((q2.mono (fun c q => by omega)).tr (Fr.sia _ _ _ _ (by omega))).tr (Fr.sia _ _ _ _ (by omega))).tr (Fr.sfi _ _ _ _ (by omega))), fi_sfi_eq _ _ _ _, fun i hi => ?_⟩
  · unfold f_X4_insert
    rw [h0, e, bnd_s]
    dsimp only
    rw [gd_t (by rw [w_ibN _ _ (by omega)]; omega), lt_b, gd_t (by rw [w_ibN _ _ (by omega)]; omega), lt_b, lt_b, w_clN _ (by omega), show hfi (sia (sia h1 (54 + 2) p (w32 v)) (54 + 1) p (w32 k)) 54 0 = _ from f0, wl_1, w_add, w_s]
  · show hia (sia (sia h1 56 p (w32 v)) 55 p (w32 k)) 55 i = _ ∧ hia (sia (sia h1 56 p (w32 v)) 55 p (w32 k)) 56 i = _
    unfold ins
    rcases Nat.lt_trichotomy i p with z | z | z
    · rw [if_pos z, if_pos z]
      simp (disch := omega) only [ia_sia_ne, ia_sia_nk]
      exact q3 i z
    · subst z
      rw [if_neg (by omega), if_pos rfl, if_neg (by omega), if_pos rfl]
      simp (disch := omega) only [ia_sia_ne, ia_sia_eq]
      exact ⟨trivial, trivial⟩
    · rw [if_neg (by omega), if_neg (by omega), if_neg (by omega), if_neg (by omega)]
      simp (disch := omega) only [ia_sia_ne, ia_sia_nk]
      exact q4 i z (by omega)
theorem k_sort (hU : UF h 33 β γ a) (oB : okB β) (oG : okG (vL β) γ) (oL : okL a) (hk : kn β γ) : ∃ h1, f_X4_sort 54 33 h = some h1 ∧ Fr (fun c => 54 ≤ c ∧ c ≤ 56) h h1 ∧ hfi h1 54 0 = w32 ((lS (LI β γ a) (sLo β) 12).1 : Nat) ∧ HR h1 55 (lS (LI β γ a) (sLo β) 12).1 (lS (LI β γ a) (sLo β) 12).2.1 (lS (LI β γ a) (sLo β) 12).2.2 := by
  have hA := LI_rg2 oB oG oL hk
  obtain ⟨h1, e, q⟩ := loopR (fun n (s : Int32 × AH) => f_X4_sort_l7 54 33 n s.1 s.2) (fun i s => s.1 = w32 (i : Nat) ∧ Fr (fun c => 54 ≤ c ∧ c ≤ 56) h s.2 ∧ hfi s.2 54 0 = w32 ((lS (LI β γ a) (sLo β) i).1 : Nat) ∧ HR s.2 55 (lS (LI β γ a) (sLo β) i).1 (lS (LI β γ a) (sLo β) i).2.1 (lS (LI β γ a) (sLo β) i).2.2) (fun h1 => Fr (fun c => 54 ≤ c ∧ c ≤ 56) h h1 ∧ hfi h1 54 0 = w32 ((lS (LI β γ a) (sLo β) 12).1 : Nat) ∧ HR h1 55 (lS (LI β γ a) (sLo β) 12).1 (lS (LI β γ a) (sLo β) 12).2.1 (lS (LI β γ a) (sLo β) 12).2.2) 12 (fun i n s hi hP => by
      obtain ⟨v2, hh⟩ := s
      obtain ⟨p1, p2, p3, p4⟩ := hP
      dsimp only at p1 p2 p3 p4
      subst p1
      have u := (hU.fr p2 (fun c h1 h2 => by omega)).k33 hk hi
      have p := sLo_rg oB i
      by_cases q : sLo β i = 0
      · refine ⟨(w32 (i + 1 : Nat), hh), ⟨rfl, p2, by rw [lS_0 q]; exact p3, by rw [lS_0 q]; exact p4⟩, ?_⟩
        show f_X4_sort_l7 54 33 (n + 1) (w32 i) hh = f_X4_sort_l7 54 33 n (w32 (i + 1 : Nat)) hh
        rw [f_X4_sort_l7, if_neg (by rw [wl_12, w_le _ _ (by omega) (by omega) (by omega) (by omega)]; omega), gd_t (by rw [w_ibN _ _ (by omega)]; omega), w_clN _ (by omega), show hia hh (33 + 7) i = _ from u.2, if_pos (by rw [wl_0, w_le _ _ (by omega) (by omega) (by omega) (by omega)]; omega), wl_1, w_add, w_s]
      · obtain ⟨h2, e2, f2, g2, r2⟩ := k_ins (k := i) p4 (Nat.lt_of_le_of_lt (lS_le _ _ i) hi) p3 (lS_ok hA i).1 (hA i)
        refine ⟨(w32 (i + 1 : Nat), h2), ⟨rfl, p2.tr f2, by rw [lS_1 q]; exact g2, by rw [lS_1 q]; exact r2⟩, ?_⟩
        show f_X4_sort_l7 54 33 (n + 1) (w32 i) hh = f_X4_sort_l7 54 33 n (w32 (i + 1 : Nat)) h2
        rw [f_X4_sort_l7, if_neg (by rw [wl_12, w_le _ _ (by omega) (by omega) (by omega) (by omega)]; omega), gd_t (by rw [w_ibN _ _ (by omega)]; omega), w_clN _ (by omega), show hia hh (33 + 7) i = _ from u.2, if_neg (by rw [wl_0, w_le _ _ (by omega) (by omega) (by omega) (by omega)]; omega), gd_t (by rw [w_ibN _ _ (by omega)]; omega), show hia hh (33 + 6) i = w32 (LI β γ a i) from u.1, e2, bnd_s, wl_1, w_add, w_s]) (fun n s hP => by
      obtain ⟨v2, hh⟩ := s
      obtain ⟨p1, p2⟩ := hP
      dsimp only at p1 p2
      subst p1
      refine ⟨hh, ?_, p2⟩
      show f_X4_sort_l7 54 33 (n + 1) (w32 (12 : Nat)) hh = _
      rw [f_X4_sort_l7, if_pos (by decide)]) FU (by decide) (0, sfi h 54 0 0) ⟨rfl, Fr.sfi _ _ _ _ (by omega), fi_sfi_eq _ _ _ _, fun i hi => absurd hi (Nat.not_lt_zero _)⟩
  refine ⟨h1, ?_, q⟩
  unfold f_X4_sort
  rw [lt_b, show f_X4_sort_l7 54 33 FU 0 (sfi h 54 0 0) = _ from e, bnd_s]
/-! the spreads -/
theorem k_spread {m : Nat} {L : Nat → Int} (hL : lOK L) (hm : m ≤ 12) (hr : ∀ i, i < m → hia h 56 i = w32 (L i)) {f t : Nat} (hf : f ≤ m) (ht : t ≤ m) : f_X4_spread 54 (w32 f) (w32 t) h = some (w64 (sp L f t)) := by
  unfold f_X4_spread
  rw [w_sub, w_l _ (by omega) (by omega)]
  by_cases q : t ≤ f
  · rw [if_neg (by rw [vl_1, c_ge _ _ (by omega) (by omega) (by omega) (by omega)]; omega)]
    unfold sp
    rw [if_pos q]
    rfl
  · rw [if_pos (by rw [vl_1, c_ge _ _ (by omega) (by omega) (by omega) (by omega)]; omega)]
    have lp : f_X4_spread_l22 54 (w32 t) h FU 0 0 (w32 f) = some (w64 (sm L t - sm L f), w64 (sm (sq L) t - sm (sq L) f)) := by
      have := loopF (fun n (s : Int64 × Int64 × Int32) => f_X4_spread_l22 54 (w32 t) h n s.1 s.2.1 s.2.2) (fun i => (w64 (sm L i - sm L f), w64 (sm (sq L) i - sm (sq L) f), w32 (i : Nat))) f t (by omega) (w64 (sm L t - sm L f), w64 (sm (sq L) t - sm (sq L) f)) (fun i n h1 h2 => by
          have rl := hL i
          show f_X4_spread_l22 54 (w32 t) h (n + 1) (w64 (sm L i - sm L f)) (w64 (sm (sq L) i - sm (sq L) f)) (w32 i) = f_X4_spread_l22 54 (w32 t) h n (w64 (sm L (i + 1) - sm L f)) (w64 (sm (sq L) (i + 1) - sm (sq L) f)) (w32 (i + 1 : Nat))
          rw [f_X4_spread_l22, if_neg (by rw [w_le _ _ (by omega) (by omega) (by omega) (by omega)]; omega), gd_t (by rw [w_ibN _ _ (by omega)]; omega), gd_t (by rw [w_ibN _ _ (by omega)]; omega), gd_t (by rw [w_ibN _ _ (by omega)]; omega), w_clN _ (by omega), show hia h (54 + 2) i = _ from hr i (by omega), w_l _ (by omega) (by omega), v_add, v_mul, v_add, wl_1, w_add, w_s, sm_s, sm_s, show sm L i - sm L f + L i = sm L i + L i - sm L f by omega, show sm (sq L) i - sm (sq L) f + L i * L i = sm (sq L) i + sq L i - sm (sq L) f from by show _ = sm (sq L) i + L i * L i - sm (sq L) f; omega]) (fun n => by
          show f_X4_spread_l22 54 (w32 t) h (n + 1) _ _ (w32 t) = _
          rw [f_X4_spread_l22, if_pos (Int32.le_refl _)]) FU (by unfold FU; omega)
      dsimp only at this
      rw [Int.sub_self, Int.sub_self] at this
      exact this
    have rg := spN_rg hL (show f ≤ t by omega) (show t ≤ 12 by omega)
    rw [lp, bnd_s]
    dsimp only
    rw [gd_t (by rw [vl_0, v_eq _ _ (by omega) (by omega) (by omega) (by omega)]; omega), v_mul, v_mul, v_sub, vl_1000, v_mul, show ((t : Int) - f) * (sm (sq L) t - sm (sq L) f) - (sm L t - sm L f) * (sm L t - sm L f) = spN L f t from rfl, v_divP _ _ (by omega) (by omega) (by omega) (by omega)]
    unfold sp
    rw [if_neg q]
/-! the three loops -/
def tP (h : AH) (p : TZ) : Prop := 0 ≤ p.1 → hfi h 54 3 = w32 (p.2.1 : Nat) ∧ hfi h 54 4 = w32 (p.2.2.1 : Nat) ∧ hfi h 54 5 = w32 (p.2.2.2 : Nat)
def tR (p : TZ) : Prop := -1 ≤ p.1 ∧ p.1 ≤ 600000000000000000
def hR (h : AH) (m : Nat) (L : Nat → Int) : Prop := hfi h 54 0 = w32 (m : Nat) ∧ ∀ i, i < m → hia h 56 i = w32 (L i)
def F54 (h h1 : AH) : Prop := Fr (fun c => c = 54) h h1 ∧ hfi h1 54 0 = hfi h 54 0
theorem F54.rf : F54 h h := ⟨Fr.rf, rfl⟩
theorem F54.tr {h1 h2 : AH} (x : F54 h h1) (y : F54 h1 h2) : F54 h h2 := ⟨x.1.tr y.1, y.2.trans x.2⟩
theorem F54.w (h : AH) (k : Nat) (v : Int32) (hk : k ≠ 0) : F54 h (sfi h 54 k v) := ⟨Fr.sfi _ _ _ _ rfl, fi_sfi_nk _ _ _ _ _ (fun e => hk e.symm)⟩
theorem hR.fr {h1 : AH} {m : Nat} {L : Nat → Int} (x : hR h m L) (y : F54 h h1) : hR h1 m L := ⟨y.2.trans x.1, fun i hi => by rw [(y.1 56 (by omega)).2.2.1]; exact x.2 i hi⟩
theorem tu_R {p : TZ} {v : Int} {x y z : Nat} (hp : tR p) (h1 : 0 ≤ v) (h2 : v ≤ 600000000000000000) : tR (tu p v x y z) := by
  unfold tu
  by_cases q : p.1 < 0 ∨ v < p.1
  · rw [if_pos q]; unfold tR; dsimp only; omega
  · rw [if_neg q]; exact hp
section LOP
variable {m g : Nat} {L : Nat → Int}
theorem le0 (k : AH) (e0 : hfi k 54 0 = w32 (m : Nat)) : f_X4_lastEnd 54 false k = w32 (m : Nat) := by
  unfold f_X4_lastEnd
  rw [if_neg (show ¬ false = true by decide), e0]
theorem le1 (k : AH) (hm : 1 ≤ m) (e0 : hfi k 54 0 = w32 (m : Nat)) : f_X4_lastEnd 54 true k = w32 ((m - 1 : Nat) : Int) := by
  unfold f_X4_lastEnd
  rw [if_pos rfl, e0, wl_1, w_sub]
  exact ww (by omega)
theorem k_part93 (hL : lOK L) (hm : m ≤ 12) (hh : hR h m L) (h1 : 1 ≤ g) (h4 : g ≤ 4) {x y : Nat} (hx : x ≤ m) (hy : y ≤ m) (hgy : 4 ≤ g → y < m) {p : TZ} (hp : tR p) (hP0 : tP h p) : ∃ k1, f_X4_part_l93 54 (w32 g) (w32 x) (w32 y) FU (w64 p.1) (w32 (ts g 3 m y : Nat)) h = some (w64 (T3 L g m x y p).1, k1) ∧ F54 h k1 ∧ tP k1 (T3 L g m x y p) ∧ tR (T3 L g m x y p) := by
  have s0 := hh.1
  have rs : ∀ c, c ≤ m → 0 ≤ sp L 0 x + sp L x y + sp L y c + sp L c m ∧ sp L 0 x + sp L x y + sp L y c + sp L c m ≤ 600000000000000000 := fun c hc => by
    have a1 := sp_rg hL 0 x (by omega)
    have a2 := sp_rg hL x y (by omega)
    have a3 := sp_rg hL y c (by omega)
    have a4 := sp_rg hL c m hm
    omega
  have stp : ∀ (n : Nat) (v2 : Int64) (v6 : Int32) (k : AH), hfi k 54 0 = w32 (m : Nat) → f_X4_part_l93 54 (w32 g) (w32 x) (w32 y) (n + 1) v2 v6 k = if w32 ((if g ≤ 3 then m else m - 1 : Nat) : Int) < v6 then some (v2, k) else bnd (f_X4_spread 54 0 (w32 x) k) (fun q22 => bnd (f_X4_spread 54 (w32 x) (w32 y) k) (fun q23 => bnd (f_X4_spread 54 (w32 y) v6 k) (fun q24 => bnd (f_X4_spread 54 v6 (w32 (m : Nat)) k) (fun q25 => if (lg_cmp v2 (-1)) = 0 then f_X4_part_l93 54 (w32 g) (w32 x) (w32 y) n (((q22 + q23) + q24) + q25) (v6 + 1) (sfi (sfi (sfi k 54 3 (w32 x)) 54 4 (w32 y)) 54 5 v6) else if 0 ≤ (lg_cmp (((q22 + q23) + q24) + q25) v2) then f_X4_part_l93 54 (w32 g) (w32 x) (w32 y) n v2 (v6 + 1) k else f_X4_part_l93 54 (w32 g) (w32 x) (w32 y) n (((q22 + q23) + q24) + q25) (v6 + 1) (sfi (sfi (sfi k 54 3 (w32 x)) 54 4 (w32 y)) 54 5 v6))))) := by
    intro n v2 v6 k e0
    by_cases q : g ≤ 3
    · rw [f_X4_part_l93, lt_b, if_pos (by rw [wl_3, w_le _ _ (by omega) (by omega) (by omega) (by omega)]; omega), if_pos q]
      dsimp only
      rw [le0 k e0, e0]
      rfl
    · rw [f_X4_part_l93, lt_b, if_neg (by rw [wl_3, w_le _ _ (by omega) (by omega) (by omega) (by omega)]; omega), if_neg q]
      dsimp only
      rw [le1 k (by have := hgy (by omega); omega) e0, e0]
      rfl
  have bd : ∀ i, i < tc g 3 m y → ts g 3 m y + i ≤ (if g ≤ 3 then m else m - 1) := fun i hi => by
    unfold tc at hi; unfold ts
    by_cases q : g ≤ 3
    · rw [if_pos q] at hi ⊢; rw [if_pos q]; omega
    · rw [if_neg q] at hi ⊢; rw [if_neg q]; omega
  have be : (if g ≤ 3 then m else m - 1) < ts g 3 m y + tc g 3 m y := by
    unfold tc ts
    by_cases q : g ≤ 3
    · rw [if_pos q, if_pos q, if_pos q]; omega
    · have := hgy (by omega)
      rw [if_neg q, if_neg q, if_neg q]; omega
  have bl : (if g ≤ 3 then m else m - 1) ≤ m := by split <;> omega
  have bt : tc g 3 m y ≤ 12 := by unfold tc; split <;> omega
  have bs : ts g 3 m y ≤ 13 := by unfold ts; split <;> omega
  generalize hE : (if g ≤ 3 then m else m - 1) = E at *
  obtain ⟨⟨r1, k1⟩, e, q1, q2⟩ := loopR (fun n (t : Int64 × Int32 × AH) => f_X4_part_l93 54 (w32 g) (w32 x) (w32 y) n t.1 t.2.1 t.2.2) (fun i t => t.1 = w64 (fd (fun c q => tu q (sp L 0 x + sp L x y + sp L y c + sp L c m) x y c) (ts g 3 m y) i p).1 ∧ t.2.1 = w32 (ts g 3 m y + i : Nat) ∧ F54 h t.2.2 ∧ tP t.2.2 (fd (fun c q => tu q (sp L 0 x + sp L x y + sp L y c + sp L c m) x y c) (ts g 3 m y) i p) ∧ tR (fd (fun c q => tu q (sp L 0 x + sp L x y + sp L y c + sp L c m) x y c) (ts g 3 m y) i p)) (fun t => t.1 = w64 (T3 L g m x y p).1 ∧ F54 h t.2 ∧ tP t.2 (T3 L g m x y p) ∧ tR (T3 L g m x y p)) (tc g 3 m y) (fun i n t hi hQ => by
      obtain ⟨v2, v6, k⟩ := t
      obtain ⟨p1, p2, p3, p4, p5⟩ := hQ
      dsimp only at p1 p2 p3 p4 p5
      subst p1 p2
      have hk := hh.fr p3
      have b1 := bd i hi
      have rv := rs (ts g 3 m y + i) (by omega)
      rw [show (ts g 3 m y + i : Nat) = ts g 3 m y + i from rfl] at *
      generalize hq : fd (fun c q => tu q (sp L 0 x + sp L x y + sp L y c + sp L c m) x y c) (ts g 3 m y) i p = q at *
      have nx : fd (fun c q => tu q (sp L 0 x + sp L x y + sp L y c + sp L c m) x y c) (ts g 3 m y) (i + 1) p = tu q (sp L 0 x + sp L x y + sp L y (ts g 3 m y + i) + sp L (ts g 3 m y + i) m) x y (ts g 3 m y + i) := by rw [fd_s, hq]
      have nr := tu_R (x := x) (y := y) (z := ts g 3 m y + i) p5 rv.1 rv.2
      have s1 : f_X4_spread 54 0 (w32 x) k = some (w64 (sp L 0 x)) := k_spread (f := 0) hL hm hk.2 (Nat.zero_le _) hx
      have hd := stp n (w64 q.1) (w32 (ts g 3 m y + i : Nat)) k hk.1
      rw [if_neg (by rw [w_lt _ _ (by omega) (by omega) (by omega) (by omega)]; omega), s1, bnd_s, k_spread hL hm hk.2 hx hy, bnd_s, k_spread hL hm hk.2 hy (show ts g 3 m y + i ≤ m by omega), bnd_s, k_spread hL hm hk.2 (show ts g 3 m y + i ≤ m by omega) (Nat.le_refl m), bnd_s, v_add, v_add, v_add, wl_1, w_add, w_s] at hd
      generalize sp L 0 x + sp L x y + sp L y (ts g 3 m y + i) + sp L (ts g 3 m y + i) m = V at *
      unfold tR at p5
      have c1 : (lg_cmp (w64 q.1) (-1) = 0) = (q.1 = -1) := by rw [vl_1, v_neg, c_eq _ _ (by omega) (by omega) (by omega) (by omega)]
      have c2 : (0 ≤ lg_cmp (w64 V) (w64 q.1)) = (q.1 ≤ V) := c_ge _ _ (by omega) (by omega) (by omega) (by omega)
      by_cases u : q.1 < 0 ∨ V < q.1
      · have hd2 : f_X4_part_l93 54 (w32 g) (w32 x) (w32 y) (n + 1) (w64 q.1) (w32 (ts g 3 m y + i : Nat)) k = f_X4_part_l93 54 (w32 g) (w32 x) (w32 y) n (w64 V) (w32 (ts g 3 m y + i + 1 : Nat)) (sfi (sfi (sfi k 54 3 (w32 x)) 54 4 (w32 y)) 54 5 (w32 (ts g 3 m y + i : Nat))) := by
          rw [hd]
          by_cases z : q.1 = -1
          · rw [if_pos (by rw [c1]; exact z)]
          · rw [if_neg (by rw [c1]; exact z), if_neg (by rw [c2]; omega)]
        have nx2 : tu q V x y (ts g 3 m y + i) = (V, x, y, ts g 3 m y + i) := if_pos u
        rw [nx2] at nx nr
        refine ⟨(w64 V, w32 (ts g 3 m y + i + 1 : Nat), sfi (sfi (sfi k 54 3 (w32 x)) 54 4 (w32 y)) 54 5 (w32 (ts g 3 m y + i : Nat))), ⟨by rw [nx], rfl, ((p3.tr (F54.w _ _ _ (by omega))).tr (F54.w _ _ _ (by omega))).tr (F54.w _ _ _ (by omega)), ?_, by rw [nx]; exact nr⟩, hd2⟩
        rw [nx]
        intro _
        dsimp only
        refine ⟨?_, ?_, ?_⟩
        · rw [fi_sfi_nk _ _ _ _ _ (by omega), fi_sfi_nk _ _ _ _ _ (by omega), fi_sfi_eq]
        · rw [fi_sfi_nk _ _ _ _ _ (by omega), fi_sfi_eq]
        · rw [fi_sfi_eq]
      · rw [if_neg (by rw [c1]; omega), if_pos (by rw [c2]; omega)] at hd
        have nx2 : tu q V x y (ts g 3 m y + i) = q := if_neg u
        rw [nx2] at nx nr
        exact ⟨(w64 q.1, w32 (ts g 3 m y + i + 1 : Nat), k), ⟨by rw [nx], rfl, p3, by rw [nx]; exact p4, by rw [nx]; exact p5⟩, hd⟩) (fun n t hQ => by
      obtain ⟨v2, v6, k⟩ := t
      obtain ⟨p1, p2, p3, p4, p5⟩ := hQ
      dsimp only at p1 p2 p3 p4 p5
      subst p1 p2
      refine ⟨(w64 (T3 L g m x y p).1, k), ?_, rfl, p3, p4, p5⟩
      show f_X4_part_l93 54 (w32 g) (w32 x) (w32 y) (n + 1) _ (w32 (ts g 3 m y + tc g 3 m y : Nat)) k = _
      rw [stp n _ _ k (hh.fr p3).1, if_pos (by rw [w_lt _ _ (by omega) (by omega) (by omega) (by omega)]; omega)]
      rfl) FU (by unfold FU; omega) (w64 p.1, w32 (ts g 3 m y : Nat), h) ⟨rfl, rfl, F54.rf, hP0, hp⟩
  dsimp only at q1 q2
  subst q1
  exact ⟨k1, e, q2⟩
end LOP
end HUC
