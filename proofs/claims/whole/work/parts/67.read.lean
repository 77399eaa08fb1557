/-! a reading -/
def tkF (γ : GV) (s l : Nat) (v : Int) : Int := if γ.1 l = -1 then max 0 (v - s) else max (max 0 (v - s)) (γ.1 l)
def tkT (γ : GV) (s l : Nat) (v : Int) : Int := if γ.1 l = -1 then v + s else min (v + s) (γ.2 l)
def tkP (γ : GV) (s l : Nat) (v : Int) : Prop := (0 ≤ v ∧ v ≤ 999999) ∧ tkF γ s l v ≤ tkT γ s l v
def tkG (γ : GV) (l : Nat) (F T : Int) : GV := (fun j => if j = l then F else γ.1 j, fun j => if j = l then T else γ.2 j)
noncomputable def tk (γ : GV) (s l : Nat) (v : Int) : GV := @ite GV (tkP γ s l v) (Classical.propDecidable _) (tkG γ l (tkF γ s l v) (tkT γ s l v)) γ
section TAK
variable {h : AH} {g b n s l : Nat} {γ : GV} {v : Int}
theorem tk_1 (q : tkP γ s l v) : tk γ s l v = tkG γ l (tkF γ s l v) (tkT γ s l v) := @if_pos _ (Classical.propDecidable _) q _ _ _
theorem tk_0 (q : ¬ tkP γ s l v) : tk γ s l v = γ := @if_neg _ (Classical.propDecidable _) q _ _ _
theorem tkG_ok (oG : okG n γ) (hl : l < n) (hs : s ≤ 50) (q : tkP γ s l v) : okG n (tkG γ l (tkF γ s l v) (tkT γ s l v)) := by
  obtain ⟨⟨q1, q2⟩, q3⟩ := q
  intro j hj
  show (if j = l then tkF γ s l v else γ.1 j) = -1 ∨ (0 ≤ (if j = l then tkF γ s l v else γ.1 j) ∧ (if j = l then tkF γ s l v else γ.1 j) ≤ (if j = l then tkT γ s l v else γ.2 j) ∧ (if j = l then tkT γ s l v else γ.2 j) ≤ 1000049)
  by_cases e : j = l
  · rw [if_pos e, if_pos e]
    right
    refine ⟨?_, q3, ?_⟩
    · unfold tkF; split <;> omega
    · unfold tkT; split <;> omega
  · rw [if_neg e, if_neg e]; exact oG j hj
theorem tk_ok (oG : okG n γ) (hl : l < n) (hs : s ≤ 50) : okG n (tk γ s l v) := by
  rcases Classical.em (tkP γ s l v) with q | q
  · rw [tk_1 q]; exact tkG_ok oG hl hs q
  · rw [tk_0 q]; exact oG
theorem gl_rg (oG : okG n γ) (hl : l < n) : -1 ≤ γ.1 l ∧ γ.1 l ≤ 1000049 ∧ (γ.1 l ≠ -1 → 0 ≤ γ.1 l ∧ 0 ≤ γ.2 l ∧ γ.2 l ≤ 1000049) := by
  rcases oG l hl with e | e <;> omega
theorem k_take (hG : GC h g n γ) (oG : okG n γ) (hn : n ≤ 40) (hl : l < n) (hs : s ≤ 50) (h1 : -2147483648 ≤ v) (h2 : v ≤ 2147483647) : (tkP γ s l v → f_X3_take g (w32 l) (w32 v) (w32 s) h = some (true, sia (sia h (g + 1) l (w32 (tkF γ s l v))) (g + 2) l (w32 (tkT γ s l v)))) ∧ (¬ tkP γ s l v → f_X3_take g (w32 l) (w32 v) (w32 s) h = some (false, h)) := by
  have rg := gl_rg oG hl
  obtain ⟨e1, e2⟩ := hG l hl
  have ib40 : ib (w32 (l : Int)) 40 = true := by rw [w_ibN _ _ (by omega)]; omega
  have cli : cl (w32 (l : Int)) = l := w_clN l (by omega)
  unfold f_X3_take
  by_cases q0 : 0 ≤ v ∧ v ≤ 999999
  · have fin : ∀ x y : Int, -2147483648 ≤ x → x ≤ 2147483647 → -2147483648 ≤ y → y ≤ 2147483647 → x = tkF γ s l v → y = tkT γ s l v → (tkP γ s l v → (if w32 x ≤ w32 y then some (true, sia (sia h (g + 1) l (w32 x)) (g + 2) l (w32 y)) else some (false, h)) = some (true, sia (sia h (g + 1) l (w32 (tkF γ s l v))) (g + 2) l (w32 (tkT γ s l v)))) ∧ (¬ tkP γ s l v → (if w32 x ≤ w32 y then some (true, sia (sia h (g + 1) l (w32 x)) (g + 2) l (w32 y)) else some (false, h)) = some (false, h)) := by
      intro x y a1 a2 a3 a4 ex ey
      have le : (w32 x ≤ w32 y) = (x ≤ y) := w_le _ _ a1 a2 a3 a4
      constructor
      · intro q; rw [if_pos (by rw [le, ex, ey]; exact q.2), ex, ey]
      · intro q; rw [if_neg (by rw [le, ex, ey]; exact fun z => q ⟨q0, z⟩)]
    simp only [gd_t ib40, cli, lt_b]
    rw [if_neg (by rw [wl_0, w_lt _ _ (by omega) (by omega) (by omega) (by omega)]; omega), if_pos (by rw [wl_999999, w_le _ _ (by omega) (by omega) (by omega) (by omega)]; omega), k_wasRead hG oG hl hn, bnd_s, w_sub, show f_J9_max_7cf53 0 (w32 (v - s)) = w32 (max 0 (v - s)) from e_max 0 _ (by omega) (by omega) (by omega) (by omega), w_add]
    by_cases q1 : γ.1 l = -1
    · rw [if_neg (by rw [decide_eq_true_eq]; exact fun z => z q1)]
      exact fin _ _ (by omega) (by omega) (by omega) (by omega) (by unfold tkF; rw [if_pos q1]) (by unfold tkT; rw [if_pos q1])
    · rw [if_pos (by rw [decide_eq_true_eq]; exact q1), e1, e2 q1, e_max _ _ (by omega) (by omega) (by omega) (by omega), e_min _ _ (by omega) (by omega) (by omega) (by omega)]
      exact fin _ _ (by omega) (by omega) (by omega) (by omega) (by unfold tkF; rw [if_neg q1]) (by unfold tkT; rw [if_neg q1])
  · have no : ¬ tkP γ s l v := fun q => q0 q.1
    refine ⟨fun q => absurd q no, fun _ => ?_⟩
    by_cases q1 : v < 0
    · rw [if_pos (by rw [wl_0, w_lt _ _ (by omega) (by omega) (by omega) (by omega)]; omega)]
    · rw [if_neg (by rw [wl_0, w_lt _ _ (by omega) (by omega) (by omega) (by omega)]; omega), if_neg (by rw [wl_999999, w_le _ _ (by omega) (by omega) (by omega) (by omega)]; omega)]
theorem GC.tk (hG : GC h g n γ) (F T : Int) : GC (sia (sia h (g + 1) l (w32 F)) (g + 2) l (w32 T)) g n (tkG γ l F T) := by
  intro j hj
  show hia (sia (sia h _ _ _) _ _ _) (g + 1) j = w32 (if j = l then F else γ.1 j) ∧ ((if j = l then F else γ.1 j) ≠ -1 → hia (sia (sia h _ _ _) _ _ _) (g + 2) j = w32 (if j = l then T else γ.2 j))
  by_cases e : j = l
  · subst e
    rw [if_pos rfl, if_pos rfl, ia_sia_ne _ _ _ _ _ (by omega), ia_sia_eq, ia_sia_eq]
    exact ⟨rfl, fun _ => rfl⟩
  · rw [if_neg e, if_neg e, ia_sia_ne _ _ _ _ _ (by omega), ia_sia_nk _ _ _ _ _ e, ia_sia_nk _ _ _ _ _ e, ia_sia_ne _ _ _ _ _ (by omega)]
    exact hG j hj
theorem m_reads (hG : GM h b n γ) (oG : okG n γ) (hn : n ≤ 40) (hb : b < 8) (hl : l < n) (hs : s ≤ 50) (es : hia h 215 2 = w32 s) (h1 : -2147483648 ≤ v) (h2 : v ≤ 2147483647) : (tkP γ s l v → f_X12_reads (w32 b) (w32 l) (w32 v) h = some (true, sia (sia h 208 (40 * b + l) (w32 (tkF γ s l v))) 209 (40 * b + l) (w32 (tkT γ s l v)))) ∧ (¬ tkP γ s l v → f_X12_reads (w32 b) (w32 l) (w32 v) h = some (false, h)) := by
  have rg := gl_rg oG hl
  obtain ⟨e1, e2⟩ := hG l hl
  have iba : ib (f_X12_at (w32 b) (w32 l)) 320 = true := by rw [e_at, w_ibN _ _ (by omega)]; omega
  have cla : cl (f_X12_at (w32 b) (w32 l)) = 40 * b + l := by rw [e_at, w_clN _ (by omega)]
  have g26 : ib 2 6 = true := by decide
  have cl2 : cl 2 = 2 := by decide
  unfold f_X12_reads
  by_cases q0 : 0 ≤ v ∧ v ≤ 999999
  · have fin : ∀ x y : Int, -2147483648 ≤ x → x ≤ 2147483647 → -2147483648 ≤ y → y ≤ 2147483647 → x = tkF γ s l v → y = tkT γ s l v → (tkP γ s l v → (if w32 x ≤ w32 y then some (true, sia (sia h 208 (40 * b + l) (w32 x)) 209 (40 * b + l) (w32 y)) else some (false, h)) = some (true, sia (sia h 208 (40 * b + l) (w32 (tkF γ s l v))) 209 (40 * b + l) (w32 (tkT γ s l v)))) ∧ (¬ tkP γ s l v → (if w32 x ≤ w32 y then some (true, sia (sia h 208 (40 * b + l) (w32 x)) 209 (40 * b + l) (w32 y)) else some (false, h)) = some (false, h)) := by
      intro x y a1 a2 a3 a4 ex ey
      have le : (w32 x ≤ w32 y) = (x ≤ y) := w_le _ _ a1 a2 a3 a4
      constructor
      · intro q; rw [if_pos (by rw [le, ex, ey]; exact q.2), ex, ey]
      · intro q; rw [if_neg (by rw [le, ex, ey]; exact fun z => q ⟨q0, z⟩)]
    simp only [gd_t g26, gd_t iba, cla, cl2, lt_b, es]
    rw [if_pos (by rw [wl_0, wl_999999, e_isIn _ _ _ (by omega) (by omega) (by omega) (by omega) (by omega) (by omega), decide_eq_true_eq]; exact q0), w_sub, show f_J9_max_7cf53 0 (w32 (v - s)) = w32 (max 0 (v - s)) from e_max 0 _ (by omega) (by omega) (by omega) (by omega), w_add, e1]
    by_cases q1 : γ.1 l = -1
    · rw [if_pos (by rw [q1]; decide)]
      exact fin _ _ (by omega) (by omega) (by omega) (by omega) (by unfold tkF; rw [if_pos q1]) (by unfold tkT; rw [if_pos q1])
    · rw [if_neg (by rw [wl_1, w_neg]; exact ne_w (by omega) (by omega) (by omega) (by omega) q1), e2 q1, e_max _ _ (by omega) (by omega) (by omega) (by omega), e_min _ _ (by omega) (by omega) (by omega) (by omega)]
      exact fin _ _ (by omega) (by omega) (by omega) (by omega) (by unfold tkF; rw [if_neg q1]) (by unfold tkT; rw [if_neg q1])
  · have no : ¬ tkP γ s l v := fun q => q0 q.1
    refine ⟨fun q => absurd q no, fun _ => ?_⟩
    rw [if_neg (by rw [wl_0, wl_999999, e_isIn _ _ _ (by omega) (by omega) (by omega) (by omega) (by omega) (by omega), decide_eq_true_eq]; exact q0)]
theorem GM.tk (hG : GM h b n γ) (F T : Int) : GM (sia (sia h 208 (40 * b + l) (w32 F)) 209 (40 * b + l) (w32 T)) b n (tkG γ l F T) := by
  intro j hj
  show hia (sia (sia h _ _ _) _ _ _) 208 (40 * b + j) = w32 (if j = l then F else γ.1 j) ∧ ((if j = l then F else γ.1 j) ≠ -1 → hia (sia (sia h _ _ _) _ _ _) 209 (40 * b + j) = w32 (if j = l then T else γ.2 j))
  by_cases e : j = l
  · subst e
    rw [if_pos rfl, if_pos rfl, ia_sia_ne _ _ _ _ _ (by omega), ia_sia_eq, ia_sia_eq]
    exact ⟨rfl, fun _ => rfl⟩
  · rw [if_neg e, if_neg e, ia_sia_ne _ _ _ _ _ (by omega), ia_sia_nk _ _ _ _ _ (by omega), ia_sia_nk _ _ _ _ _ (by omega), ia_sia_ne _ _ _ _ _ (by omega)]
    exact hG j hj
end TAK
/-- one turn of the law with a yes or no -/
def TB (e : Option (Int32 × AH)) (f : AH → Option (Bool × AH)) (T : Nat) : Prop := ∃ q p, e = some q ∧ f q.2 = some p ∧ f_X12_thrown p.2 = q.1 ∧ (q.1 = 0 → hla p.2 236 (cl 0) = if p.1 = true then 1 else 0) ∧ inv p.2 (T + 1)
section RED
variable {h : AH} {S S' : SV} {T : Nat}
theorem TB_v {e : Option (XR Bool)} {g : Nat × AH → Option (Int32 × AH)} {F : AH → Option (Bool × AH)} {v : Bool} (oS' : okS S') (hM : MI2 h S T) (hc : ∃ h1, Fr (fun c => c < 193) h h1 ∧ CI h1 S' ∧ e = some (.inl (v, h1))) (hm : ∀ h', MI2 h' S T → ∃ h1, Fr (fun q => 193 ≤ q ∧ q ≤ 235) h' h1 ∧ MI2 h1 S' (T + 1) ∧ F h' = some (v, h1) ∧ hfi h1 193 2 = 0) : TB (bnd e (fun q => Sum.elim (fun x => some (0, sla x.2 236 0 (if x.1 = true then 1 else 0))) g q)) F T := by
  obtain ⟨k1, f1, c1, e1⟩ := hc
  have hM1 : MI2 (sla k1 236 0 (if v = true then 1 else 0)) S T := hM.cls ((f1.mono (fun c q => Or.inl q)).tr (Fr.sla _ _ _ _ (Or.inr rfl)))
  obtain ⟨k2, f2, m2, e2, e3⟩ := hm _ hM1
  refine ⟨(0, sla k1 236 0 (if v = true then 1 else 0)), (v, k2), ?_, e2, e3, fun _ => ?_, S', oS', c1.o.mod (f2.mono (fun c q => q.1)), m2⟩
  · rw [e1, bnd_s]; rfl
  · have : hla k2 236 = hla (sla k1 236 0 (if v = true then 1 else 0)) 236 := (f2 236 (by omega)).2.2.2.1
    rw [this, show cl 0 = 0 from by decide, la_sla_eq]
theorem t_read (x y u : Int32) (hI : CI h S) (oS : okS S) (hM : MI2 h S T) : TB (f_L_read x y u h) (f_X12_read x y u) T := by
  unfold f_L_read
  have g14 : ib 1 4 = true := by decide
  have cl1 : cl 1 = 1 := by decide
  rcases Classical.em (isLf S x y) with ⟨b, l, hb, hl, rfl, rfl⟩ | hn
  · obtain ⟨hC, hA⟩ := hI.ck oS hb
    obtain ⟨c1, c2, c3, c4⟩ := hI.2.1 b hb
    have o := oS.1 b hb
    have o1 := o.1.1
    have sX := isB_sh (hI.1.1 b hb).1
    have sL := isLw_sh hI.1.2.2.2.2.1
    have hs := oS.2.1.2.2.2
    have es := hI.2.2.1.2.2
    have st1 := hI.2.2.2.2.2.2.2.2.1 1 (by omega)
    obtain ⟨v, rfl, r1, r2⟩ := w_ex u
    have kt := k_take c2 o.2.1 o1 hl hs r1 r2
    have isX := (hI.1.1 b hb).1
    unfold isB at isX
    have cls : f_X11_read (w32 b) (w32 l) (w32 v) h = bnd (f_X3_take (hra h 3 b + 7) (w32 l) (w32 v) (w32 (ls (xa S))) h) (fun q4 => if q4.1 = true then some (.inl (true, q4.2)) else gd (ib 1 4 = true) (gd (ib 1 4 = true) (lt (sia q4.2 31 (cl 1) ((hia q4.2 31 (cl 1)) + 1)) (fun h8 => some (.inl (false, h8)))))) := by
      unfold f_X11_read
      rw [c_leafIn hI oS hb hl, bnd_s]
      simp only [Sum.elim_inl]
      rw [gd_t sX, gd_t sL, es]
    have mdl : ∀ h', MI2 h' S T → f_X12_read (w32 b) (w32 l) (w32 v) h' = bnd (f_X12_reads (w32 b) (w32 l) (w32 v) (sfi h' 193 2 0)) (fun q4 => gd (ib 1 4 = true) (if q4.1 = true then gd (ib 1 4 = true) (lt (sia q4.2 218 (cl 1) ((hia q4.2 218 (cl 1)) + 0)) (fun h10 => some (q4.1, h10))) else gd (ib 1 4 = true) (lt (sia q4.2 218 (cl 1) ((hia q4.2 218 (cl 1)) + 1)) (fun h8 => some (q4.1, h8))))) := by
      intro h' hM'
      unfold f_X12_read
      rw [lt_b, m_leafIn (hM'.fr (code0 h').1.m) oS hb hl, bnd_s, if_pos rfl]
    rcases Classical.em (tkP (xg S b) (ls (xa S)) l v) with q | q
    · rw [kt.1 q, bnd_s] at cls
      dsimp only at cls
      rw [if_pos rfl] at cls
      refine TB_v (S' := sB S b (xb S b) (tkG (xg S b) l (tkF (xg S b) (ls (xa S)) l v) (tkT (xg S b) (ls (xa S)) l v)) (xs4 S)) (okS_sB oS o.1 (tkG_ok o.2.1 hl hs q) rfl) hM ⟨_, ?_, hI.upd hb rfl ?_ ?_ (c2.tk _ _) c4 rfl ?_, cls⟩ (fun h' hM' => ?_)
      · exact (Fr.sia _ _ _ _ (by omega)).tr (Fr.sia _ _ _ _ (by omega))
      · exact (Fr.sia _ _ _ _ (by omega)).tr (Fr.sia _ _ _ _ (by omega))
      · obtain ⟨d1, d2, d3, d4, d5, d6, d7, d8⟩ := c1
        refine ⟨d1, d2, d3, d4, d5, fun l hl => ?_, fun i hi => ?_, fun i hi => ?_⟩
        · simp (disch := omega) only [ia_sia_ne]; exact d6 l hl
        · simp (disch := omega) only [ia_sia_ne]; exact d7 i hi
        · simp (disch := omega) only [ia_sia_ne]; exact d8 i hi
      · intro k hk
        simp (disch := omega) only [ia_sia_ne]
        exact hI.2.2.2.2.2.2.2.2.1 k hk
      · have hM1 := hM'.fr (code0 h').1.m
        have m := mdl h' hM'
        have mr := m_reads (hM1.1 b hb).2 o.2.1 o1 (by omega) hl hs hM1.2.1.2.2 r1 r2
        have ms1 : hia (sia (sia (sfi h' 193 2 0) 208 (40 * b + l) (w32 (tkF (xg S b) (ls (xa S)) l v))) 209 (40 * b + l) (w32 (tkT (xg S b) (ls (xa S)) l v))) 218 1 = xs4 S 1 := by
          simp (disch := omega) only [ia_sia_ne]
          exact hM1.2.2.2.2.2.2.1 1 (by omega)
        rw [mr.1 q, bnd_s] at m
        dsimp only at m
        rw [gd_t g14, if_pos rfl, gd_t g14, lt_b, cl1, ms1] at m
        have fN : FrN b (sfi h' 193 2 0) (sia (sia (sia (sfi h' 193 2 0) 208 (40 * b + l) (w32 (tkF (xg S b) (ls (xa S)) l v))) 209 (40 * b + l) (w32 (tkT (xg S b) (ls (xa S)) l v))) 218 1 (xs4 S 1 + 0)) := ((FrN.w _ _ _ _ _ (by omega)).tr (FrN.w _ _ _ _ _ (by omega))).tr (FrN.w _ _ _ _ _ (by omega))
        refine ⟨_, (Fr.sfi _ _ _ _ (by omega)).tr fN.1, (hM1.updB (β := xb S b) (γ := tkG (xg S b) l (tkF (xg S b) (ls (xa S)) l v) (tkT (xg S b) (ls (xa S)) l v)) (f := xs4 S) oS fN ?_ ?_ rfl ?_).le (by omega), m, ?_⟩
        · exact (hM1.1 b hb).1.fr (W := fun c => c = 208 ∨ c = 209 ∨ c = 218) (((Fr.sia _ _ _ _ (by omega)).tr (Fr.sia _ _ _ _ (by omega))).tr (Fr.sia _ _ _ _ (by omega))) (fun c h1 h2 h3 => by omega)
        · intro j hj
          rw [ia_sia_ne _ _ _ _ 208 (by omega), ia_sia_ne _ _ _ _ 209 (by omega)]
          exact GM.tk (hM1.1 b hb).2 _ _ j hj
        · intro k hk
          rw [ia_sia]
          by_cases e : k = 1
          · rw [if_pos e, e, Int32.add_zero]
          · rw [if_neg e]
            simp (disch := omega) only [ia_sia_ne]
            exact hM1.2.2.2.2.2.2.1 k hk
        · exact (code0 h').2
    · rw [kt.2 q, bnd_s] at cls
      dsimp only at cls
      rw [if_neg (by decide), gd_t g14, gd_t g14, lt_b, cl1, st1] at cls
      refine TB_v (okS_st oS _) hM ⟨_, Fr.sia _ _ _ _ (by omega), hI.st oS 1 (by omega) 1, cls⟩ (fun h' hM' => ?_)
      have hM1 := hM'.fr (code0 h').1.m
      have m := mdl h' hM'
      have mr := m_reads (hM1.1 b hb).2 o.2.1 o1 (by omega) hl hs hM1.2.1.2.2 r1 r2
      rw [mr.2 q, bnd_s] at m
      dsimp only at m
      rw [gd_t g14, if_neg (by decide), gd_t g14, lt_b, cl1, show hia (sfi h' 193 2 0) 218 1 = xs4 S 1 from hM1.2.2.2.2.2.2.1 1 (by omega)] at m
      exact ⟨_, (Fr.sfi _ _ _ _ (by omega)).tr (Fr.sia _ _ _ _ (by omega)), (hM1.st oS 1 (by omega) 1).le (by omega), m, (code0 h').2⟩
  · refine ⟨(1, h), (false, sfi (sfi h 193 2 0) 193 2 1), ?_, ?_, fi_sfi_eq _ _ _ _, fun z => absurd (show (1 : Int32) = 0 from z) (by decide), S, oS, hI.mod ((Fr.sfi _ _ _ _ (by omega)).tr (Fr.sfi _ _ _ _ (by omega))), ((hM.fr (code0 h).1.m).fr (FrQ.code _ 2 _ (by omega)).m).le (by omega)⟩
    · unfold f_X11_read
      rw [c_leafOut hI oS x y hn, bnd_s]
      rfl
    · show f_X12_read x y u h = _
      unfold f_X12_read
      rw [lt_b, m_leafOut (hM.fr (code0 h).1.m) oS x y hn, bnd_s, if_neg (by decide)]
      rfl
end RED
