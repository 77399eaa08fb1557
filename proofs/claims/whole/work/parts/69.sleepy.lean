/-! the chance of so many sleepy pairs -/
theorem sm_flat {f : Nat → Int} {a b : Nat} (hab : a ≤ b) (h : ∀ i, a ≤ i → i < b → f i = 0) : sm f b = sm f a := by
  induction b with
  | zero => rw [show a = 0 by omega]
  | succ b ih =>
    by_cases e : a = b + 1
    · rw [e]
    · rw [sm_s, ih (by omega) (fun i h1 h2 => h i h1 (by omega)), h b (by omega) (by omega), Int.add_zero]
theorem sm_seg {f : Nat → Int} {M : Int} (hM : ∀ i, 0 ≤ f i ∧ f i ≤ M) (a m : Nat) : 0 ≤ sm f (a + m) - sm f a ∧ sm f (a + m) - sm f a ≤ M * m := by
  induction m with
  | zero => rw [Nat.add_zero, Int.sub_self]; simp
  | succ m ih =>
    have := hM (a + m)
    rw [show a + (m + 1) = (a + m) + 1 by omega, sm_s]
    have e : M * ((m + 1 : Nat) : Int) = M * m + M := by rw [Int.natCast_add, Int.mul_add]; simp
    omega
theorem la_sla (h : AH) (a k : Nat) (v : Int64) (j : Nat) : hla (sla h a k v) a j = if j = k then v else hla h a j := by show up2 h.2.2.2.1 a k v a j = _; rw [up2_at]; rfl
def mix (j : Nat) (c : Nat → Int) (k : Nat) : Int := (sm c (k + 1) - sm c (k + 1 - j)) / j
def cS (β : BV) : Nat → Nat → Int
  | 0 => fun k => if k = 0 then 1000000 else 0
  | l + 1 => if vp β l = 0 then cS β l else mix (vp β l + 1) (cS β l)
def mo (β : BV) : Nat → Nat
  | 0 => 0
  | l + 1 => mo β l + vp β l
theorem mo_s (β : BV) (l : Nat) : mo β (l + 1) = mo β l + vp β l := rfl
theorem cS_s (β : BV) (l : Nat) : cS β (l + 1) = if vp β l = 0 then cS β l else mix (vp β l + 1) (cS β l) := rfl
def cOK (c : Nat → Int) : Prop := ∀ k, 0 ≤ c k ∧ c k ≤ 1000000
section CHA
variable {h : AH} {S : SV} {T b B j : Nat} {β : BV} {c : Nat → Int}
theorem win_rg (hc : cOK c) (j k : Nat) : 0 ≤ sm c (k + 1) - sm c (k + 1 - j) ∧ sm c (k + 1) - sm c (k + 1 - j) ≤ 1000000 * j := by
  by_cases q : j ≤ k + 1
  · have := sm_seg hc (k + 1 - j) j
    rw [show k + 1 - j + j = k + 1 by omega] at this
    exact this
  · have := sm_seg hc 0 (k + 1)
    rw [Nat.zero_add] at this
    rw [show k + 1 - j = 0 by omega]
    omega
theorem mix_ok (hc : cOK c) (hj : 1 ≤ j) : cOK (mix j c) := by
  intro k
  have w := win_rg hc j k
  unfold mix
  refine ⟨Int.ediv_nonneg w.1 (by omega), ?_⟩
  have : (sm c (k + 1) - sm c (k + 1 - j)) / (j : Int) < 1000001 := Int.ediv_lt_of_lt_mul (by omega) (by omega)
  omega
theorem cS_ok (β : BV) (n : Nat) : cOK (cS β n) := by
  induction n with
  | zero =>
    intro k
    show 0 ≤ (if k = 0 then (1000000 : Int) else 0) ∧ (if k = 0 then (1000000 : Int) else 0) ≤ 1000000
    split <;> omega
  | succ n ih =>
    rw [cS_s]
    split
    · exact ih
    · exact mix_ok ih (by omega)
theorem cS_0 (β : BV) (n k : Nat) (hk : mo β n < k) : cS β n k = 0 := by
  induction n generalizing k with
  | zero => exact if_neg (by have : mo β 0 = 0 := rfl; omega)
  | succ n ih =>
    rw [mo_s] at hk
    rw [cS_s]
    by_cases q : vp β n = 0
    · rw [if_pos q]; exact ih k (by omega)
    · rw [if_neg q]
      unfold mix
      rw [sm_flat (f := cS β n) (a := k + 1 - (vp β n + 1)) (b := k + 1) (by omega) (fun i h1 h2 => ih i (by omega)), Int.sub_self, Int.zero_ediv]
theorem mo_le (oB : okB β) (n : Nat) (hn : n + 1 ≤ vL β) : 2 * mo β (n + 1) + 19 * (vp β n + 1) ≤ 19 * (n + 1) + vp β n * (vp β n + 1) := by
  induction n with
  | zero =>
    have := oB.2.2.2.2.2.2.2.2.2.1 (by omega)
    rw [mo_s, this]
    show 2 * (0 + 0) + 19 * (0 + 1) ≤ 19 * (0 + 1) + 0 * (0 + 1)
    omega
  | succ n ih =>
    have i := ih (by omega)
    have p1 := (oB.2.2.2.2.2.1 n (by omega)).2.2.1
    rw [mo_s β (n + 1)]
    rcases oB.2.2.2.2.2.2.2.2.2.2 n (by omega) with e | e
    · rw [e]
      have : vp β n * (vp β n + 1) ≤ 19 * (vp β n + 1) := Nat.mul_le_mul_right _ (by omega)
      omega
    · rw [e]
      have : (vp β n + 1) * (vp β n + 1 + 1) = vp β n * (vp β n + 1) + 2 * (vp β n + 1) := by
        rw [Nat.mul_add (vp β n + 1) (vp β n + 1) 1, Nat.add_mul (vp β n) 1 (vp β n + 1)]
        omega
      omega
theorem mo_380 (oB : okB β) (n : Nat) (hn : n ≤ vL β) : mo β n ≤ 380 := by
  cases n with
  | zero => show 0 ≤ 380; omega
  | succ n =>
    have := mo_le oB n hn
    have p1 := (oB.2.2.2.2.2.1 n (by omega)).2.2.1
    have : vp β n * (vp β n + 1) ≤ 19 * (vp β n + 1) := Nat.mul_le_mul_right _ (by omega)
    have := oB.1
    omega
/-! the class -/
theorem k_mix (hc : cOK c) (hj : 2 ≤ j) (hj2 : j ≤ 20) (hr : ∀ k, k < 381 → hia h 52 k = w32 (c k)) : ∃ h1, f_X1_mix 51 (w32 j) h = some h1 ∧ Fr (fun q => q = 52 ∨ q = 53) h h1 ∧ ∀ k, k < 381 → hia h1 52 k = w32 (mix j c k) := by
  obtain ⟨h1, e1, f1, z1⟩ := loopR (fun n (s : Int32 × Int32 × AH) => f_X1_mix_l4 51 (w32 j) n s.1 s.2.1 s.2.2) (fun i s => s.1 = w32 (sm c i - sm c (i - j)) ∧ s.2.1 = w32 (i : Nat) ∧ Fr (fun q => q = 53) h s.2.2 ∧ ∀ k, k < i → hia s.2.2 53 k = w32 (mix j c k)) (fun h1 => Fr (fun q => q = 53) h h1 ∧ ∀ k, k < 381 → hia h1 53 k = w32 (mix j c k)) 381 (fun i n s hi hP => by
      obtain ⟨v2, v3, hh⟩ := s
      obtain ⟨p1, p2, p3, p4⟩ := hP
      dsimp only at p1 p2 p3 p4
      subst p1 p2
      have w := win_rg hc j i
      have er : ∀ k, k < 381 → hia hh 52 k = w32 (c k) := fun k hk => by rw [(p3 52 (by omega)).2.2.1]; exact hr k hk
      have fin : bnd (f_X11_cutDown (w32 (sm c (i + 1) - sm c (i + 1 - j))).toInt64 (w32 (j : Int)).toInt64) (fun q7 => gd (ib (w32 (i : Int)) 381 = true) (lt (sia hh 53 i q7) (fun h9 => f_X1_mix_l4 51 (w32 j) n (w32 (sm c (i + 1) - sm c (i + 1 - j))) (w32 (i : Int) + 1) h9))) = f_X1_mix_l4 51 (w32 j) n (w32 (sm c (i + 1) - sm c (i + 1 - j))) (w32 (i + 1 : Nat)) (sia hh 53 i (w32 (mix j c i))) := by
        rw [w_l _ (by omega) (by omega), w_l _ (by omega) (by omega), e_cutDown _ _ (by omega) (by omega) (by omega) (by omega), bnd_s, gd_t (by rw [w_ibN _ _ (by omega)]; omega), lt_b, wl_1, w_add, w_s]
        rfl
      refine ⟨(w32 (sm c (i + 1) - sm c (i + 1 - j)), w32 (i + 1 : Nat), sia hh 53 i (w32 (mix j c i))), ⟨rfl, rfl, p3.tr (Fr.sia _ _ _ _ rfl), fun k hk => ?_⟩, ?_⟩
      · show hia (sia hh 53 _ _) 53 k = _
        rw [ia_sia]
        by_cases q : k = i
        · rw [if_pos q, q]
        · rw [if_neg q]; exact p4 k (by omega)
      · show f_X1_mix_l4 51 (w32 j) (n + 1) (w32 (sm c i - sm c (i - j))) (w32 i) hh = f_X1_mix_l4 51 (w32 j) n _ _ _
        rw [f_X1_mix_l4, if_neg (by rw [wl_380, w_lt _ _ (by omega) (by omega) (by omega) (by omega)]; omega), gd_t (by rw [w_ibN _ _ (by omega)]; omega), lt_b, w_clN _ (by omega), er i hi, w_add]
        by_cases q : i < j
        · rw [if_pos (by rw [w_lt _ _ (by omega) (by omega) (by omega) (by omega)]; omega), show sm c i - sm c (i - j) + c i = sm c (i + 1) - sm c (i + 1 - j) by rw [sm_s, show i - j = 0 by omega, show i + 1 - j = 0 by omega]; omega]
          exact fin
        · have em : w32 (i : Int) - w32 (j : Int) = w32 ((i - j : Nat) : Int) := by rw [w_sub]; exact ww (by omega)
          rw [if_neg (by rw [w_lt _ _ (by omega) (by omega) (by omega) (by omega)]; omega), em, gd_t (by rw [w_ibN _ _ (by omega)]; omega), w_clN (i - j) (by omega), er (i - j) (by omega), w_sub, show sm c i - sm c (i - j) + c i - c (i - j) = sm c (i + 1) - sm c (i + 1 - j) by rw [sm_s, show i + 1 - j = (i - j) + 1 by omega, sm_s]; omega]
          exact fin) (fun n s hP => by
      obtain ⟨v2, v3, hh⟩ := s
      obtain ⟨p1, p2, p3, p4⟩ := hP
      dsimp only at p1 p2 p3 p4
      subst p1 p2
      refine ⟨hh, ?_, p3, p4⟩
      show f_X1_mix_l4 51 (w32 j) (n + 1) _ (w32 (381 : Nat)) hh = _
      rw [f_X1_mix_l4, if_pos (by decide)]) FU (by decide) (0, 0, h) ⟨by rw [Nat.zero_sub]; rfl, rfl, Fr.rf, fun k hk => by omega⟩
  refine ⟨sir h1 52 (va_cpy (hia h1 53) (hia h1 52) 0 0 381), ?_, (f1.mono (fun q e => Or.inr e)).tr (Fr.sir _ _ _ (Or.inl rfl)), fun k hk => ?_⟩
  · unfold f_X1_mix
    rw [show f_X1_mix_l4 51 (w32 j) FU 0 0 h = _ from e1, bnd_s, gd_t (by decide)]
    rfl
  · rw [ia_sir]
    unfold va_cpy
    rw [if_pos (by omega), show 0 + (k - 0) = k by omega]
    exact z1 k hk
theorem k_chance (hB : BC h B β) (hX : isB B) (oB : okB β) {p : Nat} (hp : p ≤ 1600) : ∃ h1, f_X1_ofAtLeast 51 B (w32 p) h = some (w32 (sm (cS β (vL β)) (max p 381) - sm (cS β (vL β)) p), h1) ∧ Fr (fun q => q = 52 ∨ q = 53) h h1 := by
  have o1 := oB.1
  unfold isB at hX
  obtain ⟨k1, e1, f1, z1, -⟩ := e_fill 52 381 0 h (by decide)
  have f2 : Fr (fun q => q = 52 ∨ q = 53) h (sia k1 52 0 1000000) := (f1.mono (fun q e => Or.inl e)).tr (Fr.sia _ _ _ _ (Or.inl rfl))
  have z2 : ∀ k, k < 381 → hia (sia k1 52 0 1000000) 52 k = w32 (cS β 0 k) := fun k hk => by
    rw [ia_sia]
    show _ = w32 (if k = 0 then 1000000 else 0)
    by_cases q : k = 0
    · rw [if_pos q, if_pos q]; rfl
    · rw [if_neg q, if_neg q, z1 k hk]; rfl
  obtain ⟨k3, e3, f3, z3⟩ := loopR (fun n (s : Int32 × AH) => f_X1_ofAtLeast_l18 51 B n s.1 s.2) (fun i s => s.1 = w32 (i : Nat) ∧ Fr (fun q => q = 52 ∨ q = 53) h s.2 ∧ ∀ k, k < 381 → hia s.2 52 k = w32 (cS β i k)) (fun h1 => Fr (fun q => q = 52 ∨ q = 53) h h1 ∧ ∀ k, k < 381 → hia h1 52 k = w32 (cS β (vL β) k)) (vL β) (fun i n s hi hP => by
      obtain ⟨v3, hh⟩ := s
      obtain ⟨p1, p2, p3⟩ := hP
      dsimp only at p1 p2 p3
      subst p1
      have hB2 := hB.fr p2 (fun c h1 h2 => by omega)
      have d1 := hB2.1
      have d3 := (hB2.2.2.2.2.2.1 i hi).2.2.1
      have op := (oB.2.2.2.2.2.1 i hi).2.2.1
      by_cases q : vp β i = 0
      · refine ⟨(w32 (i + 1 : Nat), hh), ⟨rfl, p2, fun k hk => ?_⟩, ?_⟩
        · rw [cS_s, if_pos q]; exact p3 k hk
        · show f_X1_ofAtLeast_l18 51 B (n + 1) (w32 i) hh = f_X1_ofAtLeast_l18 51 B n (w32 (i + 1 : Nat)) hh
          rw [f_X1_ofAtLeast_l18, d1, if_neg (by rw [w_le _ _ (by omega) (by omega) (by omega) (by omega)]; omega), gd_t (by rw [w_ibN _ _ (by omega)]; omega), w_clN _ (by omega), d3, if_pos (by rw [wl_0, w_le _ _ (by omega) (by omega) (by omega) (by omega)]; omega), wl_1, w_add, w_s]
      · obtain ⟨h4, e4, f4, z4⟩ := k_mix (h := hh) (j := vp β i + 1) (cS_ok β i) (by omega) (by omega) p3
        refine ⟨(w32 (i + 1 : Nat), h4), ⟨rfl, p2.tr f4, fun k hk => ?_⟩, ?_⟩
        · rw [cS_s, if_neg q]; exact z4 k hk
        · show f_X1_ofAtLeast_l18 51 B (n + 1) (w32 i) hh = f_X1_ofAtLeast_l18 51 B n (w32 (i + 1 : Nat)) h4
          rw [f_X1_ofAtLeast_l18, d1, if_neg (by rw [w_le _ _ (by omega) (by omega) (by omega) (by omega)]; omega), gd_t (by rw [w_ibN _ _ (by omega)]; omega), w_clN _ (by omega), d3, if_neg (by rw [wl_0, w_le _ _ (by omega) (by omega) (by omega) (by omega)]; omega), gd_t (by rw [w_ibN _ _ (by omega)]; omega), wl_1, w_add, w_s, e4, bnd_s, w_add, w_s]) (fun n s hP => by
      obtain ⟨v3, hh⟩ := s
      obtain ⟨p1, p2, p3⟩ := hP
      dsimp only at p1 p2 p3
      subst p1
      have d1 := (hB.fr p2 (fun c h1 h2 => by omega)).1
      refine ⟨hh, ?_, p2, p3⟩
      show f_X1_ofAtLeast_l18 51 B (n + 1) (w32 (vL β)) hh = _
      rw [f_X1_ofAtLeast_l18, d1, if_pos (Int32.le_refl _)]) FU (by unfold FU; omega) (0, sia k1 52 0 1000000) ⟨rfl, f2, z2⟩
  have lp : f_X1_ofAtLeast_l62 51 k3 FU 0 (w32 p) = some (w32 (sm (cS β (vL β)) (max p 381) - sm (cS β (vL β)) p)) := by
    have := loopF (fun n (s : Int32 × Int32) => f_X1_ofAtLeast_l62 51 k3 n s.1 s.2) (fun i => (w32 (sm (cS β (vL β)) i - sm (cS β (vL β)) p), w32 (i : Nat))) p (max p 381) (by omega) (w32 (sm (cS β (vL β)) (max p 381) - sm (cS β (vL β)) p)) (fun i n h1 h2 => by
        show f_X1_ofAtLeast_l62 51 k3 (n + 1) (w32 (sm (cS β (vL β)) i - sm (cS β (vL β)) p)) (w32 i) = f_X1_ofAtLeast_l62 51 k3 n (w32 (sm (cS β (vL β)) (i + 1) - sm (cS β (vL β)) p)) (w32 (i + 1 : Nat))
        rw [f_X1_ofAtLeast_l62, if_neg (by rw [wl_380, w_lt _ _ (by omega) (by omega) (by omega) (by omega)]; omega), gd_t (by rw [w_ibN _ _ (by omega)]; omega), w_clN _ (by omega), show hia k3 (51 + 1) i = _ from z3 i (by omega), w_add, wl_1, w_add, w_s, sm_s, show sm (cS β (vL β)) i - sm (cS β (vL β)) p + cS β (vL β) i = sm (cS β (vL β)) i + cS β (vL β) i - sm (cS β (vL β)) p by omega]) (fun n => by
        show f_X1_ofAtLeast_l62 51 k3 (n + 1) _ (w32 (max p 381 : Nat)) = _
        rw [f_X1_ofAtLeast_l62, if_pos (by rw [wl_380, w_lt _ _ (by omega) (by omega) (by omega) (by omega)]; omega)]) FU (by unfold FU; omega)
    dsimp only at this
    rw [Int.sub_self] at this
    exact this
  refine ⟨k3, ?_, f3⟩
  unfold f_X1_ofAtLeast
  rw [show f_J7_fill_53178 (51 + 1) 381 0 h = _ from e1, bnd_s, gd_t (by decide), lt_b]
  rw [show f_X1_ofAtLeast_l18 51 B FU 0 (sia k1 (51 + 1) (cl 0) 1000000) = _ from e3, bnd_s, wl_0, e_max _ _ (by omega) (by omega) (by omega) (by omega), show max (0 : Int) (p : Int) = (p : Int) by omega, ← wl_0, lp, bnd_s]
/-! the reference -/
theorem m_chance5 : ∃ h1, f_X12_chanceOf_l5 FU 0 h = some h1 ∧ Fr (fun q => q = 223) h h1 ∧ ∀ k, k < 800 → hla h1 223 k = 0 := loopR (fun n (s : Int32 × AH) => f_X12_chanceOf_l5 n s.1 s.2) (fun i s => s.1 = w32 (i : Nat) ∧ Fr (fun q => q = 223) h s.2 ∧ ∀ k, k < i → hla s.2 223 k = 0) (fun h1 => Fr (fun q => q = 223) h h1 ∧ ∀ k, k < 800 → hla h1 223 k = 0) 800 (fun i n s hi hP => by
      obtain ⟨v3, hh⟩ := s
      obtain ⟨p1, p2, p3⟩ := hP
      dsimp only at p1 p2 p3
      subst p1
      refine ⟨(w32 (i + 1 : Nat), sla hh 223 i 0), ⟨rfl, p2.tr (Fr.sla _ _ _ _ rfl), fun k hk => ?_⟩, ?_⟩
      · show hla (sla hh 223 i 0) 223 k = 0
        rw [la_sla]
        by_cases q : k = i
        · rw [if_pos q]
        · rw [if_neg q]; exact p3 k (by omega)
      · show f_X12_chanceOf_l5 (n + 1) (w32 i) hh = f_X12_chanceOf_l5 n (w32 (i + 1 : Nat)) _
        rw [f_X12_chanceOf_l5, if_neg (by rw [show Int32.ofNat 800 = w32 (800 : Nat) from rfl, w_le _ _ (by omega) (by omega) (by omega) (by omega)]; omega), gd_t (by rw [w_ibN _ _ (by omega)]; omega), lt_b, w_clN _ (by omega), wl_1, w_add, w_s]) (fun n s hP => by
      obtain ⟨v3, hh⟩ := s
      obtain ⟨p1, p2, p3⟩ := hP
      dsimp only at p1 p2 p3
      subst p1
      refine ⟨hh, ?_, p2, p3⟩
      show f_X12_chanceOf_l5 (n + 1) (w32 (800 : Nat)) hh = _
      rw [f_X12_chanceOf_l5, if_pos (by decide)]) FU (by decide) (0, h) ⟨rfl, Fr.rf, fun k hk => by omega⟩
theorem m_chance98 (hr : ∀ k, k < 800 → hla h 223 k = w64 (c k)) (hj2 : j ≤ 20) {k : Nat} (hk : k < 800) : f_X12_chanceOf_l98 (w32 j) (w32 k) h FU 0 0 = some (w64 (sm c (k + 1) - sm c (k + 1 - j))) := by
  have e : sm c (k + 1) - sm c (k + 1 - j) = sm c (k + 1) - sm c (k + 1 - min j (k + 1)) := by rw [show k + 1 - min j (k + 1) = k + 1 - j by omega]
  rw [e]
  have := loopN (fun n (s : Int64 × Int32) => f_X12_chanceOf_l98 (w32 j) (w32 k) h n s.1 s.2) (fun i => (w64 (sm c (k + 1) - sm c (k + 1 - i)), w32 (i : Nat))) (min j (k + 1)) (w64 (sm c (k + 1) - sm c (k + 1 - min j (k + 1)))) (fun i n hi => by
      show f_X12_chanceOf_l98 (w32 j) (w32 k) h (n + 1) (w64 (sm c (k + 1) - sm c (k + 1 - i))) (w32 i) = f_X12_chanceOf_l98 (w32 j) (w32 k) h n (w64 (sm c (k + 1) - sm c (k + 1 - (i + 1)))) (w32 (i + 1 : Nat))
      have em : w32 (k : Int) - w32 (i : Int) = w32 ((k - i : Nat) : Int) := by rw [w_sub]; exact ww (by omega)
      rw [f_X12_chanceOf_l98, if_neg (by rw [w_le _ _ (by omega) (by omega) (by omega) (by omega)]; omega), if_neg (by rw [w_lt _ _ (by omega) (by omega) (by omega) (by omega)]; omega), em, gd_t (by rw [w_ibN _ _ (by omega)]; omega), w_clN _ (by omega), hr (k - i) (by omega), v_add, wl_1, w_add, w_s, show sm c (k + 1) - sm c (k + 1 - i) + c (k - i) = sm c (k + 1) - sm c (k + 1 - (i + 1)) by rw [show k + 1 - i = (k - i) + 1 by omega, show k + 1 - (i + 1) = k - i by omega, sm_s c (k - i)]; omega]) (fun n => by
      show f_X12_chanceOf_l98 (w32 j) (w32 k) h (n + 1) _ (w32 (min j (k + 1) : Nat)) = _
      rw [f_X12_chanceOf_l98]
      by_cases q : j ≤ k + 1
      · rw [if_pos (by rw [w_le _ _ (by omega) (by omega) (by omega) (by omega)]; omega)]
      · rw [if_neg (by rw [w_le _ _ (by omega) (by omega) (by omega) (by omega)]; omega), if_pos (by rw [w_lt _ _ (by omega) (by omega) (by omega) (by omega)]; omega)]) FU (by unfold FU; omega)
  dsimp only at this
  rw [Nat.sub_zero, Int.sub_self] at this
  exact this
theorem m_chance86 (hc : cOK c) (hr : ∀ k, k < 800 → hla h 223 k = w64 (c k)) (hj : 1 ≤ j) (hj2 : j ≤ 20) {m : Nat} (hm : m ≤ 380) : ∃ h1, f_X12_chanceOf_l86 (w32 m) (w32 j) FU 0 h = some h1 ∧ Fr (fun q => q = 224) h h1 ∧ ∀ k, k < m + 1 → hla h1 224 k = w64 (mix j c k) := loopR (fun n (s : Int32 × AH) => f_X12_chanceOf_l86 (w32 m) (w32 j) n s.1 s.2) (fun i s => s.1 = w32 (i : Nat) ∧ Fr (fun q => q = 224) h s.2 ∧ ∀ k, k < i → hla s.2 224 k = w64 (mix j c k)) (fun h1 => Fr (fun q => q = 224) h h1 ∧ ∀ k, k < m + 1 → hla h1 224 k = w64 (mix j c k)) (m + 1) (fun i n s hi hP => by
      obtain ⟨v3, hh⟩ := s
      obtain ⟨p1, p2, p3⟩ := hP
      dsimp only at p1 p2 p3
      subst p1
      have w := win_rg hc j i
      have hr2 : ∀ k, k < 800 → hla hh 223 k = w64 (c k) := fun k hk => by rw [(p2 223 (by omega)).2.2.2.1]; exact hr k hk
      refine ⟨(w32 (i + 1 : Nat), sla hh 224 i (w64 (mix j c i))), ⟨rfl, p2.tr (Fr.sla _ _ _ _ rfl), fun k hk => ?_⟩, ?_⟩
      · show hla (sla hh 224 i _) 224 k = _
        rw [la_sla]
        by_cases q : k = i
        · rw [if_pos q, q]
        · rw [if_neg q]; exact p3 k (by omega)
      · show f_X12_chanceOf_l86 (w32 m) (w32 j) (n + 1) (w32 i) hh = f_X12_chanceOf_l86 (w32 m) (w32 j) n (w32 (i + 1 : Nat)) _
        rw [f_X12_chanceOf_l86, if_neg (by rw [w_lt _ _ (by omega) (by omega) (by omega) (by omega)]; omega), m_chance98 hr2 hj2 (by omega), bnd_s, w_l _ (by omega) (by omega), gd_t (by rw [vl_0, v_eq _ _ (by omega) (by omega) (by omega) (by omega)]; omega), gd_t (by rw [w_ibN _ _ (by omega)]; omega), lt_b, w_clN _ (by omega), v_divP _ _ (by omega) (by omega) (by omega) (by omega), wl_1, w_add, w_s]
        rfl) (fun n s hP => by
      obtain ⟨v3, hh⟩ := s
      obtain ⟨p1, p2, p3⟩ := hP
      dsimp only at p1 p2 p3
      subst p1
      refine ⟨hh, ?_, p2, p3⟩
      show f_X12_chanceOf_l86 (w32 m) (w32 j) (n + 1) (w32 (m + 1 : Nat)) hh = _
      rw [f_X12_chanceOf_l86, if_pos (by rw [w_lt _ _ (by omega) (by omega) (by omega) (by omega)]; omega)]) FU (by unfold FU; omega) (0, h) ⟨rfl, Fr.rf, fun k hk => by omega⟩
theorem m_chance155 {m : Nat} (hm : m ≤ 380) : ∃ h1, f_X12_chanceOf_l155 (w32 m) FU 0 h = some h1 ∧ Fr (fun q => q = 223) h h1 ∧ (∀ k, k < m + 1 → hla h1 223 k = hla h 224 k) ∧ ∀ k, m + 1 ≤ k → hla h1 223 k = hla h 223 k := loopR (fun n (s : Int32 × AH) => f_X12_chanceOf_l155 (w32 m) n s.1 s.2) (fun i s => s.1 = w32 (i : Nat) ∧ Fr (fun q => q = 223) h s.2 ∧ (∀ k, k < i → hla s.2 223 k = hla h 224 k) ∧ ∀ k, i ≤ k → hla s.2 223 k = hla h 223 k) (fun h1 => Fr (fun q => q = 223) h h1 ∧ (∀ k, k < m + 1 → hla h1 223 k = hla h 224 k) ∧ ∀ k, m + 1 ≤ k → hla h1 223 k = hla h 223 k) (m + 1) (fun i n s hi hP => by
      obtain ⟨v3, hh⟩ := s
      obtain ⟨p1, p2, p3, p4⟩ := hP
      dsimp only at p1 p2 p3 p4
      subst p1
      have e2 : hla hh 224 i = hla h 224 i := by rw [(p2 224 (by omega)).2.2.2.1]
      refine ⟨(w32 (i + 1 : Nat), sla hh 223 i (hla h 224 i)), ⟨rfl, p2.tr (Fr.sla _ _ _ _ rfl), fun k hk => ?_, fun k hk => ?_⟩, ?_⟩
      · show hla (sla hh 223 i _) 223 k = _
        rw [la_sla]
        by_cases q : k = i
        · rw [if_pos q, q]
        · rw [if_neg q]; exact p3 k (by omega)
      · show hla (sla hh 223 i _) 223 k = _
        rw [la_sla, if_neg (by omega)]; exact p4 k (by omega)
      · show f_X12_chanceOf_l155 (w32 m) (n + 1) (w32 i) hh = f_X12_chanceOf_l155 (w32 m) n (w32 (i + 1 : Nat)) _
        rw [f_X12_chanceOf_l155, if_neg (by rw [w_lt _ _ (by omega) (by omega) (by omega) (by omega)]; omega), gd_t (by rw [w_ibN _ _ (by omega)]; omega), gd_t (by rw [w_ibN _ _ (by omega)]; omega), lt_b, w_clN _ (by omega), e2, wl_1, w_add, w_s]) (fun n s hP => by
      obtain ⟨v3, hh⟩ := s
      obtain ⟨p1, p2, p3⟩ := hP
      dsimp only at p1 p2 p3
      subst p1
      refine ⟨hh, ?_, p2, p3⟩
      show f_X12_chanceOf_l155 (w32 m) (n + 1) (w32 (m + 1 : Nat)) hh = _
      rw [f_X12_chanceOf_l155, if_pos (by rw [w_lt _ _ (by omega) (by omega) (by omega) (by omega)]; omega)]) FU (by unfold FU; omega) (0, h) ⟨rfl, Fr.rf, fun k hk => by omega, fun k _ => rfl⟩
theorem m_chance (hB : BM h b β) (hb : b < 8) (oB : okB β) {p : Nat} (hp : p ≤ 1600) : ∃ h1, f_X12_chanceOf (w32 b) (w32 p) h = some (w32 (sm (cS β (vL β)) (max p 381) - sm (cS β (vL β)) p), h1) ∧ Fr (fun q => q = 223 ∨ q = 224) h h1 := by
  have o1 := oB.1
  obtain ⟨k1, e1, f1, z1⟩ := m_chance5 (h := h)
  have f2 : Fr (fun q => q = 223 ∨ q = 224) h (sla k1 223 0 1000000) := (f1.mono (fun q e => Or.inl e)).tr (Fr.sla _ _ _ _ (Or.inl rfl))
  have z2 : ∀ k, k < 800 → hla (sla k1 223 0 1000000) 223 k = w64 (cS β 0 k) := fun k hk => by
    rw [la_sla]
    show _ = w64 (if k = 0 then 1000000 else 0)
    by_cases q : k = 0
    · rw [if_pos q, if_pos q]; rfl
    · rw [if_neg q, if_neg q, z1 k hk]; rfl
  obtain ⟨⟨r3, k3⟩, e3, f3, g3, z3⟩ := loopR (fun n (s : Int32 × Int32 × AH) => f_X12_chanceOf_l41 (w32 b) n s.1 s.2.1 s.2.2) (fun i s => s.1 = w32 (mo β i : Nat) ∧ s.2.1 = w32 (i : Nat) ∧ Fr (fun q => q = 223 ∨ q = 224) h s.2.2 ∧ ∀ k, k < 800 → hla s.2.2 223 k = w64 (cS β i k)) (fun t => t.1 = w32 (mo β (vL β) : Nat) ∧ Fr (fun q => q = 223 ∨ q = 224) h t.2 ∧ ∀ k, k < 800 → hla t.2 223 k = w64 (cS β (vL β) k)) (vL β) (fun i n s hi hP => by
      obtain ⟨v2, v3, hh⟩ := s
      obtain ⟨p1, p2, p3, p4⟩ := hP
      dsimp only at p1 p2 p3 p4
      subst p1 p2
      have hB2 := hB.fr p3 (fun c h1 h2 h3 => by omega)
      have d1 := hB2.1
      have d3 := (hB2.2.2.2.2.2.1 i hi).2.2.1
      have op := (oB.2.2.2.2.2.1 i hi).2.2.1
      have m3 := mo_380 oB (i + 1) (by omega)
      have m4 := mo_s β i
      by_cases q : vp β i = 0
      · refine ⟨(w32 (mo β (i + 1) : Nat), w32 (i + 1 : Nat), hh), ⟨rfl, rfl, p3, fun k hk => ?_⟩, ?_⟩
        · rw [cS_s, if_pos q]; exact p4 k hk
        · show f_X12_chanceOf_l41 (w32 b) (n + 1) (w32 (mo β i : Nat)) (w32 i) hh = f_X12_chanceOf_l41 (w32 b) n (w32 (mo β (i + 1) : Nat)) (w32 (i + 1 : Nat)) hh
          rw [f_X12_chanceOf_l41, e_at, gd_t (by rw [w_ibN _ _ (by omega)]; omega), w_clN _ (by omega), d1, if_neg (by rw [w_le _ _ (by omega) (by omega) (by omega) (by omega)]; omega), gd_t (by rw [w_ibN _ _ (by omega)]; omega), w_clN _ (by omega), d3, wl_1, w_add, if_neg (by rw [wl_2, w_le _ _ (by omega) (by omega) (by omega) (by omega)]; omega), w_add, w_s, show mo β (i + 1) = mo β i by omega]
      · have em : w32 (mo β i : Nat) + (w32 (vp β i : Nat) + 1 - 1) = w32 (mo β (i + 1) : Nat) := by rw [wl_1, w_add, w_sub, w_add]; exact ww (by omega)
        have ej : w32 (vp β i : Nat) + 1 = w32 ((vp β i + 1 : Nat) : Int) := by rw [wl_1, w_add]; exact ww (by omega)
        obtain ⟨h5, e5, f5, z5⟩ := m_chance86 (h := hh) (j := vp β i + 1) (cS_ok β i) p4 (by omega) (by omega) m3
        obtain ⟨h6, e6, f6, z6, z7⟩ := m_chance155 (h := h5) m3
        refine ⟨(w32 (mo β (i + 1) : Nat), w32 (i + 1 : Nat), h6), ⟨rfl, rfl, (p3.tr (f5.mono (fun q e => Or.inr e))).tr (f6.mono (fun q e => Or.inl e)), fun k hk => ?_⟩, ?_⟩
        · show hla h6 223 k = _
          by_cases qk : k < mo β (i + 1) + 1
          · rw [z6 k qk, z5 k qk, cS_s, if_neg q]
          · rw [z7 k (by omega), (f5 223 (by omega)).2.2.2.1, p4 k hk, cS_0 β i k (by omega), cS_0 β (i + 1) k (by omega)]
        · show f_X12_chanceOf_l41 (w32 b) (n + 1) (w32 (mo β i : Nat)) (w32 i) hh = f_X12_chanceOf_l41 (w32 b) n (w32 (mo β (i + 1) : Nat)) (w32 (i + 1 : Nat)) h6
          rw [f_X12_chanceOf_l41, e_at, gd_t (by rw [w_ibN _ _ (by omega)]; omega), w_clN _ (by omega), d1, if_neg (by rw [w_le _ _ (by omega) (by omega) (by omega) (by omega)]; omega), gd_t (by rw [w_ibN _ _ (by omega)]; omega), w_clN _ (by omega), d3, em, ej, if_pos (by rw [wl_2, w_le _ _ (by omega) (by omega) (by omega) (by omega)]; omega), e5, bnd_s, e6, bnd_s, wl_1, w_add, w_s]) (fun n s hP => by
      obtain ⟨v2, v3, hh⟩ := s
      obtain ⟨p1, p2, p3, p4⟩ := hP
      dsimp only at p1 p2 p3 p4
      subst p1 p2
      have d1 := (hB.fr p3 (fun c h1 h2 h3 => by omega)).1
      refine ⟨(w32 (mo β (vL β) : Nat), hh), ?_, rfl, p3, p4⟩
      show f_X12_chanceOf_l41 (w32 b) (n + 1) _ (w32 (vL β)) hh = _
      rw [f_X12_chanceOf_l41, gd_t (by rw [w_ibN _ _ (by omega)]; omega), w_clN _ (by omega), d1, if_pos (Int32.le_refl _)]) FU (by unfold FU; omega) (0, 0, sla k1 223 0 1000000) ⟨rfl, rfl, f2, z2⟩
  dsimp only at f3 g3 z3
  subst f3
  have m3 := mo_380 oB (vL β) (Nat.le_refl _)
  have hc := cS_ok β (vL β)
  have lp : f_X12_chanceOf_l193 (w32 (mo β (vL β) : Nat)) k3 FU 0 (w32 p) = some (w64 (sm (cS β (vL β)) (max p (mo β (vL β) + 1)) - sm (cS β (vL β)) p)) := by
    have := loopF (fun n (s : Int64 × Int32) => f_X12_chanceOf_l193 (w32 (mo β (vL β) : Nat)) k3 n s.1 s.2) (fun i => (w64 (sm (cS β (vL β)) i - sm (cS β (vL β)) p), w32 (i : Nat))) p (max p (mo β (vL β) + 1)) (by omega) (w64 (sm (cS β (vL β)) (max p (mo β (vL β) + 1)) - sm (cS β (vL β)) p)) (fun i n h1 h2 => by
        show f_X12_chanceOf_l193 (w32 (mo β (vL β) : Nat)) k3 (n + 1) (w64 (sm (cS β (vL β)) i - sm (cS β (vL β)) p)) (w32 i) = f_X12_chanceOf_l193 (w32 (mo β (vL β) : Nat)) k3 n (w64 (sm (cS β (vL β)) (i + 1) - sm (cS β (vL β)) p)) (w32 (i + 1 : Nat))
        rw [f_X12_chanceOf_l193, if_neg (by rw [w_lt _ _ (by omega) (by omega) (by omega) (by omega)]; omega), gd_t (by rw [w_ibN _ _ (by omega)]; omega), w_clN _ (by omega), z3 i (by omega), v_add, wl_1, w_add, w_s, sm_s, show sm (cS β (vL β)) i - sm (cS β (vL β)) p + cS β (vL β) i = sm (cS β (vL β)) i + cS β (vL β) i - sm (cS β (vL β)) p by omega]) (fun n => by
        show f_X12_chanceOf_l193 (w32 (mo β (vL β) : Nat)) k3 (n + 1) _ (w32 (max p (mo β (vL β) + 1) : Nat)) = _
        rw [f_X12_chanceOf_l193, if_pos (by rw [w_lt _ _ (by omega) (by omega) (by omega) (by omega)]; omega)]) FU (by unfold FU; omega)
    dsimp only at this
    rw [Int.sub_self] at this
    exact this
  have eq : sm (cS β (vL β)) (max p 381) = sm (cS β (vL β)) (max p (mo β (vL β) + 1)) := sm_flat (by omega) (fun i h1 h2 => cS_0 β (vL β) i (by omega))
  have rg := sm_seg hc p (max p 381 - p)
  rw [show p + (max p 381 - p) = max p 381 by omega] at rg
  refine ⟨k3, ?_, g3⟩
  unfold f_X12_chanceOf
  rw [e1, bnd_s, gd_t (by decide), lt_b]
  rw [show f_X12_chanceOf_l41 (w32 b) FU 0 0 (sla k1 223 (cl 0) 1000000) = _ from e3, bnd_s]
  dsimp only
  rw [lp, bnd_s, ← eq, v_i _ (by omega) (by omega)]
theorem q_sleepy (x y : Int32) (hI : CI h S) (oS : okS S) : ∃ s, RC (f_X11_sleepy x y h) h s ∧ ∀ h', MI2 h' S T → RM (f_X12_sleepy x y h') h' s := by
  refine q_asked x hI oS _ _ (fun b hb hx hk h1 f1 hI1 u1 => ?_)
  subst hx
  have o := oS.1 b hb
  have oL := oS.2.1
  have hB := (hI1.2.1 b hb).1
  have isX := (hI1.1.1 b hb).1
  obtain ⟨z, rfl, r1, r2⟩ := w_ex y
  have kp := k_pairs hB u1 o.1 o.2.1 oL hk
  have m0 : (0 ≤ z ∧ z ≤ 2) → f_X12_isIn (w32 z) 0 2 = true := fun q => by rw [wl_0, wl_2, e_isIn _ _ _ (by omega) (by omega) (by omega) (by omega) (by omega) (by omega), decide_eq_true q]
  rcases (show z = 0 ∨ z = 1 ∨ z = 2 ∨ ¬ (0 ≤ z ∧ z ≤ 2) by omega) with rfl | rfl | rfl | q
  · refine ⟨some (sm (prS (xb S b) (xg S b) (xa S) true) (vL (xb S b))), RC_some Fr.rf ?_, fun h' hM hc => RM_some FrQ.rf ?_ hc⟩
    · try dsimp only
      rw [if_pos (by decide), kp true, bnd_s]
    · try dsimp only
      rw [m0 (by omega), if_pos rfl, if_neg (by decide), if_pos (by decide), show (-1 : Int32) = w32 (-1) from rfl, m_pairs (hM.mk oS hb) hk true (-1) rfl, bnd_s]
  · refine ⟨some (sm (prS (xb S b) (xg S b) (xa S) false) (vL (xb S b))), RC_some Fr.rf ?_, fun h' hM hc => RM_some FrQ.rf ?_ hc⟩
    · try dsimp only
      rw [if_neg (by decide), if_pos (by decide), kp false, bnd_s]
    · try dsimp only
      rw [m0 (by omega), if_pos rfl, if_neg (by decide), if_neg (by decide), wl_1, m_pairs (hM.mk oS hb) hk false 1 rfl, bnd_s]
  · have rp := prS_rg2 (γ := xg S b) (a := xa S) o.1 true (vL (xb S b)) o.1.1
    have mp : ∀ h', MI2 h' S T → f_X12_pairs (w32 b) (-1) h' = some (w32 (sm (prS (xb S b) (xg S b) (xa S) true) (vL (xb S b)))) := fun h' hM => by rw [show (-1 : Int32) = w32 (-1) from rfl]; exact m_pairs (hM.mk oS hb) hk true (-1) rfl
    have kt := kp true
    obtain ⟨p, ep, hp⟩ := nat_of (z := sm (prS (xb S b) (xg S b) (xa S) true) (vL (xb S b))) (n := 1600) (by omega)
    rw [ep] at kt
    obtain ⟨h2, e2, f2⟩ := k_chance hB isX o.1 hp
    refine ⟨some (sm (cS (xb S b) (vL (xb S b))) (max p 381) - sm (cS (xb S b) (vL (xb S b))) p), RC_some (f2.mono (fun c q => by unfold WS; omega)) ?_, fun h' hM hc => ?_⟩
    · try dsimp only
      rw [if_neg (by decide), if_neg (by decide), if_pos (by decide), kt, bnd_s, e2, bnd_s]
    · obtain ⟨h3, e3, f3⟩ := m_chance (hM.1 b hb).1 (by omega) o.1 hp
      have mt := mp h' hM
      rw [ep] at mt
      refine RM_some (h := h3) ⟨f3.mono (fun c q => by unfold WQ; omega), fun k _ => by rw [(f3 193 (by omega)).1]⟩ ?_ (by rw [(f3 193 (by omega)).1]; exact hc)
      try dsimp only
      rw [m0 (by omega), if_pos rfl, if_pos (by decide), mt, bnd_s, e3, bnd_s]
  · refine ⟨none, RC_none Fr.rf ?_, fun h' hM hc => RM_fail FrQ.rf ?_⟩
    · try dsimp only
      rw [wl_0, wl_1, wl_2, if_neg (ne_w r1 r2 (by omega) (by omega) (by omega)), if_neg (ne_w r1 r2 (by omega) (by omega) (by omega)), if_neg (ne_w r1 r2 (by omega) (by omega) (by omega))]
    · try dsimp only
      rw [show f_X12_isIn (w32 z) 0 2 = false from by rw [wl_0, wl_2, e_isIn _ _ _ (by omega) (by omega) (by omega) (by omega) (by omega) (by omega), decide_eq_false q], if_neg (by decide), m_fail, bnd_s]
end CHA
