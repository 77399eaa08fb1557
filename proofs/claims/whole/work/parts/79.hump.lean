/-! humps: the reference -/
section HUM
variable {h : AH} {S : SV} {T b : Nat} {β : BV} {γ : GV} {a : LV} {m g : Nat} {L K : Nat → Int}
theorem MK.fr {W : Nat → Prop} {h' : AH} (hM : MK h b β γ a) (hF : Fr W h h') (hd : ∀ c, 196 ≤ c → c ≤ 215 → ¬ W c) : MK h' b β γ a := by
  obtain ⟨h1, h2, h3, h4⟩ := hM
  refine ⟨h1.fr hF (fun c q1 q2 _ => hd c q1 (by omega)), fun l hl => ?_, h3.fr hF (hd _ (by omega) (by omega)), h4⟩
  rw [(hF 208 (hd _ (by omega) (by omega))).2.2.1, (hF 209 (hd _ (by omega) (by omega))).2.2.1]
  exact h2 l hl
def W5 (c : Nat) : Prop := c = 225 ∨ c = 226
theorem m_ins (hR0 : HR h 225 m K L) (hm : m < 12) {v : Int} (hL : lOK L) (hv : 0 ≤ v ∧ v ≤ 1000050) {p : Nat} (hp : p = ps L v m) : ∃ h1, f_X12_tellLights_l38 (w32 v) FU (w32 (m : Nat)) h = some (w32 (p : Nat), h1) ∧ Fr W5 h h1 ∧ (∀ j, j < p → hia h1 225 j = w32 (K j) ∧ hia h1 226 j = w32 (L j)) ∧ ∀ j, p < j → j ≤ m → hia h1 225 j = w32 (K (j - 1)) ∧ hia h1 226 j = w32 (L (j - 1)) := by
  have pl := ps_le L v m
  have pg := ps_gt L v m
  have pa := ps_at L v m
  rw [← hp] at pl pg pa
  obtain ⟨⟨r1, h1⟩, e, q1, q2, q3, q4⟩ := loopR (fun n (s : Int32 × AH) => f_X12_tellLights_l38 (w32 v) n s.1 s.2) (fun i s => s.1 = w32 (m - i : Nat) ∧ Fr W5 h s.2 ∧ (∀ j, j < m - i → hia s.2 225 j = w32 (K j) ∧ hia s.2 226 j = w32 (L j)) ∧ ∀ j, m - i < j → j ≤ m → hia s.2 225 j = w32 (K (j - 1)) ∧ hia s.2 226 j = w32 (L (j - 1))) (fun t => t.1 = w32 (p : Nat) ∧ Fr W5 h t.2 ∧ (∀ j, j < p → hia t.2 225 j = w32 (K j) ∧ hia t.2 226 j = w32 (L j)) ∧ ∀ j, p < j → j ≤ m → hia t.2 225 j = w32 (K (j - 1)) ∧ hia t.2 226 j = w32 (L (j - 1))) (m - p) (fun i n s hi hP => by
      obtain ⟨v3, hh⟩ := s
      obtain ⟨p1, p2, p3, p4⟩ := hP
      dsimp only at p1 p2 p3 p4
      subst p1
      obtain ⟨c, hc⟩ : ∃ c, m - i = c + 1 := ⟨m - i - 1, by omega⟩
      rw [hc] at p3 p4
      obtain ⟨d1, d2⟩ := p3 c (by omega)
      have gt := pg c (by omega) (by omega)
      have rc := hL c
      have em : w32 ((m - i : Nat) : Int) - 1 = w32 (c : Nat) := by rw [hc, wl_1, w_sub]; exact ww (by omega)
      have em2 : w32 ((m - i : Nat) : Int) + (-1) = w32 (m - (i + 1) : Nat) := by rw [hc, wl_1, w_neg, w_add]; exact ww (by omega)
      refine ⟨(w32 (m - (i + 1) : Nat), sia (sia hh 225 (c + 1) (w32 (K c))) 226 (c + 1) (w32 (L c))), ⟨rfl, (p2.tr (Fr.sia _ _ _ _ (Or.inl rfl))).tr (Fr.sia _ _ _ _ (Or.inr rfl)), fun j hj => ?_, fun j hj hj2 => ?_⟩, ?_⟩
      · dsimp only
        simp (disch := omega) only [ia_sia_ne, ia_sia_nk]
        exact p3 j (by omega)
      · dsimp only
        by_cases q : j = c + 1
        · subst q
          simp (disch := omega) only [ia_sia_ne, ia_sia_eq]
          exact ⟨rfl, rfl⟩
        · simp (disch := omega) only [ia_sia_ne, ia_sia_nk]
          exact p4 j (by omega) hj2
      · show f_X12_tellLights_l38 (w32 v) (n + 1) (w32 (m - i : Nat)) hh = f_X12_tellLights_l38 (w32 v) n (w32 (m - (i + 1) : Nat)) _
        rw [f_X12_tellLights_l38, if_neg (by rw [wl_0, w_le _ _ (by omega) (by omega) (by omega) (by omega)]; omega), em, em2, gd_t (by rw [w_ibN _ _ (by omega)]; omega), w_clN c (by omega), d2, if_neg (by rw [w_le _ _ (by omega) (by omega) (by omega) (by omega)]; exact gt), gd_t (by rw [w_ibN _ _ (by omega)]; omega), gd_t (by rw [w_ibN _ _ (by omega)]; omega), lt_b, w_clN (m - i) (by omega), gd_t (by rw [w_ibN _ _ (by omega)]; omega), gd_t (by rw [w_ibN _ _ (by omega)]; omega), lt_b, hc]
        rw [ia_sia_ne _ _ _ _ 226 (by omega), d1, d2]) (fun n s hP => by
      obtain ⟨v3, hh⟩ := s
      obtain ⟨p1, p2, p3, p4⟩ := hP
      dsimp only at p1 p2 p3 p4
      subst p1
      have ep : m - (m - p) = p := by omega
      rw [ep] at p3 p4
      refine ⟨(w32 (p : Nat), hh), ?_, rfl, p2, p3, p4⟩
      show f_X12_tellLights_l38 (w32 v) (n + 1) (w32 (m - (m - p) : Nat)) hh = _
      rw [ep, f_X12_tellLights_l38]
      rcases Nat.eq_zero_or_pos p with z | z
      · rw [if_pos (by rw [wl_0, w_le _ _ (by omega) (by omega) (by omega) (by omega)]; omega)]
      · have le : L (p - 1) ≤ v := by rcases pa with e | e; omega; exact e
        have rc := hL (p - 1)
        rw [if_neg (by rw [wl_0, w_le _ _ (by omega) (by omega) (by omega) (by omega)]; omega), show w32 (p : Int) - 1 = w32 (p - 1 : Nat) from by rw [wl_1, w_sub]; exact ww (by omega), gd_t (by rw [w_ibN _ _ (by omega)]; omega), w_clN (p - 1) (by omega), (p3 (p - 1) (by omega)).2, if_pos (by rw [w_le _ _ (by omega) (by omega) (by omega) (by omega)]; exact le)]) FU (by unfold FU; omega) (w32 m, h) ⟨by rw [Nat.sub_zero], Fr.rf, fun j hj => hR0 j (by omega), fun j hj hj2 => by omega⟩
  dsimp only at q1 q2 q3 q4
  subst q1
  exact ⟨h1, e, q2, q3, q4⟩
def W6 (c : Nat) : Prop := c = 193 ∨ c = 225 ∨ c = 226
theorem m_lights (hM : MK h b β γ a) (hk : kn β γ) : ∃ h1, f_X12_tellLights (w32 b) h = some h1 ∧ Fr W6 h h1 ∧ (∀ k, k ≠ 47 → hfi h1 193 k = hfi h 193 k) ∧ hfi h1 193 47 = w32 (hM' β γ a : Nat) ∧ HR h1 225 (hM' β γ a) (hK β γ a) (hL' β γ a) := by
  obtain ⟨hB, hG, hL, oB, oG, oL, hb⟩ := id hM
  have hA := LI_rg2 oB oG oL hk
  obtain ⟨h1, e, q⟩ := loopR (fun n (s : Int32 × AH) => f_X12_tellLights_l7 (w32 b) n s.1 s.2) (fun i s => s.1 = w32 (i : Nat) ∧ Fr W6 h s.2 ∧ (∀ k, k ≠ 47 → hfi s.2 193 k = hfi h 193 k) ∧ hfi s.2 193 47 = w32 ((lS (LI β γ a) (sLo β) i).1 : Nat) ∧ HR s.2 225 (lS (LI β γ a) (sLo β) i).1 (lS (LI β γ a) (sLo β) i).2.1 (lS (LI β γ a) (sLo β) i).2.2) (fun h1 => Fr W6 h h1 ∧ (∀ k, k ≠ 47 → hfi h1 193 k = hfi h 193 k) ∧ hfi h1 193 47 = w32 ((lS (LI β γ a) (sLo β) 12).1 : Nat) ∧ HR h1 225 (lS (LI β γ a) (sLo β) 12).1 (lS (LI β γ a) (sLo β) 12).2.1 (lS (LI β γ a) (sLo β) 12).2.2) 12 (fun i n s hi hP => by
      obtain ⟨v2, hh⟩ := s
      obtain ⟨p1, p2, p3, p4, p5⟩ := hP
      dsimp only at p1 p2 p3 p4 p5
      subst p1
      have hM2 := hM.fr p2 (fun c h1 h2 => by unfold W6; omega)
      have p := sLo_rg oB i
      have mh := m_hasB hM2 hi
      by_cases q : sLo β i = 0
      · refine ⟨(w32 (i + 1 : Nat), hh), ⟨rfl, p2, p3, by rw [lS_0 q]; exact p4, by rw [lS_0 q]; exact p5⟩, ?_⟩
        show f_X12_tellLights_l7 (w32 b) (n + 1) (w32 i) hh = f_X12_tellLights_l7 (w32 b) n (w32 (i + 1 : Nat)) hh
        rw [f_X12_tellLights_l7, if_neg (by rw [wl_12, w_le _ _ (by omega) (by omega) (by omega) (by omega)]; omega), mh, decide_eq_false (by omega), bnd_s, if_neg (by decide), wl_1, w_add, w_s]
      · have ml := m_LI hM2 hk hi (by omega)
        have lm := Nat.lt_of_le_of_lt (lS_le (LI β γ a) (sLo β) i) hi
        obtain ⟨h2, e2, f2, z2, z3⟩ := m_ins p5 lm (lS_ok hA i).1 (hA i) rfl
        have pl := ps_le (lS (LI β γ a) (sLo β) i).2.2 (LI β γ a i) (lS (LI β γ a) (sLo β) i).1
        generalize hp : ps (lS (LI β γ a) (sLo β) i).2.2 (LI β γ a i) (lS (LI β γ a) (sLo β) i).1 = p at *
        have f193 := (f2 193 (by unfold W5; omega)).1
        refine ⟨(w32 (i + 1 : Nat), sfi (sia (sia h2 225 p (w32 i)) 226 p (w32 (LI β γ a i))) 193 47 (w32 ((lS (LI β γ a) (sLo β) i).1 + 1 : Nat))), ⟨rfl, (((p2.tr (f2.mono (fun c q => by unfold W5 at q; unfold W6; omega))).tr (Fr.sia _ _ _ _ (by unfold W6; omega))).tr (Fr.sia _ _ _ _ (by unfold W6; omega))).tr (Fr.sfi _ _ _ _ (by unfold W6; omega)), fun k hk => ?_, ?_, ?_⟩, ?_⟩
        · show hfi (sfi (sia (sia h2 _ _ _) _ _ _) 193 47 _) 193 k = _
          rw [fi_sfi_nk _ _ _ _ _ hk]
          show hfi h2 193 k = _
          rw [f193]; exact p3 k hk
        · rw [lS_1 q]; exact fi_sfi_eq _ _ _ _
        · rw [lS_1 q, hp]
          intro j hj
          dsimp only at hj
          show hia (sia (sia h2 225 p (w32 i)) 226 p (w32 (LI β γ a i))) 225 j = _ ∧ hia (sia (sia h2 225 p (w32 i)) 226 p (w32 (LI β γ a i))) 226 j = _
          dsimp only
          unfold ins
          rcases Nat.lt_trichotomy j p with z | z | z
          · rw [if_pos z, if_pos z]
            simp (disch := omega) only [ia_sia_ne, ia_sia_nk]
            exact z2 j z
          · subst z
            rw [if_neg (by omega), if_pos rfl, if_neg (by omega), if_pos rfl]
            simp (disch := omega) only [ia_sia_ne, ia_sia_eq]
            exact ⟨trivial, trivial⟩
          · rw [if_neg (by omega), if_neg (by omega), if_neg (by omega), if_neg (by omega)]
            simp (disch := omega) only [ia_sia_ne, ia_sia_nk]
            exact z3 j z (by omega)
        · show f_X12_tellLights_l7 (w32 b) (n + 1) (w32 i) hh = f_X12_tellLights_l7 (w32 b) n (w32 (i + 1 : Nat)) _
          rw [f_X12_tellLights_l7, if_neg (by rw [wl_12, w_le _ _ (by omega) (by omega) (by omega) (by omega)]; omega), mh, decide_eq_true (by omega), bnd_s, if_pos rfl, ml, bnd_s, p4, e2, bnd_s]
          dsimp only
          rw [gd_t (by rw [w_ibN _ _ (by omega)]; omega), lt_b, gd_t (by rw [w_ibN _ _ (by omega)]; omega), lt_b, lt_b, w_clN _ (by omega), show hfi (sia (sia h2 225 p (w32 i)) 226 p (w32 (LI β γ a i))) 193 47 = w32 ((lS (LI β γ a) (sLo β) i).1 : Nat) from by show hfi h2 193 47 = _; rw [f193]; exact p4, wl_1, w_add, w_s, w_add, w_s]) (fun n s hP => by
      obtain ⟨v2, hh⟩ := s
      obtain ⟨p1, p2⟩ := hP
      dsimp only at p1 p2
      subst p1
      refine ⟨hh, ?_, p2⟩
      show f_X12_tellLights_l7 (w32 b) (n + 1) (w32 (12 : Nat)) hh = _
      rw [f_X12_tellLights_l7, if_pos (by decide)]) FU (by decide) (0, sfi h 193 47 0) ⟨rfl, Fr.sfi _ _ _ _ (by unfold W6; omega), fun k hk => fi_sfi_nk _ _ _ _ _ hk, fi_sfi_eq _ _ _ _, fun i hi => absurd hi (Nat.not_lt_zero _)⟩
  refine ⟨h1, ?_, q⟩
  unfold f_X12_tellLights
  rw [lt_b, show f_X12_tellLights_l7 (w32 b) FU 0 (sfi h 193 47 0) = _ from e, bnd_s]
theorem m_spread (hL : lOK L) (hm : m ≤ 12) (hr : ∀ i, i < m → hia h 226 i = w32 (L i)) {f t : Nat} (hft : f < t) (ht : t ≤ m) : f_X12_spread (w32 f) (w32 t) h = some (w64 (sp L f t)) := by
  have lp : f_X12_spread_l14 (w32 t) h FU 0 0 (w32 f) = some (w64 (sm L t - sm L f), w64 (sm (sq L) t - sm (sq L) f)) := by
    have := loopF (fun n (s : Int64 × Int64 × Int32) => f_X12_spread_l14 (w32 t) h n s.1 s.2.1 s.2.2) (fun i => (w64 (sm L i - sm L f), w64 (sm (sq L) i - sm (sq L) f), w32 (i : Nat))) f t (by omega) (w64 (sm L t - sm L f), w64 (sm (sq L) t - sm (sq L) f)) (fun i n h1 h2 => by
        have rl := hL i
        show f_X12_spread_l14 (w32 t) h (n + 1) (w64 (sm L i - sm L f)) (w64 (sm (sq L) i - sm (sq L) f)) (w32 i) = f_X12_spread_l14 (w32 t) h n (w64 (sm L (i + 1) - sm L f)) (w64 (sm (sq L) (i + 1) - sm (sq L) f)) (w32 (i + 1 : Nat))
        rw [f_X12_spread_l14, if_neg (by rw [w_le _ _ (by omega) (by omega) (by omega) (by omega)]; omega), gd_t (by rw [w_ibN _ _ (by omega)]; omega), gd_t (by rw [w_ibN _ _ (by omega)]; omega), gd_t (by rw [w_ibN _ _ (by omega)]; omega), w_clN _ (by omega), hr i (by omega), w_l _ (by omega) (by omega), v_add, v_mul, v_add, wl_1, w_add, w_s, sm_s, sm_s, show sm L i - sm L f + L i = sm L i + L i - sm L f by omega, show sm (sq L) i - sm (sq L) f + L i * L i = sm (sq L) i + sq L i - sm (sq L) f from by show _ = sm (sq L) i + L i * L i - sm (sq L) f; omega]) (fun n => by
        show f_X12_spread_l14 (w32 t) h (n + 1) _ _ (w32 t) = _
        rw [f_X12_spread_l14, if_pos (Int32.le_refl _)]) FU (by unfold FU; omega)
    dsimp only at this
    rw [Int.sub_self, Int.sub_self] at this
    exact this
  have rg := spN_rg hL (show f ≤ t by omega) (show t ≤ 12 by omega)
  unfold f_X12_spread
  rw [lp, bnd_s]
  dsimp only
  rw [w_sub, w_l _ (by omega) (by omega), gd_t (by rw [vl_0, v_eq _ _ (by omega) (by omega) (by omega) (by omega)]; omega), v_mul, v_mul, v_sub, vl_1000, v_mul, show ((t : Int) - f) * (sm (sq L) t - sm (sq L) f) - (sm L t - sm L f) * (sm L t - sm L f) = spN L f t from rfl, v_divP _ _ (by omega) (by omega) (by omega) (by omega)]
  unfold sp
  rw [if_neg (by omega)]
/-! the recursion -/
theorem m_part64 (hg : g ≤ 4) : ∃ h1, f_X12_part_l64 (w32 g) FU 0 h = some h1 ∧ Fr (fun c => c = 228) h h1 ∧ ∀ i, i < g + 1 → hia h1 228 i = hia h 227 i :=
  loopR (fun n (s : Int32 × AH) => f_X12_part_l64 (w32 g) n s.1 s.2) (fun i s => s.1 = w32 (i : Nat) ∧ Fr (fun c => c = 228) h s.2 ∧ ∀ j, j < i → hia s.2 228 j = hia h 227 j) (fun h1 => Fr (fun c => c = 228) h h1 ∧ ∀ i, i < g + 1 → hia h1 228 i = hia h 227 i) (g + 1) (fun i n s hi hP => by
      obtain ⟨v2, hh⟩ := s
      obtain ⟨p1, p2, p3⟩ := hP
      dsimp only at p1 p2 p3
      subst p1
      have e2 : hia hh 227 i = hia h 227 i := by rw [(p2 227 (by omega)).2.2.1]
      refine ⟨(w32 (i + 1 : Nat), sia hh 228 i (hia h 227 i)), ⟨rfl, p2.tr (Fr.sia _ _ _ _ rfl), fun j hj => ?_⟩, ?_⟩
      · show hia (sia hh 228 i _) 228 j = _
        rw [ia_sia]
        by_cases q : j = i
        · rw [if_pos q, q]
        · rw [if_neg q]; exact p3 j (by omega)
      · show f_X12_part_l64 (w32 g) (n + 1) (w32 i) hh = f_X12_part_l64 (w32 g) n (w32 (i + 1 : Nat)) _
        rw [f_X12_part_l64, if_neg (by rw [w_lt _ _ (by omega) (by omega) (by omega) (by omega)]; omega), gd_t (by rw [w_ibN _ _ (by omega)]; omega), gd_t (by rw [w_ibN _ _ (by omega)]; omega), lt_b, w_clN _ (by omega), e2, wl_1, w_add, w_s]) (fun n s hP => by
      obtain ⟨v2, hh⟩ := s
      obtain ⟨p1, p2⟩ := hP
      dsimp only at p1 p2
      subst p1
      refine ⟨hh, ?_, p2⟩
      show f_X12_part_l64 (w32 g) (n + 1) (w32 (g + 1 : Nat)) hh = _
      rw [f_X12_part_l64, if_pos (by rw [w_lt _ _ (by omega) (by omega) (by omega) (by omega)]; omega)]) FU (by unfold FU; omega) (0, h) ⟨rfl, Fr.rf, fun j hj => by omega⟩
def W7 (c : Nat) : Prop := c = 193 ∨ c = 227 ∨ c = 228
/-- what the recursion reads and leaves -/
def FH (j : Nat) (h h1 : AH) : Prop := Fr W7 h h1 ∧ hfi h1 193 = hfi h 193 ∧ ∀ i, i ≤ j → hia h1 227 i = hia h 227 i
def pQ (h : AH) (g : Nat) (p : PZ) : Prop := hfl h 193 48 = w64 p.1 ∧ -1 ≤ p.1 ∧ p.1 ≤ 600000000000000000 ∧ (0 ≤ p.1 → ∀ i, i ≤ g → hia h 228 i = w32 (p.2 i : Nat))
theorem m_part (hL : lOK L) (hm : m ≤ 12) (hg : g ≤ 4) (d : Nat) : ∀ (e j : Nat) (C : Nat → Nat) (so : Int) (p : PZ) (h : AH), j + d + 1 = g → C j + d < m → (∀ i, i ≤ j → hia h 227 i = w32 (C i : Nat)) → hfi h 193 47 = w32 (m : Nat) → (∀ i, i < m → hia h 226 i = w32 (L i)) → pQ h g p → 0 ≤ so → so ≤ 144014400360000000 * j → ∃ h1, f_X12_part (d + 1 + e) (w32 j) (w32 g) (w64 so) h = some h1 ∧ FH j h h1 ∧ pQ h1 g (Rq L m d j C so p) := by
  induction d with
  | zero =>
    intro e j C so p h hj hC hc hm47 hr hp hs1 hs2
    have rs := sp_rg hL (C j) m hm
    have F1 : FH j h (sia h 227 g (w32 (m : Nat))) := ⟨Fr.sia _ _ _ _ (by unfold W7; omega), rfl, fun i hi => ia_sia_nk _ _ _ _ _ (by omega)⟩
    have ms : f_X12_spread (w32 (C j : Nat)) (w32 (m : Nat)) (sia h 227 g (w32 (m : Nat))) = some (w64 (sp L (C j) m)) := m_spread hL hm (fun i hi => by rw [ia_sia_ne _ _ _ _ _ (by omega)]; exact hr i hi) (by omega) (Nat.le_refl _)
    obtain ⟨p1, p2, p3, p4⟩ := hp
    have hd : f_X12_part (0 + 1 + e) (w32 j) (w32 g) (w64 so) h = if (lg_cmp (w64 p.1) 0) < 0 then bnd (f_X12_part_l64 (w32 g) FU 0 (sfl (sia h 227 g (w32 (m : Nat))) 193 48 (w64 (so + sp L (C j) m)))) (fun q20 => some q20) else if (lg_cmp (w64 (so + sp L (C j) m)) (w64 p.1)) < 0 then bnd (f_X12_part_l64 (w32 g) FU 0 (sfl (sia h 227 g (w32 (m : Nat))) 193 48 (w64 (so + sp L (C j) m)))) (fun q20 => some q20) else some (sia h 227 g (w32 (m : Nat))) := by
      rw [show 0 + 1 + e = e + 1 by omega, f_X12_part, if_pos (by rw [wl_1, w_sub]; exact ww (by omega)), gd_t (by rw [w_ibN _ _ (by omega)]; omega), lt_b, w_clN _ (by omega), hm47, gd_t (by rw [w_ibN _ _ (by omega)]; omega), w_clN _ (by omega)]
      rw [show hia (sia h 227 g (w32 (m : Nat))) 227 j = w32 (C j : Nat) from by rw [ia_sia_nk _ _ _ _ _ (by omega)]; exact hc j (Nat.le_refl _), show hfi (sia h 227 g (w32 (m : Nat))) 193 47 = w32 (m : Nat) from hm47, ms, bnd_s, lt_b, v_add, show hfl (sia h 227 g (w32 (m : Nat))) 193 48 = w64 p.1 from p1]
    have c1 : (lg_cmp (w64 p.1) 0 < 0) = (p.1 < 0) := by rw [vl_0, c_lt _ _ (by omega) (by omega) (by omega) (by omega)]
    have c2 : (lg_cmp (w64 (so + sp L (C j) m)) (w64 p.1) < 0) = (so + sp L (C j) m < p.1) := c_lt _ _ (by omega) (by omega) (by omega) (by omega)
    rw [Rq_0]
    unfold upz
    by_cases u : p.1 < 0 ∨ so + sp L (C j) m < p.1
    · have hd2 : f_X12_part (0 + 1 + e) (w32 j) (w32 g) (w64 so) h = bnd (f_X12_part_l64 (w32 g) FU 0 (sfl (sia h 227 g (w32 (m : Nat))) 193 48 (w64 (so + sp L (C j) m)))) (fun q20 => some q20) := by
        rw [hd]
        by_cases z : p.1 < 0
        · rw [if_pos (by rw [c1]; exact z)]
        · rw [if_neg (by rw [c1]; exact z), if_pos (by rw [c2]; omega)]
      obtain ⟨h2, e2, f2, z2⟩ := m_part64 (h := sfl (sia h 227 g (w32 (m : Nat))) 193 48 (w64 (so + sp L (C j) m))) hg
      rw [e2, bnd_s] at hd2
      rw [if_pos u]
      refine ⟨h2, hd2, ⟨(F1.1.tr (Fr.sfl _ _ _ _ (by unfold W7; omega))).tr (f2.mono (fun c q => by unfold W7; omega)), ?_, fun i hi => ?_⟩, ?_, by dsimp only; omega, by dsimp only; omega, fun _ i hi => ?_⟩
      · rw [(f2 193 (by omega)).1]; rfl
      · rw [(f2 227 (by omega)).2.2.1]
        show hia (sia h 227 g (w32 (m : Nat))) 227 i = _
        exact ia_sia_nk _ _ _ _ _ (by omega)
      · rw [(f2 193 (by omega)).2.1]
        show up2 h.2.1 193 48 _ 193 48 = _
        rw [up2_at]
        exact if_pos rfl
      · rw [z2 i (by omega)]
        show hia (sia h 227 g (w32 (m : Nat))) 227 i = _
        dsimp only
        rw [ia_sia]
        by_cases q : i = g
        · rw [if_pos q, if_neg (by omega)]
        · rw [if_neg q, if_pos (by omega)]; exact hc i (by omega)
    · rw [if_neg (by rw [c1]; omega), if_neg (by rw [c2]; omega)] at hd
      rw [if_neg u]
      refine ⟨_, hd, F1, p1, p2, p3, fun z i hi => ?_⟩
      rw [ia_sia_ne _ _ _ _ _ (by omega)]; exact p4 z i hi
  | succ d ih =>
    intro e j C so p h hj hC hc hm47 hr hp hs1 hs2
    rw [Rq_r]
    have bt : m - (d + 1) - C j ≤ 12 := by omega
    obtain ⟨h1, e1, q1, q2⟩ := loopR (fun n (s : Int32 × AH) => f_X12_part_l101 (f_X12_part (d + 1 + e)) (w32 j) (w32 g) (w64 so) n s.1 s.2) (fun i s => s.1 = w32 (C j + 1 + i : Nat) ∧ FH j h s.2 ∧ pQ s.2 g (fd (fun t q => Rq L m d (j + 1) (fun i => if i = j + 1 then t else C i) (so + sp L (C j) t) q) (C j + 1) i p)) (fun h1 => FH j h h1 ∧ pQ h1 g (fd (fun t q => Rq L m d (j + 1) (fun i => if i = j + 1 then t else C i) (so + sp L (C j) t) q) (C j + 1) (m - (d + 1) - C j) p)) (m - (d + 1) - C j) (fun i n s hi hP => by
        obtain ⟨v5, k⟩ := s
        obtain ⟨p1, p2, p3⟩ := hP
        dsimp only at p1 p2 p3
        subst p1
        have rs := sp_rg hL (C j) (C j + 1 + i) (by omega)
        have k47 : hfi k 193 47 = w32 (m : Nat) := by rw [p2.2.1]; exact hm47
        have kr : ∀ x, x < m → hia k 226 x = w32 (L x) := fun x hx => by rw [(p2.1 226 (by unfold W7; omega)).2.2.1]; exact hr x hx
        have kc : ∀ x, x ≤ j → hia k 227 x = w32 (C x : Nat) := fun x hx => by rw [p2.2.2 x hx]; exact hc x hx
        have F1 : FH j k (sia k 227 (j + 1) (w32 (C j + 1 + i : Nat))) := ⟨Fr.sia _ _ _ _ (by unfold W7; omega), rfl, fun x hx => ia_sia_nk _ _ _ _ _ (by omega)⟩
        have ms : f_X12_spread (w32 (C j : Nat)) (w32 (C j + 1 + i : Nat)) (sia k 227 (j + 1) (w32 (C j + 1 + i : Nat))) = some (w64 (sp L (C j) (C j + 1 + i))) := m_spread hL hm (fun x hx => by rw [ia_sia_ne _ _ _ _ _ (by omega)]; exact kr x hx) (by omega) (by omega)
        obtain ⟨k2, e2, f2, g2⟩ := ih e (j + 1) (fun x => if x = j + 1 then C j + 1 + i else C x) (so + sp L (C j) (C j + 1 + i)) _ (sia k 227 (j + 1) (w32 (C j + 1 + i : Nat))) (by omega) (by rw [if_pos rfl]; omega) (fun x hx => by
          by_cases q : x = j + 1
          · rw [q, ia_sia_eq, if_pos rfl]
          · rw [ia_sia_nk _ _ _ _ _ q, if_neg q]; exact kc x (by omega)) k47 (fun x hx => by rw [ia_sia_ne _ _ _ _ _ (by omega)]; exact kr x hx) ⟨p3.1, p3.2.1, p3.2.2.1, fun z x hx => by rw [ia_sia_ne _ _ _ _ _ (by omega)]; exact p3.2.2.2 z x hx⟩ (by omega) (by omega)
        have ej : w32 (j : Int) + 1 = w32 (j + 1 : Nat) := by rw [wl_1, w_add, w_s]
        refine ⟨(w32 (C j + 1 + (i + 1) : Nat), k2), ⟨rfl, ⟨(p2.1.tr F1.1).tr f2.1, f2.2.1.trans p2.2.1, fun x hx => by rw [f2.2.2 x (by omega), F1.2.2 x hx]; exact p2.2.2 x hx⟩, by rw [fd_s]; exact g2⟩, ?_⟩
        show f_X12_part_l101 (f_X12_part (d + 1 + e)) (w32 j) (w32 g) (w64 so) (n + 1) (w32 (C j + 1 + i : Nat)) k = f_X12_part_l101 (f_X12_part (d + 1 + e)) (w32 j) (w32 g) (w64 so) n (w32 (C j + 1 + (i + 1) : Nat)) k2
        rw [f_X12_part_l101, k47, ej, if_neg (by rw [wl_1, w_sub, w_sub, w_sub, w_lt _ _ (by omega) (by omega) (by omega) (by omega)]; omega), gd_t (by rw [w_ibN _ _ (by omega)]; omega), lt_b, w_clN (j + 1) (by omega), gd_t (by rw [w_ibN _ _ (by omega)]; omega), w_clN j (by omega)]
        rw [show hia (sia k 227 (j + 1) (w32 (C j + 1 + i : Nat))) 227 j = w32 (C j : Nat) from by rw [ia_sia_nk _ _ _ _ _ (by omega)]; exact kc j (Nat.le_refl _), ms, bnd_s, v_add, e2, bnd_s, wl_1, w_add, show ((C j + 1 + i : Nat) : Int) + 1 = ((C j + 1 + (i + 1) : Nat) : Int) by omega]) (fun n s hP => by
        obtain ⟨v5, k⟩ := s
        obtain ⟨p1, p2, p3⟩ := hP
        dsimp only at p1 p2 p3
        subst p1
        have k47 : hfi k 193 47 = w32 (m : Nat) := by rw [p2.2.1]; exact hm47
        refine ⟨k, ?_, p2, p3⟩
        show f_X12_part_l101 (f_X12_part (d + 1 + e)) (w32 j) (w32 g) (w64 so) (n + 1) (w32 (C j + 1 + (m - (d + 1) - C j) : Nat)) k = _
        rw [f_X12_part_l101, k47, if_pos (by rw [wl_1, w_sub, w_sub, w_sub, w_lt _ _ (by omega) (by omega) (by omega) (by omega)]; omega)]) FU (by unfold FU; omega) (w32 (C j + 1 : Nat), h) ⟨rfl, ⟨Fr.rf, rfl, fun _ _ => rfl⟩, hp⟩
    refine ⟨h1, ?_, q1, q2⟩
    rw [show d + 1 + 1 + e = (d + 1 + e) + 1 by omega, f_X12_part, if_neg (by rw [wl_1, w_sub, w_eq _ _ (by omega) (by omega) (by omega) (by omega)]; omega), gd_t (by rw [w_ibN _ _ (by omega)]; omega), w_clN _ (by omega), hc j (Nat.le_refl _), wl_1, w_add, w_s, e1, bnd_s]
theorem m_tellHumps (hM : MI2 h S T) (oS : okS S) {b : Nat} (hb : b < 6) (hk : kn (xb S b) (xg S b)) {z : Int} (r1 : -2147483648 ≤ z) (r2 : z ≤ 2147483647) : (∀ g : Nat, z = g → gOK (xb S b) (xg S b) (xa S) z → ∃ h1, f_X12_tellHumps (w32 b) (w32 z) h = some (true, h1) ∧ FrQ h h1 ∧ hfi h1 193 2 = hfi h 193 2 ∧ hfl h1 193 48 = w64 (hP' (xb S b) (xg S b) (xa S) g).1 ∧ (∀ i, i ≤ g → hia h1 228 i = w32 ((hP' (xb S b) (xg S b) (xa S) g).2 i : Nat)) ∧ (∀ i, i < hM' (xb S b) (xg S b) (xa S) → hia h1 225 i = w32 (hK (xb S b) (xg S b) (xa S) i))) ∧ (¬ gOK (xb S b) (xg S b) (xa S) z → ∃ h1, f_X12_tellHumps (w32 b) (w32 z) h = some (false, h1) ∧ FrQ h h1) := by
  have hMK := hM.mk oS hb
  obtain ⟨hB, hG, hL, oB, oG, oL, -⟩ := id hMK
  have hA := LI_rg2 oB oG oL hk
  have hLL : lOK (hL' (xb S b) (xg S b) (xa S)) := (lS_ok (H := sLo (xb S b)) hA 12).1
  have hm := hM_le (xb S b) (xg S b) (xa S)
  obtain ⟨h1, e1, f1, g1, m1, r3⟩ := m_lights hMK hk
  have Q1 : FrQ h h1 := ⟨f1.mono (fun c q => by unfold W6 at q; unfold WQ; omega), fun k hk => g1 k (by omega)⟩
  have head : f_X12_tellHumps (w32 b) (w32 z) h = if (f_X12_isIn (w32 z) 1 (f_J9_min_7cf53 4 (w32 (hM' (xb S b) (xg S b) (xa S) : Nat)))) = true then bnd (f_X12_part 6 0 (w32 z) 0 (sia (sfl h1 193 48 (-1)) 227 0 0)) (fun q8 => some (true, q8)) else some (false, h1) := by
    unfold f_X12_tellHumps
    rw [(m_asked hM oS hb).1 hk, bnd_s, if_pos rfl, e1, bnd_s, m1, lt_b, gd_t (by decide), lt_b]
    rfl
  have isg : f_X12_isIn (w32 z) 1 (f_J9_min_7cf53 4 (w32 (hM' (xb S b) (xg S b) (xa S) : Nat))) = decide (1 ≤ z ∧ z ≤ min 4 (hM' (xb S b) (xg S b) (xa S) : Int)) := by
    rw [wl_4, e_min _ _ (by omega) (by omega) (by omega) (by omega), wl_1, e_isIn _ _ _ (by omega) (by omega) (by omega) (by omega) (by omega) (by omega)]
  rw [isg] at head
  constructor
  · intro g eg ok
    subst eg
    unfold gOK at ok
    rw [if_pos (by rw [decide_eq_true_eq]; omega)] at head
    obtain ⟨h2, e2, f2, g2⟩ := m_part (g := g) (m := hM' (xb S b) (xg S b) (xa S)) hLL hm (by omega) (g - 1) (5 - (g - 1)) 0 C0 0 (-1, C0) (sia (sfl h1 193 48 (-1)) 227 0 0) (by omega) (by show 0 + (g - 1) < _; omega) (fun i hi => by rw [show i = 0 by omega]; exact ia_sia_eq _ _ _ _) m1 (fun i hi => (r3 i hi).2) ⟨by show up2 h1.2.1 193 48 (-1) 193 48 = _; rw [up2_at]; exact if_pos rfl, by dsimp only; omega, by dsimp only; omega, fun z => by have z : (0 : Int) ≤ -1 := z; omega⟩ (by omega) (by omega)
    rw [show g - 1 + 1 + (5 - (g - 1)) = 6 by omega] at e2
    have nn : 0 ≤ (hP' (xb S b) (xg S b) (xa S) g).1 := Rq_ne hLL hm (g - 1) 0 C0 0 (-1, C0) (by omega) (by show 0 + (g - 1) < _; omega)
    have F2 : Fr W7 h1 h2 := ((Fr.sfl _ _ _ _ (by unfold W7; omega)).tr (Fr.sia _ _ _ _ (by unfold W7; omega))).tr f2.1
    have fi2 : hfi h2 193 = hfi h1 193 := f2.2.1
    refine ⟨h2, ?_, Q1.tr ⟨F2.mono (fun c q => by unfold W7 at q; unfold WQ; omega), fun k _ => by rw [fi2]⟩, by rw [fi2]; exact g1 2 (by omega), g2.1, g2.2.2.2 nn, fun i hi => by rw [(F2 225 (by unfold W7; omega)).2.2.1]; exact (r3 i hi).1⟩
    rw [head, show f_X12_part 6 0 (w32 (g : Int)) 0 (sia (sfl h1 193 48 (-1)) 227 0 0) = _ from e2, bnd_s]
  · intro no
    unfold gOK at no
    rw [if_neg (by rw [decide_eq_true_eq]; omega)] at head
    exact ⟨h1, head, Q1⟩
end HUM
