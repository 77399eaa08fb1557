def yl (β : BV) (ω : WV) (w l : Nat) : Int := (yr ω w (vk β l) (vp β l) : Int)
def yo (β : BV) (ω : WV) (o : Option Nat) (l : Nat) : Int := match o with
  | none => 0
  | some w => yl β ω w l
def oI (o : Option Nat) : Int32 := match o with
  | none => -1
  | some w => w32 w
def oY (o : Option Nat) : Nat := match o with
  | none => 0
  | some _ => 60
def sF (S : SV) (x y : Int) : SV := (xb S, xg S, xk S, xa S, xw S, xn S, xt S, xf S, xi S, xs4 S, xks S, xm S, xtt S, xtg S, x, y)
section FIU
variable {h : AH} {S : SV} {T b B : Nat} {β : BV} {γ : GV} {a : LV} {ω : WV}
theorem yl_rg (oB : okB β) (oW : okW ω) {w l : Nat} (hw : w < 6) (hl : l < vL β) : 0 ≤ yl β ω w l ∧ yl β ω w l ≤ 99 := by
  have := yr_le (ω := ω) (w := w) (k := vk β l) (vp β l) (oW w hw _ (oB.2.2.2.2.2.1 l hl).1).1
  unfold yl
  omega
theorem yo_rg (oB : okB β) (oW : okW ω) {o : Option Nat} (ho : ∀ w, o = some w → w < 6) {l : Nat} (hl : l < vL β) : 0 ≤ yo β ω o l ∧ yo β ω o l ≤ 99 := by
  cases o with
  | none => show 0 ≤ (0 : Int) ∧ (0 : Int) ≤ 99; omega
  | some w => exact yl_rg oB oW (ho w rfl) hl
theorem fR_of (oB : okB β) (oG : okG (vL β) γ) (oL : okL a) (oW : okW ω) (hk : kn β γ) {w : Nat} (hw : w < 6) {o : Option Nat} (ho : ∀ w, o = some w → w < 6) : fR (yl β ω w) (yo β ω o) (sMid β γ a) (vL β) := ⟨oB.1, fun l hl => ⟨yl_rg oB oW hw hl, yo_rg oB oW ho hl, sMid_rg oB oG oL hl (kn_l hk hl).1 (kn_l hk hl).2⟩⟩
/-! the class's rows -/
theorem k_fit3 (hB : BC h B β) (hX : isB B) {r3 r4 w v : Nat} (i3 : isWy r3) (i4 : isWy r4) (w3 : WC1 h r3 (ω.1 w) (ω.2 w)) (w4 : WC1 h r4 (ω.1 v) (ω.2 v)) (hw : w < 6) (hv : v < 6) (oW : okW ω) (oB : okB β) : ∃ h1, f_X2_search_l3 57 B r3 r4 FU 0 h = some h1 ∧ Fr (fun c => c = 58 ∨ c = 59) h h1 ∧ ∀ l, l < vL β → hia h1 58 l = w32 (2 * yl β ω w l) ∧ hia h1 59 l = w32 (2 * yl β ω v l) := by
  have o1 := oB.1
  unfold isB at hX
  unfold isWy at i3 i4
  exact loopR (fun n (s : Int32 × AH) => f_X2_search_l3 57 B r3 r4 n s.1 s.2) (fun i s => s.1 = w32 (i : Nat) ∧ Fr (fun c => c = 58 ∨ c = 59) h s.2 ∧ ∀ l, l < i → hia s.2 58 l = w32 (2 * yl β ω w l) ∧ hia s.2 59 l = w32 (2 * yl β ω v l)) (fun h1 => Fr (fun c => c = 58 ∨ c = 59) h h1 ∧ ∀ l, l < vL β → hia h1 58 l = w32 (2 * yl β ω w l) ∧ hia h1 59 l = w32 (2 * yl β ω v l)) (vL β) (fun i n s hi hP => by
      obtain ⟨v5, hh⟩ := s
      obtain ⟨p1, p2, p3⟩ := hP
      dsimp only at p1 p2 p3
      subst p1
      have ok := oB.2.2.2.2.2.1 i hi
      have hB2 := hB.fr p2 (fun c h1 h2 => by omega)
      have d1 := hB2.1
      obtain ⟨k1, -, k3, -⟩ := hB2.2.2.2.2.2.1 i hi
      have t3 := k_turn (w3.fr p2 (by omega) (by omega)) ok.1 ok.2.2.1 (oW w hw _ ok.1).1 (oW w hw _ ok.1).2
      have F1 : Fr (fun c => c = 58 ∨ c = 59) h (sia hh 58 i (w32 (2 * yl β ω w i))) := p2.tr (Fr.sia _ _ _ _ (Or.inl rfl))
      have t4 := k_turn (w4.fr F1 (by omega) (by omega)) ok.1 ok.2.2.1 (oW v hv _ ok.1).1 (oW v hv _ ok.1).2
      refine ⟨(w32 (i + 1 : Nat), sia (sia hh 58 i (w32 (2 * yl β ω w i))) 59 i (w32 (2 * yl β ω v i))), ⟨rfl, F1.tr (Fr.sia _ _ _ _ (Or.inr rfl)), fun l hl => ?_⟩, ?_⟩
      · show hia (sia (sia hh _ _ _) _ _ _) 58 l = _ ∧ hia (sia (sia hh _ _ _) _ _ _) 59 l = _
        by_cases q : l = i
        · subst q
          simp (disch := omega) only [ia_sia_ne, ia_sia_eq]
          exact ⟨trivial, trivial⟩
        · simp (disch := omega) only [ia_sia_ne, ia_sia_nk]
          exact p3 l (by omega)
      · show f_X2_search_l3 57 B r3 r4 (n + 1) (w32 i) hh = f_X2_search_l3 57 B r3 r4 n (w32 (i + 1 : Nat)) _
        have e1 : (2 : Int32) * w32 ((ω.1 w (vk β i) * (100 - ω.2 w (vk β i) * vp β i) / 100 : Nat) : Int) = w32 (2 * yl β ω w i) := by rw [wl_2, w_mul]; rfl
        have e2 : (2 : Int32) * w32 ((ω.1 v (vk β i) * (100 - ω.2 v (vk β i) * vp β i) / 100 : Nat) : Int) = w32 (2 * yl β ω v i) := by rw [wl_2, w_mul]; rfl
        rw [f_X2_search_l3, d1, if_neg (by rw [w_le _ _ (by omega) (by omega) (by omega) (by omega)]; omega), gd_t (by rw [w_ibN _ _ (by omega)]; omega), gd_t (by rw [w_ibN _ _ (by omega)]; omega), w_clN _ (by omega), k1, k3, t3, bnd_s, gd_t (by rw [w_ibN _ _ (by omega)]; omega), lt_b, e1, gd_t (by rw [w_ibN _ _ (by omega)]; omega), gd_t (by rw [w_ibN _ _ (by omega)]; omega)]
        rw [ia_sia_ne _ _ _ _ (B + 1) (by omega), ia_sia_ne _ _ _ _ (B + 3) (by omega), k1, k3, t4, bnd_s, gd_t (by rw [w_ibN _ _ (by omega)]; omega), lt_b, e2, wl_1, w_add, w_s]) (fun n s hP => by
      obtain ⟨v5, hh⟩ := s
      obtain ⟨p1, p2, p3⟩ := hP
      dsimp only at p1 p2 p3
      subst p1
      have d1 := (hB.fr p2 (fun c h1 h2 => by omega)).1
      refine ⟨hh, ?_, p2, p3⟩
      show f_X2_search_l3 57 B r3 r4 (n + 1) (w32 (vL β)) hh = _
      rw [f_X2_search_l3, d1, if_pos (Int32.le_refl _)]) FU (by unfold FU; omega) (0, h) ⟨rfl, Fr.rf, fun l hl => by omega⟩
theorem k_fit3n (hB : BC h B β) (hX : isB B) {r3 w : Nat} (i3 : isWy r3) (w3 : WC1 h r3 (ω.1 w) (ω.2 w)) (hw : w < 6) (oW : okW ω) (oB : okB β) : ∃ h1, f_X2_search_n_l3 57 B r3 FU 0 h = some h1 ∧ Fr (fun c => c = 58 ∨ c = 59) h h1 ∧ ∀ l, l < vL β → hia h1 58 l = w32 (2 * yl β ω w l) ∧ hia h1 59 l = w32 (2 * 0) := by
  have o1 := oB.1
  unfold isB at hX
  unfold isWy at i3
  exact loopR (fun n (s : Int32 × AH) => f_X2_search_n_l3 57 B r3 n s.1 s.2) (fun i s => s.1 = w32 (i : Nat) ∧ Fr (fun c => c = 58 ∨ c = 59) h s.2 ∧ ∀ l, l < i → hia s.2 58 l = w32 (2 * yl β ω w l) ∧ hia s.2 59 l = w32 (2 * 0)) (fun h1 => Fr (fun c => c = 58 ∨ c = 59) h h1 ∧ ∀ l, l < vL β → hia h1 58 l = w32 (2 * yl β ω w l) ∧ hia h1 59 l = w32 (2 * 0)) (vL β) (fun i n s hi hP => by
      obtain ⟨v5, hh⟩ := s
      obtain ⟨p1, p2, p3⟩ := hP
      dsimp only at p1 p2 p3
      subst p1
      have ok := oB.2.2.2.2.2.1 i hi
      have hB2 := hB.fr p2 (fun c h1 h2 => by omega)
      have d1 := hB2.1
      obtain ⟨k1, -, k3, -⟩ := hB2.2.2.2.2.2.1 i hi
      have t3 := k_turn (w3.fr p2 (by omega) (by omega)) ok.1 ok.2.2.1 (oW w hw _ ok.1).1 (oW w hw _ ok.1).2
      have F1 : Fr (fun c => c = 58 ∨ c = 59) h (sia hh 58 i (w32 (2 * yl β ω w i))) := p2.tr (Fr.sia _ _ _ _ (Or.inl rfl))
      refine ⟨(w32 (i + 1 : Nat), sia (sia hh 58 i (w32 (2 * yl β ω w i))) 59 i (w32 (2 * 0))), ⟨rfl, F1.tr (Fr.sia _ _ _ _ (Or.inr rfl)), fun l hl => ?_⟩, ?_⟩
      · show hia (sia (sia hh _ _ _) _ _ _) 58 l = _ ∧ hia (sia (sia hh _ _ _) _ _ _) 59 l = _
        by_cases q : l = i
        · subst q
          simp (disch := omega) only [ia_sia_ne, ia_sia_eq]
          exact ⟨trivial, trivial⟩
        · simp (disch := omega) only [ia_sia_ne, ia_sia_nk]
          exact p3 l (by omega)
      · show f_X2_search_n_l3 57 B r3 (n + 1) (w32 i) hh = f_X2_search_n_l3 57 B r3 n (w32 (i + 1 : Nat)) _
        have e1 : (2 : Int32) * w32 ((ω.1 w (vk β i) * (100 - ω.2 w (vk β i) * vp β i) / 100 : Nat) : Int) = w32 (2 * yl β ω w i) := by rw [wl_2, w_mul]; rfl
        rw [f_X2_search_n_l3, d1, if_neg (by rw [w_le _ _ (by omega) (by omega) (by omega) (by omega)]; omega), gd_t (by rw [w_ibN _ _ (by omega)]; omega), gd_t (by rw [w_ibN _ _ (by omega)]; omega), w_clN _ (by omega), k1, k3, t3, bnd_s, gd_t (by rw [w_ibN _ _ (by omega)]; omega), lt_b, e1, gd_t (by rw [w_ibN _ _ (by omega)]; omega), lt_b, wl_1, w_add, w_s]
        rfl) (fun n s hP => by
      obtain ⟨v5, hh⟩ := s
      obtain ⟨p1, p2, p3⟩ := hP
      dsimp only at p1 p2 p3
      subst p1
      have d1 := (hB.fr p2 (fun c h1 h2 => by omega)).1
      refine ⟨hh, ?_, p2, p3⟩
      show f_X2_search_n_l3 57 B r3 (n + 1) (w32 (vL β)) hh = _
      rw [f_X2_search_n_l3, d1, if_pos (Int32.le_refl _)]) FU (by unfold FU; omega) (0, h) ⟨rfl, Fr.rf, fun l hl => by omega⟩
/-! the reference -/
theorem MK.f193 {h' : AH} (hM : MK h b β γ a) (hF : Fr (fun c => c = 193) h h') : MK h' b β γ a := by
  obtain ⟨h1, h2, h3, h4⟩ := hM
  refine ⟨h1.fr hF (fun c _ _ _ => by omega), fun l hl => ?_, h3.fr hF (by omega), h4⟩
  rw [(hF 208 (by omega)).2.2.1, (hF 209 (by omega)).2.2.1]
  exact h2 l hl
theorem m_fit78 (hM : MK h b β γ a) (hW : WM h (xw S)) (oW : okW (xw S)) (hk : kn β γ) {w : Nat} (hw : w < 6) {o : Option Nat} (ho : ∀ w, o = some w → w < 6) {x y : Nat} (hx : x ≤ 60) (hy : y ≤ 60) : f_X12_fitted_l78 (w32 b) (w32 w) (oI o) (w32 x) (w32 y) h FU 0 0 = some (w64 (fF (yl β (xw S) w) (yo β (xw S) o) (sMid β γ a) (vL β) x y)) := by
  obtain ⟨hB, hG, hL, oB, oG, oL, hb⟩ := id hM
  have e1 := hB.1
  have o1 := oB.1
  have hR := fR_of (ω := xw S) oB oG oL oW hk hw ho
  exact loopN (fun n (s : Int64 × Int32) => f_X12_fitted_l78 (w32 b) (w32 w) (oI o) (w32 x) (w32 y) h n s.1 s.2) (fun i => (w64 (sm (fv (yl β (xw S) w) (yo β (xw S) o) (sMid β γ a) x y) i), w32 (i : Nat))) (vL β) _ (fun i n hi => by
      obtain ⟨f1, -, f3, -⟩ := hB.2.2.2.2.2.1 i hi
      have k1 := oB.2.2.2.2.2.1 i hi
      have mt : f_X12_turningsOf (w32 w) (w32 (vk β i)) (w32 (vp β i)) h = some (w32 (yl β (xw S) w i)) := m_turn hW oW hw k1.1 k1.2.2.1
      have mm := m_mid hM hi (kn_l hk hi).1 (kn_l hk hi).2
      have rv := fv_rg hR hx hy hi
      have rw1 := (hR.2 i hi)
      show f_X12_fitted_l78 (w32 b) (w32 w) (oI o) (w32 x) (w32 y) h (n + 1) (w64 (sm _ i)) (w32 i) = f_X12_fitted_l78 (w32 b) (w32 w) (oI o) (w32 x) (w32 y) h n (w64 (sm _ (i + 1))) (w32 (i + 1 : Nat))
      rw [f_X12_fitted_l78, e_at, gd_t (by rw [w_ibN _ _ (by omega)]; omega), w_clN _ (by omega), e1, if_neg (by rw [w_le _ _ (by omega) (by omega) (by omega) (by omega)]; omega), gd_t (by rw [w_ibN _ _ (by omega)]; omega), gd_t (by rw [w_ibN _ _ (by omega)]; omega), w_clN _ (by omega), f1, f3, mt, bnd_s, lt_b, mm]
      cases o with
      | none =>
        rw [if_pos (show oI none = -1 from rfl)]
        dsimp only
        rw [bnd_s, wl_2, w_mul, w_mul, wl_0, w_add, w_sub, show 2 * (x : Int) * yl β (xw S) w i + 0 - sMid β γ a i = 2 * (x : Int) * yl β (xw S) w i + 2 * (y : Int) * yo β (xw S) none i - sMid β γ a i from by show _ = 2 * (x : Int) * yl β (xw S) w i + 2 * (y : Int) * 0 - sMid β γ a i; rw [Int.mul_zero], e_abs _ (by omega) (by omega), w_l _ (by omega) (by omega), v_add, wl_1, w_add, w_s, sm_s]
        rfl
      | some v =>
        have hv := ho v rfl
        have mt2 : f_X12_turningsOf (oI (some v)) (w32 (vk β i)) (w32 (vp β i)) h = some (w32 (yo β (xw S) (some v) i)) := m_turn hW oW hv k1.1 k1.2.2.1
        rw [if_neg (show ¬ oI (some v) = -1 from by show ¬ w32 (v : Int) = -1; rw [wl_1, w_neg]; exact ne_w (by omega) (by omega) (by omega) (by omega) (by omega)), mt2, bnd_s]
        dsimp only
        rw [bnd_s, wl_2, w_mul, w_mul, w_mul, w_mul, w_add, w_sub, e_abs _ (by omega) (by omega), w_l _ (by omega) (by omega), v_add, wl_1, w_add, w_s, sm_s]
        rfl) (fun n => by
      show f_X12_fitted_l78 (w32 b) (w32 w) (oI o) (w32 x) (w32 y) h (n + 1) _ (w32 (vL β)) = _
      rw [f_X12_fitted_l78, gd_t (by rw [w_ibN _ _ (by omega)]; omega), w_clN _ (by omega), e1, if_pos (Int32.le_refl _)]
      rfl) FU (by unfold FU; omega)
def fQ (h : AH) (p : Int × Int × Int) : Prop := p.1 ≠ 2147483647 → hfi h 193 49 = w32 p.2.1 ∧ hfi h 193 50 = w32 p.2.2
def F2 (h h1 : AH) : Prop := Fr (fun c => c = 193) h h1 ∧ ∀ k, k ≠ 49 ∧ k ≠ 50 → hfi h1 193 k = hfi h 193 k
theorem F2.rf : F2 h h := ⟨Fr.rf, fun _ _ => rfl⟩
theorem F2.tr {h1 h2 : AH} (x : F2 h h1) (y : F2 h1 h2) : F2 h h2 := ⟨x.1.tr y.1, fun k hk => (y.2 k hk).trans (x.2 k hk)⟩
theorem F2.w (h : AH) (k : Nat) (v : Int32) (hk : k = 49 ∨ k = 50) : F2 h (sfi h 193 k v) := ⟨Fr.sfi _ _ _ _ rfl, fun j hj => fi_sfi_nk _ _ _ _ _ (by omega)⟩
theorem m_fit56 (hM : MK h b β γ a) (hW : WM h (xw S)) (oW : okW (xw S)) (hk : kn β γ) {w : Nat} (hw : w < 6) {o : Option Nat} (ho : ∀ w, o = some w → w < 6) {x : Nat} (hx : x ≤ 60) {p : Int × Int × Int} (hp : fOK p) (hq0 : fQ h p) : ∃ h1, f_X12_fitted_l56 (w32 b) (w32 w) (oI o) (w32 x) FU (w64 (bq p.1)) 0 h = some (w64 (bq (fI (fF (yl β (xw S) w) (yo β (xw S) o) (sMid β γ a) (vL β)) x p (oY o + 1)).1), h1) ∧ F2 h h1 ∧ fQ h1 (fI (fF (yl β (xw S) w) (yo β (xw S) o) (sMid β γ a) (vL β)) x p (oY o + 1)) := by
  obtain ⟨hB, hG, hL, oB, oG, oL, hb⟩ := id hM
  have hR := fR_of (ω := xw S) oB oG oL oW hk hw ho
  have hY : oY o ≤ 60 := by cases o with | none => exact Nat.zero_le _ | some v => exact Nat.le_refl _
  generalize hFF : fF (yl β (xw S) w) (yo β (xw S) o) (sMid β γ a) (vL β) = F
  have hF : ∀ x y, x ≤ 60 → y ≤ 60 → 0 ≤ F x y ∧ F x y ≤ 1000000000 := fun x y h1 h2 => by have := fF_rg hR h1 h2 (Nat.le_refl (vL β)); rw [← hFF]; unfold fF; omega
  have stp : ∀ (k : Nat) (v4 : Int64) (v7 : Int32) (hh : AH), f_X12_fitted_l56 (w32 b) (w32 w) (oI o) (w32 x) (k + 1) v4 v7 hh = if w32 (oY o : Nat) < v7 then some (v4, hh) else bnd (f_X12_fitted_l78 (w32 b) (w32 w) (oI o) (w32 x) v7 hh FU 0 0) (fun q23 => if (lg_cmp v4 0) < 0 then f_X12_fitted_l56 (w32 b) (w32 w) (oI o) (w32 x) k q23 (v7 + 1) (sfi (sfi hh 193 49 (w32 x)) 193 50 v7) else if (lg_cmp q23 v4) < 0 then f_X12_fitted_l56 (w32 b) (w32 w) (oI o) (w32 x) k q23 (v7 + 1) (sfi (sfi hh 193 49 (w32 x)) 193 50 v7) else f_X12_fitted_l56 (w32 b) (w32 w) (oI o) (w32 x) k v4 (v7 + 1) hh) := by
    intro k v4 v7 hh
    cases o with
    | none => rw [f_X12_fitted_l56, lt_b, if_pos (show oI none = -1 from rfl)]; rfl
    | some v =>
      have hv := ho v rfl
      rw [f_X12_fitted_l56, lt_b, if_neg (show ¬ oI (some v) = -1 from by show ¬ w32 (v : Int) = -1; rw [wl_1, w_neg]; exact ne_w (by omega) (by omega) (by omega) (by omega) (by omega))]; rfl
  obtain ⟨⟨r1, h1⟩, e, q⟩ := loopR (fun k (t : Int64 × Int32 × AH) => f_X12_fitted_l56 (w32 b) (w32 w) (oI o) (w32 x) k t.1 t.2.1 t.2.2) (fun i t => t.1 = w64 (bq (fI F x p i).1) ∧ t.2.1 = w32 (i : Nat) ∧ F2 h t.2.2 ∧ fQ t.2.2 (fI F x p i)) (fun t => t.1 = w64 (bq (fI F x p (oY o + 1)).1) ∧ F2 h t.2 ∧ fQ t.2 (fI F x p (oY o + 1))) (oY o + 1) (fun i k t hi hQ => by
      obtain ⟨v6, v8, hh⟩ := t
      obtain ⟨p1, p2, p3, p4⟩ := hQ
      dsimp only at p1 p2 p3 p4
      subst p1 p2
      have ok := fI_ok hF hx hp i (by omega)
      have rF := hF x i hx (by omega)
      unfold fOK at ok
      have m78 := m_fit78 (hM.f193 p3.1) (hW.fr p3.1 (by omega) (by omega)) oW hk hw ho hx (show i ≤ 60 by omega)
      rw [hFF] at m78
      have rq : -1 ≤ bq (fI F x p i).1 ∧ bq (fI F x p i).1 ≤ 2147483647 := by unfold bq; split <;> omega
      by_cases q : F x i < (fI F x p i).1
      · refine ⟨(w64 (bq (fI F x p (i + 1)).1), w32 (i + 1 : Nat), sfi (sfi hh 193 49 (w32 x)) 193 50 (w32 i)), ⟨rfl, rfl, (p3.tr (F2.w _ _ _ (Or.inl rfl))).tr (F2.w _ _ _ (Or.inr rfl)), fun _ => ?_⟩, ?_⟩
        · rw [fI_s, if_pos q]
          dsimp only
          rw [fi_sfi_eq, fi_sfi_nk _ _ _ _ _ (by omega), fi_sfi_eq]
          exact ⟨rfl, rfl⟩
        · show f_X12_fitted_l56 (w32 b) (w32 w) (oI o) (w32 x) (k + 1) (w64 (bq (fI F x p i).1)) (w32 i) hh = f_X12_fitted_l56 (w32 b) (w32 w) (oI o) (w32 x) k (w64 (bq (fI F x p (i + 1)).1)) (w32 (i + 1 : Nat)) _
          have eb : bq (fI F x p (i + 1)).1 = F x i := by rw [fI_s, if_pos q]; show bq (F x i) = _; unfold bq; rw [if_neg (by omega)]
          rw [stp, if_neg (by rw [w_lt _ _ (by omega) (by omega) (by omega) (by omega)]; omega), m78, bnd_s]
          simp (disch := omega) only [vl_0, c_lt]
          rw [eb, wl_1, w_add, w_s]
          by_cases q2 : bq (fI F x p i).1 < 0
          · rw [if_pos q2]
          · rw [if_neg q2, if_pos (by unfold bq at q2 ⊢; split <;> omega)]
      · refine ⟨(w64 (bq (fI F x p (i + 1)).1), w32 (i + 1 : Nat), hh), ⟨rfl, rfl, p3, ?_⟩, ?_⟩
        · rw [fI_s, if_neg q]; exact p4
        · show f_X12_fitted_l56 (w32 b) (w32 w) (oI o) (w32 x) (k + 1) (w64 (bq (fI F x p i).1)) (w32 i) hh = f_X12_fitted_l56 (w32 b) (w32 w) (oI o) (w32 x) k (w64 (bq (fI F x p (i + 1)).1)) (w32 (i + 1 : Nat)) _
          have ne : ¬ (fI F x p i).1 = 2147483647 := by omega
          have eb : bq (fI F x p i).1 = (fI F x p i).1 := by unfold bq; rw [if_neg ne]
          rw [stp, if_neg (by rw [w_lt _ _ (by omega) (by omega) (by omega) (by omega)]; omega), m78, bnd_s]
          simp (disch := omega) only [vl_0, c_lt]
          rw [if_neg (by omega), if_neg (by omega), wl_1, w_add, w_s, fI_s, if_neg q]) (fun k t hQ => by
      obtain ⟨v6, v8, hh⟩ := t
      obtain ⟨p1, p2, p3, p4⟩ := hQ
      dsimp only at p1 p2 p3 p4
      subst p1 p2
      refine ⟨(w64 (bq (fI F x p (oY o + 1)).1), hh), ?_, rfl, p3, p4⟩
      show f_X12_fitted_l56 (w32 b) (w32 w) (oI o) (w32 x) (k + 1) _ (w32 (oY o + 1 : Nat)) hh = _
      rw [stp, if_pos (by rw [w_lt _ _ (by omega) (by omega) (by omega) (by omega)]; omega)]) FU (by unfold FU; omega) (w64 (bq p.1), 0, h) ⟨rfl, rfl, F2.rf, hq0⟩
  obtain ⟨q1, q2⟩ := q
  dsimp only at q1 q2
  subst q1
  exact ⟨h1, e, q2⟩
theorem m_fit46 (hM : MK h b β γ a) (hW : WM h (xw S)) (oW : okW (xw S)) (hk : kn β γ) {w : Nat} (hw : w < 6) {o : Option Nat} (ho : ∀ w, o = some w → w < 6) : ∃ h1, f_X12_fitted_l46 (w32 b) (w32 w) (oI o) FU (-1) 0 h = some (w64 (fO (fF (yl β (xw S) w) (yo β (xw S) o) (sMid β γ a) (vL β)) (oY o) 61).1, h1) ∧ F2 h h1 ∧ hfi h1 193 49 = w32 (fO (fF (yl β (xw S) w) (yo β (xw S) o) (sMid β γ a) (vL β)) (oY o) 61).2.1 ∧ hfi h1 193 50 = w32 (fO (fF (yl β (xw S) w) (yo β (xw S) o) (sMid β γ a) (vL β)) (oY o) 61).2.2 := by
  obtain ⟨hB, hG, hL, oB, oG, oL, hb⟩ := id hM
  have hR := fR_of (ω := xw S) oB oG oL oW hk hw ho
  have hY : oY o ≤ 60 := by cases o with | none => exact Nat.zero_le _ | some v => exact Nat.le_refl _
  have m56 : ∀ hh, F2 h hh → ∀ x, x ≤ 60 → ∀ p, fOK p → fQ hh p → _ := fun hh hf x hx p hp hq => m_fit56 (hM.f193 hf.1) (hW.fr hf.1 (by omega) (by omega)) oW hk hw ho hx hp hq
  generalize hFF : fF (yl β (xw S) w) (yo β (xw S) o) (sMid β γ a) (vL β) = F at *
  have hF : ∀ x y, x ≤ 60 → y ≤ 60 → 0 ≤ F x y ∧ F x y ≤ 1000000000 := fun x y h1 h2 => by have := fF_rg hR h1 h2 (Nat.le_refl (vL β)); rw [← hFF]; unfold fF; omega
  obtain ⟨⟨r1, h1⟩, e, q⟩ := loopR (fun k (t : Int64 × Int32 × AH) => f_X12_fitted_l46 (w32 b) (w32 w) (oI o) k t.1 t.2.1 t.2.2) (fun i t => t.1 = w64 (bq (fO F (oY o) i).1) ∧ t.2.1 = w32 (i : Nat) ∧ F2 h t.2.2 ∧ fQ t.2.2 (fO F (oY o) i)) (fun t => t.1 = w64 (bq (fO F (oY o) 61).1) ∧ F2 h t.2 ∧ fQ t.2 (fO F (oY o) 61)) 61 (fun i k t hi hQ => by
      obtain ⟨v6, v8, hh⟩ := t
      obtain ⟨p1, p2, p3, p4⟩ := hQ
      dsimp only at p1 p2 p3 p4
      subst p1 p2
      obtain ⟨h2, e2, f2, q2⟩ := m56 hh p3 i (by omega) (fO F (oY o) i) (fO_ok hF hY i (by omega)) p4
      refine ⟨(w64 (bq (fO F (oY o) (i + 1)).1), w32 (i + 1 : Nat), h2), ⟨rfl, rfl, p3.tr f2, q2⟩, ?_⟩
      show f_X12_fitted_l46 (w32 b) (w32 w) (oI o) (k + 1) (w64 (bq (fO F (oY o) i).1)) (w32 i) hh = f_X12_fitted_l46 (w32 b) (w32 w) (oI o) k _ _ h2
      rw [f_X12_fitted_l46, if_neg (by rw [wl_60, w_lt _ _ (by omega) (by omega) (by omega) (by omega)]; omega), e2, bnd_s, wl_1, w_add, w_s]
      rfl) (fun k t hQ => by
      obtain ⟨v6, v8, hh⟩ := t
      obtain ⟨p1, p2, p3, p4⟩ := hQ
      dsimp only at p1 p2 p3 p4
      subst p1 p2
      refine ⟨(w64 (bq (fO F (oY o) 61).1), hh), ?_, rfl, p3, p4⟩
      show f_X12_fitted_l46 (w32 b) (w32 w) (oI o) (k + 1) _ (w32 (61 : Nat)) hh = _
      rw [f_X12_fitted_l46, if_pos (by decide)]) FU (by decide) (-1, 0, h) ⟨rfl, rfl, F2.rf, fun z => absurd rfl z⟩
  obtain ⟨q1, q2, q3⟩ := q
  dsimp only at q1 q2 q3
  subst q1
  have lt := fO_lt hF hY
  have ne : ¬ (fO F (oY o) 61).1 = 2147483647 := by omega
  have eb : bq (fO F (oY o) 61).1 = (fO F (oY o) 61).1 := by unfold bq; rw [if_neg ne]
  rw [eb] at e
  exact ⟨h1, e, q2, q3 ne⟩
theorem okS_sF {x y : Int} (oS : okS S) (h1 : 0 ≤ x) (h2 : x ≤ 60) (h3 : 0 ≤ y) (h4 : y ≤ 60) : okS (sF S x y) := by
  obtain ⟨o1, o2, o3, o4, o5, o6, o7, o8, o9, -⟩ := oS
  exact ⟨o1, o2, o3, o4, o5, o6, o7, o8, o9, by show -1 ≤ x; omega, h2, h3, h4⟩
theorem CI.fit {h1 : AH} {x y : Int} (hI : CI h S) (hx : x ≠ -1) (hF : Fr (fun c => 33 ≤ c ∧ c ≤ 66) h h1) (e0 : hfi h1 57 0 = 1) (e1 : hfi h1 57 1 = w32 x) (e2 : hfi h1 57 2 = w32 y) : CI h1 (sF S x y) := by
  obtain ⟨k1, k2, k3, k4, k5⟩ := hI.core (hF.mono (fun c q => by omega))
  obtain ⟨ad, b1, l1, w1, s1, s2, s3, i1, i2, i3, t1, t2, f1, f2⟩ := hI
  refine ⟨k1, k2, k3, k4, ?_, ?_, ?_, k5, ?_, ?_, ?_, ?_, ?_, fun _ => ⟨e1, e2⟩⟩
  · rw [(hF 1 (by omega)).1]; exact s1
  · rw [(hF 1 (by omega)).1]; exact s2
  · rw [(hF 2 (by omega)).2.2.1]; exact s3
  · rw [(hF 31 (by omega)).2.2.1]; exact i2
  · rw [(hF 32 (by omega)).2.2.1]; exact i3
  · rw [(hF 28 (by omega)).1]; exact t1
  · rw [(hF 29 (by omega)).2.2.1, (hF 30 (by omega)).2.2.1]; exact t2
  · rw [e0]; show (1 : Int32) = bI (decide (x ≠ -1)); rw [decide_eq_true hx]; rfl
theorem MI2.fit {h1 : AH} {x y : Int} (hM : MI2 h S T) (hF : F2 h h1) (e1 : hfi h1 193 49 = w32 x) (e2 : hfi h1 193 50 = w32 y) : MI2 h1 (sF S x y) T := by
  obtain ⟨k1, k2, k3, k4⟩ := hM.core (hF.1.mono (fun c q => Or.inl q)) (hF.2 55 (by omega))
  obtain ⟨b1, l1, w1, n1, n2, n3, s1, t1, t2, f1, f2, -⟩ := hM
  refine ⟨k1, k2, k3, ?_, ?_, ?_, ?_, ?_, ?_, e1, fun _ => e2, k4⟩
  · rw [hF.2 27 (by omega)]; exact n1
  · rw [hF.2 36 (by omega)]; exact n2
  · rw [(hF.1 219 (by omega)).2.2.1]; exact n3
  · rw [(hF.1 218 (by omega)).2.2.1]; exact s1
  · rw [hF.2 52 (by omega)]; exact t1
  · rw [(hF.1 230 (by omega)).2.2.1, (hF.1 231 (by omega)).2.2.1]; exact t2
theorem t_fitted (x y u : Int32) (hI : CI h S) (oS : okS S) (hM : MI2 h S T) : TK (f_L_fitted x y u h) (f_X12_fitted x y u) T := by
  unfold f_L_fitted
  obtain ⟨z, rfl, r1, r2⟩ := w_ex x
  obtain ⟨y, rfl, r3, r4⟩ := w_ex y
  obtain ⟨u, rfl, r5, r6⟩ := w_ex u
  by_cases q : 0 ≤ z ∧ z ≤ 5
  · obtain ⟨b, rfl, hb⟩ := nat_of (n := 5) q
    have hb : b < 6 := by omega
    obtain ⟨k1, k2⟩ := c_known hI oS hb (u := 33) (Or.inl rfl)
    have sB := isB_sh (hI.1.1 b hb).1
    have isX := (hI.1.1 b hb).1
    rcases Classical.em (kn (xb S b) (xg S b)) with hk | hk
    · obtain ⟨h1, e1, f1, u1⟩ := k1 hk
      have hI1 := hI.fr (WU_ws (Or.inl rfl) f1)
      have r31 : hra h1 3 = hra h 3 := (f1 3 (by unfold WU; omega)).2.2.2.2
      have o := oS.1 b hb
      have oL := oS.2.1
      have oW := oS.2.2.1
      have hd : ∀ v : Int32, f_X11_fitted (w32 b) v (w32 u) h = bnd (f_X11_wayAt v h1) (fun q3 => Sum.elim (fun xq3 => gd (SH xq3.1 = (10, 0)) (if w32 u = (-1) then bnd (f_X2_search_n 57 (hra h 3 b) 38 40 xq3.1 xq3.2) (fun q9 => some (.inl (q9.1, q9.2))) else bnd (f_X11_wayAt (w32 u) xq3.2) (fun q6 => Sum.elim (fun xq6 => gd (SH xq6.1 = (10, 0)) (bnd (f_X2_search 57 (hra h 3 b) 38 40 xq3.1 xq6.1 xq6.2) (fun q8 => some (.inl (q8.1, q8.2))))) (fun xq6 => some (.inr xq6)) q6))) (fun xq3 => some (.inr xq3)) q3) := by
        intro v
        unfold f_X11_fitted
        rw [e1, bnd_s]
        simp only [Sum.elim_inl]
        rw [gd_t sB]
      have md : ∀ (v : Int32) (h' : AH), MI2 h' S T → f_X12_fitted (w32 b) v (w32 u) h' = if (f_X12_isWay v) = true then if w32 u = (-1) then bnd (f_X12_fitted_l46 (w32 b) v (w32 u) FU (-1) 0 (sfi h' 193 2 0)) (fun q31 => some (Int64.toInt32 q31.1, q31.2)) else if (f_X12_isWay (w32 u)) = true then bnd (f_X12_fitted_l46 (w32 b) v (w32 u) FU (-1) 0 (sfi h' 193 2 0)) (fun q33 => some (Int64.toInt32 q33.1, q33.2)) else bnd (f_X12_fail 1 (sfi h' 193 2 0)) (fun q34 => some (q34.1, q34.2)) else bnd (f_X12_fail 1 (sfi h' 193 2 0)) (fun q6 => some (q6.1, q6.2)) := by
        intro v h' hM'
        unfold f_X12_fitted
        rw [lt_b, (m_asked (hM'.fr (code0 h').1.m) oS hb).1 hk, bnd_s, if_pos rfl]
      have bad : f_X11_fitted (w32 b) (w32 y) (w32 u) h = some (.inr (0, h1)) → (∀ h', MI2 h' S T → f_X12_fitted (w32 b) (w32 y) (w32 u) h' = some (0, sfi (sfi h' 193 2 0) 193 2 1)) → TK (bnd (f_X11_fitted (w32 b) (w32 y) (w32 u) h) (fun q => Sum.elim (fun x => some (0, sla x.2 236 0 x.1.toInt64)) (fun x => gd (x.1 = 0) (some (1, x.2))) q)) (f_X12_fitted (w32 b) (w32 y) (w32 u)) T := fun c1 c2 => TK_x (c := 1) (d := 0) oS hM ⟨h1, f1.mono (fun c q => by unfold WU at q; omega), hI1, c1⟩ (fun h1 => by rw [gd_t rfl]) (by decide) (fun h' hM' => XM_fail 1 h' hM' (c2 h' hM'))
      by_cases qy : 0 ≤ y ∧ y ≤ 5
      · obtain ⟨w, rfl, hw⟩ := nat_of (n := 5) qy
        have hw : w < 6 := by omega
        have isW := (hI1.1.2.2.1 w hw).1
        have sW := isWy_sh isW
        have B1 := (hI1.2.1 b hb).1
        rw [r31] at B1
        have isX' := isX
        unfold isB at isX'
        have good : ∀ (o' : Option Nat), (∀ v, o' = some v → v < 6) → w32 u = oI o' → (∃ h2, Fr (fun c => c = 58 ∨ c = 59) h1 h2 ∧ (∀ l, l < vL (xb S b) → hia h2 58 l = w32 (2 * yl (xb S b) (xw S) w l) ∧ hia h2 59 l = w32 (2 * yo (xb S b) (xw S) o' l)) ∧ f_X11_fitted (w32 b) (w32 w) (w32 u) h = bnd (f_X2_search_l102 57 (hra h 3 b) 38 (w32 (oY o' : Nat)) 40 FU 2147483647 0 h2) (fun q20 => some (.inl (q20.1, sfi q20.2 57 0 1)))) → (∀ h', MI2 h' S T → f_X12_fitted (w32 b) (w32 w) (w32 u) h' = bnd (f_X12_fitted_l46 (w32 b) (w32 w) (oI o') FU (-1) 0 (sfi h' 193 2 0)) (fun q31 => some (Int64.toInt32 q31.1, q31.2))) → TK (bnd (f_X11_fitted (w32 b) (w32 w) (w32 u) h) (fun q => Sum.elim (fun x => some (0, sla x.2 236 0 x.1.toInt64)) (fun x => gd (x.1 = 0) (some (1, x.2))) q)) (f_X12_fitted (w32 b) (w32 w) (w32 u)) T := by
          intro o' ho eo hc hm
          obtain ⟨h2, f2, z2, c2⟩ := hc
          have hR := fR_of (ω := xw S) (a := xa S) o.1 o.2.1 oL oW hk hw ho
          have hY : oY o' ≤ 60 := by cases o' with | none => exact Nat.zero_le _ | some v => exact Nat.le_refl _
          have hF : ∀ x y, x ≤ 60 → y ≤ 60 → 0 ≤ fF (yl (xb S b) (xw S) w) (yo (xb S b) (xw S) o') (sMid (xb S b) (xg S b) (xa S)) (vL (xb S b)) x y ∧ fF (yl (xb S b) (xw S) w) (yo (xb S b) (xw S) o') (sMid (xb S b) (xg S b) (xa S)) (vL (xb S b)) x y ≤ 1000000000 := fun x y h1 h2 => by have := fF_rg hR h1 h2 (Nat.le_refl _); unfold fF; omega
          have hC : fC h2 (yl (xb S b) (xw S) w) (yo (xb S b) (xw S) o') (sMid (xb S b) (xg S b) (xa S)) (vL (xb S b)) := fun l hl => ⟨(z2 l hl).1, (z2 l hl).2, by rw [(f2 38 (by omega)).2.2.1]; exact (u1.l33 hl (kn_l hk hl).1 (kn_l hk hl).2).2.2.2.2⟩
          obtain ⟨h3, e3, f3, q3⟩ := k_fit102 (h := h2) (B := hra h 3 b) (by rw [(f2 _ (by omega)).1]; exact B1.1) (by omega) hC hR hY
          have mf : ∀ h', MI2 h' S T → _ := fun h' hM' => m_fit46 (S := S) ((hM'.fr (code0 h').1.m).mk oS hb) (hM'.fr (code0 h').1.m).2.2.1 oW hk hw ho
          have lt := fO_lt hF hY
          have ok := fO_ok hF hY 61 (by omega)
          generalize fO (fF (yl (xb S b) (xw S) w) (yo (xb S b) (xw S) o') (sMid (xb S b) (xg S b) (xa S)) (vL (xb S b))) (oY o') 61 = P at *
          obtain ⟨g1, g2⟩ := q3 (by omega)
          rw [e3, bnd_s] at c2
          dsimp only at c2
          unfold fOK at ok
          have F3 : Fr (fun c => 33 ≤ c ∧ c ≤ 66) h (sfi h3 57 0 1) := (((f1.mono (fun c q => by unfold WU at q; omega)).tr (f2.mono (fun c q => by omega))).tr (f3.mono (fun c q => by omega))).tr (Fr.sfi _ _ _ _ (by omega))
          refine TK_v (S' := sF S P.2.1 P.2.2) (okS_sF oS (by omega) (by omega) (by omega) (by omega)) hM ⟨_, F3.mono (fun c q => by omega), hI.fit (by omega) F3 (fi_sfi_eq _ _ _ _) (by rw [fi_sfi_nk _ _ _ _ _ (by omega)]; exact g1) (by rw [fi_sfi_nk _ _ _ _ _ (by omega)]; exact g2), c2⟩ (fun h' hM' => ?_)
          obtain ⟨h4, e4, f4, g3, g4⟩ := mf h' hM'
          refine ⟨h4, (Fr.sfi _ _ _ _ (by omega)).tr (f4.1.mono (fun c q => by omega)), ((hM'.fr (code0 h').1.m).fit f4 g3 g4).le (by omega), ?_, ?_⟩
          · rw [hm h' hM', e4, bnd_s, v_i _ (by omega) (by omega)]
          · rw [f4.2 2 (by omega)]; exact (code0 h').2
        by_cases qu : u = -1
        · subst qu
          refine good none (fun v e => by cases e) rfl ?_ ?_
          · obtain ⟨h2, e2, f2, z2⟩ := k_fit3n B1 isX isW (hI1.2.2.2.1 w hw) hw oW o.1
            refine ⟨h2, f2, z2, ?_⟩
            rw [hd, c_wayIn hI1.1 hw, bnd_s]
            simp only [Sum.elim_inl]
            rw [gd_t sW, if_pos (by decide)]
            unfold f_X2_search_n
            rw [e2, bnd_s, n102]
            show bnd (bnd (f_X2_search_l102 57 (hra h 3 b) 38 (w32 (oY none : Nat)) 40 FU 2147483647 0 h2) _) _ = _
            cases f_X2_search_l102 57 (hra h 3 b) 38 (w32 (oY none : Nat)) 40 FU 2147483647 0 h2 <;> rfl
          · intro h' hM'
            rw [md _ h' hM', m_isWayN hw, if_pos rfl, if_pos (by decide)]
            rfl
        · have nu : ¬ w32 u = -1 := by rw [wl_1, w_neg]; exact ne_w (by omega) (by omega) (by omega) (by omega) qu
          by_cases qv : 0 ≤ u ∧ u ≤ 5
          · obtain ⟨v, rfl, hv⟩ := nat_of (n := 5) qv
            have hv : v < 6 := by omega
            have isV := (hI1.1.2.2.1 v hv).1
            have sV := isWy_sh isV
            refine good (some v) (fun v' e => by cases e; exact hv) rfl ?_ ?_
            · obtain ⟨h2, e2, f2, z2⟩ := k_fit3 B1 isX isW isV (hI1.2.2.2.1 w hw) (hI1.2.2.2.1 v hv) hw hv oW o.1
              refine ⟨h2, f2, z2, ?_⟩
              rw [hd, c_wayIn hI1.1 hw, bnd_s]
              simp only [Sum.elim_inl]
              rw [gd_t sW, if_neg nu, c_wayIn hI1.1 hv, bnd_s]
              simp only [Sum.elim_inl]
              rw [gd_t sV]
              unfold f_X2_search
              rw [e2, bnd_s]
              show bnd (bnd (f_X2_search_l102 57 (hra h 3 b) 38 (w32 (oY (some v) : Nat)) 40 FU 2147483647 0 h2) _) _ = _
              cases f_X2_search_l102 57 (hra h 3 b) 38 (w32 (oY (some v) : Nat)) 40 FU 2147483647 0 h2 <;> rfl
            · intro h' hM'
              rw [md _ h' hM', m_isWayN hw, if_pos rfl, if_neg nu, m_isWayN hv, if_pos rfl]
              rfl
          · refine bad ?_ (fun h' hM' => ?_)
            · rw [hd, c_wayIn hI1.1 hw, bnd_s]
              simp only [Sum.elim_inl]
              rw [gd_t sW, if_neg nu, c_wayOut r5 r6 qv, bnd_s]
              rfl
            · rw [md _ h' hM', m_isWayN hw, if_pos rfl, if_neg nu, m_isWay r5 r6, decide_eq_false qv, if_neg (by decide), m_fail, bnd_s]
      · refine bad ?_ (fun h' hM' => ?_)
        · rw [hd, c_wayOut r3 r4 qy, bnd_s]
          rfl
        · rw [md _ h' hM', m_isWay r3 r4, decide_eq_false qy, if_neg (by decide), m_fail, bnd_s]
    · refine TK_x (c := 1) oS hM (XCx_id (d := 0) hI ?_) (fun h1 => by rw [gd_t rfl]) (by decide) (fun h' hM' => XM_fail 1 h' hM' ?_)
      · unfold f_X11_fitted
        rw [k2 hk, bnd_s]
        rfl
      · unfold f_X12_fitted
        rw [lt_b, (m_asked (hM'.fr (code0 h').1.m) oS hb).2 hk, bnd_s, if_neg (by decide), m_fail, bnd_s]
  · refine TK_x (c := 1) oS hM (XCx_id (d := 0) hI ?_) (fun h1 => by rw [gd_t rfl]) (by decide) (fun h' hM' => XM_fail 1 h' hM' ?_)
    · unfold f_X11_fitted
      rw [c_knownOut r1 r2 q, bnd_s]
      rfl
    · unfold f_X12_fitted
      rw [lt_b, m_askedOut r1 r2 q, bnd_s, if_neg (by decide), m_fail, bnd_s]
end FIU
