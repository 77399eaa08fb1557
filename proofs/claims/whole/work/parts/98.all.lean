/-! the law's loop: every turn agrees -/
def Go (K : AH → Option (AH ⊕ Unit)) (T : Nat) (e : Option (AH ⊕ Unit)) : Prop := ∃ p, e = K p ∧ inv p (T + 1)
section GO
variable {K : AH → Option (AH ⊕ Unit)} {T : Nat}
theorem Go.ite {c : Prop} [Decidable c] {a b : Option (AH ⊕ Unit)} (h1 : c → Go K T a) (h2 : ¬ c → Go K T b) : Go K T (if c then a else b) := by
  by_cases z : c
  · rw [if_pos z]; exact h1 z
  · rw [if_neg z]; exact h2 z
theorem Go.gd {c : Prop} [Decidable c] {a : Option (AH ⊕ Unit)} (h1 : c) (h2 : Go K T a) : Go K T (gd c a) := by
  rw [gd_t h1]; exact h2
theorem Go.tk {e : Option (Int32 × AH)} {F : AH → Option (Int32 × AH)} {G : Int32 × AH → Option (AH ⊕ Unit)} (ht : TK e F T) (hG : ∀ q, G q = bnd (F q.2) (fun p => if (f_X12_thrown p.2) = q.1 then if q.1 = 0 then Jvm.Pilot.CThumbBookLaw_law_r9791_0ea6f9.gd (ib 0 1 = true) (if (lg_cmp (hla p.2 236 (cl 0)) p.1.toInt64) = 0 then K p.2 else some (.inr ())) else K p.2 else some (.inr ()))) : Go K T (bnd e G) := by
  obtain ⟨q, p, e1, e2, e3, e4, e5⟩ := ht
  refine ⟨p.2, ?_, e5⟩
  rw [e1, bnd_s, hG, e2, bnd_s, if_pos e3]
  by_cases z : q.1 = 0
  · rw [if_pos z, gd_t (by decide), if_pos (e4 z)]
  · rw [if_neg z]
theorem Go.tl {e : Option (Int32 × AH)} {F : AH → Option (Int64 × AH)} {G : Int32 × AH → Option (AH ⊕ Unit)} (ht : TL e F T) (hG : ∀ q, G q = bnd (F q.2) (fun p => if (f_X12_thrown p.2) = q.1 then if q.1 = 0 then Jvm.Pilot.CThumbBookLaw_law_r9791_0ea6f9.gd (ib 0 1 = true) (if (lg_cmp (hla p.2 236 (cl 0)) p.1) = 0 then K p.2 else some (.inr ())) else K p.2 else some (.inr ()))) : Go K T (bnd e G) := by
  obtain ⟨q, p, e1, e2, e3, e4, e5⟩ := ht
  refine ⟨p.2, ?_, e5⟩
  rw [e1, bnd_s, hG, e2, bnd_s, if_pos e3]
  by_cases z : q.1 = 0
  · rw [if_pos z, gd_t (by decide), if_pos (e4 z)]
  · rw [if_neg z]
theorem Go.tb {e : Option (Int32 × AH)} {F : AH → Option (Bool × AH)} {G : Int32 × AH → Option (AH ⊕ Unit)} (ht : TB e F T) (hG : ∀ q, G q = bnd (F q.2) (fun p => if (f_X12_thrown p.2) = q.1 then if q.1 = 0 then Jvm.Pilot.CThumbBookLaw_law_r9791_0ea6f9.gd (ib 0 1 = true) (if (bI p.1) = 0 then if (lg_cmp (hla p.2 236 (cl 0)) 0) = 0 then K p.2 else some (.inr ()) else if (lg_cmp (hla p.2 236 (cl 0)) 1) = 0 then K p.2 else some (.inr ())) else K p.2 else some (.inr ()))) : Go K T (bnd e G) := by
  obtain ⟨q, p, e1, e2, e3, e4, e5⟩ := ht
  refine ⟨p.2, ?_, e5⟩
  rw [e1, bnd_s, hG, e2, bnd_s, if_pos e3]
  by_cases z : q.1 = 0
  · rw [if_pos z, gd_t (by decide), e4 z]
    cases y : p.1
    · rw [if_pos (show bI false = 0 by decide), if_neg (show ¬ (false = true) by decide), if_pos (cmp_self _)]
    · rw [if_neg (show ¬ (bI true = 0) by decide), if_pos rfl, if_pos (cmp_self _)]
  · rw [if_neg z]
theorem Go.tn {e : Option (Int32 × AH)} {F : AH → Option (Int32 × AH)} {G : Int32 × AH → Option (AH ⊕ Unit)} (ht : TN e F T) (hG : ∀ q, G q = bnd (F q.2) (fun p => if q.1 = p.1 then K p.2 else some (.inr ()))) : Go K T (bnd e G) := by
  obtain ⟨q, p, e1, e2, e3, e5⟩ := ht
  refine ⟨p.2, ?_, e5⟩
  rw [e1, bnd_s, hG, e2, bnd_s, if_pos e3]
end GO
theorem lw_step {xs : Nat → Int32} {L n i : Nat} {h : AH} (hL : L ≤ 3072) (hi : 6 * i + 6 ≤ L) (hv : inv h i) : Go (fun h => f_law xs L n (w32 ((6 * i : Nat) : Int) + 6) h) i (f_law xs L (n + 1) (w32 ((6 * i : Nat) : Int)) h) := by
  obtain ⟨S, oS, hI, hM⟩ := hv
  have hT : i ≤ 1000 := by omega
  have g0 : ib (w32 ((6 * i : Nat) : Int)) L = true := by rw [w_ibN _ _ (by omega)]; omega
  have gk : ∀ k : Nat, k < 6 → ib (w32 ((6 * i : Nat) : Int) + w32 (k : Nat)) L = true := fun k hk => by
    rw [w_add, show w32 (((6 * i : Nat) : Int) + (k : Nat)) = w32 ((6 * i + k : Nat) : Int) from ww (by omega), w_ibN _ _ (by omega)]
    omega
  have g1 : ib (w32 ((6 * i : Nat) : Int) + 1) L = true := gk 1 (by omega)
  have g2 : ib (w32 ((6 * i : Nat) : Int) + 2) L = true := gk 2 (by omega)
  have g3 : ib (w32 ((6 * i : Nat) : Int) + 3) L = true := gk 3 (by omega)
  have g4 : ib (w32 ((6 * i : Nat) : Int) + 4) L = true := gk 4 (by omega)
  have g5 : ib (w32 ((6 * i : Nat) : Int) + 5) L = true := gk 5 (by omega)
  have eL : Int32.ofNat L - 6 = w32 ((L : Int) - 6) := by
    rw [show Int32.ofNat L = w32 (L : Nat) from rfl, wl_6, w_sub]
  rw [f_law, eL, if_neg (by rw [w_lt _ _ (by omega) (by omega) (by omega) (by omega)]; omega)]
  refine Go.gd g0 ?_
  refine Go.ite (fun _ => ?_) (fun _ => ?_)
  · refine Go.gd g1 ?_; refine Go.gd g2 ?_; refine Go.gd g3 ?_; refine Go.gd g4 ?_; refine Go.gd g5 ?_; exact Go.tn (F := (f_X12_feed (xs (cl (w32 ((6 * i : Nat) : Int) + 1))) (xs (cl (w32 ((6 * i : Nat) : Int) + 2))) (xs (cl (w32 ((6 * i : Nat) : Int) + 3))) (xs (cl (w32 ((6 * i : Nat) : Int) + 4))) (xs (cl (w32 ((6 * i : Nat) : Int) + 5))))) (t_feed (xs (cl (w32 ((6 * i : Nat) : Int) + 1))) (xs (cl (w32 ((6 * i : Nat) : Int) + 2))) (xs (cl (w32 ((6 * i : Nat) : Int) + 3))) (xs (cl (w32 ((6 * i : Nat) : Int) + 4))) (xs (cl (w32 ((6 * i : Nat) : Int) + 5))) hI oS hM) (fun q => by rw [gd_t g1, gd_t g2, gd_t g3, gd_t g4, gd_t g5])
  refine Go.ite (fun _ => ?_) (fun _ => ?_)
  · refine Go.gd g1 ?_; refine Go.gd g2 ?_; exact Go.tk (F := (f_X12_book (xs (cl (w32 ((6 * i : Nat) : Int) + 1))) (xs (cl (w32 ((6 * i : Nat) : Int) + 2))))) (t_book (xs (cl (w32 ((6 * i : Nat) : Int) + 1))) (xs (cl (w32 ((6 * i : Nat) : Int) + 2))) hI oS hM hT) (fun q => by rw [gd_t g1, gd_t g2])
  refine Go.ite (fun _ => ?_) (fun _ => ?_)
  · refine Go.gd g1 ?_; exact Go.tk (F := (f_X12_law (xs (cl (w32 ((6 * i : Nat) : Int) + 1))))) (t_law (xs (cl (w32 ((6 * i : Nat) : Int) + 1))) hI oS hM) (fun q => by rw [gd_t g1])
  refine Go.ite (fun _ => ?_) (fun _ => ?_)
  · refine Go.gd g1 ?_; refine Go.gd g2 ?_; exact Go.tk (F := (f_X12_way (xs (cl (w32 ((6 * i : Nat) : Int) + 1))) (xs (cl (w32 ((6 * i : Nat) : Int) + 2))))) (t_way (xs (cl (w32 ((6 * i : Nat) : Int) + 1))) (xs (cl (w32 ((6 * i : Nat) : Int) + 2))) hI oS hM) (fun q => by rw [gd_t g1, gd_t g2])
  refine Go.ite (fun _ => ?_) (fun _ => ?_)
  · obtain ⟨p, e1, e2, e3⟩ := t_fault hI oS hM; exact ⟨p.2, by rw [e1, bnd_s, if_pos e2], e3⟩
  refine Go.ite (fun _ => ?_) (fun _ => ?_)
  · refine Go.gd g1 ?_; obtain ⟨s, a, b⟩ := q_count (T := i) (xs (cl (w32 ((6 * i : Nat) : Int) + 1))) hI oS; exact Go.tk (F := (f_X12_count (xs (cl (w32 ((6 * i : Nat) : Int) + 1))))) (TK_ask oS hI hM s a b) (fun q => by rw [gd_t g1])
  refine Go.ite (fun _ => ?_) (fun _ => ?_)
  · refine Go.gd g1 ?_; refine Go.gd g2 ?_; obtain ⟨s, a, b⟩ := q_about (T := i) (xs (cl (w32 ((6 * i : Nat) : Int) + 1))) (xs (cl (w32 ((6 * i : Nat) : Int) + 2))) hI oS; exact Go.tk (F := (f_X12_about (xs (cl (w32 ((6 * i : Nat) : Int) + 1))) (xs (cl (w32 ((6 * i : Nat) : Int) + 2))))) (TK_ask oS hI hM s a b) (fun q => by rw [gd_t g1, gd_t g2])
  refine Go.ite (fun _ => ?_) (fun _ => ?_)
  · refine Go.gd g1 ?_; refine Go.gd g2 ?_; refine Go.gd g3 ?_; obtain ⟨s, a, b⟩ := q_leaf (T := i) (xs (cl (w32 ((6 * i : Nat) : Int) + 1))) (xs (cl (w32 ((6 * i : Nat) : Int) + 2))) (xs (cl (w32 ((6 * i : Nat) : Int) + 3))) hI oS; exact Go.tk (F := (f_X12_leaf (xs (cl (w32 ((6 * i : Nat) : Int) + 1))) (xs (cl (w32 ((6 * i : Nat) : Int) + 2))) (xs (cl (w32 ((6 * i : Nat) : Int) + 3))))) (TK_ask oS hI hM s a b) (fun q => by rw [gd_t g1, gd_t g2, gd_t g3])
  refine Go.ite (fun _ => ?_) (fun _ => ?_)
  · refine Go.gd g1 ?_; refine Go.gd g2 ?_; refine Go.gd g3 ?_; obtain ⟨s, a, b⟩ := q_turnings (T := i) (xs (cl (w32 ((6 * i : Nat) : Int) + 1))) (xs (cl (w32 ((6 * i : Nat) : Int) + 2))) (xs (cl (w32 ((6 * i : Nat) : Int) + 3))) hI oS; exact Go.tk (F := (f_X12_turnings (xs (cl (w32 ((6 * i : Nat) : Int) + 1))) (xs (cl (w32 ((6 * i : Nat) : Int) + 2))) (xs (cl (w32 ((6 * i : Nat) : Int) + 3))))) (TK_ask oS hI hM s a b) (fun q => by rw [gd_t g1, gd_t g2, gd_t g3])
  refine Go.ite (fun _ => ?_) (fun _ => ?_)
  · refine Go.gd g1 ?_; refine Go.gd g2 ?_; refine Go.gd g3 ?_; refine Go.gd g4 ?_; exact Go.tk (F := (f_X12_reader (xs (cl (w32 ((6 * i : Nat) : Int) + 1))) (xs (cl (w32 ((6 * i : Nat) : Int) + 2))) (xs (cl (w32 ((6 * i : Nat) : Int) + 3))) (xs (cl (w32 ((6 * i : Nat) : Int) + 4))))) (t_reader (xs (cl (w32 ((6 * i : Nat) : Int) + 1))) (xs (cl (w32 ((6 * i : Nat) : Int) + 2))) (xs (cl (w32 ((6 * i : Nat) : Int) + 3))) (xs (cl (w32 ((6 * i : Nat) : Int) + 4))) hI oS hM) (fun q => by rw [gd_t g1, gd_t g2, gd_t g3, gd_t g4])
  refine Go.ite (fun _ => ?_) (fun _ => ?_)
  · refine Go.gd g1 ?_; exact Go.tk (F := (f_X12_gone (xs (cl (w32 ((6 * i : Nat) : Int) + 1))))) (t_gone (xs (cl (w32 ((6 * i : Nat) : Int) + 1))) hI oS hM) (fun q => by rw [gd_t g1])
  refine Go.ite (fun _ => ?_) (fun _ => ?_)
  · refine Go.gd g1 ?_; refine Go.gd g2 ?_; refine Go.gd g3 ?_; obtain ⟨s, a, b⟩ := q_dirt (T := i) (xs (cl (w32 ((6 * i : Nat) : Int) + 1))) (xs (cl (w32 ((6 * i : Nat) : Int) + 2))) (xs (cl (w32 ((6 * i : Nat) : Int) + 3))) hI oS; exact Go.tk (F := (f_X12_dirt (xs (cl (w32 ((6 * i : Nat) : Int) + 1))) (xs (cl (w32 ((6 * i : Nat) : Int) + 2))) (xs (cl (w32 ((6 * i : Nat) : Int) + 3))))) (TK_ask oS hI hM s a b) (fun q => by rw [gd_t g1, gd_t g2, gd_t g3])
  refine Go.ite (fun _ => ?_) (fun _ => ?_)
  · refine Go.gd g1 ?_; refine Go.gd g2 ?_; exact Go.tk (F := (f_X12_drawn (xs (cl (w32 ((6 * i : Nat) : Int) + 1))) (xs (cl (w32 ((6 * i : Nat) : Int) + 2))))) (t_drawn (xs (cl (w32 ((6 * i : Nat) : Int) + 1))) (xs (cl (w32 ((6 * i : Nat) : Int) + 2))) hI oS hM) (fun q => by rw [gd_t g1, gd_t g2])
  refine Go.ite (fun _ => ?_) (fun _ => ?_)
  · refine Go.gd g1 ?_; refine Go.gd g2 ?_; refine Go.gd g3 ?_; exact Go.tb (F := (f_X12_read (xs (cl (w32 ((6 * i : Nat) : Int) + 1))) (xs (cl (w32 ((6 * i : Nat) : Int) + 2))) (xs (cl (w32 ((6 * i : Nat) : Int) + 3))))) (t_read (xs (cl (w32 ((6 * i : Nat) : Int) + 1))) (xs (cl (w32 ((6 * i : Nat) : Int) + 2))) (xs (cl (w32 ((6 * i : Nat) : Int) + 3))) hI oS hM) (fun q => by rw [gd_t g1, gd_t g2, gd_t g3])
  refine Go.ite (fun _ => ?_) (fun _ => ?_)
  · refine Go.gd g1 ?_; refine Go.gd g2 ?_; refine Go.gd g3 ?_; obtain ⟨s, a, b⟩ := q_bounds (T := i) (xs (cl (w32 ((6 * i : Nat) : Int) + 1))) (xs (cl (w32 ((6 * i : Nat) : Int) + 2))) (xs (cl (w32 ((6 * i : Nat) : Int) + 3))) hI oS; exact Go.tk (F := (f_X12_bounds (xs (cl (w32 ((6 * i : Nat) : Int) + 1))) (xs (cl (w32 ((6 * i : Nat) : Int) + 2))) (xs (cl (w32 ((6 * i : Nat) : Int) + 3))))) (TK_ask oS hI hM s a b) (fun q => by rw [gd_t g1, gd_t g2, gd_t g3])
  refine Go.ite (fun _ => ?_) (fun _ => ?_)
  · refine Go.gd g1 ?_; refine Go.gd g2 ?_; obtain ⟨s, a, b⟩ := q_light (T := i) (xs (cl (w32 ((6 * i : Nat) : Int) + 1))) (xs (cl (w32 ((6 * i : Nat) : Int) + 2))) hI oS; exact Go.tk (F := (f_X12_light (xs (cl (w32 ((6 * i : Nat) : Int) + 1))) (xs (cl (w32 ((6 * i : Nat) : Int) + 2))))) (TK_ask oS hI hM s a b) (fun q => by rw [gd_t g1, gd_t g2])
  refine Go.ite (fun _ => ?_) (fun _ => ?_)
  · refine Go.gd g1 ?_; refine Go.gd g2 ?_; obtain ⟨s, a, b⟩ := q_sleepy (T := i) (xs (cl (w32 ((6 * i : Nat) : Int) + 1))) (xs (cl (w32 ((6 * i : Nat) : Int) + 2))) hI oS; exact Go.tk (F := (f_X12_sleepy (xs (cl (w32 ((6 * i : Nat) : Int) + 1))) (xs (cl (w32 ((6 * i : Nat) : Int) + 2))))) (TK_ask oS hI hM s a b) (fun q => by rw [gd_t g1, gd_t g2])
  refine Go.ite (fun _ => ?_) (fun _ => ?_)
  · refine Go.gd g1 ?_; refine Go.gd g2 ?_; exact Go.tl (F := (f_X12_humps (xs (cl (w32 ((6 * i : Nat) : Int) + 1))) (xs (cl (w32 ((6 * i : Nat) : Int) + 2))))) (t_humps (xs (cl (w32 ((6 * i : Nat) : Int) + 1))) (xs (cl (w32 ((6 * i : Nat) : Int) + 2))) hI oS hM) (fun q => by rw [gd_t g1, gd_t g2])
  refine Go.ite (fun _ => ?_) (fun _ => ?_)
  · refine Go.gd g1 ?_; refine Go.gd g2 ?_; refine Go.gd g3 ?_; obtain ⟨s, a, b⟩ := q_hump (T := i) (xs (cl (w32 ((6 * i : Nat) : Int) + 1))) (xs (cl (w32 ((6 * i : Nat) : Int) + 2))) (xs (cl (w32 ((6 * i : Nat) : Int) + 3))) hI oS; exact Go.tk (F := (f_X12_hump (xs (cl (w32 ((6 * i : Nat) : Int) + 1))) (xs (cl (w32 ((6 * i : Nat) : Int) + 2))) (xs (cl (w32 ((6 * i : Nat) : Int) + 3))))) (TK_ask oS hI hM s a b) (fun q => by rw [gd_t g1, gd_t g2, gd_t g3])
  refine Go.ite (fun _ => ?_) (fun _ => ?_)
  · refine Go.gd g1 ?_; refine Go.gd g2 ?_; refine Go.gd g3 ?_; exact Go.tk (F := (f_X12_fitted (xs (cl (w32 ((6 * i : Nat) : Int) + 1))) (xs (cl (w32 ((6 * i : Nat) : Int) + 2))) (xs (cl (w32 ((6 * i : Nat) : Int) + 3))))) (t_fitted (xs (cl (w32 ((6 * i : Nat) : Int) + 1))) (xs (cl (w32 ((6 * i : Nat) : Int) + 2))) (xs (cl (w32 ((6 * i : Nat) : Int) + 3))) hI oS hM) (fun q => by rw [gd_t g1, gd_t g2, gd_t g3])
  refine Go.ite (fun _ => ?_) (fun _ => ?_)
  · refine Go.gd g1 ?_; obtain ⟨s, a, b⟩ := q_years (T := i) (xs (cl (w32 ((6 * i : Nat) : Int) + 1))) hI oS; exact Go.tk (F := (f_X12_years (xs (cl (w32 ((6 * i : Nat) : Int) + 1))))) (TK_ask oS hI hM s a b) (fun q => by rw [gd_t g1])
  refine Go.ite (fun _ => ?_) (fun _ => ?_)
  · refine Go.gd g1 ?_; obtain ⟨s, a, b⟩ := q_whose (T := i) (xs (cl (w32 ((6 * i : Nat) : Int) + 1))) hI oS; exact Go.tk (F := (f_X12_whose (xs (cl (w32 ((6 * i : Nat) : Int) + 1))))) (TK_ask oS hI hM s a b) (fun q => by rw [gd_t g1])
  refine Go.ite (fun _ => ?_) (fun _ => ?_)
  · refine Go.gd g1 ?_; refine Go.gd g2 ?_; obtain ⟨s, a, b⟩ := q_order (T := i) (xs (cl (w32 ((6 * i : Nat) : Int) + 1))) (xs (cl (w32 ((6 * i : Nat) : Int) + 2))) hI oS; exact Go.tk (F := (f_X12_order (xs (cl (w32 ((6 * i : Nat) : Int) + 1))) (xs (cl (w32 ((6 * i : Nat) : Int) + 2))))) (TK_ask oS hI hM s a b) (fun q => by rw [gd_t g1, gd_t g2])
  refine Go.ite (fun _ => ?_) (fun _ => ?_)
  · refine Go.gd g1 ?_; refine Go.gd g2 ?_; obtain ⟨s, a, b⟩ := q_falls (T := i) (xs (cl (w32 ((6 * i : Nat) : Int) + 1))) (xs (cl (w32 ((6 * i : Nat) : Int) + 2))) hI oS; exact Go.tk (F := (f_X12_falls (xs (cl (w32 ((6 * i : Nat) : Int) + 1))) (xs (cl (w32 ((6 * i : Nat) : Int) + 2))))) (TK_ask oS hI hM s a b) (fun q => by rw [gd_t g1, gd_t g2])
  refine Go.ite (fun _ => ?_) (fun _ => ?_)
  · refine Go.gd g1 ?_; refine Go.gd g2 ?_; exact Go.tn (F := (f_X12_blank (xs (cl (w32 ((6 * i : Nat) : Int) + 1))) (xs (cl (w32 ((6 * i : Nat) : Int) + 2))))) (t_blank (xs (cl (w32 ((6 * i : Nat) : Int) + 1))) (xs (cl (w32 ((6 * i : Nat) : Int) + 2))) hI oS hM) (fun q => by rw [gd_t g1, gd_t g2])
  refine Go.ite (fun _ => ?_) (fun _ => ?_)
  · exact Go.tn (F := f_X12_clear) (t_clear  hI oS hM) (fun q => rfl)
  refine Go.ite (fun _ => ?_) (fun _ => ?_)
  · refine Go.gd g1 ?_; obtain ⟨s, a, b⟩ := q_turn (T := i) (xs (cl (w32 ((6 * i : Nat) : Int) + 1))) hI oS; exact Go.tk (F := (f_X12_turn (xs (cl (w32 ((6 * i : Nat) : Int) + 1))))) (TK_ask oS hI hM s a b) (fun q => by rw [gd_t g1])
  refine Go.ite (fun _ => ?_) (fun _ => ?_)
  · refine Go.gd g1 ?_; obtain ⟨s, a, b⟩ := q_town (T := i) (xs (cl (w32 ((6 * i : Nat) : Int) + 1))) hI oS; exact Go.tk (F := (f_X12_town (xs (cl (w32 ((6 * i : Nat) : Int) + 1))))) (TK_ask oS hI hM s a b) (fun q => by rw [gd_t g1])
  refine Go.ite (fun _ => ?_) (fun _ => ?_)
  · refine Go.gd g1 ?_; refine Go.gd g2 ?_; obtain ⟨s, a, b⟩ := q_alike (T := i) (xs (cl (w32 ((6 * i : Nat) : Int) + 1))) (xs (cl (w32 ((6 * i : Nat) : Int) + 2))) hI oS; exact Go.tk (F := (f_X12_alike (xs (cl (w32 ((6 * i : Nat) : Int) + 1))) (xs (cl (w32 ((6 * i : Nat) : Int) + 2))))) (TK_ask oS hI hM s a b) (fun q => by rw [gd_t g1, gd_t g2])
  refine Go.ite (fun _ => ?_) (fun _ => ?_)
  · refine Go.gd g1 ?_; obtain ⟨s, a, b⟩ := q_nearest (T := i) (xs (cl (w32 ((6 * i : Nat) : Int) + 1))) hI oS; exact Go.tk (F := (f_X12_nearest (xs (cl (w32 ((6 * i : Nat) : Int) + 1))))) (TK_ask oS hI hM s a b) (fun q => by rw [gd_t g1])
  refine Go.ite (fun _ => ?_) (fun _ => ?_)
  · refine Go.gd g1 ?_; refine Go.gd g2 ?_; refine Go.gd g3 ?_; obtain ⟨s, a, b⟩ := q_sure (T := i) (xs (cl (w32 ((6 * i : Nat) : Int) + 1))) (xs (cl (w32 ((6 * i : Nat) : Int) + 2))) (xs (cl (w32 ((6 * i : Nat) : Int) + 3))) hI oS; exact Go.tk (F := (f_X12_sure (xs (cl (w32 ((6 * i : Nat) : Int) + 1))) (xs (cl (w32 ((6 * i : Nat) : Int) + 2))) (xs (cl (w32 ((6 * i : Nat) : Int) + 3))))) (TK_ask oS hI hM s a b) (fun q => by rw [gd_t g1, gd_t g2, gd_t g3])
  refine Go.ite (fun _ => ?_) (fun _ => ?_)
  · refine Go.gd g1 ?_; refine Go.gd g2 ?_; refine Go.gd g3 ?_; refine Go.gd g4 ?_; exact Go.tk (F := (f_X12_before (xs (cl (w32 ((6 * i : Nat) : Int) + 1))) (xs (cl (w32 ((6 * i : Nat) : Int) + 2))) (xs (cl (w32 ((6 * i : Nat) : Int) + 3))) (xs (cl (w32 ((6 * i : Nat) : Int) + 4))))) (t_before (xs (cl (w32 ((6 * i : Nat) : Int) + 1))) (xs (cl (w32 ((6 * i : Nat) : Int) + 2))) (xs (cl (w32 ((6 * i : Nat) : Int) + 3))) (xs (cl (w32 ((6 * i : Nat) : Int) + 4))) hI oS hM) (fun q => by rw [gd_t g1, gd_t g2, gd_t g3, gd_t g4])
  refine Go.ite (fun _ => ?_) (fun _ => ?_)
  · refine Go.gd g1 ?_; refine Go.gd g2 ?_; refine Go.gd g3 ?_; refine Go.gd g4 ?_; exact Go.tk (F := (f_X12_told (xs (cl (w32 ((6 * i : Nat) : Int) + 1))) (xs (cl (w32 ((6 * i : Nat) : Int) + 2))) (xs (cl (w32 ((6 * i : Nat) : Int) + 3))) (xs (cl (w32 ((6 * i : Nat) : Int) + 4))))) (t_told (xs (cl (w32 ((6 * i : Nat) : Int) + 1))) (xs (cl (w32 ((6 * i : Nat) : Int) + 2))) (xs (cl (w32 ((6 * i : Nat) : Int) + 3))) (xs (cl (w32 ((6 * i : Nat) : Int) + 4))) hI oS hM) (fun q => by rw [gd_t g1, gd_t g2, gd_t g3, gd_t g4])
  refine Go.ite (fun _ => ?_) (fun _ => ?_)
  · refine Go.gd g1 ?_; obtain ⟨s, a, b⟩ := q_next (T := i) (xs (cl (w32 ((6 * i : Nat) : Int) + 1))) hI oS; exact Go.tk (F := (f_X12_next (xs (cl (w32 ((6 * i : Nat) : Int) + 1))))) (TK_ask oS hI hM s a b) (fun q => by rw [gd_t g1])
  refine Go.ite (fun _ => ?_) (fun _ => ?_)
  · obtain ⟨q, p, e1, e2, e3⟩ := t_image hI oS hM; exact ⟨p, by rw [e1, bnd_s, e2, bnd_s], e3⟩
  refine Go.ite (fun _ => ?_) (fun _ => ?_)
  · obtain ⟨q, p, e1, e2, e3, e4⟩ := t_restore hI oS hM hT; exact ⟨p.2, by rw [e1, bnd_s, e2, bnd_s, if_pos (by rw [e3])], e4⟩
  exact ⟨h, rfl, S, oS, hI, hM.le (by omega)⟩
theorem lw_all (xs : Nat → Int32) (L : Nat) (hL : L ≤ 3072) : ∀ (f i : Nat) (h : AH), 513 ≤ i + f → i ≤ 512 → inv h i → ∃ r, f_law xs L f (w32 ((6 * i : Nat) : Int)) h = some (.inl r) := by
  intro f
  induction f with
  | zero => intro i h h1 h2; omega
  | succ f ih =>
    intro i h h1 h2 hv
    by_cases z : 6 * i + 6 ≤ L
    · obtain ⟨p, e1, e2⟩ := lw_step (xs := xs) (n := f) hL z hv
      obtain ⟨r, e3⟩ := ih (i + 1) p (by omega) (by omega) e2
      refine ⟨r, ?_⟩
      rw [e1]
      show f_law xs L f (w32 ((6 * i : Nat) : Int) + 6) p = _
      rw [wl_6, w_add, show w32 (((6 * i : Nat) : Int) + 6) = w32 ((6 * (i + 1) : Nat) : Int) from ww (by omega)]
      exact e3
    · have eL : Int32.ofNat L - 6 = w32 ((L : Int) - 6) := by
        rw [show Int32.ofNat L = w32 (L : Nat) from rfl, wl_6, w_sub]
      exact ⟨h, by rw [f_law, eL, if_pos (by rw [w_lt _ _ (by omega) (by omega) (by omega) (by omega)]; omega)]⟩
def S0 : SV := (fun _ => b0, fun _ => g0, fun _ => g0, (2, 20, 3), (fun _ _ => 0, fun _ _ => 0), 0, fun _ => 0, -1, false, fun _ => 0, fun _ => 0, 0, fun _ => 0, fun _ => 0, -1, 0)
theorem ok_S0 : okS S0 := ⟨fun b _ => ⟨okb_0.1, fun l _ => Or.inl rfl, fun l _ => Or.inl rfl⟩, by unfold okL; decide, fun w _ k _ => ⟨Nat.zero_le _, Nat.zero_le _⟩, Nat.zero_le _, fun j hj => absurd hj (Nat.not_lt_zero _), by decide, by decide, Nat.zero_le _, fun j hj => absurd hj (Nat.not_lt_zero _), by decide, by decide, by decide, by decide⟩
theorem AD_0 : AD h0 := by
  have r3 : ∀ b, hra h0 3 b = 67 + 18 * b := fun b => rfl
  have r4 : ∀ b, hra h0 4 b = 175 + 3 * b := fun b => rfl
  have q3 : hra h0 0 3 = 5 := rfl
  have q4 : hra h0 0 4 = 6 := rfl
  have q5 : hra h0 0 5 = 24 := rfl
  have q6 : hra h0 0 6 = 27 := rfl
  unfold AD isB isWy isLw
  rw [q3, q4, q5, q6]
  refine ⟨fun b hb => ?_, Or.inl rfl, fun w hw => ?_, Or.inl rfl, Or.inl rfl, Or.inr rfl, by omega⟩
  · rw [r3]
    refine ⟨Or.inr (by omega), by omega, fun c hc hne => ?_⟩
    rw [r3]; omega
  · rw [r4]
    refine ⟨Or.inr (by omega), by omega, fun c hc hne => ?_⟩
    rw [r4]; omega
theorem fi_0 {b : Nat} (hb : b < 6) (k : Nat) : hfi h0 (67 + 18 * b) k = 0 := by
  show h0fi (67 + 18 * b) k = 0
  unfold h0fi
  rw [if_neg (by omega), if_neg (by omega), if_neg (by omega), if_neg (by omega)]
theorem ia_0 {r : Nat} (h1 : 175 ≤ r) (h2 : r ≠ 215) (h3 : r ≠ 216) (k : Nat) : hia h0 r k = 0 := by
  show h0ia r k = 0
  unfold h0ia
  rw [if_neg (by unfold lowTab; simp; omega), if_neg h3, if_neg h2]
theorem CI_0 : CI h0 S0 := by
  refine ⟨AD_0, fun b hb => ?_, ⟨rfl, rfl, rfl⟩, fun w hw k hk => ?_, rfl, rfl, fun j hj => absurd hj (Nat.not_lt_zero _), rfl, fun k hk => ?_, fun z => (by cases z), rfl, fun j hj => absurd hj (Nat.not_lt_zero _), rfl, fun z => absurd rfl z⟩
  · show BC h0 (67 + 18 * b) b0 ∧ GC h0 (67 + 18 * b + 7) 0 g0 ∧ GC h0 (67 + 18 * b + 10) 0 g0 ∧ hfi h0 (67 + 18 * b) 2 = 0
    exact ⟨⟨fi_0 hb 0, fi_0 hb 1, fi_0 hb 3, fi_0 hb 4, fi_0 hb 5, fun l hl => absurd hl (Nat.not_lt_zero _), fun w hw => absurd hw (Nat.not_lt_zero _), fun r hr => absurd hr (Nat.not_lt_zero _)⟩, fun l hl => absurd hl (Nat.not_lt_zero _), fun l hl => absurd hl (Nat.not_lt_zero _), fi_0 hb 2⟩
  · show hia h0 (175 + 3 * w + 1) k = w32 0 ∧ (0 ≠ 0 → _) ∧ (0 = 0 → hia h0 (175 + 3 * w + 2) k = w32 0)
    exact ⟨ia_0 (by omega) (by omega) (by omega) k, fun z => absurd rfl z, fun _ => ia_0 (by omega) (by omega) (by omega) k⟩
  · rcases (show k = 0 ∨ k = 1 ∨ k = 2 ∨ k = 3 by omega) with rfl | rfl | rfl | rfl <;> rfl
theorem MI_0 : MI2 h0 S0 0 := by
  refine ⟨fun b hb => ⟨⟨?_, ?_, ?_, ?_, ?_, fun l hl => absurd hl (Nat.not_lt_zero _), fun w hw => absurd hw (Nat.not_lt_zero _), fun r hr => absurd hr (Nat.not_lt_zero _)⟩, fun l hl => absurd hl (Nat.not_lt_zero _)⟩, ⟨rfl, rfl, rfl⟩, fun w hw k hk => ⟨?_, fun z => absurd rfl z⟩, rfl, rfl, fun j hj => absurd hj (Nat.not_lt_zero _), fun k hk => ?_, rfl, fun j hj => absurd hj (Nat.not_lt_zero _), rfl, fun z => absurd rfl z, rfl, fun z => (by cases z), fun _ => 0, fun _ => 0, fun b hb => ⟨?_, Nat.le_refl _, ?_, Nat.le_refl _, fun z => (by cases z), fun z => (by cases z)⟩⟩
  · exact ia_0 (by omega) (by omega) (by omega) b
  · exact ia_0 (by omega) (by omega) (by omega) b
  · exact ia_0 (by omega) (by omega) (by omega) b
  · exact ia_0 (by omega) (by omega) (by omega) b
  · exact ia_0 (by omega) (by omega) (by omega) b
  · show hia h0 216 (12 * w + k) = -1
    show h0ia 216 (12 * w + k) = -1
    have e : h0ia 216 = pF (fun _ => 0) (-1) 84 := by unfold h0ia; rw [if_neg (by decide), if_pos rfl]
    rw [e]
    show (if 12 * w + k < 84 then (-1 : Int32) else 0) = -1
    rw [if_pos (by omega)]
  · exact ia_0 (by omega) (by omega) (by omega) k
  · exact ia_0 (by omega) (by omega) (by omega) b
  · exact ia_0 (by omega) (by omega) (by omega) b
theorem inv_0 : inv h0 0 := ⟨S0, ok_S0, CI_0, MI_0⟩
