/-! the words in which the program's functions are written down -/
def gd {α : Type} (p : Prop) [Decidable p] (k : Option α) : Option α := if p then k else none
def lt {α β : Type} (e : α) (k : α → β) : β := k e
def bnd {α β : Type} (e : Option α) (k : α → Option β) : Option β := match e with
  | some a => k a
  | none => none
def bI (b : Bool) : Int32 := if b = true then 1 else 0
def FU : Nat := 1000
theorem gd_ex {α : Type} {p : Prop} [Decidable p] {k : Option α} {r : α} (h : gd p k = some r) : p ∧ k = some r := by
  unfold gd at h
  by_cases hp : p
  · rw [if_pos hp] at h
    exact ⟨hp, h⟩
  · rw [if_neg hp] at h
    cases h
theorem lt_ex {α β : Type} {e : α} {k : α → β} {x : β} (h : lt e k = x) : ∃ a, a = e ∧ k a = x := ⟨e, rfl, h⟩
theorem bnd_ex {α β : Type} {e : Option α} {k : α → Option β} {r : β} (h : bnd e k = some r) : ∃ a, e = some a ∧ k a = some r := by
  cases e with
  | none => cases h
  | some a => exact ⟨a, rfl, h⟩
theorem bI_t {b : Bool} (h : b = true) : bI b = 1 := by subst h; rfl
theorem bI_f {b : Bool} (h : b = false) : bI b = 0 := by subst h; rfl
theorem bI_n (b : Bool) : narrow .boolean (.int (bI b)) = .int (bI b) := by cases b <;> rfl
def ib (i : Int32) (n : Nat) : Bool := decide (¬ (i < 0 ∨ n ≤ i.toNatClampNeg))
theorem ib_in {i : Int32} {n : Nat} (h : ib i n = true) : vp_in i n := of_decide_eq_true (p := ¬ (i < 0 ∨ n ≤ i.toNatClampNeg)) h
def SpI (G : GG) (d : Nat) (Y : MI) (avs : List Value) (h : AH) (v : Int32) (h' : AH) : Prop := Sp G d Y avs h (fun o g => o = some (.int v) ∧ g = h')
def SpL (G : GG) (d : Nat) (Y : MI) (avs : List Value) (h : AH) (v : Int64) (h' : AH) : Prop := Sp G d Y avs h (fun o g => o = some (.long v) ∧ g = h')
def SpV (G : GG) (d : Nat) (Y : MI) (avs : List Value) (h : AH) (h' : AH) : Prop := Sp G d Y avs h (fun o g => o = none ∧ g = h')
def KMi (G : GG) (v : Int32) (h' : AH) : KQ := KM G (fun o g => o = some (.int v) ∧ g = h')
def KMl (G : GG) (v : Int64) (h' : AH) : KQ := KM G (fun o g => o = some (.long v) ∧ g = h')
def KMv (G : GG) (h' : AH) : KQ := KM G (fun o g => o = none ∧ g = h')
section JR3
variable {G : GG} {Y Y' : MI} {d d' C q : Nat} {K : KQ} {pc : Nat} {lv : List (Nat × Value)} {st rest As : List Value} {h h' h1 : AH}
theorem j_heap (e : h1 = h) (k : J G Y d C q K pc lv st h1) : J G Y d C q K pc lv st h := e ▸ k
theorem j_lv {lv' : List (Nat × Value)} {st' : List Value} {pc' : Nat} (e1 : pc = pc') (e2 : lv = lv') (e3 : st = st') (k : J G Y d C q K pc' lv' st' h) : J G Y d C q K pc lv st h := by subst e1; subst e2; subst e3; exact k
theorem j_callVi {v : Int32} {own : String} {idx a na n ci N : Nat} {T : u_T} (hs : SpI G d' Y' (.ref (ad G a) :: As) h v h') (hcv : CV own idx Y' na) (hY : Y.1.cls = own) (hsh : SH a = (ci, n)) (hci : ci < 13) (hcl : vwCl[ci]? = some (Y'.1.cls, T, N)) (hdd : d' + 1 ≤ d) (hAs : As.length = na) (hst : st = As.reverse ++ .ref (ad G a) :: rest) (hW : (rest.map fun v => v.category).sum ≤ 8) (hd : decode Y.2.1 pc = .ok (.invokevirtual idx, 3)) (hq : q ≤ C) (kk : J G Y d C q K (pc + 3) lv (.int v :: rest) h') : J G Y d C q K pc lv st h := j_callV hs hcv hY hsh hci hcl hdd hAs hst hW hd hq (fun _ _ e => by obtain ⟨rfl, rfl⟩ := e; exact kk)
theorem j_callSi {v : Int32} {own : String} {idx na : Nat} (hs : SpI G d' Y' As h v h') (hcv : CS own idx Y' na) (hY : Y.1.cls = own) (hdd : d' + 1 ≤ d) (hAs : As.length = na) (hst : st = As.reverse ++ rest) (hW : (rest.map fun v => v.category).sum ≤ 8) (hd : decode Y.2.1 pc = .ok (.invokestatic idx, 3)) (hq : q ≤ C) (kk : J G Y d C q K (pc + 3) lv (.int v :: rest) h') : J G Y d C q K pc lv st h := j_callS hs hcv hY hdd hAs hst hW hd hq (fun _ _ e => by obtain ⟨rfl, rfl⟩ := e; exact kk)
theorem j_callNi {v : Int32} {own host : String} {idx na : Nat} (hs : SpI G d' Y' As h v h') (hcv : CN own idx Y' host na) (hY : Y.1.cls = own) (hdd : d' + 1 ≤ d) (hAs : As.length = na) (hst : st = As.reverse ++ rest) (hW : (rest.map fun v => v.category).sum ≤ 8) (hd : decode Y.2.1 pc = .ok (.invokestatic idx, 3)) (hq : q ≤ C) (kk : J G Y d C q K (pc + 3) lv (.int v :: rest) h') : J G Y d C q K pc lv st h := j_callN hs hcv hY hdd hAs hst hW hd hq (fun _ _ e => by obtain ⟨rfl, rfl⟩ := e; exact kk)
theorem j_callVl {v : Int64} {own : String} {idx a na n ci N : Nat} {T : u_T} (hs : SpL G d' Y' (.ref (ad G a) :: As) h v h') (hcv : CV own idx Y' na) (hY : Y.1.cls = own) (hsh : SH a = (ci, n)) (hci : ci < 13) (hcl : vwCl[ci]? = some (Y'.1.cls, T, N)) (hdd : d' + 1 ≤ d) (hAs : As.length = na) (hst : st = As.reverse ++ .ref (ad G a) :: rest) (hW : (rest.map fun v => v.category).sum ≤ 8) (hd : decode Y.2.1 pc = .ok (.invokevirtual idx, 3)) (hq : q ≤ C) (kk : J G Y d C q K (pc + 3) lv (.long v :: rest) h') : J G Y d C q K pc lv st h := j_callV hs hcv hY hsh hci hcl hdd hAs hst hW hd hq (fun _ _ e => by obtain ⟨rfl, rfl⟩ := e; exact kk)
theorem j_callSl {v : Int64} {own : String} {idx na : Nat} (hs : SpL G d' Y' As h v h') (hcv : CS own idx Y' na) (hY : Y.1.cls = own) (hdd : d' + 1 ≤ d) (hAs : As.length = na) (hst : st = As.reverse ++ rest) (hW : (rest.map fun v => v.category).sum ≤ 8) (hd : decode Y.2.1 pc = .ok (.invokestatic idx, 3)) (hq : q ≤ C) (kk : J G Y d C q K (pc + 3) lv (.long v :: rest) h') : J G Y d C q K pc lv st h := j_callS hs hcv hY hdd hAs hst hW hd hq (fun _ _ e => by obtain ⟨rfl, rfl⟩ := e; exact kk)
theorem j_callNl {v : Int64} {own host : String} {idx na : Nat} (hs : SpL G d' Y' As h v h') (hcv : CN own idx Y' host na) (hY : Y.1.cls = own) (hdd : d' + 1 ≤ d) (hAs : As.length = na) (hst : st = As.reverse ++ rest) (hW : (rest.map fun v => v.category).sum ≤ 8) (hd : decode Y.2.1 pc = .ok (.invokestatic idx, 3)) (hq : q ≤ C) (kk : J G Y d C q K (pc + 3) lv (.long v :: rest) h') : J G Y d C q K pc lv st h := j_callN hs hcv hY hdd hAs hst hW hd hq (fun _ _ e => by obtain ⟨rfl, rfl⟩ := e; exact kk)
theorem j_callVv {own : String} {idx a na n ci N : Nat} {T : u_T} (hs : SpV G d' Y' (.ref (ad G a) :: As) h h') (hcv : CV own idx Y' na) (hY : Y.1.cls = own) (hsh : SH a = (ci, n)) (hci : ci < 13) (hcl : vwCl[ci]? = some (Y'.1.cls, T, N)) (hdd : d' + 1 ≤ d) (hAs : As.length = na) (hst : st = As.reverse ++ .ref (ad G a) :: rest) (hW : (rest.map fun v => v.category).sum ≤ 8) (hd : decode Y.2.1 pc = .ok (.invokevirtual idx, 3)) (hq : q ≤ C) (kk : J G Y d C q K (pc + 3) lv (rest) h') : J G Y d C q K pc lv st h := j_callV hs hcv hY hsh hci hcl hdd hAs hst hW hd hq (fun _ _ e => by obtain ⟨rfl, rfl⟩ := e; exact kk)
theorem j_callSv {own : String} {idx na : Nat} (hs : SpV G d' Y' As h h') (hcv : CS own idx Y' na) (hY : Y.1.cls = own) (hdd : d' + 1 ≤ d) (hAs : As.length = na) (hst : st = As.reverse ++ rest) (hW : (rest.map fun v => v.category).sum ≤ 8) (hd : decode Y.2.1 pc = .ok (.invokestatic idx, 3)) (hq : q ≤ C) (kk : J G Y d C q K (pc + 3) lv (rest) h') : J G Y d C q K pc lv st h := j_callS hs hcv hY hdd hAs hst hW hd hq (fun _ _ e => by obtain ⟨rfl, rfl⟩ := e; exact kk)
theorem j_callNv {own host : String} {idx na : Nat} (hs : SpV G d' Y' As h h') (hcv : CN own idx Y' host na) (hY : Y.1.cls = own) (hdd : d' + 1 ≤ d) (hAs : As.length = na) (hst : st = As.reverse ++ rest) (hW : (rest.map fun v => v.category).sum ≤ 8) (hd : decode Y.2.1 pc = .ok (.invokestatic idx, 3)) (hq : q ≤ C) (kk : J G Y d C q K (pc + 3) lv (rest) h') : J G Y d C q K pc lv st h := j_callN hs hcv hY hdd hAs hst hW hd hq (fun _ _ e => by obtain ⟨rfl, rfl⟩ := e; exact kk)
theorem j_reti {v : Int32} (hd : decode Y.2.1 pc = .ok (.ireturn, 1)) (hr0 : Y.2.2.2 = some .int) (hK : K = KMi G v h) : J G Y d 0 0 K pc lv [.int v] h := by subst hK; exact j_iret hd hr0 ⟨rfl, rfl⟩
theorem j_retz {b : Bool} (hd : decode Y.2.1 pc = .ok (.ireturn, 1)) (hr0 : Y.2.2.2 = some .boolean) (hK : K = KMi G (bI b) h) : J G Y d 0 0 K pc lv [.int (bI b)] h := by subst hK; exact j_zret hd hr0 (bI_n b) ⟨rfl, rfl⟩
theorem j_ret1 (hd : decode Y.2.1 pc = .ok (.ireturn, 1)) (hr0 : Y.2.2.2 = some .boolean) (hK : K = KMi G (bI true) h) : J G Y d 0 0 K pc lv [.int 1] h := j_retz (b := true) hd hr0 hK
theorem j_ret0 (hd : decode Y.2.1 pc = .ok (.ireturn, 1)) (hr0 : Y.2.2.2 = some .boolean) (hK : K = KMi G (bI false) h) : J G Y d 0 0 K pc lv [.int 0] h := j_retz (b := false) hd hr0 hK
theorem j_retl {v : Int64} (hd : decode Y.2.1 pc = .ok (.lreturn, 1)) (hr0 : Y.2.2.2 = some .long) (hK : K = KMl G v h) : J G Y d 0 0 K pc lv [.long v] h := by subst hK; exact j_lret hd hr0 ⟨rfl, rfl⟩
theorem j_retv (hd : decode Y.2.1 pc = .ok (.return_, 1)) (hr0 : Y.2.2.2 = none) (hK : K = KMv G h) : J G Y d 0 0 K pc lv [] h := by subst hK; exact j_vret hd hr0 ⟨rfl, rfl⟩
theorem j_ifz_eq {b : Bool} {off : Int} (tgt : Nat) (hd : decode Y.2.1 pc = .ok (.ifCond .eq off, 3)) (ht : (pc : Int) + off = (tgt : Int)) (kt : ¬ b = true → J G Y d C q K tgt lv st h) (kf : b = true → J G Y d C q K (pc + 3) lv st h) : J G Y d C q K pc lv (.int (bI b) :: st) h :=
  j_if_eq tgt hd ht (fun z => kt (fun e => by rw [bI_t e] at z; cases z)) (fun z => kf (by cases b with | true => rfl | false => exact absurd rfl z))
theorem j_ifz_ne {b : Bool} {off : Int} (tgt : Nat) (hd : decode Y.2.1 pc = .ok (.ifCond .ne off, 3)) (ht : (pc : Int) + off = (tgt : Int)) (kt : b = true → J G Y d C q K tgt lv st h) (kf : ¬ b = true → J G Y d C q K (pc + 3) lv st h) : J G Y d C q K pc lv (.int (bI b) :: st) h :=
  j_if_ne tgt hd ht (fun z => kt (by cases b with | true => rfl | false => exact absurd rfl z)) (fun z => kf (fun e => by rw [bI_t e] at z; cases z))
end JR3
theorem sp_i {G : GG} {Y : MI} {d : Nat} {avs : List Value} {h h' : AH} {v : Int32} (hp : plainFor Y.1 = true) (hlen : (lg_sl avs).length ≤ Y.2.2.1) (body : J G Y d 0 0 (KMi G v h') 0 (lv_args 0 avs) [] h) : SpI G d Y avs h v h' := sp_of hp hlen body
theorem sp_l {G : GG} {Y : MI} {d : Nat} {avs : List Value} {h h' : AH} {v : Int64} (hp : plainFor Y.1 = true) (hlen : (lg_sl avs).length ≤ Y.2.2.1) (body : J G Y d 0 0 (KMl G v h') 0 (lv_args 0 avs) [] h) : SpL G d Y avs h v h' := sp_of hp hlen body
theorem sp_v {G : GG} {Y : MI} {d : Nat} {avs : List Value} {h h' : AH} (hp : plainFor Y.1 = true) (hlen : (lg_sl avs).length ≤ Y.2.2.1) (body : J G Y d 0 0 (KMv G h') 0 (lv_args 0 avs) [] h) : SpV G d Y avs h h' := sp_of hp hlen body
