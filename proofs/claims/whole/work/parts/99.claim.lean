theorem i_vc : Claimed_1_1 ∧ Claimed_1_2 := i_vc_of (fun xs L hL => by
  have e := lw_all xs L hL 513 0 h0 (by omega) (by omega) inv_0
  rw [show w32 ((6 * 0 : Nat) : Int) = 0 from rfl] at e
  exact e)
