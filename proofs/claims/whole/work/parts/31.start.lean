def tmS (i : Nat) : Term := .string (strTab.getD i ("", 0, "", 0)).1 (strTab.getD i ("", 0, "", 0)).2.1
def nrw : List Cond := flatC (Jvm.Cond.and given_1 narrow_1)
set_option maxRecDepth 100000 in
theorem nr_1 : ∀ i : Nat, i < 35 → Cond.exactly (tmS i) "java/lang/String" ∈ nrw := by decide +kernel
set_option maxRecDepth 100000 in
theorem nr_2 : ∀ i : Nat, i < 35 → Cond.eq (.field (tmS i) "java/lang/String" "coder" "B") (.int 0) ∈ nrw := by decide +kernel
set_option maxRecDepth 100000 in
theorem nr_3 : ∀ i : Nat, i < 35 → Cond.arrayOf (.field (tmS i) "java/lang/String" "value" "[B") .byte ∈ nrw := by decide +kernel
set_option maxRecDepth 100000 in
theorem nr_4 : ∀ i : Nat, i < 35 → Cond.eq (.length (.field (tmS i) "java/lang/String" "value" "[B")) (.int (Int32.ofNat (strLen.getD i 0))) ∈ nrw := by decide +kernel
theorem nr5_0 : ∀ j : Nat, j < strLen.getD 0 0 → Cond.eq (.elem (.field (tmS 0) "java/lang/String" "value" "[B") (.int (Int32.ofNat j))) (.int ((strByt.getD 0 []).getD j 0)) ∈ nrw
  | 0, _ => List.mem_of_getElem? (i := 75) (by decide +kernel)
  | 1, _ => List.mem_of_getElem? (i := 76) (by decide +kernel)
  | 2, _ => List.mem_of_getElem? (i := 77) (by decide +kernel)
  | 3, _ => List.mem_of_getElem? (i := 78) (by decide +kernel)
  | j + 4, h => absurd (show j + 4 < 4 from h) (by omega)
theorem nr5_1 : ∀ j : Nat, j < strLen.getD 1 0 → Cond.eq (.elem (.field (tmS 1) "java/lang/String" "value" "[B") (.int (Int32.ofNat j))) (.int ((strByt.getD 1 []).getD j 0)) ∈ nrw
  | 0, _ => List.mem_of_getElem? (i := 83) (by decide +kernel)
  | j + 1, h => absurd (show j + 1 < 1 from h) (by omega)
theorem nr5_2 : ∀ j : Nat, j < strLen.getD 2 0 → Cond.eq (.elem (.field (tmS 2) "java/lang/String" "value" "[B") (.int (Int32.ofNat j))) (.int ((strByt.getD 2 []).getD j 0)) ∈ nrw
  | 0, _ => List.mem_of_getElem? (i := 88) (by decide +kernel)
  | 1, _ => List.mem_of_getElem? (i := 89) (by decide +kernel)
  | 2, _ => List.mem_of_getElem? (i := 90) (by decide +kernel)
  | 3, _ => List.mem_of_getElem? (i := 91) (by decide +kernel)
  | j + 4, h => absurd (show j + 4 < 4 from h) (by omega)
theorem nr5_3 : ∀ j : Nat, j < strLen.getD 3 0 → Cond.eq (.elem (.field (tmS 3) "java/lang/String" "value" "[B") (.int (Int32.ofNat j))) (.int ((strByt.getD 3 []).getD j 0)) ∈ nrw
  | 0, _ => List.mem_of_getElem? (i := 96) (by decide +kernel)
  | 1, _ => List.mem_of_getElem? (i := 97) (by decide +kernel)
  | 2, _ => List.mem_of_getElem? (i := 98) (by decide +kernel)
  | 3, _ => List.mem_of_getElem? (i := 99) (by decide +kernel)
  | j + 4, h => absurd (show j + 4 < 4 from h) (by omega)
theorem nr5_4 : ∀ j : Nat, j < strLen.getD 4 0 → Cond.eq (.elem (.field (tmS 4) "java/lang/String" "value" "[B") (.int (Int32.ofNat j))) (.int ((strByt.getD 4 []).getD j 0)) ∈ nrw
  | 0, _ => List.mem_of_getElem? (i := 104) (by decide +kernel)
  | 1, _ => List.mem_of_getElem? (i := 105) (by decide +kernel)
  | 2, _ => List.mem_of_getElem? (i := 106) (by decide +kernel)
  | 3, _ => List.mem_of_getElem? (i := 107) (by decide +kernel)
  | 4, _ => List.mem_of_getElem? (i := 108) (by decide +kernel)
  | j + 5, h => absurd (show j + 5 < 5 from h) (by omega)
theorem nr5_5 : ∀ j : Nat, j < strLen.getD 5 0 → Cond.eq (.elem (.field (tmS 5) "java/lang/String" "value" "[B") (.int (Int32.ofNat j))) (.int ((strByt.getD 5 []).getD j 0)) ∈ nrw
  | 0, _ => List.mem_of_getElem? (i := 113) (by decide +kernel)
  | 1, _ => List.mem_of_getElem? (i := 114) (by decide +kernel)
  | 2, _ => List.mem_of_getElem? (i := 115) (by decide +kernel)
  | 3, _ => List.mem_of_getElem? (i := 116) (by decide +kernel)
  | j + 4, h => absurd (show j + 4 < 4 from h) (by omega)
theorem nr5_6 : ∀ j : Nat, j < strLen.getD 6 0 → Cond.eq (.elem (.field (tmS 6) "java/lang/String" "value" "[B") (.int (Int32.ofNat j))) (.int ((strByt.getD 6 []).getD j 0)) ∈ nrw
  | 0, _ => List.mem_of_getElem? (i := 121) (by decide +kernel)
  | 1, _ => List.mem_of_getElem? (i := 122) (by decide +kernel)
  | 2, _ => List.mem_of_getElem? (i := 123) (by decide +kernel)
  | 3, _ => List.mem_of_getElem? (i := 124) (by decide +kernel)
  | 4, _ => List.mem_of_getElem? (i := 125) (by decide +kernel)
  | j + 5, h => absurd (show j + 5 < 5 from h) (by omega)
theorem nr5_7 : ∀ j : Nat, j < strLen.getD 7 0 → Cond.eq (.elem (.field (tmS 7) "java/lang/String" "value" "[B") (.int (Int32.ofNat j))) (.int ((strByt.getD 7 []).getD j 0)) ∈ nrw
  | 0, _ => List.mem_of_getElem? (i := 130) (by decide +kernel)
  | 1, _ => List.mem_of_getElem? (i := 131) (by decide +kernel)
  | 2, _ => List.mem_of_getElem? (i := 132) (by decide +kernel)
  | 3, _ => List.mem_of_getElem? (i := 133) (by decide +kernel)
  | 4, _ => List.mem_of_getElem? (i := 134) (by decide +kernel)
  | 5, _ => List.mem_of_getElem? (i := 135) (by decide +kernel)
  | j + 6, h => absurd (show j + 6 < 6 from h) (by omega)
theorem nr5_8 : ∀ j : Nat, j < strLen.getD 8 0 → Cond.eq (.elem (.field (tmS 8) "java/lang/String" "value" "[B") (.int (Int32.ofNat j))) (.int ((strByt.getD 8 []).getD j 0)) ∈ nrw
  | 0, _ => List.mem_of_getElem? (i := 140) (by decide +kernel)
  | 1, _ => List.mem_of_getElem? (i := 141) (by decide +kernel)
  | 2, _ => List.mem_of_getElem? (i := 142) (by decide +kernel)
  | 3, _ => List.mem_of_getElem? (i := 143) (by decide +kernel)
  | j + 4, h => absurd (show j + 4 < 4 from h) (by omega)
theorem nr5_9 : ∀ j : Nat, j < strLen.getD 9 0 → Cond.eq (.elem (.field (tmS 9) "java/lang/String" "value" "[B") (.int (Int32.ofNat j))) (.int ((strByt.getD 9 []).getD j 0)) ∈ nrw
  | 0, _ => List.mem_of_getElem? (i := 148) (by decide +kernel)
  | 1, _ => List.mem_of_getElem? (i := 149) (by decide +kernel)
  | 2, _ => List.mem_of_getElem? (i := 150) (by decide +kernel)
  | 3, _ => List.mem_of_getElem? (i := 151) (by decide +kernel)
  | j + 4, h => absurd (show j + 4 < 4 from h) (by omega)
theorem nr5_10 : ∀ j : Nat, j < strLen.getD 10 0 → Cond.eq (.elem (.field (tmS 10) "java/lang/String" "value" "[B") (.int (Int32.ofNat j))) (.int ((strByt.getD 10 []).getD j 0)) ∈ nrw
  | 0, _ => List.mem_of_getElem? (i := 156) (by decide +kernel)
  | 1, _ => List.mem_of_getElem? (i := 157) (by decide +kernel)
  | 2, _ => List.mem_of_getElem? (i := 158) (by decide +kernel)
  | 3, _ => List.mem_of_getElem? (i := 159) (by decide +kernel)
  | j + 4, h => absurd (show j + 4 < 4 from h) (by omega)
theorem nr5_11 : ∀ j : Nat, j < strLen.getD 11 0 → Cond.eq (.elem (.field (tmS 11) "java/lang/String" "value" "[B") (.int (Int32.ofNat j))) (.int ((strByt.getD 11 []).getD j 0)) ∈ nrw
  | 0, _ => List.mem_of_getElem? (i := 164) (by decide +kernel)
  | 1, _ => List.mem_of_getElem? (i := 165) (by decide +kernel)
  | 2, _ => List.mem_of_getElem? (i := 166) (by decide +kernel)
  | j + 3, h => absurd (show j + 3 < 3 from h) (by omega)
theorem nr5_12 : ∀ j : Nat, j < strLen.getD 12 0 → Cond.eq (.elem (.field (tmS 12) "java/lang/String" "value" "[B") (.int (Int32.ofNat j))) (.int ((strByt.getD 12 []).getD j 0)) ∈ nrw
  | 0, _ => List.mem_of_getElem? (i := 171) (by decide +kernel)
  | 1, _ => List.mem_of_getElem? (i := 172) (by decide +kernel)
  | 2, _ => List.mem_of_getElem? (i := 173) (by decide +kernel)
  | 3, _ => List.mem_of_getElem? (i := 174) (by decide +kernel)
  | j + 4, h => absurd (show j + 4 < 4 from h) (by omega)
theorem nr5_13 : ∀ j : Nat, j < strLen.getD 13 0 → Cond.eq (.elem (.field (tmS 13) "java/lang/String" "value" "[B") (.int (Int32.ofNat j))) (.int ((strByt.getD 13 []).getD j 0)) ∈ nrw
  | 0, _ => List.mem_of_getElem? (i := 179) (by decide +kernel)
  | 1, _ => List.mem_of_getElem? (i := 180) (by decide +kernel)
  | 2, _ => List.mem_of_getElem? (i := 181) (by decide +kernel)
  | 3, _ => List.mem_of_getElem? (i := 182) (by decide +kernel)
  | 4, _ => List.mem_of_getElem? (i := 183) (by decide +kernel)
  | 5, _ => List.mem_of_getElem? (i := 184) (by decide +kernel)
  | j + 6, h => absurd (show j + 6 < 6 from h) (by omega)
theorem nr5_14 : ∀ j : Nat, j < strLen.getD 14 0 → Cond.eq (.elem (.field (tmS 14) "java/lang/String" "value" "[B") (.int (Int32.ofNat j))) (.int ((strByt.getD 14 []).getD j 0)) ∈ nrw
  | 0, _ => List.mem_of_getElem? (i := 189) (by decide +kernel)
  | 1, _ => List.mem_of_getElem? (i := 190) (by decide +kernel)
  | 2, _ => List.mem_of_getElem? (i := 191) (by decide +kernel)
  | 3, _ => List.mem_of_getElem? (i := 192) (by decide +kernel)
  | j + 4, h => absurd (show j + 4 < 4 from h) (by omega)
theorem nr5_15 : ∀ j : Nat, j < strLen.getD 15 0 → Cond.eq (.elem (.field (tmS 15) "java/lang/String" "value" "[B") (.int (Int32.ofNat j))) (.int ((strByt.getD 15 []).getD j 0)) ∈ nrw
  | 0, _ => List.mem_of_getElem? (i := 197) (by decide +kernel)
  | 1, _ => List.mem_of_getElem? (i := 198) (by decide +kernel)
  | 2, _ => List.mem_of_getElem? (i := 199) (by decide +kernel)
  | 3, _ => List.mem_of_getElem? (i := 200) (by decide +kernel)
  | j + 4, h => absurd (show j + 4 < 4 from h) (by omega)
theorem nr5_16 : ∀ j : Nat, j < strLen.getD 16 0 → Cond.eq (.elem (.field (tmS 16) "java/lang/String" "value" "[B") (.int (Int32.ofNat j))) (.int ((strByt.getD 16 []).getD j 0)) ∈ nrw
  | 0, _ => List.mem_of_getElem? (i := 205) (by decide +kernel)
  | 1, _ => List.mem_of_getElem? (i := 206) (by decide +kernel)
  | 2, _ => List.mem_of_getElem? (i := 207) (by decide +kernel)
  | 3, _ => List.mem_of_getElem? (i := 208) (by decide +kernel)
  | j + 4, h => absurd (show j + 4 < 4 from h) (by omega)
theorem nr5_17 : ∀ j : Nat, j < strLen.getD 17 0 → Cond.eq (.elem (.field (tmS 17) "java/lang/String" "value" "[B") (.int (Int32.ofNat j))) (.int ((strByt.getD 17 []).getD j 0)) ∈ nrw
  | 0, _ => List.mem_of_getElem? (i := 214) (by decide +kernel)
  | 1, _ => List.mem_of_getElem? (i := 215) (by decide +kernel)
  | 2, _ => List.mem_of_getElem? (i := 216) (by decide +kernel)
  | 3, _ => List.mem_of_getElem? (i := 217) (by decide +kernel)
  | 4, _ => List.mem_of_getElem? (i := 218) (by decide +kernel)
  | j + 5, h => absurd (show j + 5 < 5 from h) (by omega)
theorem nr5_18 : ∀ j : Nat, j < strLen.getD 18 0 → Cond.eq (.elem (.field (tmS 18) "java/lang/String" "value" "[B") (.int (Int32.ofNat j))) (.int ((strByt.getD 18 []).getD j 0)) ∈ nrw
  | 0, _ => List.mem_of_getElem? (i := 223) (by decide +kernel)
  | 1, _ => List.mem_of_getElem? (i := 224) (by decide +kernel)
  | 2, _ => List.mem_of_getElem? (i := 225) (by decide +kernel)
  | 3, _ => List.mem_of_getElem? (i := 226) (by decide +kernel)
  | 4, _ => List.mem_of_getElem? (i := 227) (by decide +kernel)
  | 5, _ => List.mem_of_getElem? (i := 228) (by decide +kernel)
  | 6, _ => List.mem_of_getElem? (i := 229) (by decide +kernel)
  | 7, _ => List.mem_of_getElem? (i := 230) (by decide +kernel)
  | 8, _ => List.mem_of_getElem? (i := 231) (by decide +kernel)
  | 9, _ => List.mem_of_getElem? (i := 232) (by decide +kernel)
  | 10, _ => List.mem_of_getElem? (i := 233) (by decide +kernel)
  | 11, _ => List.mem_of_getElem? (i := 234) (by decide +kernel)
  | 12, _ => List.mem_of_getElem? (i := 235) (by decide +kernel)
  | 13, _ => List.mem_of_getElem? (i := 236) (by decide +kernel)
  | j + 14, h => absurd (show j + 14 < 14 from h) (by omega)
theorem nr5_19 : ∀ j : Nat, j < strLen.getD 19 0 → Cond.eq (.elem (.field (tmS 19) "java/lang/String" "value" "[B") (.int (Int32.ofNat j))) (.int ((strByt.getD 19 []).getD j 0)) ∈ nrw
  | 0, _ => List.mem_of_getElem? (i := 241) (by decide +kernel)
  | 1, _ => List.mem_of_getElem? (i := 242) (by decide +kernel)
  | 2, _ => List.mem_of_getElem? (i := 243) (by decide +kernel)
  | 3, _ => List.mem_of_getElem? (i := 244) (by decide +kernel)
  | 4, _ => List.mem_of_getElem? (i := 245) (by decide +kernel)
  | 5, _ => List.mem_of_getElem? (i := 246) (by decide +kernel)
  | 6, _ => List.mem_of_getElem? (i := 247) (by decide +kernel)
  | 7, _ => List.mem_of_getElem? (i := 248) (by decide +kernel)
  | 8, _ => List.mem_of_getElem? (i := 249) (by decide +kernel)
  | j + 9, h => absurd (show j + 9 < 9 from h) (by omega)
theorem nr5_20 : ∀ j : Nat, j < strLen.getD 20 0 → Cond.eq (.elem (.field (tmS 20) "java/lang/String" "value" "[B") (.int (Int32.ofNat j))) (.int ((strByt.getD 20 []).getD j 0)) ∈ nrw
  | 0, _ => List.mem_of_getElem? (i := 254) (by decide +kernel)
  | 1, _ => List.mem_of_getElem? (i := 255) (by decide +kernel)
  | 2, _ => List.mem_of_getElem? (i := 256) (by decide +kernel)
  | 3, _ => List.mem_of_getElem? (i := 257) (by decide +kernel)
  | 4, _ => List.mem_of_getElem? (i := 258) (by decide +kernel)
  | 5, _ => List.mem_of_getElem? (i := 259) (by decide +kernel)
  | j + 6, h => absurd (show j + 6 < 6 from h) (by omega)
theorem nr5_21 : ∀ j : Nat, j < strLen.getD 21 0 → Cond.eq (.elem (.field (tmS 21) "java/lang/String" "value" "[B") (.int (Int32.ofNat j))) (.int ((strByt.getD 21 []).getD j 0)) ∈ nrw
  | 0, _ => List.mem_of_getElem? (i := 264) (by decide +kernel)
  | j + 1, h => absurd (show j + 1 < 1 from h) (by omega)
theorem nr5_22 : ∀ j : Nat, j < strLen.getD 22 0 → Cond.eq (.elem (.field (tmS 22) "java/lang/String" "value" "[B") (.int (Int32.ofNat j))) (.int ((strByt.getD 22 []).getD j 0)) ∈ nrw
  | 0, _ => List.mem_of_getElem? (i := 269) (by decide +kernel)
  | 1, _ => List.mem_of_getElem? (i := 270) (by decide +kernel)
  | 2, _ => List.mem_of_getElem? (i := 271) (by decide +kernel)
  | j + 3, h => absurd (show j + 3 < 3 from h) (by omega)
theorem nr5_23 : ∀ j : Nat, j < strLen.getD 23 0 → Cond.eq (.elem (.field (tmS 23) "java/lang/String" "value" "[B") (.int (Int32.ofNat j))) (.int ((strByt.getD 23 []).getD j 0)) ∈ nrw
  | 0, _ => List.mem_of_getElem? (i := 276) (by decide +kernel)
  | 1, _ => List.mem_of_getElem? (i := 277) (by decide +kernel)
  | 2, _ => List.mem_of_getElem? (i := 278) (by decide +kernel)
  | 3, _ => List.mem_of_getElem? (i := 279) (by decide +kernel)
  | 4, _ => List.mem_of_getElem? (i := 280) (by decide +kernel)
  | j + 5, h => absurd (show j + 5 < 5 from h) (by omega)
theorem nr5_24 : ∀ j : Nat, j < strLen.getD 24 0 → Cond.eq (.elem (.field (tmS 24) "java/lang/String" "value" "[B") (.int (Int32.ofNat j))) (.int ((strByt.getD 24 []).getD j 0)) ∈ nrw
  | 0, _ => List.mem_of_getElem? (i := 285) (by decide +kernel)
  | 1, _ => List.mem_of_getElem? (i := 286) (by decide +kernel)
  | 2, _ => List.mem_of_getElem? (i := 287) (by decide +kernel)
  | 3, _ => List.mem_of_getElem? (i := 288) (by decide +kernel)
  | j + 4, h => absurd (show j + 4 < 4 from h) (by omega)
theorem nr5_25 : ∀ j : Nat, j < strLen.getD 25 0 → Cond.eq (.elem (.field (tmS 25) "java/lang/String" "value" "[B") (.int (Int32.ofNat j))) (.int ((strByt.getD 25 []).getD j 0)) ∈ nrw
  | 0, _ => List.mem_of_getElem? (i := 294) (by decide +kernel)
  | 1, _ => List.mem_of_getElem? (i := 295) (by decide +kernel)
  | 2, _ => List.mem_of_getElem? (i := 296) (by decide +kernel)
  | 3, _ => List.mem_of_getElem? (i := 297) (by decide +kernel)
  | j + 4, h => absurd (show j + 4 < 4 from h) (by omega)
theorem nr5_26 : ∀ j : Nat, j < strLen.getD 26 0 → Cond.eq (.elem (.field (tmS 26) "java/lang/String" "value" "[B") (.int (Int32.ofNat j))) (.int ((strByt.getD 26 []).getD j 0)) ∈ nrw
  | 0, _ => List.mem_of_getElem? (i := 303) (by decide +kernel)
  | 1, _ => List.mem_of_getElem? (i := 304) (by decide +kernel)
  | 2, _ => List.mem_of_getElem? (i := 305) (by decide +kernel)
  | 3, _ => List.mem_of_getElem? (i := 306) (by decide +kernel)
  | 4, _ => List.mem_of_getElem? (i := 307) (by decide +kernel)
  | j + 5, h => absurd (show j + 5 < 5 from h) (by omega)
theorem nr5_27 : ∀ j : Nat, j < strLen.getD 27 0 → Cond.eq (.elem (.field (tmS 27) "java/lang/String" "value" "[B") (.int (Int32.ofNat j))) (.int ((strByt.getD 27 []).getD j 0)) ∈ nrw
  | 0, _ => List.mem_of_getElem? (i := 313) (by decide +kernel)
  | 1, _ => List.mem_of_getElem? (i := 314) (by decide +kernel)
  | 2, _ => List.mem_of_getElem? (i := 315) (by decide +kernel)
  | 3, _ => List.mem_of_getElem? (i := 316) (by decide +kernel)
  | 4, _ => List.mem_of_getElem? (i := 317) (by decide +kernel)
  | 5, _ => List.mem_of_getElem? (i := 318) (by decide +kernel)
  | j + 6, h => absurd (show j + 6 < 6 from h) (by omega)
theorem nr5_28 : ∀ j : Nat, j < strLen.getD 28 0 → Cond.eq (.elem (.field (tmS 28) "java/lang/String" "value" "[B") (.int (Int32.ofNat j))) (.int ((strByt.getD 28 []).getD j 0)) ∈ nrw
  | 0, _ => List.mem_of_getElem? (i := 324) (by decide +kernel)
  | 1, _ => List.mem_of_getElem? (i := 325) (by decide +kernel)
  | 2, _ => List.mem_of_getElem? (i := 326) (by decide +kernel)
  | 3, _ => List.mem_of_getElem? (i := 327) (by decide +kernel)
  | j + 4, h => absurd (show j + 4 < 4 from h) (by omega)
theorem nr5_29 : ∀ j : Nat, j < strLen.getD 29 0 → Cond.eq (.elem (.field (tmS 29) "java/lang/String" "value" "[B") (.int (Int32.ofNat j))) (.int ((strByt.getD 29 []).getD j 0)) ∈ nrw
  | 0, _ => List.mem_of_getElem? (i := 333) (by decide +kernel)
  | 1, _ => List.mem_of_getElem? (i := 334) (by decide +kernel)
  | 2, _ => List.mem_of_getElem? (i := 335) (by decide +kernel)
  | 3, _ => List.mem_of_getElem? (i := 336) (by decide +kernel)
  | j + 4, h => absurd (show j + 4 < 4 from h) (by omega)
theorem nr5_30 : ∀ j : Nat, j < strLen.getD 30 0 → Cond.eq (.elem (.field (tmS 30) "java/lang/String" "value" "[B") (.int (Int32.ofNat j))) (.int ((strByt.getD 30 []).getD j 0)) ∈ nrw
  | 0, _ => List.mem_of_getElem? (i := 342) (by decide +kernel)
  | 1, _ => List.mem_of_getElem? (i := 343) (by decide +kernel)
  | 2, _ => List.mem_of_getElem? (i := 344) (by decide +kernel)
  | 3, _ => List.mem_of_getElem? (i := 345) (by decide +kernel)
  | j + 4, h => absurd (show j + 4 < 4 from h) (by omega)
theorem nr5_31 : ∀ j : Nat, j < strLen.getD 31 0 → Cond.eq (.elem (.field (tmS 31) "java/lang/String" "value" "[B") (.int (Int32.ofNat j))) (.int ((strByt.getD 31 []).getD j 0)) ∈ nrw
  | 0, _ => List.mem_of_getElem? (i := 351) (by decide +kernel)
  | 1, _ => List.mem_of_getElem? (i := 352) (by decide +kernel)
  | 2, _ => List.mem_of_getElem? (i := 353) (by decide +kernel)
  | 3, _ => List.mem_of_getElem? (i := 354) (by decide +kernel)
  | j + 4, h => absurd (show j + 4 < 4 from h) (by omega)
theorem nr5_32 : ∀ j : Nat, j < strLen.getD 32 0 → Cond.eq (.elem (.field (tmS 32) "java/lang/String" "value" "[B") (.int (Int32.ofNat j))) (.int ((strByt.getD 32 []).getD j 0)) ∈ nrw
  | 0, _ => List.mem_of_getElem? (i := 360) (by decide +kernel)
  | 1, _ => List.mem_of_getElem? (i := 361) (by decide +kernel)
  | 2, _ => List.mem_of_getElem? (i := 362) (by decide +kernel)
  | 3, _ => List.mem_of_getElem? (i := 363) (by decide +kernel)
  | 4, _ => List.mem_of_getElem? (i := 364) (by decide +kernel)
  | j + 5, h => absurd (show j + 5 < 5 from h) (by omega)
theorem nr5_33 : ∀ j : Nat, j < strLen.getD 33 0 → Cond.eq (.elem (.field (tmS 33) "java/lang/String" "value" "[B") (.int (Int32.ofNat j))) (.int ((strByt.getD 33 []).getD j 0)) ∈ nrw
  | 0, _ => List.mem_of_getElem? (i := 370) (by decide +kernel)
  | 1, _ => List.mem_of_getElem? (i := 371) (by decide +kernel)
  | 2, _ => List.mem_of_getElem? (i := 372) (by decide +kernel)
  | 3, _ => List.mem_of_getElem? (i := 373) (by decide +kernel)
  | j + 4, h => absurd (show j + 4 < 4 from h) (by omega)
theorem nr5_34 : ∀ j : Nat, j < strLen.getD 34 0 → Cond.eq (.elem (.field (tmS 34) "java/lang/String" "value" "[B") (.int (Int32.ofNat j))) (.int ((strByt.getD 34 []).getD j 0)) ∈ nrw
  | 0, _ => List.mem_of_getElem? (i := 380) (by decide +kernel)
  | 1, _ => List.mem_of_getElem? (i := 381) (by decide +kernel)
  | 2, _ => List.mem_of_getElem? (i := 382) (by decide +kernel)
  | 3, _ => List.mem_of_getElem? (i := 383) (by decide +kernel)
  | 4, _ => List.mem_of_getElem? (i := 384) (by decide +kernel)
  | 5, _ => List.mem_of_getElem? (i := 385) (by decide +kernel)
  | j + 6, h => absurd (show j + 6 < 6 from h) (by omega)
theorem nr_5 : ∀ i : Nat, i < 35 → ∀ j : Nat, j < strLen.getD i 0 → Cond.eq (.elem (.field (tmS i) "java/lang/String" "value" "[B") (.int (Int32.ofNat j))) (.int ((strByt.getD i []).getD j 0)) ∈ nrw
  | 0, _ => nr5_0
  | 1, _ => nr5_1
  | 2, _ => nr5_2
  | 3, _ => nr5_3
  | 4, _ => nr5_4
  | 5, _ => nr5_5
  | 6, _ => nr5_6
  | 7, _ => nr5_7
  | 8, _ => nr5_8
  | 9, _ => nr5_9
  | 10, _ => nr5_10
  | 11, _ => nr5_11
  | 12, _ => nr5_12
  | 13, _ => nr5_13
  | 14, _ => nr5_14
  | 15, _ => nr5_15
  | 16, _ => nr5_16
  | 17, _ => nr5_17
  | 18, _ => nr5_18
  | 19, _ => nr5_19
  | 20, _ => nr5_20
  | 21, _ => nr5_21
  | 22, _ => nr5_22
  | 23, _ => nr5_23
  | 24, _ => nr5_24
  | 25, _ => nr5_25
  | 26, _ => nr5_26
  | 27, _ => nr5_27
  | 28, _ => nr5_28
  | 29, _ => nr5_29
  | 30, _ => nr5_30
  | 31, _ => nr5_31
  | 32, _ => nr5_32
  | 33, _ => nr5_33
  | 34, _ => nr5_34
  | i + 35, h => absurd h (by omega)
set_option maxRecDepth 100000 in
theorem nr_6 : ∀ i : Nat, i < 35 → Cond.stringRef (strTab.getD i ("", 0, "", 0)).1 (strTab.getD i ("", 0, "", 0)).2.1 (strTab.getD i ("", 0, "", 0)).2.2.1 ∈ tables_1 := by decide +kernel
set_option maxRecDepth 100000 in
theorem nr_7 : ∀ q ∈ nestTab, Cond.methodLinkNest q.1 q.2.1 q.2.2.1 q.2.2.2 ∈ tables_1 := by decide +kernel
set_option maxRecDepth 100000 in
theorem nr_8 : ∀ y ∈ exDecl, Cond.declares y ∈ tables_1 := by decide +kernel
set_option maxRecDepth 100000 in
theorem nr_9 : ∀ C ∈ aoTab, Cond.arrayOver (.object C) ∈ tables_1 := by decide +kernel
theorem nr_10 : ∀ i : Nat, i < 35 → (strTab.getD i ("", 0, "", 0)).2.2.2 = i := by decide +kernel
theorem nr_11 : ∀ i : Nat, i < 35 → strLen.getD i 0 < 2 ^ 31 := by decide +kernel
theorem nr_12 : Cond.castable "java/util/NoSuchElementException" "java/util/NoSuchElementException" ∈ tables_1 := by decide +kernel
theorem nr_13 : Cond.castable "java/lang/IllegalArgumentException" "java/lang/IllegalArgumentException" ∈ tables_1 := by decide +kernel
theorem nr_14 : Cond.not (.castable "java/lang/IllegalArgumentException" "java/util/NoSuchElementException") ∈ nrw := by decide +kernel
theorem nr_15 : Cond.isRef (.static Bundle.tN "UNASSIGNED_STACK" Bundle.steD) ∈ nrw := by decide +kernel
theorem nr_16 : Cond.isRef (.static Bundle.tN "SUPPRESSED_SENTINEL" Bundle.listD) ∈ nrw := by decide +kernel
theorem nr_17 : Cond.eq (.static "java/lang/String" "COMPACT_STRINGS" "Z") (.int 1) ∈ nrw := by decide +kernel
theorem nr_18 : Cond.isRef (.static "jdk/internal/util/Preconditions" "SIOOBE_FORMATTER" "Ljava/util/function/BiFunction;") ∈ nrw := by decide +kernel
theorem nr_19 : Cond.laysStatic Bundle.tN "UNASSIGNED_STACK" Bundle.steD ∈ tables_1 := by decide +kernel
theorem nr_20 : Cond.laysStatic Bundle.tN "SUPPRESSED_SENTINEL" Bundle.listD ∈ tables_1 := by decide +kernel
theorem nr_21 : Cond.laysStatic "java/lang/String" "COMPACT_STRINGS" "Z" ∈ tables_1 := by decide +kernel
theorem nr_22 : Cond.laysStatic "jdk/internal/util/Preconditions" "SIOOBE_FORMATTER" "Ljava/util/function/BiFunction;" ∈ tables_1 := by decide +kernel
theorem nr_23 : Cond.initialized Bundle.tN ∈ tables_1 := by decide +kernel
theorem nr_24 : Cond.initialized "java/lang/String" ∈ tables_1 := by decide +kernel
theorem nr_25 : Cond.initialized "jdk/internal/util/Preconditions" ∈ tables_1 := by decide +kernel
theorem nr_26 : Cond.arrayClass .int ∈ tables_1 := by decide +kernel
theorem nr_27 : Cond.arrayClass .long ∈ tables_1 := by decide +kernel
