/-! LEVEL 2: whole numbers -/
def w32 (z : Int) : Int32 := Int32.ofInt z
def w64 (z : Int) : Int64 := Int64.ofInt z
theorem w32_toInt (z : Int) (h1 : -2147483648 ≤ z) (h2 : z ≤ 2147483647) : (w32 z).toInt = z := Int32.toInt_ofInt_of_le h1 (by omega)
theorem w64_toInt (z : Int) (h1 : -9223372036854775808 ≤ z) (h2 : z ≤ 9223372036854775807) : (w64 z).toInt = z := Int64.toInt_ofInt_of_le h1 (by omega)
theorem w_of (x : Int32) : x = w32 x.toInt := (Int32.ofInt_toInt x).symm
theorem w_rg (x : Int32) : -2147483648 ≤ x.toInt ∧ x.toInt ≤ 2147483647 := ⟨Int32.le_toInt x, Int32.toInt_le x⟩
theorem w_ex (x : Int32) : ∃ z : Int, x = w32 z ∧ -2147483648 ≤ z ∧ z ≤ 2147483647 := ⟨x.toInt, w_of x, w_rg x⟩
theorem w_add (a b : Int) : w32 a + w32 b = w32 (a + b) := (Int32.ofInt_add a b).symm
theorem w_sub (a b : Int) : w32 a - w32 b = w32 (a - b) := (Int32.ofInt_sub a b).symm
theorem w_mul (a b : Int) : w32 a * w32 b = w32 (a * b) := (Int32.ofInt_mul a b).symm
theorem w_neg (a : Int) : - w32 a = w32 (-a) := (Int32.ofInt_neg a).symm
theorem v_add (a b : Int) : w64 a + w64 b = w64 (a + b) := (Int64.ofInt_add a b).symm
theorem v_sub (a b : Int) : w64 a - w64 b = w64 (a - b) := (Int64.ofInt_sub a b).symm
theorem v_mul (a b : Int) : w64 a * w64 b = w64 (a * b) := (Int64.ofInt_mul a b).symm
theorem v_neg (a : Int) : - w64 a = w64 (-a) := (Int64.ofInt_neg a).symm
theorem w_lt (a b : Int) (h1 : -2147483648 ≤ a) (h2 : a ≤ 2147483647) (h3 : -2147483648 ≤ b) (h4 : b ≤ 2147483647) : (w32 a < w32 b) = (a < b) := by
  rw [Int32.lt_iff_toInt_lt, w32_toInt a h1 h2, w32_toInt b h3 h4]
theorem w_le (a b : Int) (h1 : -2147483648 ≤ a) (h2 : a ≤ 2147483647) (h3 : -2147483648 ≤ b) (h4 : b ≤ 2147483647) : (w32 a ≤ w32 b) = (a ≤ b) := by
  rw [Int32.le_iff_toInt_le, w32_toInt a h1 h2, w32_toInt b h3 h4]
theorem w_eq (a b : Int) (h1 : -2147483648 ≤ a) (h2 : a ≤ 2147483647) (h3 : -2147483648 ≤ b) (h4 : b ≤ 2147483647) : (w32 a = w32 b) = (a = b) := by
  rw [← Int32.toInt_inj, w32_toInt a h1 h2, w32_toInt b h3 h4]
theorem w_cl (a : Int) (h1 : 0 ≤ a) (h2 : a ≤ 2147483647) : cl (w32 a) = a.toNat := by
  show (w32 a).toInt.toNat = _
  rw [w32_toInt a (by omega) h2]
theorem w_ib (a : Int) (n : Nat) (h1 : -2147483648 ≤ a) (h2 : a ≤ 2147483647) : (ib (w32 a) n = true) = (0 ≤ a ∧ a < n) := by
  unfold ib
  rw [decide_eq_true_eq]
  have e : (w32 a).toNatClampNeg = a.toNat := by show (w32 a).toInt.toNat = _; rw [w32_toInt a h1 h2]
  rw [e, Int32.lt_iff_toInt_lt, w32_toInt a h1 h2, show Int32.toInt 0 = 0 from by decide]
  apply propext
  omega
theorem w_div (a b : Int) (h1 : -2147483648 ≤ a) (h2 : a ≤ 2147483647) (h3 : 1 ≤ b) (h4 : b ≤ 2147483647) : w32 a / w32 b = w32 (a.tdiv b) := by
  have hq : -2147483648 ≤ a.tdiv b ∧ a.tdiv b ≤ 2147483647 := by
    have := Int.natAbs_tdiv_le_natAbs a b
    have h5 : a < 0 → a.tdiv b ≤ 0 := fun h => by
      rw [show a = -(-a) by omega, Int.neg_tdiv]
      have := Int.tdiv_nonneg (show 0 ≤ -a by omega) (show 0 ≤ b by omega)
      omega
    omega
  apply Int32.toInt_inj.mp
  rw [Int32.toInt_div_of_ne_right _ _ (by rw [Ne, ← Int32.toInt_inj, w32_toInt b (by omega) h4]; intro q; have : Int32.toInt (-1) = -1 := by decide
                                          omega), w32_toInt a h1 h2, w32_toInt b (by omega) h4, w32_toInt _ hq.1 hq.2]
theorem v_div (a b : Int) (h1 : -9223372036854775808 ≤ a) (h2 : a ≤ 9223372036854775807) (h3 : 1 ≤ b) (h4 : b ≤ 9223372036854775807) : w64 a / w64 b = w64 (a.tdiv b) := by
  have hq : -9223372036854775808 ≤ a.tdiv b ∧ a.tdiv b ≤ 9223372036854775807 := by
    have := Int.natAbs_tdiv_le_natAbs a b
    have h5 : a < 0 → a.tdiv b ≤ 0 := fun h => by
      rw [show a = -(-a) by omega, Int.neg_tdiv]
      have := Int.tdiv_nonneg (show 0 ≤ -a by omega) (show 0 ≤ b by omega)
      omega
    omega
  apply Int64.toInt_inj.mp
  rw [Int64.toInt_div_of_ne_right _ _ (by rw [Ne, ← Int64.toInt_inj, w64_toInt b (by omega) h4]; intro q; have : Int64.toInt (-1) = -1 := by decide
                                          omega), w64_toInt a h1 h2, w64_toInt b (by omega) h4, w64_toInt _ hq.1 hq.2]
theorem w_l (a : Int) (h1 : -2147483648 ≤ a) (h2 : a ≤ 2147483647) : (w32 a).toInt64 = w64 a := by
  apply Int64.toInt_inj.mp
  rw [Int32.toInt_toInt64, w32_toInt a h1 h2, w64_toInt a (by omega) (by omega)]
theorem v_i (a : Int) (h1 : -2147483648 ≤ a) (h2 : a ≤ 2147483647) : (w64 a).toInt32 = w32 a := by
  apply Int32.toInt_inj.mp
  rw [Int64.toInt_toInt32, w64_toInt a (by omega) (by omega), w32_toInt a h1 h2]
  exact Int.bmod_eq_of_le (by omega) (by omega)
theorem gd_t {α : Type} {p : Prop} [Decidable p] {k : Option α} (h : p) : gd p k = k := if_pos h
theorem bnd_s {α β : Type} (a : α) (k : α → Option β) : bnd (some a) k = k a := rfl
theorem wl_0 : (0 : Int32) = w32 0 := rfl
theorem wl_1 : (1 : Int32) = w32 1 := rfl
theorem wl_2 : (2 : Int32) = w32 2 := rfl
theorem wl_3 : (3 : Int32) = w32 3 := rfl
theorem wl_4 : (4 : Int32) = w32 4 := rfl
theorem wl_5 : (5 : Int32) = w32 5 := rfl
theorem wl_6 : (6 : Int32) = w32 6 := rfl
theorem wl_7 : (7 : Int32) = w32 7 := rfl
theorem wl_8 : (8 : Int32) = w32 8 := rfl
theorem wl_9 : (9 : Int32) = w32 9 := rfl
theorem wl_10 : (10 : Int32) = w32 10 := rfl
theorem wl_11 : (11 : Int32) = w32 11 := rfl
theorem wl_12 : (12 : Int32) = w32 12 := rfl
theorem wl_13 : (13 : Int32) = w32 13 := rfl
theorem wl_14 : (14 : Int32) = w32 14 := rfl
theorem wl_15 : (15 : Int32) = w32 15 := rfl
theorem wl_16 : (16 : Int32) = w32 16 := rfl
theorem wl_17 : (17 : Int32) = w32 17 := rfl
theorem wl_18 : (18 : Int32) = w32 18 := rfl
theorem wl_19 : (19 : Int32) = w32 19 := rfl
theorem wl_20 : (20 : Int32) = w32 20 := rfl
theorem wl_21 : (21 : Int32) = w32 21 := rfl
theorem wl_22 : (22 : Int32) = w32 22 := rfl
theorem wl_23 : (23 : Int32) = w32 23 := rfl
theorem wl_24 : (24 : Int32) = w32 24 := rfl
theorem wl_25 : (25 : Int32) = w32 25 := rfl
theorem wl_26 : (26 : Int32) = w32 26 := rfl
theorem wl_27 : (27 : Int32) = w32 27 := rfl
theorem wl_28 : (28 : Int32) = w32 28 := rfl
theorem wl_29 : (29 : Int32) = w32 29 := rfl
theorem wl_30 : (30 : Int32) = w32 30 := rfl
theorem wl_31 : (31 : Int32) = w32 31 := rfl
theorem wl_32 : (32 : Int32) = w32 32 := rfl
theorem wl_33 : (33 : Int32) = w32 33 := rfl
theorem wl_34 : (34 : Int32) = w32 34 := rfl
theorem wl_35 : (35 : Int32) = w32 35 := rfl
theorem wl_36 : (36 : Int32) = w32 36 := rfl
theorem wl_37 : (37 : Int32) = w32 37 := rfl
theorem wl_38 : (38 : Int32) = w32 38 := rfl
theorem wl_39 : (39 : Int32) = w32 39 := rfl
theorem wl_40 : (40 : Int32) = w32 40 := rfl
theorem wl_42 : (42 : Int32) = w32 42 := rfl
theorem wl_47 : (47 : Int32) = w32 47 := rfl
theorem wl_48 : (48 : Int32) = w32 48 := rfl
theorem wl_49 : (49 : Int32) = w32 49 := rfl
theorem wl_50 : (50 : Int32) = w32 50 := rfl
theorem wl_51 : (51 : Int32) = w32 51 := rfl
theorem wl_52 : (52 : Int32) = w32 52 := rfl
theorem wl_54 : (54 : Int32) = w32 54 := rfl
theorem wl_55 : (55 : Int32) = w32 55 := rfl
theorem wl_57 : (57 : Int32) = w32 57 := rfl
theorem wl_59 : (59 : Int32) = w32 59 := rfl
theorem wl_60 : (60 : Int32) = w32 60 := rfl
theorem wl_63 : (63 : Int32) = w32 63 := rfl
theorem wl_64 : (64 : Int32) = w32 64 := rfl
theorem wl_66 : (66 : Int32) = w32 66 := rfl
theorem wl_72 : (72 : Int32) = w32 72 := rfl
theorem wl_84 : (84 : Int32) = w32 84 := rfl
theorem wl_90 : (90 : Int32) = w32 90 := rfl
theorem wl_97 : (97 : Int32) = w32 97 := rfl
theorem wl_99 : (99 : Int32) = w32 99 := rfl
theorem wl_100 : (100 : Int32) = w32 100 := rfl
theorem wl_122 : (122 : Int32) = w32 122 := rfl
theorem wl_193 : (193 : Int32) = w32 193 := rfl
theorem wl_194 : (194 : Int32) = w32 194 := rfl
theorem wl_195 : (195 : Int32) = w32 195 := rfl
theorem wl_196 : (196 : Int32) = w32 196 := rfl
theorem wl_197 : (197 : Int32) = w32 197 := rfl
theorem wl_198 : (198 : Int32) = w32 198 := rfl
theorem wl_199 : (199 : Int32) = w32 199 := rfl
theorem wl_200 : (200 : Int32) = w32 200 := rfl
theorem wl_201 : (201 : Int32) = w32 201 := rfl
theorem wl_202 : (202 : Int32) = w32 202 := rfl
theorem wl_203 : (203 : Int32) = w32 203 := rfl
theorem wl_204 : (204 : Int32) = w32 204 := rfl
theorem wl_205 : (205 : Int32) = w32 205 := rfl
theorem wl_206 : (206 : Int32) = w32 206 := rfl
theorem wl_207 : (207 : Int32) = w32 207 := rfl
theorem wl_208 : (208 : Int32) = w32 208 := rfl
theorem wl_209 : (209 : Int32) = w32 209 := rfl
theorem wl_210 : (210 : Int32) = w32 210 := rfl
theorem wl_211 : (211 : Int32) = w32 211 := rfl
theorem wl_212 : (212 : Int32) = w32 212 := rfl
theorem wl_213 : (213 : Int32) = w32 213 := rfl
theorem wl_214 : (214 : Int32) = w32 214 := rfl
theorem wl_215 : (215 : Int32) = w32 215 := rfl
theorem wl_216 : (216 : Int32) = w32 216 := rfl
theorem wl_217 : (217 : Int32) = w32 217 := rfl
theorem wl_218 : (218 : Int32) = w32 218 := rfl
theorem wl_219 : (219 : Int32) = w32 219 := rfl
theorem wl_220 : (220 : Int32) = w32 220 := rfl
theorem wl_221 : (221 : Int32) = w32 221 := rfl
theorem wl_222 : (222 : Int32) = w32 222 := rfl
theorem wl_223 : (223 : Int32) = w32 223 := rfl
theorem wl_224 : (224 : Int32) = w32 224 := rfl
theorem wl_225 : (225 : Int32) = w32 225 := rfl
theorem wl_226 : (226 : Int32) = w32 226 := rfl
theorem wl_227 : (227 : Int32) = w32 227 := rfl
theorem wl_228 : (228 : Int32) = w32 228 := rfl
theorem wl_229 : (229 : Int32) = w32 229 := rfl
theorem wl_230 : (230 : Int32) = w32 230 := rfl
theorem wl_231 : (231 : Int32) = w32 231 := rfl
theorem wl_232 : (232 : Int32) = w32 232 := rfl
theorem wl_233 : (233 : Int32) = w32 233 := rfl
theorem wl_234 : (234 : Int32) = w32 234 := rfl
theorem wl_235 : (235 : Int32) = w32 235 := rfl
theorem wl_236 : (236 : Int32) = w32 236 := rfl
theorem wl_240 : (240 : Int32) = w32 240 := rfl
theorem wl_255 : (255 : Int32) = w32 255 := rfl
theorem wl_320 : (320 : Int32) = w32 320 := rfl
theorem wl_380 : (380 : Int32) = w32 380 := rfl
theorem wl_381 : (381 : Int32) = w32 381 := rfl
theorem wl_500 : (500 : Int32) = w32 500 := rfl
theorem wl_800 : (800 : Int32) = w32 800 := rfl
theorem wl_999 : (999 : Int32) = w32 999 := rfl
theorem wl_1000 : (1000 : Int32) = w32 1000 := rfl
theorem wl_9999 : (9999 : Int32) = w32 9999 := rfl
theorem wl_12345 : (12345 : Int32) = w32 12345 := rfl
theorem wl_32767 : (32767 : Int32) = w32 32767 := rfl
theorem wl_100000 : (100000 : Int32) = w32 100000 := rfl
theorem wl_999999 : (999999 : Int32) = w32 999999 := rfl
theorem wl_1000000 : (1000000 : Int32) = w32 1000000 := rfl
theorem wl_1103515245 : (1103515245 : Int32) = w32 1103515245 := rfl
theorem wl_2147483647 : (2147483647 : Int32) = w32 2147483647 := rfl
theorem vl_0 : (0 : Int64) = w64 0 := rfl
theorem vl_1 : (1 : Int64) = w64 1 := rfl
theorem vl_2 : (2 : Int64) = w64 2 := rfl
theorem vl_100 : (100 : Int64) = w64 100 := rfl
theorem vl_1000 : (1000 : Int64) = w64 1000 := rfl
theorem vl_1000000 : (1000000 : Int64) = w64 1000000 := rfl
theorem w_divP (a b : Int) (h1 : 0 ≤ a) (h2 : a ≤ 2147483647) (h3 : 1 ≤ b) (h4 : b ≤ 2147483647) : w32 a / w32 b = w32 (a / b) := by
  rw [w_div a b (by omega) h2 h3 h4, Int.tdiv_eq_ediv_of_nonneg h1]
theorem v_divP (a b : Int) (h1 : 0 ≤ a) (h2 : a ≤ 9223372036854775807) (h3 : 1 ≤ b) (h4 : b ≤ 9223372036854775807) : w64 a / w64 b = w64 (a / b) := by
  rw [v_div a b (by omega) h2 h3 h4, Int.tdiv_eq_ediv_of_nonneg h1]
theorem sw {a b : Int} (h : a = b) : some (w32 a) = some (w32 b) := by rw [h]
theorem ww {a b : Int} (h : a = b) : w32 a = w32 b := by rw [h]
theorem sv {a b : Int} (h : a = b) : some (w64 a) = some (w64 b) := by rw [h]
theorem e_isIn (a b c : Int) (h1 : -2147483648 ≤ a) (h2 : a ≤ 2147483647) (h3 : -2147483648 ≤ b) (h4 : b ≤ 2147483647) (h5 : -2147483648 ≤ c) (h6 : c ≤ 2147483647) : f_X12_isIn (w32 a) (w32 b) (w32 c) = decide (b ≤ a ∧ a ≤ c) := by
  unfold f_X12_isIn
  simp (disch := omega) only [w_lt]
  split
  · simp; omega
  · split
    · simp; omega
    · simp; omega
theorem e_at (b l : Nat) : f_X12_at (w32 b) (w32 l) = w32 ((40 * b + l : Nat) : Int) := by
  unfold f_X12_at
  simp only [wl_40, w_mul, w_add]
  congr 1
theorem w_clN (n : Nat) (h : n ≤ 2147483647) : cl (w32 n) = n := by
  rw [w_cl _ (by omega) (by omega)]
  omega
theorem w_ibN (n m : Nat) (h : n ≤ 2147483647) : (ib (w32 n) m = true) = (n < m) := by
  rw [w_ib _ _ (by omega) (by omega)]
  apply propext
  omega
theorem e_max (a b : Int) (h1 : -2147483648 ≤ a) (h2 : a ≤ 2147483647) (h3 : -2147483648 ≤ b) (h4 : b ≤ 2147483647) : f_J9_max_7cf53 (w32 a) (w32 b) = w32 (max a b) := by
  unfold f_J9_max_7cf53
  simp (disch := omega) only [w_lt]
  split <;> exact ww (by omega)
theorem e_min (a b : Int) (h1 : -2147483648 ≤ a) (h2 : a ≤ 2147483647) (h3 : -2147483648 ≤ b) (h4 : b ≤ 2147483647) : f_J9_min_7cf53 (w32 a) (w32 b) = w32 (min a b) := by
  unfold f_J9_min_7cf53
  simp (disch := omega) only [w_lt]
  split <;> exact ww (by omega)
