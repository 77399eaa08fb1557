def f_X12_copyBook_l62 (v1 : Int32) (v2 : Int32) : Nat → Int32 → AH → Option (AH)
  | 0, _, _ => none
  | n + 1, v3, h => if 40 ≤ v3 then some h else gd (ib (f_X12_at v1 v3) 320 = true) (gd (ib (f_X12_at v2 v3) 320 = true) (lt (sia h 202 (cl (f_X12_at v2 v3)) (hia h 202 (cl (f_X12_at v1 v3)))) (fun h19 => gd (ib (f_X12_at v1 v3) 320 = true) (gd (ib (f_X12_at v2 v3) 320 = true) (lt (sia h19 203 (cl (f_X12_at v2 v3)) (hia h19 203 (cl (f_X12_at v1 v3)))) (fun h22 => gd (ib (f_X12_at v1 v3) 320 = true) (gd (ib (f_X12_at v2 v3) 320 = true) (lt (sia h22 204 (cl (f_X12_at v2 v3)) (hia h22 204 (cl (f_X12_at v1 v3)))) (fun h25 => gd (ib (f_X12_at v1 v3) 320 = true) (gd (ib (f_X12_at v2 v3) 320 = true) (lt (sia h25 205 (cl (f_X12_at v2 v3)) (hia h25 205 (cl (f_X12_at v1 v3)))) (fun h28 => gd (ib (f_X12_at v1 v3) 320 = true) (gd (ib (f_X12_at v2 v3) 320 = true) (lt (sia h28 206 (cl (f_X12_at v2 v3)) (hia h28 206 (cl (f_X12_at v1 v3)))) (fun h31 => gd (ib (f_X12_at v1 v3) 320 = true) (gd (ib (f_X12_at v2 v3) 320 = true) (lt (sia h31 207 (cl (f_X12_at v2 v3)) (hia h31 207 (cl (f_X12_at v1 v3)))) (fun h34 => gd (ib (f_X12_at v2 v3) 320 = true) (lt (sia h34 208 (cl (f_X12_at v2 v3)) (-1)) (fun h36 => f_X12_copyBook_l62 v1 v2 n (v3 + 1) h36))))))))))))))))))))
def f_X12_copyBook_l207 (v1 : Int32) (v2 : Int32) : Nat → Int32 → AH → Option (AH)
  | 0, _, _ => none
  | n + 1, v3, h => if 4 ≤ v3 then some h else gd (ib ((4 * v1) + v3) 32 = true) (gd (ib ((4 * v2) + v3) 32 = true) (lt (sia h 210 (cl ((4 * v2) + v3)) (hia h 210 (cl ((4 * v1) + v3)))) (fun h41 => gd (ib ((4 * v1) + v3) 32 = true) (gd (ib ((4 * v2) + v3) 32 = true) (lt (sia h41 211 (cl ((4 * v2) + v3)) (hia h41 211 (cl ((4 * v1) + v3)))) (fun h44 => f_X12_copyBook_l207 v1 v2 n (v3 + 1) h44))))))
def f_X12_copyBook_l260 (v1 : Int32) (v2 : Int32) : Nat → Int32 → AH → Option (AH)
  | 0, _, _ => none
  | n + 1, v3, h => if 8 ≤ v3 then some h else gd (ib ((8 * v1) + v3) 64 = true) (gd (ib ((8 * v2) + v3) 64 = true) (lt (sia h 212 (cl ((8 * v2) + v3)) (hia h 212 (cl ((8 * v1) + v3)))) (fun h49 => gd (ib ((8 * v1) + v3) 64 = true) (gd (ib ((8 * v2) + v3) 64 = true) (lt (sia h49 213 (cl ((8 * v2) + v3)) (hia h49 213 (cl ((8 * v1) + v3)))) (fun h52 => gd (ib ((8 * v1) + v3) 64 = true) (gd (ib ((8 * v2) + v3) 64 = true) (lt (sia h52 214 (cl ((8 * v2) + v3)) (hia h52 214 (cl ((8 * v1) + v3)))) (fun h55 => f_X12_copyBook_l260 v1 v2 n (v3 + 1) h55)))))))))
def f_X12_copyBook (v1 : Int32) (v2 : Int32) (h : AH) : Option (AH) := gd (ib v1 8 = true) (gd (ib v2 8 = true) (lt (sia h 196 (cl v2) (hia h 196 (cl v1))) (fun h3 => gd (ib v1 8 = true) (gd (ib v2 8 = true) (lt (sia h3 197 (cl v2) (hia h3 197 (cl v1))) (fun h6 => gd (ib v1 8 = true) (gd (ib v2 8 = true) (lt (sia h6 198 (cl v2) (hia h6 198 (cl v1))) (fun h9 => gd (ib v1 8 = true) (gd (ib v2 8 = true) (lt (sia h9 199 (cl v2) (hia h9 199 (cl v1))) (fun h12 => gd (ib v1 8 = true) (gd (ib v2 8 = true) (lt (sia h12 200 (cl v2) (hia h12 200 (cl v1))) (fun h15 => bnd (f_X12_copyBook_l62 v1 v2 FU 0 h15) (fun q37 => bnd (f_X12_copyBook_l207 v1 v2 FU 0 q37) (fun q45 => bnd (f_X12_copyBook_l260 v1 v2 FU 0 q45) (fun q56 => some q56))))))))))))))))))
set_option maxRecDepth 20000 in
theorem cl_X12_copyBook_62 (G : GG) (K : KQ) (v1 : Int32) (v2 : Int32)  : ∀ (n : Nat) (v3 : Int32) (h : AH) (r : AH), f_X12_copyBook_l62 v1 v2 n v3 h = some r → J G mX12_copyBook 2 0 0 K 205 [(0, .ref (ad G 193)), (1, .int v1), (2, .int v2)] [] r → J G mX12_copyBook 2 0 0 K 62 [(0, .ref (ad G 193)), (1, .int v1), (2, .int v2), (3, .int v3)] [] h := by
  intro n
  induction n with
  | zero => intro v3 h r hL; cases hL
  | succ n ih =>
    intro v3 h r hL kE
    unfold f_X12_copyBook_l62 at hL
    refine j_iload_n 3 dX12_copyBook_62 rfl ?_
    refine j_bipush 40 dX12_copyBook_63 (by decide) ?_
    refine j_icmp_ge 205 dX12_copyBook_65 (by decide) (fun z16 => ?_) (fun z16 => ?_)
    · replace hL := (if_pos z16).symm.trans hL
      cases hL
      refine j_sub [0, 1, 2] rfl ?_
      exact kE 
    · replace hL := (if_neg z16).symm.trans hL
      refine j_aload_n 0 dX12_copyBook_68 rfl ?_
      refine jg_RX12_50 rfl sh_193 dX12_copyBook_69 ?_
      refine j_iload_n 2 dX12_copyBook_72 rfl ?_
      refine j_iload_n 3 dX12_copyBook_73 rfl ?_
      refine j_callSi (c_X12_at G v2 v3 h) cv_RX12_244 rfl (by decide) rfl rfl (Nat.le_of_ble_eq_true rfl) dX12_copyBook_74 (by decide) ?_
      refine j_aload_n 0 dX12_copyBook_77 rfl ?_
      refine jg_RX12_50 rfl sh_193 dX12_copyBook_78 ?_
      refine j_iload_n 1 dX12_copyBook_81 rfl ?_
      refine j_iload_n 3 dX12_copyBook_82 rfl ?_
      refine j_callSi (c_X12_at G v1 v3 h) cv_RX12_244 rfl (by decide) rfl rfl (Nat.le_of_ble_eq_true rfl) dX12_copyBook_83 (by decide) ?_
      obtain ⟨g17, hL⟩ := gd_ex hL
      refine j_iald (shf_12_9 sh_193) (ib_in g17) dX12_copyBook_86 ?_
      obtain ⟨g18, hL⟩ := gd_ex hL
      refine j_iast (shf_12_9 sh_193) (ib_in g18) dX12_copyBook_87 ?_
      obtain ⟨h19, eh19, hL⟩ := lt_ex hL
      refine j_heap eh19 ?_
      refine j_aload_n 0 dX12_copyBook_88 rfl ?_
      refine jg_RX12_53 rfl sh_193 dX12_copyBook_89 ?_
      refine j_iload_n 2 dX12_copyBook_92 rfl ?_
      refine j_iload_n 3 dX12_copyBook_93 rfl ?_
      refine j_callSi (c_X12_at G v2 v3 h19) cv_RX12_244 rfl (by decide) rfl rfl (Nat.le_of_ble_eq_true rfl) dX12_copyBook_94 (by decide) ?_
      refine j_aload_n 0 dX12_copyBook_97 rfl ?_
      refine jg_RX12_53 rfl sh_193 dX12_copyBook_98 ?_
      refine j_iload_n 1 dX12_copyBook_101 rfl ?_
      refine j_iload_n 3 dX12_copyBook_102 rfl ?_
      refine j_callSi (c_X12_at G v1 v3 h19) cv_RX12_244 rfl (by decide) rfl rfl (Nat.le_of_ble_eq_true rfl) dX12_copyBook_103 (by decide) ?_
      obtain ⟨g20, hL⟩ := gd_ex hL
      refine j_iald (shf_12_10 sh_193) (ib_in g20) dX12_copyBook_106 ?_
      obtain ⟨g21, hL⟩ := gd_ex hL
      refine j_iast (shf_12_10 sh_193) (ib_in g21) dX12_copyBook_107 ?_
      obtain ⟨h22, eh22, hL⟩ := lt_ex hL
      refine j_heap eh22 ?_
      refine j_aload_n 0 dX12_copyBook_108 rfl ?_
      refine jg_RX12_55 rfl sh_193 dX12_copyBook_109 ?_
      refine j_iload_n 2 dX12_copyBook_112 rfl ?_
      refine j_iload_n 3 dX12_copyBook_113 rfl ?_
      refine j_callSi (c_X12_at G v2 v3 h22) cv_RX12_244 rfl (by decide) rfl rfl (Nat.le_of_ble_eq_true rfl) dX12_copyBook_114 (by decide) ?_
      refine j_aload_n 0 dX12_copyBook_117 rfl ?_
      refine jg_RX12_55 rfl sh_193 dX12_copyBook_118 ?_
      refine j_iload_n 1 dX12_copyBook_121 rfl ?_
      refine j_iload_n 3 dX12_copyBook_122 rfl ?_
      refine j_callSi (c_X12_at G v1 v3 h22) cv_RX12_244 rfl (by decide) rfl rfl (Nat.le_of_ble_eq_true rfl) dX12_copyBook_123 (by decide) ?_
      obtain ⟨g23, hL⟩ := gd_ex hL
      refine j_iald (shf_12_11 sh_193) (ib_in g23) dX12_copyBook_126 ?_
      obtain ⟨g24, hL⟩ := gd_ex hL
      refine j_iast (shf_12_11 sh_193) (ib_in g24) dX12_copyBook_127 ?_
      obtain ⟨h25, eh25, hL⟩ := lt_ex hL
      refine j_heap eh25 ?_
      refine j_aload_n 0 dX12_copyBook_128 rfl ?_
      refine jg_RX12_58 rfl sh_193 dX12_copyBook_129 ?_
      refine j_iload_n 2 dX12_copyBook_132 rfl ?_
      refine j_iload_n 3 dX12_copyBook_133 rfl ?_
      refine j_callSi (c_X12_at G v2 v3 h25) cv_RX12_244 rfl (by decide) rfl rfl (Nat.le_of_ble_eq_true rfl) dX12_copyBook_134 (by decide) ?_
      refine j_aload_n 0 dX12_copyBook_137 rfl ?_
      refine jg_RX12_58 rfl sh_193 dX12_copyBook_138 ?_
      refine j_iload_n 1 dX12_copyBook_141 rfl ?_
      refine j_iload_n 3 dX12_copyBook_142 rfl ?_
      refine j_callSi (c_X12_at G v1 v3 h25) cv_RX12_244 rfl (by decide) rfl rfl (Nat.le_of_ble_eq_true rfl) dX12_copyBook_143 (by decide) ?_
      obtain ⟨g26, hL⟩ := gd_ex hL
      refine j_iald (shf_12_12 sh_193) (ib_in g26) dX12_copyBook_146 ?_
      obtain ⟨g27, hL⟩ := gd_ex hL
      refine j_iast (shf_12_12 sh_193) (ib_in g27) dX12_copyBook_147 ?_
      obtain ⟨h28, eh28, hL⟩ := lt_ex hL
      refine j_heap eh28 ?_
      refine j_aload_n 0 dX12_copyBook_148 rfl ?_
      refine jg_RX12_61 rfl sh_193 dX12_copyBook_149 ?_
      refine j_iload_n 2 dX12_copyBook_152 rfl ?_
      refine j_iload_n 3 dX12_copyBook_153 rfl ?_
      refine j_callSi (c_X12_at G v2 v3 h28) cv_RX12_244 rfl (by decide) rfl rfl (Nat.le_of_ble_eq_true rfl) dX12_copyBook_154 (by decide) ?_
      refine j_aload_n 0 dX12_copyBook_157 rfl ?_
      refine jg_RX12_61 rfl sh_193 dX12_copyBook_158 ?_
      refine j_iload_n 1 dX12_copyBook_161 rfl ?_
      refine j_iload_n 3 dX12_copyBook_162 rfl ?_
      refine j_callSi (c_X12_at G v1 v3 h28) cv_RX12_244 rfl (by decide) rfl rfl (Nat.le_of_ble_eq_true rfl) dX12_copyBook_163 (by decide) ?_
      obtain ⟨g29, hL⟩ := gd_ex hL
      refine j_iald (shf_12_13 sh_193) (ib_in g29) dX12_copyBook_166 ?_
      obtain ⟨g30, hL⟩ := gd_ex hL
      refine j_iast (shf_12_13 sh_193) (ib_in g30) dX12_copyBook_167 ?_
      obtain ⟨h31, eh31, hL⟩ := lt_ex hL
      refine j_heap eh31 ?_
      refine j_aload_n 0 dX12_copyBook_168 rfl ?_
      refine jg_RX12_64 rfl sh_193 dX12_copyBook_169 ?_
      refine j_iload_n 2 dX12_copyBook_172 rfl ?_
      refine j_iload_n 3 dX12_copyBook_173 rfl ?_
      refine j_callSi (c_X12_at G v2 v3 h31) cv_RX12_244 rfl (by decide) rfl rfl (Nat.le_of_ble_eq_true rfl) dX12_copyBook_174 (by decide) ?_
      refine j_aload_n 0 dX12_copyBook_177 rfl ?_
      refine jg_RX12_64 rfl sh_193 dX12_copyBook_178 ?_
      refine j_iload_n 1 dX12_copyBook_181 rfl ?_
      refine j_iload_n 3 dX12_copyBook_182 rfl ?_
      refine j_callSi (c_X12_at G v1 v3 h31) cv_RX12_244 rfl (by decide) rfl rfl (Nat.le_of_ble_eq_true rfl) dX12_copyBook_183 (by decide) ?_
      obtain ⟨g32, hL⟩ := gd_ex hL
      refine j_iald (shf_12_14 sh_193) (ib_in g32) dX12_copyBook_186 ?_
      obtain ⟨g33, hL⟩ := gd_ex hL
      refine j_iast (shf_12_14 sh_193) (ib_in g33) dX12_copyBook_187 ?_
      obtain ⟨h34, eh34, hL⟩ := lt_ex hL
      refine j_heap eh34 ?_
      refine j_aload_n 0 dX12_copyBook_188 rfl ?_
      refine jg_RX12_66 rfl sh_193 dX12_copyBook_189 ?_
      refine j_iload_n 2 dX12_copyBook_192 rfl ?_
      refine j_iload_n 3 dX12_copyBook_193 rfl ?_
      refine j_callSi (c_X12_at G v2 v3 h34) cv_RX12_244 rfl (by decide) rfl rfl (Nat.le_of_ble_eq_true rfl) dX12_copyBook_194 (by decide) ?_
      refine j_iconst (-1) dX12_copyBook_197 (by decide) ?_
      obtain ⟨g35, hL⟩ := gd_ex hL
      refine j_iast (shf_12_15 sh_193) (ib_in g35) dX12_copyBook_198 ?_
      obtain ⟨h36, eh36, hL⟩ := lt_ex hL
      refine j_heap eh36 ?_
      refine j_iinc (lv' := [(3, .int (v3 + 1)), (0, .ref (ad G 193)), (1, .int v1), (2, .int v2)]) 3 dX12_copyBook_199 rfl rfl (by decide) rfl ?_
      refine j_goto 62 dX12_copyBook_202 (by decide) ?_
      refine j_sub [1, 2, 3, 0] rfl ?_
      exact ih (v3 + 1) h36 r hL kE

set_option maxRecDepth 20000 in
theorem cl_X12_copyBook_207 (G : GG) (K : KQ) (v1 : Int32) (v2 : Int32)  : ∀ (n : Nat) (v3 : Int32) (h : AH) (r : AH), f_X12_copyBook_l207 v1 v2 n v3 h = some r → J G mX12_copyBook 2 0 0 K 258 [(0, .ref (ad G 193)), (1, .int v1), (2, .int v2)] [] r → J G mX12_copyBook 2 0 0 K 207 [(0, .ref (ad G 193)), (1, .int v1), (2, .int v2), (3, .int v3)] [] h := by
  intro n
  induction n with
  | zero => intro v3 h r hL; cases hL
  | succ n ih =>
    intro v3 h r hL kE
    unfold f_X12_copyBook_l207 at hL
    refine j_iload_n 3 dX12_copyBook_207 rfl ?_
    refine j_iconst 4 dX12_copyBook_208 (by decide) ?_
    refine j_icmp_ge 258 dX12_copyBook_209 (by decide) (fun z38 => ?_) (fun z38 => ?_)
    · replace hL := (if_pos z38).symm.trans hL
      cases hL
      refine j_sub [0, 1, 2] rfl ?_
      exact kE 
    · replace hL := (if_neg z38).symm.trans hL
      refine j_aload_n 0 dX12_copyBook_212 rfl ?_
      refine jg_RX12_72 rfl sh_193 dX12_copyBook_213 ?_
      refine j_iconst 4 dX12_copyBook_216 (by decide) ?_
      refine j_iload_n 2 dX12_copyBook_217 rfl ?_
      refine j_imul dX12_copyBook_218 ?_
      refine j_iload_n 3 dX12_copyBook_219 rfl ?_
      refine j_iadd dX12_copyBook_220 ?_
      refine j_aload_n 0 dX12_copyBook_221 rfl ?_
      refine jg_RX12_72 rfl sh_193 dX12_copyBook_222 ?_
      refine j_iconst 4 dX12_copyBook_225 (by decide) ?_
      refine j_iload_n 1 dX12_copyBook_226 rfl ?_
      refine j_imul dX12_copyBook_227 ?_
      refine j_iload_n 3 dX12_copyBook_228 rfl ?_
      refine j_iadd dX12_copyBook_229 ?_
      obtain ⟨g39, hL⟩ := gd_ex hL
      refine j_iald (shf_12_17 sh_193) (ib_in g39) dX12_copyBook_230 ?_
      obtain ⟨g40, hL⟩ := gd_ex hL
      refine j_iast (shf_12_17 sh_193) (ib_in g40) dX12_copyBook_231 ?_
      obtain ⟨h41, eh41, hL⟩ := lt_ex hL
      refine j_heap eh41 ?_
      refine j_aload_n 0 dX12_copyBook_232 rfl ?_
      refine jg_RX12_75 rfl sh_193 dX12_copyBook_233 ?_
      refine j_iconst 4 dX12_copyBook_236 (by decide) ?_
      refine j_iload_n 2 dX12_copyBook_237 rfl ?_
      refine j_imul dX12_copyBook_238 ?_
      refine j_iload_n 3 dX12_copyBook_239 rfl ?_
      refine j_iadd dX12_copyBook_240 ?_
      refine j_aload_n 0 dX12_copyBook_241 rfl ?_
      refine jg_RX12_75 rfl sh_193 dX12_copyBook_242 ?_
      refine j_iconst 4 dX12_copyBook_245 (by decide) ?_
      refine j_iload_n 1 dX12_copyBook_246 rfl ?_
      refine j_imul dX12_copyBook_247 ?_
      refine j_iload_n 3 dX12_copyBook_248 rfl ?_
      refine j_iadd dX12_copyBook_249 ?_
      obtain ⟨g42, hL⟩ := gd_ex hL
      refine j_iald (shf_12_18 sh_193) (ib_in g42) dX12_copyBook_250 ?_
      obtain ⟨g43, hL⟩ := gd_ex hL
      refine j_iast (shf_12_18 sh_193) (ib_in g43) dX12_copyBook_251 ?_
      obtain ⟨h44, eh44, hL⟩ := lt_ex hL
      refine j_heap eh44 ?_
      refine j_iinc (lv' := [(3, .int (v3 + 1)), (0, .ref (ad G 193)), (1, .int v1), (2, .int v2)]) 3 dX12_copyBook_252 rfl rfl (by decide) rfl ?_
      refine j_goto 207 dX12_copyBook_255 (by decide) ?_
      refine j_sub [1, 2, 3, 0] rfl ?_
      exact ih (v3 + 1) h44 r hL kE

set_option maxRecDepth 20000 in
theorem cl_X12_copyBook_260 (G : GG) (K : KQ) (v1 : Int32) (v2 : Int32)  : ∀ (n : Nat) (v3 : Int32) (h : AH) (r : AH), f_X12_copyBook_l260 v1 v2 n v3 h = some r → J G mX12_copyBook 2 0 0 K 338 [] [] r → J G mX12_copyBook 2 0 0 K 260 [(0, .ref (ad G 193)), (1, .int v1), (2, .int v2), (3, .int v3)] [] h := by
  intro n
  induction n with
  | zero => intro v3 h r hL; cases hL
  | succ n ih =>
    intro v3 h r hL kE
    unfold f_X12_copyBook_l260 at hL
    refine j_iload_n 3 dX12_copyBook_260 rfl ?_
    refine j_bipush 8 dX12_copyBook_261 (by decide) ?_
    refine j_icmp_ge 338 dX12_copyBook_263 (by decide) (fun z46 => ?_) (fun z46 => ?_)
    · replace hL := (if_pos z46).symm.trans hL
      cases hL
      refine j_sub [] rfl ?_
      exact kE 
    · replace hL := (if_neg z46).symm.trans hL
      refine j_aload_n 0 dX12_copyBook_266 rfl ?_
      refine jg_RX12_78 rfl sh_193 dX12_copyBook_267 ?_
      refine j_bipush 8 dX12_copyBook_270 (by decide) ?_
      refine j_iload_n 2 dX12_copyBook_272 rfl ?_
      refine j_imul dX12_copyBook_273 ?_
      refine j_iload_n 3 dX12_copyBook_274 rfl ?_
      refine j_iadd dX12_copyBook_275 ?_
      refine j_aload_n 0 dX12_copyBook_276 rfl ?_
      refine jg_RX12_78 rfl sh_193 dX12_copyBook_277 ?_
      refine j_bipush 8 dX12_copyBook_280 (by decide) ?_
      refine j_iload_n 1 dX12_copyBook_282 rfl ?_
      refine j_imul dX12_copyBook_283 ?_
      refine j_iload_n 3 dX12_copyBook_284 rfl ?_
      refine j_iadd dX12_copyBook_285 ?_
      obtain ⟨g47, hL⟩ := gd_ex hL
      refine j_iald (shf_12_19 sh_193) (ib_in g47) dX12_copyBook_286 ?_
      obtain ⟨g48, hL⟩ := gd_ex hL
      refine j_iast (shf_12_19 sh_193) (ib_in g48) dX12_copyBook_287 ?_
      obtain ⟨h49, eh49, hL⟩ := lt_ex hL
      refine j_heap eh49 ?_
      refine j_aload_n 0 dX12_copyBook_288 rfl ?_
      refine jg_RX12_81 rfl sh_193 dX12_copyBook_289 ?_
      refine j_bipush 8 dX12_copyBook_292 (by decide) ?_
      refine j_iload_n 2 dX12_copyBook_294 rfl ?_
      refine j_imul dX12_copyBook_295 ?_
      refine j_iload_n 3 dX12_copyBook_296 rfl ?_
      refine j_iadd dX12_copyBook_297 ?_
      refine j_aload_n 0 dX12_copyBook_298 rfl ?_
      refine jg_RX12_81 rfl sh_193 dX12_copyBook_299 ?_
      refine j_bipush 8 dX12_copyBook_302 (by decide) ?_
      refine j_iload_n 1 dX12_copyBook_304 rfl ?_
      refine j_imul dX12_copyBook_305 ?_
      refine j_iload_n 3 dX12_copyBook_306 rfl ?_
      refine j_iadd dX12_copyBook_307 ?_
      obtain ⟨g50, hL⟩ := gd_ex hL
      refine j_iald (shf_12_20 sh_193) (ib_in g50) dX12_copyBook_308 ?_
      obtain ⟨g51, hL⟩ := gd_ex hL
      refine j_iast (shf_12_20 sh_193) (ib_in g51) dX12_copyBook_309 ?_
      obtain ⟨h52, eh52, hL⟩ := lt_ex hL
      refine j_heap eh52 ?_
      refine j_aload_n 0 dX12_copyBook_310 rfl ?_
      refine jg_RX12_84 rfl sh_193 dX12_copyBook_311 ?_
      refine j_bipush 8 dX12_copyBook_314 (by decide) ?_
      refine j_iload_n 2 dX12_copyBook_316 rfl ?_
      refine j_imul dX12_copyBook_317 ?_
      refine j_iload_n 3 dX12_copyBook_318 rfl ?_
      refine j_iadd dX12_copyBook_319 ?_
      refine j_aload_n 0 dX12_copyBook_320 rfl ?_
      refine jg_RX12_84 rfl sh_193 dX12_copyBook_321 ?_
      refine j_bipush 8 dX12_copyBook_324 (by decide) ?_
      refine j_iload_n 1 dX12_copyBook_326 rfl ?_
      refine j_imul dX12_copyBook_327 ?_
      refine j_iload_n 3 dX12_copyBook_328 rfl ?_
      refine j_iadd dX12_copyBook_329 ?_
      obtain ⟨g53, hL⟩ := gd_ex hL
      refine j_iald (shf_12_21 sh_193) (ib_in g53) dX12_copyBook_330 ?_
      obtain ⟨g54, hL⟩ := gd_ex hL
      refine j_iast (shf_12_21 sh_193) (ib_in g54) dX12_copyBook_331 ?_
      obtain ⟨h55, eh55, hL⟩ := lt_ex hL
      refine j_heap eh55 ?_
      refine j_iinc (lv' := [(3, .int (v3 + 1)), (0, .ref (ad G 193)), (1, .int v1), (2, .int v2)]) 3 dX12_copyBook_332 rfl rfl (by decide) rfl ?_
      refine j_goto 260 dX12_copyBook_335 (by decide) ?_
      refine j_sub [1, 2, 3, 0] rfl ?_
      exact ih (v3 + 1) h55 r hL kE

set_option maxRecDepth 20000 in
theorem c_X12_copyBook (G : GG) (v1 : Int32) (v2 : Int32) (h : AH) (r : AH) (hL : f_X12_copyBook v1 v2 h = some r) : SpV G 2 mX12_copyBook [.ref (ad G 193), .int v1, .int v2] h r := by
  refine sp_v pf_X12_copyBook (Nat.le_of_ble_eq_true rfl) ?_
  show J G mX12_copyBook 2 0 0 (KMv G r) 0 [(0, .ref (ad G 193)), (1, .int v1), (2, .int v2)] [] h
  obtain ⟨K, hK⟩ : ∃ K, K = KMv G r := ⟨_, rfl⟩
  rw [← hK]
  unfold f_X12_copyBook at hL
  refine j_aload_n 0 dX12_copyBook_0 rfl ?_
  refine jg_RX12_32 rfl sh_193 dX12_copyBook_1 ?_
  refine j_iload_n 2 dX12_copyBook_4 rfl ?_
  refine j_aload_n 0 dX12_copyBook_5 rfl ?_
  refine jg_RX12_32 rfl sh_193 dX12_copyBook_6 ?_
  refine j_iload_n 1 dX12_copyBook_9 rfl ?_
  obtain ⟨g1, hL⟩ := gd_ex hL
  refine j_iald (shf_12_3 sh_193) (ib_in g1) dX12_copyBook_10 ?_
  obtain ⟨g2, hL⟩ := gd_ex hL
  refine j_iast (shf_12_3 sh_193) (ib_in g2) dX12_copyBook_11 ?_
  obtain ⟨h3, eh3, hL⟩ := lt_ex hL
  refine j_heap eh3 ?_
  refine j_aload_n 0 dX12_copyBook_12 rfl ?_
  refine jg_RX12_36 rfl sh_193 dX12_copyBook_13 ?_
  refine j_iload_n 2 dX12_copyBook_16 rfl ?_
  refine j_aload_n 0 dX12_copyBook_17 rfl ?_
  refine jg_RX12_36 rfl sh_193 dX12_copyBook_18 ?_
  refine j_iload_n 1 dX12_copyBook_21 rfl ?_
  obtain ⟨g4, hL⟩ := gd_ex hL
  refine j_iald (shf_12_4 sh_193) (ib_in g4) dX12_copyBook_22 ?_
  obtain ⟨g5, hL⟩ := gd_ex hL
  refine j_iast (shf_12_4 sh_193) (ib_in g5) dX12_copyBook_23 ?_
  obtain ⟨h6, eh6, hL⟩ := lt_ex hL
  refine j_heap eh6 ?_
  refine j_aload_n 0 dX12_copyBook_24 rfl ?_
  refine jg_RX12_39 rfl sh_193 dX12_copyBook_25 ?_
  refine j_iload_n 2 dX12_copyBook_28 rfl ?_
  refine j_aload_n 0 dX12_copyBook_29 rfl ?_
  refine jg_RX12_39 rfl sh_193 dX12_copyBook_30 ?_
  refine j_iload_n 1 dX12_copyBook_33 rfl ?_
  obtain ⟨g7, hL⟩ := gd_ex hL
  refine j_iald (shf_12_5 sh_193) (ib_in g7) dX12_copyBook_34 ?_
  obtain ⟨g8, hL⟩ := gd_ex hL
  refine j_iast (shf_12_5 sh_193) (ib_in g8) dX12_copyBook_35 ?_
  obtain ⟨h9, eh9, hL⟩ := lt_ex hL
  refine j_heap eh9 ?_
  refine j_aload_n 0 dX12_copyBook_36 rfl ?_
  refine jg_RX12_41 rfl sh_193 dX12_copyBook_37 ?_
  refine j_iload_n 2 dX12_copyBook_40 rfl ?_
  refine j_aload_n 0 dX12_copyBook_41 rfl ?_
  refine jg_RX12_41 rfl sh_193 dX12_copyBook_42 ?_
  refine j_iload_n 1 dX12_copyBook_45 rfl ?_
  obtain ⟨g10, hL⟩ := gd_ex hL
  refine j_iald (shf_12_6 sh_193) (ib_in g10) dX12_copyBook_46 ?_
  obtain ⟨g11, hL⟩ := gd_ex hL
  refine j_iast (shf_12_6 sh_193) (ib_in g11) dX12_copyBook_47 ?_
  obtain ⟨h12, eh12, hL⟩ := lt_ex hL
  refine j_heap eh12 ?_
  refine j_aload_n 0 dX12_copyBook_48 rfl ?_
  refine jg_RX12_44 rfl sh_193 dX12_copyBook_49 ?_
  refine j_iload_n 2 dX12_copyBook_52 rfl ?_
  refine j_aload_n 0 dX12_copyBook_53 rfl ?_
  refine jg_RX12_44 rfl sh_193 dX12_copyBook_54 ?_
  refine j_iload_n 1 dX12_copyBook_57 rfl ?_
  obtain ⟨g13, hL⟩ := gd_ex hL
  refine j_iald (shf_12_7 sh_193) (ib_in g13) dX12_copyBook_58 ?_
  obtain ⟨g14, hL⟩ := gd_ex hL
  refine j_iast (shf_12_7 sh_193) (ib_in g14) dX12_copyBook_59 ?_
  obtain ⟨h15, eh15, hL⟩ := lt_ex hL
  refine j_heap eh15 ?_
  refine j_iconst 0 dX12_copyBook_60 (by decide) ?_
  refine j_istore_n (lv' := [(3, .int 0), (0, .ref (ad G 193)), (1, .int v1), (2, .int v2)]) dX12_copyBook_61 (by decide) rfl ?_
  obtain ⟨q37, hq37, hL⟩ := bnd_ex hL
  refine j_sub [1, 2, 3, 0] rfl ?_
  refine cl_X12_copyBook_62 G K v1 v2 FU 0 h15 q37 hq37 ?_
  refine j_iconst 0 dX12_copyBook_205 (by decide) ?_
  refine j_istore_n (lv' := [(3, .int 0), (0, .ref (ad G 193)), (1, .int v1), (2, .int v2)]) dX12_copyBook_206 (by decide) rfl ?_
  obtain ⟨q45, hq45, hL⟩ := bnd_ex hL
  refine j_sub [1, 2, 3, 0] rfl ?_
  refine cl_X12_copyBook_207 G K v1 v2 FU 0 q37 q45 hq45 ?_
  refine j_iconst 0 dX12_copyBook_258 (by decide) ?_
  refine j_istore_n (lv' := [(3, .int 0), (0, .ref (ad G 193)), (1, .int v1), (2, .int v2)]) dX12_copyBook_259 (by decide) rfl ?_
  obtain ⟨q56, hq56, hL⟩ := bnd_ex hL
  refine j_sub [1, 2, 3, 0] rfl ?_
  refine cl_X12_copyBook_260 G K v1 v2 FU 0 q45 q56 hq56 ?_
  cases hL
  exact j_retv dX12_copyBook_338 rfl hK

def f_X12_book_l81  : Nat → AH → Option (AH)
  | 0, _ => none
  | n + 1, h => if (hfi h 193 34) = 0 then if (hfi h 193 30) = 0 then some h else bnd (f_X12_readLine h) (fun q19 => f_X12_book_l81 n  q19) else some h
def f_X12_book (v1 : Int32) (v2 : Int32) (h : AH) : Option (Int32 × AH) := lt (sfi h 193 2 0) (fun h1 => if (f_X12_isBook v1) = true then if v2 < 0 then bnd (f_X12_fail 2 h1) (fun q4 => some (q4.1, q4.2)) else if v2 ≤ (hfi h1 193 27) then bnd (f_X12_begin v2 h1) (fun q6 => gd (ib 6 8 = true) (lt (sia q6 196 (cl 6) 0) (fun h8 => gd (ib 6 8 = true) (lt (sia h8 197 (cl 6) 0) (fun h10 => gd (ib 6 8 = true) (lt (sia h10 198 (cl 6) 0) (fun h12 => gd (ib 6 8 = true) (lt (sia h12 199 (cl 6) 0) (fun h14 => gd (ib 6 8 = true) (lt (sia h14 200 (cl 6) 0) (fun h16 => bnd (f_X12_book_l81 FU h16) (fun q20 => if (hfi q20 193 34) = 0 then bnd (f_X12_copyBook 6 v1 q20) (fun q22 => gd (ib v1 8 = true) (gd (ib v1 8 = true) (lt (sia q22 201 (cl v1) ((hia q22 201 (cl v1)) + 1)) (fun h25 => some (0, h25))))) else bnd (f_X12_fallen q20) (fun q26 => some (q26.1, q26.2)))))))))))))) else bnd (f_X12_fail 2 h1) (fun q27 => some (q27.1, q27.2)) else bnd (f_X12_fail 1 h1) (fun q28 => some (q28.1, q28.2)))
set_option maxRecDepth 20000 in
theorem cl_X12_book_81 (G : GG) (K : KQ) (v1 : Int32)  : ∀ (n : Nat)  (h : AH) (r : AH), f_X12_book_l81 n h = some r → J G mX12_book 10 0 0 K 102 [(0, .ref (ad G 193)), (1, .int v1)] [] r → J G mX12_book 10 0 0 K 81 [(0, .ref (ad G 193)), (1, .int v1)] [] h := by
  intro n
  induction n with
  | zero => intro  h r hL; cases hL
  | succ n ih =>
    intro  h r hL kE
    unfold f_X12_book_l81 at hL
    refine j_aload_n 0 dX12_book_81 rfl ?_
    refine jg_RX12_207 rfl sh_193 dX12_book_82 ?_
    refine j_if_ne 102 dX12_book_85 (by decide) (fun z17 => ?_) (fun z17 => ?_)
    · replace hL := (if_neg z17).symm.trans hL
      cases hL
      refine j_sub [0, 1] rfl ?_
      exact kE 
    · replace hL := (if_pos z17).symm.trans hL
      refine j_aload_n 0 dX12_book_88 rfl ?_
      refine jg_RX12_185 rfl sh_193 dX12_book_89 ?_
      refine j_if_eq 102 dX12_book_92 (by decide) (fun z18 => ?_) (fun z18 => ?_)
      · replace hL := (if_pos z18).symm.trans hL
        cases hL
        refine j_sub [0, 1] rfl ?_
        exact kE 
      · replace hL := (if_neg z18).symm.trans hL
        refine j_aload_n 0 dX12_book_95 rfl ?_
        obtain ⟨q19, hq19, hL⟩ := bnd_ex hL
        refine j_callVv (c_X12_readLine G  h _ hq19) cv_RX12_269 rfl sh_193 (by decide) rfl (by decide) rfl rfl (Nat.le_of_ble_eq_true rfl) dX12_book_96 (by decide) ?_
        refine j_goto 81 dX12_book_99 (by decide) ?_
        refine j_sub [0, 1] rfl ?_
        exact ih  q19 r hL kE

set_option maxRecDepth 20000 in
theorem c_X12_book (G : GG) (v1 : Int32) (v2 : Int32) (h : AH) (r : Int32 × AH) (hL : f_X12_book v1 v2 h = some r) : SpI G 10 mX12_book [.ref (ad G 193), .int v1, .int v2] h r.1 r.2 := by
  refine sp_i pf_X12_book (Nat.le_of_ble_eq_true rfl) ?_
  show J G mX12_book 10 0 0 (KMi G r.1 r.2) 0 [(0, .ref (ad G 193)), (1, .int v1), (2, .int v2)] [] h
  obtain ⟨K, hK⟩ : ∃ K, K = KMi G r.1 r.2 := ⟨_, rfl⟩
  rw [← hK]
  unfold f_X12_book at hL
  refine j_aload_n 0 dX12_book_0 rfl ?_
  refine j_iconst 0 dX12_book_1 (by decide) ?_
  refine jp_RX12_158 rfl sh_193 dX12_book_2 ?_
  obtain ⟨h1, eh1, hL⟩ := lt_ex hL
  refine j_heap eh1 ?_
  refine j_iload_n 1 dX12_book_5 rfl ?_
  refine j_callSi (c_X12_isBook G v1 h1) cv_RX12_165 rfl (by decide) rfl rfl (Nat.le_of_ble_eq_true rfl) dX12_book_6 (by decide) ?_
  refine j_ifz_ne 18 dX12_book_9 (by decide) (fun z2 => ?_) (fun z2 => ?_)
  · replace hL := (if_pos z2).symm.trans hL
    refine j_iload_n 2 dX12_book_18 rfl ?_
    refine j_if_lt 30 dX12_book_19 (by decide) (fun z3 => ?_) (fun z3 => ?_)
    · replace hL := (if_pos z3).symm.trans hL
      refine j_aload_n 0 dX12_book_30 rfl ?_
      refine j_iconst 2 dX12_book_31 (by decide) ?_
      obtain ⟨q4, hq4, hL⟩ := bnd_ex hL
      refine j_callVi (c_X12_fail G 2 h1 _ hq4) cv_RX12_263 rfl sh_193 (by decide) rfl (by decide) rfl rfl (Nat.le_of_ble_eq_true rfl) dX12_book_32 (by decide) ?_
      cases hL
      exact j_reti dX12_book_35 rfl hK
    · replace hL := (if_neg z3).symm.trans hL
      refine j_iload_n 2 dX12_book_22 rfl ?_
      refine j_aload_n 0 dX12_book_23 rfl ?_
      refine jg_RX12_169 rfl sh_193 dX12_book_24 ?_
      refine j_icmp_le 36 dX12_book_27 (by decide) (fun z5 => ?_) (fun z5 => ?_)
      · replace hL := (if_pos z5).symm.trans hL
        refine j_aload_n 0 dX12_book_36 rfl ?_
        refine j_iload_n 2 dX12_book_37 rfl ?_
        obtain ⟨q6, hq6, hL⟩ := bnd_ex hL
        refine j_callVv (c_X12_begin G v2 h1 _ hq6) cv_RX12_266 rfl sh_193 (by decide) rfl (by decide) rfl rfl (Nat.le_of_ble_eq_true rfl) dX12_book_38 (by decide) ?_
        refine j_aload_n 0 dX12_book_41 rfl ?_
        refine jg_RX12_32 rfl sh_193 dX12_book_42 ?_
        refine j_bipush 6 dX12_book_45 (by decide) ?_
        refine j_iconst 0 dX12_book_47 (by decide) ?_
        obtain ⟨g7, hL⟩ := gd_ex hL
        refine j_iast (shf_12_3 sh_193) (ib_in g7) dX12_book_48 ?_
        obtain ⟨h8, eh8, hL⟩ := lt_ex hL
        refine j_heap eh8 ?_
        refine j_aload_n 0 dX12_book_49 rfl ?_
        refine jg_RX12_36 rfl sh_193 dX12_book_50 ?_
        refine j_bipush 6 dX12_book_53 (by decide) ?_
        refine j_iconst 0 dX12_book_55 (by decide) ?_
        obtain ⟨g9, hL⟩ := gd_ex hL
        refine j_iast (shf_12_4 sh_193) (ib_in g9) dX12_book_56 ?_
        obtain ⟨h10, eh10, hL⟩ := lt_ex hL
        refine j_heap eh10 ?_
        refine j_aload_n 0 dX12_book_57 rfl ?_
        refine jg_RX12_39 rfl sh_193 dX12_book_58 ?_
        refine j_bipush 6 dX12_book_61 (by decide) ?_
        refine j_iconst 0 dX12_book_63 (by decide) ?_
        obtain ⟨g11, hL⟩ := gd_ex hL
        refine j_iast (shf_12_5 sh_193) (ib_in g11) dX12_book_64 ?_
        obtain ⟨h12, eh12, hL⟩ := lt_ex hL
        refine j_heap eh12 ?_
        refine j_aload_n 0 dX12_book_65 rfl ?_
        refine jg_RX12_41 rfl sh_193 dX12_book_66 ?_
        refine j_bipush 6 dX12_book_69 (by decide) ?_
        refine j_iconst 0 dX12_book_71 (by decide) ?_
        obtain ⟨g13, hL⟩ := gd_ex hL
        refine j_iast (shf_12_6 sh_193) (ib_in g13) dX12_book_72 ?_
        obtain ⟨h14, eh14, hL⟩ := lt_ex hL
        refine j_heap eh14 ?_
        refine j_aload_n 0 dX12_book_73 rfl ?_
        refine jg_RX12_44 rfl sh_193 dX12_book_74 ?_
        refine j_bipush 6 dX12_book_77 (by decide) ?_
        refine j_iconst 0 dX12_book_79 (by decide) ?_
        obtain ⟨g15, hL⟩ := gd_ex hL
        refine j_iast (shf_12_7 sh_193) (ib_in g15) dX12_book_80 ?_
        obtain ⟨h16, eh16, hL⟩ := lt_ex hL
        refine j_heap eh16 ?_
        obtain ⟨q20, hq20, hL⟩ := bnd_ex hL
        refine j_sub [0, 1] rfl ?_
        refine cl_X12_book_81 G K v1 FU  h16 q20 hq20 ?_
        refine j_aload_n 0 dX12_book_102 rfl ?_
        refine jg_RX12_207 rfl sh_193 dX12_book_103 ?_
        refine j_if_eq 114 dX12_book_106 (by decide) (fun z21 => ?_) (fun z21 => ?_)
        · replace hL := (if_pos z21).symm.trans hL
          refine j_aload_n 0 dX12_book_114 rfl ?_
          refine j_bipush 6 dX12_book_115 (by decide) ?_
          refine j_iload_n 1 dX12_book_117 rfl ?_
          obtain ⟨q22, hq22, hL⟩ := bnd_ex hL
          refine j_callVv (c_X12_copyBook G 6 v1 q20 _ hq22) cv_RX12_275 rfl sh_193 (by decide) rfl (by decide) rfl rfl (Nat.le_of_ble_eq_true rfl) dX12_book_118 (by decide) ?_
          refine j_aload_n 0 dX12_book_121 rfl ?_
          refine jg_RX12_47 rfl sh_193 dX12_book_122 ?_
          refine j_iload_n 1 dX12_book_125 rfl ?_
          refine j_dup2 dX12_book_126 rfl rfl ?_
          obtain ⟨g23, hL⟩ := gd_ex hL
          refine j_iald (shf_12_8 sh_193) (ib_in g23) dX12_book_127 ?_
          refine j_iconst 1 dX12_book_128 (by decide) ?_
          refine j_iadd dX12_book_129 ?_
          obtain ⟨g24, hL⟩ := gd_ex hL
          refine j_iast (shf_12_8 sh_193) (ib_in g24) dX12_book_130 ?_
          obtain ⟨h25, eh25, hL⟩ := lt_ex hL
          refine j_heap eh25 ?_
          refine j_iconst 0 dX12_book_131 (by decide) ?_
          cases hL
          exact j_reti dX12_book_132 rfl hK
        · replace hL := (if_neg z21).symm.trans hL
          refine j_aload_n 0 dX12_book_109 rfl ?_
          obtain ⟨q26, hq26, hL⟩ := bnd_ex hL
          refine j_callVi (c_X12_fallen G  q20 _ hq26) cv_RX12_272 rfl sh_193 (by decide) rfl (by decide) rfl rfl (Nat.le_of_ble_eq_true rfl) dX12_book_110 (by decide) ?_
          cases hL
          exact j_reti dX12_book_113 rfl hK
      · replace hL := (if_neg z5).symm.trans hL
        refine j_aload_n 0 dX12_book_30 rfl ?_
        refine j_iconst 2 dX12_book_31 (by decide) ?_
        obtain ⟨q27, hq27, hL⟩ := bnd_ex hL
        refine j_callVi (c_X12_fail G 2 h1 _ hq27) cv_RX12_263 rfl sh_193 (by decide) rfl (by decide) rfl rfl (Nat.le_of_ble_eq_true rfl) dX12_book_32 (by decide) ?_
        cases hL
        exact j_reti dX12_book_35 rfl hK
  · replace hL := (if_neg z2).symm.trans hL
    refine j_aload_n 0 dX12_book_12 rfl ?_
    refine j_iconst 1 dX12_book_13 (by decide) ?_
    obtain ⟨q28, hq28, hL⟩ := bnd_ex hL
    refine j_callVi (c_X12_fail G 1 h1 _ hq28) cv_RX12_263 rfl sh_193 (by decide) rfl (by decide) rfl rfl (Nat.le_of_ble_eq_true rfl) dX12_book_14 (by decide) ?_
    cases hL
    exact j_reti dX12_book_17 rfl hK

def f_X12_law_l52  : Nat → Int32 → AH → Option (AH)
  | 0, _, _ => none
  | n + 1, v2, h => if (hfi h 193 34) = 0 then if (hfi h 193 30) = 0 then some h else bnd (f_X12_which 195 3 h) (fun q14 => lt (fun  (h20 : AH) => if (hfi h20 193 34) = 0 then bnd (f_X12_stepOn h20) (fun q22 => lt (fun (x25 : Bool) => if q14 = 1 then bnd (f_X12_readNumber (bI x25) 90 q22) (fun q31 => gd (ib (3 + q14) 6 = true) (lt (sia q31.2 215 (cl (3 + q14)) q31.1) (fun h33 => bnd (f_X12_semi h33) (fun q34 => f_X12_law_l52 n (v2 ||| (1 <<< ((q14 : Int32) &&& 31))) q34)))) else bnd (f_X12_readNumber (bI x25) 50 q22) (fun q27 => gd (ib (3 + q14) 6 = true) (lt (sia q27.2 215 (cl (3 + q14)) q27.1) (fun h29 => bnd (f_X12_semi h29) (fun q30 => f_X12_law_l52 n (v2 ||| (1 <<< ((q14 : Int32) &&& 31))) q30))))) (fun j24 => if q14 = 0 then j24 true else j24 false)) else f_X12_law_l52 n v2 h20) (fun j16 => if q14 = (-1) then bnd (f_X12_wrong 1 h) (fun q19 => j16  q19) else if ((v2 >>> ((q14 : Int32) &&& 31)) &&& 1) = 1 then bnd (f_X12_wrong 5 h) (fun q18 => j16  q18) else j16  h)) else some h
def f_X12_law_l176  : Nat → Int32 → AH → Option (AH)
  | 0, _, _ => none
  | n + 1, v3, h => if 3 ≤ v3 then some h else gd (ib (3 + v3) 6 = true) (gd (ib v3 6 = true) (lt (sia h 215 (cl v3) (hia h 215 (cl (3 + v3)))) (fun h40 => f_X12_law_l176 n (v3 + 1) h40)))
def f_X12_law (v1 : Int32) (h : AH) : Option (Int32 × AH) := lt (sfi h 193 2 0) (fun h1 => if v1 < 0 then bnd (f_X12_fail 1 h1) (fun q3 => some (q3.1, q3.2)) else if v1 ≤ (hfi h1 193 27) then bnd (f_X12_begin v1 h1) (fun q5 => gd (ib 3 6 = true) (lt (sia q5 215 (cl 3) 2) (fun h7 => gd (ib 4 6 = true) (lt (sia h7 215 (cl 4) 20) (fun h9 => gd (ib 5 6 = true) (lt (sia h9 215 (cl 5) 3) (fun h11 => bnd (f_X12_law_l52 FU 0 h11) (fun q35 => if (hfi q35 193 34) = 0 then bnd (f_X12_law_l176 FU 0 q35) (fun q41 => some (0, q41)) else bnd (f_X12_fallen q35) (fun q42 => some (q42.1, q42.2)))))))))) else bnd (f_X12_fail 1 h1) (fun q43 => some (q43.1, q43.2)))
set_option maxRecDepth 20000 in
theorem cl_X12_law_52 (G : GG) (K : KQ)   : ∀ (n : Nat) (v2 : Int32) (h : AH) (r : AH), f_X12_law_l52 n v2 h = some r → J G mX12_law 7 0 0 K 162 [(0, .ref (ad G 193))] [] r → J G mX12_law 7 0 0 K 52 [(0, .ref (ad G 193)), (2, .int v2)] [] h := by
  intro n
  induction n with
  | zero => intro v2 h r hL; cases hL
  | succ n ih =>
    intro v2 h r hL kE
    unfold f_X12_law_l52 at hL
    refine j_aload_n 0 dX12_law_52 rfl ?_
    refine jg_RX12_207 rfl sh_193 dX12_law_53 ?_
    refine j_if_ne 162 dX12_law_56 (by decide) (fun z12 => ?_) (fun z12 => ?_)
    · replace hL := (if_neg z12).symm.trans hL
      cases hL
      refine j_sub [0] rfl ?_
      exact kE 
    · replace hL := (if_pos z12).symm.trans hL
      refine j_aload_n 0 dX12_law_59 rfl ?_
      refine jg_RX12_185 rfl sh_193 dX12_law_60 ?_
      refine j_if_eq 162 dX12_law_63 (by decide) (fun z13 => ?_) (fun z13 => ?_)
      · replace hL := (if_pos z13).symm.trans hL
        cases hL
        refine j_sub [0] rfl ?_
        exact kE 
      · replace hL := (if_neg z13).symm.trans hL
        refine j_aload_n 0 dX12_law_66 rfl ?_
        refine j_aload_n 0 dX12_law_67 rfl ?_
        refine jg_RX12_29 rfl sh_193 dX12_law_68 ?_
        obtain ⟨q14, hq14, hL⟩ := bnd_ex hL
        refine j_callVi (c_X12_which G 195 3 (shf_12_1 sh_193) h _ hq14) cv_RX12_247 rfl sh_193 (by decide) rfl (by decide) rfl rfl (Nat.le_of_ble_eq_true rfl) dX12_law_71 (by decide) ?_
        refine j_istore_n (lv' := [(3, .int q14), (0, .ref (ad G 193)), (2, .int v2)]) dX12_law_74 (by decide) rfl ?_
        refine j_iload_n 0 dX12_law_75 rfl ?_
        refine j_iconst (-1) dX12_law_76 (by decide) ?_
        obtain ⟨j16, ej16, hL⟩ := lt_ex hL
        have kj16 : ∀  (h20 : AH), j16  h20 = some r → J G mX12_law 7 0 0 K 102 [(0, .ref (ad G 193)), (2, .int v2), (3, .int q14)] [] h20 := by
          intro  h20 hL
          rw [ej16] at hL
          replace hL : (if (hfi h20 193 34) = 0 then bnd (f_X12_stepOn h20) (fun q22 => lt (fun (x25 : Bool) => if q14 = 1 then bnd (f_X12_readNumber (bI x25) 90 q22) (fun q31 => gd (ib (3 + q14) 6 = true) (lt (sia q31.2 215 (cl (3 + q14)) q31.1) (fun h33 => bnd (f_X12_semi h33) (fun q34 => f_X12_law_l52 n (v2 ||| (1 <<< ((q14 : Int32) &&& 31))) q34)))) else bnd (f_X12_readNumber (bI x25) 50 q22) (fun q27 => gd (ib (3 + q14) 6 = true) (lt (sia q27.2 215 (cl (3 + q14)) q27.1) (fun h29 => bnd (f_X12_semi h29) (fun q30 => f_X12_law_l52 n (v2 ||| (1 <<< ((q14 : Int32) &&& 31))) q30))))) (fun j24 => if q14 = 0 then j24 true else j24 false)) else f_X12_law_l52 n v2 h20) = some r := hL
          refine j_aload_n 0 dX12_law_102 rfl ?_
          refine jg_RX12_207 rfl sh_193 dX12_law_103 ?_
          refine j_if_eq 112 dX12_law_106 (by decide) (fun z21 => ?_) (fun z21 => ?_)
          · replace hL := (if_pos z21).symm.trans hL
            refine j_iload_n 1 dX12_law_112 rfl ?_
            refine j_iconst 1 dX12_law_113 (by decide) ?_
            refine j_iload_n 2 dX12_law_114 rfl ?_
            refine j_ishl dX12_law_115 ?_
            refine j_ior dX12_law_116 ?_
            refine j_istore_n (lv' := [(2, .int (v2 ||| (1 <<< ((q14 : Int32) &&& 31)))), (0, .ref (ad G 193)), (3, .int q14)]) dX12_law_117 (by decide) rfl ?_
            refine j_aload_n 1 dX12_law_118 rfl ?_
            obtain ⟨q22, hq22, hL⟩ := bnd_ex hL
            refine j_callVv (c_X12_stepOn G  h20 _ hq22) cv_RX12_225 rfl sh_193 (by decide) rfl (by decide) rfl rfl (Nat.le_of_ble_eq_true rfl) dX12_law_119 (by decide) ?_
            refine j_aload_n 1 dX12_law_122 rfl ?_
            refine jg_RX12_87 rfl sh_193 dX12_law_123 ?_
            refine j_iconst 3 dX12_law_126 (by decide) ?_
            refine j_iload_n 2 dX12_law_127 rfl ?_
            refine j_iadd dX12_law_128 ?_
            refine j_aload_n 1 dX12_law_129 rfl ?_
            refine j_iload_n 2 dX12_law_130 rfl ?_
            obtain ⟨j24, ej24, hL⟩ := lt_ex hL
            have kj24 : ∀ (x25 : Bool), j24 x25 = some r → J G mX12_law 7 0 0 K 139 [(0, .ref (ad G 193)), (2, .int (v2 ||| (1 <<< ((q14 : Int32) &&& 31)))), (3, .int q14)] [.int (bI x25), .ref (ad G 193), .int (3 + q14), .ref (ad G 215)] q22 := by
              intro x25 hL
              rw [ej24] at hL
              replace hL : (if q14 = 1 then bnd (f_X12_readNumber (bI x25) 90 q22) (fun q31 => gd (ib (3 + q14) 6 = true) (lt (sia q31.2 215 (cl (3 + q14)) q31.1) (fun h33 => bnd (f_X12_semi h33) (fun q34 => f_X12_law_l52 n (v2 ||| (1 <<< ((q14 : Int32) &&& 31))) q34)))) else bnd (f_X12_readNumber (bI x25) 50 q22) (fun q27 => gd (ib (3 + q14) 6 = true) (lt (sia q27.2 215 (cl (3 + q14)) q27.1) (fun h29 => bnd (f_X12_semi h29) (fun q30 => f_X12_law_l52 n (v2 ||| (1 <<< ((q14 : Int32) &&& 31))) q30))))) = some r := hL
              refine j_iload_n 2 dX12_law_139 rfl ?_
              refine j_iconst 1 dX12_law_140 (by decide) ?_
              refine j_icmp_ne 149 dX12_law_141 (by decide) (fun z26 => ?_) (fun z26 => ?_)
              · replace hL := (if_neg z26).symm.trans hL
                refine j_bipush 50 dX12_law_149 (by decide) ?_
                obtain ⟨q27, hq27, hL⟩ := bnd_ex hL
                refine j_callVi (c_X12_readNumber G (bI x25) 50 q22 _ hq27) cv_RX12_235 rfl sh_193 (by decide) rfl (by decide) rfl rfl (Nat.le_of_ble_eq_true rfl) dX12_law_151 (by decide) ?_
                obtain ⟨g28, hL⟩ := gd_ex hL
                refine j_iast (shf_12_22 sh_193) (ib_in g28) dX12_law_154 ?_
                obtain ⟨h29, eh29, hL⟩ := lt_ex hL
                refine j_heap eh29 ?_
                refine j_aload_n 0 dX12_law_155 rfl ?_
                obtain ⟨q30, hq30, hL⟩ := bnd_ex hL
                refine j_callVv (c_X12_semi G  h29 _ hq30) cv_RX12_260 rfl sh_193 (by decide) rfl (by decide) rfl rfl (Nat.le_of_ble_eq_true rfl) dX12_law_156 (by decide) ?_
                refine j_goto 52 dX12_law_159 (by decide) ?_
                refine j_sub [0, 1] rfl ?_
                exact ih (v2 ||| (1 <<< ((q14 : Int32) &&& 31))) q30 r hL kE
              · replace hL := (if_pos z26).symm.trans hL
                refine j_bipush 90 dX12_law_144 (by decide) ?_
                refine j_goto 151 dX12_law_146 (by decide) ?_
                obtain ⟨q31, hq31, hL⟩ := bnd_ex hL
                refine j_callVi (c_X12_readNumber G (bI x25) 90 q22 _ hq31) cv_RX12_235 rfl sh_193 (by decide) rfl (by decide) rfl rfl (Nat.le_of_ble_eq_true rfl) dX12_law_151 (by decide) ?_
                obtain ⟨g32, hL⟩ := gd_ex hL
                refine j_iast (shf_12_22 sh_193) (ib_in g32) dX12_law_154 ?_
                obtain ⟨h33, eh33, hL⟩ := lt_ex hL
                refine j_heap eh33 ?_
                refine j_aload_n 0 dX12_law_155 rfl ?_
                obtain ⟨q34, hq34, hL⟩ := bnd_ex hL
                refine j_callVv (c_X12_semi G  h33 _ hq34) cv_RX12_260 rfl sh_193 (by decide) rfl (by decide) rfl rfl (Nat.le_of_ble_eq_true rfl) dX12_law_156 (by decide) ?_
                refine j_goto 52 dX12_law_159 (by decide) ?_
                refine j_sub [0, 1] rfl ?_
                exact ih (v2 ||| (1 <<< ((q14 : Int32) &&& 31))) q34 r hL kE
            refine j_if_ne 138 dX12_law_131 (by decide) (fun z23 => ?_) (fun z23 => ?_)
            · replace hL := (if_neg z23).symm.trans hL
              refine j_iconst 0 dX12_law_138 (by decide) ?_
              refine j_sub [1, 0, 2] rfl ?_
              exact kj24 false hL
            · replace hL := (if_pos z23).symm.trans hL
              refine j_iconst 1 dX12_law_134 (by decide) ?_
              refine j_goto 139 dX12_law_135 (by decide) ?_
              refine j_sub [1, 0, 2] rfl ?_
              exact kj24 true hL
          · replace hL := (if_neg z21).symm.trans hL
            refine j_goto 52 dX12_law_109 (by decide) ?_
            refine j_sub [0, 1] rfl ?_
            exact ih v2 h20 r hL kE
        refine j_icmp_ne 88 dX12_law_77 (by decide) (fun z15 => ?_) (fun z15 => ?_)
        · replace hL := (if_neg z15).symm.trans hL
          refine j_iload_n 2 dX12_law_88 rfl ?_
          refine j_iload_n 0 dX12_law_89 rfl ?_
          refine j_ishr dX12_law_90 ?_
          refine j_iconst 1 dX12_law_91 (by decide) ?_
          refine j_iand dX12_law_92 ?_
          refine j_iconst 1 dX12_law_93 (by decide) ?_
          refine j_icmp_ne 102 dX12_law_94 (by decide) (fun z17 => ?_) (fun z17 => ?_)
          · replace hL := (if_neg z17).symm.trans hL
            refine j_sub [1, 2, 0] rfl ?_
            exact kj16  h hL
          · replace hL := (if_pos z17).symm.trans hL
            refine j_aload_n 1 dX12_law_97 rfl ?_
            refine j_iconst 5 dX12_law_98 (by decide) ?_
            obtain ⟨q18, hq18, hL⟩ := bnd_ex hL
            refine j_callVv (c_X12_wrong G 5 h _ hq18) cv_RX12_228 rfl sh_193 (by decide) rfl (by decide) rfl rfl (Nat.le_of_ble_eq_true rfl) dX12_law_99 (by decide) ?_
            refine j_sub [1, 2, 0] rfl ?_
            exact kj16  q18 hL
        · replace hL := (if_pos z15).symm.trans hL
          refine j_aload_n 1 dX12_law_80 rfl ?_
          refine j_iconst 1 dX12_law_81 (by decide) ?_
          obtain ⟨q19, hq19, hL⟩ := bnd_ex hL
          refine j_callVv (c_X12_wrong G 1 h _ hq19) cv_RX12_228 rfl sh_193 (by decide) rfl (by decide) rfl rfl (Nat.le_of_ble_eq_true rfl) dX12_law_82 (by decide) ?_
          refine j_goto 102 dX12_law_85 (by decide) ?_
          refine j_sub [1, 2, 0] rfl ?_
          exact kj16  q19 hL

set_option maxRecDepth 20000 in
theorem cl_X12_law_176 (G : GG) (K : KQ)   : ∀ (n : Nat) (v3 : Int32) (h : AH) (r : AH), f_X12_law_l176 n v3 h = some r → J G mX12_law 7 0 0 K 201 [] [] r → J G mX12_law 7 0 0 K 176 [(0, .ref (ad G 193)), (3, .int v3)] [] h := by
  intro n
  induction n with
  | zero => intro v3 h r hL; cases hL
  | succ n ih =>
    intro v3 h r hL kE
    unfold f_X12_law_l176 at hL
    refine j_iload_n 1 dX12_law_176 rfl ?_
    refine j_iconst 3 dX12_law_177 (by decide) ?_
    refine j_icmp_ge 201 dX12_law_178 (by decide) (fun z37 => ?_) (fun z37 => ?_)
    · replace hL := (if_pos z37).symm.trans hL
      cases hL
      refine j_sub [] rfl ?_
      exact kE 
    · replace hL := (if_neg z37).symm.trans hL
      refine j_aload_n 0 dX12_law_181 rfl ?_
      refine jg_RX12_87 rfl sh_193 dX12_law_182 ?_
      refine j_iload_n 1 dX12_law_185 rfl ?_
      refine j_aload_n 0 dX12_law_186 rfl ?_
      refine jg_RX12_87 rfl sh_193 dX12_law_187 ?_
      refine j_iconst 3 dX12_law_190 (by decide) ?_
      refine j_iload_n 1 dX12_law_191 rfl ?_
      refine j_iadd dX12_law_192 ?_
      obtain ⟨g38, hL⟩ := gd_ex hL
      refine j_iald (shf_12_22 sh_193) (ib_in g38) dX12_law_193 ?_
      obtain ⟨g39, hL⟩ := gd_ex hL
      refine j_iast (shf_12_22 sh_193) (ib_in g39) dX12_law_194 ?_
      obtain ⟨h40, eh40, hL⟩ := lt_ex hL
      refine j_heap eh40 ?_
      refine j_iinc (lv' := [(3, .int (v3 + 1)), (0, .ref (ad G 193))]) 1 dX12_law_195 rfl rfl (by decide) rfl ?_
      refine j_goto 176 dX12_law_198 (by decide) ?_
      refine j_sub [1, 0] rfl ?_
      exact ih (v3 + 1) h40 r hL kE

set_option maxRecDepth 20000 in
theorem c_X12_law (G : GG) (v1 : Int32) (h : AH) (r : Int32 × AH) (hL : f_X12_law v1 h = some r) : SpI G 7 mX12_law [.ref (ad G 193), .int v1] h r.1 r.2 := by
  refine sp_i pf_X12_law (Nat.le_of_ble_eq_true rfl) ?_
  show J G mX12_law 7 0 0 (KMi G r.1 r.2) 0 [(0, .ref (ad G 193)), (1, .int v1)] [] h
  obtain ⟨K, hK⟩ : ∃ K, K = KMi G r.1 r.2 := ⟨_, rfl⟩
  rw [← hK]
  unfold f_X12_law at hL
  refine j_aload_n 0 dX12_law_0 rfl ?_
  refine j_iconst 0 dX12_law_1 (by decide) ?_
  refine jp_RX12_158 rfl sh_193 dX12_law_2 ?_
  obtain ⟨h1, eh1, hL⟩ := lt_ex hL
  refine j_heap eh1 ?_
  refine j_iload_n 1 dX12_law_5 rfl ?_
  refine j_if_lt 17 dX12_law_6 (by decide) (fun z2 => ?_) (fun z2 => ?_)
  · replace hL := (if_pos z2).symm.trans hL
    refine j_aload_n 0 dX12_law_17 rfl ?_
    refine j_iconst 1 dX12_law_18 (by decide) ?_
    obtain ⟨q3, hq3, hL⟩ := bnd_ex hL
    refine j_callVi (c_X12_fail G 1 h1 _ hq3) cv_RX12_263 rfl sh_193 (by decide) rfl (by decide) rfl rfl (Nat.le_of_ble_eq_true rfl) dX12_law_19 (by decide) ?_
    cases hL
    exact j_reti dX12_law_22 rfl hK
  · replace hL := (if_neg z2).symm.trans hL
    refine j_iload_n 1 dX12_law_9 rfl ?_
    refine j_aload_n 0 dX12_law_10 rfl ?_
    refine jg_RX12_169 rfl sh_193 dX12_law_11 ?_
    refine j_icmp_le 23 dX12_law_14 (by decide) (fun z4 => ?_) (fun z4 => ?_)
    · replace hL := (if_pos z4).symm.trans hL
      refine j_aload_n 0 dX12_law_23 rfl ?_
      refine j_iload_n 1 dX12_law_24 rfl ?_
      obtain ⟨q5, hq5, hL⟩ := bnd_ex hL
      refine j_callVv (c_X12_begin G v1 h1 _ hq5) cv_RX12_266 rfl sh_193 (by decide) rfl (by decide) rfl rfl (Nat.le_of_ble_eq_true rfl) dX12_law_25 (by decide) ?_
      refine j_aload_n 0 dX12_law_28 rfl ?_
      refine jg_RX12_87 rfl sh_193 dX12_law_29 ?_
      refine j_iconst 3 dX12_law_32 (by decide) ?_
      refine j_iconst 2 dX12_law_33 (by decide) ?_
      obtain ⟨g6, hL⟩ := gd_ex hL
      refine j_iast (shf_12_22 sh_193) (ib_in g6) dX12_law_34 ?_
      obtain ⟨h7, eh7, hL⟩ := lt_ex hL
      refine j_heap eh7 ?_
      refine j_aload_n 0 dX12_law_35 rfl ?_
      refine jg_RX12_87 rfl sh_193 dX12_law_36 ?_
      refine j_iconst 4 dX12_law_39 (by decide) ?_
      refine j_bipush 20 dX12_law_40 (by decide) ?_
      obtain ⟨g8, hL⟩ := gd_ex hL
      refine j_iast (shf_12_22 sh_193) (ib_in g8) dX12_law_42 ?_
      obtain ⟨h9, eh9, hL⟩ := lt_ex hL
      refine j_heap eh9 ?_
      refine j_aload_n 0 dX12_law_43 rfl ?_
      refine jg_RX12_87 rfl sh_193 dX12_law_44 ?_
      refine j_iconst 5 dX12_law_47 (by decide) ?_
      refine j_iconst 3 dX12_law_48 (by decide) ?_
      obtain ⟨g10, hL⟩ := gd_ex hL
      refine j_iast (shf_12_22 sh_193) (ib_in g10) dX12_law_49 ?_
      obtain ⟨h11, eh11, hL⟩ := lt_ex hL
      refine j_heap eh11 ?_
      refine j_iconst 0 dX12_law_50 (by decide) ?_
      refine j_istore_n (lv' := [(2, .int 0), (0, .ref (ad G 193)), (1, .int v1)]) dX12_law_51 (by decide) rfl ?_
      obtain ⟨q35, hq35, hL⟩ := bnd_ex hL
      refine j_sub [1, 0] rfl ?_
      refine cl_X12_law_52 G K  FU 0 h11 q35 hq35 ?_
      refine j_aload_n 0 dX12_law_162 rfl ?_
      refine jg_RX12_207 rfl sh_193 dX12_law_163 ?_
      refine j_if_eq 174 dX12_law_166 (by decide) (fun z36 => ?_) (fun z36 => ?_)
      · replace hL := (if_pos z36).symm.trans hL
        refine j_iconst 0 dX12_law_174 (by decide) ?_
        refine j_istore_n (lv' := [(3, .int 0), (0, .ref (ad G 193))]) dX12_law_175 (by decide) rfl ?_
        obtain ⟨q41, hq41, hL⟩ := bnd_ex hL
        refine j_sub [1, 0] rfl ?_
        refine cl_X12_law_176 G K  FU 0 q35 q41 hq41 ?_
        refine j_iconst 0 dX12_law_201 (by decide) ?_
        cases hL
        exact j_reti dX12_law_202 rfl hK
      · replace hL := (if_neg z36).symm.trans hL
        refine j_aload_n 0 dX12_law_169 rfl ?_
        obtain ⟨q42, hq42, hL⟩ := bnd_ex hL
        refine j_callVi (c_X12_fallen G  q35 _ hq42) cv_RX12_272 rfl sh_193 (by decide) rfl (by decide) rfl rfl (Nat.le_of_ble_eq_true rfl) dX12_law_170 (by decide) ?_
        cases hL
        exact j_reti dX12_law_173 rfl hK
    · replace hL := (if_neg z4).symm.trans hL
      refine j_aload_n 0 dX12_law_17 rfl ?_
      refine j_iconst 1 dX12_law_18 (by decide) ?_
      obtain ⟨q43, hq43, hL⟩ := bnd_ex hL
      refine j_callVi (c_X12_fail G 1 h1 _ hq43) cv_RX12_263 rfl sh_193 (by decide) rfl (by decide) rfl rfl (Nat.le_of_ble_eq_true rfl) dX12_law_19 (by decide) ?_
      cases hL
      exact j_reti dX12_law_22 rfl hK

def f_X12_way_l47 (v3 : Int32) : Nat → Int32 → AH → Option (AH)
  | 0, _, _ => none
  | n + 1, v4, h => if 12 ≤ v4 then some h else gd (ib (v3 + v4) 84 = true) (lt (sia h 216 (cl (v3 + v4)) (-1)) (fun h9 => f_X12_way_l47 v3 n (v4 + 1) h9))
def f_X12_way_l70 (v3 : Int32) : Nat → AH → Option (AH)
  | 0, _ => none
  | n + 1, h => if (hfi h 193 34) = 0 then if (hfi h 193 30) = 0 then some h else bnd (f_X12_is 33 h) (fun q13 => lt (fun  (h17 : AH) => if (hfi h17 193 34) = 0 then bnd (f_X12_stepOn h17) (fun q19 => lt (fun  (h27 : AH) => bnd (f_X12_readNumber 0 11 h27) (fun q28 => bnd (f_X12_readNumber 1 99 q28.2) (fun q29 => bnd (f_X12_perhaps 34 50 0 q29.2) (fun q30 => bnd (f_X12_semi q30.2) (fun q31 => if (hfi q31 193 34) = 0 then gd (ib (v3 + q28.1) 84 = true) (lt (sia q31 216 (cl (v3 + q28.1)) q29.1) (fun h34 => gd (ib (v3 + q28.1) 84 = true) (lt (sia h34 217 (cl (v3 + q28.1)) q30.1) (fun h36 => f_X12_way_l70 v3 n  h36)))) else f_X12_way_l70 v3 n  q31))))) (fun j21 => if (hfi q19 193 30) = 2 then if 4 < ((hfi q19 193 33) - (hfi q19 193 32)) then j21  q19 else if 12 ≤ (hfi q19 193 31) then j21  q19 else gd (ib (v3 + (hfi q19 193 31)) 84 = true) (if (hia q19 216 (cl (v3 + (hfi q19 193 31)))) = (-1) then j21  q19 else bnd (f_X12_wrong 5 q19) (fun q26 => j21  q26)) else j21  q19)) else f_X12_way_l70 v3 n  h17) (fun j15 => if q13 = true then j15  h else bnd (f_X12_wrong 1 h) (fun q16 => j15  q16))) else some h
def f_X12_way_l247 (v1 : Int32) (v3 : Int32) : Nat → Int32 → AH → Option (AH)
  | 0, _, _ => none
  | n + 1, v4, h => if 12 ≤ v4 then some h else gd (ib (v3 + v4) 84 = true) (gd (ib ((12 * v1) + v4) 84 = true) (lt (sia h 216 (cl ((12 * v1) + v4)) (hia h 216 (cl (v3 + v4)))) (fun h42 => gd (ib (v3 + v4) 84 = true) (gd (ib ((12 * v1) + v4) 84 = true) (lt (sia h42 217 (cl ((12 * v1) + v4)) (hia h42 217 (cl (v3 + v4)))) (fun h45 => f_X12_way_l247 v1 v3 n (v4 + 1) h45))))))
def f_X12_way (v1 : Int32) (v2 : Int32) (h : AH) : Option (Int32 × AH) := lt (sfi h 193 2 0) (fun h1 => if (f_X12_isWay v1) = true then if v2 < 0 then bnd (f_X12_fail 2 h1) (fun q4 => some (q4.1, q4.2)) else if v2 ≤ (hfi h1 193 27) then bnd (f_X12_begin v2 h1) (fun q6 => bnd (f_X12_way_l47 72 FU 0 q6) (fun q10 => bnd (f_X12_way_l70 72 FU q10) (fun q37 => if (hfi q37 193 34) = 0 then bnd (f_X12_way_l247 v1 72 FU 0 q37) (fun q46 => some (0, q46)) else bnd (f_X12_fallen q37) (fun q47 => some (q47.1, q47.2))))) else bnd (f_X12_fail 2 h1) (fun q48 => some (q48.1, q48.2)) else bnd (f_X12_fail 1 h1) (fun q49 => some (q49.1, q49.2)))
set_option maxRecDepth 20000 in
theorem cl_X12_way_47 (G : GG) (K : KQ) (v1 : Int32) (v3 : Int32)  : ∀ (n : Nat) (v4 : Int32) (h : AH) (r : AH), f_X12_way_l47 v3 n v4 h = some r → J G mX12_way 8 0 0 K 70 [(0, .ref (ad G 193)), (1, .int v1), (3, .int v3)] [] r → J G mX12_way 8 0 0 K 47 [(0, .ref (ad G 193)), (1, .int v1), (3, .int v3), (4, .int v4)] [] h := by
  intro n
  induction n with
  | zero => intro v4 h r hL; cases hL
  | succ n ih =>
    intro v4 h r hL kE
    unfold f_X12_way_l47 at hL
    refine j_iload 3 dX12_way_47 rfl ?_
    refine j_bipush 12 dX12_way_49 (by decide) ?_
    refine j_icmp_ge 70 dX12_way_51 (by decide) (fun z7 => ?_) (fun z7 => ?_)
    · replace hL := (if_pos z7).symm.trans hL
      cases hL
      refine j_sub [0, 1, 2] rfl ?_
      exact kE 
    · replace hL := (if_neg z7).symm.trans hL
      refine j_aload_n 0 dX12_way_54 rfl ?_
      refine jg_RX12_90 rfl sh_193 dX12_way_55 ?_
      refine j_iload_n 2 dX12_way_58 rfl ?_
      refine j_iload 3 dX12_way_59 rfl ?_
      refine j_iadd dX12_way_61 ?_
      refine j_iconst (-1) dX12_way_62 (by decide) ?_
      obtain ⟨g8, hL⟩ := gd_ex hL
      refine j_iast (shf_12_23 sh_193) (ib_in g8) dX12_way_63 ?_
      obtain ⟨h9, eh9, hL⟩ := lt_ex hL
      refine j_heap eh9 ?_
      refine j_iinc (lv' := [(4, .int (v4 + 1)), (0, .ref (ad G 193)), (1, .int v1), (3, .int v3)]) 3 dX12_way_64 rfl rfl (by decide) rfl ?_
      refine j_goto 47 dX12_way_67 (by decide) ?_
      refine j_sub [1, 2, 3, 0] rfl ?_
      exact ih (v4 + 1) h9 r hL kE

set_option maxRecDepth 20000 in
theorem cl_X12_way_70 (G : GG) (K : KQ) (v1 : Int32) (v3 : Int32)  : ∀ (n : Nat)  (h : AH) (r : AH), f_X12_way_l70 v3 n h = some r → J G mX12_way 8 0 0 K 232 [(0, .ref (ad G 193)), (1, .int v1), (3, .int v3)] [] r → J G mX12_way 8 0 0 K 70 [(0, .ref (ad G 193)), (1, .int v1), (3, .int v3)] [] h := by
  intro n
  induction n with
  | zero => intro  h r hL; cases hL
  | succ n ih =>
    intro  h r hL kE
    unfold f_X12_way_l70 at hL
    refine j_aload_n 0 dX12_way_70 rfl ?_
    refine jg_RX12_207 rfl sh_193 dX12_way_71 ?_
    refine j_if_ne 232 dX12_way_74 (by decide) (fun z11 => ?_) (fun z11 => ?_)
    · replace hL := (if_neg z11).symm.trans hL
      cases hL
      refine j_sub [0, 1, 2] rfl ?_
      exact kE 
    · replace hL := (if_pos z11).symm.trans hL
      refine j_aload_n 0 dX12_way_77 rfl ?_
      refine jg_RX12_185 rfl sh_193 dX12_way_78 ?_
      refine j_if_eq 232 dX12_way_81 (by decide) (fun z12 => ?_) (fun z12 => ?_)
      · replace hL := (if_pos z12).symm.trans hL
        cases hL
        refine j_sub [0, 1, 2] rfl ?_
        exact kE 
      · replace hL := (if_neg z12).symm.trans hL
        refine j_aload_n 0 dX12_way_84 rfl ?_
        refine j_ldcSW rfl (List.mem_of_getElem? (i := 33) rfl) dX12_way_85 ?_
        obtain ⟨q13, hq13, hL⟩ := bnd_ex hL
        refine j_callVi (c_X12_is G 33 h _ hq13) cv_RX12_221 rfl sh_193 (by decide) rfl (by decide) rfl rfl (Nat.le_of_ble_eq_true rfl) dX12_way_88 (by decide) ?_
        obtain ⟨j15, ej15, hL⟩ := lt_ex hL
        have kj15 : ∀  (h17 : AH), j15  h17 = some r → J G mX12_way 8 0 0 K 99 [(0, .ref (ad G 193)), (1, .int v1), (3, .int v3)] [] h17 := by
          intro  h17 hL
          rw [ej15] at hL
          replace hL : (if (hfi h17 193 34) = 0 then bnd (f_X12_stepOn h17) (fun q19 => lt (fun  (h27 : AH) => bnd (f_X12_readNumber 0 11 h27) (fun q28 => bnd (f_X12_readNumber 1 99 q28.2) (fun q29 => bnd (f_X12_perhaps 34 50 0 q29.2) (fun q30 => bnd (f_X12_semi q30.2) (fun q31 => if (hfi q31 193 34) = 0 then gd (ib (v3 + q28.1) 84 = true) (lt (sia q31 216 (cl (v3 + q28.1)) q29.1) (fun h34 => gd (ib (v3 + q28.1) 84 = true) (lt (sia h34 217 (cl (v3 + q28.1)) q30.1) (fun h36 => f_X12_way_l70 v3 n  h36)))) else f_X12_way_l70 v3 n  q31))))) (fun j21 => if (hfi q19 193 30) = 2 then if 4 < ((hfi q19 193 33) - (hfi q19 193 32)) then j21  q19 else if 12 ≤ (hfi q19 193 31) then j21  q19 else gd (ib (v3 + (hfi q19 193 31)) 84 = true) (if (hia q19 216 (cl (v3 + (hfi q19 193 31)))) = (-1) then j21  q19 else bnd (f_X12_wrong 5 q19) (fun q26 => j21  q26)) else j21  q19)) else f_X12_way_l70 v3 n  h17) = some r := hL
          refine j_aload_n 0 dX12_way_99 rfl ?_
          refine jg_RX12_207 rfl sh_193 dX12_way_100 ?_
          refine j_if_eq 109 dX12_way_103 (by decide) (fun z18 => ?_) (fun z18 => ?_)
          · replace hL := (if_pos z18).symm.trans hL
            refine j_aload_n 0 dX12_way_109 rfl ?_
            obtain ⟨q19, hq19, hL⟩ := bnd_ex hL
            refine j_callVv (c_X12_stepOn G  h17 _ hq19) cv_RX12_225 rfl sh_193 (by decide) rfl (by decide) rfl rfl (Nat.le_of_ble_eq_true rfl) dX12_way_110 (by decide) ?_
            refine j_aload_n 0 dX12_way_113 rfl ?_
            refine jg_RX12_185 rfl sh_193 dX12_way_114 ?_
            refine j_iconst 2 dX12_way_117 (by decide) ?_
            obtain ⟨j21, ej21, hL⟩ := lt_ex hL
            have kj21 : ∀  (h27 : AH), j21  h27 = some r → J G mX12_way 8 0 0 K 163 [(0, .ref (ad G 193)), (1, .int v1), (3, .int v3)] [] h27 := by
              intro  h27 hL
              rw [ej21] at hL
              replace hL : (bnd (f_X12_readNumber 0 11 h27) (fun q28 => bnd (f_X12_readNumber 1 99 q28.2) (fun q29 => bnd (f_X12_perhaps 34 50 0 q29.2) (fun q30 => bnd (f_X12_semi q30.2) (fun q31 => if (hfi q31 193 34) = 0 then gd (ib (v3 + q28.1) 84 = true) (lt (sia q31 216 (cl (v3 + q28.1)) q29.1) (fun h34 => gd (ib (v3 + q28.1) 84 = true) (lt (sia h34 217 (cl (v3 + q28.1)) q30.1) (fun h36 => f_X12_way_l70 v3 n  h36)))) else f_X12_way_l70 v3 n  q31))))) = some r := hL
              refine j_aload_n 0 dX12_way_163 rfl ?_
              refine j_iconst 0 dX12_way_164 (by decide) ?_
              refine j_bipush 11 dX12_way_165 (by decide) ?_
              obtain ⟨q28, hq28, hL⟩ := bnd_ex hL
              refine j_callVi (c_X12_readNumber G 0 11 h27 _ hq28) cv_RX12_235 rfl sh_193 (by decide) rfl (by decide) rfl rfl (Nat.le_of_ble_eq_true rfl) dX12_way_167 (by decide) ?_
              refine j_istore (lv' := [(4, .int q28.1), (0, .ref (ad G 193)), (1, .int v1), (3, .int v3)]) dX12_way_170 (by decide) rfl ?_
              refine j_aload_n 1 dX12_way_172 rfl ?_
              refine j_iconst 1 dX12_way_173 (by decide) ?_
              refine j_bipush 99 dX12_way_174 (by decide) ?_
              obtain ⟨q29, hq29, hL⟩ := bnd_ex hL
              refine j_callVi (c_X12_readNumber G 1 99 q28.2 _ hq29) cv_RX12_235 rfl sh_193 (by decide) rfl (by decide) rfl rfl (Nat.le_of_ble_eq_true rfl) dX12_way_176 (by decide) ?_
              refine j_istore (lv' := [(5, .int q29.1), (4, .int q28.1), (0, .ref (ad G 193)), (1, .int v1), (3, .int v3)]) dX12_way_179 (by decide) rfl ?_
              refine j_aload_n 2 dX12_way_181 rfl ?_
              refine j_ldcSW rfl (List.mem_of_getElem? (i := 34) rfl) dX12_way_182 ?_
              refine j_bipush 50 dX12_way_185 (by decide) ?_
              refine j_iconst 0 dX12_way_187 (by decide) ?_
              obtain ⟨q30, hq30, hL⟩ := bnd_ex hL
              refine j_callVi (c_X12_perhaps G 34 50 0 q29.2 _ hq30) cv_RX12_239 rfl sh_193 (by decide) rfl (by decide) rfl rfl (Nat.le_of_ble_eq_true rfl) dX12_way_188 (by decide) ?_
              refine j_istore (lv' := [(6, .int q30.1), (5, .int q29.1), (4, .int q28.1), (0, .ref (ad G 193)), (1, .int v1), (3, .int v3)]) dX12_way_191 (by decide) rfl ?_
              refine j_aload_n 3 dX12_way_193 rfl ?_
              obtain ⟨q31, hq31, hL⟩ := bnd_ex hL
              refine j_callVv (c_X12_semi G  q30.2 _ hq31) cv_RX12_260 rfl sh_193 (by decide) rfl (by decide) rfl rfl (Nat.le_of_ble_eq_true rfl) dX12_way_194 (by decide) ?_
              refine j_aload_n 3 dX12_way_197 rfl ?_
              refine jg_RX12_207 rfl sh_193 dX12_way_198 ?_
              refine j_if_eq 207 dX12_way_201 (by decide) (fun z32 => ?_) (fun z32 => ?_)
              · replace hL := (if_pos z32).symm.trans hL
                refine j_aload_n 3 dX12_way_207 rfl ?_
                refine jg_RX12_90 rfl sh_193 dX12_way_208 ?_
                refine j_iload_n 5 dX12_way_211 rfl ?_
                refine j_iload 2 dX12_way_212 rfl ?_
                refine j_iadd dX12_way_214 ?_
                refine j_iload 1 dX12_way_215 rfl ?_
                obtain ⟨g33, hL⟩ := gd_ex hL
                refine j_iast (shf_12_23 sh_193) (ib_in g33) dX12_way_217 ?_
                obtain ⟨h34, eh34, hL⟩ := lt_ex hL
                refine j_heap eh34 ?_
                refine j_aload_n 3 dX12_way_218 rfl ?_
                refine jg_RX12_93 rfl sh_193 dX12_way_219 ?_
                refine j_iload_n 5 dX12_way_222 rfl ?_
                refine j_iload 2 dX12_way_223 rfl ?_
                refine j_iadd dX12_way_225 ?_
                refine j_iload 0 dX12_way_226 rfl ?_
                obtain ⟨g35, hL⟩ := gd_ex hL
                refine j_iast (shf_12_24 sh_193) (ib_in g35) dX12_way_228 ?_
                obtain ⟨h36, eh36, hL⟩ := lt_ex hL
                refine j_heap eh36 ?_
                refine j_goto 70 dX12_way_229 (by decide) ?_
                refine j_sub [3, 4, 5] rfl ?_
                exact ih  h36 r hL kE
              · replace hL := (if_neg z32).symm.trans hL
                refine j_goto 70 dX12_way_204 (by decide) ?_
                refine j_sub [3, 4, 5] rfl ?_
                exact ih  q31 r hL kE
            refine j_icmp_ne 163 dX12_way_118 (by decide) (fun z20 => ?_) (fun z20 => ?_)
            · replace hL := (if_neg z20).symm.trans hL
              refine j_sub [0, 1, 2] rfl ?_
              exact kj21  q19 hL
            · replace hL := (if_pos z20).symm.trans hL
              refine j_aload_n 0 dX12_way_121 rfl ?_
              refine jg_RX12_204 rfl sh_193 dX12_way_122 ?_
              refine j_aload_n 0 dX12_way_125 rfl ?_
              refine jg_RX12_182 rfl sh_193 dX12_way_126 ?_
              refine j_isub dX12_way_129 ?_
              refine j_iconst 4 dX12_way_130 (by decide) ?_
              refine j_icmp_gt 163 dX12_way_131 (by decide) (fun z22 => ?_) (fun z22 => ?_)
              · replace hL := (if_pos z22).symm.trans hL
                refine j_sub [0, 1, 2] rfl ?_
                exact kj21  q19 hL
              · replace hL := (if_neg z22).symm.trans hL
                refine j_aload_n 0 dX12_way_134 rfl ?_
                refine jg_RX12_194 rfl sh_193 dX12_way_135 ?_
                refine j_bipush 12 dX12_way_138 (by decide) ?_
                refine j_icmp_ge 163 dX12_way_140 (by decide) (fun z23 => ?_) (fun z23 => ?_)
                · replace hL := (if_pos z23).symm.trans hL
                  refine j_sub [0, 1, 2] rfl ?_
                  exact kj21  q19 hL
                · replace hL := (if_neg z23).symm.trans hL
                  refine j_aload_n 0 dX12_way_143 rfl ?_
                  refine jg_RX12_90 rfl sh_193 dX12_way_144 ?_
                  refine j_iload_n 2 dX12_way_147 rfl ?_
                  refine j_aload_n 0 dX12_way_148 rfl ?_
                  refine jg_RX12_194 rfl sh_193 dX12_way_149 ?_
                  refine j_iadd dX12_way_152 ?_
                  obtain ⟨g24, hL⟩ := gd_ex hL
                  refine j_iald (shf_12_23 sh_193) (ib_in g24) dX12_way_153 ?_
                  refine j_iconst (-1) dX12_way_154 (by decide) ?_
                  refine j_icmp_eq 163 dX12_way_155 (by decide) (fun z25 => ?_) (fun z25 => ?_)
                  · replace hL := (if_pos z25).symm.trans hL
                    refine j_sub [0, 1, 2] rfl ?_
                    exact kj21  q19 hL
                  · replace hL := (if_neg z25).symm.trans hL
                    refine j_aload_n 0 dX12_way_158 rfl ?_
                    refine j_iconst 5 dX12_way_159 (by decide) ?_
                    obtain ⟨q26, hq26, hL⟩ := bnd_ex hL
                    refine j_callVv (c_X12_wrong G 5 q19 _ hq26) cv_RX12_228 rfl sh_193 (by decide) rfl (by decide) rfl rfl (Nat.le_of_ble_eq_true rfl) dX12_way_160 (by decide) ?_
                    refine j_sub [0, 1, 2] rfl ?_
                    exact kj21  q26 hL
          · replace hL := (if_neg z18).symm.trans hL
            refine j_goto 70 dX12_way_106 (by decide) ?_
            refine j_sub [0, 1, 2] rfl ?_
            exact ih  h17 r hL kE
        refine j_ifz_ne 99 dX12_way_91 (by decide) (fun z14 => ?_) (fun z14 => ?_)
        · replace hL := (if_pos z14).symm.trans hL
          refine j_sub [0, 1, 2] rfl ?_
          exact kj15  h hL
        · replace hL := (if_neg z14).symm.trans hL
          refine j_aload_n 0 dX12_way_94 rfl ?_
          refine j_iconst 1 dX12_way_95 (by decide) ?_
          obtain ⟨q16, hq16, hL⟩ := bnd_ex hL
          refine j_callVv (c_X12_wrong G 1 h _ hq16) cv_RX12_228 rfl sh_193 (by decide) rfl (by decide) rfl rfl (Nat.le_of_ble_eq_true rfl) dX12_way_96 (by decide) ?_
          refine j_sub [0, 1, 2] rfl ?_
          exact kj15  q16 hL

set_option maxRecDepth 20000 in
theorem cl_X12_way_247 (G : GG) (K : KQ) (v1 : Int32) (v3 : Int32)  : ∀ (n : Nat) (v4 : Int32) (h : AH) (r : AH), f_X12_way_l247 v1 v3 n v4 h = some r → J G mX12_way 8 0 0 K 302 [] [] r → J G mX12_way 8 0 0 K 247 [(0, .ref (ad G 193)), (1, .int v1), (3, .int v3), (4, .int v4)] [] h := by
  intro n
  induction n with
  | zero => intro v4 h r hL; cases hL
  | succ n ih =>
    intro v4 h r hL kE
    unfold f_X12_way_l247 at hL
    refine j_iload 3 dX12_way_247 rfl ?_
    refine j_bipush 12 dX12_way_249 (by decide) ?_
    refine j_icmp_ge 302 dX12_way_251 (by decide) (fun z39 => ?_) (fun z39 => ?_)
    · replace hL := (if_pos z39).symm.trans hL
      cases hL
      refine j_sub [] rfl ?_
      exact kE 
    · replace hL := (if_neg z39).symm.trans hL
      refine j_aload_n 0 dX12_way_254 rfl ?_
      refine jg_RX12_90 rfl sh_193 dX12_way_255 ?_
      refine j_bipush 12 dX12_way_258 (by decide) ?_
      refine j_iload_n 1 dX12_way_260 rfl ?_
      refine j_imul dX12_way_261 ?_
      refine j_iload 3 dX12_way_262 rfl ?_
      refine j_iadd dX12_way_264 ?_
      refine j_aload_n 0 dX12_way_265 rfl ?_
      refine jg_RX12_90 rfl sh_193 dX12_way_266 ?_
      refine j_iload_n 2 dX12_way_269 rfl ?_
      refine j_iload 3 dX12_way_270 rfl ?_
      refine j_iadd dX12_way_272 ?_
      obtain ⟨g40, hL⟩ := gd_ex hL
      refine j_iald (shf_12_23 sh_193) (ib_in g40) dX12_way_273 ?_
      obtain ⟨g41, hL⟩ := gd_ex hL
      refine j_iast (shf_12_23 sh_193) (ib_in g41) dX12_way_274 ?_
      obtain ⟨h42, eh42, hL⟩ := lt_ex hL
      refine j_heap eh42 ?_
      refine j_aload_n 0 dX12_way_275 rfl ?_
      refine jg_RX12_93 rfl sh_193 dX12_way_276 ?_
      refine j_bipush 12 dX12_way_279 (by decide) ?_
      refine j_iload_n 1 dX12_way_281 rfl ?_
      refine j_imul dX12_way_282 ?_
      refine j_iload 3 dX12_way_283 rfl ?_
      refine j_iadd dX12_way_285 ?_
      refine j_aload_n 0 dX12_way_286 rfl ?_
      refine jg_RX12_93 rfl sh_193 dX12_way_287 ?_
      refine j_iload_n 2 dX12_way_290 rfl ?_
      refine j_iload 3 dX12_way_291 rfl ?_
      refine j_iadd dX12_way_293 ?_
      obtain ⟨g43, hL⟩ := gd_ex hL
      refine j_iald (shf_12_24 sh_193) (ib_in g43) dX12_way_294 ?_
      obtain ⟨g44, hL⟩ := gd_ex hL
      refine j_iast (shf_12_24 sh_193) (ib_in g44) dX12_way_295 ?_
      obtain ⟨h45, eh45, hL⟩ := lt_ex hL
      refine j_heap eh45 ?_
      refine j_iinc (lv' := [(4, .int (v4 + 1)), (0, .ref (ad G 193)), (1, .int v1), (3, .int v3)]) 3 dX12_way_296 rfl rfl (by decide) rfl ?_
      refine j_goto 247 dX12_way_299 (by decide) ?_
      refine j_sub [1, 2, 3, 0] rfl ?_
      exact ih (v4 + 1) h45 r hL kE

set_option maxRecDepth 20000 in
theorem c_X12_way (G : GG) (v1 : Int32) (v2 : Int32) (h : AH) (r : Int32 × AH) (hL : f_X12_way v1 v2 h = some r) : SpI G 8 mX12_way [.ref (ad G 193), .int v1, .int v2] h r.1 r.2 := by
  refine sp_i pf_X12_way (Nat.le_of_ble_eq_true rfl) ?_
  show J G mX12_way 8 0 0 (KMi G r.1 r.2) 0 [(0, .ref (ad G 193)), (1, .int v1), (2, .int v2)] [] h
  obtain ⟨K, hK⟩ : ∃ K, K = KMi G r.1 r.2 := ⟨_, rfl⟩
  rw [← hK]
  unfold f_X12_way at hL
  refine j_aload_n 0 dX12_way_0 rfl ?_
  refine j_iconst 0 dX12_way_1 (by decide) ?_
  refine jp_RX12_158 rfl sh_193 dX12_way_2 ?_
  obtain ⟨h1, eh1, hL⟩ := lt_ex hL
  refine j_heap eh1 ?_
  refine j_iload_n 1 dX12_way_5 rfl ?_
  refine j_callSi (c_X12_isWay G v1 h1) cv_RX12_279 rfl (by decide) rfl rfl (Nat.le_of_ble_eq_true rfl) dX12_way_6 (by decide) ?_
  refine j_ifz_ne 18 dX12_way_9 (by decide) (fun z2 => ?_) (fun z2 => ?_)
  · replace hL := (if_pos z2).symm.trans hL
    refine j_iload_n 2 dX12_way_18 rfl ?_
    refine j_if_lt 30 dX12_way_19 (by decide) (fun z3 => ?_) (fun z3 => ?_)
    · replace hL := (if_pos z3).symm.trans hL
      refine j_aload_n 0 dX12_way_30 rfl ?_
      refine j_iconst 2 dX12_way_31 (by decide) ?_
      obtain ⟨q4, hq4, hL⟩ := bnd_ex hL
      refine j_callVi (c_X12_fail G 2 h1 _ hq4) cv_RX12_263 rfl sh_193 (by decide) rfl (by decide) rfl rfl (Nat.le_of_ble_eq_true rfl) dX12_way_32 (by decide) ?_
      cases hL
      exact j_reti dX12_way_35 rfl hK
    · replace hL := (if_neg z3).symm.trans hL
      refine j_iload_n 2 dX12_way_22 rfl ?_
      refine j_aload_n 0 dX12_way_23 rfl ?_
      refine jg_RX12_169 rfl sh_193 dX12_way_24 ?_
      refine j_icmp_le 36 dX12_way_27 (by decide) (fun z5 => ?_) (fun z5 => ?_)
      · replace hL := (if_pos z5).symm.trans hL
        refine j_aload_n 0 dX12_way_36 rfl ?_
        refine j_iload_n 2 dX12_way_37 rfl ?_
        obtain ⟨q6, hq6, hL⟩ := bnd_ex hL
        refine j_callVv (c_X12_begin G v2 h1 _ hq6) cv_RX12_266 rfl sh_193 (by decide) rfl (by decide) rfl rfl (Nat.le_of_ble_eq_true rfl) dX12_way_38 (by decide) ?_
        refine j_bipush 72 dX12_way_41 (by decide) ?_
        refine j_istore_n (lv' := [(3, .int 72), (0, .ref (ad G 193)), (1, .int v1), (2, .int v2)]) dX12_way_43 (by decide) rfl ?_
        refine j_iconst 0 dX12_way_44 (by decide) ?_
        refine j_istore (lv' := [(4, .int 0), (3, .int 72), (0, .ref (ad G 193)), (1, .int v1), (2, .int v2)]) dX12_way_45 (by decide) rfl ?_
        obtain ⟨q10, hq10, hL⟩ := bnd_ex hL
        refine j_sub [2, 3, 1, 0] rfl ?_
        refine cl_X12_way_47 G K v1 72 FU 0 q6 q10 hq10 ?_
        obtain ⟨q37, hq37, hL⟩ := bnd_ex hL
        refine j_sub [0, 1, 2] rfl ?_
        refine cl_X12_way_70 G K v1 72 FU  q10 q37 hq37 ?_
        refine j_aload_n 0 dX12_way_232 rfl ?_
        refine jg_RX12_207 rfl sh_193 dX12_way_233 ?_
        refine j_if_eq 244 dX12_way_236 (by decide) (fun z38 => ?_) (fun z38 => ?_)
        · replace hL := (if_pos z38).symm.trans hL
          refine j_iconst 0 dX12_way_244 (by decide) ?_
          refine j_istore (lv' := [(4, .int 0), (0, .ref (ad G 193)), (1, .int v1), (3, .int 72)]) dX12_way_245 (by decide) rfl ?_
          obtain ⟨q46, hq46, hL⟩ := bnd_ex hL
          refine j_sub [1, 2, 3, 0] rfl ?_
          refine cl_X12_way_247 G K v1 72 FU 0 q37 q46 hq46 ?_
          refine j_iconst 0 dX12_way_302 (by decide) ?_
          cases hL
          exact j_reti dX12_way_303 rfl hK
        · replace hL := (if_neg z38).symm.trans hL
          refine j_aload_n 0 dX12_way_239 rfl ?_
          obtain ⟨q47, hq47, hL⟩ := bnd_ex hL
          refine j_callVi (c_X12_fallen G  q37 _ hq47) cv_RX12_272 rfl sh_193 (by decide) rfl (by decide) rfl rfl (Nat.le_of_ble_eq_true rfl) dX12_way_240 (by decide) ?_
          cases hL
          exact j_reti dX12_way_243 rfl hK
      · replace hL := (if_neg z5).symm.trans hL
        refine j_aload_n 0 dX12_way_30 rfl ?_
        refine j_iconst 2 dX12_way_31 (by decide) ?_
        obtain ⟨q48, hq48, hL⟩ := bnd_ex hL
        refine j_callVi (c_X12_fail G 2 h1 _ hq48) cv_RX12_263 rfl sh_193 (by decide) rfl (by decide) rfl rfl (Nat.le_of_ble_eq_true rfl) dX12_way_32 (by decide) ?_
        cases hL
        exact j_reti dX12_way_35 rfl hK
  · replace hL := (if_neg z2).symm.trans hL
    refine j_aload_n 0 dX12_way_12 rfl ?_
    refine j_iconst 1 dX12_way_13 (by decide) ?_
    obtain ⟨q49, hq49, hL⟩ := bnd_ex hL
    refine j_callVi (c_X12_fail G 1 h1 _ hq49) cv_RX12_263 rfl sh_193 (by decide) rfl (by decide) rfl rfl (Nat.le_of_ble_eq_true rfl) dX12_way_14 (by decide) ?_
    cases hL
    exact j_reti dX12_way_17 rfl hK

def f_X12_fault  (h : AH) : Option (Int32 × AH) := lt (sfi h 193 2 0) (fun h1 => some (hfi h1 193 36, h1))
set_option maxRecDepth 20000 in
theorem c_X12_fault (G : GG)  (h : AH) (r : Int32 × AH) (hL : f_X12_fault h = some r) : SpI G 1 mX12_fault [.ref (ad G 193)] h r.1 r.2 := by
  refine sp_i pf_X12_fault (Nat.le_of_ble_eq_true rfl) ?_
  show J G mX12_fault 1 0 0 (KMi G r.1 r.2) 0 [(0, .ref (ad G 193))] [] h
  obtain ⟨K, hK⟩ : ∃ K, K = KMi G r.1 r.2 := ⟨_, rfl⟩
  rw [← hK]
  unfold f_X12_fault at hL
  refine j_aload_n 0 dX12_fault_0 rfl ?_
  refine j_iconst 0 dX12_fault_1 (by decide) ?_
  refine jp_RX12_158 rfl sh_193 dX12_fault_2 ?_
  obtain ⟨h1, eh1, hL⟩ := lt_ex hL
  refine j_heap eh1 ?_
  refine j_aload_n 0 dX12_fault_5 rfl ?_
  refine jg_RX12_102 rfl sh_193 dX12_fault_6 ?_
  cases hL
  exact j_reti dX12_fault_9 rfl hK

def f_X12_count (v1 : Int32) (h : AH) : Option (Int32 × AH) := lt (sfi h 193 2 0) (fun h1 => if (f_X12_isIn v1 0 2) = true then gd (ib v1 6 = true) (some (hia h1 215 (cl v1), h1)) else if (f_X12_isIn v1 5 8) = true then gd (ib (v1 - 5) 4 = true) (some (hia h1 218 (cl (v1 - 5)), h1)) else if v1 = 3 then some (hfi h1 193 27, h1) else if v1 = 4 then some (hfi h1 193 52, h1) else bnd (f_X12_fail 1 h1) (fun q6 => some (q6.1, q6.2)))
set_option maxRecDepth 20000 in
theorem c_X12_count (G : GG) (v1 : Int32) (h : AH) (r : Int32 × AH) (hL : f_X12_count v1 h = some r) : SpI G 2 mX12_count [.ref (ad G 193), .int v1] h r.1 r.2 := by
  refine sp_i pf_X12_count (Nat.le_of_ble_eq_true rfl) ?_
  show J G mX12_count 2 0 0 (KMi G r.1 r.2) 0 [(0, .ref (ad G 193)), (1, .int v1)] [] h
  obtain ⟨K, hK⟩ : ∃ K, K = KMi G r.1 r.2 := ⟨_, rfl⟩
  rw [← hK]
  unfold f_X12_count at hL
  refine j_aload_n 0 dX12_count_0 rfl ?_
  refine j_iconst 0 dX12_count_1 (by decide) ?_
  refine jp_RX12_158 rfl sh_193 dX12_count_2 ?_
  obtain ⟨h1, eh1, hL⟩ := lt_ex hL
  refine j_heap eh1 ?_
  refine j_iload_n 1 dX12_count_5 rfl ?_
  refine j_iconst 0 dX12_count_6 (by decide) ?_
  refine j_iconst 2 dX12_count_7 (by decide) ?_
  refine j_callSi (c_X12_isIn G v1 0 2 h1) cv_RX12_161 rfl (by decide) rfl rfl (Nat.le_of_ble_eq_true rfl) dX12_count_8 (by decide) ?_
  refine j_ifz_eq 21 dX12_count_11 (by decide) (fun z2 => ?_) (fun z2 => ?_)
  · replace hL := (if_neg z2).symm.trans hL
    refine j_iload_n 1 dX12_count_21 rfl ?_
    refine j_iconst 5 dX12_count_22 (by decide) ?_
    refine j_bipush 8 dX12_count_23 (by decide) ?_
    refine j_callSi (c_X12_isIn G v1 5 8 h1) cv_RX12_161 rfl (by decide) rfl rfl (Nat.le_of_ble_eq_true rfl) dX12_count_25 (by decide) ?_
    refine j_ifz_eq 40 dX12_count_28 (by decide) (fun z3 => ?_) (fun z3 => ?_)
    · replace hL := (if_neg z3).symm.trans hL
      refine j_iload_n 1 dX12_count_40 rfl ?_
      refine j_iconst 3 dX12_count_41 (by decide) ?_
      refine j_icmp_ne 52 dX12_count_42 (by decide) (fun z4 => ?_) (fun z4 => ?_)
      · replace hL := (if_neg z4).symm.trans hL
        refine j_iload_n 1 dX12_count_52 rfl ?_
        refine j_iconst 4 dX12_count_53 (by decide) ?_
        refine j_icmp_ne 64 dX12_count_54 (by decide) (fun z5 => ?_) (fun z5 => ?_)
        · replace hL := (if_neg z5).symm.trans hL
          refine j_aload_n 0 dX12_count_64 rfl ?_
          refine j_iconst 1 dX12_count_65 (by decide) ?_
          obtain ⟨q6, hq6, hL⟩ := bnd_ex hL
          refine j_callVi (c_X12_fail G 1 h1 _ hq6) cv_RX12_263 rfl sh_193 (by decide) rfl (by decide) rfl rfl (Nat.le_of_ble_eq_true rfl) dX12_count_66 (by decide) ?_
          cases hL
          exact j_reti dX12_count_69 rfl hK
        · replace hL := (if_pos z5).symm.trans hL
          refine j_aload_n 0 dX12_count_57 rfl ?_
          refine jg_RX12_285 rfl sh_193 dX12_count_58 ?_
          refine j_goto 69 dX12_count_61 (by decide) ?_
          cases hL
          exact j_reti dX12_count_69 rfl hK
      · replace hL := (if_pos z4).symm.trans hL
        refine j_aload_n 0 dX12_count_45 rfl ?_
        refine jg_RX12_169 rfl sh_193 dX12_count_46 ?_
        refine j_goto 69 dX12_count_49 (by decide) ?_
        cases hL
        exact j_reti dX12_count_69 rfl hK
    · replace hL := (if_pos z3).symm.trans hL
      refine j_aload_n 0 dX12_count_31 rfl ?_
      refine jg_RX12_96 rfl sh_193 dX12_count_32 ?_
      refine j_iload_n 1 dX12_count_35 rfl ?_
      refine j_iconst 5 dX12_count_36 (by decide) ?_
      refine j_isub dX12_count_37 ?_
      obtain ⟨g7, hL⟩ := gd_ex hL
      refine j_iald (shf_12_25 sh_193) (ib_in g7) dX12_count_38 ?_
      cases hL
      exact j_reti dX12_count_39 rfl hK
  · replace hL := (if_pos z2).symm.trans hL
    refine j_aload_n 0 dX12_count_14 rfl ?_
    refine jg_RX12_87 rfl sh_193 dX12_count_15 ?_
    refine j_iload_n 1 dX12_count_18 rfl ?_
    obtain ⟨g8, hL⟩ := gd_ex hL
    refine j_iald (shf_12_22 sh_193) (ib_in g8) dX12_count_19 ?_
    cases hL
    exact j_reti dX12_count_20 rfl hK

def f_X12_isKnown_l2 (v1 : Int32) (h : AH) : Nat → Int32 → Option ((Unit) ⊕ (Bool))
  | 0, _ => none
  | n + 1, v2 => gd (ib v1 8 = true) (if (hia h 196 (cl v1)) ≤ v2 then some (.inl ()) else gd (ib (f_X12_at v1 v2) 320 = true) (if (hia h 208 (cl (f_X12_at v1 v2))) = (-1) then some (.inr false) else f_X12_isKnown_l2 v1 h n (v2 + 1)))
def f_X12_isKnown (v1 : Int32) (h : AH) : Option (Bool) := bnd (f_X12_isKnown_l2 v1 h FU 0) (fun q5 => Sum.elim (fun xq5 => gd (ib v1 8 = true) (if (hia h 196 (cl v1)) ≤ 0 then some false else some true)) (fun xq5 => some xq5) q5)
set_option maxRecDepth 20000 in
theorem cl_X12_isKnown_2 (G : GG) (K : KQ) (v1 : Int32)  : ∀ (n : Nat) (v2 : Int32) (h : AH) (r : (Unit) ⊕ (Bool)), f_X12_isKnown_l2 v1 h n v2 = some r → (∀ x, r = .inl x → J G mX12_isKnown 2 0 0 K 34 [(0, .ref (ad G 193)), (1, .int v1)] [] h) → (∀ x, r = .inr x → K = KMi G (bI x) h) → J G mX12_isKnown 2 0 0 K 2 [(0, .ref (ad G 193)), (1, .int v1), (2, .int v2)] [] h := by
  intro n
  induction n with
  | zero => intro v2 h r hL; cases hL
  | succ n ih =>
    intro v2 h r hL kE kR
    unfold f_X12_isKnown_l2 at hL
    refine j_iload_n 2 dX12_isKnown_2 rfl ?_
    refine j_aload_n 0 dX12_isKnown_3 rfl ?_
    refine jg_RX12_32 rfl sh_193 dX12_isKnown_4 ?_
    refine j_iload_n 1 dX12_isKnown_7 rfl ?_
    obtain ⟨g1, hL⟩ := gd_ex hL
    refine j_iald (shf_12_3 sh_193) (ib_in g1) dX12_isKnown_8 ?_
    refine j_icmp_ge 34 dX12_isKnown_9 (by decide) (fun z2 => ?_) (fun z2 => ?_)
    · replace hL := (if_pos z2).symm.trans hL
      cases hL
      refine j_sub [0, 1] rfl ?_
      exact kE _ rfl
    · replace hL := (if_neg z2).symm.trans hL
      refine j_aload_n 0 dX12_isKnown_12 rfl ?_
      refine jg_RX12_66 rfl sh_193 dX12_isKnown_13 ?_
      refine j_iload_n 1 dX12_isKnown_16 rfl ?_
      refine j_iload_n 2 dX12_isKnown_17 rfl ?_
      refine j_callSi (c_X12_at G v1 v2 h) cv_RX12_244 rfl (by decide) rfl rfl (Nat.le_of_ble_eq_true rfl) dX12_isKnown_18 (by decide) ?_
      obtain ⟨g3, hL⟩ := gd_ex hL
      refine j_iald (shf_12_15 sh_193) (ib_in g3) dX12_isKnown_21 ?_
      refine j_iconst (-1) dX12_isKnown_22 (by decide) ?_
      refine j_icmp_ne 28 dX12_isKnown_23 (by decide) (fun z4 => ?_) (fun z4 => ?_)
      · replace hL := (if_neg z4).symm.trans hL
        refine j_iinc (lv' := [(2, .int (v2 + 1)), (0, .ref (ad G 193)), (1, .int v1)]) 2 dX12_isKnown_28 rfl rfl (by decide) rfl ?_
        refine j_goto 2 dX12_isKnown_31 (by decide) ?_
        refine j_sub [1, 2, 0] rfl ?_
        exact ih (v2 + 1) h r hL kE kR
      · replace hL := (if_pos z4).symm.trans hL
        refine j_iconst 0 dX12_isKnown_26 (by decide) ?_
        cases hL
        exact j_ret0 dX12_isKnown_27 rfl (kR _ rfl)

set_option maxRecDepth 20000 in
theorem c_X12_isKnown (G : GG) (v1 : Int32) (h : AH) (r : Bool) (hL : f_X12_isKnown v1 h = some r) : SpI G 2 mX12_isKnown [.ref (ad G 193), .int v1] h (bI r) h := by
  refine sp_i pf_X12_isKnown (Nat.le_of_ble_eq_true rfl) ?_
  show J G mX12_isKnown 2 0 0 (KMi G (bI r) h) 0 [(0, .ref (ad G 193)), (1, .int v1)] [] h
  obtain ⟨K, hK⟩ : ∃ K, K = KMi G (bI r) h := ⟨_, rfl⟩
  rw [← hK]
  unfold f_X12_isKnown at hL
  refine j_iconst 0 dX12_isKnown_0 (by decide) ?_
  refine j_istore_n (lv' := [(2, .int 0), (0, .ref (ad G 193)), (1, .int v1)]) dX12_isKnown_1 (by decide) rfl ?_
  obtain ⟨q5, hq5, hL⟩ := bnd_ex hL
  refine j_sub [1, 2, 0] rfl ?_
  refine cl_X12_isKnown_2 G K v1 FU 0 h q5 hq5 (fun xq5 eq5 => ?_) (fun xq5 eq5 => ?_)
  · subst eq5
    refine j_aload_n 0 dX12_isKnown_34 rfl ?_
    refine jg_RX12_32 rfl sh_193 dX12_isKnown_35 ?_
    refine j_iload_n 1 dX12_isKnown_38 rfl ?_
    obtain ⟨g6, hL⟩ := gd_ex hL
    refine j_iald (shf_12_3 sh_193) (ib_in g6) dX12_isKnown_39 ?_
    refine j_if_le 47 dX12_isKnown_40 (by decide) (fun z7 => ?_) (fun z7 => ?_)
    · replace hL := (if_pos z7).symm.trans hL
      refine j_iconst 0 dX12_isKnown_47 (by decide) ?_
      cases hL
      exact j_ret0 dX12_isKnown_48 rfl hK
    · replace hL := (if_neg z7).symm.trans hL
      refine j_iconst 1 dX12_isKnown_43 (by decide) ?_
      refine j_goto 48 dX12_isKnown_44 (by decide) ?_
      cases hL
      exact j_ret1 dX12_isKnown_48 rfl hK
  · subst eq5
    cases hL
    exact hK

def f_X12_kindsOf_l4 (v1 : Int32) (h : AH) : Nat → Int32 → Int32 → Option (Int32)
  | 0, _, _ => none
  | n + 1, v2, v3 => gd (ib v1 8 = true) (if (hia h 196 (cl v1)) ≤ v3 then some v2 else gd (ib (f_X12_at v1 v3) 320 = true) (f_X12_kindsOf_l4 v1 h n (v2 ||| (1 <<< (((hia h 202 (cl (f_X12_at v1 v3))) : Int32) &&& 31))) (v3 + 1)))
def f_X12_kindsOf (v1 : Int32) (h : AH) : Option (Int32) := bnd (f_X12_kindsOf_l4 v1 h FU 0 0) (fun q4 => some q4)
set_option maxRecDepth 20000 in
theorem cl_X12_kindsOf_4 (G : GG) (K : KQ) (v1 : Int32)  : ∀ (n : Nat) (v2 : Int32) (v3 : Int32) (h : AH) (r : Int32), f_X12_kindsOf_l4 v1 h n v2 v3 = some r → J G mX12_kindsOf 2 0 0 K 35 [(2, .int r)] [] h → J G mX12_kindsOf 2 0 0 K 4 [(0, .ref (ad G 193)), (1, .int v1), (2, .int v2), (3, .int v3)] [] h := by
  intro n
  induction n with
  | zero => intro v2 v3 h r hL; cases hL
  | succ n ih =>
    intro v2 v3 h r hL kE
    unfold f_X12_kindsOf_l4 at hL
    refine j_iload_n 3 dX12_kindsOf_4 rfl ?_
    refine j_aload_n 0 dX12_kindsOf_5 rfl ?_
    refine jg_RX12_32 rfl sh_193 dX12_kindsOf_6 ?_
    refine j_iload_n 1 dX12_kindsOf_9 rfl ?_
    obtain ⟨g1, hL⟩ := gd_ex hL
    refine j_iald (shf_12_3 sh_193) (ib_in g1) dX12_kindsOf_10 ?_
    refine j_icmp_ge 35 dX12_kindsOf_11 (by decide) (fun z2 => ?_) (fun z2 => ?_)
    · replace hL := (if_pos z2).symm.trans hL
      cases hL
      refine j_sub [2] rfl ?_
      exact kE 
    · replace hL := (if_neg z2).symm.trans hL
      refine j_iload_n 2 dX12_kindsOf_14 rfl ?_
      refine j_iconst 1 dX12_kindsOf_15 (by decide) ?_
      refine j_aload_n 0 dX12_kindsOf_16 rfl ?_
      refine jg_RX12_50 rfl sh_193 dX12_kindsOf_17 ?_
      refine j_iload_n 1 dX12_kindsOf_20 rfl ?_
      refine j_iload_n 3 dX12_kindsOf_21 rfl ?_
      refine j_callSi (c_X12_at G v1 v3 h) cv_RX12_244 rfl (by decide) rfl rfl (Nat.le_of_ble_eq_true rfl) dX12_kindsOf_22 (by decide) ?_
      obtain ⟨g3, hL⟩ := gd_ex hL
      refine j_iald (shf_12_9 sh_193) (ib_in g3) dX12_kindsOf_25 ?_
      refine j_ishl dX12_kindsOf_26 ?_
      refine j_ior dX12_kindsOf_27 ?_
      refine j_istore_n (lv' := [(2, .int (v2 ||| (1 <<< (((hia h 202 (cl (f_X12_at v1 v3))) : Int32) &&& 31)))), (0, .ref (ad G 193)), (1, .int v1), (3, .int v3)]) dX12_kindsOf_28 (by decide) rfl ?_
      refine j_iinc (lv' := [(3, .int (v3 + 1)), (2, .int (v2 ||| (1 <<< (((hia h 202 (cl (f_X12_at v1 v3))) : Int32) &&& 31)))), (0, .ref (ad G 193)), (1, .int v1)]) 3 dX12_kindsOf_29 rfl rfl (by decide) rfl ?_
      refine j_goto 4 dX12_kindsOf_32 (by decide) ?_
      refine j_sub [2, 3, 1, 0] rfl ?_
      exact ih (v2 ||| (1 <<< (((hia h 202 (cl (f_X12_at v1 v3))) : Int32) &&& 31))) (v3 + 1) h r hL kE

set_option maxRecDepth 20000 in
theorem c_X12_kindsOf (G : GG) (v1 : Int32) (h : AH) (r : Int32) (hL : f_X12_kindsOf v1 h = some r) : SpI G 2 mX12_kindsOf [.ref (ad G 193), .int v1] h r h := by
  refine sp_i pf_X12_kindsOf (Nat.le_of_ble_eq_true rfl) ?_
  show J G mX12_kindsOf 2 0 0 (KMi G r h) 0 [(0, .ref (ad G 193)), (1, .int v1)] [] h
  obtain ⟨K, hK⟩ : ∃ K, K = KMi G r h := ⟨_, rfl⟩
  rw [← hK]
  unfold f_X12_kindsOf at hL
  refine j_iconst 0 dX12_kindsOf_0 (by decide) ?_
  refine j_istore_n (lv' := [(2, .int 0), (0, .ref (ad G 193)), (1, .int v1)]) dX12_kindsOf_1 (by decide) rfl ?_
  refine j_iconst 0 dX12_kindsOf_2 (by decide) ?_
  refine j_istore_n (lv' := [(3, .int 0), (2, .int 0), (0, .ref (ad G 193)), (1, .int v1)]) dX12_kindsOf_3 (by decide) rfl ?_
  obtain ⟨q4, hq4, hL⟩ := bnd_ex hL
  refine j_sub [2, 3, 1, 0] rfl ?_
  refine cl_X12_kindsOf_4 G K v1 FU 0 0 h q4 hq4 ?_
  refine j_iload_n 0 dX12_kindsOf_35 rfl ?_
  cases hL
  exact j_reti dX12_kindsOf_36 rfl hK

def f_X12_about (v1 : Int32) (v2 : Int32) (h : AH) : Option (Int32 × AH) := lt (sfi h 193 2 0) (fun h1 => if (f_X12_isBook v1) = true then if v2 = 0 then gd (ib v1 8 = true) (some (hia h1 196 (cl v1), h1)) else (if v2 = 1 then gd (ib v1 8 = true) (some (hia h1 197 (cl v1), h1)) else (if v2 = 2 then gd (ib v1 8 = true) (some (hia h1 200 (cl v1), h1)) else (if v2 = 3 then gd (ib v1 8 = true) (some (hia h1 198 (cl v1), h1)) else (if v2 = 4 then bnd (f_X12_isKnown v1 h1) (fun q12 => if q12 = true then some (1, h1) else some (0, h1)) else (if v2 = 5 then gd (ib v1 8 = true) (some (hia h1 199 (cl v1), h1)) else (if v2 = 6 then bnd (f_X12_kindsOf v1 h1) (fun q17 => some (q17, h1)) else (bnd (f_X12_fail 1 h1) (fun q18 => some (q18.1, q18.2))))))))) else bnd (f_X12_fail 1 h1) (fun q19 => some (q19.1, q19.2)))
set_option maxRecDepth 20000 in
theorem c_X12_about (G : GG) (v1 : Int32) (v2 : Int32) (h : AH) (r : Int32 × AH) (hL : f_X12_about v1 v2 h = some r) : SpI G 3 mX12_about [.ref (ad G 193), .int v1, .int v2] h r.1 r.2 := by
  refine sp_i pf_X12_about (Nat.le_of_ble_eq_true rfl) ?_
  show J G mX12_about 3 0 0 (KMi G r.1 r.2) 0 [(0, .ref (ad G 193)), (1, .int v1), (2, .int v2)] [] h
  obtain ⟨K, hK⟩ : ∃ K, K = KMi G r.1 r.2 := ⟨_, rfl⟩
  rw [← hK]
  unfold f_X12_about at hL
  refine j_aload_n 0 dX12_about_0 rfl ?_
  refine j_iconst 0 dX12_about_1 (by decide) ?_
  refine jp_RX12_158 rfl sh_193 dX12_about_2 ?_
  obtain ⟨h1, eh1, hL⟩ := lt_ex hL
  refine j_heap eh1 ?_
  refine j_iload_n 1 dX12_about_5 rfl ?_
  refine j_callSi (c_X12_isBook G v1 h1) cv_RX12_165 rfl (by decide) rfl rfl (Nat.le_of_ble_eq_true rfl) dX12_about_6 (by decide) ?_
  refine j_ifz_ne 18 dX12_about_9 (by decide) (fun z2 => ?_) (fun z2 => ?_)
  · replace hL := (if_pos z2).symm.trans hL
    refine j_iload_n 2 dX12_about_18 rfl ?_
    by_cases z3 : v2 = 0
    · replace hL := (if_pos z3).symm.trans hL
      refine j_swIn 60 dX12_about_19 (by rw [z3]; decide) (by rw [z3]; decide) (by rw [z3]; rfl) (by decide) ?_
      refine j_aload_n 0 dX12_about_60 rfl ?_
      refine jg_RX12_32 rfl sh_193 dX12_about_61 ?_
      refine j_iload_n 1 dX12_about_64 rfl ?_
      obtain ⟨g4, hL⟩ := gd_ex hL
      refine j_iald (shf_12_3 sh_193) (ib_in g4) dX12_about_65 ?_
      cases hL
      exact j_reti dX12_about_66 rfl hK
    · replace hL := (if_neg z3).symm.trans hL
      by_cases z5 : v2 = 1
      · replace hL := (if_pos z5).symm.trans hL
        refine j_swIn 67 dX12_about_19 (by rw [z5]; decide) (by rw [z5]; decide) (by rw [z5]; rfl) (by decide) ?_
        refine j_aload_n 0 dX12_about_67 rfl ?_
        refine jg_RX12_36 rfl sh_193 dX12_about_68 ?_
        refine j_iload_n 1 dX12_about_71 rfl ?_
        obtain ⟨g6, hL⟩ := gd_ex hL
        refine j_iald (shf_12_4 sh_193) (ib_in g6) dX12_about_72 ?_
        cases hL
        exact j_reti dX12_about_73 rfl hK
      · replace hL := (if_neg z5).symm.trans hL
        by_cases z7 : v2 = 2
        · replace hL := (if_pos z7).symm.trans hL
          refine j_swIn 74 dX12_about_19 (by rw [z7]; decide) (by rw [z7]; decide) (by rw [z7]; rfl) (by decide) ?_
          refine j_aload_n 0 dX12_about_74 rfl ?_
          refine jg_RX12_44 rfl sh_193 dX12_about_75 ?_
          refine j_iload_n 1 dX12_about_78 rfl ?_
          obtain ⟨g8, hL⟩ := gd_ex hL
          refine j_iald (shf_12_7 sh_193) (ib_in g8) dX12_about_79 ?_
          cases hL
          exact j_reti dX12_about_80 rfl hK
        · replace hL := (if_neg z7).symm.trans hL
          by_cases z9 : v2 = 3
          · replace hL := (if_pos z9).symm.trans hL
            refine j_swIn 81 dX12_about_19 (by rw [z9]; decide) (by rw [z9]; decide) (by rw [z9]; rfl) (by decide) ?_
            refine j_aload_n 0 dX12_about_81 rfl ?_
            refine jg_RX12_39 rfl sh_193 dX12_about_82 ?_
            refine j_iload_n 1 dX12_about_85 rfl ?_
            obtain ⟨g10, hL⟩ := gd_ex hL
            refine j_iald (shf_12_5 sh_193) (ib_in g10) dX12_about_86 ?_
            cases hL
            exact j_reti dX12_about_87 rfl hK
          · replace hL := (if_neg z9).symm.trans hL
            by_cases z11 : v2 = 4
            · replace hL := (if_pos z11).symm.trans hL
              refine j_swIn 88 dX12_about_19 (by rw [z11]; decide) (by rw [z11]; decide) (by rw [z11]; rfl) (by decide) ?_
              refine j_aload_n 0 dX12_about_88 rfl ?_
              refine j_iload_n 1 dX12_about_89 rfl ?_
              obtain ⟨q12, hq12, hL⟩ := bnd_ex hL
              refine j_callVi (c_X12_isKnown G v1 h1 _ hq12) cv_RX12_288 rfl sh_193 (by decide) rfl (by decide) rfl rfl (Nat.le_of_ble_eq_true rfl) dX12_about_90 (by decide) ?_
              refine j_ifz_eq 100 dX12_about_93 (by decide) (fun z13 => ?_) (fun z13 => ?_)
              · replace hL := (if_neg z13).symm.trans hL
                refine j_iconst 0 dX12_about_100 (by decide) ?_
                cases hL
                exact j_reti dX12_about_101 rfl hK
              · replace hL := (if_pos z13).symm.trans hL
                refine j_iconst 1 dX12_about_96 (by decide) ?_
                refine j_goto 101 dX12_about_97 (by decide) ?_
                cases hL
                exact j_reti dX12_about_101 rfl hK
            · replace hL := (if_neg z11).symm.trans hL
              by_cases z14 : v2 = 5
              · replace hL := (if_pos z14).symm.trans hL
                refine j_swIn 102 dX12_about_19 (by rw [z14]; decide) (by rw [z14]; decide) (by rw [z14]; rfl) (by decide) ?_
                refine j_aload_n 0 dX12_about_102 rfl ?_
                refine jg_RX12_41 rfl sh_193 dX12_about_103 ?_
                refine j_iload_n 1 dX12_about_106 rfl ?_
                obtain ⟨g15, hL⟩ := gd_ex hL
                refine j_iald (shf_12_6 sh_193) (ib_in g15) dX12_about_107 ?_
                cases hL
                exact j_reti dX12_about_108 rfl hK
              · replace hL := (if_neg z14).symm.trans hL
                by_cases z16 : v2 = 6
                · replace hL := (if_pos z16).symm.trans hL
                  refine j_swIn 109 dX12_about_19 (by rw [z16]; decide) (by rw [z16]; decide) (by rw [z16]; rfl) (by decide) ?_
                  refine j_aload_n 0 dX12_about_109 rfl ?_
                  refine j_iload_n 1 dX12_about_110 rfl ?_
                  obtain ⟨q17, hq17, hL⟩ := bnd_ex hL
                  refine j_callVi (c_X12_kindsOf G v1 h1 _ hq17) cv_RX12_291 rfl sh_193 (by decide) rfl (by decide) rfl rfl (Nat.le_of_ble_eq_true rfl) dX12_about_111 (by decide) ?_
                  cases hL
                  exact j_reti dX12_about_114 rfl hK
                · replace hL := (if_neg z16).symm.trans hL
                  refine j_swOut 115 dX12_about_19 (sw_out (by have wz3 := sw_ne z3 (k := 0) (by decide); have wz5 := sw_ne z5 (k := 1) (by decide); have wz7 := sw_ne z7 (k := 2) (by decide); have wz9 := sw_ne z9 (k := 3) (by decide); have wz11 := sw_ne z11 (k := 4) (by decide); have wz14 := sw_ne z14 (k := 5) (by decide); have wz16 := sw_ne z16 (k := 6) (by decide); omega)) (by decide) ?_
                  refine j_aload_n 0 dX12_about_115 rfl ?_
                  refine j_iconst 1 dX12_about_116 (by decide) ?_
                  obtain ⟨q18, hq18, hL⟩ := bnd_ex hL
                  refine j_callVi (c_X12_fail G 1 h1 _ hq18) cv_RX12_263 rfl sh_193 (by decide) rfl (by decide) rfl rfl (Nat.le_of_ble_eq_true rfl) dX12_about_117 (by decide) ?_
                  cases hL
                  exact j_reti dX12_about_120 rfl hK
  · replace hL := (if_neg z2).symm.trans hL
    refine j_aload_n 0 dX12_about_12 rfl ?_
    refine j_iconst 1 dX12_about_13 (by decide) ?_
    obtain ⟨q19, hq19, hL⟩ := bnd_ex hL
    refine j_callVi (c_X12_fail G 1 h1 _ hq19) cv_RX12_263 rfl sh_193 (by decide) rfl (by decide) rfl rfl (Nat.le_of_ble_eq_true rfl) dX12_about_14 (by decide) ?_
    cases hL
    exact j_reti dX12_about_17 rfl hK

def f_X12_leaf (v1 : Int32) (v2 : Int32) (v3 : Int32) (h : AH) : Option (Int32 × AH) := lt (sfi h 193 2 0) (fun h1 => bnd (f_X12_isLeaf v1 v2 h1) (fun q2 => if q2 = true then if v3 = 0 then gd (ib (f_X12_at v1 v2) 320 = true) (some (hia h1 202 (cl (f_X12_at v1 v2)), h1)) else (if v3 = 1 then gd (ib (f_X12_at v1 v2) 320 = true) (some (hia h1 203 (cl (f_X12_at v1 v2)), h1)) else (if v3 = 2 then gd (ib (f_X12_at v1 v2) 320 = true) (some (hia h1 204 (cl (f_X12_at v1 v2)), h1)) else (if v3 = 3 then gd (ib (f_X12_at v1 v2) 320 = true) (some (hia h1 205 (cl (f_X12_at v1 v2)), h1)) else (if v3 = 4 then gd (ib (f_X12_at v1 v2) 320 = true) (some (hia h1 206 (cl (f_X12_at v1 v2)), h1)) else (if v3 = 5 then gd (ib (f_X12_at v1 v2) 320 = true) (some (hia h1 207 (cl (f_X12_at v1 v2)), h1)) else (bnd (f_X12_fail 1 h1) (fun q16 => some (q16.1, q16.2)))))))) else bnd (f_X12_fail 1 h1) (fun q17 => some (q17.1, q17.2))))
set_option maxRecDepth 20000 in
theorem c_X12_leaf (G : GG) (v1 : Int32) (v2 : Int32) (v3 : Int32) (h : AH) (r : Int32 × AH) (hL : f_X12_leaf v1 v2 v3 h = some r) : SpI G 4 mX12_leaf [.ref (ad G 193), .int v1, .int v2, .int v3] h r.1 r.2 := by
  refine sp_i pf_X12_leaf (Nat.le_of_ble_eq_true rfl) ?_
  show J G mX12_leaf 4 0 0 (KMi G r.1 r.2) 0 [(0, .ref (ad G 193)), (1, .int v1), (2, .int v2), (3, .int v3)] [] h
  obtain ⟨K, hK⟩ : ∃ K, K = KMi G r.1 r.2 := ⟨_, rfl⟩
  rw [← hK]
  unfold f_X12_leaf at hL
  refine j_aload_n 0 dX12_leaf_0 rfl ?_
  refine j_iconst 0 dX12_leaf_1 (by decide) ?_
  refine jp_RX12_158 rfl sh_193 dX12_leaf_2 ?_
  obtain ⟨h1, eh1, hL⟩ := lt_ex hL
  refine j_heap eh1 ?_
  refine j_aload_n 0 dX12_leaf_5 rfl ?_
  refine j_iload_n 1 dX12_leaf_6 rfl ?_
  refine j_iload_n 2 dX12_leaf_7 rfl ?_
  obtain ⟨q2, hq2, hL⟩ := bnd_ex hL
  refine j_callVi (c_X12_isLeaf G v1 v2 h1 _ hq2) cv_RX12_294 rfl sh_193 (by decide) rfl (by decide) rfl rfl (Nat.le_of_ble_eq_true rfl) dX12_leaf_8 (by decide) ?_
  refine j_ifz_ne 20 dX12_leaf_11 (by decide) (fun z3 => ?_) (fun z3 => ?_)
  · replace hL := (if_pos z3).symm.trans hL
    refine j_iload_n 1 dX12_leaf_20 rfl ?_
    refine j_iload_n 2 dX12_leaf_21 rfl ?_
    refine j_callSi (c_X12_at G v1 v2 h1) cv_RX12_244 rfl (by decide) rfl rfl (Nat.le_of_ble_eq_true rfl) dX12_leaf_22 (by decide) ?_
    refine j_istore (lv' := [(4, .int (f_X12_at v1 v2)), (0, .ref (ad G 193)), (1, .int v1), (2, .int v2), (3, .int v3)]) dX12_leaf_25 (by decide) rfl ?_
    refine j_iload_n 4 dX12_leaf_27 rfl ?_
    by_cases z4 : v3 = 0
    · replace hL := (if_pos z4).symm.trans hL
      refine j_swIn 68 dX12_leaf_28 (by rw [z4]; decide) (by rw [z4]; decide) (by rw [z4]; rfl) (by decide) ?_
      refine j_aload_n 1 dX12_leaf_68 rfl ?_
      refine jg_RX12_50 rfl sh_193 dX12_leaf_69 ?_
      refine j_iload 0 dX12_leaf_72 rfl ?_
      obtain ⟨g5, hL⟩ := gd_ex hL
      refine j_iald (shf_12_9 sh_193) (ib_in g5) dX12_leaf_74 ?_
      cases hL
      exact j_reti dX12_leaf_75 rfl hK
    · replace hL := (if_neg z4).symm.trans hL
      by_cases z6 : v3 = 1
      · replace hL := (if_pos z6).symm.trans hL
        refine j_swIn 76 dX12_leaf_28 (by rw [z6]; decide) (by rw [z6]; decide) (by rw [z6]; rfl) (by decide) ?_
        refine j_aload_n 1 dX12_leaf_76 rfl ?_
        refine jg_RX12_53 rfl sh_193 dX12_leaf_77 ?_
        refine j_iload 0 dX12_leaf_80 rfl ?_
        obtain ⟨g7, hL⟩ := gd_ex hL
        refine j_iald (shf_12_10 sh_193) (ib_in g7) dX12_leaf_82 ?_
        cases hL
        exact j_reti dX12_leaf_83 rfl hK
      · replace hL := (if_neg z6).symm.trans hL
        by_cases z8 : v3 = 2
        · replace hL := (if_pos z8).symm.trans hL
          refine j_swIn 84 dX12_leaf_28 (by rw [z8]; decide) (by rw [z8]; decide) (by rw [z8]; rfl) (by decide) ?_
          refine j_aload_n 1 dX12_leaf_84 rfl ?_
          refine jg_RX12_55 rfl sh_193 dX12_leaf_85 ?_
          refine j_iload 0 dX12_leaf_88 rfl ?_
          obtain ⟨g9, hL⟩ := gd_ex hL
          refine j_iald (shf_12_11 sh_193) (ib_in g9) dX12_leaf_90 ?_
          cases hL
          exact j_reti dX12_leaf_91 rfl hK
        · replace hL := (if_neg z8).symm.trans hL
          by_cases z10 : v3 = 3
          · replace hL := (if_pos z10).symm.trans hL
            refine j_swIn 92 dX12_leaf_28 (by rw [z10]; decide) (by rw [z10]; decide) (by rw [z10]; rfl) (by decide) ?_
            refine j_aload_n 1 dX12_leaf_92 rfl ?_
            refine jg_RX12_58 rfl sh_193 dX12_leaf_93 ?_
            refine j_iload 0 dX12_leaf_96 rfl ?_
            obtain ⟨g11, hL⟩ := gd_ex hL
            refine j_iald (shf_12_12 sh_193) (ib_in g11) dX12_leaf_98 ?_
            cases hL
            exact j_reti dX12_leaf_99 rfl hK
          · replace hL := (if_neg z10).symm.trans hL
            by_cases z12 : v3 = 4
            · replace hL := (if_pos z12).symm.trans hL
              refine j_swIn 100 dX12_leaf_28 (by rw [z12]; decide) (by rw [z12]; decide) (by rw [z12]; rfl) (by decide) ?_
              refine j_aload_n 1 dX12_leaf_100 rfl ?_
              refine jg_RX12_61 rfl sh_193 dX12_leaf_101 ?_
              refine j_iload 0 dX12_leaf_104 rfl ?_
              obtain ⟨g13, hL⟩ := gd_ex hL
              refine j_iald (shf_12_13 sh_193) (ib_in g13) dX12_leaf_106 ?_
              cases hL
              exact j_reti dX12_leaf_107 rfl hK
            · replace hL := (if_neg z12).symm.trans hL
              by_cases z14 : v3 = 5
              · replace hL := (if_pos z14).symm.trans hL
                refine j_swIn 108 dX12_leaf_28 (by rw [z14]; decide) (by rw [z14]; decide) (by rw [z14]; rfl) (by decide) ?_
                refine j_aload_n 1 dX12_leaf_108 rfl ?_
                refine jg_RX12_64 rfl sh_193 dX12_leaf_109 ?_
                refine j_iload 0 dX12_leaf_112 rfl ?_
                obtain ⟨g15, hL⟩ := gd_ex hL
                refine j_iald (shf_12_14 sh_193) (ib_in g15) dX12_leaf_114 ?_
                cases hL
                exact j_reti dX12_leaf_115 rfl hK
              · replace hL := (if_neg z14).symm.trans hL
                refine j_swOut 116 dX12_leaf_28 (sw_out (by have wz4 := sw_ne z4 (k := 0) (by decide); have wz6 := sw_ne z6 (k := 1) (by decide); have wz8 := sw_ne z8 (k := 2) (by decide); have wz10 := sw_ne z10 (k := 3) (by decide); have wz12 := sw_ne z12 (k := 4) (by decide); have wz14 := sw_ne z14 (k := 5) (by decide); omega)) (by decide) ?_
                refine j_aload_n 1 dX12_leaf_116 rfl ?_
                refine j_iconst 1 dX12_leaf_117 (by decide) ?_
                obtain ⟨q16, hq16, hL⟩ := bnd_ex hL
                refine j_callVi (c_X12_fail G 1 h1 _ hq16) cv_RX12_263 rfl sh_193 (by decide) rfl (by decide) rfl rfl (Nat.le_of_ble_eq_true rfl) dX12_leaf_118 (by decide) ?_
                cases hL
                exact j_reti dX12_leaf_121 rfl hK
  · replace hL := (if_neg z3).symm.trans hL
    refine j_aload_n 0 dX12_leaf_14 rfl ?_
    refine j_iconst 1 dX12_leaf_15 (by decide) ?_
    obtain ⟨q17, hq17, hL⟩ := bnd_ex hL
    refine j_callVi (c_X12_fail G 1 h1 _ hq17) cv_RX12_263 rfl sh_193 (by decide) rfl (by decide) rfl rfl (Nat.le_of_ble_eq_true rfl) dX12_leaf_16 (by decide) ?_
    cases hL
    exact j_reti dX12_leaf_19 rfl hK

def f_X12_turningsOf (v1 : Int32) (v2 : Int32) (v3 : Int32) (h : AH) : Option (Int32) := gd (ib ((12 * v1) + v2) 84 = true) (if (hia h 216 (cl ((12 * v1) + v2))) = (-1) then some 0 else gd (ib ((12 * v1) + v2) 84 = true) (some (f_J9_max_7cf53 0 (((hia h 216 (cl ((12 * v1) + v2))) * (100 - ((hia h 217 (cl ((12 * v1) + v2))) * v3))) / 100))))
set_option maxRecDepth 20000 in
theorem c_X12_turningsOf (G : GG) (v1 : Int32) (v2 : Int32) (v3 : Int32) (h : AH) (r : Int32) (hL : f_X12_turningsOf v1 v2 v3 h = some r) : SpI G 2 mX12_turningsOf [.ref (ad G 193), .int v1, .int v2, .int v3] h r h := by
  refine sp_i pf_X12_turningsOf (Nat.le_of_ble_eq_true rfl) ?_
  show J G mX12_turningsOf 2 0 0 (KMi G r h) 0 [(0, .ref (ad G 193)), (1, .int v1), (2, .int v2), (3, .int v3)] [] h
  obtain ⟨K, hK⟩ : ∃ K, K = KMi G r h := ⟨_, rfl⟩
  rw [← hK]
  unfold f_X12_turningsOf at hL
  refine j_aload_n 0 dX12_turningsOf_0 rfl ?_
  refine jg_RX12_90 rfl sh_193 dX12_turningsOf_1 ?_
  refine j_bipush 12 dX12_turningsOf_4 (by decide) ?_
  refine j_iload_n 1 dX12_turningsOf_6 rfl ?_
  refine j_imul dX12_turningsOf_7 ?_
  refine j_iload_n 2 dX12_turningsOf_8 rfl ?_
  refine j_iadd dX12_turningsOf_9 ?_
  obtain ⟨g1, hL⟩ := gd_ex hL
  refine j_iald (shf_12_23 sh_193) (ib_in g1) dX12_turningsOf_10 ?_
  refine j_istore (lv' := [(4, .int (hia h 216 (cl ((12 * v1) + v2)))), (0, .ref (ad G 193)), (1, .int v1), (2, .int v2), (3, .int v3)]) dX12_turningsOf_11 (by decide) rfl ?_
  refine j_iload 0 dX12_turningsOf_13 rfl ?_
  refine j_iconst (-1) dX12_turningsOf_15 (by decide) ?_
  refine j_icmp_ne 23 dX12_turningsOf_16 (by decide) (fun z2 => ?_) (fun z2 => ?_)
  · replace hL := (if_neg z2).symm.trans hL
    refine j_iconst 0 dX12_turningsOf_23 (by decide) ?_
    refine j_iload 0 dX12_turningsOf_24 rfl ?_
    refine j_bipush 100 dX12_turningsOf_26 (by decide) ?_
    refine j_aload_n 1 dX12_turningsOf_28 rfl ?_
    refine jg_RX12_93 rfl sh_193 dX12_turningsOf_29 ?_
    refine j_bipush 12 dX12_turningsOf_32 (by decide) ?_
    refine j_iload_n 2 dX12_turningsOf_34 rfl ?_
    refine j_imul dX12_turningsOf_35 ?_
    refine j_iload_n 3 dX12_turningsOf_36 rfl ?_
    refine j_iadd dX12_turningsOf_37 ?_
    obtain ⟨g3, hL⟩ := gd_ex hL
    refine j_iald (shf_12_24 sh_193) (ib_in g3) dX12_turningsOf_38 ?_
    refine j_iload_n 4 dX12_turningsOf_39 rfl ?_
    refine j_imul dX12_turningsOf_40 ?_
    refine j_isub dX12_turningsOf_41 ?_
    refine j_imul dX12_turningsOf_42 ?_
    refine j_bipush 100 dX12_turningsOf_43 (by decide) ?_
    refine j_idiv dX12_turningsOf_45 (by decide) ?_
    refine j_callSi (c_J9_max_7cf53 G 0 (((hia h 216 (cl ((12 * v1) + v2))) * (100 - ((hia h 217 (cl ((12 * v1) + v2))) * v3))) / 100) h) cv_RX12_298 rfl (by decide) rfl rfl (Nat.le_of_ble_eq_true rfl) dX12_turningsOf_46 (by decide) ?_
    cases hL
    exact j_reti dX12_turningsOf_49 rfl hK
  · replace hL := (if_pos z2).symm.trans hL
    refine j_iconst 0 dX12_turningsOf_19 (by decide) ?_
    refine j_goto 49 dX12_turningsOf_20 (by decide) ?_
    cases hL
    exact j_reti dX12_turningsOf_49 rfl hK

def f_X12_turnings (v1 : Int32) (v2 : Int32) (v3 : Int32) (h : AH) : Option (Int32 × AH) := lt (sfi h 193 2 0) (fun h1 => if (f_X12_isWay v1) = true then if (f_X12_isIn v2 0 11) = true then if (f_X12_isIn v3 0 19) = true then bnd (f_X12_turningsOf v1 v2 v3 h1) (fun q8 => some (q8, h1)) else bnd (f_X12_fail 1 h1) (fun q7 => some (q7.1, q7.2)) else bnd (f_X12_fail 1 h1) (fun q5 => some (q5.1, q5.2)) else bnd (f_X12_fail 1 h1) (fun q3 => some (q3.1, q3.2)))
set_option maxRecDepth 20000 in
theorem c_X12_turnings (G : GG) (v1 : Int32) (v2 : Int32) (v3 : Int32) (h : AH) (r : Int32 × AH) (hL : f_X12_turnings v1 v2 v3 h = some r) : SpI G 3 mX12_turnings [.ref (ad G 193), .int v1, .int v2, .int v3] h r.1 r.2 := by
  refine sp_i pf_X12_turnings (Nat.le_of_ble_eq_true rfl) ?_
  show J G mX12_turnings 3 0 0 (KMi G r.1 r.2) 0 [(0, .ref (ad G 193)), (1, .int v1), (2, .int v2), (3, .int v3)] [] h
  obtain ⟨K, hK⟩ : ∃ K, K = KMi G r.1 r.2 := ⟨_, rfl⟩
  rw [← hK]
  unfold f_X12_turnings at hL
  refine j_aload_n 0 dX12_turnings_0 rfl ?_
  refine j_iconst 0 dX12_turnings_1 (by decide) ?_
  refine jp_RX12_158 rfl sh_193 dX12_turnings_2 ?_
  obtain ⟨h1, eh1, hL⟩ := lt_ex hL
  refine j_heap eh1 ?_
  refine j_iload_n 1 dX12_turnings_5 rfl ?_
  refine j_callSi (c_X12_isWay G v1 h1) cv_RX12_279 rfl (by decide) rfl rfl (Nat.le_of_ble_eq_true rfl) dX12_turnings_6 (by decide) ?_
  refine j_ifz_eq 42 dX12_turnings_9 (by decide) (fun z2 => ?_) (fun z2 => ?_)
  · replace hL := (if_neg z2).symm.trans hL
    refine j_aload_n 0 dX12_turnings_42 rfl ?_
    refine j_iconst 1 dX12_turnings_43 (by decide) ?_
    obtain ⟨q3, hq3, hL⟩ := bnd_ex hL
    refine j_callVi (c_X12_fail G 1 h1 _ hq3) cv_RX12_263 rfl sh_193 (by decide) rfl (by decide) rfl rfl (Nat.le_of_ble_eq_true rfl) dX12_turnings_44 (by decide) ?_
    cases hL
    exact j_reti dX12_turnings_47 rfl hK
  · replace hL := (if_pos z2).symm.trans hL
    refine j_iload_n 2 dX12_turnings_12 rfl ?_
    refine j_iconst 0 dX12_turnings_13 (by decide) ?_
    refine j_bipush 11 dX12_turnings_14 (by decide) ?_
    refine j_callSi (c_X12_isIn G v2 0 11 h1) cv_RX12_161 rfl (by decide) rfl rfl (Nat.le_of_ble_eq_true rfl) dX12_turnings_16 (by decide) ?_
    refine j_ifz_eq 42 dX12_turnings_19 (by decide) (fun z4 => ?_) (fun z4 => ?_)
    · replace hL := (if_neg z4).symm.trans hL
      refine j_aload_n 0 dX12_turnings_42 rfl ?_
      refine j_iconst 1 dX12_turnings_43 (by decide) ?_
      obtain ⟨q5, hq5, hL⟩ := bnd_ex hL
      refine j_callVi (c_X12_fail G 1 h1 _ hq5) cv_RX12_263 rfl sh_193 (by decide) rfl (by decide) rfl rfl (Nat.le_of_ble_eq_true rfl) dX12_turnings_44 (by decide) ?_
      cases hL
      exact j_reti dX12_turnings_47 rfl hK
    · replace hL := (if_pos z4).symm.trans hL
      refine j_iload_n 3 dX12_turnings_22 rfl ?_
      refine j_iconst 0 dX12_turnings_23 (by decide) ?_
      refine j_bipush 19 dX12_turnings_24 (by decide) ?_
      refine j_callSi (c_X12_isIn G v3 0 19 h1) cv_RX12_161 rfl (by decide) rfl rfl (Nat.le_of_ble_eq_true rfl) dX12_turnings_26 (by decide) ?_
      refine j_ifz_eq 42 dX12_turnings_29 (by decide) (fun z6 => ?_) (fun z6 => ?_)
      · replace hL := (if_neg z6).symm.trans hL
        refine j_aload_n 0 dX12_turnings_42 rfl ?_
        refine j_iconst 1 dX12_turnings_43 (by decide) ?_
        obtain ⟨q7, hq7, hL⟩ := bnd_ex hL
        refine j_callVi (c_X12_fail G 1 h1 _ hq7) cv_RX12_263 rfl sh_193 (by decide) rfl (by decide) rfl rfl (Nat.le_of_ble_eq_true rfl) dX12_turnings_44 (by decide) ?_
        cases hL
        exact j_reti dX12_turnings_47 rfl hK
      · replace hL := (if_pos z6).symm.trans hL
        refine j_aload_n 0 dX12_turnings_32 rfl ?_
        refine j_iload_n 1 dX12_turnings_33 rfl ?_
        refine j_iload_n 2 dX12_turnings_34 rfl ?_
        refine j_iload_n 3 dX12_turnings_35 rfl ?_
        obtain ⟨q8, hq8, hL⟩ := bnd_ex hL
        refine j_callVi (c_X12_turningsOf G v1 v2 v3 h1 _ hq8) cv_RX12_301 rfl sh_193 (by decide) rfl (by decide) rfl rfl (Nat.le_of_ble_eq_true rfl) dX12_turnings_36 (by decide) ?_
        refine j_goto 47 dX12_turnings_39 (by decide) ?_
        cases hL
        exact j_reti dX12_turnings_47 rfl hK

