theorem cdX8_0 : decode prog_10_method_1_code 0 = .ok (.aload_n 0, 1) := by decide +kernel
theorem cdX8_1 : decode prog_10_method_1_code 1 = .ok (.invokespecial 3, 3) := by decide +kernel
theorem cdX8_4 : decode prog_10_method_1_code 4 = .ok (.aload_n 0, 1) := by decide +kernel
theorem cdX8_5 : decode prog_10_method_1_code 5 = .ok (.sipush 300, 3) := by decide +kernel
theorem cdX8_8 : decode prog_10_method_1_code 8 = .ok (.newarray .byte, 2) := by decide +kernel
theorem cdX8_10 : decode prog_10_method_1_code 10 = .ok (.putfield 9, 3) := by decide +kernel
theorem cdX8_13 : decode prog_10_method_1_code 13 = .ok (.aload_n 0, 1) := by decide +kernel
theorem cdX8_14 : decode prog_10_method_1_code 14 = .ok (.sipush 287, 3) := by decide +kernel
theorem cdX8_17 : decode prog_10_method_1_code 17 = .ok (.newarray .int, 2) := by decide +kernel
theorem cdX8_19 : decode prog_10_method_1_code 19 = .ok (.putfield 15, 3) := by decide +kernel
theorem cdX8_22 : decode prog_10_method_1_code 22 = .ok (.aload_n 0, 1) := by decide +kernel
theorem cdX8_23 : decode prog_10_method_1_code 23 = .ok (.bipush 7, 2) := by decide +kernel
theorem cdX8_25 : decode prog_10_method_1_code 25 = .ok (.newarray .int, 2) := by decide +kernel
theorem cdX8_27 : decode prog_10_method_1_code 27 = .ok (.putfield 19, 3) := by decide +kernel
theorem cdX8_30 : decode prog_10_method_1_code 30 = .ok (.aload_n 0, 1) := by decide +kernel
theorem cdX8_31 : decode prog_10_method_1_code 31 = .ok (.sipush 132, 3) := by decide +kernel
theorem cdX8_34 : decode prog_10_method_1_code 34 = .ok (.newarray .int, 2) := by decide +kernel
theorem cdX8_36 : decode prog_10_method_1_code 36 = .ok (.putfield 22, 3) := by decide +kernel
theorem cdX8_39 : decode prog_10_method_1_code 39 = .ok (.aload_n 0, 1) := by decide +kernel
theorem cdX8_40 : decode prog_10_method_1_code 40 = .ok (.sipush 132, 3) := by decide +kernel
theorem cdX8_43 : decode prog_10_method_1_code 43 = .ok (.newarray .int, 2) := by decide +kernel
theorem cdX8_45 : decode prog_10_method_1_code 45 = .ok (.putfield 25, 3) := by decide +kernel
theorem cdX8_48 : decode prog_10_method_1_code 48 = .ok (.aload_n 0, 1) := by decide +kernel
theorem cdX8_49 : decode prog_10_method_1_code 49 = .ok (.sipush 132, 3) := by decide +kernel
theorem cdX8_52 : decode prog_10_method_1_code 52 = .ok (.newarray .long, 2) := by decide +kernel
theorem cdX8_54 : decode prog_10_method_1_code 54 = .ok (.putfield 28, 3) := by decide +kernel
theorem cdX8_57 : decode prog_10_method_1_code 57 = .ok (.aload_n 0, 1) := by decide +kernel
theorem cdX8_58 : decode prog_10_method_1_code 58 = .ok (.sipush 132, 3) := by decide +kernel
theorem cdX8_61 : decode prog_10_method_1_code 61 = .ok (.newarray .boolean, 2) := by decide +kernel
theorem cdX8_63 : decode prog_10_method_1_code 63 = .ok (.putfield 32, 3) := by decide +kernel
theorem cdX8_66 : decode prog_10_method_1_code 66 = .ok (.aload_n 0, 1) := by decide +kernel
theorem cdX8_67 : decode prog_10_method_1_code 67 = .ok (.bipush 41, 2) := by decide +kernel
theorem cdX8_69 : decode prog_10_method_1_code 69 = .ok (.newarray .int, 2) := by decide +kernel
theorem cdX8_71 : decode prog_10_method_1_code 71 = .ok (.putfield 36, 3) := by decide +kernel
theorem cdX8_74 : decode prog_10_method_1_code 74 = .ok (.aload_n 0, 1) := by decide +kernel
theorem cdX8_75 : decode prog_10_method_1_code 75 = .ok (.bipush 41, 2) := by decide +kernel
theorem cdX8_77 : decode prog_10_method_1_code 77 = .ok (.newarray .long, 2) := by decide +kernel
theorem cdX8_79 : decode prog_10_method_1_code 79 = .ok (.putfield 39, 3) := by decide +kernel
theorem cdX8_82 : decode prog_10_method_1_code 82 = .ok (.aload_n 0, 1) := by decide +kernel
theorem cdX8_83 : decode prog_10_method_1_code 83 = .ok (.sipush 132, 3) := by decide +kernel
theorem cdX8_86 : decode prog_10_method_1_code 86 = .ok (.newarray .int, 2) := by decide +kernel
theorem cdX8_88 : decode prog_10_method_1_code 88 = .ok (.putfield 42, 3) := by decide +kernel
theorem cdX8_91 : decode prog_10_method_1_code 91 = .ok (.aload_n 0, 1) := by decide +kernel
theorem cdX8_92 : decode prog_10_method_1_code 92 = .ok (.sipush 14278, 3) := by decide +kernel
theorem cdX8_95 : decode prog_10_method_1_code 95 = .ok (.newarray .int, 2) := by decide +kernel
theorem cdX8_97 : decode prog_10_method_1_code 97 = .ok (.putfield 45, 3) := by decide +kernel
theorem cdX8_100 : decode prog_10_method_1_code 100 = .ok (.aload_n 0, 1) := by decide +kernel
theorem cdX8_101 : decode prog_10_method_1_code 101 = .ok (.sipush 2640, 3) := by decide +kernel
theorem cdX8_104 : decode prog_10_method_1_code 104 = .ok (.newarray .long, 2) := by decide +kernel
theorem cdX8_106 : decode prog_10_method_1_code 106 = .ok (.putfield 48, 3) := by decide +kernel
theorem cdX8_109 : decode prog_10_method_1_code 109 = .ok (.aload_n 0, 1) := by decide +kernel
theorem cdX8_110 : decode prog_10_method_1_code 110 = .ok (.iconst 2, 1) := by decide +kernel
theorem cdX8_111 : decode prog_10_method_1_code 111 = .ok (.newarray .boolean, 2) := by decide +kernel
theorem cdX8_113 : decode prog_10_method_1_code 113 = .ok (.putfield 51, 3) := by decide +kernel
theorem cdX8_116 : decode prog_10_method_1_code 116 = .ok (.aload_n 0, 1) := by decide +kernel
theorem cdX8_117 : decode prog_10_method_1_code 117 = .ok (.bipush 41, 2) := by decide +kernel
theorem cdX8_119 : decode prog_10_method_1_code 119 = .ok (.newarray .boolean, 2) := by decide +kernel
theorem cdX8_121 : decode prog_10_method_1_code 121 = .ok (.putfield 54, 3) := by decide +kernel
theorem cdX8_124 : decode prog_10_method_1_code 124 = .ok (.aload_n 0, 1) := by decide +kernel
theorem cdX8_125 : decode prog_10_method_1_code 125 = .ok (.bipush 41, 2) := by decide +kernel
theorem cdX8_127 : decode prog_10_method_1_code 127 = .ok (.newarray .int, 2) := by decide +kernel
theorem cdX8_129 : decode prog_10_method_1_code 129 = .ok (.putfield 57, 3) := by decide +kernel
theorem cdX8_132 : decode prog_10_method_1_code 132 = .ok (.aload_n 0, 1) := by decide +kernel
theorem cdX8_133 : decode prog_10_method_1_code 133 = .ok (.bipush 41, 2) := by decide +kernel
theorem cdX8_135 : decode prog_10_method_1_code 135 = .ok (.newarray .int, 2) := by decide +kernel
theorem cdX8_137 : decode prog_10_method_1_code 137 = .ok (.putfield 60, 3) := by decide +kernel
theorem cdX8_140 : decode prog_10_method_1_code 140 = .ok (.aload_n 0, 1) := by decide +kernel
theorem cdX8_141 : decode prog_10_method_1_code 141 = .ok (.bipush 41, 2) := by decide +kernel
theorem cdX8_143 : decode prog_10_method_1_code 143 = .ok (.newarray .int, 2) := by decide +kernel
theorem cdX8_145 : decode prog_10_method_1_code 145 = .ok (.putfield 63, 3) := by decide +kernel
theorem cdX8_148 : decode prog_10_method_1_code 148 = .ok (.aload_n 0, 1) := by decide +kernel
theorem cdX8_149 : decode prog_10_method_1_code 149 = .ok (.bipush 41, 2) := by decide +kernel
theorem cdX8_151 : decode prog_10_method_1_code 151 = .ok (.newarray .int, 2) := by decide +kernel
theorem cdX8_153 : decode prog_10_method_1_code 153 = .ok (.putfield 66, 3) := by decide +kernel
theorem cdX8_156 : decode prog_10_method_1_code 156 = .ok (.aload_n 0, 1) := by decide +kernel
theorem cdX8_157 : decode prog_10_method_1_code 157 = .ok (.sipush 132, 3) := by decide +kernel
theorem cdX8_160 : decode prog_10_method_1_code 160 = .ok (.newarray .int, 2) := by decide +kernel
theorem cdX8_162 : decode prog_10_method_1_code 162 = .ok (.putfield 69, 3) := by decide +kernel
theorem cdX8_165 : decode prog_10_method_1_code 165 = .ok (.aload_n 0, 1) := by decide +kernel
theorem cdX8_166 : decode prog_10_method_1_code 166 = .ok (.sipush 132, 3) := by decide +kernel
theorem cdX8_169 : decode prog_10_method_1_code 169 = .ok (.newarray .int, 2) := by decide +kernel
theorem cdX8_171 : decode prog_10_method_1_code 171 = .ok (.putfield 72, 3) := by decide +kernel
theorem cdX8_174 : decode prog_10_method_1_code 174 = .ok (.aload_n 0, 1) := by decide +kernel
theorem cdX8_175 : decode prog_10_method_1_code 175 = .ok (.bipush 41, 2) := by decide +kernel
theorem cdX8_177 : decode prog_10_method_1_code 177 = .ok (.newarray .int, 2) := by decide +kernel
theorem cdX8_179 : decode prog_10_method_1_code 179 = .ok (.putfield 75, 3) := by decide +kernel
theorem cdX8_182 : decode prog_10_method_1_code 182 = .ok (.aload_n 0, 1) := by decide +kernel
theorem cdX8_183 : decode prog_10_method_1_code 183 = .ok (.iconst 2, 1) := by decide +kernel
theorem cdX8_184 : decode prog_10_method_1_code 184 = .ok (.newarray .int, 2) := by decide +kernel
theorem cdX8_186 : decode prog_10_method_1_code 186 = .ok (.putfield 78, 3) := by decide +kernel
theorem cdX8_189 : decode prog_10_method_1_code 189 = .ok (.aload_n 0, 1) := by decide +kernel
theorem cdX8_190 : decode prog_10_method_1_code 190 = .ok (.bipush 8, 2) := by decide +kernel
theorem cdX8_192 : decode prog_10_method_1_code 192 = .ok (.newarray .int, 2) := by decide +kernel
theorem cdX8_194 : decode prog_10_method_1_code 194 = .ok (.putfield 81, 3) := by decide +kernel
theorem cdX8_197 : decode prog_10_method_1_code 197 = .ok (.aload_n 0, 1) := by decide +kernel
theorem cdX8_198 : decode prog_10_method_1_code 198 = .ok (.iconst 1, 1) := by decide +kernel
theorem cdX8_199 : decode prog_10_method_1_code 199 = .ok (.putfield 84, 3) := by decide +kernel
theorem cdX8_202 : decode prog_10_method_1_code 202 = .ok (.aload_n 0, 1) := by decide +kernel
theorem cdX8_203 : decode prog_10_method_1_code 203 = .ok (.invokevirtual 88, 3) := by decide +kernel
theorem cdX8_206 : decode prog_10_method_1_code 206 = .ok (.iconst 0, 1) := by decide +kernel
theorem cdX8_207 : decode prog_10_method_1_code 207 = .ok (.istore_n 1, 1) := by decide +kernel
theorem cdX8_208 : decode prog_10_method_1_code 208 = .ok (.iload_n 1, 1) := by decide +kernel
theorem cdX8_209 : decode prog_10_method_1_code 209 = .ok (.iconst 2, 1) := by decide +kernel
theorem cdX8_210 : decode prog_10_method_1_code 210 = .ok (.if_icmp .ge 16, 3) := by decide +kernel
theorem cdX8_213 : decode prog_10_method_1_code 213 = .ok (.aload_n 0, 1) := by decide +kernel
theorem cdX8_214 : decode prog_10_method_1_code 214 = .ok (.getfield 78, 3) := by decide +kernel
theorem cdX8_217 : decode prog_10_method_1_code 217 = .ok (.iload_n 1, 1) := by decide +kernel
theorem cdX8_218 : decode prog_10_method_1_code 218 = .ok (.iconst (-1), 1) := by decide +kernel
theorem cdX8_219 : decode prog_10_method_1_code 219 = .ok (.iastore, 1) := by decide +kernel
theorem cdX8_220 : decode prog_10_method_1_code 220 = .ok (.iinc 1 1, 3) := by decide +kernel
theorem cdX8_223 : decode prog_10_method_1_code 223 = .ok (.goto (-15), 3) := by decide +kernel
theorem cdX8_226 : decode prog_10_method_1_code 226 = .ok (.iconst 0, 1) := by decide +kernel
theorem cdX8_227 : decode prog_10_method_1_code 227 = .ok (.istore_n 1, 1) := by decide +kernel
theorem cdX8_228 : decode prog_10_method_1_code 228 = .ok (.iload_n 1, 1) := by decide +kernel
theorem cdX8_229 : decode prog_10_method_1_code 229 = .ok (.bipush 8, 2) := by decide +kernel
theorem cdX8_231 : decode prog_10_method_1_code 231 = .ok (.if_icmp .ge 17, 3) := by decide +kernel
theorem cdX8_234 : decode prog_10_method_1_code 234 = .ok (.aload_n 0, 1) := by decide +kernel
theorem cdX8_235 : decode prog_10_method_1_code 235 = .ok (.getfield 81, 3) := by decide +kernel
theorem cdX8_238 : decode prog_10_method_1_code 238 = .ok (.iload_n 1, 1) := by decide +kernel
theorem cdX8_239 : decode prog_10_method_1_code 239 = .ok (.bipush (-2), 2) := by decide +kernel
theorem cdX8_241 : decode prog_10_method_1_code 241 = .ok (.iastore, 1) := by decide +kernel
theorem cdX8_242 : decode prog_10_method_1_code 242 = .ok (.iinc 1 1, 3) := by decide +kernel
theorem cdX8_245 : decode prog_10_method_1_code 245 = .ok (.goto (-17), 3) := by decide +kernel
theorem cdX8_248 : decode prog_10_method_1_code 248 = .ok (.return_, 1) := by decide +kernel
theorem ct_Rx {ad : Nat → Nat} {h0 n x : Nat} {ls : Array Slot} (hl : lv_has ls (n + 1) [(0, .ref h0)]) (had : ad x = h0) : ia_R ad (n + 1) ls (some (.ref x) :: List.replicate n none) := by
  refine ia_R_of (by simp) hl (fun q hq => ?_)
  obtain ⟨v, hg, hv⟩ := ia_al_mem.mp hq
  obtain ⟨i, w⟩ := q
  match i, hg with
  | 0, hg =>
    have e : v = .ref x := (Option.some.inj hg).symm
    subst e
    have hv : w = .ref (ad x) := hv
    rw [hv, had]
    exact List.mem_cons_self
  | i + 1, hg =>
    have hg : ia_get (List.replicate n none) i = some v := hg
    rw [ia_get_none] at hg
    cases hg
set_option maxRecDepth 20000 in
/-- the fields, one after the other -/
theorem ct_f8s (f1 f2 f3 f4 f5 f6 f7 f8 f9 f10 f11 f12 f13 f14 f15 f16 f17 f18 f19 f20 f21 f22 f23 f24 : List Value) (q1 q2 q3 q4 q5 q6 q7 q8 q9 q10 q11 q12 q13 q14 q15 q16 q17 q18 q19 q20 q21 q22 q23 : Nat) (e1 : f1 = List.set [.null, .int 0, .int 0, .int 0, .int 0, .null, .int 0, .null, .int 0, .long 0, .int 0, .null, .null, .null, .null, .int 0, .null, .null, .null, .null, .null, .null, .int 0, .null, .null, .null, .null, .null, .null, .null, .null, .null, .null] 0 (.ref q1)) (e2 : f2 = List.set f1 5 (.ref q2)) (e3 : f3 = List.set f2 7 (.ref q3)) (e4 : f4 = List.set f3 11 (.ref q4)) (e5 : f5 = List.set f4 12 (.ref q5)) (e6 : f6 = List.set f5 13 (.ref q6)) (e7 : f7 = List.set f6 14 (.ref q7)) (e8 : f8 = List.set f7 16 (.ref q8)) (e9 : f9 = List.set f8 17 (.ref q9)) (e10 : f10 = List.set f9 18 (.ref q10)) (e11 : f11 = List.set f10 19 (.ref q11)) (e12 : f12 = List.set f11 20 (.ref q12)) (e13 : f13 = List.set f12 21 (.ref q13)) (e14 : f14 = List.set f13 23 (.ref q14)) (e15 : f15 = List.set f14 24 (.ref q15)) (e16 : f16 = List.set f15 25 (.ref q16)) (e17 : f17 = List.set f16 26 (.ref q17)) (e18 : f18 = List.set f17 27 (.ref q18)) (e19 : f19 = List.set f18 28 (.ref q19)) (e20 : f20 = List.set f19 29 (.ref q20)) (e21 : f21 = List.set f20 30 (.ref q21)) (e22 : f22 = List.set f21 31 (.ref q22)) (e23 : f23 = List.set f22 32 (.ref q23)) (e24 : f24 = List.set f23 4 (.int 1)) : f24 = [.ref q1, .int 0, .int 0, .int 0, .int 1, .ref q2, .int 0, .ref q3, .int 0, .long 0, .int 0, .ref q4, .ref q5, .ref q6, .ref q7, .int 0, .ref q8, .ref q9, .ref q10, .ref q11, .ref q12, .ref q13, .int 0, .ref q14, .ref q15, .ref q16, .ref q17, .ref q18, .ref q19, .ref q20, .ref q21, .ref q22, .ref q23] := by
  have g1 : f1 = [.ref q1, .int 0, .int 0, .int 0, .int 0, .null, .int 0, .null, .int 0, .long 0, .int 0, .null, .null, .null, .null, .int 0, .null, .null, .null, .null, .null, .null, .int 0, .null, .null, .null, .null, .null, .null, .null, .null, .null, .null] := by
    rw [e1]
    rfl
  have g2 : f2 = [.ref q1, .int 0, .int 0, .int 0, .int 0, .ref q2, .int 0, .null, .int 0, .long 0, .int 0, .null, .null, .null, .null, .int 0, .null, .null, .null, .null, .null, .null, .int 0, .null, .null, .null, .null, .null, .null, .null, .null, .null, .null] := by
    rw [e2, g1]
    rfl
  have g3 : f3 = [.ref q1, .int 0, .int 0, .int 0, .int 0, .ref q2, .int 0, .ref q3, .int 0, .long 0, .int 0, .null, .null, .null, .null, .int 0, .null, .null, .null, .null, .null, .null, .int 0, .null, .null, .null, .null, .null, .null, .null, .null, .null, .null] := by
    rw [e3, g2]
    rfl
  have g4 : f4 = [.ref q1, .int 0, .int 0, .int 0, .int 0, .ref q2, .int 0, .ref q3, .int 0, .long 0, .int 0, .ref q4, .null, .null, .null, .int 0, .null, .null, .null, .null, .null, .null, .int 0, .null, .null, .null, .null, .null, .null, .null, .null, .null, .null] := by
    rw [e4, g3]
    rfl
  have g5 : f5 = [.ref q1, .int 0, .int 0, .int 0, .int 0, .ref q2, .int 0, .ref q3, .int 0, .long 0, .int 0, .ref q4, .ref q5, .null, .null, .int 0, .null, .null, .null, .null, .null, .null, .int 0, .null, .null, .null, .null, .null, .null, .null, .null, .null, .null] := by
    rw [e5, g4]
    rfl
  have g6 : f6 = [.ref q1, .int 0, .int 0, .int 0, .int 0, .ref q2, .int 0, .ref q3, .int 0, .long 0, .int 0, .ref q4, .ref q5, .ref q6, .null, .int 0, .null, .null, .null, .null, .null, .null, .int 0, .null, .null, .null, .null, .null, .null, .null, .null, .null, .null] := by
    rw [e6, g5]
    rfl
  have g7 : f7 = [.ref q1, .int 0, .int 0, .int 0, .int 0, .ref q2, .int 0, .ref q3, .int 0, .long 0, .int 0, .ref q4, .ref q5, .ref q6, .ref q7, .int 0, .null, .null, .null, .null, .null, .null, .int 0, .null, .null, .null, .null, .null, .null, .null, .null, .null, .null] := by
    rw [e7, g6]
    rfl
  have g8 : f8 = [.ref q1, .int 0, .int 0, .int 0, .int 0, .ref q2, .int 0, .ref q3, .int 0, .long 0, .int 0, .ref q4, .ref q5, .ref q6, .ref q7, .int 0, .ref q8, .null, .null, .null, .null, .null, .int 0, .null, .null, .null, .null, .null, .null, .null, .null, .null, .null] := by
    rw [e8, g7]
    rfl
  have g9 : f9 = [.ref q1, .int 0, .int 0, .int 0, .int 0, .ref q2, .int 0, .ref q3, .int 0, .long 0, .int 0, .ref q4, .ref q5, .ref q6, .ref q7, .int 0, .ref q8, .ref q9, .null, .null, .null, .null, .int 0, .null, .null, .null, .null, .null, .null, .null, .null, .null, .null] := by
    rw [e9, g8]
    rfl
  have g10 : f10 = [.ref q1, .int 0, .int 0, .int 0, .int 0, .ref q2, .int 0, .ref q3, .int 0, .long 0, .int 0, .ref q4, .ref q5, .ref q6, .ref q7, .int 0, .ref q8, .ref q9, .ref q10, .null, .null, .null, .int 0, .null, .null, .null, .null, .null, .null, .null, .null, .null, .null] := by
    rw [e10, g9]
    rfl
  have g11 : f11 = [.ref q1, .int 0, .int 0, .int 0, .int 0, .ref q2, .int 0, .ref q3, .int 0, .long 0, .int 0, .ref q4, .ref q5, .ref q6, .ref q7, .int 0, .ref q8, .ref q9, .ref q10, .ref q11, .null, .null, .int 0, .null, .null, .null, .null, .null, .null, .null, .null, .null, .null] := by
    rw [e11, g10]
    rfl
  have g12 : f12 = [.ref q1, .int 0, .int 0, .int 0, .int 0, .ref q2, .int 0, .ref q3, .int 0, .long 0, .int 0, .ref q4, .ref q5, .ref q6, .ref q7, .int 0, .ref q8, .ref q9, .ref q10, .ref q11, .ref q12, .null, .int 0, .null, .null, .null, .null, .null, .null, .null, .null, .null, .null] := by
    rw [e12, g11]
    rfl
  have g13 : f13 = [.ref q1, .int 0, .int 0, .int 0, .int 0, .ref q2, .int 0, .ref q3, .int 0, .long 0, .int 0, .ref q4, .ref q5, .ref q6, .ref q7, .int 0, .ref q8, .ref q9, .ref q10, .ref q11, .ref q12, .ref q13, .int 0, .null, .null, .null, .null, .null, .null, .null, .null, .null, .null] := by
    rw [e13, g12]
    rfl
  have g14 : f14 = [.ref q1, .int 0, .int 0, .int 0, .int 0, .ref q2, .int 0, .ref q3, .int 0, .long 0, .int 0, .ref q4, .ref q5, .ref q6, .ref q7, .int 0, .ref q8, .ref q9, .ref q10, .ref q11, .ref q12, .ref q13, .int 0, .ref q14, .null, .null, .null, .null, .null, .null, .null, .null, .null] := by
    rw [e14, g13]
    rfl
  have g15 : f15 = [.ref q1, .int 0, .int 0, .int 0, .int 0, .ref q2, .int 0, .ref q3, .int 0, .long 0, .int 0, .ref q4, .ref q5, .ref q6, .ref q7, .int 0, .ref q8, .ref q9, .ref q10, .ref q11, .ref q12, .ref q13, .int 0, .ref q14, .ref q15, .null, .null, .null, .null, .null, .null, .null, .null] := by
    rw [e15, g14]
    rfl
  have g16 : f16 = [.ref q1, .int 0, .int 0, .int 0, .int 0, .ref q2, .int 0, .ref q3, .int 0, .long 0, .int 0, .ref q4, .ref q5, .ref q6, .ref q7, .int 0, .ref q8, .ref q9, .ref q10, .ref q11, .ref q12, .ref q13, .int 0, .ref q14, .ref q15, .ref q16, .null, .null, .null, .null, .null, .null, .null] := by
    rw [e16, g15]
    rfl
  have g17 : f17 = [.ref q1, .int 0, .int 0, .int 0, .int 0, .ref q2, .int 0, .ref q3, .int 0, .long 0, .int 0, .ref q4, .ref q5, .ref q6, .ref q7, .int 0, .ref q8, .ref q9, .ref q10, .ref q11, .ref q12, .ref q13, .int 0, .ref q14, .ref q15, .ref q16, .ref q17, .null, .null, .null, .null, .null, .null] := by
    rw [e17, g16]
    rfl
  have g18 : f18 = [.ref q1, .int 0, .int 0, .int 0, .int 0, .ref q2, .int 0, .ref q3, .int 0, .long 0, .int 0, .ref q4, .ref q5, .ref q6, .ref q7, .int 0, .ref q8, .ref q9, .ref q10, .ref q11, .ref q12, .ref q13, .int 0, .ref q14, .ref q15, .ref q16, .ref q17, .ref q18, .null, .null, .null, .null, .null] := by
    rw [e18, g17]
    rfl
  have g19 : f19 = [.ref q1, .int 0, .int 0, .int 0, .int 0, .ref q2, .int 0, .ref q3, .int 0, .long 0, .int 0, .ref q4, .ref q5, .ref q6, .ref q7, .int 0, .ref q8, .ref q9, .ref q10, .ref q11, .ref q12, .ref q13, .int 0, .ref q14, .ref q15, .ref q16, .ref q17, .ref q18, .ref q19, .null, .null, .null, .null] := by
    rw [e19, g18]
    rfl
  have g20 : f20 = [.ref q1, .int 0, .int 0, .int 0, .int 0, .ref q2, .int 0, .ref q3, .int 0, .long 0, .int 0, .ref q4, .ref q5, .ref q6, .ref q7, .int 0, .ref q8, .ref q9, .ref q10, .ref q11, .ref q12, .ref q13, .int 0, .ref q14, .ref q15, .ref q16, .ref q17, .ref q18, .ref q19, .ref q20, .null, .null, .null] := by
    rw [e20, g19]
    rfl
  have g21 : f21 = [.ref q1, .int 0, .int 0, .int 0, .int 0, .ref q2, .int 0, .ref q3, .int 0, .long 0, .int 0, .ref q4, .ref q5, .ref q6, .ref q7, .int 0, .ref q8, .ref q9, .ref q10, .ref q11, .ref q12, .ref q13, .int 0, .ref q14, .ref q15, .ref q16, .ref q17, .ref q18, .ref q19, .ref q20, .ref q21, .null, .null] := by
    rw [e21, g20]
    rfl
  have g22 : f22 = [.ref q1, .int 0, .int 0, .int 0, .int 0, .ref q2, .int 0, .ref q3, .int 0, .long 0, .int 0, .ref q4, .ref q5, .ref q6, .ref q7, .int 0, .ref q8, .ref q9, .ref q10, .ref q11, .ref q12, .ref q13, .int 0, .ref q14, .ref q15, .ref q16, .ref q17, .ref q18, .ref q19, .ref q20, .ref q21, .ref q22, .null] := by
    rw [e22, g21]
    rfl
  have g23 : f23 = [.ref q1, .int 0, .int 0, .int 0, .int 0, .ref q2, .int 0, .ref q3, .int 0, .long 0, .int 0, .ref q4, .ref q5, .ref q6, .ref q7, .int 0, .ref q8, .ref q9, .ref q10, .ref q11, .ref q12, .ref q13, .int 0, .ref q14, .ref q15, .ref q16, .ref q17, .ref q18, .ref q19, .ref q20, .ref q21, .ref q22, .ref q23] := by
    rw [e23, g22]
    rfl
  have g24 : f24 = [.ref q1, .int 0, .int 0, .int 0, .int 1, .ref q2, .int 0, .ref q3, .int 0, .long 0, .int 0, .ref q4, .ref q5, .ref q6, .ref q7, .int 0, .ref q8, .ref q9, .ref q10, .ref q11, .ref q12, .ref q13, .int 0, .ref q14, .ref q15, .ref q16, .ref q17, .ref q18, .ref q19, .ref q20, .ref q21, .ref q22, .ref q23] := by
    rw [e24, g23]
    rfl
  exact g24
set_option maxHeartbeats 16000000 in
set_option maxRecDepth 20000 in
theorem ct_cX8 (l : Launch) (D : va_G) (ad : Nat → Nat) (ca : Nat → ClassId) : ct_Met l RX8 prog_10_method_1_code 2 { frames := 2, cells := 23, slots := 18776, locals := 54 } D 8 [.null, .int 0, .int 0, .int 0, .int 0, .null, .int 0, .null, .int 0, .long 0, .int 0, .null, .null, .null, .null, .int 0, .null, .null, .null, .null, .null, .null, .int 0, .null, .null, .null, .null, .null, .null, .null, .null, .null, .null] (ia_w ad ca ct_eX7 0 ct_shX7) (ct_tys ca 0 ct_shX7) ia_Sh (fun q u => (∀ x, x < 52 → u.1 x = ad x) ∧ u.1 52 = q ∧ Jx u.2.2) := by
  refine ct_of (by decide) cdX8_0 cdX8_1 (List.mem_of_getElem? (i := 623) (by decide +kernel)) (Nat.le_of_ble_eq_true rfl) (Nat.le_of_ble_eq_true rfl) (Nat.le_of_ble_eq_true rfl) ?_
  intro p e s m h0 below meth c ls A hB hl hP hK hD hA
  obtain ⟨hx, hb, hr, hml, hown, hts, hlocks, hin, hEn⟩ := id hB
  have hS : va_S A s.heap s.heap [] := va_S.rf
  generalize hwB : ia_w ad ca ct_eX7 0 ct_shX7 = wB at hP hD
  generalize htB : ct_tys ca 0 ct_shX7 = tB at hK
  have hlen : ([.null, .int 0, .int 0, .int 0, .int 0, .null, .int 0, .null, .int 0, .long 0, .int 0, .null, .null, .null, .null, .int 0, .null, .null, .null, .null, .null, .null, .int 0, .null, .null, .null, .null, .null, .null, .null, .null, .null, .null] : List Value).length = 33 := rfl
  refine lv_aload_n hx hb cdX8_4 rfl (lv_at hl 0 rfl) ?_
  refine lv_sipush (v := 300) hx hb cdX8_5 (by decide +kernel) ?_
  refine ct_nb (atype := .byte) (ty := .byte) hB rfl (List.mem_of_getElem? (i := 6) (by decide +kernel)) hK hP hD hS hA (N' := 300) (a0 := (300, .inl (fun _ => 0))) (fun cA => rfl) (by decide +kernel) (by decide +kernel) (Nat.le_of_ble_eq_true rfl) (Nat.le_of_ble_eq_true rfl) (Nat.le_of_ble_eq_true rfl) cdX8_8 (T := TX8) (N := 33) rfl 0 (Nat.le_of_ble_eq_true rfl) (List.mem_of_getElem? (i := 634) (by decide +kernel)) (by decide +kernel) (by decide +kernel) (by decide +kernel) hlen cdX8_10 ?_
  clear hlen hK hP hD hS
  intro q1 c1 f1 w1 t1 H locs ef1 ew1 et1 hlen hK hP hD hS
  refine W.widen (k := 1) (n := 300) (Nat.le_of_ble_eq_true rfl) (Nat.le_of_ble_eq_true rfl) ?_
  refine lv_aload_n hx hb cdX8_13 rfl (lv_at hl 0 rfl) ?_
  refine lv_sipush (v := 287) hx hb cdX8_14 (by decide +kernel) ?_
  refine ct_nb (atype := .int) (ty := .int) hB rfl (List.mem_of_getElem? (i := 9) (by decide +kernel)) hK hP hD hS hA (N' := 287) (a0 := (287, .inl (fun _ => 0))) (fun cA => rfl) (by decide +kernel) (by decide +kernel) (Nat.le_of_ble_eq_true rfl) (Nat.le_of_ble_eq_true rfl) (Nat.le_of_ble_eq_true rfl) cdX8_17 (T := TX8) (N := 33) rfl 5 (Nat.le_of_ble_eq_true rfl) (List.mem_of_getElem? (i := 639) (by decide +kernel)) (by decide +kernel) (by decide +kernel) (by decide +kernel) hlen cdX8_19 ?_
  clear hlen hK hP hD hS
  intro q2 c2 f2 w2 t2 H locs ef2 ew2 et2 hlen hK hP hD hS
  refine W.widen (k := 2) (n := 587) (Nat.le_of_ble_eq_true rfl) (Nat.le_of_ble_eq_true rfl) ?_
  refine lv_aload_n hx hb cdX8_22 rfl (lv_at hl 0 rfl) ?_
  refine lv_bipush (v := 7) hx hb cdX8_23 (by decide +kernel) ?_
  refine ct_nb (atype := .int) (ty := .int) hB rfl (List.mem_of_getElem? (i := 9) (by decide +kernel)) hK hP hD hS hA (N' := 7) (a0 := (7, .inl (fun _ => 0))) (fun cA => rfl) (by decide +kernel) (by decide +kernel) (Nat.le_of_ble_eq_true rfl) (Nat.le_of_ble_eq_true rfl) (Nat.le_of_ble_eq_true rfl) cdX8_25 (T := TX8) (N := 33) rfl 7 (Nat.le_of_ble_eq_true rfl) (List.mem_of_getElem? (i := 641) (by decide +kernel)) (by decide +kernel) (by decide +kernel) (by decide +kernel) hlen cdX8_27 ?_
  clear hlen hK hP hD hS
  intro q3 c3 f3 w3 t3 H locs ef3 ew3 et3 hlen hK hP hD hS
  refine W.widen (k := 3) (n := 594) (Nat.le_of_ble_eq_true rfl) (Nat.le_of_ble_eq_true rfl) ?_
  refine lv_aload_n hx hb cdX8_30 rfl (lv_at hl 0 rfl) ?_
  refine lv_sipush (v := 132) hx hb cdX8_31 (by decide +kernel) ?_
  refine ct_nb (atype := .int) (ty := .int) hB rfl (List.mem_of_getElem? (i := 9) (by decide +kernel)) hK hP hD hS hA (N' := 132) (a0 := (132, .inl (fun _ => 0))) (fun cA => rfl) (by decide +kernel) (by decide +kernel) (Nat.le_of_ble_eq_true rfl) (Nat.le_of_ble_eq_true rfl) (Nat.le_of_ble_eq_true rfl) cdX8_34 (T := TX8) (N := 33) rfl 11 (Nat.le_of_ble_eq_true rfl) (List.mem_of_getElem? (i := 645) (by decide +kernel)) (by decide +kernel) (by decide +kernel) (by decide +kernel) hlen cdX8_36 ?_
  clear hlen hK hP hD hS
  intro q4 c4 f4 w4 t4 H locs ef4 ew4 et4 hlen hK hP hD hS
  refine W.widen (k := 4) (n := 726) (Nat.le_of_ble_eq_true rfl) (Nat.le_of_ble_eq_true rfl) ?_
  refine lv_aload_n hx hb cdX8_39 rfl (lv_at hl 0 rfl) ?_
  refine lv_sipush (v := 132) hx hb cdX8_40 (by decide +kernel) ?_
  refine ct_nb (atype := .int) (ty := .int) hB rfl (List.mem_of_getElem? (i := 9) (by decide +kernel)) hK hP hD hS hA (N' := 132) (a0 := (132, .inl (fun _ => 0))) (fun cA => rfl) (by decide +kernel) (by decide +kernel) (Nat.le_of_ble_eq_true rfl) (Nat.le_of_ble_eq_true rfl) (Nat.le_of_ble_eq_true rfl) cdX8_43 (T := TX8) (N := 33) rfl 12 (Nat.le_of_ble_eq_true rfl) (List.mem_of_getElem? (i := 646) (by decide +kernel)) (by decide +kernel) (by decide +kernel) (by decide +kernel) hlen cdX8_45 ?_
  clear hlen hK hP hD hS
  intro q5 c5 f5 w5 t5 H locs ef5 ew5 et5 hlen hK hP hD hS
  refine W.widen (k := 5) (n := 858) (Nat.le_of_ble_eq_true rfl) (Nat.le_of_ble_eq_true rfl) ?_
  refine lv_aload_n hx hb cdX8_48 rfl (lv_at hl 0 rfl) ?_
  refine lv_sipush (v := 132) hx hb cdX8_49 (by decide +kernel) ?_
  refine ct_nb (atype := .long) (ty := .long) hB rfl (List.mem_of_getElem? (i := 10) (by decide +kernel)) hK hP hD hS hA (N' := 132) (a0 := (132, .inr (.inl (fun _ => 0)))) (fun cA => rfl) (by decide +kernel) (by decide +kernel) (Nat.le_of_ble_eq_true rfl) (Nat.le_of_ble_eq_true rfl) (Nat.le_of_ble_eq_true rfl) cdX8_52 (T := TX8) (N := 33) rfl 13 (Nat.le_of_ble_eq_true rfl) (List.mem_of_getElem? (i := 647) (by decide +kernel)) (by decide +kernel) (by decide +kernel) (by decide +kernel) hlen cdX8_54 ?_
  clear hlen hK hP hD hS
  intro q6 c6 f6 w6 t6 H locs ef6 ew6 et6 hlen hK hP hD hS
  refine W.widen (k := 6) (n := 990) (Nat.le_of_ble_eq_true rfl) (Nat.le_of_ble_eq_true rfl) ?_
  refine lv_aload_n hx hb cdX8_57 rfl (lv_at hl 0 rfl) ?_
  refine lv_sipush (v := 132) hx hb cdX8_58 (by decide +kernel) ?_
  refine ct_nb (atype := .boolean) (ty := .boolean) hB rfl (List.mem_of_getElem? (i := 11) (by decide +kernel)) hK hP hD hS hA (N' := 132) (a0 := (132, .inl (fun _ => 0))) (fun cA => rfl) (by decide +kernel) (by decide +kernel) (Nat.le_of_ble_eq_true rfl) (Nat.le_of_ble_eq_true rfl) (Nat.le_of_ble_eq_true rfl) cdX8_61 (T := TX8) (N := 33) rfl 14 (Nat.le_of_ble_eq_true rfl) (List.mem_of_getElem? (i := 648) (by decide +kernel)) (by decide +kernel) (by decide +kernel) (by decide +kernel) hlen cdX8_63 ?_
  clear hlen hK hP hD hS
  intro q7 c7 f7 w7 t7 H locs ef7 ew7 et7 hlen hK hP hD hS
  refine W.widen (k := 7) (n := 1122) (Nat.le_of_ble_eq_true rfl) (Nat.le_of_ble_eq_true rfl) ?_
  refine lv_aload_n hx hb cdX8_66 rfl (lv_at hl 0 rfl) ?_
  refine lv_bipush (v := 41) hx hb cdX8_67 (by decide +kernel) ?_
  refine ct_nb (atype := .int) (ty := .int) hB rfl (List.mem_of_getElem? (i := 9) (by decide +kernel)) hK hP hD hS hA (N' := 41) (a0 := (41, .inl (fun _ => 0))) (fun cA => rfl) (by decide +kernel) (by decide +kernel) (Nat.le_of_ble_eq_true rfl) (Nat.le_of_ble_eq_true rfl) (Nat.le_of_ble_eq_true rfl) cdX8_69 (T := TX8) (N := 33) rfl 16 (Nat.le_of_ble_eq_true rfl) (List.mem_of_getElem? (i := 650) (by decide +kernel)) (by decide +kernel) (by decide +kernel) (by decide +kernel) hlen cdX8_71 ?_
  clear hlen hK hP hD hS
  intro q8 c8 f8 w8 t8 H locs ef8 ew8 et8 hlen hK hP hD hS
  refine W.widen (k := 8) (n := 1163) (Nat.le_of_ble_eq_true rfl) (Nat.le_of_ble_eq_true rfl) ?_
  refine lv_aload_n hx hb cdX8_74 rfl (lv_at hl 0 rfl) ?_
  refine lv_bipush (v := 41) hx hb cdX8_75 (by decide +kernel) ?_
  refine ct_nb (atype := .long) (ty := .long) hB rfl (List.mem_of_getElem? (i := 10) (by decide +kernel)) hK hP hD hS hA (N' := 41) (a0 := (41, .inr (.inl (fun _ => 0)))) (fun cA => rfl) (by decide +kernel) (by decide +kernel) (Nat.le_of_ble_eq_true rfl) (Nat.le_of_ble_eq_true rfl) (Nat.le_of_ble_eq_true rfl) cdX8_77 (T := TX8) (N := 33) rfl 17 (Nat.le_of_ble_eq_true rfl) (List.mem_of_getElem? (i := 651) (by decide +kernel)) (by decide +kernel) (by decide +kernel) (by decide +kernel) hlen cdX8_79 ?_
  clear hlen hK hP hD hS
  intro q9 c9 f9 w9 t9 H locs ef9 ew9 et9 hlen hK hP hD hS
  refine W.widen (k := 9) (n := 1204) (Nat.le_of_ble_eq_true rfl) (Nat.le_of_ble_eq_true rfl) ?_
  refine lv_aload_n hx hb cdX8_82 rfl (lv_at hl 0 rfl) ?_
  refine lv_sipush (v := 132) hx hb cdX8_83 (by decide +kernel) ?_
  refine ct_nb (atype := .int) (ty := .int) hB rfl (List.mem_of_getElem? (i := 9) (by decide +kernel)) hK hP hD hS hA (N' := 132) (a0 := (132, .inl (fun _ => 0))) (fun cA => rfl) (by decide +kernel) (by decide +kernel) (Nat.le_of_ble_eq_true rfl) (Nat.le_of_ble_eq_true rfl) (Nat.le_of_ble_eq_true rfl) cdX8_86 (T := TX8) (N := 33) rfl 18 (Nat.le_of_ble_eq_true rfl) (List.mem_of_getElem? (i := 652) (by decide +kernel)) (by decide +kernel) (by decide +kernel) (by decide +kernel) hlen cdX8_88 ?_
  clear hlen hK hP hD hS
  intro q10 c10 f10 w10 t10 H locs ef10 ew10 et10 hlen hK hP hD hS
  refine W.widen (k := 10) (n := 1336) (Nat.le_of_ble_eq_true rfl) (Nat.le_of_ble_eq_true rfl) ?_
  refine lv_aload_n hx hb cdX8_91 rfl (lv_at hl 0 rfl) ?_
  refine lv_sipush (v := 14278) hx hb cdX8_92 (by decide +kernel) ?_
  refine ct_nb (atype := .int) (ty := .int) hB rfl (List.mem_of_getElem? (i := 9) (by decide +kernel)) hK hP hD hS hA (N' := 14278) (a0 := (14278, .inl (fun _ => 0))) (fun cA => rfl) (by decide +kernel) (by decide +kernel) (Nat.le_of_ble_eq_true rfl) (Nat.le_of_ble_eq_true rfl) (Nat.le_of_ble_eq_true rfl) cdX8_95 (T := TX8) (N := 33) rfl 19 (Nat.le_of_ble_eq_true rfl) (List.mem_of_getElem? (i := 653) (by decide +kernel)) (by decide +kernel) (by decide +kernel) (by decide +kernel) hlen cdX8_97 ?_
  clear hlen hK hP hD hS
  intro q11 c11 f11 w11 t11 H locs ef11 ew11 et11 hlen hK hP hD hS
  refine W.widen (k := 11) (n := 15614) (Nat.le_of_ble_eq_true rfl) (Nat.le_of_ble_eq_true rfl) ?_
  refine lv_aload_n hx hb cdX8_100 rfl (lv_at hl 0 rfl) ?_
  refine lv_sipush (v := 2640) hx hb cdX8_101 (by decide +kernel) ?_
  refine ct_nb (atype := .long) (ty := .long) hB rfl (List.mem_of_getElem? (i := 10) (by decide +kernel)) hK hP hD hS hA (N' := 2640) (a0 := (2640, .inr (.inl (fun _ => 0)))) (fun cA => rfl) (by decide +kernel) (by decide +kernel) (Nat.le_of_ble_eq_true rfl) (Nat.le_of_ble_eq_true rfl) (Nat.le_of_ble_eq_true rfl) cdX8_104 (T := TX8) (N := 33) rfl 20 (Nat.le_of_ble_eq_true rfl) (List.mem_of_getElem? (i := 654) (by decide +kernel)) (by decide +kernel) (by decide +kernel) (by decide +kernel) hlen cdX8_106 ?_
  clear hlen hK hP hD hS
  intro q12 c12 f12 w12 t12 H locs ef12 ew12 et12 hlen hK hP hD hS
  refine W.widen (k := 12) (n := 18254) (Nat.le_of_ble_eq_true rfl) (Nat.le_of_ble_eq_true rfl) ?_
  refine lv_aload_n hx hb cdX8_109 rfl (lv_at hl 0 rfl) ?_
  refine lv_iconst (v := 2) hx hb cdX8_110 (by decide +kernel) ?_
  refine ct_nb (atype := .boolean) (ty := .boolean) hB rfl (List.mem_of_getElem? (i := 11) (by decide +kernel)) hK hP hD hS hA (N' := 2) (a0 := (2, .inl (fun _ => 0))) (fun cA => rfl) (by decide +kernel) (by decide +kernel) (Nat.le_of_ble_eq_true rfl) (Nat.le_of_ble_eq_true rfl) (Nat.le_of_ble_eq_true rfl) cdX8_111 (T := TX8) (N := 33) rfl 21 (Nat.le_of_ble_eq_true rfl) (List.mem_of_getElem? (i := 655) (by decide +kernel)) (by decide +kernel) (by decide +kernel) (by decide +kernel) hlen cdX8_113 ?_
  clear hlen hK hP hD hS
  intro q13 c13 f13 w13 t13 H locs ef13 ew13 et13 hlen hK hP hD hS
  refine W.widen (k := 13) (n := 18256) (Nat.le_of_ble_eq_true rfl) (Nat.le_of_ble_eq_true rfl) ?_
  refine lv_aload_n hx hb cdX8_116 rfl (lv_at hl 0 rfl) ?_
  refine lv_bipush (v := 41) hx hb cdX8_117 (by decide +kernel) ?_
  refine ct_nb (atype := .boolean) (ty := .boolean) hB rfl (List.mem_of_getElem? (i := 11) (by decide +kernel)) hK hP hD hS hA (N' := 41) (a0 := (41, .inl (fun _ => 0))) (fun cA => rfl) (by decide +kernel) (by decide +kernel) (Nat.le_of_ble_eq_true rfl) (Nat.le_of_ble_eq_true rfl) (Nat.le_of_ble_eq_true rfl) cdX8_119 (T := TX8) (N := 33) rfl 23 (Nat.le_of_ble_eq_true rfl) (List.mem_of_getElem? (i := 657) (by decide +kernel)) (by decide +kernel) (by decide +kernel) (by decide +kernel) hlen cdX8_121 ?_
  clear hlen hK hP hD hS
  intro q14 c14 f14 w14 t14 H locs ef14 ew14 et14 hlen hK hP hD hS
  refine W.widen (k := 14) (n := 18297) (Nat.le_of_ble_eq_true rfl) (Nat.le_of_ble_eq_true rfl) ?_
  refine lv_aload_n hx hb cdX8_124 rfl (lv_at hl 0 rfl) ?_
  refine lv_bipush (v := 41) hx hb cdX8_125 (by decide +kernel) ?_
  refine ct_nb (atype := .int) (ty := .int) hB rfl (List.mem_of_getElem? (i := 9) (by decide +kernel)) hK hP hD hS hA (N' := 41) (a0 := (41, .inl (fun _ => 0))) (fun cA => rfl) (by decide +kernel) (by decide +kernel) (Nat.le_of_ble_eq_true rfl) (Nat.le_of_ble_eq_true rfl) (Nat.le_of_ble_eq_true rfl) cdX8_127 (T := TX8) (N := 33) rfl 24 (Nat.le_of_ble_eq_true rfl) (List.mem_of_getElem? (i := 658) (by decide +kernel)) (by decide +kernel) (by decide +kernel) (by decide +kernel) hlen cdX8_129 ?_
  clear hlen hK hP hD hS
  intro q15 c15 f15 w15 t15 H locs ef15 ew15 et15 hlen hK hP hD hS
  refine W.widen (k := 15) (n := 18338) (Nat.le_of_ble_eq_true rfl) (Nat.le_of_ble_eq_true rfl) ?_
  refine lv_aload_n hx hb cdX8_132 rfl (lv_at hl 0 rfl) ?_
  refine lv_bipush (v := 41) hx hb cdX8_133 (by decide +kernel) ?_
  refine ct_nb (atype := .int) (ty := .int) hB rfl (List.mem_of_getElem? (i := 9) (by decide +kernel)) hK hP hD hS hA (N' := 41) (a0 := (41, .inl (fun _ => 0))) (fun cA => rfl) (by decide +kernel) (by decide +kernel) (Nat.le_of_ble_eq_true rfl) (Nat.le_of_ble_eq_true rfl) (Nat.le_of_ble_eq_true rfl) cdX8_135 (T := TX8) (N := 33) rfl 25 (Nat.le_of_ble_eq_true rfl) (List.mem_of_getElem? (i := 659) (by decide +kernel)) (by decide +kernel) (by decide +kernel) (by decide +kernel) hlen cdX8_137 ?_
  clear hlen hK hP hD hS
  intro q16 c16 f16 w16 t16 H locs ef16 ew16 et16 hlen hK hP hD hS
  refine W.widen (k := 16) (n := 18379) (Nat.le_of_ble_eq_true rfl) (Nat.le_of_ble_eq_true rfl) ?_
  refine lv_aload_n hx hb cdX8_140 rfl (lv_at hl 0 rfl) ?_
  refine lv_bipush (v := 41) hx hb cdX8_141 (by decide +kernel) ?_
  refine ct_nb (atype := .int) (ty := .int) hB rfl (List.mem_of_getElem? (i := 9) (by decide +kernel)) hK hP hD hS hA (N' := 41) (a0 := (41, .inl (fun _ => 0))) (fun cA => rfl) (by decide +kernel) (by decide +kernel) (Nat.le_of_ble_eq_true rfl) (Nat.le_of_ble_eq_true rfl) (Nat.le_of_ble_eq_true rfl) cdX8_143 (T := TX8) (N := 33) rfl 26 (Nat.le_of_ble_eq_true rfl) (List.mem_of_getElem? (i := 660) (by decide +kernel)) (by decide +kernel) (by decide +kernel) (by decide +kernel) hlen cdX8_145 ?_
  clear hlen hK hP hD hS
  intro q17 c17 f17 w17 t17 H locs ef17 ew17 et17 hlen hK hP hD hS
  refine W.widen (k := 17) (n := 18420) (Nat.le_of_ble_eq_true rfl) (Nat.le_of_ble_eq_true rfl) ?_
  refine lv_aload_n hx hb cdX8_148 rfl (lv_at hl 0 rfl) ?_
  refine lv_bipush (v := 41) hx hb cdX8_149 (by decide +kernel) ?_
  refine ct_nb (atype := .int) (ty := .int) hB rfl (List.mem_of_getElem? (i := 9) (by decide +kernel)) hK hP hD hS hA (N' := 41) (a0 := (41, .inl (fun _ => 0))) (fun cA => rfl) (by decide +kernel) (by decide +kernel) (Nat.le_of_ble_eq_true rfl) (Nat.le_of_ble_eq_true rfl) (Nat.le_of_ble_eq_true rfl) cdX8_151 (T := TX8) (N := 33) rfl 27 (Nat.le_of_ble_eq_true rfl) (List.mem_of_getElem? (i := 661) (by decide +kernel)) (by decide +kernel) (by decide +kernel) (by decide +kernel) hlen cdX8_153 ?_
  clear hlen hK hP hD hS
  intro q18 c18 f18 w18 t18 H locs ef18 ew18 et18 hlen hK hP hD hS
  refine W.widen (k := 18) (n := 18461) (Nat.le_of_ble_eq_true rfl) (Nat.le_of_ble_eq_true rfl) ?_
  refine lv_aload_n hx hb cdX8_156 rfl (lv_at hl 0 rfl) ?_
  refine lv_sipush (v := 132) hx hb cdX8_157 (by decide +kernel) ?_
  refine ct_nb (atype := .int) (ty := .int) hB rfl (List.mem_of_getElem? (i := 9) (by decide +kernel)) hK hP hD hS hA (N' := 132) (a0 := (132, .inl (fun _ => 0))) (fun cA => rfl) (by decide +kernel) (by decide +kernel) (Nat.le_of_ble_eq_true rfl) (Nat.le_of_ble_eq_true rfl) (Nat.le_of_ble_eq_true rfl) cdX8_160 (T := TX8) (N := 33) rfl 28 (Nat.le_of_ble_eq_true rfl) (List.mem_of_getElem? (i := 662) (by decide +kernel)) (by decide +kernel) (by decide +kernel) (by decide +kernel) hlen cdX8_162 ?_
  clear hlen hK hP hD hS
  intro q19 c19 f19 w19 t19 H locs ef19 ew19 et19 hlen hK hP hD hS
  refine W.widen (k := 19) (n := 18593) (Nat.le_of_ble_eq_true rfl) (Nat.le_of_ble_eq_true rfl) ?_
  refine lv_aload_n hx hb cdX8_165 rfl (lv_at hl 0 rfl) ?_
  refine lv_sipush (v := 132) hx hb cdX8_166 (by decide +kernel) ?_
  refine ct_nb (atype := .int) (ty := .int) hB rfl (List.mem_of_getElem? (i := 9) (by decide +kernel)) hK hP hD hS hA (N' := 132) (a0 := (132, .inl (fun _ => 0))) (fun cA => rfl) (by decide +kernel) (by decide +kernel) (Nat.le_of_ble_eq_true rfl) (Nat.le_of_ble_eq_true rfl) (Nat.le_of_ble_eq_true rfl) cdX8_169 (T := TX8) (N := 33) rfl 29 (Nat.le_of_ble_eq_true rfl) (List.mem_of_getElem? (i := 663) (by decide +kernel)) (by decide +kernel) (by decide +kernel) (by decide +kernel) hlen cdX8_171 ?_
  clear hlen hK hP hD hS
  intro q20 c20 f20 w20 t20 H locs ef20 ew20 et20 hlen hK hP hD hS
  refine W.widen (k := 20) (n := 18725) (Nat.le_of_ble_eq_true rfl) (Nat.le_of_ble_eq_true rfl) ?_
  refine lv_aload_n hx hb cdX8_174 rfl (lv_at hl 0 rfl) ?_
  refine lv_bipush (v := 41) hx hb cdX8_175 (by decide +kernel) ?_
  refine ct_nb (atype := .int) (ty := .int) hB rfl (List.mem_of_getElem? (i := 9) (by decide +kernel)) hK hP hD hS hA (N' := 41) (a0 := (41, .inl (fun _ => 0))) (fun cA => rfl) (by decide +kernel) (by decide +kernel) (Nat.le_of_ble_eq_true rfl) (Nat.le_of_ble_eq_true rfl) (Nat.le_of_ble_eq_true rfl) cdX8_177 (T := TX8) (N := 33) rfl 30 (Nat.le_of_ble_eq_true rfl) (List.mem_of_getElem? (i := 664) (by decide +kernel)) (by decide +kernel) (by decide +kernel) (by decide +kernel) hlen cdX8_179 ?_
  clear hlen hK hP hD hS
  intro q21 c21 f21 w21 t21 H locs ef21 ew21 et21 hlen hK hP hD hS
  refine W.widen (k := 21) (n := 18766) (Nat.le_of_ble_eq_true rfl) (Nat.le_of_ble_eq_true rfl) ?_
  refine lv_aload_n hx hb cdX8_182 rfl (lv_at hl 0 rfl) ?_
  refine lv_iconst (v := 2) hx hb cdX8_183 (by decide +kernel) ?_
  refine ct_nb (atype := .int) (ty := .int) hB rfl (List.mem_of_getElem? (i := 9) (by decide +kernel)) hK hP hD hS hA (N' := 2) (a0 := (2, .inl (fun _ => 0))) (fun cA => rfl) (by decide +kernel) (by decide +kernel) (Nat.le_of_ble_eq_true rfl) (Nat.le_of_ble_eq_true rfl) (Nat.le_of_ble_eq_true rfl) cdX8_184 (T := TX8) (N := 33) rfl 31 (Nat.le_of_ble_eq_true rfl) (List.mem_of_getElem? (i := 665) (by decide +kernel)) (by decide +kernel) (by decide +kernel) (by decide +kernel) hlen cdX8_186 ?_
  clear hlen hK hP hD hS
  intro q22 c22 f22 w22 t22 H locs ef22 ew22 et22 hlen hK hP hD hS
  refine W.widen (k := 22) (n := 18768) (Nat.le_of_ble_eq_true rfl) (Nat.le_of_ble_eq_true rfl) ?_
  refine lv_aload_n hx hb cdX8_189 rfl (lv_at hl 0 rfl) ?_
  refine lv_bipush (v := 8) hx hb cdX8_190 (by decide +kernel) ?_
  refine ct_nb (atype := .int) (ty := .int) hB rfl (List.mem_of_getElem? (i := 9) (by decide +kernel)) hK hP hD hS hA (N' := 8) (a0 := (8, .inl (fun _ => 0))) (fun cA => rfl) (by decide +kernel) (by decide +kernel) (Nat.le_of_ble_eq_true rfl) (Nat.le_of_ble_eq_true rfl) (Nat.le_of_ble_eq_true rfl) cdX8_192 (T := TX8) (N := 33) rfl 32 (Nat.le_of_ble_eq_true rfl) (List.mem_of_getElem? (i := 666) (by decide +kernel)) (by decide +kernel) (by decide +kernel) (by decide +kernel) hlen cdX8_194 ?_
  clear hlen hK hP hD hS
  intro q23 c23 f23 w23 t23 H locs ef23 ew23 et23 hlen hK hP hD hS
  refine W.widen (k := 23) (n := 18776) (Nat.le_of_ble_eq_true rfl) (Nat.le_of_ble_eq_true rfl) ?_
  refine lv_aload_n hx hb cdX8_197 rfl (lv_at hl 0 rfl) ?_
  refine lv_iconst (v := 1) hx hb cdX8_198 (by decide +kernel) ?_
  refine ct_pj hB hK hP hD hS (T := TX8) (N := 33) rfl 4 (Nat.le_of_ble_eq_true rfl) (List.mem_of_getElem? (i := 638) (by decide +kernel)) (by decide +kernel) (by decide +kernel) hlen cdX8_199 ?_
  clear hlen hP hD hS
  intro f24 H locs ef24 hlen hP hD hS
  have ef : f24 = [.ref q1, .int 0, .int 0, .int 0, .int 1, .ref q2, .int 0, .ref q3, .int 0, .long 0, .int 0, .ref q4, .ref q5, .ref q6, .ref q7, .int 0, .ref q8, .ref q9, .ref q10, .ref q11, .ref q12, .ref q13, .int 0, .ref q14, .ref q15, .ref q16, .ref q17, .ref q18, .ref q19, .ref q20, .ref q21, .ref q22, .ref q23] := ct_f8s f1 f2 f3 f4 f5 f6 f7 f8 f9 f10 f11 f12 f13 f14 f15 f16 f17 f18 f19 f20 f21 f22 f23 f24 q1 q2 q3 q4 q5 q6 q7 q8 q9 q10 q11 q12 q13 q14 q15 q16 q17 q18 q19 q20 q21 q22 q23 ef1 ef2 ef3 ef4 ef5 ef6 ef7 ef8 ef9 ef10 ef11 ef12 ef13 ef14 ef15 ef16 ef17 ef18 ef19 ef20 ef21 ef22 ef23 ef24
  have ew : w23 = wB ++ ([(q1, .inl (c1, 300, .inl (fun _ => 0))), (q2, .inl (c2, 287, .inl (fun _ => 0))), (q3, .inl (c3, 7, .inl (fun _ => 0))), (q4, .inl (c4, 132, .inl (fun _ => 0))), (q5, .inl (c5, 132, .inl (fun _ => 0))), (q6, .inl (c6, 132, .inr (.inl (fun _ => 0)))), (q7, .inl (c7, 132, .inl (fun _ => 0))), (q8, .inl (c8, 41, .inl (fun _ => 0))), (q9, .inl (c9, 41, .inr (.inl (fun _ => 0)))), (q10, .inl (c10, 132, .inl (fun _ => 0))), (q11, .inl (c11, 14278, .inl (fun _ => 0))), (q12, .inl (c12, 2640, .inr (.inl (fun _ => 0)))), (q13, .inl (c13, 2, .inl (fun _ => 0))), (q14, .inl (c14, 41, .inl (fun _ => 0))), (q15, .inl (c15, 41, .inl (fun _ => 0))), (q16, .inl (c16, 41, .inl (fun _ => 0))), (q17, .inl (c17, 41, .inl (fun _ => 0))), (q18, .inl (c18, 41, .inl (fun _ => 0))), (q19, .inl (c19, 132, .inl (fun _ => 0))), (q20, .inl (c20, 132, .inl (fun _ => 0))), (q21, .inl (c21, 41, .inl (fun _ => 0))), (q22, .inl (c22, 2, .inl (fun _ => 0))), (q23, .inl (c23, 8, .inl (fun _ => 0)))] : va_W) := by
    rw [ew23, ew22, ew21, ew20, ew19, ew18, ew17, ew16, ew15, ew14, ew13, ew12, ew11, ew10, ew9, ew8, ew7, ew6, ew5, ew4, ew3, ew2, ew1]
    simp only [List.append_assoc, List.cons_append, List.nil_append]
  have et : t23 = tB ++ ([(c1, .byte), (c2, .int), (c3, .int), (c4, .int), (c5, .int), (c6, .long), (c7, .boolean), (c8, .int), (c9, .long), (c10, .int), (c11, .int), (c12, .long), (c13, .boolean), (c14, .boolean), (c15, .int), (c16, .int), (c17, .int), (c18, .int), (c19, .int), (c20, .int), (c21, .int), (c22, .int), (c23, .int)] : List (ClassId × FieldType)) := by
    rw [et23, et22, et21, et20, et19, et18, et17, et16, et15, et14, et13, et12, et11, et10, et9, et8, et7, et6, et5, et4, et3, et2, et1]
    simp only [List.append_assoc, List.cons_append, List.nil_append]
  obtain ⟨hP, hD⟩ := ct_perm (ws' := wB ++ ((h0, .inr (8, f24)) :: ([(q1, .inl (c1, 300, .inl (fun _ => 0))), (q2, .inl (c2, 287, .inl (fun _ => 0))), (q3, .inl (c3, 7, .inl (fun _ => 0))), (q4, .inl (c4, 132, .inl (fun _ => 0))), (q5, .inl (c5, 132, .inl (fun _ => 0))), (q6, .inl (c6, 132, .inr (.inl (fun _ => 0)))), (q7, .inl (c7, 132, .inl (fun _ => 0))), (q8, .inl (c8, 41, .inl (fun _ => 0))), (q9, .inl (c9, 41, .inr (.inl (fun _ => 0)))), (q10, .inl (c10, 132, .inl (fun _ => 0))), (q11, .inl (c11, 14278, .inl (fun _ => 0))), (q12, .inl (c12, 2640, .inr (.inl (fun _ => 0)))), (q13, .inl (c13, 2, .inl (fun _ => 0))), (q14, .inl (c14, 41, .inl (fun _ => 0))), (q15, .inl (c15, 41, .inl (fun _ => 0))), (q16, .inl (c16, 41, .inl (fun _ => 0))), (q17, .inl (c17, 41, .inl (fun _ => 0))), (q18, .inl (c18, 41, .inl (fun _ => 0))), (q19, .inl (c19, 132, .inl (fun _ => 0))), (q20, .inl (c20, 132, .inl (fun _ => 0))), (q21, .inl (c21, 41, .inl (fun _ => 0))), (q22, .inl (c22, 2, .inl (fun _ => 0))), (q23, .inl (c23, 8, .inl (fun _ => 0)))] : va_W))) (by
    rw [ew]
    exact List.perm_middle.symm) hP hD
  rw [ef, ← ct_w8 ad ca h0 q1 q2 q3 q4 q5 q6 q7 q8 q9 q10 q11 q12 q13 q14 q15 q16 q17 q18 q19 q20 q21 q22 q23 c1 c2 c3 c4 c5 c6 c7 c8 c9 c10 c11 c12 c13 c14 c15 c16 c17 c18 c19 c20 c21 c22 c23, ← hwB, ← ct_w52] at hP hD
  rw [et, ← ct_t8 ca c1 c2 c3 c4 c5 c6 c7 c8 c9 c10 c11 c12 c13 c14 c15 c16 c17 c18 c19 c20 c21 c22 c23, ← htB, ← ct_t52] at hK
  have hA52 : ct_cut 52 ad (ct_pk 0 [h0, q1, q2, q3, q4, q5, q6, q7, q8, q9, q10, q11, q12, q13, q14, q15, q16, q17, q18, q19, q20, q21, q22, q23]) 52 = h0 := rfl
  have hAlt : ∀ x, x < 52 → ct_cut 52 ad (ct_pk 0 [h0, q1, q2, q3, q4, q5, q6, q7, q8, q9, q10, q11, q12, q13, q14, q15, q16, q17, q18, q19, q20, q21, q22, q23]) x = ad x := fun x hx => ct_cut_lt hx
  generalize ct_cut 52 ad (ct_pk 0 [h0, q1, q2, q3, q4, q5, q6, q7, q8, q9, q10, q11, q12, q13, q14, q15, q16, q17, q18, q19, q20, q21, q22, q23]) = AD at hP hD hA52 hAlt
  generalize ct_cut 52 ca (ct_pk 0 [0, c1, c2, c3, c4, c5, c6, c7, c8, c9, c10, c11, c12, c13, c14, c15, c16, c17, c18, c19, c20, c21, c22, c23]) = CA at hP hD hK
  refine ct_wX8 (X := ia_X p l e { frames := 2, cells := 23, slots := 18776, locals := 54 } s m #[Value.ref h0] below meth c _ 23 18776 D ia_cl A s.heap ia_Sh AD CA 2) ?_ ?_ H locs ls hP hD hS (ct_Rx hl hA52)
  · exact ct_close (M := ct_mX8) ct_okX8 ia_Sh_ok (ct_T _ _) hx hb hml (fun w hw => hts w (List.mem_append_right _ hw)) hown hK hEn.1 hA ⟨Nat.le_refl _, Nat.le_refl _⟩ ⟨Nat.le_of_ble_eq_true rfl, Nat.le_of_ble_eq_true rfl⟩
  · intro ls2 h1 hf1 hm1 H locs lc hP hD hS hR
    exact W.vret hx hb hr (fun t ht hW => ⟨⟨(AD, CA, ct_f8 h1), rfl, ⟨hAlt, hA52, ct_J hf1 hm1⟩, by rw [ht]; exact hP, va_K.moved hW.alike hK, hD⟩, hS.F ht⟩) hS.2.2 cdX8_248 hlocks
