/-! the constructors: printed by gen_init.py -/
theorem iw_104 : Cond.methodLink (cN 0) 3 objectInit ∈ TS := ts_mem (i := 104) (by decide +kernel) rfl
theorem iw_105 : Cond.fieldLink (cN 0) 11 (cN 0) (fT 0 0).2.1 (fT 0 0).2.2.1 ∈ TS := ts_mem (i := 105) (by decide +kernel) rfl
theorem iw_180 : Cond.methodLink (cN 1) 5 objectInit ∈ TS := ts_mem (i := 180) (by decide +kernel) rfl
theorem iw_181 : Cond.fieldLink (cN 1) 11 (cN 1) (fT 1 0).2.1 (fT 1 0).2.2.1 ∈ TS := ts_mem (i := 181) (by decide +kernel) rfl
theorem iw_182 : Cond.fieldLink (cN 1) 15 (cN 1) (fT 1 1).2.1 (fT 1 1).2.2.1 ∈ TS := ts_mem (i := 182) (by decide +kernel) rfl
theorem iw_124 : Cond.methodLink (cN 2) 3 objectInit ∈ TS := ts_mem (i := 124) (by decide +kernel) rfl
theorem iw_125 : Cond.fieldLink (cN 2) 9 (cN 2) (fT 2 0).2.1 (fT 2 0).2.2.1 ∈ TS := ts_mem (i := 125) (by decide +kernel) rfl
theorem iw_256 : Cond.methodLink (cN 3) 3 objectInit ∈ TS := ts_mem (i := 256) (by decide +kernel) rfl
theorem iw_257 : Cond.fieldLink (cN 3) 9 (cN 3) (fT 3 0).2.1 (fT 3 0).2.2.1 ∈ TS := ts_mem (i := 257) (by decide +kernel) rfl
theorem iw_266 : Cond.methodLink (cN 5) 5 objectInit ∈ TS := ts_mem (i := 266) (by decide +kernel) rfl
theorem iw_267 : Cond.fieldLink (cN 5) 11 (cN 5) (fT 5 0).2.1 (fT 5 0).2.2.1 ∈ TS := ts_mem (i := 267) (by decide +kernel) rfl
theorem iw_268 : Cond.fieldLink (cN 5) 15 (cN 5) (fT 5 1).2.1 (fT 5 1).2.2.1 ∈ TS := ts_mem (i := 268) (by decide +kernel) rfl
theorem iw_269 : Cond.fieldLink (cN 5) 18 (cN 5) (fT 5 2).2.1 (fT 5 2).2.2.1 ∈ TS := ts_mem (i := 269) (by decide +kernel) rfl
theorem iw_270 : Cond.fieldLink (cN 5) 22 (cN 5) (fT 5 3).2.1 (fT 5 3).2.2.1 ∈ TS := ts_mem (i := 270) (by decide +kernel) rfl
theorem iw_271 : Cond.fieldLink (cN 5) 25 (cN 5) (fT 5 4).2.1 (fT 5 4).2.2.1 ∈ TS := ts_mem (i := 271) (by decide +kernel) rfl
theorem iw_272 : Cond.fieldLink (cN 5) 28 (cN 5) (fT 5 5).2.1 (fT 5 5).2.2.1 ∈ TS := ts_mem (i := 272) (by decide +kernel) rfl
theorem iw_143 : Cond.methodLink (cN 6) 3 objectInit ∈ TS := ts_mem (i := 143) (by decide +kernel) rfl
theorem iw_144 : Cond.fieldLink (cN 6) 9 (cN 6) (fT 6 0).2.1 (fT 6 0).2.2.1 ∈ TS := ts_mem (i := 144) (by decide +kernel) rfl
theorem iw_145 : Cond.fieldLink (cN 6) 15 (cN 6) (fT 6 1).2.1 (fT 6 1).2.2.1 ∈ TS := ts_mem (i := 145) (by decide +kernel) rfl
theorem iw_147 : Cond.fieldLink (cN 6) 18 (cN 6) (fT 6 3).2.1 (fT 6 3).2.2.1 ∈ TS := ts_mem (i := 147) (by decide +kernel) rfl
theorem iw_148 : Cond.fieldLink (cN 6) 21 (cN 6) (fT 6 4).2.1 (fT 6 4).2.2.1 ∈ TS := ts_mem (i := 148) (by decide +kernel) rfl
theorem iw_149 : Cond.fieldLink (cN 6) 24 (cN 6) (fT 6 5).2.1 (fT 6 5).2.2.1 ∈ TS := ts_mem (i := 149) (by decide +kernel) rfl
theorem iw_150 : Cond.fieldLink (cN 6) 27 (cN 6) (fT 6 6).2.1 (fT 6 6).2.2.1 ∈ TS := ts_mem (i := 150) (by decide +kernel) rfl
theorem iw_240 : Cond.methodLink (cN 7) 5 objectInit ∈ TS := ts_mem (i := 240) (by decide +kernel) rfl
theorem iw_241 : Cond.fieldLink (cN 7) 11 (cN 7) (fT 7 0).2.1 (fT 7 0).2.2.1 ∈ TS := ts_mem (i := 241) (by decide +kernel) rfl
theorem iw_242 : Cond.fieldLink (cN 7) 15 (cN 7) (fT 7 1).2.1 (fT 7 1).2.2.1 ∈ TS := ts_mem (i := 242) (by decide +kernel) rfl
theorem iw_243 : Cond.fieldLink (cN 7) 18 (cN 7) (fT 7 2).2.1 (fT 7 2).2.2.1 ∈ TS := ts_mem (i := 243) (by decide +kernel) rfl
theorem iw_174 : Cond.methodLink (cN 4) 7 objectInit ∈ TS := ts_mem (i := 174) (by decide +kernel) rfl
theorem iw_175 : Cond.classLink (cN 4) 1 (cN 1) ∈ TS := ts_mem (i := 175) (by decide +kernel) rfl
theorem iw_176 : Cond.instantiable (cN 1) (nf 1) ∈ TS := ts_mem (i := 176) (by decide +kernel) rfl
theorem iw_62 : Cond.initialized (cN 1) ∈ TS := ts_mem (i := 62) (by decide +kernel) rfl
theorem iw_179 : Cond.code (⟨"PointerAnalyzer$Contexts", "<init>", "()V"⟩ : MethodName) prog_3_method_1_code 1 none ∈ TS := ts_mem (i := 179) (by decide +kernel) rfl
theorem iw_177 : Cond.methodLinkNest (cN 4) 13 (⟨"PointerAnalyzer$Contexts", "<init>", "()V"⟩ : MethodName) hostN ∈ TS := ts_mem (i := 177) (by decide +kernel) rfl
theorem iw_178 : Cond.instanceMethod (⟨"PointerAnalyzer$Contexts", "<init>", "()V"⟩ : MethodName) ∈ TS := ts_mem (i := 178) (by decide +kernel) rfl
theorem iw_194 : Cond.fieldLink (cN 4) 14 (cN 4) (fT 4 0).2.1 (fT 4 0).2.2.1 ∈ TS := ts_mem (i := 194) (by decide +kernel) rfl
theorem iw_195 : Cond.fieldLink (cN 4) 18 (cN 4) (fT 4 1).2.1 (fT 4 1).2.2.1 ∈ TS := ts_mem (i := 195) (by decide +kernel) rfl
theorem iw_196 : Cond.fieldLink (cN 4) 22 (cN 4) (fT 4 2).2.1 (fT 4 2).2.2.1 ∈ TS := ts_mem (i := 196) (by decide +kernel) rfl
theorem iw_197 : Cond.fieldLink (cN 4) 25 (cN 4) (fT 4 3).2.1 (fT 4 3).2.2.1 ∈ TS := ts_mem (i := 197) (by decide +kernel) rfl
theorem iw_198 : Cond.fieldLink (cN 4) 29 (cN 4) (fT 4 4).2.1 (fT 4 4).2.2.1 ∈ TS := ts_mem (i := 198) (by decide +kernel) rfl
theorem iw_199 : Cond.fieldLink (cN 4) 32 (cN 4) (fT 4 5).2.1 (fT 4 5).2.2.1 ∈ TS := ts_mem (i := 199) (by decide +kernel) rfl
theorem iw_200 : Cond.fieldLink (cN 4) 35 (cN 4) (fT 4 6).2.1 (fT 4 6).2.2.1 ∈ TS := ts_mem (i := 200) (by decide +kernel) rfl
theorem iw_201 : Cond.fieldLink (cN 4) 38 (cN 4) (fT 4 7).2.1 (fT 4 7).2.2.1 ∈ TS := ts_mem (i := 201) (by decide +kernel) rfl
theorem iw_202 : Cond.fieldLink (cN 4) 41 (cN 4) (fT 4 8).2.1 (fT 4 8).2.2.1 ∈ TS := ts_mem (i := 202) (by decide +kernel) rfl
theorem iw_96 : Cond.methodLink (cN 8) 3 objectInit ∈ TS := ts_mem (i := 96) (by decide +kernel) rfl
theorem iw_99 : Cond.classLink (cN 8) 9 (cN 0) ∈ TS := ts_mem (i := 99) (by decide +kernel) rfl
theorem iw_100 : Cond.instantiable (cN 0) (nf 0) ∈ TS := ts_mem (i := 100) (by decide +kernel) rfl
theorem iw_58 : Cond.initialized (cN 0) ∈ TS := ts_mem (i := 58) (by decide +kernel) rfl
theorem iw_103 : Cond.code (⟨"PointerAnalyzer$BodyText", "<init>", "()V"⟩ : MethodName) prog_2_method_1_code 1 none ∈ TS := ts_mem (i := 103) (by decide +kernel) rfl
theorem iw_101 : Cond.methodLinkNest (cN 8) 11 (⟨"PointerAnalyzer$BodyText", "<init>", "()V"⟩ : MethodName) hostN ∈ TS := ts_mem (i := 101) (by decide +kernel) rfl
theorem iw_102 : Cond.instanceMethod (⟨"PointerAnalyzer$BodyText", "<init>", "()V"⟩ : MethodName) ∈ TS := ts_mem (i := 102) (by decide +kernel) rfl
theorem iw_301 : Cond.fieldLink (cN 8) 12 (cN 8) (fT 8 0).2.1 (fT 8 0).2.2.1 ∈ TS := ts_mem (i := 301) (by decide +kernel) rfl
theorem iw_119 : Cond.classLink (cN 8) 16 (cN 2) ∈ TS := ts_mem (i := 119) (by decide +kernel) rfl
theorem iw_120 : Cond.instantiable (cN 2) (nf 2) ∈ TS := ts_mem (i := 120) (by decide +kernel) rfl
theorem iw_59 : Cond.initialized (cN 2) ∈ TS := ts_mem (i := 59) (by decide +kernel) rfl
theorem iw_123 : Cond.code (⟨"PointerAnalyzer$Draft", "<init>", "()V"⟩ : MethodName) prog_4_method_1_code 1 none ∈ TS := ts_mem (i := 123) (by decide +kernel) rfl
theorem iw_121 : Cond.methodLinkNest (cN 8) 18 (⟨"PointerAnalyzer$Draft", "<init>", "()V"⟩ : MethodName) hostN ∈ TS := ts_mem (i := 121) (by decide +kernel) rfl
theorem iw_122 : Cond.instanceMethod (⟨"PointerAnalyzer$Draft", "<init>", "()V"⟩ : MethodName) ∈ TS := ts_mem (i := 122) (by decide +kernel) rfl
theorem iw_302 : Cond.fieldLink (cN 8) 19 (cN 8) (fT 8 1).2.1 (fT 8 1).2.2.1 ∈ TS := ts_mem (i := 302) (by decide +kernel) rfl
theorem iw_138 : Cond.classLink (cN 8) 23 (cN 6) ∈ TS := ts_mem (i := 138) (by decide +kernel) rfl
theorem iw_139 : Cond.instantiable (cN 6) (nf 6) ∈ TS := ts_mem (i := 139) (by decide +kernel) rfl
theorem iw_60 : Cond.initialized (cN 6) ∈ TS := ts_mem (i := 60) (by decide +kernel) rfl
theorem iw_142 : Cond.code (⟨"PointerAnalyzer$Program", "<init>", "()V"⟩ : MethodName) prog_8_method_1_code 1 none ∈ TS := ts_mem (i := 142) (by decide +kernel) rfl
theorem iw_140 : Cond.methodLinkNest (cN 8) 25 (⟨"PointerAnalyzer$Program", "<init>", "()V"⟩ : MethodName) hostN ∈ TS := ts_mem (i := 140) (by decide +kernel) rfl
theorem iw_141 : Cond.instanceMethod (⟨"PointerAnalyzer$Program", "<init>", "()V"⟩ : MethodName) ∈ TS := ts_mem (i := 141) (by decide +kernel) rfl
theorem iw_303 : Cond.fieldLink (cN 8) 26 (cN 8) (fT 8 2).2.1 (fT 8 2).2.2.1 ∈ TS := ts_mem (i := 303) (by decide +kernel) rfl
theorem iw_304 : Cond.fieldLink (cN 8) 30 (cN 8) (fT 8 3).2.1 (fT 8 3).2.2.1 ∈ TS := ts_mem (i := 304) (by decide +kernel) rfl
theorem iw_169 : Cond.classLink (cN 8) 33 (cN 4) ∈ TS := ts_mem (i := 169) (by decide +kernel) rfl
theorem iw_170 : Cond.instantiable (cN 4) (nf 4) ∈ TS := ts_mem (i := 170) (by decide +kernel) rfl
theorem iw_61 : Cond.initialized (cN 4) ∈ TS := ts_mem (i := 61) (by decide +kernel) rfl
theorem iw_173 : Cond.code (⟨"PointerAnalyzer$Inclusion", "<init>", "()V"⟩ : MethodName) prog_6_method_1_code 1 none ∈ TS := ts_mem (i := 173) (by decide +kernel) rfl
theorem iw_171 : Cond.methodLinkNest (cN 8) 35 (⟨"PointerAnalyzer$Inclusion", "<init>", "()V"⟩ : MethodName) hostN ∈ TS := ts_mem (i := 171) (by decide +kernel) rfl
theorem iw_172 : Cond.instanceMethod (⟨"PointerAnalyzer$Inclusion", "<init>", "()V"⟩ : MethodName) ∈ TS := ts_mem (i := 172) (by decide +kernel) rfl
theorem iw_305 : Cond.fieldLink (cN 8) 36 (cN 8) (fT 8 4).2.1 (fT 8 4).2.2.1 ∈ TS := ts_mem (i := 305) (by decide +kernel) rfl
theorem iw_306 : Cond.fieldLink (cN 8) 40 (cN 8) (fT 8 5).2.1 (fT 8 5).2.2.1 ∈ TS := ts_mem (i := 306) (by decide +kernel) rfl
theorem iw_235 : Cond.classLink (cN 8) 43 (cN 7) ∈ TS := ts_mem (i := 235) (by decide +kernel) rfl
theorem iw_236 : Cond.instantiable (cN 7) (nf 7) ∈ TS := ts_mem (i := 236) (by decide +kernel) rfl
theorem iw_63 : Cond.initialized (cN 7) ∈ TS := ts_mem (i := 63) (by decide +kernel) rfl
theorem iw_239 : Cond.code (⟨"PointerAnalyzer$Unification", "<init>", "()V"⟩ : MethodName) prog_11_method_1_code 1 none ∈ TS := ts_mem (i := 239) (by decide +kernel) rfl
theorem iw_237 : Cond.methodLinkNest (cN 8) 45 (⟨"PointerAnalyzer$Unification", "<init>", "()V"⟩ : MethodName) hostN ∈ TS := ts_mem (i := 237) (by decide +kernel) rfl
theorem iw_238 : Cond.instanceMethod (⟨"PointerAnalyzer$Unification", "<init>", "()V"⟩ : MethodName) ∈ TS := ts_mem (i := 238) (by decide +kernel) rfl
theorem iw_307 : Cond.fieldLink (cN 8) 46 (cN 8) (fT 8 6).2.1 (fT 8 6).2.2.1 ∈ TS := ts_mem (i := 307) (by decide +kernel) rfl
theorem iw_251 : Cond.classLink (cN 8) 50 (cN 3) ∈ TS := ts_mem (i := 251) (by decide +kernel) rfl
theorem iw_252 : Cond.instantiable (cN 3) (nf 3) ∈ TS := ts_mem (i := 252) (by decide +kernel) rfl
theorem iw_64 : Cond.initialized (cN 3) ∈ TS := ts_mem (i := 64) (by decide +kernel) rfl
theorem iw_255 : Cond.code (⟨"PointerAnalyzer$Graph", "<init>", "()V"⟩ : MethodName) prog_5_method_1_code 1 none ∈ TS := ts_mem (i := 255) (by decide +kernel) rfl
theorem iw_253 : Cond.methodLinkNest (cN 8) 52 (⟨"PointerAnalyzer$Graph", "<init>", "()V"⟩ : MethodName) hostN ∈ TS := ts_mem (i := 253) (by decide +kernel) rfl
theorem iw_254 : Cond.instanceMethod (⟨"PointerAnalyzer$Graph", "<init>", "()V"⟩ : MethodName) ∈ TS := ts_mem (i := 254) (by decide +kernel) rfl
theorem iw_308 : Cond.fieldLink (cN 8) 53 (cN 8) (fT 8 7).2.1 (fT 8 7).2.2.1 ∈ TS := ts_mem (i := 308) (by decide +kernel) rfl
theorem iw_261 : Cond.classLink (cN 8) 57 (cN 5) ∈ TS := ts_mem (i := 261) (by decide +kernel) rfl
theorem iw_262 : Cond.instantiable (cN 5) (nf 5) ∈ TS := ts_mem (i := 262) (by decide +kernel) rfl
theorem iw_65 : Cond.initialized (cN 5) ∈ TS := ts_mem (i := 65) (by decide +kernel) rfl
theorem iw_265 : Cond.code (⟨"PointerAnalyzer$Machine", "<init>", "()V"⟩ : MethodName) prog_7_method_1_code 1 none ∈ TS := ts_mem (i := 265) (by decide +kernel) rfl
theorem iw_263 : Cond.methodLinkNest (cN 8) 59 (⟨"PointerAnalyzer$Machine", "<init>", "()V"⟩ : MethodName) hostN ∈ TS := ts_mem (i := 263) (by decide +kernel) rfl
theorem iw_264 : Cond.instanceMethod (⟨"PointerAnalyzer$Machine", "<init>", "()V"⟩ : MethodName) ∈ TS := ts_mem (i := 264) (by decide +kernel) rfl
theorem iw_309 : Cond.fieldLink (cN 8) 60 (cN 8) (fT 8 8).2.1 (fT 8 8).2.2.1 ∈ TS := ts_mem (i := 309) (by decide +kernel) rfl
theorem iw_310 : Cond.fieldLink (cN 8) 64 (cN 8) (fT 8 9).2.1 (fT 8 9).2.2.1 ∈ TS := ts_mem (i := 310) (by decide +kernel) rfl
theorem iw_311 : Cond.fieldLink (cN 8) 68 (cN 8) (fT 8 10).2.1 (fT 8 10).2.2.1 ∈ TS := ts_mem (i := 311) (by decide +kernel) rfl
theorem iw_91 : Cond.classLink (cN 12) 8 (cN 8) ∈ TS := ts_mem (i := 91) (by decide +kernel) rfl
theorem iw_92 : Cond.instantiable (cN 8) (nf 8) ∈ TS := ts_mem (i := 92) (by decide +kernel) rfl
theorem iw_57 : Cond.initialized (cN 8) ∈ TS := ts_mem (i := 57) (by decide +kernel) rfl
theorem iw_93 : Cond.methodLink (cN 12) 324 (⟨"PointerAnalyzer", "<init>", "()V"⟩ : MethodName) ∈ TS := ts_mem (i := 93) (by decide +kernel) rfl
theorem iw_94 : Cond.instanceMethod (⟨"PointerAnalyzer", "<init>", "()V"⟩ : MethodName) ∈ TS := ts_mem (i := 94) (by decide +kernel) rfl
theorem iw_95 : Cond.code (⟨"PointerAnalyzer", "<init>", "()V"⟩ : MethodName) prog_1_method_1_code 1 none ∈ TS := ts_mem (i := 95) (by decide +kernel) rfl
theorem ff_0_0 : ((fT 0 0).2.2.2 && fits (fTy 0 0) (.ref 0)) = true := by decide +kernel
theorem ff_1_0 : ((fT 1 0).2.2.2 && fits (fTy 1 0) (.ref 0)) = true := by decide +kernel
theorem ff_1_1 : ((fT 1 1).2.2.2 && fits (fTy 1 1) (.ref 0)) = true := by decide +kernel
theorem ff_2_0 : ((fT 2 0).2.2.2 && fits (fTy 2 0) (.ref 0)) = true := by decide +kernel
theorem ff_3_0 : ((fT 3 0).2.2.2 && fits (fTy 3 0) (.ref 0)) = true := by decide +kernel
theorem ff_5_0 : ((fT 5 0).2.2.2 && fits (fTy 5 0) (.ref 0)) = true := by decide +kernel
theorem ff_5_1 : ((fT 5 1).2.2.2 && fits (fTy 5 1) (.ref 0)) = true := by decide +kernel
theorem ff_5_2 : ((fT 5 2).2.2.2 && fits (fTy 5 2) (.ref 0)) = true := by decide +kernel
theorem ff_5_3 : ((fT 5 3).2.2.2 && fits (fTy 5 3) (.ref 0)) = true := by decide +kernel
theorem ff_5_4 : ((fT 5 4).2.2.2 && fits (fTy 5 4) (.ref 0)) = true := by decide +kernel
theorem ff_5_5 : ((fT 5 5).2.2.2 && fits (fTy 5 5) (.ref 0)) = true := by decide +kernel
theorem ff_6_0 : ((fT 6 0).2.2.2 && fits (fTy 6 0) (.ref 0)) = true := by decide +kernel
theorem ff_6_1 : ((fT 6 1).2.2.2 && fits (fTy 6 1) (.ref 0)) = true := by decide +kernel
theorem ff_6_3 : ((fT 6 3).2.2.2 && fits (fTy 6 3) (.ref 0)) = true := by decide +kernel
theorem ff_6_4 : ((fT 6 4).2.2.2 && fits (fTy 6 4) (.ref 0)) = true := by decide +kernel
theorem ff_6_5 : ((fT 6 5).2.2.2 && fits (fTy 6 5) (.ref 0)) = true := by decide +kernel
theorem ff_6_6 : ((fT 6 6).2.2.2 && fits (fTy 6 6) (.ref 0)) = true := by decide +kernel
theorem ff_7_0 : ((fT 7 0).2.2.2 && fits (fTy 7 0) (.ref 0)) = true := by decide +kernel
theorem ff_7_1 : ((fT 7 1).2.2.2 && fits (fTy 7 1) (.ref 0)) = true := by decide +kernel
theorem ff_4_0 : ((fT 4 0).2.2.2 && fits (fTy 4 0) (.ref 0)) = true := by decide +kernel
theorem ff_4_1 : ((fT 4 1).2.2.2 && fits (fTy 4 1) (.ref 0)) = true := by decide +kernel
theorem ff_4_2 : ((fT 4 2).2.2.2 && fits (fTy 4 2) (.ref 0)) = true := by decide +kernel
theorem ff_4_3 : ((fT 4 3).2.2.2 && fits (fTy 4 3) (.ref 0)) = true := by decide +kernel
theorem ff_4_4 : ((fT 4 4).2.2.2 && fits (fTy 4 4) (.ref 0)) = true := by decide +kernel
theorem ff_4_5 : ((fT 4 5).2.2.2 && fits (fTy 4 5) (.ref 0)) = true := by decide +kernel
theorem ff_4_6 : ((fT 4 6).2.2.2 && fits (fTy 4 6) (.ref 0)) = true := by decide +kernel
theorem ff_4_7 : ((fT 4 7).2.2.2 && fits (fTy 4 7) (.ref 0)) = true := by decide +kernel
theorem ff_8_0 : ((fT 8 0).2.2.2 && fits (fTy 8 0) (.ref 0)) = true := by decide +kernel
theorem ff_8_1 : ((fT 8 1).2.2.2 && fits (fTy 8 1) (.ref 0)) = true := by decide +kernel
theorem ff_8_2 : ((fT 8 2).2.2.2 && fits (fTy 8 2) (.ref 0)) = true := by decide +kernel
theorem ff_8_3 : ((fT 8 3).2.2.2 && fits (fTy 8 3) (.ref 0)) = true := by decide +kernel
theorem ff_8_4 : ((fT 8 4).2.2.2 && fits (fTy 8 4) (.ref 0)) = true := by decide +kernel
theorem ff_8_5 : ((fT 8 5).2.2.2 && fits (fTy 8 5) (.ref 0)) = true := by decide +kernel
theorem ff_8_6 : ((fT 8 6).2.2.2 && fits (fTy 8 6) (.ref 0)) = true := by decide +kernel
theorem ff_8_7 : ((fT 8 7).2.2.2 && fits (fTy 8 7) (.ref 0)) = true := by decide +kernel
theorem ff_8_8 : ((fT 8 8).2.2.2 && fits (fTy 8 8) (.ref 0)) = true := by decide +kernel
