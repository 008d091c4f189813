/-! the constructors: printed by gen_init.py -/
theorem iw_152 : Cond.methodLink (cN 0) 3 objectInit ∈ TS := ts_mem (i := 152) (by decide +kernel) rfl
theorem iw_153 : Cond.fieldLink (cN 0) 11 (cN 0) (fT 0 0).2.1 (fT 0 0).2.2.1 ∈ TS := ts_mem (i := 153) (by decide +kernel) rfl
theorem iw_228 : Cond.methodLink (cN 1) 5 objectInit ∈ TS := ts_mem (i := 228) (by decide +kernel) rfl
theorem iw_229 : Cond.fieldLink (cN 1) 11 (cN 1) (fT 1 0).2.1 (fT 1 0).2.2.1 ∈ TS := ts_mem (i := 229) (by decide +kernel) rfl
theorem iw_230 : Cond.fieldLink (cN 1) 15 (cN 1) (fT 1 1).2.1 (fT 1 1).2.2.1 ∈ TS := ts_mem (i := 230) (by decide +kernel) rfl
theorem iw_172 : Cond.methodLink (cN 2) 3 objectInit ∈ TS := ts_mem (i := 172) (by decide +kernel) rfl
theorem iw_173 : Cond.fieldLink (cN 2) 9 (cN 2) (fT 2 0).2.1 (fT 2 0).2.2.1 ∈ TS := ts_mem (i := 173) (by decide +kernel) rfl
theorem iw_304 : Cond.methodLink (cN 3) 3 objectInit ∈ TS := ts_mem (i := 304) (by decide +kernel) rfl
theorem iw_305 : Cond.fieldLink (cN 3) 9 (cN 3) (fT 3 0).2.1 (fT 3 0).2.2.1 ∈ TS := ts_mem (i := 305) (by decide +kernel) rfl
theorem iw_314 : Cond.methodLink (cN 5) 5 objectInit ∈ TS := ts_mem (i := 314) (by decide +kernel) rfl
theorem iw_315 : Cond.fieldLink (cN 5) 11 (cN 5) (fT 5 0).2.1 (fT 5 0).2.2.1 ∈ TS := ts_mem (i := 315) (by decide +kernel) rfl
theorem iw_316 : Cond.fieldLink (cN 5) 15 (cN 5) (fT 5 1).2.1 (fT 5 1).2.2.1 ∈ TS := ts_mem (i := 316) (by decide +kernel) rfl
theorem iw_317 : Cond.fieldLink (cN 5) 18 (cN 5) (fT 5 2).2.1 (fT 5 2).2.2.1 ∈ TS := ts_mem (i := 317) (by decide +kernel) rfl
theorem iw_318 : Cond.fieldLink (cN 5) 22 (cN 5) (fT 5 3).2.1 (fT 5 3).2.2.1 ∈ TS := ts_mem (i := 318) (by decide +kernel) rfl
theorem iw_319 : Cond.fieldLink (cN 5) 25 (cN 5) (fT 5 4).2.1 (fT 5 4).2.2.1 ∈ TS := ts_mem (i := 319) (by decide +kernel) rfl
theorem iw_320 : Cond.fieldLink (cN 5) 28 (cN 5) (fT 5 5).2.1 (fT 5 5).2.2.1 ∈ TS := ts_mem (i := 320) (by decide +kernel) rfl
theorem iw_191 : Cond.methodLink (cN 6) 3 objectInit ∈ TS := ts_mem (i := 191) (by decide +kernel) rfl
theorem iw_192 : Cond.fieldLink (cN 6) 9 (cN 6) (fT 6 0).2.1 (fT 6 0).2.2.1 ∈ TS := ts_mem (i := 192) (by decide +kernel) rfl
theorem iw_193 : Cond.fieldLink (cN 6) 15 (cN 6) (fT 6 1).2.1 (fT 6 1).2.2.1 ∈ TS := ts_mem (i := 193) (by decide +kernel) rfl
theorem iw_195 : Cond.fieldLink (cN 6) 18 (cN 6) (fT 6 3).2.1 (fT 6 3).2.2.1 ∈ TS := ts_mem (i := 195) (by decide +kernel) rfl
theorem iw_196 : Cond.fieldLink (cN 6) 21 (cN 6) (fT 6 4).2.1 (fT 6 4).2.2.1 ∈ TS := ts_mem (i := 196) (by decide +kernel) rfl
theorem iw_197 : Cond.fieldLink (cN 6) 24 (cN 6) (fT 6 5).2.1 (fT 6 5).2.2.1 ∈ TS := ts_mem (i := 197) (by decide +kernel) rfl
theorem iw_198 : Cond.fieldLink (cN 6) 27 (cN 6) (fT 6 6).2.1 (fT 6 6).2.2.1 ∈ TS := ts_mem (i := 198) (by decide +kernel) rfl
theorem iw_288 : Cond.methodLink (cN 7) 5 objectInit ∈ TS := ts_mem (i := 288) (by decide +kernel) rfl
theorem iw_289 : Cond.fieldLink (cN 7) 11 (cN 7) (fT 7 0).2.1 (fT 7 0).2.2.1 ∈ TS := ts_mem (i := 289) (by decide +kernel) rfl
theorem iw_290 : Cond.fieldLink (cN 7) 15 (cN 7) (fT 7 1).2.1 (fT 7 1).2.2.1 ∈ TS := ts_mem (i := 290) (by decide +kernel) rfl
theorem iw_291 : Cond.fieldLink (cN 7) 18 (cN 7) (fT 7 2).2.1 (fT 7 2).2.2.1 ∈ TS := ts_mem (i := 291) (by decide +kernel) rfl
theorem iw_222 : Cond.methodLink (cN 4) 7 objectInit ∈ TS := ts_mem (i := 222) (by decide +kernel) rfl
theorem iw_223 : Cond.classLink (cN 4) 1 (cN 1) ∈ TS := ts_mem (i := 223) (by decide +kernel) rfl
theorem iw_224 : Cond.instantiable (cN 1) (nf 1) ∈ TS := ts_mem (i := 224) (by decide +kernel) rfl
theorem iw_121 : Cond.initialized (cN 1) ∈ TS := ts_mem (i := 121) (by decide +kernel) rfl
theorem iw_227 : Cond.code (⟨"PointerAnalyzer$Contexts", "<init>", "()V"⟩ : MethodName) prog_3_method_1_code 1 none ∈ TS := ts_mem (i := 227) (by decide +kernel) rfl
theorem iw_225 : Cond.methodLinkNest (cN 4) 13 (⟨"PointerAnalyzer$Contexts", "<init>", "()V"⟩ : MethodName) hostN ∈ TS := ts_mem (i := 225) (by decide +kernel) rfl
theorem iw_226 : Cond.instanceMethod (⟨"PointerAnalyzer$Contexts", "<init>", "()V"⟩ : MethodName) ∈ TS := ts_mem (i := 226) (by decide +kernel) rfl
theorem iw_242 : Cond.fieldLink (cN 4) 14 (cN 4) (fT 4 0).2.1 (fT 4 0).2.2.1 ∈ TS := ts_mem (i := 242) (by decide +kernel) rfl
theorem iw_243 : Cond.fieldLink (cN 4) 18 (cN 4) (fT 4 1).2.1 (fT 4 1).2.2.1 ∈ TS := ts_mem (i := 243) (by decide +kernel) rfl
theorem iw_244 : Cond.fieldLink (cN 4) 22 (cN 4) (fT 4 2).2.1 (fT 4 2).2.2.1 ∈ TS := ts_mem (i := 244) (by decide +kernel) rfl
theorem iw_245 : Cond.fieldLink (cN 4) 25 (cN 4) (fT 4 3).2.1 (fT 4 3).2.2.1 ∈ TS := ts_mem (i := 245) (by decide +kernel) rfl
theorem iw_246 : Cond.fieldLink (cN 4) 29 (cN 4) (fT 4 4).2.1 (fT 4 4).2.2.1 ∈ TS := ts_mem (i := 246) (by decide +kernel) rfl
theorem iw_247 : Cond.fieldLink (cN 4) 32 (cN 4) (fT 4 5).2.1 (fT 4 5).2.2.1 ∈ TS := ts_mem (i := 247) (by decide +kernel) rfl
theorem iw_248 : Cond.fieldLink (cN 4) 35 (cN 4) (fT 4 6).2.1 (fT 4 6).2.2.1 ∈ TS := ts_mem (i := 248) (by decide +kernel) rfl
theorem iw_249 : Cond.fieldLink (cN 4) 38 (cN 4) (fT 4 7).2.1 (fT 4 7).2.2.1 ∈ TS := ts_mem (i := 249) (by decide +kernel) rfl
theorem iw_250 : Cond.fieldLink (cN 4) 41 (cN 4) (fT 4 8).2.1 (fT 4 8).2.2.1 ∈ TS := ts_mem (i := 250) (by decide +kernel) rfl
theorem iw_1380 : Cond.methodLink (cN 9) 1 objectInit ∈ TS := ts_mem (i := 1380) (by decide +kernel) rfl
theorem iw_1382 : Cond.fieldLink (cN 9) 7 (cN 9) (fT 9 1).2.1 (fT 9 1).2.2.1 ∈ TS := ts_mem (i := 1382) (by decide +kernel) rfl
theorem iw_1383 : Cond.fieldLink (cN 9) 13 (cN 9) (fT 9 2).2.1 (fT 9 2).2.2.1 ∈ TS := ts_mem (i := 1383) (by decide +kernel) rfl
theorem iw_1384 : Cond.fieldLink (cN 9) 16 (cN 9) (fT 9 3).2.1 (fT 9 3).2.2.1 ∈ TS := ts_mem (i := 1384) (by decide +kernel) rfl
theorem iw_1385 : Cond.fieldLink (cN 9) 19 (cN 9) (fT 9 4).2.1 (fT 9 4).2.2.1 ∈ TS := ts_mem (i := 1385) (by decide +kernel) rfl
theorem iw_1386 : Cond.fieldLink (cN 9) 22 (cN 9) (fT 9 5).2.1 (fT 9 5).2.2.1 ∈ TS := ts_mem (i := 1386) (by decide +kernel) rfl
theorem iw_1388 : Cond.fieldLink (cN 9) 25 (cN 9) (fT 9 7).2.1 (fT 9 7).2.2.1 ∈ TS := ts_mem (i := 1388) (by decide +kernel) rfl
theorem iw_1391 : Cond.fieldLink (cN 9) 28 (cN 9) (fT 9 10).2.1 (fT 9 10).2.2.1 ∈ TS := ts_mem (i := 1391) (by decide +kernel) rfl
theorem iw_1394 : Cond.fieldLink (cN 9) 32 (cN 9) (fT 9 14).2.1 (fT 9 14).2.2.1 ∈ TS := ts_mem (i := 1394) (by decide +kernel) rfl
theorem iw_1395 : Cond.fieldLink (cN 9) 35 (cN 9) (fT 9 15).2.1 (fT 9 15).2.2.1 ∈ TS := ts_mem (i := 1395) (by decide +kernel) rfl
theorem iw_1397 : Cond.fieldLink (cN 9) 38 (cN 9) (fT 9 17).2.1 (fT 9 17).2.2.1 ∈ TS := ts_mem (i := 1397) (by decide +kernel) rfl
theorem iw_1398 : Cond.fieldLink (cN 9) 42 (cN 9) (fT 9 18).2.1 (fT 9 18).2.2.1 ∈ TS := ts_mem (i := 1398) (by decide +kernel) rfl
theorem iw_1401 : Cond.fieldLink (cN 9) 45 (cN 9) (fT 9 21).2.1 (fT 9 21).2.2.1 ∈ TS := ts_mem (i := 1401) (by decide +kernel) rfl
theorem iw_1402 : Cond.fieldLink (cN 9) 48 (cN 9) (fT 9 22).2.1 (fT 9 22).2.2.1 ∈ TS := ts_mem (i := 1402) (by decide +kernel) rfl
theorem iw_1404 : Cond.fieldLink (cN 9) 51 (cN 9) (fT 9 24).2.1 (fT 9 24).2.2.1 ∈ TS := ts_mem (i := 1404) (by decide +kernel) rfl
theorem iw_1405 : Cond.fieldLink (cN 9) 54 (cN 9) (fT 9 25).2.1 (fT 9 25).2.2.1 ∈ TS := ts_mem (i := 1405) (by decide +kernel) rfl
theorem iw_1406 : Cond.fieldLink (cN 9) 57 (cN 9) (fT 9 26).2.1 (fT 9 26).2.2.1 ∈ TS := ts_mem (i := 1406) (by decide +kernel) rfl
theorem iw_1407 : Cond.fieldLink (cN 9) 60 (cN 9) (fT 9 27).2.1 (fT 9 27).2.2.1 ∈ TS := ts_mem (i := 1407) (by decide +kernel) rfl
theorem iw_1410 : Cond.fieldLink (cN 9) 63 (cN 9) (fT 9 30).2.1 (fT 9 30).2.2.1 ∈ TS := ts_mem (i := 1410) (by decide +kernel) rfl
theorem iw_1411 : Cond.fieldLink (cN 9) 66 (cN 9) (fT 9 31).2.1 (fT 9 31).2.2.1 ∈ TS := ts_mem (i := 1411) (by decide +kernel) rfl
theorem iw_1412 : Cond.fieldLink (cN 9) 69 (cN 9) (fT 9 32).2.1 (fT 9 32).2.2.1 ∈ TS := ts_mem (i := 1412) (by decide +kernel) rfl
theorem iw_1413 : Cond.fieldLink (cN 9) 72 (cN 9) (fT 9 33).2.1 (fT 9 33).2.2.1 ∈ TS := ts_mem (i := 1413) (by decide +kernel) rfl
theorem iw_1414 : Cond.fieldLink (cN 9) 75 (cN 9) (fT 9 34).2.1 (fT 9 34).2.2.1 ∈ TS := ts_mem (i := 1414) (by decide +kernel) rfl
theorem iw_1415 : Cond.fieldLink (cN 9) 78 (cN 9) (fT 9 35).2.1 (fT 9 35).2.2.1 ∈ TS := ts_mem (i := 1415) (by decide +kernel) rfl
theorem iw_1421 : Cond.fieldLink (cN 9) 81 (cN 9) (fT 9 41).2.1 (fT 9 41).2.2.1 ∈ TS := ts_mem (i := 1421) (by decide +kernel) rfl
theorem iw_144 : Cond.methodLink (cN 8) 3 objectInit ∈ TS := ts_mem (i := 144) (by decide +kernel) rfl
theorem iw_147 : Cond.classLink (cN 8) 9 (cN 0) ∈ TS := ts_mem (i := 147) (by decide +kernel) rfl
theorem iw_148 : Cond.instantiable (cN 0) (nf 0) ∈ TS := ts_mem (i := 148) (by decide +kernel) rfl
theorem iw_117 : Cond.initialized (cN 0) ∈ TS := ts_mem (i := 117) (by decide +kernel) rfl
theorem iw_151 : Cond.code (⟨"PointerAnalyzer$BodyText", "<init>", "()V"⟩ : MethodName) prog_2_method_1_code 1 none ∈ TS := ts_mem (i := 151) (by decide +kernel) rfl
theorem iw_149 : Cond.methodLinkNest (cN 8) 11 (⟨"PointerAnalyzer$BodyText", "<init>", "()V"⟩ : MethodName) hostN ∈ TS := ts_mem (i := 149) (by decide +kernel) rfl
theorem iw_150 : Cond.instanceMethod (⟨"PointerAnalyzer$BodyText", "<init>", "()V"⟩ : MethodName) ∈ TS := ts_mem (i := 150) (by decide +kernel) rfl
theorem iw_349 : Cond.fieldLink (cN 8) 12 (cN 8) (fT 8 0).2.1 (fT 8 0).2.2.1 ∈ TS := ts_mem (i := 349) (by decide +kernel) rfl
theorem iw_167 : Cond.classLink (cN 8) 16 (cN 2) ∈ TS := ts_mem (i := 167) (by decide +kernel) rfl
theorem iw_168 : Cond.instantiable (cN 2) (nf 2) ∈ TS := ts_mem (i := 168) (by decide +kernel) rfl
theorem iw_118 : Cond.initialized (cN 2) ∈ TS := ts_mem (i := 118) (by decide +kernel) rfl
theorem iw_171 : Cond.code (⟨"PointerAnalyzer$Draft", "<init>", "()V"⟩ : MethodName) prog_4_method_1_code 1 none ∈ TS := ts_mem (i := 171) (by decide +kernel) rfl
theorem iw_169 : Cond.methodLinkNest (cN 8) 18 (⟨"PointerAnalyzer$Draft", "<init>", "()V"⟩ : MethodName) hostN ∈ TS := ts_mem (i := 169) (by decide +kernel) rfl
theorem iw_170 : Cond.instanceMethod (⟨"PointerAnalyzer$Draft", "<init>", "()V"⟩ : MethodName) ∈ TS := ts_mem (i := 170) (by decide +kernel) rfl
theorem iw_350 : Cond.fieldLink (cN 8) 19 (cN 8) (fT 8 1).2.1 (fT 8 1).2.2.1 ∈ TS := ts_mem (i := 350) (by decide +kernel) rfl
theorem iw_186 : Cond.classLink (cN 8) 23 (cN 6) ∈ TS := ts_mem (i := 186) (by decide +kernel) rfl
theorem iw_187 : Cond.instantiable (cN 6) (nf 6) ∈ TS := ts_mem (i := 187) (by decide +kernel) rfl
theorem iw_119 : Cond.initialized (cN 6) ∈ TS := ts_mem (i := 119) (by decide +kernel) rfl
theorem iw_190 : Cond.code (⟨"PointerAnalyzer$Program", "<init>", "()V"⟩ : MethodName) prog_8_method_1_code 1 none ∈ TS := ts_mem (i := 190) (by decide +kernel) rfl
theorem iw_188 : Cond.methodLinkNest (cN 8) 25 (⟨"PointerAnalyzer$Program", "<init>", "()V"⟩ : MethodName) hostN ∈ TS := ts_mem (i := 188) (by decide +kernel) rfl
theorem iw_189 : Cond.instanceMethod (⟨"PointerAnalyzer$Program", "<init>", "()V"⟩ : MethodName) ∈ TS := ts_mem (i := 189) (by decide +kernel) rfl
theorem iw_351 : Cond.fieldLink (cN 8) 26 (cN 8) (fT 8 2).2.1 (fT 8 2).2.2.1 ∈ TS := ts_mem (i := 351) (by decide +kernel) rfl
theorem iw_352 : Cond.fieldLink (cN 8) 30 (cN 8) (fT 8 3).2.1 (fT 8 3).2.2.1 ∈ TS := ts_mem (i := 352) (by decide +kernel) rfl
theorem iw_217 : Cond.classLink (cN 8) 33 (cN 4) ∈ TS := ts_mem (i := 217) (by decide +kernel) rfl
theorem iw_218 : Cond.instantiable (cN 4) (nf 4) ∈ TS := ts_mem (i := 218) (by decide +kernel) rfl
theorem iw_120 : Cond.initialized (cN 4) ∈ TS := ts_mem (i := 120) (by decide +kernel) rfl
theorem iw_221 : Cond.code (⟨"PointerAnalyzer$Inclusion", "<init>", "()V"⟩ : MethodName) prog_6_method_1_code 1 none ∈ TS := ts_mem (i := 221) (by decide +kernel) rfl
theorem iw_219 : Cond.methodLinkNest (cN 8) 35 (⟨"PointerAnalyzer$Inclusion", "<init>", "()V"⟩ : MethodName) hostN ∈ TS := ts_mem (i := 219) (by decide +kernel) rfl
theorem iw_220 : Cond.instanceMethod (⟨"PointerAnalyzer$Inclusion", "<init>", "()V"⟩ : MethodName) ∈ TS := ts_mem (i := 220) (by decide +kernel) rfl
theorem iw_353 : Cond.fieldLink (cN 8) 36 (cN 8) (fT 8 4).2.1 (fT 8 4).2.2.1 ∈ TS := ts_mem (i := 353) (by decide +kernel) rfl
theorem iw_354 : Cond.fieldLink (cN 8) 40 (cN 8) (fT 8 5).2.1 (fT 8 5).2.2.1 ∈ TS := ts_mem (i := 354) (by decide +kernel) rfl
theorem iw_283 : Cond.classLink (cN 8) 43 (cN 7) ∈ TS := ts_mem (i := 283) (by decide +kernel) rfl
theorem iw_284 : Cond.instantiable (cN 7) (nf 7) ∈ TS := ts_mem (i := 284) (by decide +kernel) rfl
theorem iw_122 : Cond.initialized (cN 7) ∈ TS := ts_mem (i := 122) (by decide +kernel) rfl
theorem iw_287 : Cond.code (⟨"PointerAnalyzer$Unification", "<init>", "()V"⟩ : MethodName) prog_11_method_1_code 1 none ∈ TS := ts_mem (i := 287) (by decide +kernel) rfl
theorem iw_285 : Cond.methodLinkNest (cN 8) 45 (⟨"PointerAnalyzer$Unification", "<init>", "()V"⟩ : MethodName) hostN ∈ TS := ts_mem (i := 285) (by decide +kernel) rfl
theorem iw_286 : Cond.instanceMethod (⟨"PointerAnalyzer$Unification", "<init>", "()V"⟩ : MethodName) ∈ TS := ts_mem (i := 286) (by decide +kernel) rfl
theorem iw_355 : Cond.fieldLink (cN 8) 46 (cN 8) (fT 8 6).2.1 (fT 8 6).2.2.1 ∈ TS := ts_mem (i := 355) (by decide +kernel) rfl
theorem iw_299 : Cond.classLink (cN 8) 50 (cN 3) ∈ TS := ts_mem (i := 299) (by decide +kernel) rfl
theorem iw_300 : Cond.instantiable (cN 3) (nf 3) ∈ TS := ts_mem (i := 300) (by decide +kernel) rfl
theorem iw_123 : Cond.initialized (cN 3) ∈ TS := ts_mem (i := 123) (by decide +kernel) rfl
theorem iw_303 : Cond.code (⟨"PointerAnalyzer$Graph", "<init>", "()V"⟩ : MethodName) prog_5_method_1_code 1 none ∈ TS := ts_mem (i := 303) (by decide +kernel) rfl
theorem iw_301 : Cond.methodLinkNest (cN 8) 52 (⟨"PointerAnalyzer$Graph", "<init>", "()V"⟩ : MethodName) hostN ∈ TS := ts_mem (i := 301) (by decide +kernel) rfl
theorem iw_302 : Cond.instanceMethod (⟨"PointerAnalyzer$Graph", "<init>", "()V"⟩ : MethodName) ∈ TS := ts_mem (i := 302) (by decide +kernel) rfl
theorem iw_356 : Cond.fieldLink (cN 8) 53 (cN 8) (fT 8 7).2.1 (fT 8 7).2.2.1 ∈ TS := ts_mem (i := 356) (by decide +kernel) rfl
theorem iw_309 : Cond.classLink (cN 8) 57 (cN 5) ∈ TS := ts_mem (i := 309) (by decide +kernel) rfl
theorem iw_310 : Cond.instantiable (cN 5) (nf 5) ∈ TS := ts_mem (i := 310) (by decide +kernel) rfl
theorem iw_124 : Cond.initialized (cN 5) ∈ TS := ts_mem (i := 124) (by decide +kernel) rfl
theorem iw_313 : Cond.code (⟨"PointerAnalyzer$Machine", "<init>", "()V"⟩ : MethodName) prog_7_method_1_code 1 none ∈ TS := ts_mem (i := 313) (by decide +kernel) rfl
theorem iw_311 : Cond.methodLinkNest (cN 8) 59 (⟨"PointerAnalyzer$Machine", "<init>", "()V"⟩ : MethodName) hostN ∈ TS := ts_mem (i := 311) (by decide +kernel) rfl
theorem iw_312 : Cond.instanceMethod (⟨"PointerAnalyzer$Machine", "<init>", "()V"⟩ : MethodName) ∈ TS := ts_mem (i := 312) (by decide +kernel) rfl
theorem iw_357 : Cond.fieldLink (cN 8) 60 (cN 8) (fT 8 8).2.1 (fT 8 8).2.2.1 ∈ TS := ts_mem (i := 357) (by decide +kernel) rfl
theorem iw_358 : Cond.fieldLink (cN 8) 64 (cN 8) (fT 8 9).2.1 (fT 8 9).2.2.1 ∈ TS := ts_mem (i := 358) (by decide +kernel) rfl
theorem iw_359 : Cond.fieldLink (cN 8) 68 (cN 8) (fT 8 10).2.1 (fT 8 10).2.2.1 ∈ TS := ts_mem (i := 359) (by decide +kernel) rfl
theorem iw_139 : Cond.classLink (cN 12) 8 (cN 8) ∈ TS := ts_mem (i := 139) (by decide +kernel) rfl
theorem iw_140 : Cond.instantiable (cN 8) (nf 8) ∈ TS := ts_mem (i := 140) (by decide +kernel) rfl
theorem iw_116 : Cond.initialized (cN 8) ∈ TS := ts_mem (i := 116) (by decide +kernel) rfl
theorem iw_141 : Cond.methodLink (cN 12) 106 (⟨"PointerAnalyzer", "<init>", "()V"⟩ : MethodName) ∈ TS := ts_mem (i := 141) (by decide +kernel) rfl
theorem iw_142 : Cond.instanceMethod (⟨"PointerAnalyzer", "<init>", "()V"⟩ : MethodName) ∈ TS := ts_mem (i := 142) (by decide +kernel) rfl
theorem iw_143 : Cond.code (⟨"PointerAnalyzer", "<init>", "()V"⟩ : MethodName) prog_1_method_1_code 1 none ∈ TS := ts_mem (i := 143) (by decide +kernel) rfl
theorem iw_1375 : Cond.classLink (cN 12) 107 (cN 9) ∈ TS := ts_mem (i := 1375) (by decide +kernel) rfl
theorem iw_1376 : Cond.instantiable (cN 9) (nf 9) ∈ TS := ts_mem (i := 1376) (by decide +kernel) rfl
theorem iw_125 : Cond.initialized (cN 9) ∈ TS := ts_mem (i := 125) (by decide +kernel) rfl
theorem iw_1377 : Cond.methodLink (cN 12) 109 (⟨"PointerAnalyzerModel", "<init>", "()V"⟩ : MethodName) ∈ TS := ts_mem (i := 1377) (by decide +kernel) rfl
theorem iw_1378 : Cond.instanceMethod (⟨"PointerAnalyzerModel", "<init>", "()V"⟩ : MethodName) ∈ TS := ts_mem (i := 1378) (by decide +kernel) rfl
theorem iw_1379 : Cond.code (⟨"PointerAnalyzerModel", "<init>", "()V"⟩ : MethodName) prog_13_method_1_code 1 none ∈ TS := ts_mem (i := 1379) (by decide +kernel) rfl
theorem ff_0_0 : ((fT 0 0).2.2.2 && fits (fTy 0 0) (.ref 0)) = true := by decide +kernel
theorem ff_1_0 : ((fT 1 0).2.2.2 && fits (fTy 1 0) (.ref 0)) = true := by decide +kernel
theorem ff_1_1 : ((fT 1 1).2.2.2 && fits (fTy 1 1) (.ref 0)) = true := by decide +kernel
theorem ff_2_0 : ((fT 2 0).2.2.2 && fits (fTy 2 0) (.ref 0)) = true := by decide +kernel
theorem ff_3_0 : ((fT 3 0).2.2.2 && fits (fTy 3 0) (.ref 0)) = true := by decide +kernel
theorem ff_5_0 : ((fT 5 0).2.2.2 && fits (fTy 5 0) (.ref 0)) = true := by decide +kernel
theorem ff_5_1 : ((fT 5 1).2.2.2 && fits (fTy 5 1) (.ref 0)) = true := by decide +kernel
theorem ff_5_2 : ((fT 5 2).2.2.2 && fits (fTy 5 2) (.ref 0)) = true := by decide +kernel
theorem ff_5_3 : ((fT 5 3).2.2.2 && fits (fTy 5 3) (.ref 0)) = true := by decide +kernel
theorem ff_5_4 : ((fT 5 4).2.2.2 && fits (fTy 5 4) (.ref 0)) = true := by decide +kernel
theorem ff_5_5 : ((fT 5 5).2.2.2 && fits (fTy 5 5) (.ref 0)) = true := by decide +kernel
theorem ff_6_0 : ((fT 6 0).2.2.2 && fits (fTy 6 0) (.ref 0)) = true := by decide +kernel
theorem ff_6_1 : ((fT 6 1).2.2.2 && fits (fTy 6 1) (.ref 0)) = true := by decide +kernel
theorem ff_6_3 : ((fT 6 3).2.2.2 && fits (fTy 6 3) (.ref 0)) = true := by decide +kernel
theorem ff_6_4 : ((fT 6 4).2.2.2 && fits (fTy 6 4) (.ref 0)) = true := by decide +kernel
theorem ff_6_5 : ((fT 6 5).2.2.2 && fits (fTy 6 5) (.ref 0)) = true := by decide +kernel
theorem ff_6_6 : ((fT 6 6).2.2.2 && fits (fTy 6 6) (.ref 0)) = true := by decide +kernel
theorem ff_7_0 : ((fT 7 0).2.2.2 && fits (fTy 7 0) (.ref 0)) = true := by decide +kernel
theorem ff_7_1 : ((fT 7 1).2.2.2 && fits (fTy 7 1) (.ref 0)) = true := by decide +kernel
theorem ff_4_0 : ((fT 4 0).2.2.2 && fits (fTy 4 0) (.ref 0)) = true := by decide +kernel
theorem ff_4_1 : ((fT 4 1).2.2.2 && fits (fTy 4 1) (.ref 0)) = true := by decide +kernel
theorem ff_4_2 : ((fT 4 2).2.2.2 && fits (fTy 4 2) (.ref 0)) = true := by decide +kernel
theorem ff_4_3 : ((fT 4 3).2.2.2 && fits (fTy 4 3) (.ref 0)) = true := by decide +kernel
theorem ff_4_4 : ((fT 4 4).2.2.2 && fits (fTy 4 4) (.ref 0)) = true := by decide +kernel
theorem ff_4_5 : ((fT 4 5).2.2.2 && fits (fTy 4 5) (.ref 0)) = true := by decide +kernel
theorem ff_4_6 : ((fT 4 6).2.2.2 && fits (fTy 4 6) (.ref 0)) = true := by decide +kernel
theorem ff_4_7 : ((fT 4 7).2.2.2 && fits (fTy 4 7) (.ref 0)) = true := by decide +kernel
theorem ff_9_1 : ((fT 9 1).2.2.2 && fits (fTy 9 1) (.ref 0)) = true := by decide +kernel
theorem ff_9_2 : ((fT 9 2).2.2.2 && fits (fTy 9 2) (.ref 0)) = true := by decide +kernel
theorem ff_9_3 : ((fT 9 3).2.2.2 && fits (fTy 9 3) (.ref 0)) = true := by decide +kernel
theorem ff_9_4 : ((fT 9 4).2.2.2 && fits (fTy 9 4) (.ref 0)) = true := by decide +kernel
theorem ff_9_5 : ((fT 9 5).2.2.2 && fits (fTy 9 5) (.ref 0)) = true := by decide +kernel
theorem ff_9_7 : ((fT 9 7).2.2.2 && fits (fTy 9 7) (.ref 0)) = true := by decide +kernel
theorem ff_9_14 : ((fT 9 14).2.2.2 && fits (fTy 9 14) (.ref 0)) = true := by decide +kernel
theorem ff_9_15 : ((fT 9 15).2.2.2 && fits (fTy 9 15) (.ref 0)) = true := by decide +kernel
theorem ff_9_17 : ((fT 9 17).2.2.2 && fits (fTy 9 17) (.ref 0)) = true := by decide +kernel
theorem ff_9_18 : ((fT 9 18).2.2.2 && fits (fTy 9 18) (.ref 0)) = true := by decide +kernel
theorem ff_9_21 : ((fT 9 21).2.2.2 && fits (fTy 9 21) (.ref 0)) = true := by decide +kernel
theorem ff_9_22 : ((fT 9 22).2.2.2 && fits (fTy 9 22) (.ref 0)) = true := by decide +kernel
theorem ff_9_24 : ((fT 9 24).2.2.2 && fits (fTy 9 24) (.ref 0)) = true := by decide +kernel
theorem ff_9_25 : ((fT 9 25).2.2.2 && fits (fTy 9 25) (.ref 0)) = true := by decide +kernel
theorem ff_9_26 : ((fT 9 26).2.2.2 && fits (fTy 9 26) (.ref 0)) = true := by decide +kernel
theorem ff_9_27 : ((fT 9 27).2.2.2 && fits (fTy 9 27) (.ref 0)) = true := by decide +kernel
theorem ff_9_30 : ((fT 9 30).2.2.2 && fits (fTy 9 30) (.ref 0)) = true := by decide +kernel
theorem ff_9_31 : ((fT 9 31).2.2.2 && fits (fTy 9 31) (.ref 0)) = true := by decide +kernel
theorem ff_9_32 : ((fT 9 32).2.2.2 && fits (fTy 9 32) (.ref 0)) = true := by decide +kernel
theorem ff_9_33 : ((fT 9 33).2.2.2 && fits (fTy 9 33) (.ref 0)) = true := by decide +kernel
theorem ff_9_34 : ((fT 9 34).2.2.2 && fits (fTy 9 34) (.ref 0)) = true := by decide +kernel
theorem ff_9_35 : ((fT 9 35).2.2.2 && fits (fTy 9 35) (.ref 0)) = true := by decide +kernel
theorem ff_9_41 : ((fT 9 41).2.2.2 && fits (fTy 9 41) (.ref 0)) = true := by decide +kernel
theorem ff_8_0 : ((fT 8 0).2.2.2 && fits (fTy 8 0) (.ref 0)) = true := by decide +kernel
theorem ff_8_1 : ((fT 8 1).2.2.2 && fits (fTy 8 1) (.ref 0)) = true := by decide +kernel
theorem ff_8_2 : ((fT 8 2).2.2.2 && fits (fTy 8 2) (.ref 0)) = true := by decide +kernel
theorem ff_8_3 : ((fT 8 3).2.2.2 && fits (fTy 8 3) (.ref 0)) = true := by decide +kernel
theorem ff_8_4 : ((fT 8 4).2.2.2 && fits (fTy 8 4) (.ref 0)) = true := by decide +kernel
theorem ff_8_5 : ((fT 8 5).2.2.2 && fits (fTy 8 5) (.ref 0)) = true := by decide +kernel
theorem ff_8_6 : ((fT 8 6).2.2.2 && fits (fTy 8 6) (.ref 0)) = true := by decide +kernel
theorem ff_8_7 : ((fT 8 7).2.2.2 && fits (fTy 8 7) (.ref 0)) = true := by decide +kernel
theorem ff_8_8 : ((fT 8 8).2.2.2 && fits (fTy 8 8) (.ref 0)) = true := by decide +kernel
