/-! ===== words that the walks use, fields ===== -/
theorem tw_1 : (Cond.initialized "KeyPath") ∈ k_Tg := k_tg 1 (by decide +kernel) rfl
theorem tw_2 : (Cond.initialized "KeyPath$TextReader") ∈ k_Tg := k_tg 2 (by decide +kernel) rfl
theorem tw_3 : (Cond.initialized "KeyPath$Notes") ∈ k_Tg := k_tg 3 (by decide +kernel) rfl
theorem tw_4 : (Cond.initialized "KeyPath$History") ∈ k_Tg := k_tg 4 (by decide +kernel) rfl
theorem tw_5 : (Cond.initialized "KeyPath$Windows") ∈ k_Tg := k_tg 5 (by decide +kernel) rfl
theorem tw_6 : (Cond.initialized "KeyPath$Profiles") ∈ k_Tg := k_tg 6 (by decide +kernel) rfl
theorem tw_7 : (Cond.initialized "KeyPath$Net") ∈ k_Tg := k_tg 7 (by decide +kernel) rfl
theorem tw_8 : (Cond.initialized "KeyPath$PathFinder") ∈ k_Tg := k_tg 8 (by decide +kernel) rfl
theorem tw_9 : (Cond.initialized "java/util/Arrays") ∈ k_Tg := k_tg 9 (by decide +kernel) rfl
theorem tw_10 : (Cond.initialized "KeyPath$Detours") ∈ k_Tg := k_tg 10 (by decide +kernel) rfl
theorem tw_11 : (Cond.initialized "KeyPathModel") ∈ k_Tg := k_tg 11 (by decide +kernel) rfl
theorem tw_12 : (Cond.initialized "java/lang/Math") ∈ k_Tg := k_tg 12 (by decide +kernel) rfl
theorem tw_13 : (Cond.initialized "java/lang/System") ∈ k_Tg := k_tg 13 (by decide +kernel) rfl
theorem tw_38 : (Cond.fieldLink "KeyPath$Notes" (9 : Nat) "KeyPath$Notes" "ticks" "[I") ∈ k_Tg := k_tg 38 (by decide +kernel) rfl
theorem tw_39 : (Cond.fieldLink "KeyPath$Windows" (65 : Nat) "KeyPath$Notes" "ticks" "[I") ∈ k_Tg := k_tg 39 (by decide +kernel) rfl
theorem tw_40 : (Cond.fieldLink "KeyPath" (114 : Nat) "KeyPath$Notes" "ticks" "[I") ∈ k_Tg := k_tg 40 (by decide +kernel) rfl
theorem tw_41 : (Cond.fieldLink "KeyPath$Notes" (15 : Nat) "KeyPath$Notes" "lengths" "[I") ∈ k_Tg := k_tg 41 (by decide +kernel) rfl
theorem tw_42 : (Cond.fieldLink "KeyPath$Windows" (71 : Nat) "KeyPath$Notes" "lengths" "[I") ∈ k_Tg := k_tg 42 (by decide +kernel) rfl
theorem tw_43 : (Cond.fieldLink "KeyPath" (118 : Nat) "KeyPath$Notes" "lengths" "[I") ∈ k_Tg := k_tg 43 (by decide +kernel) rfl
theorem tw_44 : (Cond.fieldLink "KeyPath$Notes" (18 : Nat) "KeyPath$Notes" "pitches" "[I") ∈ k_Tg := k_tg 44 (by decide +kernel) rfl
theorem tw_45 : (Cond.fieldLink "KeyPath$Windows" (74 : Nat) "KeyPath$Notes" "pitches" "[I") ∈ k_Tg := k_tg 45 (by decide +kernel) rfl
theorem tw_46 : (Cond.fieldLink "KeyPath" (121 : Nat) "KeyPath$Notes" "pitches" "[I") ∈ k_Tg := k_tg 46 (by decide +kernel) rfl
theorem tw_47 : (Cond.fieldLink "KeyPath$Notes" (21 : Nat) "KeyPath$Notes" "size" "I") ∈ k_Tg := k_tg 47 (by decide +kernel) rfl
theorem tw_48 : (Cond.fieldLink "KeyPath$TextReader" (50 : Nat) "KeyPath$Notes" "size" "I") ∈ k_Tg := k_tg 48 (by decide +kernel) rfl
theorem tw_49 : (Cond.fieldLink "KeyPath" (92 : Nat) "KeyPath$Notes" "size" "I") ∈ k_Tg := k_tg 49 (by decide +kernel) rfl
theorem tw_50 : (Cond.fieldLink "KeyPath$Windows" (64 : Nat) "KeyPath$Notes" "size" "I") ∈ k_Tg := k_tg 50 (by decide +kernel) rfl
theorem tw_61 : (Cond.fieldLink "KeyPath$TextReader" (9 : Nat) "KeyPath$TextReader" "tape" "[I") ∈ k_Tg := k_tg 61 (by decide +kernel) rfl
theorem tw_62 : (Cond.fieldLink "KeyPath" (65 : Nat) "KeyPath$TextReader" "held" "I") ∈ k_Tg := k_tg 62 (by decide +kernel) rfl
theorem tw_63 : (Cond.fieldLink "KeyPath$TextReader" (29 : Nat) "KeyPath$TextReader" "held" "I") ∈ k_Tg := k_tg 63 (by decide +kernel) rfl
theorem tw_64 : (Cond.fieldLink "KeyPath$TextReader" (18 : Nat) "KeyPath$TextReader" "found" "LKeyPath$Notes;") ∈ k_Tg := k_tg 64 (by decide +kernel) rfl
theorem tw_65 : (Cond.fieldLink "KeyPath" (79 : Nat) "KeyPath$TextReader" "found" "LKeyPath$Notes;") ∈ k_Tg := k_tg 65 (by decide +kernel) rfl
theorem tw_66 : (Cond.fieldLink "KeyPath$TextReader" (47 : Nat) "KeyPath$TextReader" "trouble" "I") ∈ k_Tg := k_tg 66 (by decide +kernel) rfl
theorem tw_67 : (Cond.fieldLink "KeyPath" (76 : Nat) "KeyPath$TextReader" "trouble" "I") ∈ k_Tg := k_tg 67 (by decide +kernel) rfl
theorem tw_68 : (Cond.fieldLink "KeyPath$TextReader" (22 : Nat) "KeyPath$TextReader" "place" "I") ∈ k_Tg := k_tg 68 (by decide +kernel) rfl
theorem tw_69 : (Cond.fieldLink "KeyPath" (95 : Nat) "KeyPath$TextReader" "place" "I") ∈ k_Tg := k_tg 69 (by decide +kernel) rfl
theorem tw_70 : (Cond.fieldLink "KeyPath$TextReader" (38 : Nat) "KeyPath$TextReader" "length" "I") ∈ k_Tg := k_tg 70 (by decide +kernel) rfl
theorem tw_71 : (Cond.fieldLink "KeyPath$TextReader" (41 : Nat) "KeyPath$TextReader" "at" "I") ∈ k_Tg := k_tg 71 (by decide +kernel) rfl
theorem tw_72 : (Cond.fieldLink "KeyPath$TextReader" (44 : Nat) "KeyPath$TextReader" "tick" "I") ∈ k_Tg := k_tg 72 (by decide +kernel) rfl
theorem tw_73 : (Cond.fieldLink "KeyPath$TextReader" (26 : Nat) "KeyPath$TextReader" "named" "[I") ∈ k_Tg := k_tg 73 (by decide +kernel) rfl
theorem tw_74 : (Cond.fieldLink "KeyPath$TextReader" (60 : Nat) "KeyPath$TextReader" "names" "I") ∈ k_Tg := k_tg 74 (by decide +kernel) rfl
theorem tw_104 : (Cond.fieldLink "KeyPath$History" (9 : Nat) "KeyPath$History" "kinds" "[I") ∈ k_Tg := k_tg 104 (by decide +kernel) rfl
theorem tw_105 : (Cond.fieldLink "KeyPath$History" (15 : Nat) "KeyPath$History" "places" "[I") ∈ k_Tg := k_tg 105 (by decide +kernel) rfl
theorem tw_106 : (Cond.fieldLink "KeyPath$History" (18 : Nat) "KeyPath$History" "ticks" "[I") ∈ k_Tg := k_tg 106 (by decide +kernel) rfl
theorem tw_107 : (Cond.fieldLink "KeyPath$History" (21 : Nat) "KeyPath$History" "lengths" "[I") ∈ k_Tg := k_tg 107 (by decide +kernel) rfl
theorem tw_108 : (Cond.fieldLink "KeyPath$History" (24 : Nat) "KeyPath$History" "pitches" "[I") ∈ k_Tg := k_tg 108 (by decide +kernel) rfl
theorem tw_109 : (Cond.fieldLink "KeyPath$History" (27 : Nat) "KeyPath$History" "size" "I") ∈ k_Tg := k_tg 109 (by decide +kernel) rfl
theorem tw_110 : (Cond.fieldLink "KeyPath" (134 : Nat) "KeyPath$History" "size" "I") ∈ k_Tg := k_tg 110 (by decide +kernel) rfl
theorem tw_130 : (Cond.fieldLink "KeyPath$Windows" (9 : Nat) "KeyPath$Windows" "wide" "I") ∈ k_Tg := k_tg 130 (by decide +kernel) rfl
theorem tw_131 : (Cond.fieldLink "KeyPath" (149 : Nat) "KeyPath$Windows" "wide" "I") ∈ k_Tg := k_tg 131 (by decide +kernel) rfl
theorem tw_132 : (Cond.fieldLink "KeyPath$Windows" (15 : Nat) "KeyPath$Windows" "hop" "I") ∈ k_Tg := k_tg 132 (by decide +kernel) rfl
theorem tw_133 : (Cond.fieldLink "KeyPath" (152 : Nat) "KeyPath$Windows" "hop" "I") ∈ k_Tg := k_tg 133 (by decide +kernel) rfl
theorem tw_134 : (Cond.fieldLink "KeyPath$PathFinder" (47 : Nat) "KeyPath$Windows" "size" "I") ∈ k_Tg := k_tg 134 (by decide +kernel) rfl
theorem tw_135 : (Cond.fieldLink "KeyPath$Profiles" (42 : Nat) "KeyPath$Windows" "size" "I") ∈ k_Tg := k_tg 135 (by decide +kernel) rfl
theorem tw_136 : (Cond.fieldLink "KeyPath$Windows" (47 : Nat) "KeyPath$Windows" "size" "I") ∈ k_Tg := k_tg 136 (by decide +kernel) rfl
theorem tw_137 : (Cond.fieldLink "KeyPath" (158 : Nat) "KeyPath$Windows" "size" "I") ∈ k_Tg := k_tg 137 (by decide +kernel) rfl
theorem tw_138 : (Cond.fieldLink "KeyPath$Windows" (18 : Nat) "KeyPath$Windows" "counts" "[I") ∈ k_Tg := k_tg 138 (by decide +kernel) rfl
theorem tw_139 : (Cond.fieldLink "KeyPath$Profiles" (37 : Nat) "KeyPath$Windows" "counts" "[I") ∈ k_Tg := k_tg 139 (by decide +kernel) rfl
theorem tw_140 : (Cond.fieldLink "KeyPath" (202 : Nat) "KeyPath$Windows" "counts" "[I") ∈ k_Tg := k_tg 140 (by decide +kernel) rfl
theorem tw_141 : (Cond.fieldLink "KeyPath$Windows" (22 : Nat) "KeyPath$Windows" "totals" "[I") ∈ k_Tg := k_tg 141 (by decide +kernel) rfl
theorem tw_142 : (Cond.fieldLink "KeyPath$PathFinder" (54 : Nat) "KeyPath$Windows" "totals" "[I") ∈ k_Tg := k_tg 142 (by decide +kernel) rfl
theorem tw_143 : (Cond.fieldLink "KeyPath$Profiles" (50 : Nat) "KeyPath$Windows" "totals" "[I") ∈ k_Tg := k_tg 143 (by decide +kernel) rfl
theorem tw_144 : (Cond.fieldLink "KeyPath" (199 : Nat) "KeyPath$Windows" "totals" "[I") ∈ k_Tg := k_tg 144 (by decide +kernel) rfl
theorem tw_145 : (Cond.fieldLink "KeyPath$Windows" (25 : Nat) "KeyPath$Windows" "chords" "[I") ∈ k_Tg := k_tg 145 (by decide +kernel) rfl
theorem tw_146 : (Cond.fieldLink "KeyPath" (221 : Nat) "KeyPath$Windows" "chords" "[I") ∈ k_Tg := k_tg 146 (by decide +kernel) rfl
theorem tw_147 : (Cond.fieldLink "KeyPath$Windows" (28 : Nat) "KeyPath$Windows" "stale" "Z") ∈ k_Tg := k_tg 147 (by decide +kernel) rfl
theorem tw_148 : (Cond.fieldLink "KeyPath" (329 : Nat) "KeyPath$Windows" "stale" "Z") ∈ k_Tg := k_tg 148 (by decide +kernel) rfl
theorem tw_179 : (Cond.fieldLink "KeyPath$Profiles" (18 : Nat) "KeyPath$Profiles" "weights" "[I") ∈ k_Tg := k_tg 179 (by decide +kernel) rfl
theorem tw_180 : (Cond.fieldLink "KeyPath" (165 : Nat) "KeyPath$Profiles" "weights" "[I") ∈ k_Tg := k_tg 180 (by decide +kernel) rfl
theorem tw_181 : (Cond.fieldLink "KeyPath$Profiles" (23 : Nat) "KeyPath$Profiles" "fits" "[I") ∈ k_Tg := k_tg 181 (by decide +kernel) rfl
theorem tw_182 : (Cond.fieldLink "KeyPath$PathFinder" (62 : Nat) "KeyPath$Profiles" "fits" "[I") ∈ k_Tg := k_tg 182 (by decide +kernel) rfl
theorem tw_183 : (Cond.fieldLink "KeyPath" (215 : Nat) "KeyPath$Profiles" "fits" "[I") ∈ k_Tg := k_tg 183 (by decide +kernel) rfl
theorem tw_184 : (Cond.fieldLink "KeyPath$Profiles" (26 : Nat) "KeyPath$Profiles" "bests" "[I") ∈ k_Tg := k_tg 184 (by decide +kernel) rfl
theorem tw_185 : (Cond.fieldLink "KeyPath$PathFinder" (57 : Nat) "KeyPath$Profiles" "bests" "[I") ∈ k_Tg := k_tg 185 (by decide +kernel) rfl
theorem tw_186 : (Cond.fieldLink "KeyPath$Profiles" (29 : Nat) "KeyPath$Profiles" "stale" "Z") ∈ k_Tg := k_tg 186 (by decide +kernel) rfl
theorem tw_187 : (Cond.fieldLink "KeyPath" (330 : Nat) "KeyPath$Profiles" "stale" "Z") ∈ k_Tg := k_tg 187 (by decide +kernel) rfl
theorem tw_203 : (Cond.fieldLink "KeyPath$Net" (9 : Nat) "KeyPath$Net" "fifth" "I") ∈ k_Tg := k_tg 203 (by decide +kernel) rfl
theorem tw_204 : (Cond.fieldLink "KeyPath" (174 : Nat) "KeyPath$Net" "fifth" "I") ∈ k_Tg := k_tg 204 (by decide +kernel) rfl
theorem tw_205 : (Cond.fieldLink "KeyPath$Net" (15 : Nat) "KeyPath$Net" "relative" "I") ∈ k_Tg := k_tg 205 (by decide +kernel) rfl
theorem tw_206 : (Cond.fieldLink "KeyPath" (177 : Nat) "KeyPath$Net" "relative" "I") ∈ k_Tg := k_tg 206 (by decide +kernel) rfl
theorem tw_207 : (Cond.fieldLink "KeyPath$Net" (18 : Nat) "KeyPath$Net" "parallel" "I") ∈ k_Tg := k_tg 207 (by decide +kernel) rfl
theorem tw_208 : (Cond.fieldLink "KeyPath" (180 : Nat) "KeyPath$Net" "parallel" "I") ∈ k_Tg := k_tg 208 (by decide +kernel) rfl
theorem tw_210 : (Cond.fieldLink "KeyPath$PathFinder" (127 : Nat) "KeyPath$Net" "factor" "I") ∈ k_Tg := k_tg 210 (by decide +kernel) rfl
theorem tw_211 : (Cond.fieldLink "KeyPath" (171 : Nat) "KeyPath$Net" "factor" "I") ∈ k_Tg := k_tg 211 (by decide +kernel) rfl
theorem tw_212 : (Cond.fieldLink "KeyPath$Net" (24 : Nat) "KeyPath$Net" "stale" "Z") ∈ k_Tg := k_tg 212 (by decide +kernel) rfl
theorem tw_213 : (Cond.fieldLink "KeyPath" (183 : Nat) "KeyPath$Net" "stale" "Z") ∈ k_Tg := k_tg 213 (by decide +kernel) rfl
theorem tw_214 : (Cond.fieldLink "KeyPath$Net" (28 : Nat) "KeyPath$Net" "sums" "[I") ∈ k_Tg := k_tg 214 (by decide +kernel) rfl
theorem tw_215 : (Cond.fieldLink "KeyPath$PathFinder" (66 : Nat) "KeyPath$Net" "sums" "[I") ∈ k_Tg := k_tg 215 (by decide +kernel) rfl
theorem tw_216 : (Cond.fieldLink "KeyPath" (227 : Nat) "KeyPath$Net" "sums" "[I") ∈ k_Tg := k_tg 216 (by decide +kernel) rfl
theorem tw_217 : (Cond.fieldLink "KeyPath$Net" (32 : Nat) "KeyPath$Net" "ranks" "[I") ∈ k_Tg := k_tg 217 (by decide +kernel) rfl
theorem tw_218 : (Cond.fieldLink "KeyPath$Net" (35 : Nat) "KeyPath$Net" "row" "[I") ∈ k_Tg := k_tg 218 (by decide +kernel) rfl
theorem tw_243 : (Cond.static ({ cls := "java/util/Arrays", name := "fill", desc := "([II)V" } : MethodName)) ∈ k_Tg := k_tg 243 (by decide +kernel) rfl
theorem tw_244 : (Cond.code ({ cls := "java/util/Arrays", name := "fill", desc := "([II)V" } : MethodName) prog_18_method_103_code (4 : Nat) (Option.none : Option FieldType)) ∈ k_Tg := k_tg 244 (by decide +kernel) rfl
theorem tw_245 : (Cond.fieldLink "KeyPath$PathFinder" (9 : Nat) "KeyPath$PathFinder" "pins" "[I") ∈ k_Tg := k_tg 245 (by decide +kernel) rfl
theorem tw_246 : (Cond.fieldLink "KeyPath" (193 : Nat) "KeyPath$PathFinder" "pins" "[I") ∈ k_Tg := k_tg 246 (by decide +kernel) rfl
theorem tw_247 : (Cond.fieldLink "KeyPath$PathFinder" (53 : Nat) "KeyPath$PathFinder" "size" "I") ∈ k_Tg := k_tg 247 (by decide +kernel) rfl
theorem tw_248 : (Cond.fieldLink "KeyPath$Detours" (31 : Nat) "KeyPath$PathFinder" "size" "I") ∈ k_Tg := k_tg 248 (by decide +kernel) rfl
theorem tw_249 : (Cond.fieldLink "KeyPath" (262 : Nat) "KeyPath$PathFinder" "size" "I") ∈ k_Tg := k_tg 249 (by decide +kernel) rfl
theorem tw_250 : (Cond.fieldLink "KeyPath$PathFinder" (15 : Nat) "KeyPath$PathFinder" "own" "[I") ∈ k_Tg := k_tg 250 (by decide +kernel) rfl
theorem tw_251 : (Cond.fieldLink "KeyPath$Detours" (45 : Nat) "KeyPath$PathFinder" "own" "[I") ∈ k_Tg := k_tg 251 (by decide +kernel) rfl
theorem tw_252 : (Cond.fieldLink "KeyPath$PathFinder" (18 : Nat) "KeyPath$PathFinder" "kept" "[Z") ∈ k_Tg := k_tg 252 (by decide +kernel) rfl
theorem tw_253 : (Cond.fieldLink "KeyPath$Detours" (37 : Nat) "KeyPath$PathFinder" "kept" "[Z") ∈ k_Tg := k_tg 253 (by decide +kernel) rfl
theorem tw_254 : (Cond.fieldLink "KeyPath$PathFinder" (22 : Nat) "KeyPath$PathFinder" "steps" "[I") ∈ k_Tg := k_tg 254 (by decide +kernel) rfl
theorem tw_255 : (Cond.fieldLink "KeyPath$Detours" (53 : Nat) "KeyPath$PathFinder" "steps" "[I") ∈ k_Tg := k_tg 255 (by decide +kernel) rfl
theorem tw_256 : (Cond.fieldLink "KeyPath$PathFinder" (25 : Nat) "KeyPath$PathFinder" "behind" "[I") ∈ k_Tg := k_tg 256 (by decide +kernel) rfl
theorem tw_257 : (Cond.fieldLink "KeyPath$Detours" (61 : Nat) "KeyPath$PathFinder" "behind" "[I") ∈ k_Tg := k_tg 257 (by decide +kernel) rfl
theorem tw_258 : (Cond.fieldLink "KeyPath$PathFinder" (28 : Nat) "KeyPath$PathFinder" "ways" "[I") ∈ k_Tg := k_tg 258 (by decide +kernel) rfl
theorem tw_259 : (Cond.fieldLink "KeyPath$PathFinder" (78 : Nat) "KeyPath$PathFinder" "exists" "Z") ∈ k_Tg := k_tg 259 (by decide +kernel) rfl
theorem tw_260 : (Cond.fieldLink "KeyPath" (350 : Nat) "KeyPath$PathFinder" "exists" "Z") ∈ k_Tg := k_tg 260 (by decide +kernel) rfl
theorem tw_261 : (Cond.fieldLink "KeyPath$PathFinder" (97 : Nat) "KeyPath$PathFinder" "least" "I") ∈ k_Tg := k_tg 261 (by decide +kernel) rfl
theorem tw_262 : (Cond.fieldLink "KeyPath" (237 : Nat) "KeyPath$PathFinder" "least" "I") ∈ k_Tg := k_tg 262 (by decide +kernel) rfl
theorem tw_263 : (Cond.fieldLink "KeyPath$PathFinder" (100 : Nat) "KeyPath$PathFinder" "tied" "I") ∈ k_Tg := k_tg 263 (by decide +kernel) rfl
theorem tw_264 : (Cond.fieldLink "KeyPath" (243 : Nat) "KeyPath$PathFinder" "tied" "I") ∈ k_Tg := k_tg 264 (by decide +kernel) rfl
theorem tw_265 : (Cond.fieldLink "KeyPath$PathFinder" (31 : Nat) "KeyPath$PathFinder" "path" "[I") ∈ k_Tg := k_tg 265 (by decide +kernel) rfl
theorem tw_266 : (Cond.fieldLink "KeyPath$Detours" (68 : Nat) "KeyPath$PathFinder" "path" "[I") ∈ k_Tg := k_tg 266 (by decide +kernel) rfl
theorem tw_267 : (Cond.fieldLink "KeyPath" (240 : Nat) "KeyPath$PathFinder" "path" "[I") ∈ k_Tg := k_tg 267 (by decide +kernel) rfl
theorem tw_268 : (Cond.fieldLink "KeyPath$PathFinder" (34 : Nat) "KeyPath$PathFinder" "firsts" "[I") ∈ k_Tg := k_tg 268 (by decide +kernel) rfl
theorem tw_269 : (Cond.fieldLink "KeyPath" (286 : Nat) "KeyPath$PathFinder" "firsts" "[I") ∈ k_Tg := k_tg 269 (by decide +kernel) rfl
theorem tw_270 : (Cond.fieldLink "KeyPath$PathFinder" (111 : Nat) "KeyPath$PathFinder" "segmentCount" "I") ∈ k_Tg := k_tg 270 (by decide +kernel) rfl
theorem tw_271 : (Cond.fieldLink "KeyPath" (283 : Nat) "KeyPath$PathFinder" "segmentCount" "I") ∈ k_Tg := k_tg 271 (by decide +kernel) rfl
theorem tw_273 : (Cond.fieldLink "KeyPath" (331 : Nat) "KeyPath$PathFinder" "stale" "Z") ∈ k_Tg := k_tg 273 (by decide +kernel) rfl
theorem tw_274 : (Cond.fieldLink "KeyPath$PathFinder" (117 : Nat) "KeyPath$PathFinder" "firmKnown" "Z") ∈ k_Tg := k_tg 274 (by decide +kernel) rfl
theorem tw_275 : (Cond.fieldLink "KeyPath" (346 : Nat) "KeyPath$PathFinder" "firmKnown" "Z") ∈ k_Tg := k_tg 275 (by decide +kernel) rfl
theorem tw_276 : (Cond.fieldLink "KeyPath$PathFinder" (124 : Nat) "KeyPath$PathFinder" "firm" "I") ∈ k_Tg := k_tg 276 (by decide +kernel) rfl
theorem tw_317 : (Cond.fieldLink "KeyPath$Detours" (9 : Nat) "KeyPath$Detours" "ahead" "[I") ∈ k_Tg := k_tg 317 (by decide +kernel) rfl
theorem tw_318 : (Cond.fieldLink "KeyPath$Detours" (24 : Nat) "KeyPath$Detours" "aheadKnown" "Z") ∈ k_Tg := k_tg 318 (by decide +kernel) rfl
theorem tw_319 : (Cond.fieldLink "KeyPath$Detours" (15 : Nat) "KeyPath$Detours" "byMoves" "[I") ∈ k_Tg := k_tg 319 (by decide +kernel) rfl
theorem tw_320 : (Cond.fieldLink "KeyPath$Detours" (18 : Nat) "KeyPath$Detours" "leastByMoves" "[I") ∈ k_Tg := k_tg 320 (by decide +kernel) rfl
theorem tw_321 : (Cond.fieldLink "KeyPath" (273 : Nat) "KeyPath$Detours" "leastByMoves" "[I") ∈ k_Tg := k_tg 321 (by decide +kernel) rfl
theorem tw_322 : (Cond.fieldLink "KeyPath$Detours" (28 : Nat) "KeyPath$Detours" "movesKnown" "Z") ∈ k_Tg := k_tg 322 (by decide +kernel) rfl
theorem tw_323 : (Cond.fieldLink "KeyPath$Detours" (21 : Nat) "KeyPath$Detours" "settled" "[I") ∈ k_Tg := k_tg 323 (by decide +kernel) rfl
theorem tw_337 : (Cond.fieldLink "KeyPath" (12 : Nat) "KeyPath" "reader" "LKeyPath$TextReader;") ∈ k_Tg := k_tg 337 (by decide +kernel) rfl
theorem tw_338 : (Cond.fieldLink "KeyPath" (19 : Nat) "KeyPath" "notes" "LKeyPath$Notes;") ∈ k_Tg := k_tg 338 (by decide +kernel) rfl
theorem tw_339 : (Cond.fieldLink "KeyPath" (26 : Nat) "KeyPath" "history" "LKeyPath$History;") ∈ k_Tg := k_tg 339 (by decide +kernel) rfl
theorem tw_340 : (Cond.fieldLink "KeyPath" (33 : Nat) "KeyPath" "windows" "LKeyPath$Windows;") ∈ k_Tg := k_tg 340 (by decide +kernel) rfl
theorem tw_341 : (Cond.fieldLink "KeyPath" (40 : Nat) "KeyPath" "profiles" "LKeyPath$Profiles;") ∈ k_Tg := k_tg 341 (by decide +kernel) rfl
theorem tw_342 : (Cond.fieldLink "KeyPath" (47 : Nat) "KeyPath" "net" "LKeyPath$Net;") ∈ k_Tg := k_tg 342 (by decide +kernel) rfl
theorem tw_343 : (Cond.fieldLink "KeyPath" (54 : Nat) "KeyPath" "finder" "LKeyPath$PathFinder;") ∈ k_Tg := k_tg 343 (by decide +kernel) rfl
theorem tw_344 : (Cond.fieldLink "KeyPath" (61 : Nat) "KeyPath" "detours" "LKeyPath$Detours;") ∈ k_Tg := k_tg 344 (by decide +kernel) rfl
theorem tw_366 : (Cond.methodLink "KeyPath" (69 : Nat) ({ cls := "KeyPath$TextReader", name := "append", desc := "(I)V" } : MethodName)) ∈ k_Tg := k_tg 366 (by decide +kernel) rfl
theorem tw_367 : (Cond.instanceMethod ({ cls := "KeyPath$TextReader", name := "append", desc := "(I)V" } : MethodName)) ∈ k_Tg := k_tg 367 (by decide +kernel) rfl
theorem tw_368 : (Cond.selects "KeyPath$TextReader" ({ cls := "KeyPath$TextReader", name := "append", desc := "(I)V" } : MethodName) ({ cls := "KeyPath$TextReader", name := "append", desc := "(I)V" } : MethodName)) ∈ k_Tg := k_tg 368 (by decide +kernel) rfl
theorem tw_369 : (Cond.code ({ cls := "KeyPath$TextReader", name := "append", desc := "(I)V" } : MethodName) prog_8_method_2_code (3 : Nat) (Option.none : Option FieldType)) ∈ k_Tg := k_tg 369 (by decide +kernel) rfl
theorem tw_374 : (Cond.methodLink "KeyPath" (73 : Nat) ({ cls := "KeyPath$TextReader", name := "read", desc := "(I)V" } : MethodName)) ∈ k_Tg := k_tg 374 (by decide +kernel) rfl
theorem tw_375 : (Cond.instanceMethod ({ cls := "KeyPath$TextReader", name := "read", desc := "(I)V" } : MethodName)) ∈ k_Tg := k_tg 375 (by decide +kernel) rfl
theorem tw_376 : (Cond.selects "KeyPath$TextReader" ({ cls := "KeyPath$TextReader", name := "read", desc := "(I)V" } : MethodName) ({ cls := "KeyPath$TextReader", name := "read", desc := "(I)V" } : MethodName)) ∈ k_Tg := k_tg 376 (by decide +kernel) rfl
theorem tw_377 : (Cond.code ({ cls := "KeyPath$TextReader", name := "read", desc := "(I)V" } : MethodName) prog_8_method_3_code (3 : Nat) (Option.none : Option FieldType)) ∈ k_Tg := k_tg 377 (by decide +kernel) rfl
theorem tw_378 : (Cond.methodLink "KeyPath$TextReader" (32 : Nat) ({ cls := "java/lang/Math", name := "min", desc := "(II)I" } : MethodName)) ∈ k_Tg := k_tg 378 (by decide +kernel) rfl
theorem tw_379 : (Cond.static ({ cls := "java/lang/Math", name := "min", desc := "(II)I" } : MethodName)) ∈ k_Tg := k_tg 379 (by decide +kernel) rfl
theorem tw_380 : (Cond.code ({ cls := "java/lang/Math", name := "min", desc := "(II)I" } : MethodName) prog_13_method_69_code (2 : Nat) (Option.some FieldType.int)) ∈ k_Tg := k_tg 380 (by decide +kernel) rfl
theorem tw_381 : (Cond.methodLink "KeyPath$TextReader" (53 : Nat) ({ cls := "KeyPath$TextReader", name := "next", desc := "()I" } : MethodName)) ∈ k_Tg := k_tg 381 (by decide +kernel) rfl
theorem tw_383 : (Cond.instanceMethod ({ cls := "KeyPath$TextReader", name := "next", desc := "()I" } : MethodName)) ∈ k_Tg := k_tg 383 (by decide +kernel) rfl
theorem tw_384 : (Cond.code ({ cls := "KeyPath$TextReader", name := "next", desc := "()I" } : MethodName) prog_8_method_4_code (1 : Nat) (Option.some FieldType.int)) ∈ k_Tg := k_tg 384 (by decide +kernel) rfl
theorem tw_385 : (Cond.methodLink "KeyPath$TextReader" (57 : Nat) ({ cls := "KeyPath$TextReader", name := "readPart", desc := "()V" } : MethodName)) ∈ k_Tg := k_tg 385 (by decide +kernel) rfl
theorem tw_387 : (Cond.instanceMethod ({ cls := "KeyPath$TextReader", name := "readPart", desc := "()V" } : MethodName)) ∈ k_Tg := k_tg 387 (by decide +kernel) rfl
theorem tw_388 : (Cond.code ({ cls := "KeyPath$TextReader", name := "readPart", desc := "()V" } : MethodName) prog_8_method_6_code (2 : Nat) (Option.none : Option FieldType)) ∈ k_Tg := k_tg 388 (by decide +kernel) rfl
theorem tw_389 : (Cond.methodLink "KeyPath$TextReader" (63 : Nat) ({ cls := "KeyPath$TextReader", name := "readLength", desc := "()V" } : MethodName)) ∈ k_Tg := k_tg 389 (by decide +kernel) rfl
theorem tw_391 : (Cond.instanceMethod ({ cls := "KeyPath$TextReader", name := "readLength", desc := "()V" } : MethodName)) ∈ k_Tg := k_tg 391 (by decide +kernel) rfl
theorem tw_392 : (Cond.code ({ cls := "KeyPath$TextReader", name := "readLength", desc := "()V" } : MethodName) prog_8_method_13_code (3 : Nat) (Option.none : Option FieldType)) ∈ k_Tg := k_tg 392 (by decide +kernel) rfl
theorem tw_393 : (Cond.methodLink "KeyPath$TextReader" (76 : Nat) ({ cls := "KeyPath$TextReader", name := "fail", desc := "(II)V" } : MethodName)) ∈ k_Tg := k_tg 393 (by decide +kernel) rfl
theorem tw_395 : (Cond.instanceMethod ({ cls := "KeyPath$TextReader", name := "fail", desc := "(II)V" } : MethodName)) ∈ k_Tg := k_tg 395 (by decide +kernel) rfl
theorem tw_396 : (Cond.code ({ cls := "KeyPath$TextReader", name := "fail", desc := "(II)V" } : MethodName) prog_8_method_5_code (3 : Nat) (Option.none : Option FieldType)) ∈ k_Tg := k_tg 396 (by decide +kernel) rfl
theorem tw_397 : (Cond.methodLink "KeyPath$TextReader" (86 : Nat) ({ cls := "KeyPath$TextReader", name := "isDigit", desc := "(I)Z" } : MethodName)) ∈ k_Tg := k_tg 397 (by decide +kernel) rfl
theorem tw_398 : (Cond.static ({ cls := "KeyPath$TextReader", name := "isDigit", desc := "(I)Z" } : MethodName)) ∈ k_Tg := k_tg 398 (by decide +kernel) rfl
theorem tw_399 : (Cond.code ({ cls := "KeyPath$TextReader", name := "isDigit", desc := "(I)Z" } : MethodName) prog_8_method_8_code (1 : Nat) (Option.some FieldType.boolean)) ∈ k_Tg := k_tg 399 (by decide +kernel) rfl
theorem tw_400 : (Cond.methodLink "KeyPath$TextReader" (96 : Nat) ({ cls := "KeyPath$TextReader", name := "readNumber", desc := "()I" } : MethodName)) ∈ k_Tg := k_tg 400 (by decide +kernel) rfl
theorem tw_402 : (Cond.instanceMethod ({ cls := "KeyPath$TextReader", name := "readNumber", desc := "()I" } : MethodName)) ∈ k_Tg := k_tg 402 (by decide +kernel) rfl
theorem tw_403 : (Cond.code ({ cls := "KeyPath$TextReader", name := "readNumber", desc := "()I" } : MethodName) prog_8_method_14_code (2 : Nat) (Option.some FieldType.int)) ∈ k_Tg := k_tg 403 (by decide +kernel) rfl
theorem tw_405 : (Cond.static ({ cls := "KeyPath", name := "outOf", desc := "(III)Z" } : MethodName)) ∈ k_Tg := k_tg 405 (by decide +kernel) rfl
theorem tw_406 : (Cond.code ({ cls := "KeyPath", name := "outOf", desc := "(III)Z" } : MethodName) prog_1_method_52_code (3 : Nat) (Option.some FieldType.boolean)) ∈ k_Tg := k_tg 406 (by decide +kernel) rfl
theorem tw_407 : (Cond.methodLink "KeyPath$TextReader" (99 : Nat) ({ cls := "KeyPath$TextReader", name := "soundNamed", desc := "(I)V" } : MethodName)) ∈ k_Tg := k_tg 407 (by decide +kernel) rfl
theorem tw_409 : (Cond.instanceMethod ({ cls := "KeyPath$TextReader", name := "soundNamed", desc := "(I)V" } : MethodName)) ∈ k_Tg := k_tg 409 (by decide +kernel) rfl
theorem tw_410 : (Cond.code ({ cls := "KeyPath$TextReader", name := "soundNamed", desc := "(I)V" } : MethodName) prog_8_method_15_code (3 : Nat) (Option.none : Option FieldType)) ∈ k_Tg := k_tg 410 (by decide +kernel) rfl
theorem tw_411 : (Cond.methodLink "KeyPath$TextReader" (103 : Nat) ({ cls := "KeyPath$Notes", name := "placeFor", desc := "(III)I" } : MethodName)) ∈ k_Tg := k_tg 411 (by decide +kernel) rfl
theorem tw_412 : (Cond.instanceMethod ({ cls := "KeyPath$Notes", name := "placeFor", desc := "(III)I" } : MethodName)) ∈ k_Tg := k_tg 412 (by decide +kernel) rfl
theorem tw_413 : (Cond.selects "KeyPath$Notes" ({ cls := "KeyPath$Notes", name := "placeFor", desc := "(III)I" } : MethodName) ({ cls := "KeyPath$Notes", name := "placeFor", desc := "(III)I" } : MethodName)) ∈ k_Tg := k_tg 413 (by decide +kernel) rfl
theorem tw_414 : (Cond.code ({ cls := "KeyPath$Notes", name := "placeFor", desc := "(III)I" } : MethodName) prog_5_method_3_code (5 : Nat) (Option.some FieldType.int)) ∈ k_Tg := k_tg 414 (by decide +kernel) rfl
theorem tw_415 : (Cond.methodLink "KeyPath$Notes" (25 : Nat) ({ cls := "KeyPath$Notes", name := "isBehind", desc := "(IIII)Z" } : MethodName)) ∈ k_Tg := k_tg 415 (by decide +kernel) rfl
theorem tw_417 : (Cond.instanceMethod ({ cls := "KeyPath$Notes", name := "isBehind", desc := "(IIII)Z" } : MethodName)) ∈ k_Tg := k_tg 417 (by decide +kernel) rfl
theorem tw_418 : (Cond.code ({ cls := "KeyPath$Notes", name := "isBehind", desc := "(IIII)Z" } : MethodName) prog_5_method_4_code (5 : Nat) (Option.some FieldType.boolean)) ∈ k_Tg := k_tg 418 (by decide +kernel) rfl
theorem tw_419 : (Cond.methodLink "KeyPath$TextReader" (107 : Nat) ({ cls := "KeyPath$Notes", name := "insert", desc := "(IIII)V" } : MethodName)) ∈ k_Tg := k_tg 419 (by decide +kernel) rfl
theorem tw_420 : (Cond.instanceMethod ({ cls := "KeyPath$Notes", name := "insert", desc := "(IIII)V" } : MethodName)) ∈ k_Tg := k_tg 420 (by decide +kernel) rfl
theorem tw_421 : (Cond.selects "KeyPath$Notes" ({ cls := "KeyPath$Notes", name := "insert", desc := "(IIII)V" } : MethodName) ({ cls := "KeyPath$Notes", name := "insert", desc := "(IIII)V" } : MethodName)) ∈ k_Tg := k_tg 421 (by decide +kernel) rfl
theorem tw_422 : (Cond.code ({ cls := "KeyPath$Notes", name := "insert", desc := "(IIII)V" } : MethodName) prog_5_method_5_code (6 : Nat) (Option.none : Option FieldType)) ∈ k_Tg := k_tg 422 (by decide +kernel) rfl
theorem tw_423 : (Cond.methodLink "KeyPath$Notes" (29 : Nat) ({ cls := "java/lang/System", name := "arraycopy", desc := "(Ljava/lang/Object;ILjava/lang/Object;II)V" } : MethodName)) ∈ k_Tg := k_tg 423 (by decide +kernel) rfl
theorem tw_424 : (Cond.static ({ cls := "java/lang/System", name := "arraycopy", desc := "(Ljava/lang/Object;ILjava/lang/Object;II)V" } : MethodName)) ∈ k_Tg := k_tg 424 (by decide +kernel) rfl
theorem tw_425 : (Cond.native ({ cls := "java/lang/System", name := "arraycopy", desc := "(Ljava/lang/Object;ILjava/lang/Object;II)V" } : MethodName)) ∈ k_Tg := k_tg 425 (by decide +kernel) rfl
theorem tw_426 : (Cond.methodLink "KeyPath$TextReader" (66 : Nat) ({ cls := "KeyPath$TextReader", name := "readNames", desc := "()V" } : MethodName)) ∈ k_Tg := k_tg 426 (by decide +kernel) rfl
theorem tw_428 : (Cond.instanceMethod ({ cls := "KeyPath$TextReader", name := "readNames", desc := "()V" } : MethodName)) ∈ k_Tg := k_tg 428 (by decide +kernel) rfl
theorem tw_429 : (Cond.code ({ cls := "KeyPath$TextReader", name := "readNames", desc := "()V" } : MethodName) prog_8_method_9_code (3 : Nat) (Option.none : Option FieldType)) ∈ k_Tg := k_tg 429 (by decide +kernel) rfl
theorem tw_430 : (Cond.methodLink "KeyPath$TextReader" (73 : Nat) ({ cls := "KeyPath$TextReader", name := "readName", desc := "()V" } : MethodName)) ∈ k_Tg := k_tg 430 (by decide +kernel) rfl
theorem tw_432 : (Cond.instanceMethod ({ cls := "KeyPath$TextReader", name := "readName", desc := "()V" } : MethodName)) ∈ k_Tg := k_tg 432 (by decide +kernel) rfl
theorem tw_433 : (Cond.code ({ cls := "KeyPath$TextReader", name := "readName", desc := "()V" } : MethodName) prog_8_method_10_code (5 : Nat) (Option.none : Option FieldType)) ∈ k_Tg := k_tg 433 (by decide +kernel) rfl
theorem tw_434 : (Cond.methodLink "KeyPath$TextReader" (69 : Nat) ({ cls := "KeyPath$TextReader", name := "isLetter", desc := "(I)Z" } : MethodName)) ∈ k_Tg := k_tg 434 (by decide +kernel) rfl
theorem tw_435 : (Cond.static ({ cls := "KeyPath$TextReader", name := "isLetter", desc := "(I)Z" } : MethodName)) ∈ k_Tg := k_tg 435 (by decide +kernel) rfl
theorem tw_436 : (Cond.code ({ cls := "KeyPath$TextReader", name := "isLetter", desc := "(I)Z" } : MethodName) prog_8_method_7_code (1 : Nat) (Option.some FieldType.boolean)) ∈ k_Tg := k_tg 436 (by decide +kernel) rfl
theorem tw_439 : (Cond.methodLink "KeyPath$TextReader" (83 : Nat) ({ cls := "KeyPath$TextReader", name := "readAccidental", desc := "()I" } : MethodName)) ∈ k_Tg := k_tg 439 (by decide +kernel) rfl
theorem tw_441 : (Cond.instanceMethod ({ cls := "KeyPath$TextReader", name := "readAccidental", desc := "()I" } : MethodName)) ∈ k_Tg := k_tg 441 (by decide +kernel) rfl
theorem tw_442 : (Cond.code ({ cls := "KeyPath$TextReader", name := "readAccidental", desc := "()I" } : MethodName) prog_8_method_11_code (2 : Nat) (Option.some FieldType.int)) ∈ k_Tg := k_tg 442 (by decide +kernel) rfl
theorem tw_443 : (Cond.methodLink "KeyPath$TextReader" (93 : Nat) ({ cls := "KeyPath$TextReader", name := "isNamed", desc := "(I)Z" } : MethodName)) ∈ k_Tg := k_tg 443 (by decide +kernel) rfl
theorem tw_445 : (Cond.instanceMethod ({ cls := "KeyPath$TextReader", name := "isNamed", desc := "(I)Z" } : MethodName)) ∈ k_Tg := k_tg 445 (by decide +kernel) rfl
theorem tw_446 : (Cond.code ({ cls := "KeyPath$TextReader", name := "isNamed", desc := "(I)Z" } : MethodName) prog_8_method_12_code (3 : Nat) (Option.some FieldType.boolean)) ∈ k_Tg := k_tg 446 (by decide +kernel) rfl
theorem tw_447 : (Cond.methodLink "KeyPath" (82 : Nat) ({ cls := "KeyPath$Notes", name := "become", desc := "(LKeyPath$Notes;)V" } : MethodName)) ∈ k_Tg := k_tg 447 (by decide +kernel) rfl
theorem tw_448 : (Cond.instanceMethod ({ cls := "KeyPath$Notes", name := "become", desc := "(LKeyPath$Notes;)V" } : MethodName)) ∈ k_Tg := k_tg 448 (by decide +kernel) rfl
theorem tw_449 : (Cond.selects "KeyPath$Notes" ({ cls := "KeyPath$Notes", name := "become", desc := "(LKeyPath$Notes;)V" } : MethodName) ({ cls := "KeyPath$Notes", name := "become", desc := "(LKeyPath$Notes;)V" } : MethodName)) ∈ k_Tg := k_tg 449 (by decide +kernel) rfl
theorem tw_450 : (Cond.code ({ cls := "KeyPath$Notes", name := "become", desc := "(LKeyPath$Notes;)V" } : MethodName) prog_5_method_10_code (2 : Nat) (Option.none : Option FieldType)) ∈ k_Tg := k_tg 450 (by decide +kernel) rfl
theorem tw_451 : (Cond.methodLink "KeyPath" (86 : Nat) ({ cls := "KeyPath$History", name := "forget", desc := "()V" } : MethodName)) ∈ k_Tg := k_tg 451 (by decide +kernel) rfl
theorem tw_452 : (Cond.instanceMethod ({ cls := "KeyPath$History", name := "forget", desc := "()V" } : MethodName)) ∈ k_Tg := k_tg 452 (by decide +kernel) rfl
theorem tw_453 : (Cond.selects "KeyPath$History" ({ cls := "KeyPath$History", name := "forget", desc := "()V" } : MethodName) ({ cls := "KeyPath$History", name := "forget", desc := "()V" } : MethodName)) ∈ k_Tg := k_tg 453 (by decide +kernel) rfl
theorem tw_454 : (Cond.code ({ cls := "KeyPath$History", name := "forget", desc := "()V" } : MethodName) prog_3_method_5_code (1 : Nat) (Option.none : Option FieldType)) ∈ k_Tg := k_tg 454 (by decide +kernel) rfl
theorem tw_455 : (Cond.methodLink "KeyPath" (89 : Nat) ({ cls := "KeyPath", name := "notesChanged", desc := "()V" } : MethodName)) ∈ k_Tg := k_tg 455 (by decide +kernel) rfl
theorem tw_457 : (Cond.instanceMethod ({ cls := "KeyPath", name := "notesChanged", desc := "()V" } : MethodName)) ∈ k_Tg := k_tg 457 (by decide +kernel) rfl
theorem tw_458 : (Cond.code ({ cls := "KeyPath", name := "notesChanged", desc := "()V" } : MethodName) prog_1_method_44_code (1 : Nat) (Option.none : Option FieldType)) ∈ k_Tg := k_tg 458 (by decide +kernel) rfl
theorem tw_459 : (Cond.methodLink "KeyPath" (168 : Nat) ({ cls := "KeyPath", name := "weightsChanged", desc := "()V" } : MethodName)) ∈ k_Tg := k_tg 459 (by decide +kernel) rfl
theorem tw_461 : (Cond.instanceMethod ({ cls := "KeyPath", name := "weightsChanged", desc := "()V" } : MethodName)) ∈ k_Tg := k_tg 461 (by decide +kernel) rfl
theorem tw_462 : (Cond.code ({ cls := "KeyPath", name := "weightsChanged", desc := "()V" } : MethodName) prog_1_method_45_code (1 : Nat) (Option.none : Option FieldType)) ∈ k_Tg := k_tg 462 (by decide +kernel) rfl
theorem tw_463 : (Cond.methodLink "KeyPath" (187 : Nat) ({ cls := "KeyPath", name := "pathChanged", desc := "()V" } : MethodName)) ∈ k_Tg := k_tg 463 (by decide +kernel) rfl
theorem tw_465 : (Cond.instanceMethod ({ cls := "KeyPath", name := "pathChanged", desc := "()V" } : MethodName)) ∈ k_Tg := k_tg 465 (by decide +kernel) rfl
theorem tw_466 : (Cond.code ({ cls := "KeyPath", name := "pathChanged", desc := "()V" } : MethodName) prog_1_method_46_code (1 : Nat) (Option.none : Option FieldType)) ∈ k_Tg := k_tg 466 (by decide +kernel) rfl
theorem tw_475 : (Cond.methodLink "KeyPath" (98 : Nat) ({ cls := "KeyPath$Notes", name := "canBe", desc := "(III)Z" } : MethodName)) ∈ k_Tg := k_tg 475 (by decide +kernel) rfl
theorem tw_476 : (Cond.static ({ cls := "KeyPath$Notes", name := "canBe", desc := "(III)Z" } : MethodName)) ∈ k_Tg := k_tg 476 (by decide +kernel) rfl
theorem tw_477 : (Cond.code ({ cls := "KeyPath$Notes", name := "canBe", desc := "(III)Z" } : MethodName) prog_5_method_2_code (3 : Nat) (Option.some FieldType.boolean)) ∈ k_Tg := k_tg 477 (by decide +kernel) rfl
theorem tw_478 : (Cond.methodLink "KeyPath" (102 : Nat) ({ cls := "KeyPath$Notes", name := "placeFor", desc := "(III)I" } : MethodName)) ∈ k_Tg := k_tg 478 (by decide +kernel) rfl
theorem tw_479 : (Cond.methodLink "KeyPath" (106 : Nat) ({ cls := "KeyPath$Notes", name := "insert", desc := "(IIII)V" } : MethodName)) ∈ k_Tg := k_tg 479 (by decide +kernel) rfl
theorem tw_480 : (Cond.methodLink "KeyPath" (110 : Nat) ({ cls := "KeyPath$History", name := "remember", desc := "(IIIII)V" } : MethodName)) ∈ k_Tg := k_tg 480 (by decide +kernel) rfl
theorem tw_481 : (Cond.instanceMethod ({ cls := "KeyPath$History", name := "remember", desc := "(IIIII)V" } : MethodName)) ∈ k_Tg := k_tg 481 (by decide +kernel) rfl
theorem tw_482 : (Cond.selects "KeyPath$History" ({ cls := "KeyPath$History", name := "remember", desc := "(IIIII)V" } : MethodName) ({ cls := "KeyPath$History", name := "remember", desc := "(IIIII)V" } : MethodName)) ∈ k_Tg := k_tg 482 (by decide +kernel) rfl
theorem tw_483 : (Cond.code ({ cls := "KeyPath$History", name := "remember", desc := "(IIIII)V" } : MethodName) prog_3_method_2_code (6 : Nat) (Option.none : Option FieldType)) ∈ k_Tg := k_tg 483 (by decide +kernel) rfl
theorem tw_484 : (Cond.methodLink "KeyPath$History" (31 : Nat) ({ cls := "KeyPath$History", name := "forgetOldest", desc := "()V" } : MethodName)) ∈ k_Tg := k_tg 484 (by decide +kernel) rfl
theorem tw_486 : (Cond.instanceMethod ({ cls := "KeyPath$History", name := "forgetOldest", desc := "()V" } : MethodName)) ∈ k_Tg := k_tg 486 (by decide +kernel) rfl
theorem tw_487 : (Cond.code ({ cls := "KeyPath$History", name := "forgetOldest", desc := "()V" } : MethodName) prog_3_method_3_code (1 : Nat) (Option.none : Option FieldType)) ∈ k_Tg := k_tg 487 (by decide +kernel) rfl
theorem tw_488 : (Cond.methodLink "KeyPath$History" (34 : Nat) ({ cls := "java/lang/System", name := "arraycopy", desc := "(Ljava/lang/Object;ILjava/lang/Object;II)V" } : MethodName)) ∈ k_Tg := k_tg 488 (by decide +kernel) rfl
theorem tw_493 : (Cond.methodLink "KeyPath" (124 : Nat) ({ cls := "KeyPath$Notes", name := "remove", desc := "(I)V" } : MethodName)) ∈ k_Tg := k_tg 493 (by decide +kernel) rfl
theorem tw_494 : (Cond.instanceMethod ({ cls := "KeyPath$Notes", name := "remove", desc := "(I)V" } : MethodName)) ∈ k_Tg := k_tg 494 (by decide +kernel) rfl
theorem tw_495 : (Cond.selects "KeyPath$Notes" ({ cls := "KeyPath$Notes", name := "remove", desc := "(I)V" } : MethodName) ({ cls := "KeyPath$Notes", name := "remove", desc := "(I)V" } : MethodName)) ∈ k_Tg := k_tg 495 (by decide +kernel) rfl
theorem tw_496 : (Cond.code ({ cls := "KeyPath$Notes", name := "remove", desc := "(I)V" } : MethodName) prog_5_method_6_code (3 : Nat) (Option.none : Option FieldType)) ∈ k_Tg := k_tg 496 (by decide +kernel) rfl
theorem tw_501 : (Cond.methodLink "KeyPath" (127 : Nat) ({ cls := "KeyPath$Notes", name := "canMove", desc := "(I)Z" } : MethodName)) ∈ k_Tg := k_tg 501 (by decide +kernel) rfl
theorem tw_502 : (Cond.instanceMethod ({ cls := "KeyPath$Notes", name := "canMove", desc := "(I)Z" } : MethodName)) ∈ k_Tg := k_tg 502 (by decide +kernel) rfl
theorem tw_503 : (Cond.selects "KeyPath$Notes" ({ cls := "KeyPath$Notes", name := "canMove", desc := "(I)Z" } : MethodName) ({ cls := "KeyPath$Notes", name := "canMove", desc := "(I)Z" } : MethodName)) ∈ k_Tg := k_tg 503 (by decide +kernel) rfl
theorem tw_504 : (Cond.code ({ cls := "KeyPath$Notes", name := "canMove", desc := "(I)Z" } : MethodName) prog_5_method_7_code (3 : Nat) (Option.some FieldType.boolean)) ∈ k_Tg := k_tg 504 (by decide +kernel) rfl
theorem tw_506 : (Cond.methodLink "KeyPath" (131 : Nat) ({ cls := "KeyPath$Notes", name := "move", desc := "(I)V" } : MethodName)) ∈ k_Tg := k_tg 506 (by decide +kernel) rfl
theorem tw_507 : (Cond.instanceMethod ({ cls := "KeyPath$Notes", name := "move", desc := "(I)V" } : MethodName)) ∈ k_Tg := k_tg 507 (by decide +kernel) rfl
theorem tw_508 : (Cond.selects "KeyPath$Notes" ({ cls := "KeyPath$Notes", name := "move", desc := "(I)V" } : MethodName) ({ cls := "KeyPath$Notes", name := "move", desc := "(I)V" } : MethodName)) ∈ k_Tg := k_tg 508 (by decide +kernel) rfl
theorem tw_509 : (Cond.code ({ cls := "KeyPath$Notes", name := "move", desc := "(I)V" } : MethodName) prog_5_method_8_code (3 : Nat) (Option.none : Option FieldType)) ∈ k_Tg := k_tg 509 (by decide +kernel) rfl
theorem tw_514 : (Cond.methodLink "KeyPath" (135 : Nat) ({ cls := "KeyPath$History", name := "takeBack", desc := "(LKeyPath$Notes;)V" } : MethodName)) ∈ k_Tg := k_tg 514 (by decide +kernel) rfl
theorem tw_515 : (Cond.instanceMethod ({ cls := "KeyPath$History", name := "takeBack", desc := "(LKeyPath$Notes;)V" } : MethodName)) ∈ k_Tg := k_tg 515 (by decide +kernel) rfl
theorem tw_516 : (Cond.selects "KeyPath$History" ({ cls := "KeyPath$History", name := "takeBack", desc := "(LKeyPath$Notes;)V" } : MethodName) ({ cls := "KeyPath$History", name := "takeBack", desc := "(LKeyPath$Notes;)V" } : MethodName)) ∈ k_Tg := k_tg 516 (by decide +kernel) rfl
theorem tw_517 : (Cond.code ({ cls := "KeyPath$History", name := "takeBack", desc := "(LKeyPath$Notes;)V" } : MethodName) prog_3_method_4_code (2 : Nat) (Option.none : Option FieldType)) ∈ k_Tg := k_tg 517 (by decide +kernel) rfl
theorem tw_518 : (Cond.methodLink "KeyPath$History" (40 : Nat) ({ cls := "KeyPath$Notes", name := "remove", desc := "(I)V" } : MethodName)) ∈ k_Tg := k_tg 518 (by decide +kernel) rfl
theorem tw_519 : (Cond.methodLink "KeyPath$History" (46 : Nat) ({ cls := "KeyPath$Notes", name := "insert", desc := "(IIII)V" } : MethodName)) ∈ k_Tg := k_tg 519 (by decide +kernel) rfl
theorem tw_520 : (Cond.methodLink "KeyPath$History" (50 : Nat) ({ cls := "KeyPath$Notes", name := "move", desc := "(I)V" } : MethodName)) ∈ k_Tg := k_tg 520 (by decide +kernel) rfl
theorem tw_529 : (Cond.methodLink "KeyPath" (138 : Nat) ({ cls := "KeyPath", name := "outOf", desc := "(III)Z" } : MethodName)) ∈ k_Tg := k_tg 529 (by decide +kernel) rfl
theorem tw_530 : (Cond.methodLink "KeyPath" (141 : Nat) ({ cls := "KeyPath$Notes", name := "end", desc := "()I" } : MethodName)) ∈ k_Tg := k_tg 530 (by decide +kernel) rfl
theorem tw_531 : (Cond.instanceMethod ({ cls := "KeyPath$Notes", name := "end", desc := "()I" } : MethodName)) ∈ k_Tg := k_tg 531 (by decide +kernel) rfl
theorem tw_532 : (Cond.selects "KeyPath$Notes" ({ cls := "KeyPath$Notes", name := "end", desc := "()I" } : MethodName) ({ cls := "KeyPath$Notes", name := "end", desc := "()I" } : MethodName)) ∈ k_Tg := k_tg 532 (by decide +kernel) rfl
theorem tw_533 : (Cond.code ({ cls := "KeyPath$Notes", name := "end", desc := "()I" } : MethodName) prog_5_method_9_code (3 : Nat) (Option.some FieldType.int)) ∈ k_Tg := k_tg 533 (by decide +kernel) rfl
theorem tw_534 : (Cond.methodLink "KeyPath$Notes" (39 : Nat) ({ cls := "java/lang/Math", name := "max", desc := "(II)I" } : MethodName)) ∈ k_Tg := k_tg 534 (by decide +kernel) rfl
theorem tw_535 : (Cond.static ({ cls := "java/lang/Math", name := "max", desc := "(II)I" } : MethodName)) ∈ k_Tg := k_tg 535 (by decide +kernel) rfl
theorem tw_536 : (Cond.code ({ cls := "java/lang/Math", name := "max", desc := "(II)I" } : MethodName) prog_13_method_65_code (2 : Nat) (Option.some FieldType.int)) ∈ k_Tg := k_tg 536 (by decide +kernel) rfl
theorem tw_537 : (Cond.methodLink "KeyPath" (145 : Nat) ({ cls := "KeyPath$Windows", name := "beginsAhead", desc := "(II)I" } : MethodName)) ∈ k_Tg := k_tg 537 (by decide +kernel) rfl
theorem tw_538 : (Cond.static ({ cls := "KeyPath$Windows", name := "beginsAhead", desc := "(II)I" } : MethodName)) ∈ k_Tg := k_tg 538 (by decide +kernel) rfl
theorem tw_539 : (Cond.code ({ cls := "KeyPath$Windows", name := "beginsAhead", desc := "(II)I" } : MethodName) prog_9_method_2_code (2 : Nat) (Option.some FieldType.int)) ∈ k_Tg := k_tg 539 (by decide +kernel) rfl
theorem tw_540 : (Cond.methodLink "KeyPath" (155 : Nat) ({ cls := "KeyPath", name := "freshWindows", desc := "()V" } : MethodName)) ∈ k_Tg := k_tg 540 (by decide +kernel) rfl
theorem tw_542 : (Cond.instanceMethod ({ cls := "KeyPath", name := "freshWindows", desc := "()V" } : MethodName)) ∈ k_Tg := k_tg 542 (by decide +kernel) rfl
theorem tw_543 : (Cond.code ({ cls := "KeyPath", name := "freshWindows", desc := "()V" } : MethodName) prog_1_method_47_code (1 : Nat) (Option.none : Option FieldType)) ∈ k_Tg := k_tg 543 (by decide +kernel) rfl
theorem tw_544 : (Cond.methodLink "KeyPath" (332 : Nat) ({ cls := "KeyPath$Windows", name := "recount", desc := "(LKeyPath$Notes;)V" } : MethodName)) ∈ k_Tg := k_tg 544 (by decide +kernel) rfl
theorem tw_545 : (Cond.instanceMethod ({ cls := "KeyPath$Windows", name := "recount", desc := "(LKeyPath$Notes;)V" } : MethodName)) ∈ k_Tg := k_tg 545 (by decide +kernel) rfl
theorem tw_546 : (Cond.selects "KeyPath$Windows" ({ cls := "KeyPath$Windows", name := "recount", desc := "(LKeyPath$Notes;)V" } : MethodName) ({ cls := "KeyPath$Windows", name := "recount", desc := "(LKeyPath$Notes;)V" } : MethodName)) ∈ k_Tg := k_tg 546 (by decide +kernel) rfl
theorem tw_547 : (Cond.code ({ cls := "KeyPath$Windows", name := "recount", desc := "(LKeyPath$Notes;)V" } : MethodName) prog_9_method_3_code (4 : Nat) (Option.none : Option FieldType)) ∈ k_Tg := k_tg 547 (by decide +kernel) rfl
theorem tw_548 : (Cond.methodLink "KeyPath$Windows" (32 : Nat) ({ cls := "KeyPath$Notes", name := "end", desc := "()I" } : MethodName)) ∈ k_Tg := k_tg 548 (by decide +kernel) rfl
theorem tw_549 : (Cond.methodLink "KeyPath$Windows" (38 : Nat) ({ cls := "KeyPath$Windows", name := "beginsAhead", desc := "(II)I" } : MethodName)) ∈ k_Tg := k_tg 549 (by decide +kernel) rfl
theorem tw_550 : (Cond.methodLink "KeyPath$Windows" (42 : Nat) ({ cls := "java/lang/Math", name := "min", desc := "(II)I" } : MethodName)) ∈ k_Tg := k_tg 550 (by decide +kernel) rfl
theorem tw_551 : (Cond.methodLink "KeyPath$Windows" (50 : Nat) ({ cls := "KeyPath$Windows", name := "countSpan", desc := "(LKeyPath$Notes;III)V" } : MethodName)) ∈ k_Tg := k_tg 551 (by decide +kernel) rfl
theorem tw_553 : (Cond.instanceMethod ({ cls := "KeyPath$Windows", name := "countSpan", desc := "(LKeyPath$Notes;III)V" } : MethodName)) ∈ k_Tg := k_tg 553 (by decide +kernel) rfl
theorem tw_554 : (Cond.code ({ cls := "KeyPath$Windows", name := "countSpan", desc := "(LKeyPath$Notes;III)V" } : MethodName) prog_9_method_4_code (8 : Nat) (Option.none : Option FieldType)) ∈ k_Tg := k_tg 554 (by decide +kernel) rfl
theorem tw_555 : (Cond.methodLink "KeyPath$Windows" (58 : Nat) ({ cls := "java/util/Arrays", name := "fill", desc := "([IIII)V" } : MethodName)) ∈ k_Tg := k_tg 555 (by decide +kernel) rfl
theorem tw_556 : (Cond.static ({ cls := "java/util/Arrays", name := "fill", desc := "([IIII)V" } : MethodName)) ∈ k_Tg := k_tg 556 (by decide +kernel) rfl
theorem tw_557 : (Cond.code ({ cls := "java/util/Arrays", name := "fill", desc := "([IIII)V" } : MethodName) prog_18_method_104_code (5 : Nat) (Option.none : Option FieldType)) ∈ k_Tg := k_tg 557 (by decide +kernel) rfl
theorem tw_558 : (Cond.methodLink "java/util/Arrays" (13 : Nat) ({ cls := "java/util/Arrays", name := "rangeCheck", desc := "(III)V" } : MethodName)) ∈ k_Tg := k_tg 558 (by decide +kernel) rfl
theorem tw_559 : (Cond.static ({ cls := "java/util/Arrays", name := "rangeCheck", desc := "(III)V" } : MethodName)) ∈ k_Tg := k_tg 559 (by decide +kernel) rfl
theorem tw_560 : (Cond.code ({ cls := "java/util/Arrays", name := "rangeCheck", desc := "(III)V" } : MethodName) prog_18_method_30_code (3 : Nat) (Option.none : Option FieldType)) ∈ k_Tg := k_tg 560 (by decide +kernel) rfl
theorem tw_561 : (Cond.methodLink "KeyPath$Windows" (68 : Nat) ({ cls := "java/lang/Math", name := "max", desc := "(II)I" } : MethodName)) ∈ k_Tg := k_tg 561 (by decide +kernel) rfl
theorem tw_562 : (Cond.methodLink "KeyPath$Windows" (54 : Nat) ({ cls := "KeyPath$Windows", name := "fullestTriad", desc := "(I)I" } : MethodName)) ∈ k_Tg := k_tg 562 (by decide +kernel) rfl
theorem tw_564 : (Cond.instanceMethod ({ cls := "KeyPath$Windows", name := "fullestTriad", desc := "(I)I" } : MethodName)) ∈ k_Tg := k_tg 564 (by decide +kernel) rfl
theorem tw_565 : (Cond.code ({ cls := "KeyPath$Windows", name := "fullestTriad", desc := "(I)I" } : MethodName) prog_9_method_5_code (7 : Nat) (Option.some FieldType.int)) ∈ k_Tg := k_tg 565 (by decide +kernel) rfl
theorem tw_567 : (Cond.static ({ cls := "KeyPath", name := "toneOf", desc := "(II)I" } : MethodName)) ∈ k_Tg := k_tg 567 (by decide +kernel) rfl
theorem tw_568 : (Cond.code ({ cls := "KeyPath", name := "toneOf", desc := "(II)I" } : MethodName) prog_1_method_62_code (3 : Nat) (Option.some FieldType.int)) ∈ k_Tg := k_tg 568 (by decide +kernel) rfl
theorem tw_569 : (Cond.fieldLink "KeyPath" (364 : Nat) "KeyPath" "THIRDS" "[I") ∈ k_Tg := k_tg 569 (by decide +kernel) rfl
theorem tw_571 : (Cond.fieldLink "KeyPath" (367 : Nat) "KeyPath" "FIFTHS" "[I") ∈ k_Tg := k_tg 571 (by decide +kernel) rfl
theorem tw_577 : (Cond.methodLink "KeyPath" (159 : Nat) ({ cls := "KeyPath", name := "noMode", desc := "(I)Z" } : MethodName)) ∈ k_Tg := k_tg 577 (by decide +kernel) rfl
theorem tw_578 : (Cond.static ({ cls := "KeyPath", name := "noMode", desc := "(I)Z" } : MethodName)) ∈ k_Tg := k_tg 578 (by decide +kernel) rfl
theorem tw_579 : (Cond.code ({ cls := "KeyPath", name := "noMode", desc := "(I)Z" } : MethodName) prog_1_method_55_code (1 : Nat) (Option.some FieldType.boolean)) ∈ k_Tg := k_tg 579 (by decide +kernel) rfl
theorem tw_580 : (Cond.methodLink "KeyPath" (162 : Nat) ({ cls := "KeyPath", name := "noTone", desc := "(I)Z" } : MethodName)) ∈ k_Tg := k_tg 580 (by decide +kernel) rfl
theorem tw_581 : (Cond.static ({ cls := "KeyPath", name := "noTone", desc := "(I)Z" } : MethodName)) ∈ k_Tg := k_tg 581 (by decide +kernel) rfl
theorem tw_582 : (Cond.code ({ cls := "KeyPath", name := "noTone", desc := "(I)Z" } : MethodName) prog_1_method_54_code (1 : Nat) (Option.some FieldType.boolean)) ∈ k_Tg := k_tg 582 (by decide +kernel) rfl
theorem tw_591 : (Cond.methodLink "KeyPath" (190 : Nat) ({ cls := "KeyPath", name := "noKey", desc := "(I)Z" } : MethodName)) ∈ k_Tg := k_tg 591 (by decide +kernel) rfl
theorem tw_592 : (Cond.static ({ cls := "KeyPath", name := "noKey", desc := "(I)Z" } : MethodName)) ∈ k_Tg := k_tg 592 (by decide +kernel) rfl
theorem tw_593 : (Cond.code ({ cls := "KeyPath", name := "noKey", desc := "(I)Z" } : MethodName) prog_1_method_53_code (1 : Nat) (Option.some FieldType.boolean)) ∈ k_Tg := k_tg 593 (by decide +kernel) rfl
theorem tw_598 : (Cond.methodLink "KeyPath" (196 : Nat) ({ cls := "KeyPath", name := "noWindow", desc := "(I)Z" } : MethodName)) ∈ k_Tg := k_tg 598 (by decide +kernel) rfl
theorem tw_600 : (Cond.instanceMethod ({ cls := "KeyPath", name := "noWindow", desc := "(I)Z" } : MethodName)) ∈ k_Tg := k_tg 600 (by decide +kernel) rfl
theorem tw_601 : (Cond.code ({ cls := "KeyPath", name := "noWindow", desc := "(I)Z" } : MethodName) prog_1_method_50_code (2 : Nat) (Option.some FieldType.boolean)) ∈ k_Tg := k_tg 601 (by decide +kernel) rfl
theorem tw_606 : (Cond.methodLink "KeyPath" (205 : Nat) ({ cls := "KeyPath$Profiles", name := "weigh", desc := "(LKeyPath$Windows;II)I" } : MethodName)) ∈ k_Tg := k_tg 606 (by decide +kernel) rfl
theorem tw_607 : (Cond.instanceMethod ({ cls := "KeyPath$Profiles", name := "weigh", desc := "(LKeyPath$Windows;II)I" } : MethodName)) ∈ k_Tg := k_tg 607 (by decide +kernel) rfl
theorem tw_608 : (Cond.selects "KeyPath$Profiles" ({ cls := "KeyPath$Profiles", name := "weigh", desc := "(LKeyPath$Windows;II)I" } : MethodName) ({ cls := "KeyPath$Profiles", name := "weigh", desc := "(LKeyPath$Windows;II)I" } : MethodName)) ∈ k_Tg := k_tg 608 (by decide +kernel) rfl
theorem tw_609 : (Cond.code ({ cls := "KeyPath$Profiles", name := "weigh", desc := "(LKeyPath$Windows;II)I" } : MethodName) prog_7_method_2_code (7 : Nat) (Option.some FieldType.int)) ∈ k_Tg := k_tg 609 (by decide +kernel) rfl
theorem tw_611 : (Cond.static ({ cls := "KeyPath", name := "modeOf", desc := "(I)I" } : MethodName)) ∈ k_Tg := k_tg 611 (by decide +kernel) rfl
theorem tw_612 : (Cond.code ({ cls := "KeyPath", name := "modeOf", desc := "(I)I" } : MethodName) prog_1_method_56_code (1 : Nat) (Option.some FieldType.int)) ∈ k_Tg := k_tg 612 (by decide +kernel) rfl
theorem tw_613 : (Cond.methodLink "KeyPath" (209 : Nat) ({ cls := "KeyPath", name := "commonDivisor", desc := "(II)I" } : MethodName)) ∈ k_Tg := k_tg 613 (by decide +kernel) rfl
theorem tw_614 : (Cond.static ({ cls := "KeyPath", name := "commonDivisor", desc := "(II)I" } : MethodName)) ∈ k_Tg := k_tg 614 (by decide +kernel) rfl
theorem tw_615 : (Cond.code ({ cls := "KeyPath", name := "commonDivisor", desc := "(II)I" } : MethodName) prog_1_method_59_code (6 : Nat) (Option.some FieldType.int)) ∈ k_Tg := k_tg 615 (by decide +kernel) rfl
theorem tw_620 : (Cond.methodLink "KeyPath" (212 : Nat) ({ cls := "KeyPath", name := "freshFits", desc := "()V" } : MethodName)) ∈ k_Tg := k_tg 620 (by decide +kernel) rfl
theorem tw_622 : (Cond.instanceMethod ({ cls := "KeyPath", name := "freshFits", desc := "()V" } : MethodName)) ∈ k_Tg := k_tg 622 (by decide +kernel) rfl
theorem tw_623 : (Cond.code ({ cls := "KeyPath", name := "freshFits", desc := "()V" } : MethodName) prog_1_method_48_code (1 : Nat) (Option.none : Option FieldType)) ∈ k_Tg := k_tg 623 (by decide +kernel) rfl
theorem tw_624 : (Cond.methodLink "KeyPath" (335 : Nat) ({ cls := "KeyPath$Profiles", name := "judge", desc := "(LKeyPath$Windows;)V" } : MethodName)) ∈ k_Tg := k_tg 624 (by decide +kernel) rfl
theorem tw_625 : (Cond.instanceMethod ({ cls := "KeyPath$Profiles", name := "judge", desc := "(LKeyPath$Windows;)V" } : MethodName)) ∈ k_Tg := k_tg 625 (by decide +kernel) rfl
theorem tw_626 : (Cond.selects "KeyPath$Profiles" ({ cls := "KeyPath$Profiles", name := "judge", desc := "(LKeyPath$Windows;)V" } : MethodName) ({ cls := "KeyPath$Profiles", name := "judge", desc := "(LKeyPath$Windows;)V" } : MethodName)) ∈ k_Tg := k_tg 626 (by decide +kernel) rfl
theorem tw_627 : (Cond.code ({ cls := "KeyPath$Profiles", name := "judge", desc := "(LKeyPath$Windows;)V" } : MethodName) prog_7_method_3_code (3 : Nat) (Option.none : Option FieldType)) ∈ k_Tg := k_tg 627 (by decide +kernel) rfl
theorem tw_628 : (Cond.methodLink "KeyPath$Profiles" (46 : Nat) ({ cls := "KeyPath$Profiles", name := "judgeRow", desc := "(LKeyPath$Windows;I)V" } : MethodName)) ∈ k_Tg := k_tg 628 (by decide +kernel) rfl
theorem tw_630 : (Cond.instanceMethod ({ cls := "KeyPath$Profiles", name := "judgeRow", desc := "(LKeyPath$Windows;I)V" } : MethodName)) ∈ k_Tg := k_tg 630 (by decide +kernel) rfl
theorem tw_631 : (Cond.code ({ cls := "KeyPath$Profiles", name := "judgeRow", desc := "(LKeyPath$Windows;I)V" } : MethodName) prog_7_method_4_code (6 : Nat) (Option.none : Option FieldType)) ∈ k_Tg := k_tg 631 (by decide +kernel) rfl
theorem tw_632 : (Cond.methodLink "KeyPath$Profiles" (53 : Nat) ({ cls := "KeyPath$Profiles", name := "weigh", desc := "(LKeyPath$Windows;II)I" } : MethodName)) ∈ k_Tg := k_tg 632 (by decide +kernel) rfl
theorem tw_633 : (Cond.methodLink "KeyPath$Profiles" (57 : Nat) ({ cls := "java/lang/Math", name := "max", desc := "(II)I" } : MethodName)) ∈ k_Tg := k_tg 633 (by decide +kernel) rfl
theorem tw_638 : (Cond.methodLink "KeyPath" (218 : Nat) ({ cls := "KeyPath$Profiles", name := "keyOfRank", desc := "(II)I" } : MethodName)) ∈ k_Tg := k_tg 638 (by decide +kernel) rfl
theorem tw_639 : (Cond.instanceMethod ({ cls := "KeyPath$Profiles", name := "keyOfRank", desc := "(II)I" } : MethodName)) ∈ k_Tg := k_tg 639 (by decide +kernel) rfl
theorem tw_640 : (Cond.selects "KeyPath$Profiles" ({ cls := "KeyPath$Profiles", name := "keyOfRank", desc := "(II)I" } : MethodName) ({ cls := "KeyPath$Profiles", name := "keyOfRank", desc := "(II)I" } : MethodName)) ∈ k_Tg := k_tg 640 (by decide +kernel) rfl
theorem tw_641 : (Cond.code ({ cls := "KeyPath$Profiles", name := "keyOfRank", desc := "(II)I" } : MethodName) prog_7_method_5_code (4 : Nat) (Option.some FieldType.int)) ∈ k_Tg := k_tg 641 (by decide +kernel) rfl
theorem tw_642 : (Cond.methodLink "KeyPath$Profiles" (63 : Nat) ({ cls := "KeyPath$Profiles", name := "betterThan", desc := "(II)I" } : MethodName)) ∈ k_Tg := k_tg 642 (by decide +kernel) rfl
theorem tw_644 : (Cond.instanceMethod ({ cls := "KeyPath$Profiles", name := "betterThan", desc := "(II)I" } : MethodName)) ∈ k_Tg := k_tg 644 (by decide +kernel) rfl
theorem tw_645 : (Cond.code ({ cls := "KeyPath$Profiles", name := "betterThan", desc := "(II)I" } : MethodName) prog_7_method_6_code (7 : Nat) (Option.some FieldType.int)) ∈ k_Tg := k_tg 645 (by decide +kernel) rfl
theorem tw_658 : (Cond.methodLink "KeyPath" (224 : Nat) ({ cls := "KeyPath$Net", name := "refresh", desc := "()V" } : MethodName)) ∈ k_Tg := k_tg 658 (by decide +kernel) rfl
theorem tw_659 : (Cond.instanceMethod ({ cls := "KeyPath$Net", name := "refresh", desc := "()V" } : MethodName)) ∈ k_Tg := k_tg 659 (by decide +kernel) rfl
theorem tw_660 : (Cond.selects "KeyPath$Net" ({ cls := "KeyPath$Net", name := "refresh", desc := "()V" } : MethodName) ({ cls := "KeyPath$Net", name := "refresh", desc := "()V" } : MethodName)) ∈ k_Tg := k_tg 660 (by decide +kernel) rfl
theorem tw_661 : (Cond.code ({ cls := "KeyPath$Net", name := "refresh", desc := "()V" } : MethodName) prog_4_method_5_code (3 : Nat) (Option.none : Option FieldType)) ∈ k_Tg := k_tg 661 (by decide +kernel) rfl
theorem tw_662 : (Cond.methodLink "KeyPath$Net" (46 : Nat) ({ cls := "KeyPath$Net", name := "reachFrom", desc := "(I)V" } : MethodName)) ∈ k_Tg := k_tg 662 (by decide +kernel) rfl
theorem tw_664 : (Cond.instanceMethod ({ cls := "KeyPath$Net", name := "reachFrom", desc := "(I)V" } : MethodName)) ∈ k_Tg := k_tg 664 (by decide +kernel) rfl
theorem tw_665 : (Cond.code ({ cls := "KeyPath$Net", name := "reachFrom", desc := "(I)V" } : MethodName) prog_4_method_6_code (8 : Nat) (Option.none : Option FieldType)) ∈ k_Tg := k_tg 665 (by decide +kernel) rfl
theorem tw_666 : Cond.constant "KeyPath$Net" 54 (c32 1000000000) ∈ k_Tg := k_tg 666 (by decide +kernel) rfl
theorem tw_667 : (Cond.methodLink "KeyPath$Net" (55 : Nat) ({ cls := "java/util/Arrays", name := "fill", desc := "([II)V" } : MethodName)) ∈ k_Tg := k_tg 667 (by decide +kernel) rfl
theorem tw_668 : (Cond.methodLink "KeyPath$Net" (61 : Nat) ({ cls := "KeyPath$Net", name := "neighbour", desc := "(II)I" } : MethodName)) ∈ k_Tg := k_tg 668 (by decide +kernel) rfl
theorem tw_669 : (Cond.static ({ cls := "KeyPath$Net", name := "neighbour", desc := "(II)I" } : MethodName)) ∈ k_Tg := k_tg 669 (by decide +kernel) rfl
theorem tw_670 : (Cond.code ({ cls := "KeyPath$Net", name := "neighbour", desc := "(II)I" } : MethodName) prog_4_method_2_code (3 : Nat) (Option.some FieldType.int)) ∈ k_Tg := k_tg 670 (by decide +kernel) rfl
theorem tw_672 : (Cond.methodLink "KeyPath$Net" (42 : Nat) ({ cls := "KeyPath$Net", name := "raised", desc := "(III)I" } : MethodName)) ∈ k_Tg := k_tg 672 (by decide +kernel) rfl
theorem tw_673 : (Cond.static ({ cls := "KeyPath$Net", name := "raised", desc := "(III)I" } : MethodName)) ∈ k_Tg := k_tg 673 (by decide +kernel) rfl
theorem tw_674 : (Cond.code ({ cls := "KeyPath$Net", name := "raised", desc := "(III)I" } : MethodName) prog_4_method_3_code (3 : Nat) (Option.some FieldType.int)) ∈ k_Tg := k_tg 674 (by decide +kernel) rfl
theorem tw_675 : (Cond.methodLink "KeyPath$Net" (65 : Nat) ({ cls := "KeyPath$Net", name := "rankOfStep", desc := "(I)I" } : MethodName)) ∈ k_Tg := k_tg 675 (by decide +kernel) rfl
theorem tw_677 : (Cond.instanceMethod ({ cls := "KeyPath$Net", name := "rankOfStep", desc := "(I)I" } : MethodName)) ∈ k_Tg := k_tg 677 (by decide +kernel) rfl
theorem tw_678 : (Cond.code ({ cls := "KeyPath$Net", name := "rankOfStep", desc := "(I)I" } : MethodName) prog_4_method_4_code (3 : Nat) (Option.some FieldType.int)) ∈ k_Tg := k_tg 678 (by decide +kernel) rfl
theorem tw_679 : (Cond.methodLink "KeyPath$Net" (50 : Nat) ({ cls := "KeyPath$Net", name := "copyRow", desc := "(II)V" } : MethodName)) ∈ k_Tg := k_tg 679 (by decide +kernel) rfl
theorem tw_681 : (Cond.instanceMethod ({ cls := "KeyPath$Net", name := "copyRow", desc := "(II)V" } : MethodName)) ∈ k_Tg := k_tg 681 (by decide +kernel) rfl
theorem tw_682 : (Cond.code ({ cls := "KeyPath$Net", name := "copyRow", desc := "(II)V" } : MethodName) prog_4_method_7_code (5 : Nat) (Option.none : Option FieldType)) ∈ k_Tg := k_tg 682 (by decide +kernel) rfl
theorem tw_687 : (Cond.methodLink "KeyPath" (230 : Nat) ({ cls := "KeyPath$Net", name := "keyOnWay", desc := "(III)I" } : MethodName)) ∈ k_Tg := k_tg 687 (by decide +kernel) rfl
theorem tw_688 : (Cond.instanceMethod ({ cls := "KeyPath$Net", name := "keyOnWay", desc := "(III)I" } : MethodName)) ∈ k_Tg := k_tg 688 (by decide +kernel) rfl
theorem tw_689 : (Cond.selects "KeyPath$Net" ({ cls := "KeyPath$Net", name := "keyOnWay", desc := "(III)I" } : MethodName) ({ cls := "KeyPath$Net", name := "keyOnWay", desc := "(III)I" } : MethodName)) ∈ k_Tg := k_tg 689 (by decide +kernel) rfl
theorem tw_690 : (Cond.code ({ cls := "KeyPath$Net", name := "keyOnWay", desc := "(III)I" } : MethodName) prog_4_method_8_code (6 : Nat) (Option.some FieldType.int)) ∈ k_Tg := k_tg 690 (by decide +kernel) rfl
theorem tw_691 : (Cond.methodLink "KeyPath$Net" (68 : Nat) ({ cls := "KeyPath$Net", name := "nextOnWay", desc := "(II)I" } : MethodName)) ∈ k_Tg := k_tg 691 (by decide +kernel) rfl
theorem tw_693 : (Cond.instanceMethod ({ cls := "KeyPath$Net", name := "nextOnWay", desc := "(II)I" } : MethodName)) ∈ k_Tg := k_tg 693 (by decide +kernel) rfl
theorem tw_694 : (Cond.code ({ cls := "KeyPath$Net", name := "nextOnWay", desc := "(II)I" } : MethodName) prog_4_method_9_code (6 : Nat) (Option.some FieldType.int)) ∈ k_Tg := k_tg 694 (by decide +kernel) rfl
theorem tw_695 : (Cond.methodLink "KeyPath$Net" (71 : Nat) ({ cls := "java/lang/Math", name := "min", desc := "(II)I" } : MethodName)) ∈ k_Tg := k_tg 695 (by decide +kernel) rfl
theorem tw_700 : (Cond.methodLink "KeyPath" (233 : Nat) ({ cls := "KeyPath", name := "noPath", desc := "()Z" } : MethodName)) ∈ k_Tg := k_tg 700 (by decide +kernel) rfl
theorem tw_702 : (Cond.instanceMethod ({ cls := "KeyPath", name := "noPath", desc := "()Z" } : MethodName)) ∈ k_Tg := k_tg 702 (by decide +kernel) rfl
theorem tw_703 : (Cond.code ({ cls := "KeyPath", name := "noPath", desc := "()Z" } : MethodName) prog_1_method_49_code (1 : Nat) (Option.some FieldType.boolean)) ∈ k_Tg := k_tg 703 (by decide +kernel) rfl
theorem tw_704 : (Cond.methodLink "KeyPath" (339 : Nat) ({ cls := "KeyPath$PathFinder", name := "judge", desc := "(LKeyPath$Windows;LKeyPath$Profiles;)V" } : MethodName)) ∈ k_Tg := k_tg 704 (by decide +kernel) rfl
theorem tw_705 : (Cond.instanceMethod ({ cls := "KeyPath$PathFinder", name := "judge", desc := "(LKeyPath$Windows;LKeyPath$Profiles;)V" } : MethodName)) ∈ k_Tg := k_tg 705 (by decide +kernel) rfl
theorem tw_706 : (Cond.selects "KeyPath$PathFinder" ({ cls := "KeyPath$PathFinder", name := "judge", desc := "(LKeyPath$Windows;LKeyPath$Profiles;)V" } : MethodName) ({ cls := "KeyPath$PathFinder", name := "judge", desc := "(LKeyPath$Windows;LKeyPath$Profiles;)V" } : MethodName)) ∈ k_Tg := k_tg 706 (by decide +kernel) rfl
theorem tw_707 : (Cond.code ({ cls := "KeyPath$PathFinder", name := "judge", desc := "(LKeyPath$Windows;LKeyPath$Profiles;)V" } : MethodName) prog_6_method_2_code (7 : Nat) (Option.none : Option FieldType)) ∈ k_Tg := k_tg 707 (by decide +kernel) rfl
theorem tw_708 : Cond.constant "KeyPath$PathFinder" 65 (c32 1000000000) ∈ k_Tg := k_tg 708 (by decide +kernel) rfl
theorem tw_709 : (Cond.methodLink "KeyPath" (342 : Nat) ({ cls := "KeyPath$PathFinder", name := "solve", desc := "(LKeyPath$Net;I)V" } : MethodName)) ∈ k_Tg := k_tg 709 (by decide +kernel) rfl
theorem tw_710 : (Cond.instanceMethod ({ cls := "KeyPath$PathFinder", name := "solve", desc := "(LKeyPath$Net;I)V" } : MethodName)) ∈ k_Tg := k_tg 710 (by decide +kernel) rfl
theorem tw_711 : (Cond.selects "KeyPath$PathFinder" ({ cls := "KeyPath$PathFinder", name := "solve", desc := "(LKeyPath$Net;I)V" } : MethodName) ({ cls := "KeyPath$PathFinder", name := "solve", desc := "(LKeyPath$Net;I)V" } : MethodName)) ∈ k_Tg := k_tg 711 (by decide +kernel) rfl
theorem tw_712 : (Cond.code ({ cls := "KeyPath$PathFinder", name := "solve", desc := "(LKeyPath$Net;I)V" } : MethodName) prog_6_method_3_code (5 : Nat) (Option.none : Option FieldType)) ∈ k_Tg := k_tg 712 (by decide +kernel) rfl
theorem tw_713 : (Cond.methodLink "KeyPath$PathFinder" (71 : Nat) ({ cls := "KeyPath$PathFinder", name := "lookBehind", desc := "(II)V" } : MethodName)) ∈ k_Tg := k_tg 713 (by decide +kernel) rfl
theorem tw_715 : (Cond.instanceMethod ({ cls := "KeyPath$PathFinder", name := "lookBehind", desc := "(II)V" } : MethodName)) ∈ k_Tg := k_tg 715 (by decide +kernel) rfl
theorem tw_716 : (Cond.code ({ cls := "KeyPath$PathFinder", name := "lookBehind", desc := "(II)V" } : MethodName) prog_6_method_4_code (9 : Nat) (Option.none : Option FieldType)) ∈ k_Tg := k_tg 716 (by decide +kernel) rfl
theorem tw_718 : (Cond.static ({ cls := "KeyPath", name := "plus", desc := "(II)I" } : MethodName)) ∈ k_Tg := k_tg 718 (by decide +kernel) rfl
theorem tw_719 : (Cond.code ({ cls := "KeyPath", name := "plus", desc := "(II)I" } : MethodName) prog_1_method_58_code (2 : Nat) (Option.some FieldType.int)) ∈ k_Tg := k_tg 719 (by decide +kernel) rfl
theorem tw_720 : Cond.constant "KeyPath" 261 (c32 1000000000) ∈ k_Tg := k_tg 720 (by decide +kernel) rfl
theorem tw_721 : (Cond.methodLink "KeyPath" (353 : Nat) ({ cls := "java/lang/Math", name := "min", desc := "(II)I" } : MethodName)) ∈ k_Tg := k_tg 721 (by decide +kernel) rfl
theorem tw_722 : Cond.constant "KeyPath$PathFinder" 91 (c32 1000000) ∈ k_Tg := k_tg 722 (by decide +kernel) rfl
theorem tw_723 : (Cond.methodLink "KeyPath$PathFinder" (92 : Nat) ({ cls := "java/lang/Math", name := "min", desc := "(II)I" } : MethodName)) ∈ k_Tg := k_tg 723 (by decide +kernel) rfl
theorem tw_724 : (Cond.methodLink "KeyPath$PathFinder" (75 : Nat) ({ cls := "KeyPath$PathFinder", name := "findLeast", desc := "()V" } : MethodName)) ∈ k_Tg := k_tg 724 (by decide +kernel) rfl
theorem tw_726 : (Cond.instanceMethod ({ cls := "KeyPath$PathFinder", name := "findLeast", desc := "()V" } : MethodName)) ∈ k_Tg := k_tg 726 (by decide +kernel) rfl
theorem tw_727 : (Cond.code ({ cls := "KeyPath$PathFinder", name := "findLeast", desc := "()V" } : MethodName) prog_6_method_5_code (2 : Nat) (Option.none : Option FieldType)) ∈ k_Tg := k_tg 727 (by decide +kernel) rfl
theorem tw_728 : (Cond.methodLink "KeyPath$PathFinder" (81 : Nat) ({ cls := "KeyPath$PathFinder", name := "follow", desc := "()V" } : MethodName)) ∈ k_Tg := k_tg 728 (by decide +kernel) rfl
theorem tw_730 : (Cond.instanceMethod ({ cls := "KeyPath$PathFinder", name := "follow", desc := "()V" } : MethodName)) ∈ k_Tg := k_tg 730 (by decide +kernel) rfl
theorem tw_731 : (Cond.code ({ cls := "KeyPath$PathFinder", name := "follow", desc := "()V" } : MethodName) prog_6_method_6_code (2 : Nat) (Option.none : Option FieldType)) ∈ k_Tg := k_tg 731 (by decide +kernel) rfl
theorem tw_732 : (Cond.methodLink "KeyPath$PathFinder" (103 : Nat) ({ cls := "KeyPath$PathFinder", name := "firstKey", desc := "()I" } : MethodName)) ∈ k_Tg := k_tg 732 (by decide +kernel) rfl
theorem tw_734 : (Cond.instanceMethod ({ cls := "KeyPath$PathFinder", name := "firstKey", desc := "()I" } : MethodName)) ∈ k_Tg := k_tg 734 (by decide +kernel) rfl
theorem tw_735 : (Cond.code ({ cls := "KeyPath$PathFinder", name := "firstKey", desc := "()I" } : MethodName) prog_6_method_7_code (2 : Nat) (Option.some FieldType.int)) ∈ k_Tg := k_tg 735 (by decide +kernel) rfl
theorem tw_736 : (Cond.methodLink "KeyPath$PathFinder" (107 : Nat) ({ cls := "KeyPath$PathFinder", name := "nextKey", desc := "(I)I" } : MethodName)) ∈ k_Tg := k_tg 736 (by decide +kernel) rfl
theorem tw_738 : (Cond.instanceMethod ({ cls := "KeyPath$PathFinder", name := "nextKey", desc := "(I)I" } : MethodName)) ∈ k_Tg := k_tg 738 (by decide +kernel) rfl
theorem tw_739 : (Cond.code ({ cls := "KeyPath$PathFinder", name := "nextKey", desc := "(I)I" } : MethodName) prog_6_method_8_code (6 : Nat) (Option.some FieldType.int)) ∈ k_Tg := k_tg 739 (by decide +kernel) rfl
theorem tw_740 : (Cond.methodLink "KeyPath$PathFinder" (84 : Nat) ({ cls := "KeyPath$PathFinder", name := "splitSegments", desc := "()V" } : MethodName)) ∈ k_Tg := k_tg 740 (by decide +kernel) rfl
theorem tw_742 : (Cond.instanceMethod ({ cls := "KeyPath$PathFinder", name := "splitSegments", desc := "()V" } : MethodName)) ∈ k_Tg := k_tg 742 (by decide +kernel) rfl
theorem tw_743 : (Cond.code ({ cls := "KeyPath$PathFinder", name := "splitSegments", desc := "()V" } : MethodName) prog_6_method_9_code (2 : Nat) (Option.none : Option FieldType)) ∈ k_Tg := k_tg 743 (by decide +kernel) rfl
theorem tw_744 : (Cond.methodLink "KeyPath" (349 : Nat) ({ cls := "KeyPath$Detours", name := "forget", desc := "()V" } : MethodName)) ∈ k_Tg := k_tg 744 (by decide +kernel) rfl
theorem tw_745 : (Cond.instanceMethod ({ cls := "KeyPath$Detours", name := "forget", desc := "()V" } : MethodName)) ∈ k_Tg := k_tg 745 (by decide +kernel) rfl
theorem tw_746 : (Cond.selects "KeyPath$Detours" ({ cls := "KeyPath$Detours", name := "forget", desc := "()V" } : MethodName) ({ cls := "KeyPath$Detours", name := "forget", desc := "()V" } : MethodName)) ∈ k_Tg := k_tg 746 (by decide +kernel) rfl
theorem tw_747 : (Cond.code ({ cls := "KeyPath$Detours", name := "forget", desc := "()V" } : MethodName) prog_2_method_2_code (1 : Nat) (Option.none : Option FieldType)) ∈ k_Tg := k_tg 747 (by decide +kernel) rfl
theorem tw_760 : (Cond.methodLink "KeyPath" (246 : Nat) ({ cls := "KeyPath$Detours", name := "lookAhead", desc := "(LKeyPath$PathFinder;)V" } : MethodName)) ∈ k_Tg := k_tg 760 (by decide +kernel) rfl
theorem tw_761 : (Cond.instanceMethod ({ cls := "KeyPath$Detours", name := "lookAhead", desc := "(LKeyPath$PathFinder;)V" } : MethodName)) ∈ k_Tg := k_tg 761 (by decide +kernel) rfl
theorem tw_762 : (Cond.selects "KeyPath$Detours" ({ cls := "KeyPath$Detours", name := "lookAhead", desc := "(LKeyPath$PathFinder;)V" } : MethodName) ({ cls := "KeyPath$Detours", name := "lookAhead", desc := "(LKeyPath$PathFinder;)V" } : MethodName)) ∈ k_Tg := k_tg 762 (by decide +kernel) rfl
theorem tw_763 : (Cond.code ({ cls := "KeyPath$Detours", name := "lookAhead", desc := "(LKeyPath$PathFinder;)V" } : MethodName) prog_2_method_3_code (6 : Nat) (Option.none : Option FieldType)) ∈ k_Tg := k_tg 763 (by decide +kernel) rfl
theorem tw_764 : (Cond.methodLink "KeyPath$Detours" (41 : Nat) ({ cls := "KeyPath$Detours", name := "cheapestMove", desc := "(LKeyPath$PathFinder;[III)I" } : MethodName)) ∈ k_Tg := k_tg 764 (by decide +kernel) rfl
theorem tw_765 : (Cond.static ({ cls := "KeyPath$Detours", name := "cheapestMove", desc := "(LKeyPath$PathFinder;[III)I" } : MethodName)) ∈ k_Tg := k_tg 765 (by decide +kernel) rfl
theorem tw_766 : (Cond.code ({ cls := "KeyPath$Detours", name := "cheapestMove", desc := "(LKeyPath$PathFinder;[III)I" } : MethodName) prog_2_method_4_code (6 : Nat) (Option.some FieldType.int)) ∈ k_Tg := k_tg 766 (by decide +kernel) rfl
theorem tw_767 : Cond.constant "KeyPath$Detours" 52 (c32 1000000000) ∈ k_Tg := k_tg 767 (by decide +kernel) rfl
theorem tw_768 : (Cond.methodLink "KeyPath$Detours" (56 : Nat) ({ cls := "java/lang/Math", name := "min", desc := "(II)I" } : MethodName)) ∈ k_Tg := k_tg 768 (by decide +kernel) rfl
theorem tw_770 : (Cond.methodLink "KeyPath" (250 : Nat) ({ cls := "KeyPath$Detours", name := "costThrough", desc := "(LKeyPath$PathFinder;II)I" } : MethodName)) ∈ k_Tg := k_tg 770 (by decide +kernel) rfl
theorem tw_771 : (Cond.instanceMethod ({ cls := "KeyPath$Detours", name := "costThrough", desc := "(LKeyPath$PathFinder;II)I" } : MethodName)) ∈ k_Tg := k_tg 771 (by decide +kernel) rfl
theorem tw_772 : (Cond.selects "KeyPath$Detours" ({ cls := "KeyPath$Detours", name := "costThrough", desc := "(LKeyPath$PathFinder;II)I" } : MethodName) ({ cls := "KeyPath$Detours", name := "costThrough", desc := "(LKeyPath$PathFinder;II)I" } : MethodName)) ∈ k_Tg := k_tg 772 (by decide +kernel) rfl
theorem tw_773 : (Cond.code ({ cls := "KeyPath$Detours", name := "costThrough", desc := "(LKeyPath$PathFinder;II)I" } : MethodName) prog_2_method_5_code (5 : Nat) (Option.some FieldType.int)) ∈ k_Tg := k_tg 773 (by decide +kernel) rfl
theorem tw_774 : (Cond.methodLink "KeyPath" (254 : Nat) ({ cls := "KeyPath", name := "toldCost", desc := "(I)I" } : MethodName)) ∈ k_Tg := k_tg 774 (by decide +kernel) rfl
theorem tw_775 : (Cond.static ({ cls := "KeyPath", name := "toldCost", desc := "(I)I" } : MethodName)) ∈ k_Tg := k_tg 775 (by decide +kernel) rfl
theorem tw_776 : (Cond.code ({ cls := "KeyPath", name := "toldCost", desc := "(I)I" } : MethodName) prog_1_method_57_code (1 : Nat) (Option.some FieldType.int)) ∈ k_Tg := k_tg 776 (by decide +kernel) rfl
theorem tw_781 : (Cond.methodLink "KeyPath" (258 : Nat) ({ cls := "KeyPath$Detours", name := "keysUpTo", desc := "(LKeyPath$PathFinder;II)I" } : MethodName)) ∈ k_Tg := k_tg 781 (by decide +kernel) rfl
theorem tw_782 : (Cond.instanceMethod ({ cls := "KeyPath$Detours", name := "keysUpTo", desc := "(LKeyPath$PathFinder;II)I" } : MethodName)) ∈ k_Tg := k_tg 782 (by decide +kernel) rfl
theorem tw_783 : (Cond.selects "KeyPath$Detours" ({ cls := "KeyPath$Detours", name := "keysUpTo", desc := "(LKeyPath$PathFinder;II)I" } : MethodName) ({ cls := "KeyPath$Detours", name := "keysUpTo", desc := "(LKeyPath$PathFinder;II)I" } : MethodName)) ∈ k_Tg := k_tg 783 (by decide +kernel) rfl
theorem tw_784 : (Cond.code ({ cls := "KeyPath$Detours", name := "keysUpTo", desc := "(LKeyPath$PathFinder;II)I" } : MethodName) prog_2_method_6_code (6 : Nat) (Option.some FieldType.int)) ∈ k_Tg := k_tg 784 (by decide +kernel) rfl
theorem tw_785 : (Cond.methodLink "KeyPath$Detours" (64 : Nat) ({ cls := "KeyPath$Detours", name := "costThrough", desc := "(LKeyPath$PathFinder;II)I" } : MethodName)) ∈ k_Tg := k_tg 785 (by decide +kernel) rfl
theorem tw_790 : (Cond.methodLink "KeyPath" (263 : Nat) ({ cls := "KeyPath$Detours", name := "leastAside", desc := "(LKeyPath$PathFinder;I)I" } : MethodName)) ∈ k_Tg := k_tg 790 (by decide +kernel) rfl
theorem tw_791 : (Cond.instanceMethod ({ cls := "KeyPath$Detours", name := "leastAside", desc := "(LKeyPath$PathFinder;I)I" } : MethodName)) ∈ k_Tg := k_tg 791 (by decide +kernel) rfl
theorem tw_792 : (Cond.selects "KeyPath$Detours" ({ cls := "KeyPath$Detours", name := "leastAside", desc := "(LKeyPath$PathFinder;I)I" } : MethodName) ({ cls := "KeyPath$Detours", name := "leastAside", desc := "(LKeyPath$PathFinder;I)I" } : MethodName)) ∈ k_Tg := k_tg 792 (by decide +kernel) rfl
theorem tw_793 : (Cond.code ({ cls := "KeyPath$Detours", name := "leastAside", desc := "(LKeyPath$PathFinder;I)I" } : MethodName) prog_2_method_7_code (5 : Nat) (Option.some FieldType.int)) ∈ k_Tg := k_tg 793 (by decide +kernel) rfl
theorem tw_798 : (Cond.methodLink "KeyPath" (267 : Nat) ({ cls := "KeyPath$PathFinder", name := "moves", desc := "()I" } : MethodName)) ∈ k_Tg := k_tg 798 (by decide +kernel) rfl
theorem tw_799 : (Cond.instanceMethod ({ cls := "KeyPath$PathFinder", name := "moves", desc := "()I" } : MethodName)) ∈ k_Tg := k_tg 799 (by decide +kernel) rfl
theorem tw_800 : (Cond.selects "KeyPath$PathFinder" ({ cls := "KeyPath$PathFinder", name := "moves", desc := "()I" } : MethodName) ({ cls := "KeyPath$PathFinder", name := "moves", desc := "()I" } : MethodName)) ∈ k_Tg := k_tg 800 (by decide +kernel) rfl
theorem tw_801 : (Cond.code ({ cls := "KeyPath$PathFinder", name := "moves", desc := "()I" } : MethodName) prog_6_method_11_code (1 : Nat) (Option.some FieldType.int)) ∈ k_Tg := k_tg 801 (by decide +kernel) rfl
theorem tw_802 : (Cond.methodLink "KeyPath$PathFinder" (114 : Nat) ({ cls := "java/lang/Math", name := "max", desc := "(II)I" } : MethodName)) ∈ k_Tg := k_tg 802 (by decide +kernel) rfl
theorem tw_803 : (Cond.methodLink "KeyPath" (270 : Nat) ({ cls := "KeyPath$Detours", name := "countMoves", desc := "(LKeyPath$PathFinder;)V" } : MethodName)) ∈ k_Tg := k_tg 803 (by decide +kernel) rfl
theorem tw_804 : (Cond.instanceMethod ({ cls := "KeyPath$Detours", name := "countMoves", desc := "(LKeyPath$PathFinder;)V" } : MethodName)) ∈ k_Tg := k_tg 804 (by decide +kernel) rfl
theorem tw_805 : (Cond.selects "KeyPath$Detours" ({ cls := "KeyPath$Detours", name := "countMoves", desc := "(LKeyPath$PathFinder;)V" } : MethodName) ({ cls := "KeyPath$Detours", name := "countMoves", desc := "(LKeyPath$PathFinder;)V" } : MethodName)) ∈ k_Tg := k_tg 805 (by decide +kernel) rfl
theorem tw_806 : (Cond.code ({ cls := "KeyPath$Detours", name := "countMoves", desc := "(LKeyPath$PathFinder;)V" } : MethodName) prog_2_method_8_code (5 : Nat) (Option.none : Option FieldType)) ∈ k_Tg := k_tg 806 (by decide +kernel) rfl
theorem tw_807 : (Cond.methodLink "KeyPath$Detours" (71 : Nat) ({ cls := "KeyPath$PathFinder", name := "moves", desc := "()I" } : MethodName)) ∈ k_Tg := k_tg 807 (by decide +kernel) rfl
theorem tw_808 : (Cond.methodLink "KeyPath$Detours" (75 : Nat) ({ cls := "KeyPath$Detours", name := "goOn", desc := "(LKeyPath$PathFinder;II)V" } : MethodName)) ∈ k_Tg := k_tg 808 (by decide +kernel) rfl
theorem tw_810 : (Cond.instanceMethod ({ cls := "KeyPath$Detours", name := "goOn", desc := "(LKeyPath$PathFinder;II)V" } : MethodName)) ∈ k_Tg := k_tg 810 (by decide +kernel) rfl
theorem tw_811 : (Cond.code ({ cls := "KeyPath$Detours", name := "goOn", desc := "(LKeyPath$PathFinder;II)V" } : MethodName) prog_2_method_9_code (7 : Nat) (Option.none : Option FieldType)) ∈ k_Tg := k_tg 811 (by decide +kernel) rfl
theorem tw_812 : (Cond.methodLink "KeyPath$Detours" (79 : Nat) ({ cls := "KeyPath$Detours", name := "leastOf", desc := "([II)I" } : MethodName)) ∈ k_Tg := k_tg 812 (by decide +kernel) rfl
theorem tw_813 : (Cond.static ({ cls := "KeyPath$Detours", name := "leastOf", desc := "([II)I" } : MethodName)) ∈ k_Tg := k_tg 813 (by decide +kernel) rfl
theorem tw_814 : (Cond.code ({ cls := "KeyPath$Detours", name := "leastOf", desc := "([II)I" } : MethodName) prog_2_method_10_code (4 : Nat) (Option.some FieldType.int)) ∈ k_Tg := k_tg 814 (by decide +kernel) rfl
theorem tw_819 : (Cond.methodLink "KeyPath" (276 : Nat) ({ cls := "KeyPath$Detours", name := "leastLasting", desc := "(LKeyPath$PathFinder;I)I" } : MethodName)) ∈ k_Tg := k_tg 819 (by decide +kernel) rfl
theorem tw_820 : (Cond.instanceMethod ({ cls := "KeyPath$Detours", name := "leastLasting", desc := "(LKeyPath$PathFinder;I)I" } : MethodName)) ∈ k_Tg := k_tg 820 (by decide +kernel) rfl
theorem tw_821 : (Cond.selects "KeyPath$Detours" ({ cls := "KeyPath$Detours", name := "leastLasting", desc := "(LKeyPath$PathFinder;I)I" } : MethodName) ({ cls := "KeyPath$Detours", name := "leastLasting", desc := "(LKeyPath$PathFinder;I)I" } : MethodName)) ∈ k_Tg := k_tg 821 (by decide +kernel) rfl
theorem tw_822 : (Cond.code ({ cls := "KeyPath$Detours", name := "leastLasting", desc := "(LKeyPath$PathFinder;I)I" } : MethodName) prog_2_method_11_code (5 : Nat) (Option.some FieldType.int)) ∈ k_Tg := k_tg 822 (by decide +kernel) rfl
theorem tw_823 : (Cond.methodLink "KeyPath$Detours" (83 : Nat) ({ cls := "KeyPath$Detours", name := "settle", desc := "(LKeyPath$PathFinder;III)I" } : MethodName)) ∈ k_Tg := k_tg 823 (by decide +kernel) rfl
theorem tw_825 : (Cond.instanceMethod ({ cls := "KeyPath$Detours", name := "settle", desc := "(LKeyPath$PathFinder;III)I" } : MethodName)) ∈ k_Tg := k_tg 825 (by decide +kernel) rfl
theorem tw_826 : (Cond.code ({ cls := "KeyPath$Detours", name := "settle", desc := "(LKeyPath$PathFinder;III)I" } : MethodName) prog_2_method_12_code (10 : Nat) (Option.some FieldType.int)) ∈ k_Tg := k_tg 826 (by decide +kernel) rfl
theorem tw_831 : (Cond.methodLink "KeyPath" (279 : Nat) ({ cls := "KeyPath$PathFinder", name := "firmFactor", desc := "(LKeyPath$Net;)I" } : MethodName)) ∈ k_Tg := k_tg 831 (by decide +kernel) rfl
theorem tw_832 : (Cond.instanceMethod ({ cls := "KeyPath$PathFinder", name := "firmFactor", desc := "(LKeyPath$Net;)I" } : MethodName)) ∈ k_Tg := k_tg 832 (by decide +kernel) rfl
theorem tw_833 : (Cond.selects "KeyPath$PathFinder" ({ cls := "KeyPath$PathFinder", name := "firmFactor", desc := "(LKeyPath$Net;)I" } : MethodName) ({ cls := "KeyPath$PathFinder", name := "firmFactor", desc := "(LKeyPath$Net;)I" } : MethodName)) ∈ k_Tg := k_tg 833 (by decide +kernel) rfl
theorem tw_834 : (Cond.code ({ cls := "KeyPath$PathFinder", name := "firmFactor", desc := "(LKeyPath$Net;)I" } : MethodName) prog_6_method_12_code (2 : Nat) (Option.some FieldType.int)) ∈ k_Tg := k_tg 834 (by decide +kernel) rfl
theorem tw_835 : (Cond.methodLink "KeyPath$PathFinder" (120 : Nat) ({ cls := "KeyPath$PathFinder", name := "searchFirm", desc := "(LKeyPath$Net;)I" } : MethodName)) ∈ k_Tg := k_tg 835 (by decide +kernel) rfl
theorem tw_837 : (Cond.instanceMethod ({ cls := "KeyPath$PathFinder", name := "searchFirm", desc := "(LKeyPath$Net;)I" } : MethodName)) ∈ k_Tg := k_tg 837 (by decide +kernel) rfl
theorem tw_838 : (Cond.code ({ cls := "KeyPath$PathFinder", name := "searchFirm", desc := "(LKeyPath$Net;)I" } : MethodName) prog_6_method_13_code (6 : Nat) (Option.some FieldType.int)) ∈ k_Tg := k_tg 838 (by decide +kernel) rfl
theorem tw_839 : (Cond.methodLink "KeyPath$PathFinder" (134 : Nat) ({ cls := "KeyPath$PathFinder", name := "isFirm", desc := "(LKeyPath$Net;I)Z" } : MethodName)) ∈ k_Tg := k_tg 839 (by decide +kernel) rfl
theorem tw_841 : (Cond.instanceMethod ({ cls := "KeyPath$PathFinder", name := "isFirm", desc := "(LKeyPath$Net;I)Z" } : MethodName)) ∈ k_Tg := k_tg 841 (by decide +kernel) rfl
theorem tw_842 : (Cond.code ({ cls := "KeyPath$PathFinder", name := "isFirm", desc := "(LKeyPath$Net;I)Z" } : MethodName) prog_6_method_14_code (3 : Nat) (Option.some FieldType.boolean)) ∈ k_Tg := k_tg 842 (by decide +kernel) rfl
theorem tw_843 : (Cond.methodLink "KeyPath$PathFinder" (130 : Nat) ({ cls := "KeyPath$PathFinder", name := "solve", desc := "(LKeyPath$Net;I)V" } : MethodName)) ∈ k_Tg := k_tg 843 (by decide +kernel) rfl
theorem tw_852 : (Cond.methodLink "KeyPath" (289 : Nat) ({ cls := "KeyPath$PathFinder", name := "lastOf", desc := "(I)I" } : MethodName)) ∈ k_Tg := k_tg 852 (by decide +kernel) rfl
theorem tw_853 : (Cond.instanceMethod ({ cls := "KeyPath$PathFinder", name := "lastOf", desc := "(I)I" } : MethodName)) ∈ k_Tg := k_tg 853 (by decide +kernel) rfl
theorem tw_854 : (Cond.selects "KeyPath$PathFinder" ({ cls := "KeyPath$PathFinder", name := "lastOf", desc := "(I)I" } : MethodName) ({ cls := "KeyPath$PathFinder", name := "lastOf", desc := "(I)I" } : MethodName)) ∈ k_Tg := k_tg 854 (by decide +kernel) rfl
theorem tw_855 : (Cond.code ({ cls := "KeyPath$PathFinder", name := "lastOf", desc := "(I)I" } : MethodName) prog_6_method_10_code (2 : Nat) (Option.some FieldType.int)) ∈ k_Tg := k_tg 855 (by decide +kernel) rfl
theorem tw_860 : (Cond.methodLink "KeyPath" (292 : Nat) ({ cls := "KeyPath$Windows", name := "pivotTriad", desc := "(III)I" } : MethodName)) ∈ k_Tg := k_tg 860 (by decide +kernel) rfl
theorem tw_861 : (Cond.instanceMethod ({ cls := "KeyPath$Windows", name := "pivotTriad", desc := "(III)I" } : MethodName)) ∈ k_Tg := k_tg 861 (by decide +kernel) rfl
theorem tw_862 : (Cond.selects "KeyPath$Windows" ({ cls := "KeyPath$Windows", name := "pivotTriad", desc := "(III)I" } : MethodName) ({ cls := "KeyPath$Windows", name := "pivotTriad", desc := "(III)I" } : MethodName)) ∈ k_Tg := k_tg 862 (by decide +kernel) rfl
theorem tw_863 : (Cond.code ({ cls := "KeyPath$Windows", name := "pivotTriad", desc := "(III)I" } : MethodName) prog_9_method_10_code (8 : Nat) (Option.some FieldType.int)) ∈ k_Tg := k_tg 863 (by decide +kernel) rfl
theorem tw_865 : (Cond.static ({ cls := "KeyPath", name := "degreeOf", desc := "(II)I" } : MethodName)) ∈ k_Tg := k_tg 865 (by decide +kernel) rfl
theorem tw_866 : (Cond.code ({ cls := "KeyPath", name := "degreeOf", desc := "(II)I" } : MethodName) prog_1_method_61_code (5 : Nat) (Option.some FieldType.int)) ∈ k_Tg := k_tg 866 (by decide +kernel) rfl
theorem tw_867 : (Cond.methodLink "KeyPath" (310 : Nat) ({ cls := "KeyPath", name := "degreeOn", desc := "(II)I" } : MethodName)) ∈ k_Tg := k_tg 867 (by decide +kernel) rfl
theorem tw_868 : (Cond.static ({ cls := "KeyPath", name := "degreeOn", desc := "(II)I" } : MethodName)) ∈ k_Tg := k_tg 868 (by decide +kernel) rfl
theorem tw_869 : (Cond.code ({ cls := "KeyPath", name := "degreeOn", desc := "(II)I" } : MethodName) prog_1_method_60_code (4 : Nat) (Option.some FieldType.int)) ∈ k_Tg := k_tg 869 (by decide +kernel) rfl
theorem tw_870 : (Cond.fieldLink "KeyPath" (358 : Nat) "KeyPath" "DEGREE_STEPS" "[I") ∈ k_Tg := k_tg 870 (by decide +kernel) rfl
theorem tw_872 : (Cond.methodLink "KeyPath" (307 : Nat) ({ cls := "KeyPath", name := "modeOf", desc := "(I)I" } : MethodName)) ∈ k_Tg := k_tg 872 (by decide +kernel) rfl
theorem tw_873 : (Cond.fieldLink "KeyPath" (361 : Nat) "KeyPath" "DEGREE_KINDS" "[I") ∈ k_Tg := k_tg 873 (by decide +kernel) rfl
theorem tw_875 : (Cond.methodLink "KeyPath$Windows" (84 : Nat) ({ cls := "KeyPath$Windows", name := "sound", desc := "(II)I" } : MethodName)) ∈ k_Tg := k_tg 875 (by decide +kernel) rfl
theorem tw_876 : (Cond.instanceMethod ({ cls := "KeyPath$Windows", name := "sound", desc := "(II)I" } : MethodName)) ∈ k_Tg := k_tg 876 (by decide +kernel) rfl
theorem tw_877 : (Cond.selects "KeyPath$Windows" ({ cls := "KeyPath$Windows", name := "sound", desc := "(II)I" } : MethodName) ({ cls := "KeyPath$Windows", name := "sound", desc := "(II)I" } : MethodName)) ∈ k_Tg := k_tg 877 (by decide +kernel) rfl
theorem tw_878 : (Cond.code ({ cls := "KeyPath$Windows", name := "sound", desc := "(II)I" } : MethodName) prog_9_method_9_code (7 : Nat) (Option.some FieldType.int)) ∈ k_Tg := k_tg 878 (by decide +kernel) rfl
theorem tw_879 : Cond.constant "KeyPath$Windows" 80 (c32 1000000000) ∈ k_Tg := k_tg 879 (by decide +kernel) rfl
theorem tw_880 : (Cond.methodLink "KeyPath" (295 : Nat) ({ cls := "KeyPath", name := "degreeOf", desc := "(II)I" } : MethodName)) ∈ k_Tg := k_tg 880 (by decide +kernel) rfl
theorem tw_881 : (Cond.methodLink "KeyPath" (298 : Nat) ({ cls := "KeyPath$Windows", name := "sound", desc := "(II)I" } : MethodName)) ∈ k_Tg := k_tg 881 (by decide +kernel) rfl
theorem tw_886 : (Cond.methodLink "KeyPath" (301 : Nat) ({ cls := "KeyPath", name := "romanOf", desc := "(I)I" } : MethodName)) ∈ k_Tg := k_tg 886 (by decide +kernel) rfl
theorem tw_888 : (Cond.instanceMethod ({ cls := "KeyPath", name := "romanOf", desc := "(I)I" } : MethodName)) ∈ k_Tg := k_tg 888 (by decide +kernel) rfl
theorem tw_889 : (Cond.code ({ cls := "KeyPath", name := "romanOf", desc := "(I)I" } : MethodName) prog_1_method_51_code (3 : Nat) (Option.some FieldType.int)) ∈ k_Tg := k_tg 889 (by decide +kernel) rfl
theorem tw_902 : (Cond.methodLink "KeyPath" (304 : Nat) ({ cls := "KeyPath$Windows", name := "otherChordAhead", desc := "(II)I" } : MethodName)) ∈ k_Tg := k_tg 902 (by decide +kernel) rfl
theorem tw_903 : (Cond.instanceMethod ({ cls := "KeyPath$Windows", name := "otherChordAhead", desc := "(II)I" } : MethodName)) ∈ k_Tg := k_tg 903 (by decide +kernel) rfl
theorem tw_904 : (Cond.selects "KeyPath$Windows" ({ cls := "KeyPath$Windows", name := "otherChordAhead", desc := "(II)I" } : MethodName) ({ cls := "KeyPath$Windows", name := "otherChordAhead", desc := "(II)I" } : MethodName)) ∈ k_Tg := k_tg 904 (by decide +kernel) rfl
theorem tw_905 : (Cond.code ({ cls := "KeyPath$Windows", name := "otherChordAhead", desc := "(II)I" } : MethodName) prog_9_method_8_code (4 : Nat) (Option.some FieldType.int)) ∈ k_Tg := k_tg 905 (by decide +kernel) rfl
theorem tw_918 : (Cond.methodLink "KeyPath" (313 : Nat) ({ cls := "KeyPath$Windows", name := "lastSounding", desc := "()I" } : MethodName)) ∈ k_Tg := k_tg 918 (by decide +kernel) rfl
theorem tw_919 : (Cond.instanceMethod ({ cls := "KeyPath$Windows", name := "lastSounding", desc := "()I" } : MethodName)) ∈ k_Tg := k_tg 919 (by decide +kernel) rfl
theorem tw_920 : (Cond.selects "KeyPath$Windows" ({ cls := "KeyPath$Windows", name := "lastSounding", desc := "()I" } : MethodName) ({ cls := "KeyPath$Windows", name := "lastSounding", desc := "()I" } : MethodName)) ∈ k_Tg := k_tg 920 (by decide +kernel) rfl
theorem tw_921 : (Cond.code ({ cls := "KeyPath$Windows", name := "lastSounding", desc := "()I" } : MethodName) prog_9_method_7_code (2 : Nat) (Option.some FieldType.int)) ∈ k_Tg := k_tg 921 (by decide +kernel) rfl
theorem tw_977 : (Cond.methodLink "KeyPath" (326 : Nat) ({ cls := "KeyPath$Windows", name := "silentOnes", desc := "()I" } : MethodName)) ∈ k_Tg := k_tg 977 (by decide +kernel) rfl
theorem tw_978 : (Cond.instanceMethod ({ cls := "KeyPath$Windows", name := "silentOnes", desc := "()I" } : MethodName)) ∈ k_Tg := k_tg 978 (by decide +kernel) rfl
theorem tw_979 : (Cond.selects "KeyPath$Windows" ({ cls := "KeyPath$Windows", name := "silentOnes", desc := "()I" } : MethodName) ({ cls := "KeyPath$Windows", name := "silentOnes", desc := "()I" } : MethodName)) ∈ k_Tg := k_tg 979 (by decide +kernel) rfl
theorem tw_980 : (Cond.code ({ cls := "KeyPath$Windows", name := "silentOnes", desc := "()I" } : MethodName) prog_9_method_6_code (3 : Nat) (Option.some FieldType.int)) ∈ k_Tg := k_tg 980 (by decide +kernel) rfl
theorem tw_987 : (Cond.fieldLink "KeyPathModel" (1 : Nat) "KeyPathModel" "thrown" "I") ∈ k_Tg := k_tg 987 (by decide +kernel) rfl
theorem tw_988 : (Cond.fieldLink "KeyPathModel" (13 : Nat) "KeyPathModel" "tick" "[I") ∈ k_Tg := k_tg 988 (by decide +kernel) rfl
theorem tw_989 : (Cond.fieldLink "KeyPathModel" (17 : Nat) "KeyPathModel" "length" "[I") ∈ k_Tg := k_tg 989 (by decide +kernel) rfl
theorem tw_990 : (Cond.fieldLink "KeyPathModel" (20 : Nat) "KeyPathModel" "pitch" "[I") ∈ k_Tg := k_tg 990 (by decide +kernel) rfl
theorem tw_991 : (Cond.fieldLink "KeyPathModel" (23 : Nat) "KeyPathModel" "readTick" "[I") ∈ k_Tg := k_tg 991 (by decide +kernel) rfl
theorem tw_992 : (Cond.fieldLink "KeyPathModel" (26 : Nat) "KeyPathModel" "readLength" "[I") ∈ k_Tg := k_tg 992 (by decide +kernel) rfl
theorem tw_993 : (Cond.fieldLink "KeyPathModel" (29 : Nat) "KeyPathModel" "readPitch" "[I") ∈ k_Tg := k_tg 993 (by decide +kernel) rfl
theorem tw_994 : (Cond.fieldLink "KeyPathModel" (169 : Nat) "KeyPathModel" "notes" "I") ∈ k_Tg := k_tg 994 (by decide +kernel) rfl
theorem tw_995 : (Cond.fieldLink "KeyPathModel" (151 : Nat) "KeyPathModel" "readNotes" "I") ∈ k_Tg := k_tg 995 (by decide +kernel) rfl
theorem tw_996 : (Cond.fieldLink "KeyPathModel" (32 : Nat) "KeyPathModel" "acts" "[I") ∈ k_Tg := k_tg 996 (by decide +kernel) rfl
theorem tw_997 : (Cond.fieldLink "KeyPathModel" (176 : Nat) "KeyPathModel" "actMany" "I") ∈ k_Tg := k_tg 997 (by decide +kernel) rfl
theorem tw_998 : (Cond.fieldLink "KeyPathModel" (35 : Nat) "KeyPathModel" "wide" "I") ∈ k_Tg := k_tg 998 (by decide +kernel) rfl
theorem tw_999 : (Cond.fieldLink "KeyPathModel" (38 : Nat) "KeyPathModel" "hop" "I") ∈ k_Tg := k_tg 999 (by decide +kernel) rfl
theorem tw_1000 : (Cond.fieldLink "KeyPathModel" (41 : Nat) "KeyPathModel" "fifth" "I") ∈ k_Tg := k_tg 1000 (by decide +kernel) rfl
theorem tw_1001 : (Cond.fieldLink "KeyPathModel" (44 : Nat) "KeyPathModel" "relative" "I") ∈ k_Tg := k_tg 1001 (by decide +kernel) rfl
theorem tw_1002 : (Cond.fieldLink "KeyPathModel" (47 : Nat) "KeyPathModel" "parallel" "I") ∈ k_Tg := k_tg 1002 (by decide +kernel) rfl
theorem tw_1003 : (Cond.fieldLink "KeyPathModel" (50 : Nat) "KeyPathModel" "factor" "I") ∈ k_Tg := k_tg 1003 (by decide +kernel) rfl
theorem tw_1004 : (Cond.fieldLink "KeyPathModel" (53 : Nat) "KeyPathModel" "weights" "[I") ∈ k_Tg := k_tg 1004 (by decide +kernel) rfl
theorem tw_1005 : (Cond.fieldLink "KeyPathModel" (56 : Nat) "KeyPathModel" "pins" "[I") ∈ k_Tg := k_tg 1005 (by decide +kernel) rfl
theorem tw_1006 : (Cond.fieldLink "KeyPathModel" (59 : Nat) "KeyPathModel" "tape" "[B") ∈ k_Tg := k_tg 1006 (by decide +kernel) rfl
theorem tw_1007 : (Cond.fieldLink "KeyPathModel" (106 : Nat) "KeyPathModel" "taped" "I") ∈ k_Tg := k_tg 1007 (by decide +kernel) rfl
theorem tw_1008 : (Cond.fieldLink "KeyPathModel" (112 : Nat) "KeyPathModel" "size" "I") ∈ k_Tg := k_tg 1008 (by decide +kernel) rfl
theorem tw_1009 : (Cond.fieldLink "KeyPathModel" (109 : Nat) "KeyPathModel" "spot" "I") ∈ k_Tg := k_tg 1009 (by decide +kernel) rfl
theorem tw_1010 : (Cond.fieldLink "KeyPathModel" (115 : Nat) "KeyPathModel" "wrong" "I") ∈ k_Tg := k_tg 1010 (by decide +kernel) rfl
theorem tw_1011 : (Cond.fieldLink "KeyPathModel" (63 : Nat) "KeyPathModel" "wrongAt" "I") ∈ k_Tg := k_tg 1011 (by decide +kernel) rfl
theorem tw_1012 : (Cond.fieldLink "KeyPathModel" (140 : Nat) "KeyPathModel" "now" "I") ∈ k_Tg := k_tg 1012 (by decide +kernel) rfl
theorem tw_1013 : (Cond.fieldLink "KeyPathModel" (66 : Nat) "KeyPathModel" "counts" "[I") ∈ k_Tg := k_tg 1013 (by decide +kernel) rfl
theorem tw_1014 : (Cond.fieldLink "KeyPathModel" (223 : Nat) "KeyPathModel" "sum" "I") ∈ k_Tg := k_tg 1014 (by decide +kernel) rfl
theorem tw_1015 : (Cond.fieldLink "KeyPathModel" (69 : Nat) "KeyPathModel" "far" "[I") ∈ k_Tg := k_tg 1015 (by decide +kernel) rfl
theorem tw_1016 : (Cond.fieldLink "KeyPathModel" (72 : Nat) "KeyPathModel" "ways" "[I") ∈ k_Tg := k_tg 1016 (by decide +kernel) rfl
theorem tw_1017 : (Cond.fieldLink "KeyPathModel" (75 : Nat) "KeyPathModel" "net" "[I") ∈ k_Tg := k_tg 1017 (by decide +kernel) rfl
theorem tw_1018 : (Cond.fieldLink "KeyPathModel" (78 : Nat) "KeyPathModel" "own" "[I") ∈ k_Tg := k_tg 1018 (by decide +kernel) rfl
theorem tw_1019 : (Cond.fieldLink "KeyPathModel" (81 : Nat) "KeyPathModel" "ahead" "[I") ∈ k_Tg := k_tg 1019 (by decide +kernel) rfl
theorem tw_1020 : (Cond.fieldLink "KeyPathModel" (84 : Nat) "KeyPathModel" "behind" "[I") ∈ k_Tg := k_tg 1020 (by decide +kernel) rfl
theorem tw_1021 : (Cond.fieldLink "KeyPathModel" (87 : Nat) "KeyPathModel" "tied" "[I") ∈ k_Tg := k_tg 1021 (by decide +kernel) rfl
theorem tw_1022 : (Cond.fieldLink "KeyPathModel" (90 : Nat) "KeyPathModel" "path" "[I") ∈ k_Tg := k_tg 1022 (by decide +kernel) rfl
theorem tw_1023 : (Cond.fieldLink "KeyPathModel" (93 : Nat) "KeyPathModel" "isSilent" "[Z") ∈ k_Tg := k_tg 1023 (by decide +kernel) rfl
theorem tw_1024 : (Cond.fieldLink "KeyPathModel" (267 : Nat) "KeyPathModel" "windows0" "I") ∈ k_Tg := k_tg 1024 (by decide +kernel) rfl
theorem tw_1025 : (Cond.fieldLink "KeyPathModel" (278 : Nat) "KeyPathModel" "least" "I") ∈ k_Tg := k_tg 1025 (by decide +kernel) rfl
theorem tw_1026 : (Cond.fieldLink "KeyPathModel" (97 : Nat) "KeyPathModel" "bySteps" "[I") ∈ k_Tg := k_tg 1026 (by decide +kernel) rfl
theorem tw_1027 : (Cond.fieldLink "KeyPathModel" (100 : Nat) "KeyPathModel" "stepped" "[I") ∈ k_Tg := k_tg 1027 (by decide +kernel) rfl
theorem tw_1028 : (Cond.fieldLink "KeyPathModel" (103 : Nat) "KeyPathModel" "both" "[I") ∈ k_Tg := k_tg 1028 (by decide +kernel) rfl
theorem tw_1122 : (Cond.methodLink "KeyPathModel" (134 : Nat) ({ cls := "KeyPathModel", name := "isIn", desc := "(JJJ)Z" } : MethodName)) ∈ k_Tg := k_tg 1122 (by decide +kernel) rfl
theorem tw_1123 : (Cond.static ({ cls := "KeyPathModel", name := "isIn", desc := "(JJJ)Z" } : MethodName)) ∈ k_Tg := k_tg 1123 (by decide +kernel) rfl
theorem tw_1124 : (Cond.code ({ cls := "KeyPathModel", name := "isIn", desc := "(JJJ)Z" } : MethodName) prog_11_method_2_code (6 : Nat) (Option.some FieldType.boolean)) ∈ k_Tg := k_tg 1124 (by decide +kernel) rfl
theorem tw_1125 : (Cond.methodLink "KeyPathModel" (118 : Nat) ({ cls := "KeyPathModel", name := "peek", desc := "()I" } : MethodName)) ∈ k_Tg := k_tg 1125 (by decide +kernel) rfl
theorem tw_1127 : (Cond.instanceMethod ({ cls := "KeyPathModel", name := "peek", desc := "()I" } : MethodName)) ∈ k_Tg := k_tg 1127 (by decide +kernel) rfl
theorem tw_1128 : (Cond.code ({ cls := "KeyPathModel", name := "peek", desc := "()I" } : MethodName) prog_11_method_5_code (1 : Nat) (Option.some FieldType.int)) ∈ k_Tg := k_tg 1128 (by decide +kernel) rfl
theorem tw_1129 : (Cond.methodLink "KeyPathModel" (166 : Nat) ({ cls := "KeyPathModel", name := "readOne", desc := "()V" } : MethodName)) ∈ k_Tg := k_tg 1129 (by decide +kernel) rfl
theorem tw_1131 : (Cond.instanceMethod ({ cls := "KeyPathModel", name := "readOne", desc := "()V" } : MethodName)) ∈ k_Tg := k_tg 1131 (by decide +kernel) rfl
theorem tw_1132 : (Cond.code ({ cls := "KeyPathModel", name := "readOne", desc := "()V" } : MethodName) prog_11_method_12_code (5 : Nat) (Option.none : Option FieldType)) ∈ k_Tg := k_tg 1132 (by decide +kernel) rfl
theorem tw_1133 : (Cond.methodLink "KeyPathModel" (160 : Nat) ({ cls := "KeyPathModel", name := "nameRead", desc := "(I)V" } : MethodName)) ∈ k_Tg := k_tg 1133 (by decide +kernel) rfl
theorem tw_1135 : (Cond.instanceMethod ({ cls := "KeyPathModel", name := "nameRead", desc := "(I)V" } : MethodName)) ∈ k_Tg := k_tg 1135 (by decide +kernel) rfl
theorem tw_1136 : (Cond.code ({ cls := "KeyPathModel", name := "nameRead", desc := "(I)V" } : MethodName) prog_11_method_11_code (6 : Nat) (Option.none : Option FieldType)) ∈ k_Tg := k_tg 1136 (by decide +kernel) rfl
theorem tw_1137 : (Cond.methodLink "KeyPathModel" (147 : Nat) ({ cls := "KeyPathModel", name := "isLetter", desc := "()Z" } : MethodName)) ∈ k_Tg := k_tg 1137 (by decide +kernel) rfl
theorem tw_1139 : (Cond.instanceMethod ({ cls := "KeyPathModel", name := "isLetter", desc := "()Z" } : MethodName)) ∈ k_Tg := k_tg 1139 (by decide +kernel) rfl
theorem tw_1140 : (Cond.code ({ cls := "KeyPathModel", name := "isLetter", desc := "()Z" } : MethodName) prog_11_method_10_code (1 : Nat) (Option.some FieldType.boolean)) ∈ k_Tg := k_tg 1140 (by decide +kernel) rfl
theorem tw_1141 : Cond.constantLong "KeyPathModel" 143 (c64 97) ∈ k_Tg := k_tg 1141 (by decide +kernel) rfl
theorem tw_1142 : Cond.constantLong "KeyPathModel" 145 (c64 103) ∈ k_Tg := k_tg 1142 (by decide +kernel) rfl
theorem tw_1143 : (Cond.methodLink "KeyPathModel" (122 : Nat) ({ cls := "KeyPathModel", name := "fails", desc := "(II)V" } : MethodName)) ∈ k_Tg := k_tg 1143 (by decide +kernel) rfl
theorem tw_1145 : (Cond.instanceMethod ({ cls := "KeyPathModel", name := "fails", desc := "(II)V" } : MethodName)) ∈ k_Tg := k_tg 1145 (by decide +kernel) rfl
theorem tw_1146 : (Cond.code ({ cls := "KeyPathModel", name := "fails", desc := "(II)V" } : MethodName) prog_11_method_6_code (3 : Nat) (Option.none : Option FieldType)) ∈ k_Tg := k_tg 1146 (by decide +kernel) rfl
theorem tw_1147 : (Cond.methodLink "KeyPathModel" (154 : Nat) ({ cls := "KeyPathModel", name := "stepOf", desc := "(I)I" } : MethodName)) ∈ k_Tg := k_tg 1147 (by decide +kernel) rfl
theorem tw_1148 : (Cond.static ({ cls := "KeyPathModel", name := "stepOf", desc := "(I)I" } : MethodName)) ∈ k_Tg := k_tg 1148 (by decide +kernel) rfl
theorem tw_1149 : (Cond.code ({ cls := "KeyPathModel", name := "stepOf", desc := "(I)I" } : MethodName) prog_11_method_9_code (1 : Nat) (Option.some FieldType.int)) ∈ k_Tg := k_tg 1149 (by decide +kernel) rfl
theorem tw_1150 : Cond.constantLong "KeyPathModel" 130 (c64 48) ∈ k_Tg := k_tg 1150 (by decide +kernel) rfl
theorem tw_1151 : Cond.constantLong "KeyPathModel" 132 (c64 57) ∈ k_Tg := k_tg 1151 (by decide +kernel) rfl
theorem tw_1152 : Cond.constantLong "KeyPathModel" 158 (c64 127) ∈ k_Tg := k_tg 1152 (by decide +kernel) rfl
theorem tw_1153 : (Cond.methodLink "KeyPathModel" (126 : Nat) ({ cls := "KeyPathModel", name := "must", desc := "(I)V" } : MethodName)) ∈ k_Tg := k_tg 1153 (by decide +kernel) rfl
theorem tw_1155 : (Cond.instanceMethod ({ cls := "KeyPathModel", name := "must", desc := "(I)V" } : MethodName)) ∈ k_Tg := k_tg 1155 (by decide +kernel) rfl
theorem tw_1156 : (Cond.code ({ cls := "KeyPathModel", name := "must", desc := "(I)V" } : MethodName) prog_11_method_7_code (2 : Nat) (Option.none : Option FieldType)) ∈ k_Tg := k_tg 1156 (by decide +kernel) rfl
theorem tw_1157 : (Cond.methodLink "KeyPathModel" (163 : Nat) ({ cls := "KeyPathModel", name := "lengthRead", desc := "()I" } : MethodName)) ∈ k_Tg := k_tg 1157 (by decide +kernel) rfl
theorem tw_1159 : (Cond.instanceMethod ({ cls := "KeyPathModel", name := "lengthRead", desc := "()I" } : MethodName)) ∈ k_Tg := k_tg 1159 (by decide +kernel) rfl
theorem tw_1160 : (Cond.code ({ cls := "KeyPathModel", name := "lengthRead", desc := "()I" } : MethodName) prog_11_method_8_code (4 : Nat) (Option.some FieldType.int)) ∈ k_Tg := k_tg 1160 (by decide +kernel) rfl
theorem tw_1161 : Cond.constantLong "KeyPathModel" 138 (c64 64) ∈ k_Tg := k_tg 1161 (by decide +kernel) rfl
theorem tw_1162 : (Cond.methodLink "KeyPathModel" (172 : Nat) ({ cls := "KeyPathModel", name := "comes", desc := "(III)I" } : MethodName)) ∈ k_Tg := k_tg 1162 (by decide +kernel) rfl
theorem tw_1164 : (Cond.instanceMethod ({ cls := "KeyPathModel", name := "comes", desc := "(III)I" } : MethodName)) ∈ k_Tg := k_tg 1164 (by decide +kernel) rfl
theorem tw_1165 : (Cond.code ({ cls := "KeyPathModel", name := "comes", desc := "(III)I" } : MethodName) prog_11_method_15_code (5 : Nat) (Option.some FieldType.int)) ∈ k_Tg := k_tg 1165 (by decide +kernel) rfl
theorem tw_1174 : Cond.constantLong "KeyPathModel" 179 (c64 511) ∈ k_Tg := k_tg 1174 (by decide +kernel) rfl
theorem tw_1175 : (Cond.methodLink "KeyPathModel" (181 : Nat) ({ cls := "KeyPathModel", name := "notesAct", desc := "()V" } : MethodName)) ∈ k_Tg := k_tg 1175 (by decide +kernel) rfl
theorem tw_1177 : (Cond.instanceMethod ({ cls := "KeyPathModel", name := "notesAct", desc := "()V" } : MethodName)) ∈ k_Tg := k_tg 1177 (by decide +kernel) rfl
theorem tw_1178 : (Cond.code ({ cls := "KeyPathModel", name := "notesAct", desc := "()V" } : MethodName) prog_11_method_16_code (3 : Nat) (Option.none : Option FieldType)) ∈ k_Tg := k_tg 1178 (by decide +kernel) rfl
theorem tw_1183 : (Cond.methodLink "KeyPathModel" (184 : Nat) ({ cls := "KeyPathModel", name := "isNote", desc := "(I)Z" } : MethodName)) ∈ k_Tg := k_tg 1183 (by decide +kernel) rfl
theorem tw_1185 : (Cond.instanceMethod ({ cls := "KeyPathModel", name := "isNote", desc := "(I)Z" } : MethodName)) ∈ k_Tg := k_tg 1185 (by decide +kernel) rfl
theorem tw_1186 : (Cond.code ({ cls := "KeyPathModel", name := "isNote", desc := "(I)Z" } : MethodName) prog_11_method_18_code (2 : Nat) (Option.some FieldType.boolean)) ∈ k_Tg := k_tg 1186 (by decide +kernel) rfl
theorem tw_1191 : Cond.constantLong "KeyPathModel" 188 (c64 (-127)) ∈ k_Tg := k_tg 1191 (by decide +kernel) rfl
theorem tw_1200 : Cond.constantLong "KeyPathModel" 190 (c64 3) ∈ k_Tg := k_tg 1200 (by decide +kernel) rfl
theorem tw_1205 : Cond.constantLong "KeyPathModel" 198 (c64 4) ∈ k_Tg := k_tg 1205 (by decide +kernel) rfl
theorem tw_1206 : Cond.constantLong "KeyPathModel" 200 (c64 128) ∈ k_Tg := k_tg 1206 (by decide +kernel) rfl
theorem tw_1207 : (Cond.methodLink "KeyPathModel" (195 : Nat) ({ cls := "KeyPathModel", name := "windowsBy", desc := "(I)I" } : MethodName)) ∈ k_Tg := k_tg 1207 (by decide +kernel) rfl
theorem tw_1209 : (Cond.instanceMethod ({ cls := "KeyPathModel", name := "windowsBy", desc := "(I)I" } : MethodName)) ∈ k_Tg := k_tg 1209 (by decide +kernel) rfl
theorem tw_1210 : (Cond.code ({ cls := "KeyPathModel", name := "windowsBy", desc := "(I)I" } : MethodName) prog_11_method_24_code (2 : Nat) (Option.some FieldType.int)) ∈ k_Tg := k_tg 1210 (by decide +kernel) rfl
theorem tw_1211 : (Cond.methodLink "KeyPathModel" (192 : Nat) ({ cls := "KeyPathModel", name := "theEnd", desc := "()I" } : MethodName)) ∈ k_Tg := k_tg 1211 (by decide +kernel) rfl
theorem tw_1213 : (Cond.instanceMethod ({ cls := "KeyPathModel", name := "theEnd", desc := "()I" } : MethodName)) ∈ k_Tg := k_tg 1213 (by decide +kernel) rfl
theorem tw_1214 : (Cond.code ({ cls := "KeyPathModel", name := "theEnd", desc := "()I" } : MethodName) prog_11_method_23_code (3 : Nat) (Option.some FieldType.int)) ∈ k_Tg := k_tg 1214 (by decide +kernel) rfl
theorem tw_1215 : (Cond.methodLink "KeyPathModel" (202 : Nat) ({ cls := "KeyPathModel", name := "windowMany", desc := "()I" } : MethodName)) ∈ k_Tg := k_tg 1215 (by decide +kernel) rfl
theorem tw_1217 : (Cond.instanceMethod ({ cls := "KeyPathModel", name := "windowMany", desc := "()I" } : MethodName)) ∈ k_Tg := k_tg 1217 (by decide +kernel) rfl
theorem tw_1218 : (Cond.code ({ cls := "KeyPathModel", name := "windowMany", desc := "()I" } : MethodName) prog_11_method_25_code (2 : Nat) (Option.some FieldType.int)) ∈ k_Tg := k_tg 1218 (by decide +kernel) rfl
theorem tw_1223 : (Cond.methodLink "KeyPathModel" (205 : Nat) ({ cls := "KeyPathModel", name := "isMode", desc := "(I)Z" } : MethodName)) ∈ k_Tg := k_tg 1223 (by decide +kernel) rfl
theorem tw_1224 : (Cond.static ({ cls := "KeyPathModel", name := "isMode", desc := "(I)Z" } : MethodName)) ∈ k_Tg := k_tg 1224 (by decide +kernel) rfl
theorem tw_1225 : (Cond.code ({ cls := "KeyPathModel", name := "isMode", desc := "(I)Z" } : MethodName) prog_11_method_27_code (1 : Nat) (Option.some FieldType.boolean)) ∈ k_Tg := k_tg 1225 (by decide +kernel) rfl
theorem tw_1226 : Cond.constantLong "KeyPathModel" 208 (c64 11) ∈ k_Tg := k_tg 1226 (by decide +kernel) rfl
theorem tw_1227 : Cond.constantLong "KeyPathModel" 210 (c64 99) ∈ k_Tg := k_tg 1227 (by decide +kernel) rfl
theorem tw_1232 : Cond.constantLong "KeyPathModel" 212 (c64 999) ∈ k_Tg := k_tg 1232 (by decide +kernel) rfl
theorem tw_1233 : Cond.constantLong "KeyPathModel" 214 (c64 100) ∈ k_Tg := k_tg 1233 (by decide +kernel) rfl
theorem tw_1238 : Cond.constantLong "KeyPathModel" 218 (c64 47) ∈ k_Tg := k_tg 1238 (by decide +kernel) rfl
theorem tw_1239 : (Cond.methodLink "KeyPathModel" (220 : Nat) ({ cls := "KeyPathModel", name := "isKey", desc := "(I)Z" } : MethodName)) ∈ k_Tg := k_tg 1239 (by decide +kernel) rfl
theorem tw_1240 : (Cond.static ({ cls := "KeyPathModel", name := "isKey", desc := "(I)Z" } : MethodName)) ∈ k_Tg := k_tg 1240 (by decide +kernel) rfl
theorem tw_1241 : (Cond.code ({ cls := "KeyPathModel", name := "isKey", desc := "(I)Z" } : MethodName) prog_11_method_30_code (1 : Nat) (Option.some FieldType.boolean)) ∈ k_Tg := k_tg 1241 (by decide +kernel) rfl
theorem tw_1242 : Cond.constantLong "KeyPathModel" 216 (c64 23) ∈ k_Tg := k_tg 1242 (by decide +kernel) rfl
theorem tw_1247 : (Cond.methodLink "KeyPathModel" (229 : Nat) ({ cls := "KeyPathModel", name := "isWindow", desc := "(I)Z" } : MethodName)) ∈ k_Tg := k_tg 1247 (by decide +kernel) rfl
theorem tw_1249 : (Cond.instanceMethod ({ cls := "KeyPathModel", name := "isWindow", desc := "(I)Z" } : MethodName)) ∈ k_Tg := k_tg 1249 (by decide +kernel) rfl
theorem tw_1250 : (Cond.code ({ cls := "KeyPathModel", name := "isWindow", desc := "(I)Z" } : MethodName) prog_11_method_34_code (2 : Nat) (Option.some FieldType.boolean)) ∈ k_Tg := k_tg 1250 (by decide +kernel) rfl
theorem tw_1251 : (Cond.methodLink "KeyPathModel" (232 : Nat) ({ cls := "KeyPathModel", name := "countedIn", desc := "(I)V" } : MethodName)) ∈ k_Tg := k_tg 1251 (by decide +kernel) rfl
theorem tw_1253 : (Cond.instanceMethod ({ cls := "KeyPathModel", name := "countedIn", desc := "(I)V" } : MethodName)) ∈ k_Tg := k_tg 1253 (by decide +kernel) rfl
theorem tw_1254 : (Cond.code ({ cls := "KeyPathModel", name := "countedIn", desc := "(I)V" } : MethodName) prog_11_method_33_code (2 : Nat) (Option.none : Option FieldType)) ∈ k_Tg := k_tg 1254 (by decide +kernel) rfl
theorem tw_1255 : (Cond.methodLink "KeyPathModel" (226 : Nat) ({ cls := "KeyPathModel", name := "counted", desc := "(II)V" } : MethodName)) ∈ k_Tg := k_tg 1255 (by decide +kernel) rfl
theorem tw_1257 : (Cond.instanceMethod ({ cls := "KeyPathModel", name := "counted", desc := "(II)V" } : MethodName)) ∈ k_Tg := k_tg 1257 (by decide +kernel) rfl
theorem tw_1258 : (Cond.code ({ cls := "KeyPathModel", name := "counted", desc := "(II)V" } : MethodName) prog_11_method_32_code (6 : Nat) (Option.none : Option FieldType)) ∈ k_Tg := k_tg 1258 (by decide +kernel) rfl
theorem tw_1263 : (Cond.methodLink "KeyPathModel" (239 : Nat) ({ cls := "KeyPathModel", name := "matched", desc := "(I)I" } : MethodName)) ∈ k_Tg := k_tg 1263 (by decide +kernel) rfl
theorem tw_1265 : (Cond.instanceMethod ({ cls := "KeyPathModel", name := "matched", desc := "(I)I" } : MethodName)) ∈ k_Tg := k_tg 1265 (by decide +kernel) rfl
theorem tw_1266 : (Cond.code ({ cls := "KeyPathModel", name := "matched", desc := "(I)I" } : MethodName) prog_11_method_36_code (4 : Nat) (Option.some FieldType.int)) ∈ k_Tg := k_tg 1266 (by decide +kernel) rfl
theorem tw_1267 : (Cond.methodLink "KeyPathModel" (235 : Nat) ({ cls := "KeyPathModel", name := "common", desc := "(II)I" } : MethodName)) ∈ k_Tg := k_tg 1267 (by decide +kernel) rfl
theorem tw_1268 : (Cond.static ({ cls := "KeyPathModel", name := "common", desc := "(II)I" } : MethodName)) ∈ k_Tg := k_tg 1268 (by decide +kernel) rfl
theorem tw_1269 : (Cond.code ({ cls := "KeyPathModel", name := "common", desc := "(II)I" } : MethodName) prog_11_method_37_code (2 : Nat) (Option.some FieldType.int)) ∈ k_Tg := k_tg 1269 (by decide +kernel) rfl
theorem tw_1274 : (Cond.methodLink "KeyPathModel" (242 : Nat) ({ cls := "KeyPathModel", name := "fitted", desc := "(I)I" } : MethodName)) ∈ k_Tg := k_tg 1274 (by decide +kernel) rfl
theorem tw_1276 : (Cond.instanceMethod ({ cls := "KeyPathModel", name := "fitted", desc := "(I)I" } : MethodName)) ∈ k_Tg := k_tg 1276 (by decide +kernel) rfl
theorem tw_1277 : (Cond.code ({ cls := "KeyPathModel", name := "fitted", desc := "(I)I" } : MethodName) prog_11_method_39_code (2 : Nat) (Option.some FieldType.int)) ∈ k_Tg := k_tg 1277 (by decide +kernel) rfl
theorem tw_1282 : (Cond.methodLink "KeyPathModel" (245 : Nat) ({ cls := "KeyPathModel", name := "rankedNow", desc := "(I)I" } : MethodName)) ∈ k_Tg := k_tg 1282 (by decide +kernel) rfl
theorem tw_1284 : (Cond.instanceMethod ({ cls := "KeyPathModel", name := "rankedNow", desc := "(I)I" } : MethodName)) ∈ k_Tg := k_tg 1284 (by decide +kernel) rfl
theorem tw_1285 : (Cond.code ({ cls := "KeyPathModel", name := "rankedNow", desc := "(I)I" } : MethodName) prog_11_method_41_code (5 : Nat) (Option.some FieldType.int)) ∈ k_Tg := k_tg 1285 (by decide +kernel) rfl
theorem tw_1294 : (Cond.methodLink "KeyPathModel" (251 : Nat) ({ cls := "KeyPathModel", name := "chordNow", desc := "()I" } : MethodName)) ∈ k_Tg := k_tg 1294 (by decide +kernel) rfl
theorem tw_1296 : (Cond.instanceMethod ({ cls := "KeyPathModel", name := "chordNow", desc := "()I" } : MethodName)) ∈ k_Tg := k_tg 1296 (by decide +kernel) rfl
theorem tw_1297 : (Cond.code ({ cls := "KeyPathModel", name := "chordNow", desc := "()I" } : MethodName) prog_11_method_45_code (5 : Nat) (Option.some FieldType.int)) ∈ k_Tg := k_tg 1297 (by decide +kernel) rfl
theorem tw_1298 : (Cond.methodLink "KeyPathModel" (248 : Nat) ({ cls := "KeyPathModel", name := "toneOf", desc := "(II)I" } : MethodName)) ∈ k_Tg := k_tg 1298 (by decide +kernel) rfl
theorem tw_1299 : (Cond.static ({ cls := "KeyPathModel", name := "toneOf", desc := "(II)I" } : MethodName)) ∈ k_Tg := k_tg 1299 (by decide +kernel) rfl
theorem tw_1300 : (Cond.code ({ cls := "KeyPathModel", name := "toneOf", desc := "(II)I" } : MethodName) prog_11_method_44_code (4 : Nat) (Option.some FieldType.int)) ∈ k_Tg := k_tg 1300 (by decide +kernel) rfl
theorem tw_1305 : (Cond.methodLink "KeyPathModel" (261 : Nat) ({ cls := "KeyPathModel", name := "laysFar", desc := "(I)V" } : MethodName)) ∈ k_Tg := k_tg 1305 (by decide +kernel) rfl
theorem tw_1307 : (Cond.instanceMethod ({ cls := "KeyPathModel", name := "laysFar", desc := "(I)V" } : MethodName)) ∈ k_Tg := k_tg 1307 (by decide +kernel) rfl
theorem tw_1308 : (Cond.code ({ cls := "KeyPathModel", name := "laysFar", desc := "(I)V" } : MethodName) prog_11_method_49_code (7 : Nat) (Option.none : Option FieldType)) ∈ k_Tg := k_tg 1308 (by decide +kernel) rfl
theorem tw_1309 : Cond.constant "KeyPathModel" 254 (c32 1000000000) ∈ k_Tg := k_tg 1309 (by decide +kernel) rfl
theorem tw_1310 : (Cond.methodLink "KeyPathModel" (255 : Nat) ({ cls := "KeyPathModel", name := "next", desc := "(II)I" } : MethodName)) ∈ k_Tg := k_tg 1310 (by decide +kernel) rfl
theorem tw_1311 : (Cond.static ({ cls := "KeyPathModel", name := "next", desc := "(II)I" } : MethodName)) ∈ k_Tg := k_tg 1311 (by decide +kernel) rfl
theorem tw_1312 : (Cond.code ({ cls := "KeyPathModel", name := "next", desc := "(II)I" } : MethodName) prog_11_method_47_code (4 : Nat) (Option.some FieldType.int)) ∈ k_Tg := k_tg 1312 (by decide +kernel) rfl
theorem tw_1313 : (Cond.methodLink "KeyPathModel" (258 : Nat) ({ cls := "KeyPathModel", name := "costs", desc := "(I)I" } : MethodName)) ∈ k_Tg := k_tg 1313 (by decide +kernel) rfl
theorem tw_1315 : (Cond.instanceMethod ({ cls := "KeyPathModel", name := "costs", desc := "(I)I" } : MethodName)) ∈ k_Tg := k_tg 1315 (by decide +kernel) rfl
theorem tw_1316 : (Cond.code ({ cls := "KeyPathModel", name := "costs", desc := "(I)I" } : MethodName) prog_11_method_48_code (2 : Nat) (Option.some FieldType.int)) ∈ k_Tg := k_tg 1316 (by decide +kernel) rfl
theorem tw_1325 : (Cond.methodLink "KeyPathModel" (287 : Nat) ({ cls := "KeyPathModel", name := "hasPath", desc := "()Z" } : MethodName)) ∈ k_Tg := k_tg 1325 (by decide +kernel) rfl
theorem tw_1327 : (Cond.instanceMethod ({ cls := "KeyPathModel", name := "hasPath", desc := "()Z" } : MethodName)) ∈ k_Tg := k_tg 1327 (by decide +kernel) rfl
theorem tw_1328 : (Cond.code ({ cls := "KeyPathModel", name := "hasPath", desc := "()Z" } : MethodName) prog_11_method_57_code (1 : Nat) (Option.some FieldType.boolean)) ∈ k_Tg := k_tg 1328 (by decide +kernel) rfl
theorem tw_1329 : (Cond.methodLink "KeyPathModel" (281 : Nat) ({ cls := "KeyPathModel", name := "laysOwn", desc := "()V" } : MethodName)) ∈ k_Tg := k_tg 1329 (by decide +kernel) rfl
theorem tw_1331 : (Cond.instanceMethod ({ cls := "KeyPathModel", name := "laysOwn", desc := "()V" } : MethodName)) ∈ k_Tg := k_tg 1331 (by decide +kernel) rfl
theorem tw_1332 : (Cond.code ({ cls := "KeyPathModel", name := "laysOwn", desc := "()V" } : MethodName) prog_11_method_53_code (4 : Nat) (Option.none : Option FieldType)) ∈ k_Tg := k_tg 1332 (by decide +kernel) rfl
theorem tw_1333 : (Cond.methodLink "KeyPathModel" (264 : Nat) ({ cls := "KeyPathModel", name := "laysNet", desc := "()V" } : MethodName)) ∈ k_Tg := k_tg 1333 (by decide +kernel) rfl
theorem tw_1335 : (Cond.instanceMethod ({ cls := "KeyPathModel", name := "laysNet", desc := "()V" } : MethodName)) ∈ k_Tg := k_tg 1335 (by decide +kernel) rfl
theorem tw_1336 : (Cond.code ({ cls := "KeyPathModel", name := "laysNet", desc := "()V" } : MethodName) prog_11_method_50_code (3 : Nat) (Option.none : Option FieldType)) ∈ k_Tg := k_tg 1336 (by decide +kernel) rfl
theorem tw_1337 : (Cond.methodLink "KeyPathModel" (284 : Nat) ({ cls := "KeyPathModel", name := "laysPath", desc := "(I)Z" } : MethodName)) ∈ k_Tg := k_tg 1337 (by decide +kernel) rfl
theorem tw_1339 : (Cond.instanceMethod ({ cls := "KeyPathModel", name := "laysPath", desc := "(I)Z" } : MethodName)) ∈ k_Tg := k_tg 1339 (by decide +kernel) rfl
theorem tw_1340 : (Cond.code ({ cls := "KeyPathModel", name := "laysPath", desc := "(I)Z" } : MethodName) prog_11_method_56_code (9 : Nat) (Option.some FieldType.boolean)) ∈ k_Tg := k_tg 1340 (by decide +kernel) rfl
theorem tw_1341 : (Cond.methodLink "KeyPathModel" (270 : Nat) ({ cls := "KeyPathModel", name := "moves", desc := "(IIII)I" } : MethodName)) ∈ k_Tg := k_tg 1341 (by decide +kernel) rfl
theorem tw_1343 : (Cond.instanceMethod ({ cls := "KeyPathModel", name := "moves", desc := "(IIII)I" } : MethodName)) ∈ k_Tg := k_tg 1343 (by decide +kernel) rfl
theorem tw_1344 : (Cond.code ({ cls := "KeyPathModel", name := "moves", desc := "(IIII)I" } : MethodName) prog_11_method_54_code (5 : Nat) (Option.some FieldType.int)) ∈ k_Tg := k_tg 1344 (by decide +kernel) rfl
theorem tw_1345 : (Cond.methodLink "KeyPathModel" (274 : Nat) ({ cls := "KeyPathModel", name := "added", desc := "(II)I" } : MethodName)) ∈ k_Tg := k_tg 1345 (by decide +kernel) rfl
theorem tw_1346 : (Cond.static ({ cls := "KeyPathModel", name := "added", desc := "(II)I" } : MethodName)) ∈ k_Tg := k_tg 1346 (by decide +kernel) rfl
theorem tw_1347 : (Cond.code ({ cls := "KeyPathModel", name := "added", desc := "(II)I" } : MethodName) prog_11_method_55_code (2 : Nat) (Option.some FieldType.int)) ∈ k_Tg := k_tg 1347 (by decide +kernel) rfl
theorem tw_1348 : Cond.constant "KeyPathModel" 277 (c32 1000000) ∈ k_Tg := k_tg 1348 (by decide +kernel) rfl
theorem tw_1361 : (Cond.methodLink "KeyPathModel" (290 : Nat) ({ cls := "KeyPathModel", name := "laysAhead", desc := "()V" } : MethodName)) ∈ k_Tg := k_tg 1361 (by decide +kernel) rfl
theorem tw_1363 : (Cond.instanceMethod ({ cls := "KeyPathModel", name := "laysAhead", desc := "()V" } : MethodName)) ∈ k_Tg := k_tg 1363 (by decide +kernel) rfl
theorem tw_1364 : (Cond.code ({ cls := "KeyPathModel", name := "laysAhead", desc := "()V" } : MethodName) prog_11_method_61_code (6 : Nat) (Option.none : Option FieldType)) ∈ k_Tg := k_tg 1364 (by decide +kernel) rfl
theorem tw_1365 : (Cond.methodLink "KeyPathModel" (293 : Nat) ({ cls := "KeyPathModel", name := "throughNow", desc := "(II)I" } : MethodName)) ∈ k_Tg := k_tg 1365 (by decide +kernel) rfl
theorem tw_1367 : (Cond.instanceMethod ({ cls := "KeyPathModel", name := "throughNow", desc := "(II)I" } : MethodName)) ∈ k_Tg := k_tg 1367 (by decide +kernel) rfl
theorem tw_1368 : (Cond.code ({ cls := "KeyPathModel", name := "throughNow", desc := "(II)I" } : MethodName) prog_11_method_62_code (5 : Nat) (Option.some FieldType.int)) ∈ k_Tg := k_tg 1368 (by decide +kernel) rfl
theorem tw_1373 : Cond.constantLong "KeyPathModel" 296 (c64 9999) ∈ k_Tg := k_tg 1373 (by decide +kernel) rfl
theorem tw_1382 : (Cond.methodLink "KeyPathModel" (298 : Nat) ({ cls := "KeyPathModel", name := "turns", desc := "(I)V" } : MethodName)) ∈ k_Tg := k_tg 1382 (by decide +kernel) rfl
theorem tw_1384 : (Cond.instanceMethod ({ cls := "KeyPathModel", name := "turns", desc := "(I)V" } : MethodName)) ∈ k_Tg := k_tg 1384 (by decide +kernel) rfl
theorem tw_1385 : (Cond.code ({ cls := "KeyPathModel", name := "turns", desc := "(I)V" } : MethodName) prog_11_method_66_code (3 : Nat) (Option.none : Option FieldType)) ∈ k_Tg := k_tg 1385 (by decide +kernel) rfl
theorem tw_1386 : (Cond.methodLink "KeyPathModel" (301 : Nat) ({ cls := "KeyPathModel", name := "leastOf", desc := "(II)I" } : MethodName)) ∈ k_Tg := k_tg 1386 (by decide +kernel) rfl
theorem tw_1388 : (Cond.instanceMethod ({ cls := "KeyPathModel", name := "leastOf", desc := "(II)I" } : MethodName)) ∈ k_Tg := k_tg 1388 (by decide +kernel) rfl
theorem tw_1389 : (Cond.code ({ cls := "KeyPathModel", name := "leastOf", desc := "(II)I" } : MethodName) prog_11_method_67_code (5 : Nat) (Option.some FieldType.int)) ∈ k_Tg := k_tg 1389 (by decide +kernel) rfl
theorem tw_1394 : Cond.constantLong "KeyPathModel" 304 (c64 16) ∈ k_Tg := k_tg 1394 (by decide +kernel) rfl
theorem tw_1399 : (Cond.methodLink "KeyPathModel" (306 : Nat) ({ cls := "KeyPathModel", name := "segmentsNow", desc := "()I" } : MethodName)) ∈ k_Tg := k_tg 1399 (by decide +kernel) rfl
theorem tw_1401 : (Cond.instanceMethod ({ cls := "KeyPathModel", name := "segmentsNow", desc := "()I" } : MethodName)) ∈ k_Tg := k_tg 1401 (by decide +kernel) rfl
theorem tw_1402 : (Cond.code ({ cls := "KeyPathModel", name := "segmentsNow", desc := "()I" } : MethodName) prog_11_method_70_code (3 : Nat) (Option.some FieldType.int)) ∈ k_Tg := k_tg 1402 (by decide +kernel) rfl
theorem tw_1411 : (Cond.methodLink "KeyPathModel" (309 : Nat) ({ cls := "KeyPathModel", name := "firstOf", desc := "(I)I" } : MethodName)) ∈ k_Tg := k_tg 1411 (by decide +kernel) rfl
theorem tw_1413 : (Cond.instanceMethod ({ cls := "KeyPathModel", name := "firstOf", desc := "(I)I" } : MethodName)) ∈ k_Tg := k_tg 1413 (by decide +kernel) rfl
theorem tw_1414 : (Cond.code ({ cls := "KeyPathModel", name := "firstOf", desc := "(I)I" } : MethodName) prog_11_method_73_code (4 : Nat) (Option.some FieldType.int)) ∈ k_Tg := k_tg 1414 (by decide +kernel) rfl
theorem tw_1419 : (Cond.methodLink "KeyPathModel" (314 : Nat) ({ cls := "KeyPathModel", name := "isTriad", desc := "(I)Z" } : MethodName)) ∈ k_Tg := k_tg 1419 (by decide +kernel) rfl
theorem tw_1420 : (Cond.static ({ cls := "KeyPathModel", name := "isTriad", desc := "(I)Z" } : MethodName)) ∈ k_Tg := k_tg 1420 (by decide +kernel) rfl
theorem tw_1421 : (Cond.code ({ cls := "KeyPathModel", name := "isTriad", desc := "(I)Z" } : MethodName) prog_11_method_76_code (1 : Nat) (Option.some FieldType.boolean)) ∈ k_Tg := k_tg 1421 (by decide +kernel) rfl
theorem tw_1422 : Cond.constantLong "KeyPathModel" 312 (c64 35) ∈ k_Tg := k_tg 1422 (by decide +kernel) rfl
theorem tw_1423 : (Cond.methodLink "KeyPathModel" (317 : Nat) ({ cls := "KeyPathModel", name := "degreeOf", desc := "(II)I" } : MethodName)) ∈ k_Tg := k_tg 1423 (by decide +kernel) rfl
theorem tw_1424 : (Cond.static ({ cls := "KeyPathModel", name := "degreeOf", desc := "(II)I" } : MethodName)) ∈ k_Tg := k_tg 1424 (by decide +kernel) rfl
theorem tw_1425 : (Cond.code ({ cls := "KeyPathModel", name := "degreeOf", desc := "(II)I" } : MethodName) prog_11_method_75_code (4 : Nat) (Option.some FieldType.int)) ∈ k_Tg := k_tg 1425 (by decide +kernel) rfl
theorem tw_1438 : (Cond.methodLink "KeyPathModel" (320 : Nat) ({ cls := "KeyPathModel", name := "romanNow", desc := "(I)I" } : MethodName)) ∈ k_Tg := k_tg 1438 (by decide +kernel) rfl
theorem tw_1440 : (Cond.instanceMethod ({ cls := "KeyPathModel", name := "romanNow", desc := "(I)I" } : MethodName)) ∈ k_Tg := k_tg 1440 (by decide +kernel) rfl
theorem tw_1441 : (Cond.code ({ cls := "KeyPathModel", name := "romanNow", desc := "(I)I" } : MethodName) prog_11_method_80_code (2 : Nat) (Option.some FieldType.int)) ∈ k_Tg := k_tg 1441 (by decide +kernel) rfl
theorem tw_1454 : (Cond.methodLink "KeyPathModel" (323 : Nat) ({ cls := "KeyPathModel", name := "isBehindFifth", desc := "(II)Z" } : MethodName)) ∈ k_Tg := k_tg 1454 (by decide +kernel) rfl
theorem tw_1456 : (Cond.instanceMethod ({ cls := "KeyPathModel", name := "isBehindFifth", desc := "(II)Z" } : MethodName)) ∈ k_Tg := k_tg 1456 (by decide +kernel) rfl
theorem tw_1457 : (Cond.code ({ cls := "KeyPathModel", name := "isBehindFifth", desc := "(II)Z" } : MethodName) prog_11_method_84_code (5 : Nat) (Option.some FieldType.boolean)) ∈ k_Tg := k_tg 1457 (by decide +kernel) rfl
theorem tw_1466 : (Cond.methodLink "KeyPathModel" (327 : Nat) ({ cls := "KeyPathModel", name := "isOn", desc := "(IZ)Z" } : MethodName)) ∈ k_Tg := k_tg 1466 (by decide +kernel) rfl
theorem tw_1467 : (Cond.static ({ cls := "KeyPathModel", name := "isOn", desc := "(IZ)Z" } : MethodName)) ∈ k_Tg := k_tg 1467 (by decide +kernel) rfl
theorem tw_1468 : (Cond.code ({ cls := "KeyPathModel", name := "isOn", desc := "(IZ)Z" } : MethodName) prog_11_method_87_code (3 : Nat) (Option.some FieldType.boolean)) ∈ k_Tg := k_tg 1468 (by decide +kernel) rfl
theorem tw_1473 : (Cond.methodLink "KeyPathModel" (331 : Nat) ({ cls := "KeyPathModel", name := "letter", desc := "(I)I" } : MethodName)) ∈ k_Tg := k_tg 1473 (by decide +kernel) rfl
theorem tw_1474 : (Cond.static ({ cls := "KeyPathModel", name := "letter", desc := "(I)I" } : MethodName)) ∈ k_Tg := k_tg 1474 (by decide +kernel) rfl
theorem tw_1475 : (Cond.code ({ cls := "KeyPathModel", name := "letter", desc := "(I)I" } : MethodName) prog_11_method_89_code (1 : Nat) (Option.some FieldType.int)) ∈ k_Tg := k_tg 1475 (by decide +kernel) rfl
theorem ts_0 : Cond.selects "KeyPath$TextReader" (⟨"KeyPath$TextReader", "next", "()I"⟩ : MethodName) (⟨"KeyPath$TextReader", "next", "()I"⟩ : MethodName) ∈ k_Tg := k_tgs 0 (by decide +kernel) rfl
theorem ts_1 : Cond.selects "KeyPath$TextReader" (⟨"KeyPath$TextReader", "readPart", "()V"⟩ : MethodName) (⟨"KeyPath$TextReader", "readPart", "()V"⟩ : MethodName) ∈ k_Tg := k_tgs 1 (by decide +kernel) rfl
theorem ts_2 : Cond.selects "KeyPath$TextReader" (⟨"KeyPath$TextReader", "readLength", "()V"⟩ : MethodName) (⟨"KeyPath$TextReader", "readLength", "()V"⟩ : MethodName) ∈ k_Tg := k_tgs 2 (by decide +kernel) rfl
theorem ts_3 : Cond.selects "KeyPath$TextReader" (⟨"KeyPath$TextReader", "fail", "(II)V"⟩ : MethodName) (⟨"KeyPath$TextReader", "fail", "(II)V"⟩ : MethodName) ∈ k_Tg := k_tgs 3 (by decide +kernel) rfl
theorem ts_4 : Cond.selects "KeyPath$TextReader" (⟨"KeyPath$TextReader", "readNumber", "()I"⟩ : MethodName) (⟨"KeyPath$TextReader", "readNumber", "()I"⟩ : MethodName) ∈ k_Tg := k_tgs 4 (by decide +kernel) rfl
theorem ts_5 : Cond.selects "KeyPath$TextReader" (⟨"KeyPath$TextReader", "soundNamed", "(I)V"⟩ : MethodName) (⟨"KeyPath$TextReader", "soundNamed", "(I)V"⟩ : MethodName) ∈ k_Tg := k_tgs 5 (by decide +kernel) rfl
theorem ts_6 : Cond.selects "KeyPath$Notes" (⟨"KeyPath$Notes", "isBehind", "(IIII)Z"⟩ : MethodName) (⟨"KeyPath$Notes", "isBehind", "(IIII)Z"⟩ : MethodName) ∈ k_Tg := k_tgs 6 (by decide +kernel) rfl
theorem ts_7 : Cond.selects "KeyPath$TextReader" (⟨"KeyPath$TextReader", "readNames", "()V"⟩ : MethodName) (⟨"KeyPath$TextReader", "readNames", "()V"⟩ : MethodName) ∈ k_Tg := k_tgs 7 (by decide +kernel) rfl
theorem ts_8 : Cond.selects "KeyPath$TextReader" (⟨"KeyPath$TextReader", "readName", "()V"⟩ : MethodName) (⟨"KeyPath$TextReader", "readName", "()V"⟩ : MethodName) ∈ k_Tg := k_tgs 8 (by decide +kernel) rfl
theorem ts_9 : Cond.selects "KeyPath$TextReader" (⟨"KeyPath$TextReader", "readAccidental", "()I"⟩ : MethodName) (⟨"KeyPath$TextReader", "readAccidental", "()I"⟩ : MethodName) ∈ k_Tg := k_tgs 9 (by decide +kernel) rfl
theorem ts_10 : Cond.selects "KeyPath$TextReader" (⟨"KeyPath$TextReader", "isNamed", "(I)Z"⟩ : MethodName) (⟨"KeyPath$TextReader", "isNamed", "(I)Z"⟩ : MethodName) ∈ k_Tg := k_tgs 10 (by decide +kernel) rfl
theorem ts_11 : Cond.selects "KeyPath" (⟨"KeyPath", "notesChanged", "()V"⟩ : MethodName) (⟨"KeyPath", "notesChanged", "()V"⟩ : MethodName) ∈ k_Tg := k_tgs 11 (by decide +kernel) rfl
theorem ts_12 : Cond.selects "KeyPath" (⟨"KeyPath", "weightsChanged", "()V"⟩ : MethodName) (⟨"KeyPath", "weightsChanged", "()V"⟩ : MethodName) ∈ k_Tg := k_tgs 12 (by decide +kernel) rfl
theorem ts_13 : Cond.selects "KeyPath" (⟨"KeyPath", "pathChanged", "()V"⟩ : MethodName) (⟨"KeyPath", "pathChanged", "()V"⟩ : MethodName) ∈ k_Tg := k_tgs 13 (by decide +kernel) rfl
theorem ts_14 : Cond.selects "KeyPath$History" (⟨"KeyPath$History", "forgetOldest", "()V"⟩ : MethodName) (⟨"KeyPath$History", "forgetOldest", "()V"⟩ : MethodName) ∈ k_Tg := k_tgs 14 (by decide +kernel) rfl
theorem ts_15 : Cond.selects "KeyPath" (⟨"KeyPath", "freshWindows", "()V"⟩ : MethodName) (⟨"KeyPath", "freshWindows", "()V"⟩ : MethodName) ∈ k_Tg := k_tgs 15 (by decide +kernel) rfl
theorem ts_16 : Cond.selects "KeyPath$Windows" (⟨"KeyPath$Windows", "countSpan", "(LKeyPath$Notes;III)V"⟩ : MethodName) (⟨"KeyPath$Windows", "countSpan", "(LKeyPath$Notes;III)V"⟩ : MethodName) ∈ k_Tg := k_tgs 16 (by decide +kernel) rfl
theorem ts_17 : Cond.selects "KeyPath$Windows" (⟨"KeyPath$Windows", "fullestTriad", "(I)I"⟩ : MethodName) (⟨"KeyPath$Windows", "fullestTriad", "(I)I"⟩ : MethodName) ∈ k_Tg := k_tgs 17 (by decide +kernel) rfl
theorem ts_18 : Cond.selects "KeyPath" (⟨"KeyPath", "noWindow", "(I)Z"⟩ : MethodName) (⟨"KeyPath", "noWindow", "(I)Z"⟩ : MethodName) ∈ k_Tg := k_tgs 18 (by decide +kernel) rfl
theorem ts_19 : Cond.selects "KeyPath" (⟨"KeyPath", "freshFits", "()V"⟩ : MethodName) (⟨"KeyPath", "freshFits", "()V"⟩ : MethodName) ∈ k_Tg := k_tgs 19 (by decide +kernel) rfl
theorem ts_20 : Cond.selects "KeyPath$Profiles" (⟨"KeyPath$Profiles", "judgeRow", "(LKeyPath$Windows;I)V"⟩ : MethodName) (⟨"KeyPath$Profiles", "judgeRow", "(LKeyPath$Windows;I)V"⟩ : MethodName) ∈ k_Tg := k_tgs 20 (by decide +kernel) rfl
theorem ts_21 : Cond.selects "KeyPath$Profiles" (⟨"KeyPath$Profiles", "betterThan", "(II)I"⟩ : MethodName) (⟨"KeyPath$Profiles", "betterThan", "(II)I"⟩ : MethodName) ∈ k_Tg := k_tgs 21 (by decide +kernel) rfl
theorem ts_22 : Cond.selects "KeyPath$Net" (⟨"KeyPath$Net", "reachFrom", "(I)V"⟩ : MethodName) (⟨"KeyPath$Net", "reachFrom", "(I)V"⟩ : MethodName) ∈ k_Tg := k_tgs 22 (by decide +kernel) rfl
theorem ts_23 : Cond.selects "KeyPath$Net" (⟨"KeyPath$Net", "rankOfStep", "(I)I"⟩ : MethodName) (⟨"KeyPath$Net", "rankOfStep", "(I)I"⟩ : MethodName) ∈ k_Tg := k_tgs 23 (by decide +kernel) rfl
theorem ts_24 : Cond.selects "KeyPath$Net" (⟨"KeyPath$Net", "copyRow", "(II)V"⟩ : MethodName) (⟨"KeyPath$Net", "copyRow", "(II)V"⟩ : MethodName) ∈ k_Tg := k_tgs 24 (by decide +kernel) rfl
theorem ts_25 : Cond.selects "KeyPath$Net" (⟨"KeyPath$Net", "nextOnWay", "(II)I"⟩ : MethodName) (⟨"KeyPath$Net", "nextOnWay", "(II)I"⟩ : MethodName) ∈ k_Tg := k_tgs 25 (by decide +kernel) rfl
theorem ts_26 : Cond.selects "KeyPath" (⟨"KeyPath", "noPath", "()Z"⟩ : MethodName) (⟨"KeyPath", "noPath", "()Z"⟩ : MethodName) ∈ k_Tg := k_tgs 26 (by decide +kernel) rfl
theorem ts_27 : Cond.selects "KeyPath$PathFinder" (⟨"KeyPath$PathFinder", "lookBehind", "(II)V"⟩ : MethodName) (⟨"KeyPath$PathFinder", "lookBehind", "(II)V"⟩ : MethodName) ∈ k_Tg := k_tgs 27 (by decide +kernel) rfl
theorem ts_28 : Cond.selects "KeyPath$PathFinder" (⟨"KeyPath$PathFinder", "findLeast", "()V"⟩ : MethodName) (⟨"KeyPath$PathFinder", "findLeast", "()V"⟩ : MethodName) ∈ k_Tg := k_tgs 28 (by decide +kernel) rfl
theorem ts_29 : Cond.selects "KeyPath$PathFinder" (⟨"KeyPath$PathFinder", "follow", "()V"⟩ : MethodName) (⟨"KeyPath$PathFinder", "follow", "()V"⟩ : MethodName) ∈ k_Tg := k_tgs 29 (by decide +kernel) rfl
theorem ts_30 : Cond.selects "KeyPath$PathFinder" (⟨"KeyPath$PathFinder", "firstKey", "()I"⟩ : MethodName) (⟨"KeyPath$PathFinder", "firstKey", "()I"⟩ : MethodName) ∈ k_Tg := k_tgs 30 (by decide +kernel) rfl
theorem ts_31 : Cond.selects "KeyPath$PathFinder" (⟨"KeyPath$PathFinder", "nextKey", "(I)I"⟩ : MethodName) (⟨"KeyPath$PathFinder", "nextKey", "(I)I"⟩ : MethodName) ∈ k_Tg := k_tgs 31 (by decide +kernel) rfl
theorem ts_32 : Cond.selects "KeyPath$PathFinder" (⟨"KeyPath$PathFinder", "splitSegments", "()V"⟩ : MethodName) (⟨"KeyPath$PathFinder", "splitSegments", "()V"⟩ : MethodName) ∈ k_Tg := k_tgs 32 (by decide +kernel) rfl
theorem ts_33 : Cond.selects "KeyPath$Detours" (⟨"KeyPath$Detours", "goOn", "(LKeyPath$PathFinder;II)V"⟩ : MethodName) (⟨"KeyPath$Detours", "goOn", "(LKeyPath$PathFinder;II)V"⟩ : MethodName) ∈ k_Tg := k_tgs 33 (by decide +kernel) rfl
theorem ts_34 : Cond.selects "KeyPath$Detours" (⟨"KeyPath$Detours", "settle", "(LKeyPath$PathFinder;III)I"⟩ : MethodName) (⟨"KeyPath$Detours", "settle", "(LKeyPath$PathFinder;III)I"⟩ : MethodName) ∈ k_Tg := k_tgs 34 (by decide +kernel) rfl
theorem ts_35 : Cond.selects "KeyPath$PathFinder" (⟨"KeyPath$PathFinder", "searchFirm", "(LKeyPath$Net;)I"⟩ : MethodName) (⟨"KeyPath$PathFinder", "searchFirm", "(LKeyPath$Net;)I"⟩ : MethodName) ∈ k_Tg := k_tgs 35 (by decide +kernel) rfl
theorem ts_36 : Cond.selects "KeyPath$PathFinder" (⟨"KeyPath$PathFinder", "isFirm", "(LKeyPath$Net;I)Z"⟩ : MethodName) (⟨"KeyPath$PathFinder", "isFirm", "(LKeyPath$Net;I)Z"⟩ : MethodName) ∈ k_Tg := k_tgs 36 (by decide +kernel) rfl
theorem ts_37 : Cond.selects "KeyPath" (⟨"KeyPath", "romanOf", "(I)I"⟩ : MethodName) (⟨"KeyPath", "romanOf", "(I)I"⟩ : MethodName) ∈ k_Tg := k_tgs 37 (by decide +kernel) rfl
theorem ts_38 : Cond.selects "KeyPathModel" (⟨"KeyPathModel", "peek", "()I"⟩ : MethodName) (⟨"KeyPathModel", "peek", "()I"⟩ : MethodName) ∈ k_Tg := k_tgs 38 (by decide +kernel) rfl
theorem ts_39 : Cond.selects "KeyPathModel" (⟨"KeyPathModel", "readOne", "()V"⟩ : MethodName) (⟨"KeyPathModel", "readOne", "()V"⟩ : MethodName) ∈ k_Tg := k_tgs 39 (by decide +kernel) rfl
theorem ts_40 : Cond.selects "KeyPathModel" (⟨"KeyPathModel", "nameRead", "(I)V"⟩ : MethodName) (⟨"KeyPathModel", "nameRead", "(I)V"⟩ : MethodName) ∈ k_Tg := k_tgs 40 (by decide +kernel) rfl
theorem ts_41 : Cond.selects "KeyPathModel" (⟨"KeyPathModel", "isLetter", "()Z"⟩ : MethodName) (⟨"KeyPathModel", "isLetter", "()Z"⟩ : MethodName) ∈ k_Tg := k_tgs 41 (by decide +kernel) rfl
theorem ts_42 : Cond.selects "KeyPathModel" (⟨"KeyPathModel", "fails", "(II)V"⟩ : MethodName) (⟨"KeyPathModel", "fails", "(II)V"⟩ : MethodName) ∈ k_Tg := k_tgs 42 (by decide +kernel) rfl
theorem ts_43 : Cond.selects "KeyPathModel" (⟨"KeyPathModel", "must", "(I)V"⟩ : MethodName) (⟨"KeyPathModel", "must", "(I)V"⟩ : MethodName) ∈ k_Tg := k_tgs 43 (by decide +kernel) rfl
theorem ts_44 : Cond.selects "KeyPathModel" (⟨"KeyPathModel", "lengthRead", "()I"⟩ : MethodName) (⟨"KeyPathModel", "lengthRead", "()I"⟩ : MethodName) ∈ k_Tg := k_tgs 44 (by decide +kernel) rfl
theorem ts_45 : Cond.selects "KeyPathModel" (⟨"KeyPathModel", "comes", "(III)I"⟩ : MethodName) (⟨"KeyPathModel", "comes", "(III)I"⟩ : MethodName) ∈ k_Tg := k_tgs 45 (by decide +kernel) rfl
theorem ts_46 : Cond.selects "KeyPathModel" (⟨"KeyPathModel", "notesAct", "()V"⟩ : MethodName) (⟨"KeyPathModel", "notesAct", "()V"⟩ : MethodName) ∈ k_Tg := k_tgs 46 (by decide +kernel) rfl
theorem ts_47 : Cond.selects "KeyPathModel" (⟨"KeyPathModel", "isNote", "(I)Z"⟩ : MethodName) (⟨"KeyPathModel", "isNote", "(I)Z"⟩ : MethodName) ∈ k_Tg := k_tgs 47 (by decide +kernel) rfl
theorem ts_48 : Cond.selects "KeyPathModel" (⟨"KeyPathModel", "windowsBy", "(I)I"⟩ : MethodName) (⟨"KeyPathModel", "windowsBy", "(I)I"⟩ : MethodName) ∈ k_Tg := k_tgs 48 (by decide +kernel) rfl
theorem ts_49 : Cond.selects "KeyPathModel" (⟨"KeyPathModel", "theEnd", "()I"⟩ : MethodName) (⟨"KeyPathModel", "theEnd", "()I"⟩ : MethodName) ∈ k_Tg := k_tgs 49 (by decide +kernel) rfl
theorem ts_50 : Cond.selects "KeyPathModel" (⟨"KeyPathModel", "windowMany", "()I"⟩ : MethodName) (⟨"KeyPathModel", "windowMany", "()I"⟩ : MethodName) ∈ k_Tg := k_tgs 50 (by decide +kernel) rfl
theorem ts_51 : Cond.selects "KeyPathModel" (⟨"KeyPathModel", "isWindow", "(I)Z"⟩ : MethodName) (⟨"KeyPathModel", "isWindow", "(I)Z"⟩ : MethodName) ∈ k_Tg := k_tgs 51 (by decide +kernel) rfl
theorem ts_52 : Cond.selects "KeyPathModel" (⟨"KeyPathModel", "countedIn", "(I)V"⟩ : MethodName) (⟨"KeyPathModel", "countedIn", "(I)V"⟩ : MethodName) ∈ k_Tg := k_tgs 52 (by decide +kernel) rfl
theorem ts_53 : Cond.selects "KeyPathModel" (⟨"KeyPathModel", "counted", "(II)V"⟩ : MethodName) (⟨"KeyPathModel", "counted", "(II)V"⟩ : MethodName) ∈ k_Tg := k_tgs 53 (by decide +kernel) rfl
theorem ts_54 : Cond.selects "KeyPathModel" (⟨"KeyPathModel", "matched", "(I)I"⟩ : MethodName) (⟨"KeyPathModel", "matched", "(I)I"⟩ : MethodName) ∈ k_Tg := k_tgs 54 (by decide +kernel) rfl
theorem ts_55 : Cond.selects "KeyPathModel" (⟨"KeyPathModel", "fitted", "(I)I"⟩ : MethodName) (⟨"KeyPathModel", "fitted", "(I)I"⟩ : MethodName) ∈ k_Tg := k_tgs 55 (by decide +kernel) rfl
theorem ts_56 : Cond.selects "KeyPathModel" (⟨"KeyPathModel", "rankedNow", "(I)I"⟩ : MethodName) (⟨"KeyPathModel", "rankedNow", "(I)I"⟩ : MethodName) ∈ k_Tg := k_tgs 56 (by decide +kernel) rfl
theorem ts_57 : Cond.selects "KeyPathModel" (⟨"KeyPathModel", "chordNow", "()I"⟩ : MethodName) (⟨"KeyPathModel", "chordNow", "()I"⟩ : MethodName) ∈ k_Tg := k_tgs 57 (by decide +kernel) rfl
theorem ts_58 : Cond.selects "KeyPathModel" (⟨"KeyPathModel", "laysFar", "(I)V"⟩ : MethodName) (⟨"KeyPathModel", "laysFar", "(I)V"⟩ : MethodName) ∈ k_Tg := k_tgs 58 (by decide +kernel) rfl
theorem ts_59 : Cond.selects "KeyPathModel" (⟨"KeyPathModel", "costs", "(I)I"⟩ : MethodName) (⟨"KeyPathModel", "costs", "(I)I"⟩ : MethodName) ∈ k_Tg := k_tgs 59 (by decide +kernel) rfl
theorem ts_60 : Cond.selects "KeyPathModel" (⟨"KeyPathModel", "hasPath", "()Z"⟩ : MethodName) (⟨"KeyPathModel", "hasPath", "()Z"⟩ : MethodName) ∈ k_Tg := k_tgs 60 (by decide +kernel) rfl
theorem ts_61 : Cond.selects "KeyPathModel" (⟨"KeyPathModel", "laysOwn", "()V"⟩ : MethodName) (⟨"KeyPathModel", "laysOwn", "()V"⟩ : MethodName) ∈ k_Tg := k_tgs 61 (by decide +kernel) rfl
theorem ts_62 : Cond.selects "KeyPathModel" (⟨"KeyPathModel", "laysNet", "()V"⟩ : MethodName) (⟨"KeyPathModel", "laysNet", "()V"⟩ : MethodName) ∈ k_Tg := k_tgs 62 (by decide +kernel) rfl
theorem ts_63 : Cond.selects "KeyPathModel" (⟨"KeyPathModel", "laysPath", "(I)Z"⟩ : MethodName) (⟨"KeyPathModel", "laysPath", "(I)Z"⟩ : MethodName) ∈ k_Tg := k_tgs 63 (by decide +kernel) rfl
theorem ts_64 : Cond.selects "KeyPathModel" (⟨"KeyPathModel", "moves", "(IIII)I"⟩ : MethodName) (⟨"KeyPathModel", "moves", "(IIII)I"⟩ : MethodName) ∈ k_Tg := k_tgs 64 (by decide +kernel) rfl
theorem ts_65 : Cond.selects "KeyPathModel" (⟨"KeyPathModel", "laysAhead", "()V"⟩ : MethodName) (⟨"KeyPathModel", "laysAhead", "()V"⟩ : MethodName) ∈ k_Tg := k_tgs 65 (by decide +kernel) rfl
theorem ts_66 : Cond.selects "KeyPathModel" (⟨"KeyPathModel", "throughNow", "(II)I"⟩ : MethodName) (⟨"KeyPathModel", "throughNow", "(II)I"⟩ : MethodName) ∈ k_Tg := k_tgs 66 (by decide +kernel) rfl
theorem ts_67 : Cond.selects "KeyPathModel" (⟨"KeyPathModel", "turns", "(I)V"⟩ : MethodName) (⟨"KeyPathModel", "turns", "(I)V"⟩ : MethodName) ∈ k_Tg := k_tgs 67 (by decide +kernel) rfl
theorem ts_68 : Cond.selects "KeyPathModel" (⟨"KeyPathModel", "leastOf", "(II)I"⟩ : MethodName) (⟨"KeyPathModel", "leastOf", "(II)I"⟩ : MethodName) ∈ k_Tg := k_tgs 68 (by decide +kernel) rfl
theorem ts_69 : Cond.selects "KeyPathModel" (⟨"KeyPathModel", "segmentsNow", "()I"⟩ : MethodName) (⟨"KeyPathModel", "segmentsNow", "()I"⟩ : MethodName) ∈ k_Tg := k_tgs 69 (by decide +kernel) rfl
theorem ts_70 : Cond.selects "KeyPathModel" (⟨"KeyPathModel", "firstOf", "(I)I"⟩ : MethodName) (⟨"KeyPathModel", "firstOf", "(I)I"⟩ : MethodName) ∈ k_Tg := k_tgs 70 (by decide +kernel) rfl
theorem ts_71 : Cond.selects "KeyPathModel" (⟨"KeyPathModel", "romanNow", "(I)I"⟩ : MethodName) (⟨"KeyPathModel", "romanNow", "(I)I"⟩ : MethodName) ∈ k_Tg := k_tgs 71 (by decide +kernel) rfl
theorem ts_72 : Cond.selects "KeyPathModel" (⟨"KeyPathModel", "isBehindFifth", "(II)Z"⟩ : MethodName) (⟨"KeyPathModel", "isBehindFifth", "(II)Z"⟩ : MethodName) ∈ k_Tg := k_tgs 72 (by decide +kernel) rfl
theorem gf_0 {X : KC} {d n : Nat} {cc : ByteArray} {pc : Nat} {L : List (Option KV)} {st : List KV} {σ : KM} {Z : Type} {Θ : Z → Prop} {F : Option Z} (hX : kOk X d cc n "KeyPath") (hd : decode cc pc = .ok (.getfield 33, 3)) (h : kJ X (pc + 3) L (kr 5 :: st) σ F Θ) : kJ X pc L (kr 0 :: st) σ F Θ :=
  k_getR hX 0 3 (by decide) rfl rfl rfl rfl k_lay0 (by decide) rfl tw_340 hd h
theorem gf_1 {X : KC} {d n : Nat} {cc : ByteArray} {pc : Nat} {L : List (Option KV)} {st : List KV} {σ : KM} {Z : Type} {Θ : Z → Prop} {F : Option Z} (hX : kOk X d cc n "KeyPath") (hd : decode cc pc = .ok (.getfield 329, 3)) (h : kJ X (pc + 3) L (ki (σ 5 6) :: st) σ F Θ) : kJ X pc L (kr 5 :: st) σ F Θ :=
  k_getI hX 5 6 (by decide) rfl rfl rfl rfl k_lay4 (by decide) rfl tw_148 hd rfl h
theorem gf_2 {X : KC} {d n : Nat} {cc : ByteArray} {pc : Nat} {L : List (Option KV)} {st : List KV} {σ : KM} {Z : Type} {Θ : Z → Prop} {F : Option Z} (hX : kOk X d cc n "KeyPath") (hd : decode cc pc = .ok (.getfield 19, 3)) (h : kJ X (pc + 3) L (kr 3 :: st) σ F Θ) : kJ X pc L (kr 0 :: st) σ F Θ :=
  k_getR hX 0 1 (by decide) rfl rfl rfl rfl k_lay0 (by decide) rfl tw_338 hd h
theorem gf_3 {X : KC} {d n : Nat} {cc : ByteArray} {pc : Nat} {L : List (Option KV)} {st : List KV} {σ : KM} {Z : Type} {Θ : Z → Prop} {F : Option Z} (hX : kOk X d cc n "KeyPath$Notes") (hd : decode cc pc = .ok (.getfield 21, 3)) (h : kJ X (pc + 3) L (ki (σ 3 3) :: st) σ F Θ) : kJ X pc L (kr 3 :: st) σ F Θ :=
  k_getI hX 3 3 (by decide) rfl rfl rfl rfl k_lay2 (by decide) rfl tw_47 hd rfl h
theorem gf_4 {X : KC} {d n : Nat} {cc : ByteArray} {pc : Nat} {L : List (Option KV)} {st : List KV} {σ : KM} {Z : Type} {Θ : Z → Prop} {F : Option Z} (hX : kOk X d cc n "KeyPath$Notes") (hd : decode cc pc = .ok (.getfield 9, 3)) (h : kJ X (pc + 3) L (kr 16 :: st) σ F Θ) : kJ X pc L (kr 3 :: st) σ F Θ :=
  k_getR hX 3 0 (by decide) rfl rfl rfl rfl k_lay2 (by decide) rfl tw_38 hd h
theorem gf_5 {X : KC} {d n : Nat} {cc : ByteArray} {pc : Nat} {L : List (Option KV)} {st : List KV} {σ : KM} {Z : Type} {Θ : Z → Prop} {F : Option Z} (hX : kOk X d cc n "KeyPath$Notes") (hd : decode cc pc = .ok (.getfield 15, 3)) (h : kJ X (pc + 3) L (kr 17 :: st) σ F Θ) : kJ X pc L (kr 3 :: st) σ F Θ :=
  k_getR hX 3 1 (by decide) rfl rfl rfl rfl k_lay2 (by decide) rfl tw_41 hd h
theorem gf_6 {X : KC} {d n : Nat} {cc : ByteArray} {pc : Nat} {L : List (Option KV)} {st : List KV} {σ : KM} {Z : Type} {Θ : Z → Prop} {F : Option Z} (hX : kOk X d cc n "KeyPath$Windows") (hd : decode cc pc = .ok (.getfield 15, 3)) (h : kJ X (pc + 3) L (ki (σ 5 1) :: st) σ F Θ) : kJ X pc L (kr 5 :: st) σ F Θ :=
  k_getI hX 5 1 (by decide) rfl rfl rfl rfl k_lay4 (by decide) rfl tw_132 hd rfl h
theorem gp_7 {X : KC} {d n : Nat} {cc : ByteArray} {pc : Nat} {L : List (Option KV)} {st : List KV} {σ : KM} {Z : Type} {Θ : Z → Prop} {a : Int} {G : KM → Option Z} (hX : kOk X d cc n "KeyPath$Windows") (hd : decode cc pc = .ok (.putfield 47, 3)) (h : ∀ τ, kJ X (pc + 3) L st τ (G τ) Θ) : kJ X pc L (ki a :: kr 5 :: st) σ (kWf σ 5 2 a G) Θ :=
  k_putI hX 5 2 (by decide) rfl rfl rfl rfl k_lay4 k_ok4 k_n4 (by decide) rfl rfl rfl tw_136 hd rfl h
theorem gf_8 {X : KC} {d n : Nat} {cc : ByteArray} {pc : Nat} {L : List (Option KV)} {st : List KV} {σ : KM} {Z : Type} {Θ : Z → Prop} {F : Option Z} (hX : kOk X d cc n "KeyPath$Windows") (hd : decode cc pc = .ok (.getfield 47, 3)) (h : kJ X (pc + 3) L (ki (σ 5 2) :: st) σ F Θ) : kJ X pc L (kr 5 :: st) σ F Θ :=
  k_getI hX 5 2 (by decide) rfl rfl rfl rfl k_lay4 (by decide) rfl tw_136 hd rfl h
theorem gf_9 {X : KC} {d n : Nat} {cc : ByteArray} {pc : Nat} {L : List (Option KV)} {st : List KV} {σ : KM} {Z : Type} {Θ : Z → Prop} {F : Option Z} (hX : kOk X d cc n "KeyPath$Windows") (hd : decode cc pc = .ok (.getfield 18, 3)) (h : kJ X (pc + 3) L (kr 24 :: st) σ F Θ) : kJ X pc L (kr 5 :: st) σ F Θ :=
  k_getR hX 5 3 (by decide) rfl rfl rfl rfl k_lay4 (by decide) rfl tw_138 hd h
theorem gf_10 {X : KC} {d n : Nat} {cc : ByteArray} {pc : Nat} {L : List (Option KV)} {st : List KV} {σ : KM} {Z : Type} {Θ : Z → Prop} {F : Option Z} (hX : kOk X d cc n "KeyPath$Windows") (hd : decode cc pc = .ok (.getfield 22, 3)) (h : kJ X (pc + 3) L (kr 25 :: st) σ F Θ) : kJ X pc L (kr 5 :: st) σ F Θ :=
  k_getR hX 5 4 (by decide) rfl rfl rfl rfl k_lay4 (by decide) rfl tw_141 hd h
theorem gf_11 {X : KC} {d n : Nat} {cc : ByteArray} {pc : Nat} {L : List (Option KV)} {st : List KV} {σ : KM} {Z : Type} {Θ : Z → Prop} {F : Option Z} (hX : kOk X d cc n "KeyPath$Windows") (hd : decode cc pc = .ok (.getfield 64, 3)) (h : kJ X (pc + 3) L (ki (σ 3 3) :: st) σ F Θ) : kJ X pc L (kr 3 :: st) σ F Θ :=
  k_getI hX 3 3 (by decide) rfl rfl rfl rfl k_lay2 (by decide) rfl tw_50 hd rfl h
theorem gf_12 {X : KC} {d n : Nat} {cc : ByteArray} {pc : Nat} {L : List (Option KV)} {st : List KV} {σ : KM} {Z : Type} {Θ : Z → Prop} {F : Option Z} (hX : kOk X d cc n "KeyPath$Windows") (hd : decode cc pc = .ok (.getfield 65, 3)) (h : kJ X (pc + 3) L (kr 16 :: st) σ F Θ) : kJ X pc L (kr 3 :: st) σ F Θ :=
  k_getR hX 3 0 (by decide) rfl rfl rfl rfl k_lay2 (by decide) rfl tw_39 hd h
theorem gf_13 {X : KC} {d n : Nat} {cc : ByteArray} {pc : Nat} {L : List (Option KV)} {st : List KV} {σ : KM} {Z : Type} {Θ : Z → Prop} {F : Option Z} (hX : kOk X d cc n "KeyPath$Windows") (hd : decode cc pc = .ok (.getfield 71, 3)) (h : kJ X (pc + 3) L (kr 17 :: st) σ F Θ) : kJ X pc L (kr 3 :: st) σ F Θ :=
  k_getR hX 3 1 (by decide) rfl rfl rfl rfl k_lay2 (by decide) rfl tw_42 hd h
theorem gf_14 {X : KC} {d n : Nat} {cc : ByteArray} {pc : Nat} {L : List (Option KV)} {st : List KV} {σ : KM} {Z : Type} {Θ : Z → Prop} {F : Option Z} (hX : kOk X d cc n "KeyPath$Windows") (hd : decode cc pc = .ok (.getfield 74, 3)) (h : kJ X (pc + 3) L (kr 18 :: st) σ F Θ) : kJ X pc L (kr 3 :: st) σ F Θ :=
  k_getR hX 3 2 (by decide) rfl rfl rfl rfl k_lay2 (by decide) rfl tw_45 hd h
theorem gz_15 {X : KC} {d n : Nat} {cc : ByteArray} {pc : Nat} {L : List (Option KV)} {st : List KV} {σ : KM} {Z : Type} {Θ : Z → Prop} {a : Int} {G : KM → Option Z} (hX : kOk X d cc n "KeyPath$Windows") (hd : decode cc pc = .ok (.putfield 28, 3)) (h : ∀ τ, kJ X (pc + 3) L st τ (G τ) Θ) : kJ X pc L (ki a :: kr 5 :: st) σ (kWfz σ 5 6 a G) Θ :=
  k_putZ hX 5 6 (by decide) rfl rfl rfl rfl k_lay4 k_ok4 k_n4 (by decide) rfl rfl rfl tw_147 hd rfl h
theorem gf_16 {X : KC} {d n : Nat} {cc : ByteArray} {pc : Nat} {L : List (Option KV)} {st : List KV} {σ : KM} {Z : Type} {Θ : Z → Prop} {F : Option Z} (hX : kOk X d cc n "KeyPath$Windows") (hd : decode cc pc = .ok (.getfield 9, 3)) (h : kJ X (pc + 3) L (ki (σ 5 0) :: st) σ F Θ) : kJ X pc L (kr 5 :: st) σ F Θ :=
  k_getI hX 5 0 (by decide) rfl rfl rfl rfl k_lay4 (by decide) rfl tw_130 hd rfl h
theorem gf_17 {X : KC} {d n : Nat} {cc : ByteArray} {pc : Nat} {L : List (Option KV)} {st : List KV} {σ : KM} {Z : Type} {Θ : Z → Prop} {F : Option Z} (hX : kOk X d cc n "KeyPath$Windows") (hd : decode cc pc = .ok (.getfield 25, 3)) (h : kJ X (pc + 3) L (kr 26 :: st) σ F Θ) : kJ X pc L (kr 5 :: st) σ F Θ :=
  k_getR hX 5 5 (by decide) rfl rfl rfl rfl k_lay4 (by decide) rfl tw_145 hd h
theorem gf_18 {X : KC} {d n : Nat} {cc : ByteArray} {pc : Nat} {L : List (Option KV)} {st : List KV} {σ : KM} {Z : Type} {Θ : Z → Prop} {F : Option Z} (hX : kOk X d cc n "KeyPath") (hd : decode cc pc = .ok (.getfield 158, 3)) (h : kJ X (pc + 3) L (ki (σ 5 2) :: st) σ F Θ) : kJ X pc L (kr 5 :: st) σ F Θ :=
  k_getI hX 5 2 (by decide) rfl rfl rfl rfl k_lay4 (by decide) rfl tw_137 hd rfl h
theorem gf_19 {X : KC} {d n : Nat} {cc : ByteArray} {pc : Nat} {L : List (Option KV)} {st : List KV} {σ : KM} {Z : Type} {Θ : Z → Prop} {F : Option Z} (hX : kOk X d cc n "KeyPath") (hd : decode cc pc = .ok (.getfield 221, 3)) (h : kJ X (pc + 3) L (kr 26 :: st) σ F Θ) : kJ X pc L (kr 5 :: st) σ F Θ :=
  k_getR hX 5 5 (by decide) rfl rfl rfl rfl k_lay4 (by decide) rfl tw_146 hd h
theorem gf_20 {X : KC} {d n : Nat} {cc : ByteArray} {pc : Nat} {L : List (Option KV)} {st : List KV} {σ : KM} {Z : Type} {Θ : Z → Prop} {F : Option Z} (hX : kOk X d cc n "KeyPath") (hd : decode cc pc = .ok (.getfield 54, 3)) (h : kJ X (pc + 3) L (kr 8 :: st) σ F Θ) : kJ X pc L (kr 0 :: st) σ F Θ :=
  k_getR hX 0 6 (by decide) rfl rfl rfl rfl k_lay0 (by decide) rfl tw_343 hd h
theorem gf_21 {X : KC} {d n : Nat} {cc : ByteArray} {pc : Nat} {L : List (Option KV)} {st : List KV} {σ : KM} {Z : Type} {Θ : Z → Prop} {F : Option Z} (hX : kOk X d cc n "KeyPath") (hd : decode cc pc = .ok (.getfield 331, 3)) (h : kJ X (pc + 3) L (ki (σ 8 13) :: st) σ F Θ) : kJ X pc L (kr 8 :: st) σ F Θ :=
  k_getI hX 8 13 (by decide) rfl rfl rfl rfl k_lay7 (by decide) rfl tw_273 hd rfl h
theorem gf_22 {X : KC} {d n : Nat} {cc : ByteArray} {pc : Nat} {L : List (Option KV)} {st : List KV} {σ : KM} {Z : Type} {Θ : Z → Prop} {F : Option Z} (hX : kOk X d cc n "KeyPath") (hd : decode cc pc = .ok (.getfield 350, 3)) (h : kJ X (pc + 3) L (ki (σ 8 7) :: st) σ F Θ) : kJ X pc L (kr 8 :: st) σ F Θ :=
  k_getI hX 8 7 (by decide) rfl rfl rfl rfl k_lay7 (by decide) rfl tw_260 hd rfl h
theorem gf_23 {X : KC} {d n : Nat} {cc : ByteArray} {pc : Nat} {L : List (Option KV)} {st : List KV} {σ : KM} {Z : Type} {Θ : Z → Prop} {F : Option Z} (hX : kOk X d cc n "KeyPath") (hd : decode cc pc = .ok (.getfield 40, 3)) (h : kJ X (pc + 3) L (kr 6 :: st) σ F Θ) : kJ X pc L (kr 0 :: st) σ F Θ :=
  k_getR hX 0 4 (by decide) rfl rfl rfl rfl k_lay0 (by decide) rfl tw_341 hd h
theorem gf_24 {X : KC} {d n : Nat} {cc : ByteArray} {pc : Nat} {L : List (Option KV)} {st : List KV} {σ : KM} {Z : Type} {Θ : Z → Prop} {F : Option Z} (hX : kOk X d cc n "KeyPath") (hd : decode cc pc = .ok (.getfield 330, 3)) (h : kJ X (pc + 3) L (ki (σ 6 3) :: st) σ F Θ) : kJ X pc L (kr 6 :: st) σ F Θ :=
  k_getI hX 6 3 (by decide) rfl rfl rfl rfl k_lay5 (by decide) rfl tw_187 hd rfl h
theorem gf_25 {X : KC} {d n : Nat} {cc : ByteArray} {pc : Nat} {L : List (Option KV)} {st : List KV} {σ : KM} {Z : Type} {Θ : Z → Prop} {F : Option Z} (hX : kOk X d cc n "KeyPath$Profiles") (hd : decode cc pc = .ok (.getfield 42, 3)) (h : kJ X (pc + 3) L (ki (σ 5 2) :: st) σ F Θ) : kJ X pc L (kr 5 :: st) σ F Θ :=
  k_getI hX 5 2 (by decide) rfl rfl rfl rfl k_lay4 (by decide) rfl tw_135 hd rfl h
theorem gf_26 {X : KC} {d n : Nat} {cc : ByteArray} {pc : Nat} {L : List (Option KV)} {st : List KV} {σ : KM} {Z : Type} {Θ : Z → Prop} {F : Option Z} (hX : kOk X d cc n "KeyPath$Profiles") (hd : decode cc pc = .ok (.getfield 50, 3)) (h : kJ X (pc + 3) L (kr 25 :: st) σ F Θ) : kJ X pc L (kr 5 :: st) σ F Θ :=
  k_getR hX 5 4 (by decide) rfl rfl rfl rfl k_lay4 (by decide) rfl tw_143 hd h
theorem gf_27 {X : KC} {d n : Nat} {cc : ByteArray} {pc : Nat} {L : List (Option KV)} {st : List KV} {σ : KM} {Z : Type} {Θ : Z → Prop} {F : Option Z} (hX : kOk X d cc n "KeyPath$Profiles") (hd : decode cc pc = .ok (.getfield 26, 3)) (h : kJ X (pc + 3) L (kr 29 :: st) σ F Θ) : kJ X pc L (kr 6 :: st) σ F Θ :=
  k_getR hX 6 2 (by decide) rfl rfl rfl rfl k_lay5 (by decide) rfl tw_184 hd h
theorem gf_28 {X : KC} {d n : Nat} {cc : ByteArray} {pc : Nat} {L : List (Option KV)} {st : List KV} {σ : KM} {Z : Type} {Θ : Z → Prop} {F : Option Z} (hX : kOk X d cc n "KeyPath$Profiles") (hd : decode cc pc = .ok (.getfield 18, 3)) (h : kJ X (pc + 3) L (kr 27 :: st) σ F Θ) : kJ X pc L (kr 6 :: st) σ F Θ :=
  k_getR hX 6 0 (by decide) rfl rfl rfl rfl k_lay5 (by decide) rfl tw_179 hd h
theorem gf_29 {X : KC} {d n : Nat} {cc : ByteArray} {pc : Nat} {L : List (Option KV)} {st : List KV} {σ : KM} {Z : Type} {Θ : Z → Prop} {F : Option Z} (hX : kOk X d cc n "KeyPath$Profiles") (hd : decode cc pc = .ok (.getfield 37, 3)) (h : kJ X (pc + 3) L (kr 24 :: st) σ F Θ) : kJ X pc L (kr 5 :: st) σ F Θ :=
  k_getR hX 5 3 (by decide) rfl rfl rfl rfl k_lay4 (by decide) rfl tw_139 hd h
theorem gf_30 {X : KC} {d n : Nat} {cc : ByteArray} {pc : Nat} {L : List (Option KV)} {st : List KV} {σ : KM} {Z : Type} {Θ : Z → Prop} {F : Option Z} (hX : kOk X d cc n "KeyPath$Profiles") (hd : decode cc pc = .ok (.getfield 23, 3)) (h : kJ X (pc + 3) L (kr 28 :: st) σ F Θ) : kJ X pc L (kr 6 :: st) σ F Θ :=
  k_getR hX 6 1 (by decide) rfl rfl rfl rfl k_lay5 (by decide) rfl tw_181 hd h
theorem gz_31 {X : KC} {d n : Nat} {cc : ByteArray} {pc : Nat} {L : List (Option KV)} {st : List KV} {σ : KM} {Z : Type} {Θ : Z → Prop} {a : Int} {G : KM → Option Z} (hX : kOk X d cc n "KeyPath$Profiles") (hd : decode cc pc = .ok (.putfield 29, 3)) (h : ∀ τ, kJ X (pc + 3) L st τ (G τ) Θ) : kJ X pc L (ki a :: kr 6 :: st) σ (kWfz σ 6 3 a G) Θ :=
  k_putZ hX 6 3 (by decide) rfl rfl rfl rfl k_lay5 k_ok5 k_n5 (by decide) rfl rfl rfl tw_186 hd rfl h
theorem gf_32 {X : KC} {d n : Nat} {cc : ByteArray} {pc : Nat} {L : List (Option KV)} {st : List KV} {σ : KM} {Z : Type} {Θ : Z → Prop} {F : Option Z} (hX : kOk X d cc n "KeyPath") (hd : decode cc pc = .ok (.getfield 47, 3)) (h : kJ X (pc + 3) L (kr 7 :: st) σ F Θ) : kJ X pc L (kr 0 :: st) σ F Θ :=
  k_getR hX 0 5 (by decide) rfl rfl rfl rfl k_lay0 (by decide) rfl tw_342 hd h
theorem gf_33 {X : KC} {d n : Nat} {cc : ByteArray} {pc : Nat} {L : List (Option KV)} {st : List KV} {σ : KM} {Z : Type} {Θ : Z → Prop} {F : Option Z} (hX : kOk X d cc n "KeyPath$Net") (hd : decode cc pc = .ok (.getfield 24, 3)) (h : kJ X (pc + 3) L (ki (σ 7 4) :: st) σ F Θ) : kJ X pc L (kr 7 :: st) σ F Θ :=
  k_getI hX 7 4 (by decide) rfl rfl rfl rfl k_lay6 (by decide) rfl tw_212 hd rfl h
theorem gz_34 {X : KC} {d n : Nat} {cc : ByteArray} {pc : Nat} {L : List (Option KV)} {st : List KV} {σ : KM} {Z : Type} {Θ : Z → Prop} {a : Int} {G : KM → Option Z} (hX : kOk X d cc n "KeyPath$Net") (hd : decode cc pc = .ok (.putfield 24, 3)) (h : ∀ τ, kJ X (pc + 3) L st τ (G τ) Θ) : kJ X pc L (ki a :: kr 7 :: st) σ (kWfz σ 7 4 a G) Θ :=
  k_putZ hX 7 4 (by decide) rfl rfl rfl rfl k_lay6 k_ok6 k_n6 (by decide) rfl rfl rfl tw_212 hd rfl h
theorem gf_35 {X : KC} {d n : Nat} {cc : ByteArray} {pc : Nat} {L : List (Option KV)} {st : List KV} {σ : KM} {Z : Type} {Θ : Z → Prop} {F : Option Z} (hX : kOk X d cc n "KeyPath$Net") (hd : decode cc pc = .ok (.getfield 35, 3)) (h : kJ X (pc + 3) L (kr 32 :: st) σ F Θ) : kJ X pc L (kr 7 :: st) σ F Θ :=
  k_getR hX 7 7 (by decide) rfl rfl rfl rfl k_lay6 (by decide) rfl tw_218 hd h
theorem gf_36 {X : KC} {d n : Nat} {cc : ByteArray} {pc : Nat} {L : List (Option KV)} {st : List KV} {σ : KM} {Z : Type} {Θ : Z → Prop} {F : Option Z} (hX : kOk X d cc n "KeyPath$Net") (hd : decode cc pc = .ok (.getfield 18, 3)) (h : kJ X (pc + 3) L (ki (σ 7 2) :: st) σ F Θ) : kJ X pc L (kr 7 :: st) σ F Θ :=
  k_getI hX 7 2 (by decide) rfl rfl rfl rfl k_lay6 (by decide) rfl tw_207 hd rfl h
theorem gf_37 {X : KC} {d n : Nat} {cc : ByteArray} {pc : Nat} {L : List (Option KV)} {st : List KV} {σ : KM} {Z : Type} {Θ : Z → Prop} {F : Option Z} (hX : kOk X d cc n "KeyPath$Net") (hd : decode cc pc = .ok (.getfield 9, 3)) (h : kJ X (pc + 3) L (ki (σ 7 0) :: st) σ F Θ) : kJ X pc L (kr 7 :: st) σ F Θ :=
  k_getI hX 7 0 (by decide) rfl rfl rfl rfl k_lay6 (by decide) rfl tw_203 hd rfl h
theorem gf_38 {X : KC} {d n : Nat} {cc : ByteArray} {pc : Nat} {L : List (Option KV)} {st : List KV} {σ : KM} {Z : Type} {Θ : Z → Prop} {F : Option Z} (hX : kOk X d cc n "KeyPath$Net") (hd : decode cc pc = .ok (.getfield 15, 3)) (h : kJ X (pc + 3) L (ki (σ 7 1) :: st) σ F Θ) : kJ X pc L (kr 7 :: st) σ F Θ :=
  k_getI hX 7 1 (by decide) rfl rfl rfl rfl k_lay6 (by decide) rfl tw_205 hd rfl h
theorem gf_39 {X : KC} {d n : Nat} {cc : ByteArray} {pc : Nat} {L : List (Option KV)} {st : List KV} {σ : KM} {Z : Type} {Θ : Z → Prop} {F : Option Z} (hX : kOk X d cc n "KeyPath$Net") (hd : decode cc pc = .ok (.getfield 32, 3)) (h : kJ X (pc + 3) L (kr 31 :: st) σ F Θ) : kJ X pc L (kr 7 :: st) σ F Θ :=
  k_getR hX 7 6 (by decide) rfl rfl rfl rfl k_lay6 (by decide) rfl tw_217 hd h
theorem gf_40 {X : KC} {d n : Nat} {cc : ByteArray} {pc : Nat} {L : List (Option KV)} {st : List KV} {σ : KM} {Z : Type} {Θ : Z → Prop} {F : Option Z} (hX : kOk X d cc n "KeyPath$Net") (hd : decode cc pc = .ok (.getfield 28, 3)) (h : kJ X (pc + 3) L (kr 30 :: st) σ F Θ) : kJ X pc L (kr 7 :: st) σ F Θ :=
  k_getR hX 7 5 (by decide) rfl rfl rfl rfl k_lay6 (by decide) rfl tw_214 hd h
theorem gf_41 {X : KC} {d n : Nat} {cc : ByteArray} {pc : Nat} {L : List (Option KV)} {st : List KV} {σ : KM} {Z : Type} {Θ : Z → Prop} {F : Option Z} (hX : kOk X d cc n "KeyPath$PathFinder") (hd : decode cc pc = .ok (.getfield 47, 3)) (h : kJ X (pc + 3) L (ki (σ 5 2) :: st) σ F Θ) : kJ X pc L (kr 5 :: st) σ F Θ :=
  k_getI hX 5 2 (by decide) rfl rfl rfl rfl k_lay4 (by decide) rfl tw_134 hd rfl h
theorem gp_42 {X : KC} {d n : Nat} {cc : ByteArray} {pc : Nat} {L : List (Option KV)} {st : List KV} {σ : KM} {Z : Type} {Θ : Z → Prop} {a : Int} {G : KM → Option Z} (hX : kOk X d cc n "KeyPath$PathFinder") (hd : decode cc pc = .ok (.putfield 53, 3)) (h : ∀ τ, kJ X (pc + 3) L st τ (G τ) Θ) : kJ X pc L (ki a :: kr 8 :: st) σ (kWf σ 8 1 a G) Θ :=
  k_putI hX 8 1 (by decide) rfl rfl rfl rfl k_lay7 k_ok7 k_n7 (by decide) rfl rfl rfl tw_247 hd rfl h
theorem gf_43 {X : KC} {d n : Nat} {cc : ByteArray} {pc : Nat} {L : List (Option KV)} {st : List KV} {σ : KM} {Z : Type} {Θ : Z → Prop} {F : Option Z} (hX : kOk X d cc n "KeyPath$PathFinder") (hd : decode cc pc = .ok (.getfield 53, 3)) (h : kJ X (pc + 3) L (ki (σ 8 1) :: st) σ F Θ) : kJ X pc L (kr 8 :: st) σ F Θ :=
  k_getI hX 8 1 (by decide) rfl rfl rfl rfl k_lay7 (by decide) rfl tw_247 hd rfl h
theorem gf_44 {X : KC} {d n : Nat} {cc : ByteArray} {pc : Nat} {L : List (Option KV)} {st : List KV} {σ : KM} {Z : Type} {Θ : Z → Prop} {F : Option Z} (hX : kOk X d cc n "KeyPath$PathFinder") (hd : decode cc pc = .ok (.getfield 18, 3)) (h : kJ X (pc + 3) L (kr 35 :: st) σ F Θ) : kJ X pc L (kr 8 :: st) σ F Θ :=
  k_getR hX 8 3 (by decide) rfl rfl rfl rfl k_lay7 (by decide) rfl tw_252 hd h
theorem gf_45 {X : KC} {d n : Nat} {cc : ByteArray} {pc : Nat} {L : List (Option KV)} {st : List KV} {σ : KM} {Z : Type} {Θ : Z → Prop} {F : Option Z} (hX : kOk X d cc n "KeyPath$PathFinder") (hd : decode cc pc = .ok (.getfield 9, 3)) (h : kJ X (pc + 3) L (kr 33 :: st) σ F Θ) : kJ X pc L (kr 8 :: st) σ F Θ :=
  k_getR hX 8 0 (by decide) rfl rfl rfl rfl k_lay7 (by decide) rfl tw_245 hd h
theorem gf_46 {X : KC} {d n : Nat} {cc : ByteArray} {pc : Nat} {L : List (Option KV)} {st : List KV} {σ : KM} {Z : Type} {Θ : Z → Prop} {F : Option Z} (hX : kOk X d cc n "KeyPath$PathFinder") (hd : decode cc pc = .ok (.getfield 15, 3)) (h : kJ X (pc + 3) L (kr 34 :: st) σ F Θ) : kJ X pc L (kr 8 :: st) σ F Θ :=
  k_getR hX 8 2 (by decide) rfl rfl rfl rfl k_lay7 (by decide) rfl tw_250 hd h
theorem gf_47 {X : KC} {d n : Nat} {cc : ByteArray} {pc : Nat} {L : List (Option KV)} {st : List KV} {σ : KM} {Z : Type} {Θ : Z → Prop} {F : Option Z} (hX : kOk X d cc n "KeyPath$PathFinder") (hd : decode cc pc = .ok (.getfield 57, 3)) (h : kJ X (pc + 3) L (kr 29 :: st) σ F Θ) : kJ X pc L (kr 6 :: st) σ F Θ :=
  k_getR hX 6 2 (by decide) rfl rfl rfl rfl k_lay5 (by decide) rfl tw_185 hd h
theorem gf_48 {X : KC} {d n : Nat} {cc : ByteArray} {pc : Nat} {L : List (Option KV)} {st : List KV} {σ : KM} {Z : Type} {Θ : Z → Prop} {F : Option Z} (hX : kOk X d cc n "KeyPath$PathFinder") (hd : decode cc pc = .ok (.getfield 62, 3)) (h : kJ X (pc + 3) L (kr 28 :: st) σ F Θ) : kJ X pc L (kr 6 :: st) σ F Θ :=
  k_getR hX 6 1 (by decide) rfl rfl rfl rfl k_lay5 (by decide) rfl tw_182 hd h
theorem gf_49 {X : KC} {d n : Nat} {cc : ByteArray} {pc : Nat} {L : List (Option KV)} {st : List KV} {σ : KM} {Z : Type} {Θ : Z → Prop} {F : Option Z} (hX : kOk X d cc n "KeyPath$PathFinder") (hd : decode cc pc = .ok (.getfield 54, 3)) (h : kJ X (pc + 3) L (kr 25 :: st) σ F Θ) : kJ X pc L (kr 5 :: st) σ F Θ :=
  k_getR hX 5 4 (by decide) rfl rfl rfl rfl k_lay4 (by decide) rfl tw_142 hd h
theorem gf_50 {X : KC} {d n : Nat} {cc : ByteArray} {pc : Nat} {L : List (Option KV)} {st : List KV} {σ : KM} {Z : Type} {Θ : Z → Prop} {F : Option Z} (hX : kOk X d cc n "KeyPath") (hd : decode cc pc = .ok (.getfield 171, 3)) (h : kJ X (pc + 3) L (ki (σ 7 3) :: st) σ F Θ) : kJ X pc L (kr 7 :: st) σ F Θ :=
  k_getI hX 7 3 (by decide) rfl rfl rfl rfl k_lay6 (by decide) rfl tw_211 hd rfl h
theorem gp_51 {X : KC} {d n : Nat} {cc : ByteArray} {pc : Nat} {L : List (Option KV)} {st : List KV} {σ : KM} {Z : Type} {Θ : Z → Prop} {a : Int} {G : KM → Option Z} (hX : kOk X d cc n "KeyPath$PathFinder") (hd : decode cc pc = .ok (.putfield 97, 3)) (h : ∀ τ, kJ X (pc + 3) L st τ (G τ) Θ) : kJ X pc L (ki a :: kr 8 :: st) σ (kWf σ 8 8 a G) Θ :=
  k_putI hX 8 8 (by decide) rfl rfl rfl rfl k_lay7 k_ok7 k_n7 (by decide) rfl rfl rfl tw_261 hd rfl h
theorem gp_52 {X : KC} {d n : Nat} {cc : ByteArray} {pc : Nat} {L : List (Option KV)} {st : List KV} {σ : KM} {Z : Type} {Θ : Z → Prop} {a : Int} {G : KM → Option Z} (hX : kOk X d cc n "KeyPath$PathFinder") (hd : decode cc pc = .ok (.putfield 100, 3)) (h : ∀ τ, kJ X (pc + 3) L st τ (G τ) Θ) : kJ X pc L (ki a :: kr 8 :: st) σ (kWf σ 8 9 a G) Θ :=
  k_putI hX 8 9 (by decide) rfl rfl rfl rfl k_lay7 k_ok7 k_n7 (by decide) rfl rfl rfl tw_263 hd rfl h
theorem gf_53 {X : KC} {d n : Nat} {cc : ByteArray} {pc : Nat} {L : List (Option KV)} {st : List KV} {σ : KM} {Z : Type} {Θ : Z → Prop} {F : Option Z} (hX : kOk X d cc n "KeyPath$PathFinder") (hd : decode cc pc = .ok (.getfield 97, 3)) (h : kJ X (pc + 3) L (ki (σ 8 8) :: st) σ F Θ) : kJ X pc L (kr 8 :: st) σ F Θ :=
  k_getI hX 8 8 (by decide) rfl rfl rfl rfl k_lay7 (by decide) rfl tw_261 hd rfl h
theorem gz_54 {X : KC} {d n : Nat} {cc : ByteArray} {pc : Nat} {L : List (Option KV)} {st : List KV} {σ : KM} {Z : Type} {Θ : Z → Prop} {a : Int} {G : KM → Option Z} (hX : kOk X d cc n "KeyPath$PathFinder") (hd : decode cc pc = .ok (.putfield 78, 3)) (h : ∀ τ, kJ X (pc + 3) L st τ (G τ) Θ) : kJ X pc L (ki a :: kr 8 :: st) σ (kWfz σ 8 7 a G) Θ :=
  k_putZ hX 8 7 (by decide) rfl rfl rfl rfl k_lay7 k_ok7 k_n7 (by decide) rfl rfl rfl tw_259 hd rfl h
theorem gf_55 {X : KC} {d n : Nat} {cc : ByteArray} {pc : Nat} {L : List (Option KV)} {st : List KV} {σ : KM} {Z : Type} {Θ : Z → Prop} {F : Option Z} (hX : kOk X d cc n "KeyPath$PathFinder") (hd : decode cc pc = .ok (.getfield 25, 3)) (h : kJ X (pc + 3) L (kr 37 :: st) σ F Θ) : kJ X pc L (kr 8 :: st) σ F Θ :=
  k_getR hX 8 5 (by decide) rfl rfl rfl rfl k_lay7 (by decide) rfl tw_256 hd h
theorem gf_56 {X : KC} {d n : Nat} {cc : ByteArray} {pc : Nat} {L : List (Option KV)} {st : List KV} {σ : KM} {Z : Type} {Θ : Z → Prop} {F : Option Z} (hX : kOk X d cc n "KeyPath$PathFinder") (hd : decode cc pc = .ok (.getfield 100, 3)) (h : kJ X (pc + 3) L (ki (σ 8 9) :: st) σ F Θ) : kJ X pc L (kr 8 :: st) σ F Θ :=
  k_getI hX 8 9 (by decide) rfl rfl rfl rfl k_lay7 (by decide) rfl tw_263 hd rfl h
theorem gf_57 {X : KC} {d n : Nat} {cc : ByteArray} {pc : Nat} {L : List (Option KV)} {st : List KV} {σ : KM} {Z : Type} {Θ : Z → Prop} {F : Option Z} (hX : kOk X d cc n "KeyPath$PathFinder") (hd : decode cc pc = .ok (.getfield 28, 3)) (h : kJ X (pc + 3) L (kr 38 :: st) σ F Θ) : kJ X pc L (kr 8 :: st) σ F Θ :=
  k_getR hX 8 6 (by decide) rfl rfl rfl rfl k_lay7 (by decide) rfl tw_258 hd h
theorem gf_58 {X : KC} {d n : Nat} {cc : ByteArray} {pc : Nat} {L : List (Option KV)} {st : List KV} {σ : KM} {Z : Type} {Θ : Z → Prop} {F : Option Z} (hX : kOk X d cc n "KeyPath$PathFinder") (hd : decode cc pc = .ok (.getfield 78, 3)) (h : kJ X (pc + 3) L (ki (σ 8 7) :: st) σ F Θ) : kJ X pc L (kr 8 :: st) σ F Θ :=
  k_getI hX 8 7 (by decide) rfl rfl rfl rfl k_lay7 (by decide) rfl tw_259 hd rfl h
theorem gp_59 {X : KC} {d n : Nat} {cc : ByteArray} {pc : Nat} {L : List (Option KV)} {st : List KV} {σ : KM} {Z : Type} {Θ : Z → Prop} {a : Int} {G : KM → Option Z} (hX : kOk X d cc n "KeyPath$PathFinder") (hd : decode cc pc = .ok (.putfield 111, 3)) (h : ∀ τ, kJ X (pc + 3) L st τ (G τ) Θ) : kJ X pc L (ki a :: kr 8 :: st) σ (kWf σ 8 12 a G) Θ :=
  k_putI hX 8 12 (by decide) rfl rfl rfl rfl k_lay7 k_ok7 k_n7 (by decide) rfl rfl rfl tw_270 hd rfl h
theorem gf_60 {X : KC} {d n : Nat} {cc : ByteArray} {pc : Nat} {L : List (Option KV)} {st : List KV} {σ : KM} {Z : Type} {Θ : Z → Prop} {F : Option Z} (hX : kOk X d cc n "KeyPath$PathFinder") (hd : decode cc pc = .ok (.getfield 34, 3)) (h : kJ X (pc + 3) L (kr 40 :: st) σ F Θ) : kJ X pc L (kr 8 :: st) σ F Θ :=
  k_getR hX 8 11 (by decide) rfl rfl rfl rfl k_lay7 (by decide) rfl tw_268 hd h
theorem gf_61 {X : KC} {d n : Nat} {cc : ByteArray} {pc : Nat} {L : List (Option KV)} {st : List KV} {σ : KM} {Z : Type} {Θ : Z → Prop} {F : Option Z} (hX : kOk X d cc n "KeyPath$PathFinder") (hd : decode cc pc = .ok (.getfield 111, 3)) (h : kJ X (pc + 3) L (ki (σ 8 12) :: st) σ F Θ) : kJ X pc L (kr 8 :: st) σ F Θ :=
  k_getI hX 8 12 (by decide) rfl rfl rfl rfl k_lay7 (by decide) rfl tw_270 hd rfl h
theorem gf_62 {X : KC} {d n : Nat} {cc : ByteArray} {pc : Nat} {L : List (Option KV)} {st : List KV} {σ : KM} {Z : Type} {Θ : Z → Prop} {F : Option Z} (hX : kOk X d cc n "KeyPath$PathFinder") (hd : decode cc pc = .ok (.getfield 31, 3)) (h : kJ X (pc + 3) L (kr 39 :: st) σ F Θ) : kJ X pc L (kr 8 :: st) σ F Θ :=
  k_getR hX 8 10 (by decide) rfl rfl rfl rfl k_lay7 (by decide) rfl tw_265 hd h
theorem gf_63 {X : KC} {d n : Nat} {cc : ByteArray} {pc : Nat} {L : List (Option KV)} {st : List KV} {σ : KM} {Z : Type} {Θ : Z → Prop} {F : Option Z} (hX : kOk X d cc n "KeyPath$PathFinder") (hd : decode cc pc = .ok (.getfield 22, 3)) (h : kJ X (pc + 3) L (kr 36 :: st) σ F Θ) : kJ X pc L (kr 8 :: st) σ F Θ :=
  k_getR hX 8 4 (by decide) rfl rfl rfl rfl k_lay7 (by decide) rfl tw_254 hd h
theorem gf_64 {X : KC} {d n : Nat} {cc : ByteArray} {pc : Nat} {L : List (Option KV)} {st : List KV} {σ : KM} {Z : Type} {Θ : Z → Prop} {F : Option Z} (hX : kOk X d cc n "KeyPath$PathFinder") (hd : decode cc pc = .ok (.getfield 66, 3)) (h : kJ X (pc + 3) L (kr 30 :: st) σ F Θ) : kJ X pc L (kr 7 :: st) σ F Θ :=
  k_getR hX 7 5 (by decide) rfl rfl rfl rfl k_lay6 (by decide) rfl tw_215 hd h
theorem gz_65 {X : KC} {d n : Nat} {cc : ByteArray} {pc : Nat} {L : List (Option KV)} {st : List KV} {σ : KM} {Z : Type} {Θ : Z → Prop} {a : Int} {G : KM → Option Z} (hX : kOk X d cc n "KeyPath") (hd : decode cc pc = .ok (.putfield 331, 3)) (h : ∀ τ, kJ X (pc + 3) L st τ (G τ) Θ) : kJ X pc L (ki a :: kr 8 :: st) σ (kWfz σ 8 13 a G) Θ :=
  k_putZ hX 8 13 (by decide) rfl rfl rfl rfl k_lay7 k_ok7 k_n7 (by decide) rfl rfl rfl tw_273 hd rfl h
theorem gz_66 {X : KC} {d n : Nat} {cc : ByteArray} {pc : Nat} {L : List (Option KV)} {st : List KV} {σ : KM} {Z : Type} {Θ : Z → Prop} {a : Int} {G : KM → Option Z} (hX : kOk X d cc n "KeyPath") (hd : decode cc pc = .ok (.putfield 346, 3)) (h : ∀ τ, kJ X (pc + 3) L st τ (G τ) Θ) : kJ X pc L (ki a :: kr 8 :: st) σ (kWfz σ 8 14 a G) Θ :=
  k_putZ hX 8 14 (by decide) rfl rfl rfl rfl k_lay7 k_ok7 k_n7 (by decide) rfl rfl rfl tw_275 hd rfl h
theorem gf_67 {X : KC} {d n : Nat} {cc : ByteArray} {pc : Nat} {L : List (Option KV)} {st : List KV} {σ : KM} {Z : Type} {Θ : Z → Prop} {F : Option Z} (hX : kOk X d cc n "KeyPath") (hd : decode cc pc = .ok (.getfield 61, 3)) (h : kJ X (pc + 3) L (kr 9 :: st) σ F Θ) : kJ X pc L (kr 0 :: st) σ F Θ :=
  k_getR hX 0 7 (by decide) rfl rfl rfl rfl k_lay0 (by decide) rfl tw_344 hd h
theorem gz_68 {X : KC} {d n : Nat} {cc : ByteArray} {pc : Nat} {L : List (Option KV)} {st : List KV} {σ : KM} {Z : Type} {Θ : Z → Prop} {a : Int} {G : KM → Option Z} (hX : kOk X d cc n "KeyPath$Detours") (hd : decode cc pc = .ok (.putfield 24, 3)) (h : ∀ τ, kJ X (pc + 3) L st τ (G τ) Θ) : kJ X pc L (ki a :: kr 9 :: st) σ (kWfz σ 9 1 a G) Θ :=
  k_putZ hX 9 1 (by decide) rfl rfl rfl rfl k_lay8 k_ok8 k_n8 (by decide) rfl rfl rfl tw_318 hd rfl h
theorem gz_69 {X : KC} {d n : Nat} {cc : ByteArray} {pc : Nat} {L : List (Option KV)} {st : List KV} {σ : KM} {Z : Type} {Θ : Z → Prop} {a : Int} {G : KM → Option Z} (hX : kOk X d cc n "KeyPath$Detours") (hd : decode cc pc = .ok (.putfield 28, 3)) (h : ∀ τ, kJ X (pc + 3) L st τ (G τ) Θ) : kJ X pc L (ki a :: kr 9 :: st) σ (kWfz σ 9 4 a G) Θ :=
  k_putZ hX 9 4 (by decide) rfl rfl rfl rfl k_lay8 k_ok8 k_n8 (by decide) rfl rfl rfl tw_322 hd rfl h
theorem gf_70 {X : KC} {d n : Nat} {cc : ByteArray} {pc : Nat} {L : List (Option KV)} {st : List KV} {σ : KM} {Z : Type} {Θ : Z → Prop} {F : Option Z} (hX : kOk X d cc n "KeyPath") (hd : decode cc pc = .ok (.getfield 240, 3)) (h : kJ X (pc + 3) L (kr 39 :: st) σ F Θ) : kJ X pc L (kr 8 :: st) σ F Θ :=
  k_getR hX 8 10 (by decide) rfl rfl rfl rfl k_lay7 (by decide) rfl tw_267 hd h
theorem gf_71 {X : KC} {d n : Nat} {cc : ByteArray} {pc : Nat} {L : List (Option KV)} {st : List KV} {σ : KM} {Z : Type} {Θ : Z → Prop} {F : Option Z} (hX : kOk X d cc n "KeyPath") (hd : decode cc pc = .ok (.getfield 283, 3)) (h : kJ X (pc + 3) L (ki (σ 8 12) :: st) σ F Θ) : kJ X pc L (kr 8 :: st) σ F Θ :=
  k_getI hX 8 12 (by decide) rfl rfl rfl rfl k_lay7 (by decide) rfl tw_271 hd rfl h
theorem gf_72 {X : KC} {d n : Nat} {cc : ByteArray} {pc : Nat} {L : List (Option KV)} {st : List KV} {σ : KM} {Z : Type} {Θ : Z → Prop} {F : Option Z} (hX : kOk X d cc n "KeyPath") (hd : decode cc pc = .ok (.getfield 286, 3)) (h : kJ X (pc + 3) L (kr 40 :: st) σ F Θ) : kJ X pc L (kr 8 :: st) σ F Θ :=
  k_getR hX 8 11 (by decide) rfl rfl rfl rfl k_lay7 (by decide) rfl tw_269 hd h
theorem gf_73 {X : KC} {d n : Nat} {cc : ByteArray} {pc : Nat} {L : List (Option KV)} {st : List KV} {σ : KM} {Z : Type} {Θ : Z → Prop} {F : Option Z} (hX : kOk X d cc n "KeyPath") (hd : decode cc pc = .ok (.getfield 237, 3)) (h : kJ X (pc + 3) L (ki (σ 8 8) :: st) σ F Θ) : kJ X pc L (kr 8 :: st) σ F Θ :=
  k_getI hX 8 8 (by decide) rfl rfl rfl rfl k_lay7 (by decide) rfl tw_262 hd rfl h
theorem gf_74 {X : KC} {d n : Nat} {cc : ByteArray} {pc : Nat} {L : List (Option KV)} {st : List KV} {σ : KM} {Z : Type} {Θ : Z → Prop} {F : Option Z} (hX : kOk X d cc n "KeyPath") (hd : decode cc pc = .ok (.getfield 92, 3)) (h : kJ X (pc + 3) L (ki (σ 3 3) :: st) σ F Θ) : kJ X pc L (kr 3 :: st) σ F Θ :=
  k_getI hX 3 3 (by decide) rfl rfl rfl rfl k_lay2 (by decide) rfl tw_49 hd rfl h
theorem gf_75 {X : KC} {d n : Nat} {cc : ByteArray} {pc : Nat} {L : List (Option KV)} {st : List KV} {σ : KM} {Z : Type} {Θ : Z → Prop} {F : Option Z} (hX : kOk X d cc n "KeyPath") (hd : decode cc pc = .ok (.getfield 26, 3)) (h : kJ X (pc + 3) L (kr 4 :: st) σ F Θ) : kJ X pc L (kr 0 :: st) σ F Θ :=
  k_getR hX 0 2 (by decide) rfl rfl rfl rfl k_lay0 (by decide) rfl tw_339 hd h
theorem gf_76 {X : KC} {d n : Nat} {cc : ByteArray} {pc : Nat} {L : List (Option KV)} {st : List KV} {σ : KM} {Z : Type} {Θ : Z → Prop} {F : Option Z} (hX : kOk X d cc n "KeyPath") (hd : decode cc pc = .ok (.getfield 134, 3)) (h : kJ X (pc + 3) L (ki (σ 4 5) :: st) σ F Θ) : kJ X pc L (kr 4 :: st) σ F Θ :=
  k_getI hX 4 5 (by decide) rfl rfl rfl rfl k_lay3 (by decide) rfl tw_110 hd rfl h
theorem gf_77 {X : KC} {d n : Nat} {cc : ByteArray} {pc : Nat} {L : List (Option KV)} {st : List KV} {σ : KM} {Z : Type} {Θ : Z → Prop} {F : Option Z} (hX : kOk X d cc n "KeyPath") (hd : decode cc pc = .ok (.getfield 12, 3)) (h : kJ X (pc + 3) L (kr 1 :: st) σ F Θ) : kJ X pc L (kr 0 :: st) σ F Θ :=
  k_getR hX 0 0 (by decide) rfl rfl rfl rfl k_lay0 (by decide) rfl tw_337 hd h
theorem gf_78 {X : KC} {d n : Nat} {cc : ByteArray} {pc : Nat} {L : List (Option KV)} {st : List KV} {σ : KM} {Z : Type} {Θ : Z → Prop} {F : Option Z} (hX : kOk X d cc n "KeyPath") (hd : decode cc pc = .ok (.getfield 65, 3)) (h : kJ X (pc + 3) L (ki (σ 1 1) :: st) σ F Θ) : kJ X pc L (kr 1 :: st) σ F Θ :=
  k_getI hX 1 1 (by decide) rfl rfl rfl rfl k_lay1 (by decide) rfl tw_62 hd rfl h
theorem gf_79 {X : KC} {d n : Nat} {cc : ByteArray} {pc : Nat} {L : List (Option KV)} {st : List KV} {σ : KM} {Z : Type} {Θ : Z → Prop} {F : Option Z} (hX : kOk X d cc n "KeyPath") (hd : decode cc pc = .ok (.getfield 149, 3)) (h : kJ X (pc + 3) L (ki (σ 5 0) :: st) σ F Θ) : kJ X pc L (kr 5 :: st) σ F Θ :=
  k_getI hX 5 0 (by decide) rfl rfl rfl rfl k_lay4 (by decide) rfl tw_131 hd rfl h
theorem gf_80 {X : KC} {d n : Nat} {cc : ByteArray} {pc : Nat} {L : List (Option KV)} {st : List KV} {σ : KM} {Z : Type} {Θ : Z → Prop} {F : Option Z} (hX : kOk X d cc n "KeyPath") (hd : decode cc pc = .ok (.getfield 152, 3)) (h : kJ X (pc + 3) L (ki (σ 5 1) :: st) σ F Θ) : kJ X pc L (kr 5 :: st) σ F Θ :=
  k_getI hX 5 1 (by decide) rfl rfl rfl rfl k_lay4 (by decide) rfl tw_133 hd rfl h
theorem gf_81 {X : KC} {d n : Nat} {cc : ByteArray} {pc : Nat} {L : List (Option KV)} {st : List KV} {σ : KM} {Z : Type} {Θ : Z → Prop} {F : Option Z} (hX : kOk X d cc n "KeyPath") (hd : decode cc pc = .ok (.getfield 174, 3)) (h : kJ X (pc + 3) L (ki (σ 7 0) :: st) σ F Θ) : kJ X pc L (kr 7 :: st) σ F Θ :=
  k_getI hX 7 0 (by decide) rfl rfl rfl rfl k_lay6 (by decide) rfl tw_204 hd rfl h
theorem gf_82 {X : KC} {d n : Nat} {cc : ByteArray} {pc : Nat} {L : List (Option KV)} {st : List KV} {σ : KM} {Z : Type} {Θ : Z → Prop} {F : Option Z} (hX : kOk X d cc n "KeyPath") (hd : decode cc pc = .ok (.getfield 177, 3)) (h : kJ X (pc + 3) L (ki (σ 7 1) :: st) σ F Θ) : kJ X pc L (kr 7 :: st) σ F Θ :=
  k_getI hX 7 1 (by decide) rfl rfl rfl rfl k_lay6 (by decide) rfl tw_206 hd rfl h
theorem gf_83 {X : KC} {d n : Nat} {cc : ByteArray} {pc : Nat} {L : List (Option KV)} {st : List KV} {σ : KM} {Z : Type} {Θ : Z → Prop} {F : Option Z} (hX : kOk X d cc n "KeyPath") (hd : decode cc pc = .ok (.getfield 180, 3)) (h : kJ X (pc + 3) L (ki (σ 7 2) :: st) σ F Θ) : kJ X pc L (kr 7 :: st) σ F Θ :=
  k_getI hX 7 2 (by decide) rfl rfl rfl rfl k_lay6 (by decide) rfl tw_208 hd rfl h
theorem gf_84 {X : KC} {d n : Nat} {cc : ByteArray} {pc : Nat} {L : List (Option KV)} {st : List KV} {σ : KM} {Z : Type} {Θ : Z → Prop} {F : Option Z} (hX : kOk X d cc n "KeyPath") (hd : decode cc pc = .ok (.getfield 227, 3)) (h : kJ X (pc + 3) L (kr 30 :: st) σ F Θ) : kJ X pc L (kr 7 :: st) σ F Θ :=
  k_getR hX 7 5 (by decide) rfl rfl rfl rfl k_lay6 (by decide) rfl tw_216 hd h
theorem gf_85 {X : KC} {d n : Nat} {cc : ByteArray} {pc : Nat} {L : List (Option KV)} {st : List KV} {σ : KM} {Z : Type} {Θ : Z → Prop} {F : Option Z} (hX : kOk X d cc n "KeyPath") (hd : decode cc pc = .ok (.getfield 114, 3)) (h : kJ X (pc + 3) L (kr 16 :: st) σ F Θ) : kJ X pc L (kr 3 :: st) σ F Θ :=
  k_getR hX 3 0 (by decide) rfl rfl rfl rfl k_lay2 (by decide) rfl tw_40 hd h
theorem gf_86 {X : KC} {d n : Nat} {cc : ByteArray} {pc : Nat} {L : List (Option KV)} {st : List KV} {σ : KM} {Z : Type} {Θ : Z → Prop} {F : Option Z} (hX : kOk X d cc n "KeyPath") (hd : decode cc pc = .ok (.getfield 118, 3)) (h : kJ X (pc + 3) L (kr 17 :: st) σ F Θ) : kJ X pc L (kr 3 :: st) σ F Θ :=
  k_getR hX 3 1 (by decide) rfl rfl rfl rfl k_lay2 (by decide) rfl tw_43 hd h
theorem gf_87 {X : KC} {d n : Nat} {cc : ByteArray} {pc : Nat} {L : List (Option KV)} {st : List KV} {σ : KM} {Z : Type} {Θ : Z → Prop} {F : Option Z} (hX : kOk X d cc n "KeyPath") (hd : decode cc pc = .ok (.getfield 121, 3)) (h : kJ X (pc + 3) L (kr 18 :: st) σ F Θ) : kJ X pc L (kr 3 :: st) σ F Θ :=
  k_getR hX 3 2 (by decide) rfl rfl rfl rfl k_lay2 (by decide) rfl tw_46 hd h
theorem gf_88 {X : KC} {d n : Nat} {cc : ByteArray} {pc : Nat} {L : List (Option KV)} {st : List KV} {σ : KM} {Z : Type} {Θ : Z → Prop} {F : Option Z} (hX : kOk X d cc n "KeyPath$History") (hd : decode cc pc = .ok (.getfield 27, 3)) (h : kJ X (pc + 3) L (ki (σ 4 5) :: st) σ F Θ) : kJ X pc L (kr 4 :: st) σ F Θ :=
  k_getI hX 4 5 (by decide) rfl rfl rfl rfl k_lay3 (by decide) rfl tw_109 hd rfl h
theorem gf_89 {X : KC} {d n : Nat} {cc : ByteArray} {pc : Nat} {L : List (Option KV)} {st : List KV} {σ : KM} {Z : Type} {Θ : Z → Prop} {F : Option Z} (hX : kOk X d cc n "KeyPath$History") (hd : decode cc pc = .ok (.getfield 9, 3)) (h : kJ X (pc + 3) L (kr 19 :: st) σ F Θ) : kJ X pc L (kr 4 :: st) σ F Θ :=
  k_getR hX 4 0 (by decide) rfl rfl rfl rfl k_lay3 (by decide) rfl tw_104 hd h
theorem gf_90 {X : KC} {d n : Nat} {cc : ByteArray} {pc : Nat} {L : List (Option KV)} {st : List KV} {σ : KM} {Z : Type} {Θ : Z → Prop} {F : Option Z} (hX : kOk X d cc n "KeyPath$History") (hd : decode cc pc = .ok (.getfield 15, 3)) (h : kJ X (pc + 3) L (kr 20 :: st) σ F Θ) : kJ X pc L (kr 4 :: st) σ F Θ :=
  k_getR hX 4 1 (by decide) rfl rfl rfl rfl k_lay3 (by decide) rfl tw_105 hd h
theorem gf_91 {X : KC} {d n : Nat} {cc : ByteArray} {pc : Nat} {L : List (Option KV)} {st : List KV} {σ : KM} {Z : Type} {Θ : Z → Prop} {F : Option Z} (hX : kOk X d cc n "KeyPath$History") (hd : decode cc pc = .ok (.getfield 18, 3)) (h : kJ X (pc + 3) L (kr 21 :: st) σ F Θ) : kJ X pc L (kr 4 :: st) σ F Θ :=
  k_getR hX 4 2 (by decide) rfl rfl rfl rfl k_lay3 (by decide) rfl tw_106 hd h
theorem gf_92 {X : KC} {d n : Nat} {cc : ByteArray} {pc : Nat} {L : List (Option KV)} {st : List KV} {σ : KM} {Z : Type} {Θ : Z → Prop} {F : Option Z} (hX : kOk X d cc n "KeyPath$History") (hd : decode cc pc = .ok (.getfield 21, 3)) (h : kJ X (pc + 3) L (kr 22 :: st) σ F Θ) : kJ X pc L (kr 4 :: st) σ F Θ :=
  k_getR hX 4 3 (by decide) rfl rfl rfl rfl k_lay3 (by decide) rfl tw_107 hd h
theorem gf_93 {X : KC} {d n : Nat} {cc : ByteArray} {pc : Nat} {L : List (Option KV)} {st : List KV} {σ : KM} {Z : Type} {Θ : Z → Prop} {F : Option Z} (hX : kOk X d cc n "KeyPath$History") (hd : decode cc pc = .ok (.getfield 24, 3)) (h : kJ X (pc + 3) L (kr 23 :: st) σ F Θ) : kJ X pc L (kr 4 :: st) σ F Θ :=
  k_getR hX 4 4 (by decide) rfl rfl rfl rfl k_lay3 (by decide) rfl tw_108 hd h
theorem gp_94 {X : KC} {d n : Nat} {cc : ByteArray} {pc : Nat} {L : List (Option KV)} {st : List KV} {σ : KM} {Z : Type} {Θ : Z → Prop} {a : Int} {G : KM → Option Z} (hX : kOk X d cc n "KeyPath$History") (hd : decode cc pc = .ok (.putfield 27, 3)) (h : ∀ τ, kJ X (pc + 3) L st τ (G τ) Θ) : kJ X pc L (ki a :: kr 4 :: st) σ (kWf σ 4 5 a G) Θ :=
  k_putI hX 4 5 (by decide) rfl rfl rfl rfl k_lay3 k_ok3 k_n3 (by decide) rfl rfl rfl tw_109 hd rfl h
theorem gf_95 {X : KC} {d n : Nat} {cc : ByteArray} {pc : Nat} {L : List (Option KV)} {st : List KV} {σ : KM} {Z : Type} {Θ : Z → Prop} {F : Option Z} (hX : kOk X d cc n "KeyPath$Notes") (hd : decode cc pc = .ok (.getfield 18, 3)) (h : kJ X (pc + 3) L (kr 18 :: st) σ F Θ) : kJ X pc L (kr 3 :: st) σ F Θ :=
  k_getR hX 3 2 (by decide) rfl rfl rfl rfl k_lay2 (by decide) rfl tw_44 hd h
theorem gp_96 {X : KC} {d n : Nat} {cc : ByteArray} {pc : Nat} {L : List (Option KV)} {st : List KV} {σ : KM} {Z : Type} {Θ : Z → Prop} {a : Int} {G : KM → Option Z} (hX : kOk X d cc n "KeyPath$Notes") (hd : decode cc pc = .ok (.putfield 21, 3)) (h : ∀ τ, kJ X (pc + 3) L st τ (G τ) Θ) : kJ X pc L (ki a :: kr 3 :: st) σ (kWf σ 3 3 a G) Θ :=
  k_putI hX 3 3 (by decide) rfl rfl rfl rfl k_lay2 k_ok2 k_n2 (by decide) rfl rfl rfl tw_47 hd rfl h
theorem gz_97 {X : KC} {d n : Nat} {cc : ByteArray} {pc : Nat} {L : List (Option KV)} {st : List KV} {σ : KM} {Z : Type} {Θ : Z → Prop} {a : Int} {G : KM → Option Z} (hX : kOk X d cc n "KeyPath") (hd : decode cc pc = .ok (.putfield 329, 3)) (h : ∀ τ, kJ X (pc + 3) L st τ (G τ) Θ) : kJ X pc L (ki a :: kr 5 :: st) σ (kWfz σ 5 6 a G) Θ :=
  k_putZ hX 5 6 (by decide) rfl rfl rfl rfl k_lay4 k_ok4 k_n4 (by decide) rfl rfl rfl tw_148 hd rfl h
theorem gz_98 {X : KC} {d n : Nat} {cc : ByteArray} {pc : Nat} {L : List (Option KV)} {st : List KV} {σ : KM} {Z : Type} {Θ : Z → Prop} {a : Int} {G : KM → Option Z} (hX : kOk X d cc n "KeyPath") (hd : decode cc pc = .ok (.putfield 330, 3)) (h : ∀ τ, kJ X (pc + 3) L st τ (G τ) Θ) : kJ X pc L (ki a :: kr 6 :: st) σ (kWfz σ 6 3 a G) Θ :=
  k_putZ hX 6 3 (by decide) rfl rfl rfl rfl k_lay5 k_ok5 k_n5 (by decide) rfl rfl rfl tw_187 hd rfl h
theorem gf_99 {X : KC} {d n : Nat} {cc : ByteArray} {pc : Nat} {L : List (Option KV)} {st : List KV} {σ : KM} {Z : Type} {Θ : Z → Prop} {F : Option Z} (hX : kOk X d cc n "KeyPath") (hd : decode cc pc = .ok (.getfield 95, 3)) (h : kJ X (pc + 3) L (ki (σ 1 4) :: st) σ F Θ) : kJ X pc L (kr 1 :: st) σ F Θ :=
  k_getI hX 1 4 (by decide) rfl rfl rfl rfl k_lay1 (by decide) rfl tw_69 hd rfl h
theorem gf_100 {X : KC} {d n : Nat} {cc : ByteArray} {pc : Nat} {L : List (Option KV)} {st : List KV} {σ : KM} {Z : Type} {Θ : Z → Prop} {F : Option Z} (hX : kOk X d cc n "KeyPath") (hd : decode cc pc = .ok (.getfield 76, 3)) (h : kJ X (pc + 3) L (ki (σ 1 3) :: st) σ F Θ) : kJ X pc L (kr 1 :: st) σ F Θ :=
  k_getI hX 1 3 (by decide) rfl rfl rfl rfl k_lay1 (by decide) rfl tw_67 hd rfl h
theorem gf_101 {X : KC} {d n : Nat} {cc : ByteArray} {pc : Nat} {L : List (Option KV)} {st : List KV} {σ : KM} {Z : Type} {Θ : Z → Prop} {F : Option Z} (hX : kOk X d cc n "KeyPath$TextReader") (hd : decode cc pc = .ok (.getfield 29, 3)) (h : kJ X (pc + 3) L (ki (σ 1 1) :: st) σ F Θ) : kJ X pc L (kr 1 :: st) σ F Θ :=
  k_getI hX 1 1 (by decide) rfl rfl rfl rfl k_lay1 (by decide) rfl tw_63 hd rfl h
theorem gf_102 {X : KC} {d n : Nat} {cc : ByteArray} {pc : Nat} {L : List (Option KV)} {st : List KV} {σ : KM} {Z : Type} {Θ : Z → Prop} {F : Option Z} (hX : kOk X d cc n "KeyPath$TextReader") (hd : decode cc pc = .ok (.getfield 9, 3)) (h : kJ X (pc + 3) L (kr 11 :: st) σ F Θ) : kJ X pc L (kr 1 :: st) σ F Θ :=
  k_getR hX 1 0 (by decide) rfl rfl rfl rfl k_lay1 (by decide) rfl tw_61 hd h
theorem gp_103 {X : KC} {d n : Nat} {cc : ByteArray} {pc : Nat} {L : List (Option KV)} {st : List KV} {σ : KM} {Z : Type} {Θ : Z → Prop} {a : Int} {G : KM → Option Z} (hX : kOk X d cc n "KeyPath$TextReader") (hd : decode cc pc = .ok (.putfield 29, 3)) (h : ∀ τ, kJ X (pc + 3) L st τ (G τ) Θ) : kJ X pc L (ki a :: kr 1 :: st) σ (kWf σ 1 1 a G) Θ :=
  k_putI hX 1 1 (by decide) rfl rfl rfl rfl k_lay1 k_ok1 k_n1 (by decide) rfl rfl rfl tw_63 hd rfl h
theorem gf_104 {X : KC} {d n : Nat} {cc : ByteArray} {pc : Nat} {L : List (Option KV)} {st : List KV} {σ : KM} {Z : Type} {Θ : Z → Prop} {F : Option Z} (hX : kOk X d cc n "KeyPath$PathFinder") (hd : decode cc pc = .ok (.getfield 117, 3)) (h : kJ X (pc + 3) L (ki (σ 8 14) :: st) σ F Θ) : kJ X pc L (kr 8 :: st) σ F Θ :=
  k_getI hX 8 14 (by decide) rfl rfl rfl rfl k_lay7 (by decide) rfl tw_274 hd rfl h
theorem gf_105 {X : KC} {d n : Nat} {cc : ByteArray} {pc : Nat} {L : List (Option KV)} {st : List KV} {σ : KM} {Z : Type} {Θ : Z → Prop} {F : Option Z} (hX : kOk X d cc n "KeyPath$PathFinder") (hd : decode cc pc = .ok (.getfield 124, 3)) (h : kJ X (pc + 3) L (ki (σ 8 15) :: st) σ F Θ) : kJ X pc L (kr 8 :: st) σ F Θ :=
  k_getI hX 8 15 (by decide) rfl rfl rfl rfl k_lay7 (by decide) rfl tw_276 hd rfl h
theorem gp_106 {X : KC} {d n : Nat} {cc : ByteArray} {pc : Nat} {L : List (Option KV)} {st : List KV} {σ : KM} {Z : Type} {Θ : Z → Prop} {a : Int} {G : KM → Option Z} (hX : kOk X d cc n "KeyPath$PathFinder") (hd : decode cc pc = .ok (.putfield 124, 3)) (h : ∀ τ, kJ X (pc + 3) L st τ (G τ) Θ) : kJ X pc L (ki a :: kr 8 :: st) σ (kWf σ 8 15 a G) Θ :=
  k_putI hX 8 15 (by decide) rfl rfl rfl rfl k_lay7 k_ok7 k_n7 (by decide) rfl rfl rfl tw_276 hd rfl h
theorem gz_107 {X : KC} {d n : Nat} {cc : ByteArray} {pc : Nat} {L : List (Option KV)} {st : List KV} {σ : KM} {Z : Type} {Θ : Z → Prop} {a : Int} {G : KM → Option Z} (hX : kOk X d cc n "KeyPath$PathFinder") (hd : decode cc pc = .ok (.putfield 117, 3)) (h : ∀ τ, kJ X (pc + 3) L st τ (G τ) Θ) : kJ X pc L (ki a :: kr 8 :: st) σ (kWfz σ 8 14 a G) Θ :=
  k_putZ hX 8 14 (by decide) rfl rfl rfl rfl k_lay7 k_ok7 k_n7 (by decide) rfl rfl rfl tw_274 hd rfl h
theorem gf_108 {X : KC} {d n : Nat} {cc : ByteArray} {pc : Nat} {L : List (Option KV)} {st : List KV} {σ : KM} {Z : Type} {Θ : Z → Prop} {F : Option Z} (hX : kOk X d cc n "KeyPath$PathFinder") (hd : decode cc pc = .ok (.getfield 127, 3)) (h : kJ X (pc + 3) L (ki (σ 7 3) :: st) σ F Θ) : kJ X pc L (kr 7 :: st) σ F Θ :=
  k_getI hX 7 3 (by decide) rfl rfl rfl rfl k_lay6 (by decide) rfl tw_210 hd rfl h
theorem gf_109 {X : KC} {d n : Nat} {cc : ByteArray} {pc : Nat} {L : List (Option KV)} {st : List KV} {σ : KM} {Z : Type} {Θ : Z → Prop} {F : Option Z} (hX : kOk X d cc n "KeyPath") (hd : decode cc pc = .ok (.getfield 215, 3)) (h : kJ X (pc + 3) L (kr 28 :: st) σ F Θ) : kJ X pc L (kr 6 :: st) σ F Θ :=
  k_getR hX 6 1 (by decide) rfl rfl rfl rfl k_lay5 (by decide) rfl tw_183 hd h
theorem gf_110 {X : KC} {d n : Nat} {cc : ByteArray} {pc : Nat} {L : List (Option KV)} {st : List KV} {σ : KM} {Z : Type} {Θ : Z → Prop} {F : Option Z} (hX : kOk X d cc n "KeyPath") (hd : decode cc pc = .ok (.getfield 202, 3)) (h : kJ X (pc + 3) L (kr 24 :: st) σ F Θ) : kJ X pc L (kr 5 :: st) σ F Θ :=
  k_getR hX 5 3 (by decide) rfl rfl rfl rfl k_lay4 (by decide) rfl tw_140 hd h
theorem gf_111 {X : KC} {d n : Nat} {cc : ByteArray} {pc : Nat} {L : List (Option KV)} {st : List KV} {σ : KM} {Z : Type} {Θ : Z → Prop} {F : Option Z} (hX : kOk X d cc n "KeyPath$Detours") (hd : decode cc pc = .ok (.getfield 31, 3)) (h : kJ X (pc + 3) L (ki (σ 8 1) :: st) σ F Θ) : kJ X pc L (kr 8 :: st) σ F Θ :=
  k_getI hX 8 1 (by decide) rfl rfl rfl rfl k_lay7 (by decide) rfl tw_248 hd rfl h
theorem gf_112 {X : KC} {d n : Nat} {cc : ByteArray} {pc : Nat} {L : List (Option KV)} {st : List KV} {σ : KM} {Z : Type} {Θ : Z → Prop} {F : Option Z} (hX : kOk X d cc n "KeyPath$Detours") (hd : decode cc pc = .ok (.getfield 21, 3)) (h : kJ X (pc + 3) L (kr 44 :: st) σ F Θ) : kJ X pc L (kr 9 :: st) σ F Θ :=
  k_getR hX 9 5 (by decide) rfl rfl rfl rfl k_lay8 (by decide) rfl tw_323 hd h
theorem gf_113 {X : KC} {d n : Nat} {cc : ByteArray} {pc : Nat} {L : List (Option KV)} {st : List KV} {σ : KM} {Z : Type} {Θ : Z → Prop} {F : Option Z} (hX : kOk X d cc n "KeyPath$Detours") (hd : decode cc pc = .ok (.getfield 45, 3)) (h : kJ X (pc + 3) L (kr 34 :: st) σ F Θ) : kJ X pc L (kr 8 :: st) σ F Θ :=
  k_getR hX 8 2 (by decide) rfl rfl rfl rfl k_lay7 (by decide) rfl tw_251 hd h
theorem gf_114 {X : KC} {d n : Nat} {cc : ByteArray} {pc : Nat} {L : List (Option KV)} {st : List KV} {σ : KM} {Z : Type} {Θ : Z → Prop} {F : Option Z} (hX : kOk X d cc n "KeyPath$Detours") (hd : decode cc pc = .ok (.getfield 37, 3)) (h : kJ X (pc + 3) L (kr 35 :: st) σ F Θ) : kJ X pc L (kr 8 :: st) σ F Θ :=
  k_getR hX 8 3 (by decide) rfl rfl rfl rfl k_lay7 (by decide) rfl tw_253 hd h
theorem gf_115 {X : KC} {d n : Nat} {cc : ByteArray} {pc : Nat} {L : List (Option KV)} {st : List KV} {σ : KM} {Z : Type} {Θ : Z → Prop} {F : Option Z} (hX : kOk X d cc n "KeyPath$Detours") (hd : decode cc pc = .ok (.getfield 53, 3)) (h : kJ X (pc + 3) L (kr 36 :: st) σ F Θ) : kJ X pc L (kr 8 :: st) σ F Θ :=
  k_getR hX 8 4 (by decide) rfl rfl rfl rfl k_lay7 (by decide) rfl tw_255 hd h
theorem gf_116 {X : KC} {d n : Nat} {cc : ByteArray} {pc : Nat} {L : List (Option KV)} {st : List KV} {σ : KM} {Z : Type} {Θ : Z → Prop} {F : Option Z} (hX : kOk X d cc n "KeyPath") (hd : decode cc pc = .ok (.getfield 199, 3)) (h : kJ X (pc + 3) L (kr 25 :: st) σ F Θ) : kJ X pc L (kr 5 :: st) σ F Θ :=
  k_getR hX 5 4 (by decide) rfl rfl rfl rfl k_lay4 (by decide) rfl tw_144 hd h
theorem gp_117 {X : KC} {d n : Nat} {cc : ByteArray} {pc : Nat} {L : List (Option KV)} {st : List KV} {σ : KM} {Z : Type} {Θ : Z → Prop} {a : Int} {G : KM → Option Z} (hX : kOk X d cc n "KeyPath$TextReader") (hd : decode cc pc = .ok (.putfield 38, 3)) (h : ∀ τ, kJ X (pc + 3) L st τ (G τ) Θ) : kJ X pc L (ki a :: kr 1 :: st) σ (kWf σ 1 5 a G) Θ :=
  k_putI hX 1 5 (by decide) rfl rfl rfl rfl k_lay1 k_ok1 k_n1 (by decide) rfl rfl rfl tw_70 hd rfl h
theorem gp_118 {X : KC} {d n : Nat} {cc : ByteArray} {pc : Nat} {L : List (Option KV)} {st : List KV} {σ : KM} {Z : Type} {Θ : Z → Prop} {a : Int} {G : KM → Option Z} (hX : kOk X d cc n "KeyPath$TextReader") (hd : decode cc pc = .ok (.putfield 41, 3)) (h : ∀ τ, kJ X (pc + 3) L st τ (G τ) Θ) : kJ X pc L (ki a :: kr 1 :: st) σ (kWf σ 1 6 a G) Θ :=
  k_putI hX 1 6 (by decide) rfl rfl rfl rfl k_lay1 k_ok1 k_n1 (by decide) rfl rfl rfl tw_71 hd rfl h
theorem gp_119 {X : KC} {d n : Nat} {cc : ByteArray} {pc : Nat} {L : List (Option KV)} {st : List KV} {σ : KM} {Z : Type} {Θ : Z → Prop} {a : Int} {G : KM → Option Z} (hX : kOk X d cc n "KeyPath$TextReader") (hd : decode cc pc = .ok (.putfield 44, 3)) (h : ∀ τ, kJ X (pc + 3) L st τ (G τ) Θ) : kJ X pc L (ki a :: kr 1 :: st) σ (kWf σ 1 7 a G) Θ :=
  k_putI hX 1 7 (by decide) rfl rfl rfl rfl k_lay1 k_ok1 k_n1 (by decide) rfl rfl rfl tw_72 hd rfl h
theorem gp_120 {X : KC} {d n : Nat} {cc : ByteArray} {pc : Nat} {L : List (Option KV)} {st : List KV} {σ : KM} {Z : Type} {Θ : Z → Prop} {a : Int} {G : KM → Option Z} (hX : kOk X d cc n "KeyPath$TextReader") (hd : decode cc pc = .ok (.putfield 47, 3)) (h : ∀ τ, kJ X (pc + 3) L st τ (G τ) Θ) : kJ X pc L (ki a :: kr 1 :: st) σ (kWf σ 1 3 a G) Θ :=
  k_putI hX 1 3 (by decide) rfl rfl rfl rfl k_lay1 k_ok1 k_n1 (by decide) rfl rfl rfl tw_66 hd rfl h
theorem gp_121 {X : KC} {d n : Nat} {cc : ByteArray} {pc : Nat} {L : List (Option KV)} {st : List KV} {σ : KM} {Z : Type} {Θ : Z → Prop} {a : Int} {G : KM → Option Z} (hX : kOk X d cc n "KeyPath$TextReader") (hd : decode cc pc = .ok (.putfield 22, 3)) (h : ∀ τ, kJ X (pc + 3) L st τ (G τ) Θ) : kJ X pc L (ki a :: kr 1 :: st) σ (kWf σ 1 4 a G) Θ :=
  k_putI hX 1 4 (by decide) rfl rfl rfl rfl k_lay1 k_ok1 k_n1 (by decide) rfl rfl rfl tw_68 hd rfl h
theorem gf_122 {X : KC} {d n : Nat} {cc : ByteArray} {pc : Nat} {L : List (Option KV)} {st : List KV} {σ : KM} {Z : Type} {Θ : Z → Prop} {F : Option Z} (hX : kOk X d cc n "KeyPath$TextReader") (hd : decode cc pc = .ok (.getfield 18, 3)) (h : kJ X (pc + 3) L (kr 2 :: st) σ F Θ) : kJ X pc L (kr 1 :: st) σ F Θ :=
  k_getR hX 1 2 (by decide) rfl rfl rfl rfl k_lay1 (by decide) rfl tw_64 hd h
theorem gp_123 {X : KC} {d n : Nat} {cc : ByteArray} {pc : Nat} {L : List (Option KV)} {st : List KV} {σ : KM} {Z : Type} {Θ : Z → Prop} {a : Int} {G : KM → Option Z} (hX : kOk X d cc n "KeyPath$TextReader") (hd : decode cc pc = .ok (.putfield 50, 3)) (h : ∀ τ, kJ X (pc + 3) L st τ (G τ) Θ) : kJ X pc L (ki a :: kr 2 :: st) σ (kWf σ 2 3 a G) Θ :=
  k_putI hX 2 3 (by decide) rfl rfl rfl rfl k_lay2 k_ok2 k_n2 (by decide) rfl rfl rfl tw_48 hd rfl h
theorem gf_124 {X : KC} {d n : Nat} {cc : ByteArray} {pc : Nat} {L : List (Option KV)} {st : List KV} {σ : KM} {Z : Type} {Θ : Z → Prop} {F : Option Z} (hX : kOk X d cc n "KeyPath$TextReader") (hd : decode cc pc = .ok (.getfield 38, 3)) (h : kJ X (pc + 3) L (ki (σ 1 5) :: st) σ F Θ) : kJ X pc L (kr 1 :: st) σ F Θ :=
  k_getI hX 1 5 (by decide) rfl rfl rfl rfl k_lay1 (by decide) rfl tw_70 hd rfl h
theorem gf_125 {X : KC} {d n : Nat} {cc : ByteArray} {pc : Nat} {L : List (Option KV)} {st : List KV} {σ : KM} {Z : Type} {Θ : Z → Prop} {F : Option Z} (hX : kOk X d cc n "KeyPath$TextReader") (hd : decode cc pc = .ok (.getfield 47, 3)) (h : kJ X (pc + 3) L (ki (σ 1 3) :: st) σ F Θ) : kJ X pc L (kr 1 :: st) σ F Θ :=
  k_getI hX 1 3 (by decide) rfl rfl rfl rfl k_lay1 (by decide) rfl tw_66 hd rfl h
theorem gf_126 {X : KC} {d n : Nat} {cc : ByteArray} {pc : Nat} {L : List (Option KV)} {st : List KV} {σ : KM} {Z : Type} {Θ : Z → Prop} {F : Option Z} (hX : kOk X d cc n "KeyPath$TextReader") (hd : decode cc pc = .ok (.getfield 41, 3)) (h : kJ X (pc + 3) L (ki (σ 1 6) :: st) σ F Θ) : kJ X pc L (kr 1 :: st) σ F Θ :=
  k_getI hX 1 6 (by decide) rfl rfl rfl rfl k_lay1 (by decide) rfl tw_71 hd rfl h
theorem gp_127 {X : KC} {d n : Nat} {cc : ByteArray} {pc : Nat} {L : List (Option KV)} {st : List KV} {σ : KM} {Z : Type} {Θ : Z → Prop} {a : Int} {G : KM → Option Z} (hX : kOk X d cc n "KeyPath$TextReader") (hd : decode cc pc = .ok (.putfield 60, 3)) (h : ∀ τ, kJ X (pc + 3) L st τ (G τ) Θ) : kJ X pc L (ki a :: kr 1 :: st) σ (kWf σ 1 9 a G) Θ :=
  k_putI hX 1 9 (by decide) rfl rfl rfl rfl k_lay1 k_ok1 k_n1 (by decide) rfl rfl rfl tw_74 hd rfl h
theorem gf_128 {X : KC} {d n : Nat} {cc : ByteArray} {pc : Nat} {L : List (Option KV)} {st : List KV} {σ : KM} {Z : Type} {Θ : Z → Prop} {F : Option Z} (hX : kOk X d cc n "KeyPath$TextReader") (hd : decode cc pc = .ok (.getfield 60, 3)) (h : kJ X (pc + 3) L (ki (σ 1 9) :: st) σ F Θ) : kJ X pc L (kr 1 :: st) σ F Θ :=
  k_getI hX 1 9 (by decide) rfl rfl rfl rfl k_lay1 (by decide) rfl tw_74 hd rfl h
theorem gf_129 {X : KC} {d n : Nat} {cc : ByteArray} {pc : Nat} {L : List (Option KV)} {st : List KV} {σ : KM} {Z : Type} {Θ : Z → Prop} {F : Option Z} (hX : kOk X d cc n "KeyPath$TextReader") (hd : decode cc pc = .ok (.getfield 50, 3)) (h : kJ X (pc + 3) L (ki (σ 2 3) :: st) σ F Θ) : kJ X pc L (kr 2 :: st) σ F Θ :=
  k_getI hX 2 3 (by decide) rfl rfl rfl rfl k_lay2 (by decide) rfl tw_48 hd rfl h
theorem gf_130 {X : KC} {d n : Nat} {cc : ByteArray} {pc : Nat} {L : List (Option KV)} {st : List KV} {σ : KM} {Z : Type} {Θ : Z → Prop} {F : Option Z} (hX : kOk X d cc n "KeyPath$TextReader") (hd : decode cc pc = .ok (.getfield 26, 3)) (h : kJ X (pc + 3) L (kr 12 :: st) σ F Θ) : kJ X pc L (kr 1 :: st) σ F Θ :=
  k_getR hX 1 8 (by decide) rfl rfl rfl rfl k_lay1 (by decide) rfl tw_73 hd h
theorem gf_131 {X : KC} {d n : Nat} {cc : ByteArray} {pc : Nat} {L : List (Option KV)} {st : List KV} {σ : KM} {Z : Type} {Θ : Z → Prop} {F : Option Z} (hX : kOk X d cc n "KeyPath$TextReader") (hd : decode cc pc = .ok (.getfield 44, 3)) (h : kJ X (pc + 3) L (ki (σ 1 7) :: st) σ F Θ) : kJ X pc L (kr 1 :: st) σ F Θ :=
  k_getI hX 1 7 (by decide) rfl rfl rfl rfl k_lay1 (by decide) rfl tw_72 hd rfl h
theorem gf_132 {X : KC} {d n : Nat} {cc : ByteArray} {pc : Nat} {L : List (Option KV)} {st : List KV} {σ : KM} {Z : Type} {Θ : Z → Prop} {F : Option Z} (hX : kOk X d cc n "KeyPath$Notes") (hd : decode cc pc = .ok (.getfield 21, 3)) (h : kJ X (pc + 3) L (ki (σ 2 3) :: st) σ F Θ) : kJ X pc L (kr 2 :: st) σ F Θ :=
  k_getI hX 2 3 (by decide) rfl rfl rfl rfl k_lay2 (by decide) rfl tw_47 hd rfl h
theorem gf_133 {X : KC} {d n : Nat} {cc : ByteArray} {pc : Nat} {L : List (Option KV)} {st : List KV} {σ : KM} {Z : Type} {Θ : Z → Prop} {F : Option Z} (hX : kOk X d cc n "KeyPath$Notes") (hd : decode cc pc = .ok (.getfield 9, 3)) (h : kJ X (pc + 3) L (kr 13 :: st) σ F Θ) : kJ X pc L (kr 2 :: st) σ F Θ :=
  k_getR hX 2 0 (by decide) rfl rfl rfl rfl k_lay2 (by decide) rfl tw_38 hd h
theorem gf_134 {X : KC} {d n : Nat} {cc : ByteArray} {pc : Nat} {L : List (Option KV)} {st : List KV} {σ : KM} {Z : Type} {Θ : Z → Prop} {F : Option Z} (hX : kOk X d cc n "KeyPath$Notes") (hd : decode cc pc = .ok (.getfield 18, 3)) (h : kJ X (pc + 3) L (kr 15 :: st) σ F Θ) : kJ X pc L (kr 2 :: st) σ F Θ :=
  k_getR hX 2 2 (by decide) rfl rfl rfl rfl k_lay2 (by decide) rfl tw_44 hd h
theorem gf_135 {X : KC} {d n : Nat} {cc : ByteArray} {pc : Nat} {L : List (Option KV)} {st : List KV} {σ : KM} {Z : Type} {Θ : Z → Prop} {F : Option Z} (hX : kOk X d cc n "KeyPath$Notes") (hd : decode cc pc = .ok (.getfield 15, 3)) (h : kJ X (pc + 3) L (kr 14 :: st) σ F Θ) : kJ X pc L (kr 2 :: st) σ F Θ :=
  k_getR hX 2 1 (by decide) rfl rfl rfl rfl k_lay2 (by decide) rfl tw_41 hd h
theorem gp_136 {X : KC} {d n : Nat} {cc : ByteArray} {pc : Nat} {L : List (Option KV)} {st : List KV} {σ : KM} {Z : Type} {Θ : Z → Prop} {a : Int} {G : KM → Option Z} (hX : kOk X d cc n "KeyPath$Notes") (hd : decode cc pc = .ok (.putfield 21, 3)) (h : ∀ τ, kJ X (pc + 3) L st τ (G τ) Θ) : kJ X pc L (ki a :: kr 2 :: st) σ (kWf σ 2 3 a G) Θ :=
  k_putI hX 2 3 (by decide) rfl rfl rfl rfl k_lay2 k_ok2 k_n2 (by decide) rfl rfl rfl tw_47 hd rfl h
theorem gf_137 {X : KC} {d n : Nat} {cc : ByteArray} {pc : Nat} {L : List (Option KV)} {st : List KV} {σ : KM} {Z : Type} {Θ : Z → Prop} {F : Option Z} (hX : kOk X d cc n "KeyPath") (hd : decode cc pc = .ok (.getfield 79, 3)) (h : kJ X (pc + 3) L (kr 2 :: st) σ F Θ) : kJ X pc L (kr 1 :: st) σ F Θ :=
  k_getR hX 1 2 (by decide) rfl rfl rfl rfl k_lay1 (by decide) rfl tw_65 hd h
theorem gp_138 {X : KC} {d n : Nat} {cc : ByteArray} {pc : Nat} {L : List (Option KV)} {st : List KV} {σ : KM} {Z : Type} {Θ : Z → Prop} {a : Int} {G : KM → Option Z} (hX : kOk X d cc n "KeyPath") (hd : decode cc pc = .ok (.putfield 174, 3)) (h : ∀ τ, kJ X (pc + 3) L st τ (G τ) Θ) : kJ X pc L (ki a :: kr 7 :: st) σ (kWf σ 7 0 a G) Θ :=
  k_putI hX 7 0 (by decide) rfl rfl rfl rfl k_lay6 k_ok6 k_n6 (by decide) rfl rfl rfl tw_204 hd rfl h
theorem gp_139 {X : KC} {d n : Nat} {cc : ByteArray} {pc : Nat} {L : List (Option KV)} {st : List KV} {σ : KM} {Z : Type} {Θ : Z → Prop} {a : Int} {G : KM → Option Z} (hX : kOk X d cc n "KeyPath") (hd : decode cc pc = .ok (.putfield 177, 3)) (h : ∀ τ, kJ X (pc + 3) L st τ (G τ) Θ) : kJ X pc L (ki a :: kr 7 :: st) σ (kWf σ 7 1 a G) Θ :=
  k_putI hX 7 1 (by decide) rfl rfl rfl rfl k_lay6 k_ok6 k_n6 (by decide) rfl rfl rfl tw_206 hd rfl h
theorem gp_140 {X : KC} {d n : Nat} {cc : ByteArray} {pc : Nat} {L : List (Option KV)} {st : List KV} {σ : KM} {Z : Type} {Θ : Z → Prop} {a : Int} {G : KM → Option Z} (hX : kOk X d cc n "KeyPath") (hd : decode cc pc = .ok (.putfield 180, 3)) (h : ∀ τ, kJ X (pc + 3) L st τ (G τ) Θ) : kJ X pc L (ki a :: kr 7 :: st) σ (kWf σ 7 2 a G) Θ :=
  k_putI hX 7 2 (by decide) rfl rfl rfl rfl k_lay6 k_ok6 k_n6 (by decide) rfl rfl rfl tw_208 hd rfl h
theorem gp_141 {X : KC} {d n : Nat} {cc : ByteArray} {pc : Nat} {L : List (Option KV)} {st : List KV} {σ : KM} {Z : Type} {Θ : Z → Prop} {a : Int} {G : KM → Option Z} (hX : kOk X d cc n "KeyPath") (hd : decode cc pc = .ok (.putfield 171, 3)) (h : ∀ τ, kJ X (pc + 3) L st τ (G τ) Θ) : kJ X pc L (ki a :: kr 7 :: st) σ (kWf σ 7 3 a G) Θ :=
  k_putI hX 7 3 (by decide) rfl rfl rfl rfl k_lay6 k_ok6 k_n6 (by decide) rfl rfl rfl tw_211 hd rfl h
theorem gz_142 {X : KC} {d n : Nat} {cc : ByteArray} {pc : Nat} {L : List (Option KV)} {st : List KV} {σ : KM} {Z : Type} {Θ : Z → Prop} {a : Int} {G : KM → Option Z} (hX : kOk X d cc n "KeyPath") (hd : decode cc pc = .ok (.putfield 183, 3)) (h : ∀ τ, kJ X (pc + 3) L st τ (G τ) Θ) : kJ X pc L (ki a :: kr 7 :: st) σ (kWfz σ 7 4 a G) Θ :=
  k_putZ hX 7 4 (by decide) rfl rfl rfl rfl k_lay6 k_ok6 k_n6 (by decide) rfl rfl rfl tw_213 hd rfl h
theorem gf_143 {X : KC} {d n : Nat} {cc : ByteArray} {pc : Nat} {L : List (Option KV)} {st : List KV} {σ : KM} {Z : Type} {Θ : Z → Prop} {F : Option Z} (hX : kOk X d cc n "KeyPath") (hd : decode cc pc = .ok (.getfield 193, 3)) (h : kJ X (pc + 3) L (kr 33 :: st) σ F Θ) : kJ X pc L (kr 8 :: st) σ F Θ :=
  k_getR hX 8 0 (by decide) rfl rfl rfl rfl k_lay7 (by decide) rfl tw_246 hd h
theorem gf_144 {X : KC} {d n : Nat} {cc : ByteArray} {pc : Nat} {L : List (Option KV)} {st : List KV} {σ : KM} {Z : Type} {Θ : Z → Prop} {F : Option Z} (hX : kOk X d cc n "KeyPath$Detours") (hd : decode cc pc = .ok (.getfield 24, 3)) (h : kJ X (pc + 3) L (ki (σ 9 1) :: st) σ F Θ) : kJ X pc L (kr 9 :: st) σ F Θ :=
  k_getI hX 9 1 (by decide) rfl rfl rfl rfl k_lay8 (by decide) rfl tw_318 hd rfl h
theorem gf_145 {X : KC} {d n : Nat} {cc : ByteArray} {pc : Nat} {L : List (Option KV)} {st : List KV} {σ : KM} {Z : Type} {Θ : Z → Prop} {F : Option Z} (hX : kOk X d cc n "KeyPath$Detours") (hd : decode cc pc = .ok (.getfield 9, 3)) (h : kJ X (pc + 3) L (kr 41 :: st) σ F Θ) : kJ X pc L (kr 9 :: st) σ F Θ :=
  k_getR hX 9 0 (by decide) rfl rfl rfl rfl k_lay8 (by decide) rfl tw_317 hd h
theorem gf_146 {X : KC} {d n : Nat} {cc : ByteArray} {pc : Nat} {L : List (Option KV)} {st : List KV} {σ : KM} {Z : Type} {Θ : Z → Prop} {F : Option Z} (hX : kOk X d cc n "KeyPath") (hd : decode cc pc = .ok (.getfield 262, 3)) (h : kJ X (pc + 3) L (ki (σ 8 1) :: st) σ F Θ) : kJ X pc L (kr 8 :: st) σ F Θ :=
  k_getI hX 8 1 (by decide) rfl rfl rfl rfl k_lay7 (by decide) rfl tw_249 hd rfl h
theorem gf_147 {X : KC} {d n : Nat} {cc : ByteArray} {pc : Nat} {L : List (Option KV)} {st : List KV} {σ : KM} {Z : Type} {Θ : Z → Prop} {F : Option Z} (hX : kOk X d cc n "KeyPath$Detours") (hd : decode cc pc = .ok (.getfield 68, 3)) (h : kJ X (pc + 3) L (kr 39 :: st) σ F Θ) : kJ X pc L (kr 8 :: st) σ F Θ :=
  k_getR hX 8 10 (by decide) rfl rfl rfl rfl k_lay7 (by decide) rfl tw_266 hd h
theorem gf_148 {X : KC} {d n : Nat} {cc : ByteArray} {pc : Nat} {L : List (Option KV)} {st : List KV} {σ : KM} {Z : Type} {Θ : Z → Prop} {F : Option Z} (hX : kOk X d cc n "KeyPath$Detours") (hd : decode cc pc = .ok (.getfield 61, 3)) (h : kJ X (pc + 3) L (kr 37 :: st) σ F Θ) : kJ X pc L (kr 8 :: st) σ F Θ :=
  k_getR hX 8 5 (by decide) rfl rfl rfl rfl k_lay7 (by decide) rfl tw_257 hd h
theorem gf_149 {X : KC} {d n : Nat} {cc : ByteArray} {pc : Nat} {L : List (Option KV)} {st : List KV} {σ : KM} {Z : Type} {Θ : Z → Prop} {F : Option Z} (hX : kOk X d cc n "KeyPath") (hd : decode cc pc = .ok (.getfield 243, 3)) (h : kJ X (pc + 3) L (ki (σ 8 9) :: st) σ F Θ) : kJ X pc L (kr 8 :: st) σ F Θ :=
  k_getI hX 8 9 (by decide) rfl rfl rfl rfl k_lay7 (by decide) rfl tw_264 hd rfl h
theorem gf_150 {X : KC} {d n : Nat} {cc : ByteArray} {pc : Nat} {L : List (Option KV)} {st : List KV} {σ : KM} {Z : Type} {Θ : Z → Prop} {F : Option Z} (hX : kOk X d cc n "KeyPath") (hd : decode cc pc = .ok (.getfield 165, 3)) (h : kJ X (pc + 3) L (kr 27 :: st) σ F Θ) : kJ X pc L (kr 6 :: st) σ F Θ :=
  k_getR hX 6 0 (by decide) rfl rfl rfl rfl k_lay5 (by decide) rfl tw_180 hd h
theorem gp_151 {X : KC} {d n : Nat} {cc : ByteArray} {pc : Nat} {L : List (Option KV)} {st : List KV} {σ : KM} {Z : Type} {Θ : Z → Prop} {a : Int} {G : KM → Option Z} (hX : kOk X d cc n "KeyPath") (hd : decode cc pc = .ok (.putfield 149, 3)) (h : ∀ τ, kJ X (pc + 3) L st τ (G τ) Θ) : kJ X pc L (ki a :: kr 5 :: st) σ (kWf σ 5 0 a G) Θ :=
  k_putI hX 5 0 (by decide) rfl rfl rfl rfl k_lay4 k_ok4 k_n4 (by decide) rfl rfl rfl tw_131 hd rfl h
theorem gp_152 {X : KC} {d n : Nat} {cc : ByteArray} {pc : Nat} {L : List (Option KV)} {st : List KV} {σ : KM} {Z : Type} {Θ : Z → Prop} {a : Int} {G : KM → Option Z} (hX : kOk X d cc n "KeyPath") (hd : decode cc pc = .ok (.putfield 152, 3)) (h : ∀ τ, kJ X (pc + 3) L st τ (G τ) Θ) : kJ X pc L (ki a :: kr 5 :: st) σ (kWf σ 5 1 a G) Θ :=
  k_putI hX 5 1 (by decide) rfl rfl rfl rfl k_lay4 k_ok4 k_n4 (by decide) rfl rfl rfl tw_133 hd rfl h
theorem gf_153 {X : KC} {d n : Nat} {cc : ByteArray} {pc : Nat} {L : List (Option KV)} {st : List KV} {σ : KM} {Z : Type} {Θ : Z → Prop} {F : Option Z} (hX : kOk X d cc n "KeyPath$Detours") (hd : decode cc pc = .ok (.getfield 28, 3)) (h : kJ X (pc + 3) L (ki (σ 9 4) :: st) σ F Θ) : kJ X pc L (kr 9 :: st) σ F Θ :=
  k_getI hX 9 4 (by decide) rfl rfl rfl rfl k_lay8 (by decide) rfl tw_322 hd rfl h
theorem gf_154 {X : KC} {d n : Nat} {cc : ByteArray} {pc : Nat} {L : List (Option KV)} {st : List KV} {σ : KM} {Z : Type} {Θ : Z → Prop} {F : Option Z} (hX : kOk X d cc n "KeyPath$Detours") (hd : decode cc pc = .ok (.getfield 18, 3)) (h : kJ X (pc + 3) L (kr 43 :: st) σ F Θ) : kJ X pc L (kr 9 :: st) σ F Θ :=
  k_getR hX 9 3 (by decide) rfl rfl rfl rfl k_lay8 (by decide) rfl tw_320 hd h
theorem gf_155 {X : KC} {d n : Nat} {cc : ByteArray} {pc : Nat} {L : List (Option KV)} {st : List KV} {σ : KM} {Z : Type} {Θ : Z → Prop} {F : Option Z} (hX : kOk X d cc n "KeyPath$Detours") (hd : decode cc pc = .ok (.getfield 15, 3)) (h : kJ X (pc + 3) L (kr 42 :: st) σ F Θ) : kJ X pc L (kr 9 :: st) σ F Θ :=
  k_getR hX 9 2 (by decide) rfl rfl rfl rfl k_lay8 (by decide) rfl tw_319 hd h
theorem gf_156 {X : KC} {d n : Nat} {cc : ByteArray} {pc : Nat} {L : List (Option KV)} {st : List KV} {σ : KM} {Z : Type} {Θ : Z → Prop} {F : Option Z} (hX : kOk X d cc n "KeyPath") (hd : decode cc pc = .ok (.getfield 273, 3)) (h : kJ X (pc + 3) L (kr 43 :: st) σ F Θ) : kJ X pc L (kr 9 :: st) σ F Θ :=
  k_getR hX 9 3 (by decide) rfl rfl rfl rfl k_lay8 (by decide) rfl tw_321 hd h
theorem gp_157 {X : KC} {d n : Nat} {cc : ByteArray} {pc : Nat} {L : List (Option KV)} {st : List KV} {σ : KM} {Z : Type} {Θ : Z → Prop} {a : Int} {G : KM → Option Z} (hX : kOk X d cc n "KeyPathModel") (hd : decode cc pc = .ok (.putfield 1, 3)) (h : ∀ τ, kJ X (pc + 3) L st τ (G τ) Θ) : kJ X pc L (ki a :: kr 10 :: st) σ (kWf σ 10 0 a G) Θ :=
  k_putI hX 10 0 (by decide) rfl rfl rfl rfl k_lay9 k_ok9 k_n9 (by decide) rfl rfl rfl tw_987 hd rfl h
theorem gf_158 {X : KC} {d n : Nat} {cc : ByteArray} {pc : Nat} {L : List (Option KV)} {st : List KV} {σ : KM} {Z : Type} {Θ : Z → Prop} {F : Option Z} (hX : kOk X d cc n "KeyPathModel") (hd : decode cc pc = .ok (.getfield 38, 3)) (h : kJ X (pc + 3) L (ki (σ 10 12) :: st) σ F Θ) : kJ X pc L (kr 10 :: st) σ F Θ :=
  k_getI hX 10 12 (by decide) rfl rfl rfl rfl k_lay9 (by decide) rfl tw_999 hd rfl h
theorem gf_159 {X : KC} {d n : Nat} {cc : ByteArray} {pc : Nat} {L : List (Option KV)} {st : List KV} {σ : KM} {Z : Type} {Θ : Z → Prop} {F : Option Z} (hX : kOk X d cc n "KeyPathModel") (hd : decode cc pc = .ok (.getfield 169, 3)) (h : kJ X (pc + 3) L (ki (σ 10 7) :: st) σ F Θ) : kJ X pc L (kr 10 :: st) σ F Θ :=
  k_getI hX 10 7 (by decide) rfl rfl rfl rfl k_lay9 (by decide) rfl tw_994 hd rfl h
theorem gf_160 {X : KC} {d n : Nat} {cc : ByteArray} {pc : Nat} {L : List (Option KV)} {st : List KV} {σ : KM} {Z : Type} {Θ : Z → Prop} {F : Option Z} (hX : kOk X d cc n "KeyPathModel") (hd : decode cc pc = .ok (.getfield 13, 3)) (h : kJ X (pc + 3) L (kr 45 :: st) σ F Θ) : kJ X pc L (kr 10 :: st) σ F Θ :=
  k_getR hX 10 1 (by decide) rfl rfl rfl rfl k_lay9 (by decide) rfl tw_988 hd h
theorem gf_161 {X : KC} {d n : Nat} {cc : ByteArray} {pc : Nat} {L : List (Option KV)} {st : List KV} {σ : KM} {Z : Type} {Θ : Z → Prop} {F : Option Z} (hX : kOk X d cc n "KeyPathModel") (hd : decode cc pc = .ok (.getfield 17, 3)) (h : kJ X (pc + 3) L (kr 46 :: st) σ F Θ) : kJ X pc L (kr 10 :: st) σ F Θ :=
  k_getR hX 10 2 (by decide) rfl rfl rfl rfl k_lay9 (by decide) rfl tw_989 hd h
theorem gf_162 {X : KC} {d n : Nat} {cc : ByteArray} {pc : Nat} {L : List (Option KV)} {st : List KV} {σ : KM} {Z : Type} {Θ : Z → Prop} {F : Option Z} (hX : kOk X d cc n "KeyPathModel") (hd : decode cc pc = .ok (.getfield 35, 3)) (h : kJ X (pc + 3) L (ki (σ 10 11) :: st) σ F Θ) : kJ X pc L (kr 10 :: st) σ F Θ :=
  k_getI hX 10 11 (by decide) rfl rfl rfl rfl k_lay9 (by decide) rfl tw_998 hd rfl h
theorem gp_163 {X : KC} {d n : Nat} {cc : ByteArray} {pc : Nat} {L : List (Option KV)} {st : List KV} {σ : KM} {Z : Type} {Θ : Z → Prop} {a : Int} {G : KM → Option Z} (hX : kOk X d cc n "KeyPathModel") (hd : decode cc pc = .ok (.putfield 223, 3)) (h : ∀ τ, kJ X (pc + 3) L st τ (G τ) Θ) : kJ X pc L (ki a :: kr 10 :: st) σ (kWf σ 10 27 a G) Θ :=
  k_putI hX 10 27 (by decide) rfl rfl rfl rfl k_lay9 k_ok9 k_n9 (by decide) rfl rfl rfl tw_1014 hd rfl h
theorem gf_164 {X : KC} {d n : Nat} {cc : ByteArray} {pc : Nat} {L : List (Option KV)} {st : List KV} {σ : KM} {Z : Type} {Θ : Z → Prop} {F : Option Z} (hX : kOk X d cc n "KeyPathModel") (hd : decode cc pc = .ok (.getfield 66, 3)) (h : kJ X (pc + 3) L (kr 55 :: st) σ F Θ) : kJ X pc L (kr 10 :: st) σ F Θ :=
  k_getR hX 10 26 (by decide) rfl rfl rfl rfl k_lay9 (by decide) rfl tw_1013 hd h
theorem gf_165 {X : KC} {d n : Nat} {cc : ByteArray} {pc : Nat} {L : List (Option KV)} {st : List KV} {σ : KM} {Z : Type} {Θ : Z → Prop} {F : Option Z} (hX : kOk X d cc n "KeyPathModel") (hd : decode cc pc = .ok (.getfield 20, 3)) (h : kJ X (pc + 3) L (kr 47 :: st) σ F Θ) : kJ X pc L (kr 10 :: st) σ F Θ :=
  k_getR hX 10 3 (by decide) rfl rfl rfl rfl k_lay9 (by decide) rfl tw_990 hd h
theorem gf_166 {X : KC} {d n : Nat} {cc : ByteArray} {pc : Nat} {L : List (Option KV)} {st : List KV} {σ : KM} {Z : Type} {Θ : Z → Prop} {F : Option Z} (hX : kOk X d cc n "KeyPathModel") (hd : decode cc pc = .ok (.getfield 223, 3)) (h : kJ X (pc + 3) L (ki (σ 10 27) :: st) σ F Θ) : kJ X pc L (kr 10 :: st) σ F Θ :=
  k_getI hX 10 27 (by decide) rfl rfl rfl rfl k_lay9 (by decide) rfl tw_1014 hd rfl h
theorem gf_167 {X : KC} {d n : Nat} {cc : ByteArray} {pc : Nat} {L : List (Option KV)} {st : List KV} {σ : KM} {Z : Type} {Θ : Z → Prop} {F : Option Z} (hX : kOk X d cc n "KeyPathModel") (hd : decode cc pc = .ok (.getfield 69, 3)) (h : kJ X (pc + 3) L (kr 56 :: st) σ F Θ) : kJ X pc L (kr 10 :: st) σ F Θ :=
  k_getR hX 10 28 (by decide) rfl rfl rfl rfl k_lay9 (by decide) rfl tw_1015 hd h
theorem gf_168 {X : KC} {d n : Nat} {cc : ByteArray} {pc : Nat} {L : List (Option KV)} {st : List KV} {σ : KM} {Z : Type} {Θ : Z → Prop} {F : Option Z} (hX : kOk X d cc n "KeyPathModel") (hd : decode cc pc = .ok (.getfield 72, 3)) (h : kJ X (pc + 3) L (kr 57 :: st) σ F Θ) : kJ X pc L (kr 10 :: st) σ F Θ :=
  k_getR hX 10 29 (by decide) rfl rfl rfl rfl k_lay9 (by decide) rfl tw_1016 hd h
theorem gf_169 {X : KC} {d n : Nat} {cc : ByteArray} {pc : Nat} {L : List (Option KV)} {st : List KV} {σ : KM} {Z : Type} {Θ : Z → Prop} {F : Option Z} (hX : kOk X d cc n "KeyPathModel") (hd : decode cc pc = .ok (.getfield 47, 3)) (h : kJ X (pc + 3) L (ki (σ 10 15) :: st) σ F Θ) : kJ X pc L (kr 10 :: st) σ F Θ :=
  k_getI hX 10 15 (by decide) rfl rfl rfl rfl k_lay9 (by decide) rfl tw_1002 hd rfl h
theorem gf_170 {X : KC} {d n : Nat} {cc : ByteArray} {pc : Nat} {L : List (Option KV)} {st : List KV} {σ : KM} {Z : Type} {Θ : Z → Prop} {F : Option Z} (hX : kOk X d cc n "KeyPathModel") (hd : decode cc pc = .ok (.getfield 44, 3)) (h : kJ X (pc + 3) L (ki (σ 10 14) :: st) σ F Θ) : kJ X pc L (kr 10 :: st) σ F Θ :=
  k_getI hX 10 14 (by decide) rfl rfl rfl rfl k_lay9 (by decide) rfl tw_1001 hd rfl h
theorem gf_171 {X : KC} {d n : Nat} {cc : ByteArray} {pc : Nat} {L : List (Option KV)} {st : List KV} {σ : KM} {Z : Type} {Θ : Z → Prop} {F : Option Z} (hX : kOk X d cc n "KeyPathModel") (hd : decode cc pc = .ok (.getfield 41, 3)) (h : kJ X (pc + 3) L (ki (σ 10 13) :: st) σ F Θ) : kJ X pc L (kr 10 :: st) σ F Θ :=
  k_getI hX 10 13 (by decide) rfl rfl rfl rfl k_lay9 (by decide) rfl tw_1000 hd rfl h
theorem gf_172 {X : KC} {d n : Nat} {cc : ByteArray} {pc : Nat} {L : List (Option KV)} {st : List KV} {σ : KM} {Z : Type} {Θ : Z → Prop} {F : Option Z} (hX : kOk X d cc n "KeyPathModel") (hd : decode cc pc = .ok (.getfield 75, 3)) (h : kJ X (pc + 3) L (kr 58 :: st) σ F Θ) : kJ X pc L (kr 10 :: st) σ F Θ :=
  k_getR hX 10 30 (by decide) rfl rfl rfl rfl k_lay9 (by decide) rfl tw_1017 hd h
theorem gp_173 {X : KC} {d n : Nat} {cc : ByteArray} {pc : Nat} {L : List (Option KV)} {st : List KV} {σ : KM} {Z : Type} {Θ : Z → Prop} {a : Int} {G : KM → Option Z} (hX : kOk X d cc n "KeyPathModel") (hd : decode cc pc = .ok (.putfield 267, 3)) (h : ∀ τ, kJ X (pc + 3) L st τ (G τ) Θ) : kJ X pc L (ki a :: kr 10 :: st) σ (kWf σ 10 37 a G) Θ :=
  k_putI hX 10 37 (by decide) rfl rfl rfl rfl k_lay9 k_ok9 k_n9 (by decide) rfl rfl rfl tw_1024 hd rfl h
theorem gf_174 {X : KC} {d n : Nat} {cc : ByteArray} {pc : Nat} {L : List (Option KV)} {st : List KV} {σ : KM} {Z : Type} {Θ : Z → Prop} {F : Option Z} (hX : kOk X d cc n "KeyPathModel") (hd : decode cc pc = .ok (.getfield 267, 3)) (h : kJ X (pc + 3) L (ki (σ 10 37) :: st) σ F Θ) : kJ X pc L (kr 10 :: st) σ F Θ :=
  k_getI hX 10 37 (by decide) rfl rfl rfl rfl k_lay9 (by decide) rfl tw_1024 hd rfl h
theorem gf_175 {X : KC} {d n : Nat} {cc : ByteArray} {pc : Nat} {L : List (Option KV)} {st : List KV} {σ : KM} {Z : Type} {Θ : Z → Prop} {F : Option Z} (hX : kOk X d cc n "KeyPathModel") (hd : decode cc pc = .ok (.getfield 93, 3)) (h : kJ X (pc + 3) L (kr 64 :: st) σ F Θ) : kJ X pc L (kr 10 :: st) σ F Θ :=
  k_getR hX 10 36 (by decide) rfl rfl rfl rfl k_lay9 (by decide) rfl tw_1023 hd h
theorem gf_176 {X : KC} {d n : Nat} {cc : ByteArray} {pc : Nat} {L : List (Option KV)} {st : List KV} {σ : KM} {Z : Type} {Θ : Z → Prop} {F : Option Z} (hX : kOk X d cc n "KeyPathModel") (hd : decode cc pc = .ok (.getfield 78, 3)) (h : kJ X (pc + 3) L (kr 59 :: st) σ F Θ) : kJ X pc L (kr 10 :: st) σ F Θ :=
  k_getR hX 10 31 (by decide) rfl rfl rfl rfl k_lay9 (by decide) rfl tw_1018 hd h
theorem gf_177 {X : KC} {d n : Nat} {cc : ByteArray} {pc : Nat} {L : List (Option KV)} {st : List KV} {σ : KM} {Z : Type} {Θ : Z → Prop} {F : Option Z} (hX : kOk X d cc n "KeyPathModel") (hd : decode cc pc = .ok (.getfield 56, 3)) (h : kJ X (pc + 3) L (kr 53 :: st) σ F Θ) : kJ X pc L (kr 10 :: st) σ F Θ :=
  k_getR hX 10 18 (by decide) rfl rfl rfl rfl k_lay9 (by decide) rfl tw_1005 hd h
theorem gf_178 {X : KC} {d n : Nat} {cc : ByteArray} {pc : Nat} {L : List (Option KV)} {st : List KV} {σ : KM} {Z : Type} {Θ : Z → Prop} {F : Option Z} (hX : kOk X d cc n "KeyPathModel") (hd : decode cc pc = .ok (.getfield 53, 3)) (h : kJ X (pc + 3) L (kr 52 :: st) σ F Θ) : kJ X pc L (kr 10 :: st) σ F Θ :=
  k_getR hX 10 17 (by decide) rfl rfl rfl rfl k_lay9 (by decide) rfl tw_1004 hd h
theorem gf_179 {X : KC} {d n : Nat} {cc : ByteArray} {pc : Nat} {L : List (Option KV)} {st : List KV} {σ : KM} {Z : Type} {Θ : Z → Prop} {F : Option Z} (hX : kOk X d cc n "KeyPathModel") (hd : decode cc pc = .ok (.getfield 50, 3)) (h : kJ X (pc + 3) L (ki (σ 10 16) :: st) σ F Θ) : kJ X pc L (kr 10 :: st) σ F Θ :=
  k_getI hX 10 16 (by decide) rfl rfl rfl rfl k_lay9 (by decide) rfl tw_1003 hd rfl h
theorem gp_180 {X : KC} {d n : Nat} {cc : ByteArray} {pc : Nat} {L : List (Option KV)} {st : List KV} {σ : KM} {Z : Type} {Θ : Z → Prop} {a : Int} {G : KM → Option Z} (hX : kOk X d cc n "KeyPathModel") (hd : decode cc pc = .ok (.putfield 278, 3)) (h : ∀ τ, kJ X (pc + 3) L st τ (G τ) Θ) : kJ X pc L (ki a :: kr 10 :: st) σ (kWf σ 10 38 a G) Θ :=
  k_putI hX 10 38 (by decide) rfl rfl rfl rfl k_lay9 k_ok9 k_n9 (by decide) rfl rfl rfl tw_1025 hd rfl h
theorem gf_181 {X : KC} {d n : Nat} {cc : ByteArray} {pc : Nat} {L : List (Option KV)} {st : List KV} {σ : KM} {Z : Type} {Θ : Z → Prop} {F : Option Z} (hX : kOk X d cc n "KeyPathModel") (hd : decode cc pc = .ok (.getfield 278, 3)) (h : kJ X (pc + 3) L (ki (σ 10 38) :: st) σ F Θ) : kJ X pc L (kr 10 :: st) σ F Θ :=
  k_getI hX 10 38 (by decide) rfl rfl rfl rfl k_lay9 (by decide) rfl tw_1025 hd rfl h
theorem gf_182 {X : KC} {d n : Nat} {cc : ByteArray} {pc : Nat} {L : List (Option KV)} {st : List KV} {σ : KM} {Z : Type} {Θ : Z → Prop} {F : Option Z} (hX : kOk X d cc n "KeyPathModel") (hd : decode cc pc = .ok (.getfield 90, 3)) (h : kJ X (pc + 3) L (kr 63 :: st) σ F Θ) : kJ X pc L (kr 10 :: st) σ F Θ :=
  k_getR hX 10 35 (by decide) rfl rfl rfl rfl k_lay9 (by decide) rfl tw_1022 hd h
theorem gf_183 {X : KC} {d n : Nat} {cc : ByteArray} {pc : Nat} {L : List (Option KV)} {st : List KV} {σ : KM} {Z : Type} {Θ : Z → Prop} {F : Option Z} (hX : kOk X d cc n "KeyPathModel") (hd : decode cc pc = .ok (.getfield 84, 3)) (h : kJ X (pc + 3) L (kr 61 :: st) σ F Θ) : kJ X pc L (kr 10 :: st) σ F Θ :=
  k_getR hX 10 33 (by decide) rfl rfl rfl rfl k_lay9 (by decide) rfl tw_1020 hd h
theorem gf_184 {X : KC} {d n : Nat} {cc : ByteArray} {pc : Nat} {L : List (Option KV)} {st : List KV} {σ : KM} {Z : Type} {Θ : Z → Prop} {F : Option Z} (hX : kOk X d cc n "KeyPathModel") (hd : decode cc pc = .ok (.getfield 87, 3)) (h : kJ X (pc + 3) L (kr 62 :: st) σ F Θ) : kJ X pc L (kr 10 :: st) σ F Θ :=
  k_getR hX 10 34 (by decide) rfl rfl rfl rfl k_lay9 (by decide) rfl tw_1021 hd h
theorem gf_185 {X : KC} {d n : Nat} {cc : ByteArray} {pc : Nat} {L : List (Option KV)} {st : List KV} {σ : KM} {Z : Type} {Θ : Z → Prop} {F : Option Z} (hX : kOk X d cc n "KeyPathModel") (hd : decode cc pc = .ok (.getfield 176, 3)) (h : kJ X (pc + 3) L (ki (σ 10 10) :: st) σ F Θ) : kJ X pc L (kr 10 :: st) σ F Θ :=
  k_getI hX 10 10 (by decide) rfl rfl rfl rfl k_lay9 (by decide) rfl tw_997 hd rfl h
theorem gf_186 {X : KC} {d n : Nat} {cc : ByteArray} {pc : Nat} {L : List (Option KV)} {st : List KV} {σ : KM} {Z : Type} {Θ : Z → Prop} {F : Option Z} (hX : kOk X d cc n "KeyPathModel") (hd : decode cc pc = .ok (.getfield 106, 3)) (h : kJ X (pc + 3) L (ki (σ 10 20) :: st) σ F Θ) : kJ X pc L (kr 10 :: st) σ F Θ :=
  k_getI hX 10 20 (by decide) rfl rfl rfl rfl k_lay9 (by decide) rfl tw_1007 hd rfl h
theorem gf_187 {X : KC} {d n : Nat} {cc : ByteArray} {pc : Nat} {L : List (Option KV)} {st : List KV} {σ : KM} {Z : Type} {Θ : Z → Prop} {F : Option Z} (hX : kOk X d cc n "KeyPathModel") (hd : decode cc pc = .ok (.getfield 32, 3)) (h : kJ X (pc + 3) L (kr 51 :: st) σ F Θ) : kJ X pc L (kr 10 :: st) σ F Θ :=
  k_getR hX 10 9 (by decide) rfl rfl rfl rfl k_lay9 (by decide) rfl tw_996 hd h
theorem gp_188 {X : KC} {d n : Nat} {cc : ByteArray} {pc : Nat} {L : List (Option KV)} {st : List KV} {σ : KM} {Z : Type} {Θ : Z → Prop} {a : Int} {G : KM → Option Z} (hX : kOk X d cc n "KeyPathModel") (hd : decode cc pc = .ok (.putfield 176, 3)) (h : ∀ τ, kJ X (pc + 3) L st τ (G τ) Θ) : kJ X pc L (ki a :: kr 10 :: st) σ (kWf σ 10 10 a G) Θ :=
  k_putI hX 10 10 (by decide) rfl rfl rfl rfl k_lay9 k_ok9 k_n9 (by decide) rfl rfl rfl tw_997 hd rfl h
theorem gp_189 {X : KC} {d n : Nat} {cc : ByteArray} {pc : Nat} {L : List (Option KV)} {st : List KV} {σ : KM} {Z : Type} {Θ : Z → Prop} {a : Int} {G : KM → Option Z} (hX : kOk X d cc n "KeyPathModel") (hd : decode cc pc = .ok (.putfield 169, 3)) (h : ∀ τ, kJ X (pc + 3) L st τ (G τ) Θ) : kJ X pc L (ki a :: kr 10 :: st) σ (kWf σ 10 7 a G) Θ :=
  k_putI hX 10 7 (by decide) rfl rfl rfl rfl k_lay9 k_ok9 k_n9 (by decide) rfl rfl rfl tw_994 hd rfl h
theorem gf_190 {X : KC} {d n : Nat} {cc : ByteArray} {pc : Nat} {L : List (Option KV)} {st : List KV} {σ : KM} {Z : Type} {Θ : Z → Prop} {F : Option Z} (hX : kOk X d cc n "KeyPathModel") (hd : decode cc pc = .ok (.getfield 63, 3)) (h : kJ X (pc + 3) L (ki (σ 10 24) :: st) σ F Θ) : kJ X pc L (kr 10 :: st) σ F Θ :=
  k_getI hX 10 24 (by decide) rfl rfl rfl rfl k_lay9 (by decide) rfl tw_1011 hd rfl h
theorem gf_191 {X : KC} {d n : Nat} {cc : ByteArray} {pc : Nat} {L : List (Option KV)} {st : List KV} {σ : KM} {Z : Type} {Θ : Z → Prop} {F : Option Z} (hX : kOk X d cc n "KeyPathModel") (hd : decode cc pc = .ok (.getfield 115, 3)) (h : kJ X (pc + 3) L (ki (σ 10 23) :: st) σ F Θ) : kJ X pc L (kr 10 :: st) σ F Θ :=
  k_getI hX 10 23 (by decide) rfl rfl rfl rfl k_lay9 (by decide) rfl tw_1010 hd rfl h
theorem gf_192 {X : KC} {d n : Nat} {cc : ByteArray} {pc : Nat} {L : List (Option KV)} {st : List KV} {σ : KM} {Z : Type} {Θ : Z → Prop} {F : Option Z} (hX : kOk X d cc n "KeyPathModel") (hd : decode cc pc = .ok (.getfield 59, 3)) (h : kJ X (pc + 3) L (kr 54 :: st) σ F Θ) : kJ X pc L (kr 10 :: st) σ F Θ :=
  k_getR hX 10 19 (by decide) rfl rfl rfl rfl k_lay9 (by decide) rfl tw_1006 hd h
theorem gp_193 {X : KC} {d n : Nat} {cc : ByteArray} {pc : Nat} {L : List (Option KV)} {st : List KV} {σ : KM} {Z : Type} {Θ : Z → Prop} {a : Int} {G : KM → Option Z} (hX : kOk X d cc n "KeyPathModel") (hd : decode cc pc = .ok (.putfield 106, 3)) (h : ∀ τ, kJ X (pc + 3) L st τ (G τ) Θ) : kJ X pc L (ki a :: kr 10 :: st) σ (kWf σ 10 20 a G) Θ :=
  k_putI hX 10 20 (by decide) rfl rfl rfl rfl k_lay9 k_ok9 k_n9 (by decide) rfl rfl rfl tw_1007 hd rfl h
theorem gf_194 {X : KC} {d n : Nat} {cc : ByteArray} {pc : Nat} {L : List (Option KV)} {st : List KV} {σ : KM} {Z : Type} {Θ : Z → Prop} {F : Option Z} (hX : kOk X d cc n "KeyPathModel") (hd : decode cc pc = .ok (.getfield 97, 3)) (h : kJ X (pc + 3) L (kr 65 :: st) σ F Θ) : kJ X pc L (kr 10 :: st) σ F Θ :=
  k_getR hX 10 39 (by decide) rfl rfl rfl rfl k_lay9 (by decide) rfl tw_1026 hd h
theorem gf_195 {X : KC} {d n : Nat} {cc : ByteArray} {pc : Nat} {L : List (Option KV)} {st : List KV} {σ : KM} {Z : Type} {Θ : Z → Prop} {F : Option Z} (hX : kOk X d cc n "KeyPathModel") (hd : decode cc pc = .ok (.getfield 100, 3)) (h : kJ X (pc + 3) L (kr 66 :: st) σ F Θ) : kJ X pc L (kr 10 :: st) σ F Θ :=
  k_getR hX 10 40 (by decide) rfl rfl rfl rfl k_lay9 (by decide) rfl tw_1027 hd h
theorem gp_196 {X : KC} {d n : Nat} {cc : ByteArray} {pc : Nat} {L : List (Option KV)} {st : List KV} {σ : KM} {Z : Type} {Θ : Z → Prop} {a : Int} {G : KM → Option Z} (hX : kOk X d cc n "KeyPathModel") (hd : decode cc pc = .ok (.putfield 112, 3)) (h : ∀ τ, kJ X (pc + 3) L st τ (G τ) Θ) : kJ X pc L (ki a :: kr 10 :: st) σ (kWf σ 10 21 a G) Θ :=
  k_putI hX 10 21 (by decide) rfl rfl rfl rfl k_lay9 k_ok9 k_n9 (by decide) rfl rfl rfl tw_1008 hd rfl h
theorem gp_197 {X : KC} {d n : Nat} {cc : ByteArray} {pc : Nat} {L : List (Option KV)} {st : List KV} {σ : KM} {Z : Type} {Θ : Z → Prop} {a : Int} {G : KM → Option Z} (hX : kOk X d cc n "KeyPathModel") (hd : decode cc pc = .ok (.putfield 109, 3)) (h : ∀ τ, kJ X (pc + 3) L st τ (G τ) Θ) : kJ X pc L (ki a :: kr 10 :: st) σ (kWf σ 10 22 a G) Θ :=
  k_putI hX 10 22 (by decide) rfl rfl rfl rfl k_lay9 k_ok9 k_n9 (by decide) rfl rfl rfl tw_1009 hd rfl h
theorem gp_198 {X : KC} {d n : Nat} {cc : ByteArray} {pc : Nat} {L : List (Option KV)} {st : List KV} {σ : KM} {Z : Type} {Θ : Z → Prop} {a : Int} {G : KM → Option Z} (hX : kOk X d cc n "KeyPathModel") (hd : decode cc pc = .ok (.putfield 115, 3)) (h : ∀ τ, kJ X (pc + 3) L st τ (G τ) Θ) : kJ X pc L (ki a :: kr 10 :: st) σ (kWf σ 10 23 a G) Θ :=
  k_putI hX 10 23 (by decide) rfl rfl rfl rfl k_lay9 k_ok9 k_n9 (by decide) rfl rfl rfl tw_1010 hd rfl h
theorem gp_199 {X : KC} {d n : Nat} {cc : ByteArray} {pc : Nat} {L : List (Option KV)} {st : List KV} {σ : KM} {Z : Type} {Θ : Z → Prop} {a : Int} {G : KM → Option Z} (hX : kOk X d cc n "KeyPathModel") (hd : decode cc pc = .ok (.putfield 63, 3)) (h : ∀ τ, kJ X (pc + 3) L st τ (G τ) Θ) : kJ X pc L (ki a :: kr 10 :: st) σ (kWf σ 10 24 a G) Θ :=
  k_putI hX 10 24 (by decide) rfl rfl rfl rfl k_lay9 k_ok9 k_n9 (by decide) rfl rfl rfl tw_1011 hd rfl h
theorem gp_200 {X : KC} {d n : Nat} {cc : ByteArray} {pc : Nat} {L : List (Option KV)} {st : List KV} {σ : KM} {Z : Type} {Θ : Z → Prop} {a : Int} {G : KM → Option Z} (hX : kOk X d cc n "KeyPathModel") (hd : decode cc pc = .ok (.putfield 140, 3)) (h : ∀ τ, kJ X (pc + 3) L st τ (G τ) Θ) : kJ X pc L (ki a :: kr 10 :: st) σ (kWf σ 10 25 a G) Θ :=
  k_putI hX 10 25 (by decide) rfl rfl rfl rfl k_lay9 k_ok9 k_n9 (by decide) rfl rfl rfl tw_1012 hd rfl h
theorem gp_201 {X : KC} {d n : Nat} {cc : ByteArray} {pc : Nat} {L : List (Option KV)} {st : List KV} {σ : KM} {Z : Type} {Θ : Z → Prop} {a : Int} {G : KM → Option Z} (hX : kOk X d cc n "KeyPathModel") (hd : decode cc pc = .ok (.putfield 151, 3)) (h : ∀ τ, kJ X (pc + 3) L st τ (G τ) Θ) : kJ X pc L (ki a :: kr 10 :: st) σ (kWf σ 10 8 a G) Θ :=
  k_putI hX 10 8 (by decide) rfl rfl rfl rfl k_lay9 k_ok9 k_n9 (by decide) rfl rfl rfl tw_995 hd rfl h
theorem gf_202 {X : KC} {d n : Nat} {cc : ByteArray} {pc : Nat} {L : List (Option KV)} {st : List KV} {σ : KM} {Z : Type} {Θ : Z → Prop} {F : Option Z} (hX : kOk X d cc n "KeyPathModel") (hd : decode cc pc = .ok (.getfield 151, 3)) (h : kJ X (pc + 3) L (ki (σ 10 8) :: st) σ F Θ) : kJ X pc L (kr 10 :: st) σ F Θ :=
  k_getI hX 10 8 (by decide) rfl rfl rfl rfl k_lay9 (by decide) rfl tw_995 hd rfl h
theorem gf_203 {X : KC} {d n : Nat} {cc : ByteArray} {pc : Nat} {L : List (Option KV)} {st : List KV} {σ : KM} {Z : Type} {Θ : Z → Prop} {F : Option Z} (hX : kOk X d cc n "KeyPathModel") (hd : decode cc pc = .ok (.getfield 23, 3)) (h : kJ X (pc + 3) L (kr 48 :: st) σ F Θ) : kJ X pc L (kr 10 :: st) σ F Θ :=
  k_getR hX 10 4 (by decide) rfl rfl rfl rfl k_lay9 (by decide) rfl tw_991 hd h
theorem gf_204 {X : KC} {d n : Nat} {cc : ByteArray} {pc : Nat} {L : List (Option KV)} {st : List KV} {σ : KM} {Z : Type} {Θ : Z → Prop} {F : Option Z} (hX : kOk X d cc n "KeyPathModel") (hd : decode cc pc = .ok (.getfield 26, 3)) (h : kJ X (pc + 3) L (kr 49 :: st) σ F Θ) : kJ X pc L (kr 10 :: st) σ F Θ :=
  k_getR hX 10 5 (by decide) rfl rfl rfl rfl k_lay9 (by decide) rfl tw_992 hd h
theorem gf_205 {X : KC} {d n : Nat} {cc : ByteArray} {pc : Nat} {L : List (Option KV)} {st : List KV} {σ : KM} {Z : Type} {Θ : Z → Prop} {F : Option Z} (hX : kOk X d cc n "KeyPathModel") (hd : decode cc pc = .ok (.getfield 29, 3)) (h : kJ X (pc + 3) L (kr 50 :: st) σ F Θ) : kJ X pc L (kr 10 :: st) σ F Θ :=
  k_getR hX 10 6 (by decide) rfl rfl rfl rfl k_lay9 (by decide) rfl tw_993 hd h
theorem gf_206 {X : KC} {d n : Nat} {cc : ByteArray} {pc : Nat} {L : List (Option KV)} {st : List KV} {σ : KM} {Z : Type} {Θ : Z → Prop} {F : Option Z} (hX : kOk X d cc n "KeyPathModel") (hd : decode cc pc = .ok (.getfield 109, 3)) (h : kJ X (pc + 3) L (ki (σ 10 22) :: st) σ F Θ) : kJ X pc L (kr 10 :: st) σ F Θ :=
  k_getI hX 10 22 (by decide) rfl rfl rfl rfl k_lay9 (by decide) rfl tw_1009 hd rfl h
theorem gf_207 {X : KC} {d n : Nat} {cc : ByteArray} {pc : Nat} {L : List (Option KV)} {st : List KV} {σ : KM} {Z : Type} {Θ : Z → Prop} {F : Option Z} (hX : kOk X d cc n "KeyPathModel") (hd : decode cc pc = .ok (.getfield 112, 3)) (h : kJ X (pc + 3) L (ki (σ 10 21) :: st) σ F Θ) : kJ X pc L (kr 10 :: st) σ F Θ :=
  k_getI hX 10 21 (by decide) rfl rfl rfl rfl k_lay9 (by decide) rfl tw_1008 hd rfl h
theorem gf_208 {X : KC} {d n : Nat} {cc : ByteArray} {pc : Nat} {L : List (Option KV)} {st : List KV} {σ : KM} {Z : Type} {Θ : Z → Prop} {F : Option Z} (hX : kOk X d cc n "KeyPathModel") (hd : decode cc pc = .ok (.getfield 140, 3)) (h : kJ X (pc + 3) L (ki (σ 10 25) :: st) σ F Θ) : kJ X pc L (kr 10 :: st) σ F Θ :=
  k_getI hX 10 25 (by decide) rfl rfl rfl rfl k_lay9 (by decide) rfl tw_1012 hd rfl h
theorem gp_209 {X : KC} {d n : Nat} {cc : ByteArray} {pc : Nat} {L : List (Option KV)} {st : List KV} {σ : KM} {Z : Type} {Θ : Z → Prop} {a : Int} {G : KM → Option Z} (hX : kOk X d cc n "KeyPathModel") (hd : decode cc pc = .ok (.putfield 41, 3)) (h : ∀ τ, kJ X (pc + 3) L st τ (G τ) Θ) : kJ X pc L (ki a :: kr 10 :: st) σ (kWf σ 10 13 a G) Θ :=
  k_putI hX 10 13 (by decide) rfl rfl rfl rfl k_lay9 k_ok9 k_n9 (by decide) rfl rfl rfl tw_1000 hd rfl h
theorem gp_210 {X : KC} {d n : Nat} {cc : ByteArray} {pc : Nat} {L : List (Option KV)} {st : List KV} {σ : KM} {Z : Type} {Θ : Z → Prop} {a : Int} {G : KM → Option Z} (hX : kOk X d cc n "KeyPathModel") (hd : decode cc pc = .ok (.putfield 44, 3)) (h : ∀ τ, kJ X (pc + 3) L st τ (G τ) Θ) : kJ X pc L (ki a :: kr 10 :: st) σ (kWf σ 10 14 a G) Θ :=
  k_putI hX 10 14 (by decide) rfl rfl rfl rfl k_lay9 k_ok9 k_n9 (by decide) rfl rfl rfl tw_1001 hd rfl h
theorem gp_211 {X : KC} {d n : Nat} {cc : ByteArray} {pc : Nat} {L : List (Option KV)} {st : List KV} {σ : KM} {Z : Type} {Θ : Z → Prop} {a : Int} {G : KM → Option Z} (hX : kOk X d cc n "KeyPathModel") (hd : decode cc pc = .ok (.putfield 47, 3)) (h : ∀ τ, kJ X (pc + 3) L st τ (G τ) Θ) : kJ X pc L (ki a :: kr 10 :: st) σ (kWf σ 10 15 a G) Θ :=
  k_putI hX 10 15 (by decide) rfl rfl rfl rfl k_lay9 k_ok9 k_n9 (by decide) rfl rfl rfl tw_1002 hd rfl h
theorem gp_212 {X : KC} {d n : Nat} {cc : ByteArray} {pc : Nat} {L : List (Option KV)} {st : List KV} {σ : KM} {Z : Type} {Θ : Z → Prop} {a : Int} {G : KM → Option Z} (hX : kOk X d cc n "KeyPathModel") (hd : decode cc pc = .ok (.putfield 50, 3)) (h : ∀ τ, kJ X (pc + 3) L st τ (G τ) Θ) : kJ X pc L (ki a :: kr 10 :: st) σ (kWf σ 10 16 a G) Θ :=
  k_putI hX 10 16 (by decide) rfl rfl rfl rfl k_lay9 k_ok9 k_n9 (by decide) rfl rfl rfl tw_1003 hd rfl h
theorem gf_213 {X : KC} {d n : Nat} {cc : ByteArray} {pc : Nat} {L : List (Option KV)} {st : List KV} {σ : KM} {Z : Type} {Θ : Z → Prop} {F : Option Z} (hX : kOk X d cc n "KeyPathModel") (hd : decode cc pc = .ok (.getfield 103, 3)) (h : kJ X (pc + 3) L (kr 67 :: st) σ F Θ) : kJ X pc L (kr 10 :: st) σ F Θ :=
  k_getR hX 10 41 (by decide) rfl rfl rfl rfl k_lay9 (by decide) rfl tw_1028 hd h
theorem gf_214 {X : KC} {d n : Nat} {cc : ByteArray} {pc : Nat} {L : List (Option KV)} {st : List KV} {σ : KM} {Z : Type} {Θ : Z → Prop} {F : Option Z} (hX : kOk X d cc n "KeyPathModel") (hd : decode cc pc = .ok (.getfield 81, 3)) (h : kJ X (pc + 3) L (kr 60 :: st) σ F Θ) : kJ X pc L (kr 10 :: st) σ F Θ :=
  k_getR hX 10 32 (by decide) rfl rfl rfl rfl k_lay9 (by decide) rfl tw_1019 hd h
theorem gp_215 {X : KC} {d n : Nat} {cc : ByteArray} {pc : Nat} {L : List (Option KV)} {st : List KV} {σ : KM} {Z : Type} {Θ : Z → Prop} {a : Int} {G : KM → Option Z} (hX : kOk X d cc n "KeyPathModel") (hd : decode cc pc = .ok (.putfield 35, 3)) (h : ∀ τ, kJ X (pc + 3) L st τ (G τ) Θ) : kJ X pc L (ki a :: kr 10 :: st) σ (kWf σ 10 11 a G) Θ :=
  k_putI hX 10 11 (by decide) rfl rfl rfl rfl k_lay9 k_ok9 k_n9 (by decide) rfl rfl rfl tw_998 hd rfl h
theorem gp_216 {X : KC} {d n : Nat} {cc : ByteArray} {pc : Nat} {L : List (Option KV)} {st : List KV} {σ : KM} {Z : Type} {Θ : Z → Prop} {a : Int} {G : KM → Option Z} (hX : kOk X d cc n "KeyPathModel") (hd : decode cc pc = .ok (.putfield 38, 3)) (h : ∀ τ, kJ X (pc + 3) L st τ (G τ) Θ) : kJ X pc L (ki a :: kr 10 :: st) σ (kWf σ 10 12 a G) Θ :=
  k_putI hX 10 12 (by decide) rfl rfl rfl rfl k_lay9 k_ok9 k_n9 (by decide) rfl rfl rfl tw_999 hd rfl h
