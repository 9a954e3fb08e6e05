theorem cw_1 : (Cond.initialized "KeyPath") ∈ k_Tg := k_tg 1 (by decide +kernel) rfl
theorem cw_2 : (Cond.initialized "KeyPath$TextReader") ∈ k_Tg := k_tg 2 (by decide +kernel) rfl
theorem cw_3 : (Cond.initialized "KeyPath$Notes") ∈ k_Tg := k_tg 3 (by decide +kernel) rfl
theorem cw_4 : (Cond.initialized "KeyPath$History") ∈ k_Tg := k_tg 4 (by decide +kernel) rfl
theorem cw_5 : (Cond.initialized "KeyPath$Windows") ∈ k_Tg := k_tg 5 (by decide +kernel) rfl
theorem cw_6 : (Cond.initialized "KeyPath$Profiles") ∈ k_Tg := k_tg 6 (by decide +kernel) rfl
theorem cw_7 : (Cond.initialized "KeyPath$Net") ∈ k_Tg := k_tg 7 (by decide +kernel) rfl
theorem cw_8 : (Cond.initialized "KeyPath$PathFinder") ∈ k_Tg := k_tg 8 (by decide +kernel) rfl
theorem cw_9 : (Cond.initialized "java/util/Arrays") ∈ k_Tg := k_tg 9 (by decide +kernel) rfl
theorem cw_10 : (Cond.initialized "KeyPath$Detours") ∈ k_Tg := k_tg 10 (by decide +kernel) rfl
theorem cw_11 : (Cond.initialized "KeyPathModel") ∈ k_Tg := k_tg 11 (by decide +kernel) rfl
theorem cw_18 : (Cond.classLink "KeyPathLaw" (7 : Nat) "KeyPath") ∈ k_Tg := k_tg 18 (by decide +kernel) rfl
theorem cw_19 : (Cond.instantiable "KeyPath" (8 : Nat)) ∈ k_Tg := k_tg 19 (by decide +kernel) rfl
theorem cw_20 : (Cond.methodLink "KeyPathLaw" (9 : Nat) ({ cls := "KeyPath", name := "<init>", desc := "()V" } : MethodName)) ∈ k_Tg := k_tg 20 (by decide +kernel) rfl
theorem cw_21 : (Cond.instanceMethod ({ cls := "KeyPath", name := "<init>", desc := "()V" } : MethodName)) ∈ k_Tg := k_tg 21 (by decide +kernel) rfl
theorem cw_22 : (Cond.code ({ cls := "KeyPath", name := "<init>", desc := "()V" } : MethodName) prog_1_method_1_code (1 : Nat) (Option.none : Option FieldType)) ∈ k_Tg := k_tg 22 (by decide +kernel) rfl
theorem cw_23 : (Cond.methodLink "KeyPath" (3 : Nat) ({ cls := "java/lang/Object", name := "<init>", desc := "()V" } : MethodName)) ∈ k_Tg := k_tg 23 (by decide +kernel) rfl
theorem cw_24 : (Cond.instanceMethod ({ cls := "java/lang/Object", name := "<init>", desc := "()V" } : MethodName)) ∈ k_Tg := k_tg 24 (by decide +kernel) rfl
theorem cw_25 : Cond.code Lib.objectInit ⟨#[0xb1]⟩ 1 none ∈ k_Tg := k_tg 25 (by decide +kernel) rfl
theorem cw_26 : (Cond.classLink "KeyPath" (9 : Nat) "KeyPath$TextReader") ∈ k_Tg := k_tg 26 (by decide +kernel) rfl
theorem cw_27 : (Cond.instantiable "KeyPath$TextReader" (10 : Nat)) ∈ k_Tg := k_tg 27 (by decide +kernel) rfl
theorem cw_29 : (Cond.instanceMethod ({ cls := "KeyPath$TextReader", name := "<init>", desc := "()V" } : MethodName)) ∈ k_Tg := k_tg 29 (by decide +kernel) rfl
theorem cw_30 : (Cond.code ({ cls := "KeyPath$TextReader", name := "<init>", desc := "()V" } : MethodName) prog_8_method_1_code (1 : Nat) (Option.none : Option FieldType)) ∈ k_Tg := k_tg 30 (by decide +kernel) rfl
theorem cw_31 : (Cond.methodLink "KeyPath$TextReader" (3 : Nat) ({ cls := "java/lang/Object", name := "<init>", desc := "()V" } : MethodName)) ∈ k_Tg := k_tg 31 (by decide +kernel) rfl
theorem cw_32 : (Cond.classLink "KeyPath$TextReader" (15 : Nat) "KeyPath$Notes") ∈ k_Tg := k_tg 32 (by decide +kernel) rfl
theorem cw_33 : (Cond.instantiable "KeyPath$Notes" (4 : Nat)) ∈ k_Tg := k_tg 33 (by decide +kernel) rfl
theorem cw_35 : (Cond.instanceMethod ({ cls := "KeyPath$Notes", name := "<init>", desc := "()V" } : MethodName)) ∈ k_Tg := k_tg 35 (by decide +kernel) rfl
theorem cw_36 : (Cond.code ({ cls := "KeyPath$Notes", name := "<init>", desc := "()V" } : MethodName) prog_5_method_1_code (1 : Nat) (Option.none : Option FieldType)) ∈ k_Tg := k_tg 36 (by decide +kernel) rfl
theorem cw_37 : (Cond.methodLink "KeyPath$Notes" (3 : Nat) ({ cls := "java/lang/Object", name := "<init>", desc := "()V" } : MethodName)) ∈ k_Tg := k_tg 37 (by decide +kernel) rfl
theorem cw_38 : (Cond.fieldLink "KeyPath$Notes" (9 : Nat) "KeyPath$Notes" "ticks" "[I") ∈ k_Tg := k_tg 38 (by decide +kernel) rfl
theorem cw_41 : (Cond.fieldLink "KeyPath$Notes" (15 : Nat) "KeyPath$Notes" "lengths" "[I") ∈ k_Tg := k_tg 41 (by decide +kernel) rfl
theorem cw_44 : (Cond.fieldLink "KeyPath$Notes" (18 : Nat) "KeyPath$Notes" "pitches" "[I") ∈ k_Tg := k_tg 44 (by decide +kernel) rfl
theorem cw_60 : (Cond.arrayClass FieldType.int) ∈ k_Tg := k_tg 60 (by decide +kernel) rfl
theorem cw_61 : (Cond.fieldLink "KeyPath$TextReader" (9 : Nat) "KeyPath$TextReader" "tape" "[I") ∈ k_Tg := k_tg 61 (by decide +kernel) rfl
theorem cw_64 : (Cond.fieldLink "KeyPath$TextReader" (18 : Nat) "KeyPath$TextReader" "found" "LKeyPath$Notes;") ∈ k_Tg := k_tg 64 (by decide +kernel) rfl
theorem cw_68 : (Cond.fieldLink "KeyPath$TextReader" (22 : Nat) "KeyPath$TextReader" "place" "I") ∈ k_Tg := k_tg 68 (by decide +kernel) rfl
theorem cw_73 : (Cond.fieldLink "KeyPath$TextReader" (26 : Nat) "KeyPath$TextReader" "named" "[I") ∈ k_Tg := k_tg 73 (by decide +kernel) rfl
theorem cw_96 : (Cond.classLink "KeyPath" (16 : Nat) "KeyPath$Notes") ∈ k_Tg := k_tg 96 (by decide +kernel) rfl
theorem cw_98 : (Cond.classLink "KeyPath" (23 : Nat) "KeyPath$History") ∈ k_Tg := k_tg 98 (by decide +kernel) rfl
theorem cw_99 : (Cond.instantiable "KeyPath$History" (6 : Nat)) ∈ k_Tg := k_tg 99 (by decide +kernel) rfl
theorem cw_101 : (Cond.instanceMethod ({ cls := "KeyPath$History", name := "<init>", desc := "()V" } : MethodName)) ∈ k_Tg := k_tg 101 (by decide +kernel) rfl
theorem cw_102 : (Cond.code ({ cls := "KeyPath$History", name := "<init>", desc := "()V" } : MethodName) prog_3_method_1_code (1 : Nat) (Option.none : Option FieldType)) ∈ k_Tg := k_tg 102 (by decide +kernel) rfl
theorem cw_103 : (Cond.methodLink "KeyPath$History" (3 : Nat) ({ cls := "java/lang/Object", name := "<init>", desc := "()V" } : MethodName)) ∈ k_Tg := k_tg 103 (by decide +kernel) rfl
theorem cw_104 : (Cond.fieldLink "KeyPath$History" (9 : Nat) "KeyPath$History" "kinds" "[I") ∈ k_Tg := k_tg 104 (by decide +kernel) rfl
theorem cw_105 : (Cond.fieldLink "KeyPath$History" (15 : Nat) "KeyPath$History" "places" "[I") ∈ k_Tg := k_tg 105 (by decide +kernel) rfl
theorem cw_106 : (Cond.fieldLink "KeyPath$History" (18 : Nat) "KeyPath$History" "ticks" "[I") ∈ k_Tg := k_tg 106 (by decide +kernel) rfl
theorem cw_107 : (Cond.fieldLink "KeyPath$History" (21 : Nat) "KeyPath$History" "lengths" "[I") ∈ k_Tg := k_tg 107 (by decide +kernel) rfl
theorem cw_108 : (Cond.fieldLink "KeyPath$History" (24 : Nat) "KeyPath$History" "pitches" "[I") ∈ k_Tg := k_tg 108 (by decide +kernel) rfl
theorem cw_124 : (Cond.classLink "KeyPath" (30 : Nat) "KeyPath$Windows") ∈ k_Tg := k_tg 124 (by decide +kernel) rfl
theorem cw_125 : (Cond.instantiable "KeyPath$Windows" (7 : Nat)) ∈ k_Tg := k_tg 125 (by decide +kernel) rfl
theorem cw_127 : (Cond.instanceMethod ({ cls := "KeyPath$Windows", name := "<init>", desc := "()V" } : MethodName)) ∈ k_Tg := k_tg 127 (by decide +kernel) rfl
theorem cw_128 : (Cond.code ({ cls := "KeyPath$Windows", name := "<init>", desc := "()V" } : MethodName) prog_9_method_1_code (1 : Nat) (Option.none : Option FieldType)) ∈ k_Tg := k_tg 128 (by decide +kernel) rfl
theorem cw_129 : (Cond.methodLink "KeyPath$Windows" (3 : Nat) ({ cls := "java/lang/Object", name := "<init>", desc := "()V" } : MethodName)) ∈ k_Tg := k_tg 129 (by decide +kernel) rfl
theorem cw_130 : (Cond.fieldLink "KeyPath$Windows" (9 : Nat) "KeyPath$Windows" "wide" "I") ∈ k_Tg := k_tg 130 (by decide +kernel) rfl
theorem cw_132 : (Cond.fieldLink "KeyPath$Windows" (15 : Nat) "KeyPath$Windows" "hop" "I") ∈ k_Tg := k_tg 132 (by decide +kernel) rfl
theorem cw_138 : (Cond.fieldLink "KeyPath$Windows" (18 : Nat) "KeyPath$Windows" "counts" "[I") ∈ k_Tg := k_tg 138 (by decide +kernel) rfl
theorem cw_141 : (Cond.fieldLink "KeyPath$Windows" (22 : Nat) "KeyPath$Windows" "totals" "[I") ∈ k_Tg := k_tg 141 (by decide +kernel) rfl
theorem cw_145 : (Cond.fieldLink "KeyPath$Windows" (25 : Nat) "KeyPath$Windows" "chords" "[I") ∈ k_Tg := k_tg 145 (by decide +kernel) rfl
theorem cw_147 : (Cond.fieldLink "KeyPath$Windows" (28 : Nat) "KeyPath$Windows" "stale" "Z") ∈ k_Tg := k_tg 147 (by decide +kernel) rfl
theorem cw_164 : (Cond.classLink "KeyPath" (37 : Nat) "KeyPath$Profiles") ∈ k_Tg := k_tg 164 (by decide +kernel) rfl
theorem cw_165 : (Cond.instantiable "KeyPath$Profiles" (4 : Nat)) ∈ k_Tg := k_tg 165 (by decide +kernel) rfl
theorem cw_167 : (Cond.instanceMethod ({ cls := "KeyPath$Profiles", name := "<init>", desc := "()V" } : MethodName)) ∈ k_Tg := k_tg 167 (by decide +kernel) rfl
theorem cw_168 : (Cond.code ({ cls := "KeyPath$Profiles", name := "<init>", desc := "()V" } : MethodName) prog_7_method_1_code (1 : Nat) (Option.none : Option FieldType)) ∈ k_Tg := k_tg 168 (by decide +kernel) rfl
theorem cw_169 : (Cond.methodLink "KeyPath$Profiles" (3 : Nat) ({ cls := "java/lang/Object", name := "<init>", desc := "()V" } : MethodName)) ∈ k_Tg := k_tg 169 (by decide +kernel) rfl
theorem cw_172 : (Cond.methodLink "KeyPath$Profiles" (13 : Nat) ({ cls := "[I", name := "clone", desc := "()Ljava/lang/Object;" } : MethodName)) ∈ k_Tg := k_tg 172 (by decide +kernel) rfl
theorem cw_173 : (Cond.sameMethod "[I" "java/lang/Object" "clone" "()Ljava/lang/Object;") ∈ k_Tg := k_tg 173 (by decide +kernel) rfl
theorem cw_174 : (Cond.native ({ cls := "java/lang/Object", name := "clone", desc := "()Ljava/lang/Object;" } : MethodName)) ∈ k_Tg := k_tg 174 (by decide +kernel) rfl
theorem cw_175 : (Cond.instanceMethod ({ cls := "java/lang/Object", name := "clone", desc := "()Ljava/lang/Object;" } : MethodName)) ∈ k_Tg := k_tg 175 (by decide +kernel) rfl
theorem cw_176 : (Cond.selects "[I" ({ cls := "[I", name := "clone", desc := "()Ljava/lang/Object;" } : MethodName) ({ cls := "java/lang/Object", name := "clone", desc := "()Ljava/lang/Object;" } : MethodName)) ∈ k_Tg := k_tg 176 (by decide +kernel) rfl
theorem cw_178 : (Cond.classLink "KeyPath$Profiles" (14 : Nat) "[I") ∈ k_Tg := k_tg 178 (by decide +kernel) rfl
theorem cw_179 : (Cond.fieldLink "KeyPath$Profiles" (18 : Nat) "KeyPath$Profiles" "weights" "[I") ∈ k_Tg := k_tg 179 (by decide +kernel) rfl
theorem cw_181 : (Cond.fieldLink "KeyPath$Profiles" (23 : Nat) "KeyPath$Profiles" "fits" "[I") ∈ k_Tg := k_tg 181 (by decide +kernel) rfl
theorem cw_184 : (Cond.fieldLink "KeyPath$Profiles" (26 : Nat) "KeyPath$Profiles" "bests" "[I") ∈ k_Tg := k_tg 184 (by decide +kernel) rfl
theorem cw_186 : (Cond.fieldLink "KeyPath$Profiles" (29 : Nat) "KeyPath$Profiles" "stale" "Z") ∈ k_Tg := k_tg 186 (by decide +kernel) rfl
theorem cw_197 : (Cond.classLink "KeyPath" (44 : Nat) "KeyPath$Net") ∈ k_Tg := k_tg 197 (by decide +kernel) rfl
theorem cw_198 : (Cond.instantiable "KeyPath$Net" (8 : Nat)) ∈ k_Tg := k_tg 198 (by decide +kernel) rfl
theorem cw_200 : (Cond.instanceMethod ({ cls := "KeyPath$Net", name := "<init>", desc := "()V" } : MethodName)) ∈ k_Tg := k_tg 200 (by decide +kernel) rfl
theorem cw_201 : (Cond.code ({ cls := "KeyPath$Net", name := "<init>", desc := "()V" } : MethodName) prog_4_method_1_code (1 : Nat) (Option.none : Option FieldType)) ∈ k_Tg := k_tg 201 (by decide +kernel) rfl
theorem cw_202 : (Cond.methodLink "KeyPath$Net" (3 : Nat) ({ cls := "java/lang/Object", name := "<init>", desc := "()V" } : MethodName)) ∈ k_Tg := k_tg 202 (by decide +kernel) rfl
theorem cw_203 : (Cond.fieldLink "KeyPath$Net" (9 : Nat) "KeyPath$Net" "fifth" "I") ∈ k_Tg := k_tg 203 (by decide +kernel) rfl
theorem cw_205 : (Cond.fieldLink "KeyPath$Net" (15 : Nat) "KeyPath$Net" "relative" "I") ∈ k_Tg := k_tg 205 (by decide +kernel) rfl
theorem cw_207 : (Cond.fieldLink "KeyPath$Net" (18 : Nat) "KeyPath$Net" "parallel" "I") ∈ k_Tg := k_tg 207 (by decide +kernel) rfl
theorem cw_209 : (Cond.fieldLink "KeyPath$Net" (21 : Nat) "KeyPath$Net" "factor" "I") ∈ k_Tg := k_tg 209 (by decide +kernel) rfl
theorem cw_212 : (Cond.fieldLink "KeyPath$Net" (24 : Nat) "KeyPath$Net" "stale" "Z") ∈ k_Tg := k_tg 212 (by decide +kernel) rfl
theorem cw_214 : (Cond.fieldLink "KeyPath$Net" (28 : Nat) "KeyPath$Net" "sums" "[I") ∈ k_Tg := k_tg 214 (by decide +kernel) rfl
theorem cw_217 : (Cond.fieldLink "KeyPath$Net" (32 : Nat) "KeyPath$Net" "ranks" "[I") ∈ k_Tg := k_tg 217 (by decide +kernel) rfl
theorem cw_218 : (Cond.fieldLink "KeyPath$Net" (35 : Nat) "KeyPath$Net" "row" "[I") ∈ k_Tg := k_tg 218 (by decide +kernel) rfl
theorem cw_236 : (Cond.classLink "KeyPath" (51 : Nat) "KeyPath$PathFinder") ∈ k_Tg := k_tg 236 (by decide +kernel) rfl
theorem cw_237 : (Cond.instantiable "KeyPath$PathFinder" (16 : Nat)) ∈ k_Tg := k_tg 237 (by decide +kernel) rfl
theorem cw_238 : (Cond.methodLink "KeyPath" (53 : Nat) ({ cls := "KeyPath$PathFinder", name := "<init>", desc := "()V" } : MethodName)) ∈ k_Tg := k_tg 238 (by decide +kernel) rfl
theorem cw_239 : (Cond.instanceMethod ({ cls := "KeyPath$PathFinder", name := "<init>", desc := "()V" } : MethodName)) ∈ k_Tg := k_tg 239 (by decide +kernel) rfl
theorem cw_240 : (Cond.code ({ cls := "KeyPath$PathFinder", name := "<init>", desc := "()V" } : MethodName) prog_6_method_1_code (1 : Nat) (Option.none : Option FieldType)) ∈ k_Tg := k_tg 240 (by decide +kernel) rfl
theorem cw_241 : (Cond.methodLink "KeyPath$PathFinder" (3 : Nat) ({ cls := "java/lang/Object", name := "<init>", desc := "()V" } : MethodName)) ∈ k_Tg := k_tg 241 (by decide +kernel) rfl
theorem cw_242 : (Cond.methodLink "KeyPath$PathFinder" (41 : Nat) ({ cls := "java/util/Arrays", name := "fill", desc := "([II)V" } : MethodName)) ∈ k_Tg := k_tg 242 (by decide +kernel) rfl
theorem cw_243 : (Cond.static ({ cls := "java/util/Arrays", name := "fill", desc := "([II)V" } : MethodName)) ∈ k_Tg := k_tg 243 (by decide +kernel) rfl
theorem cw_244 : (Cond.code ({ cls := "java/util/Arrays", name := "fill", desc := "([II)V" } : MethodName) prog_18_method_103_code (4 : Nat) (Option.none : Option FieldType)) ∈ k_Tg := k_tg 244 (by decide +kernel) rfl
theorem cw_245 : (Cond.fieldLink "KeyPath$PathFinder" (9 : Nat) "KeyPath$PathFinder" "pins" "[I") ∈ k_Tg := k_tg 245 (by decide +kernel) rfl
theorem cw_250 : (Cond.fieldLink "KeyPath$PathFinder" (15 : Nat) "KeyPath$PathFinder" "own" "[I") ∈ k_Tg := k_tg 250 (by decide +kernel) rfl
theorem cw_252 : (Cond.fieldLink "KeyPath$PathFinder" (18 : Nat) "KeyPath$PathFinder" "kept" "[Z") ∈ k_Tg := k_tg 252 (by decide +kernel) rfl
theorem cw_254 : (Cond.fieldLink "KeyPath$PathFinder" (22 : Nat) "KeyPath$PathFinder" "steps" "[I") ∈ k_Tg := k_tg 254 (by decide +kernel) rfl
theorem cw_256 : (Cond.fieldLink "KeyPath$PathFinder" (25 : Nat) "KeyPath$PathFinder" "behind" "[I") ∈ k_Tg := k_tg 256 (by decide +kernel) rfl
theorem cw_258 : (Cond.fieldLink "KeyPath$PathFinder" (28 : Nat) "KeyPath$PathFinder" "ways" "[I") ∈ k_Tg := k_tg 258 (by decide +kernel) rfl
theorem cw_265 : (Cond.fieldLink "KeyPath$PathFinder" (31 : Nat) "KeyPath$PathFinder" "path" "[I") ∈ k_Tg := k_tg 265 (by decide +kernel) rfl
theorem cw_268 : (Cond.fieldLink "KeyPath$PathFinder" (34 : Nat) "KeyPath$PathFinder" "firsts" "[I") ∈ k_Tg := k_tg 268 (by decide +kernel) rfl
theorem cw_272 : (Cond.fieldLink "KeyPath$PathFinder" (37 : Nat) "KeyPath$PathFinder" "stale" "Z") ∈ k_Tg := k_tg 272 (by decide +kernel) rfl
theorem cw_310 : (Cond.arrayClass FieldType.boolean) ∈ k_Tg := k_tg 310 (by decide +kernel) rfl
theorem cw_311 : (Cond.classLink "KeyPath" (58 : Nat) "KeyPath$Detours") ∈ k_Tg := k_tg 311 (by decide +kernel) rfl
theorem cw_312 : (Cond.instantiable "KeyPath$Detours" (6 : Nat)) ∈ k_Tg := k_tg 312 (by decide +kernel) rfl
theorem cw_314 : (Cond.instanceMethod ({ cls := "KeyPath$Detours", name := "<init>", desc := "()V" } : MethodName)) ∈ k_Tg := k_tg 314 (by decide +kernel) rfl
theorem cw_315 : (Cond.code ({ cls := "KeyPath$Detours", name := "<init>", desc := "()V" } : MethodName) prog_2_method_1_code (1 : Nat) (Option.none : Option FieldType)) ∈ k_Tg := k_tg 315 (by decide +kernel) rfl
theorem cw_316 : (Cond.methodLink "KeyPath$Detours" (3 : Nat) ({ cls := "java/lang/Object", name := "<init>", desc := "()V" } : MethodName)) ∈ k_Tg := k_tg 316 (by decide +kernel) rfl
theorem cw_317 : (Cond.fieldLink "KeyPath$Detours" (9 : Nat) "KeyPath$Detours" "ahead" "[I") ∈ k_Tg := k_tg 317 (by decide +kernel) rfl
theorem cw_319 : (Cond.fieldLink "KeyPath$Detours" (15 : Nat) "KeyPath$Detours" "byMoves" "[I") ∈ k_Tg := k_tg 319 (by decide +kernel) rfl
theorem cw_320 : (Cond.fieldLink "KeyPath$Detours" (18 : Nat) "KeyPath$Detours" "leastByMoves" "[I") ∈ k_Tg := k_tg 320 (by decide +kernel) rfl
theorem cw_323 : (Cond.fieldLink "KeyPath$Detours" (21 : Nat) "KeyPath$Detours" "settled" "[I") ∈ k_Tg := k_tg 323 (by decide +kernel) rfl
theorem cw_337 : (Cond.fieldLink "KeyPath" (12 : Nat) "KeyPath" "reader" "LKeyPath$TextReader;") ∈ k_Tg := k_tg 337 (by decide +kernel) rfl
theorem cw_338 : (Cond.fieldLink "KeyPath" (19 : Nat) "KeyPath" "notes" "LKeyPath$Notes;") ∈ k_Tg := k_tg 338 (by decide +kernel) rfl
theorem cw_339 : (Cond.fieldLink "KeyPath" (26 : Nat) "KeyPath" "history" "LKeyPath$History;") ∈ k_Tg := k_tg 339 (by decide +kernel) rfl
theorem cw_340 : (Cond.fieldLink "KeyPath" (33 : Nat) "KeyPath" "windows" "LKeyPath$Windows;") ∈ k_Tg := k_tg 340 (by decide +kernel) rfl
theorem cw_341 : (Cond.fieldLink "KeyPath" (40 : Nat) "KeyPath" "profiles" "LKeyPath$Profiles;") ∈ k_Tg := k_tg 341 (by decide +kernel) rfl
theorem cw_342 : (Cond.fieldLink "KeyPath" (47 : Nat) "KeyPath" "net" "LKeyPath$Net;") ∈ k_Tg := k_tg 342 (by decide +kernel) rfl
theorem cw_343 : (Cond.fieldLink "KeyPath" (54 : Nat) "KeyPath" "finder" "LKeyPath$PathFinder;") ∈ k_Tg := k_tg 343 (by decide +kernel) rfl
theorem cw_344 : (Cond.fieldLink "KeyPath" (61 : Nat) "KeyPath" "detours" "LKeyPath$Detours;") ∈ k_Tg := k_tg 344 (by decide +kernel) rfl
theorem cw_972 : (Cond.arrayClass FieldType.byte) ∈ k_Tg := k_tg 972 (by decide +kernel) rfl
theorem cw_981 : (Cond.classLink "KeyPathLaw" (10 : Nat) "KeyPathModel") ∈ k_Tg := k_tg 981 (by decide +kernel) rfl
theorem cw_982 : (Cond.instantiable "KeyPathModel" (42 : Nat)) ∈ k_Tg := k_tg 982 (by decide +kernel) rfl
theorem cw_983 : (Cond.methodLink "KeyPathLaw" (12 : Nat) ({ cls := "KeyPathModel", name := "<init>", desc := "()V" } : MethodName)) ∈ k_Tg := k_tg 983 (by decide +kernel) rfl
theorem cw_984 : (Cond.instanceMethod ({ cls := "KeyPathModel", name := "<init>", desc := "()V" } : MethodName)) ∈ k_Tg := k_tg 984 (by decide +kernel) rfl
theorem cw_985 : (Cond.code ({ cls := "KeyPathModel", name := "<init>", desc := "()V" } : MethodName) prog_11_method_3_code (2 : Nat) (Option.none : Option FieldType)) ∈ k_Tg := k_tg 985 (by decide +kernel) rfl
theorem cw_986 : (Cond.methodLink "KeyPathModel" (7 : Nat) ({ cls := "java/lang/Object", name := "<init>", desc := "()V" } : MethodName)) ∈ k_Tg := k_tg 986 (by decide +kernel) rfl
theorem cw_988 : (Cond.fieldLink "KeyPathModel" (13 : Nat) "KeyPathModel" "tick" "[I") ∈ k_Tg := k_tg 988 (by decide +kernel) rfl
theorem cw_989 : (Cond.fieldLink "KeyPathModel" (17 : Nat) "KeyPathModel" "length" "[I") ∈ k_Tg := k_tg 989 (by decide +kernel) rfl
theorem cw_990 : (Cond.fieldLink "KeyPathModel" (20 : Nat) "KeyPathModel" "pitch" "[I") ∈ k_Tg := k_tg 990 (by decide +kernel) rfl
theorem cw_991 : (Cond.fieldLink "KeyPathModel" (23 : Nat) "KeyPathModel" "readTick" "[I") ∈ k_Tg := k_tg 991 (by decide +kernel) rfl
theorem cw_992 : (Cond.fieldLink "KeyPathModel" (26 : Nat) "KeyPathModel" "readLength" "[I") ∈ k_Tg := k_tg 992 (by decide +kernel) rfl
theorem cw_993 : (Cond.fieldLink "KeyPathModel" (29 : Nat) "KeyPathModel" "readPitch" "[I") ∈ k_Tg := k_tg 993 (by decide +kernel) rfl
theorem cw_996 : (Cond.fieldLink "KeyPathModel" (32 : Nat) "KeyPathModel" "acts" "[I") ∈ k_Tg := k_tg 996 (by decide +kernel) rfl
theorem cw_998 : (Cond.fieldLink "KeyPathModel" (35 : Nat) "KeyPathModel" "wide" "I") ∈ k_Tg := k_tg 998 (by decide +kernel) rfl
theorem cw_999 : (Cond.fieldLink "KeyPathModel" (38 : Nat) "KeyPathModel" "hop" "I") ∈ k_Tg := k_tg 999 (by decide +kernel) rfl
theorem cw_1000 : (Cond.fieldLink "KeyPathModel" (41 : Nat) "KeyPathModel" "fifth" "I") ∈ k_Tg := k_tg 1000 (by decide +kernel) rfl
theorem cw_1001 : (Cond.fieldLink "KeyPathModel" (44 : Nat) "KeyPathModel" "relative" "I") ∈ k_Tg := k_tg 1001 (by decide +kernel) rfl
theorem cw_1002 : (Cond.fieldLink "KeyPathModel" (47 : Nat) "KeyPathModel" "parallel" "I") ∈ k_Tg := k_tg 1002 (by decide +kernel) rfl
theorem cw_1003 : (Cond.fieldLink "KeyPathModel" (50 : Nat) "KeyPathModel" "factor" "I") ∈ k_Tg := k_tg 1003 (by decide +kernel) rfl
theorem cw_1004 : (Cond.fieldLink "KeyPathModel" (53 : Nat) "KeyPathModel" "weights" "[I") ∈ k_Tg := k_tg 1004 (by decide +kernel) rfl
theorem cw_1005 : (Cond.fieldLink "KeyPathModel" (56 : Nat) "KeyPathModel" "pins" "[I") ∈ k_Tg := k_tg 1005 (by decide +kernel) rfl
theorem cw_1006 : (Cond.fieldLink "KeyPathModel" (59 : Nat) "KeyPathModel" "tape" "[B") ∈ k_Tg := k_tg 1006 (by decide +kernel) rfl
theorem cw_1011 : (Cond.fieldLink "KeyPathModel" (63 : Nat) "KeyPathModel" "wrongAt" "I") ∈ k_Tg := k_tg 1011 (by decide +kernel) rfl
theorem cw_1013 : (Cond.fieldLink "KeyPathModel" (66 : Nat) "KeyPathModel" "counts" "[I") ∈ k_Tg := k_tg 1013 (by decide +kernel) rfl
theorem cw_1015 : (Cond.fieldLink "KeyPathModel" (69 : Nat) "KeyPathModel" "far" "[I") ∈ k_Tg := k_tg 1015 (by decide +kernel) rfl
theorem cw_1016 : (Cond.fieldLink "KeyPathModel" (72 : Nat) "KeyPathModel" "ways" "[I") ∈ k_Tg := k_tg 1016 (by decide +kernel) rfl
theorem cw_1017 : (Cond.fieldLink "KeyPathModel" (75 : Nat) "KeyPathModel" "net" "[I") ∈ k_Tg := k_tg 1017 (by decide +kernel) rfl
theorem cw_1018 : (Cond.fieldLink "KeyPathModel" (78 : Nat) "KeyPathModel" "own" "[I") ∈ k_Tg := k_tg 1018 (by decide +kernel) rfl
theorem cw_1019 : (Cond.fieldLink "KeyPathModel" (81 : Nat) "KeyPathModel" "ahead" "[I") ∈ k_Tg := k_tg 1019 (by decide +kernel) rfl
theorem cw_1020 : (Cond.fieldLink "KeyPathModel" (84 : Nat) "KeyPathModel" "behind" "[I") ∈ k_Tg := k_tg 1020 (by decide +kernel) rfl
theorem cw_1021 : (Cond.fieldLink "KeyPathModel" (87 : Nat) "KeyPathModel" "tied" "[I") ∈ k_Tg := k_tg 1021 (by decide +kernel) rfl
theorem cw_1022 : (Cond.fieldLink "KeyPathModel" (90 : Nat) "KeyPathModel" "path" "[I") ∈ k_Tg := k_tg 1022 (by decide +kernel) rfl
theorem cw_1023 : (Cond.fieldLink "KeyPathModel" (93 : Nat) "KeyPathModel" "isSilent" "[Z") ∈ k_Tg := k_tg 1023 (by decide +kernel) rfl
theorem cw_1026 : (Cond.fieldLink "KeyPathModel" (97 : Nat) "KeyPathModel" "bySteps" "[I") ∈ k_Tg := k_tg 1026 (by decide +kernel) rfl
theorem cw_1027 : (Cond.fieldLink "KeyPathModel" (100 : Nat) "KeyPathModel" "stepped" "[I") ∈ k_Tg := k_tg 1027 (by decide +kernel) rfl
theorem cw_1028 : (Cond.fieldLink "KeyPathModel" (103 : Nat) "KeyPathModel" "both" "[I") ∈ k_Tg := k_tg 1028 (by decide +kernel) rfl
theorem diAr_0 : decode prog_18_method_103_code 0 = .ok (.iconst 0, 1) := by decide +kernel
theorem diAr_1 : decode prog_18_method_103_code 1 = .ok (.istore_n 2, 1) := by decide +kernel
theorem diAr_2 : decode prog_18_method_103_code 2 = .ok (.aload_n 0, 1) := by decide +kernel
theorem diAr_3 : decode prog_18_method_103_code 3 = .ok (.arraylength, 1) := by decide +kernel
theorem diAr_4 : decode prog_18_method_103_code 4 = .ok (.istore_n 3, 1) := by decide +kernel
theorem diAr_5 : decode prog_18_method_103_code 5 = .ok (.iload_n 2, 1) := by decide +kernel
theorem diAr_6 : decode prog_18_method_103_code 6 = .ok (.iload_n 3, 1) := by decide +kernel
theorem diAr_7 : decode prog_18_method_103_code 7 = .ok (.if_icmp .ge 13, 3) := by decide +kernel
theorem diAr_10 : decode prog_18_method_103_code 10 = .ok (.aload_n 0, 1) := by decide +kernel
theorem diAr_11 : decode prog_18_method_103_code 11 = .ok (.iload_n 2, 1) := by decide +kernel
theorem diAr_12 : decode prog_18_method_103_code 12 = .ok (.iload_n 1, 1) := by decide +kernel
theorem diAr_13 : decode prog_18_method_103_code 13 = .ok (.iastore, 1) := by decide +kernel
theorem diAr_14 : decode prog_18_method_103_code 14 = .ok (.iinc 2 1, 3) := by decide +kernel
theorem diAr_17 : decode prog_18_method_103_code 17 = .ok (.goto (-12), 3) := by decide +kernel
theorem diAr_20 : decode prog_18_method_103_code 20 = .ok (.return_, 1) := by decide +kernel
theorem g_at {X : KG} {cells slots pc pc' : Nat} {lv : List (Nat × Value)} {st : List Value} {w : va_W} (hp : pc' = pc) (h : gW X cells slots pc lv st w) : gW X cells slots pc' lv st w := by
  rw [hp]
  exact h
theorem g_less {X : KG} {cells slots pc : Nat} {lv lv' : List (Nat × Value)} {st : List Value} {w : va_W} (ks : List Nat) (hl : lv_pick lv ks = lv') (h : gW X cells slots pc lv' st w) : gW X cells slots pc lv st w := by
  obtain ⟨⟨p, l, e, R⟩, ⟨s, m, args, below⟩, ⟨meth, c⟩, ⟨D, K, α, z⟩, ⟨Q, nL⟩⟩ := X
  intro H locs ls hP hD hS hL
  exact h H locs ls hP hD hS (lv_sub hL ks hl)
theorem g_step {k : Nat} {i v : Int32} (hk : i.toNatClampNeg = k) (hv : c32 (k_s5 k) = v) (j : Nat) : upd (fun j => if j < k then c32 (k_s5 j) else 0) i.toNatClampNeg v j = if j < k + 1 then c32 (k_s5 j) else 0 := by
  rw [hk]
  unfold upd
  by_cases h : j = k
  · rw [if_pos h, if_pos (by omega), h, hv]
  · rw [if_neg h]
    dsimp only
    by_cases h2 : j < k
    · rw [if_pos h2, if_pos (by omega)]
    · rw [if_neg h2, if_neg (by omega)]
theorem g_down {k : Nat} (hk : k < 48) (j : Nat) : upd (fun j => if j < k then (-1 : Int32) else 0) (nI k).toNatClampNeg (-1) j = if j < k + 1 then -1 else 0 := by
  rw [nI_clamp (by omega)]
  unfold upd
  by_cases h : j = k
  · rw [if_pos h, if_pos (by omega)]
  · rw [if_neg h]
    dsimp only
    by_cases h2 : j < k
    · rw [if_pos h2, if_pos (by omega)]
    · rw [if_neg h2, if_neg (by omega)]
theorem g_fillL {X : KG} (hX : gOk X 0 0 0 prog_18_method_103_code 4 "java/util/Arrays") {b : Nat} {w : va_W} (hR : gRet X (fun u => u = (b, .inl (gK X 1, 48, .inl (fun _ => -1))) :: w) 0 0) : ∀ n i : Nat, i + n = 48 → gW X 0 0 5 [(2, .int (nI i)), (3, .int (nI 48)), (0, .ref b), (1, .int (-1))] [] ((b, .inl (gK X 1, 48, .inl (fun j => if j < i then -1 else 0))) :: w)
  | 0, i, h => by
    have h : i = 48 := by omega
    subst h
    refine g_iload hX diAr_5 rfl 0 rfl ?_
    refine g_iload hX diAr_6 rfl 1 rfl ?_
    refine g_ge (tgt := 20) hX diAr_7 (by decide) (fun _ => ?_) (fun h => absurd (nI_le (Nat.le_refl 48) (by decide)) h)
    refine g_swap (g := fun _ => -1) (fun j h => if_pos h) ?_
    exact g_ret hX hR rfl diAr_20
  | n + 1, i, h => by
    refine g_iload hX diAr_5 rfl 0 rfl ?_
    refine g_iload hX diAr_6 rfl 1 rfl ?_
    refine g_ge (tgt := 20) hX diAr_7 (by decide) (fun h1 => absurd h1 (nI_ge (by omega) (by decide))) (fun _ => ?_)
    refine g_aload hX diAr_10 rfl 2 rfl ?_
    refine g_iload hX diAr_11 rfl 0 rfl ?_
    refine g_iload hX diAr_12 rfl 3 rfl ?_
    refine g_iast (q0 := 0) (w' := (b, .inl (gK X 1, 48, .inl (upd (fun j => if j < i then -1 else 0) (nI i).toNatClampNeg (-1)))) :: w) hX rfl (nI_in (by omega) (by decide)) rfl diAr_13 ?_
    refine g_swap (g := fun j => if j < i + 1 then -1 else 0) (fun j _ => g_down (by omega) j) ?_
    refine g_iinc (v := nI (i + 1)) (lv' := [(2, .int (nI (i + 1))), (3, .int (nI 48)), (0, .ref b), (1, .int (-1))]) hX diAr_14 0 rfl (by rw [nI_succ]; rfl) (by decide) rfl ?_
    refine g_goto (tgt := 5) hX diAr_17 (by decide) ?_
    exact g_fillL hX hR n (i + 1) (by omega)
theorem g_fill : gSem 0 0 0 (⟨"java/util/Arrays", "fill", "([II)V"⟩ : MethodName) prog_18_method_103_code 4 (fun b => [.ref b, .int (-1)]) (fun K b w => (b, .inl (K 1, 48, .inl (fun _ => 0))) :: w) (fun K b w u => u = (b, .inl (K 1, 48, .inl (fun _ => -1))) :: w) := by
  refine gSem.of (lv := fun b => [(0, .ref b), (1, .int (-1))]) (by decide) (fun _ => Nat.le_of_ble_eq_true rfl) (fun _ => rfl) (fun X b w hX hI hR => ?_)
  refine g_iconst (v := nI 0) hX diAr_0 (by decide) ?_
  refine g_istore (lv' := [(2, .int (nI 0)), (0, .ref b), (1, .int (-1))]) hX diAr_1 rfl (by decide) rfl ?_
  refine g_aload hX diAr_2 rfl 1 rfl ?_
  refine g_alen (q0 := 0) (v := nI 48) hX rfl rfl diAr_3 ?_
  refine g_istore (lv' := [(3, .int (nI 48)), (2, .int (nI 0)), (0, .ref b), (1, .int (-1))]) hX diAr_4 rfl (by decide) rfl ?_
  refine g_less (lv' := [(2, .int (nI 0)), (3, .int (nI 48)), (0, .ref b), (1, .int (-1))]) [1, 0, 2, 3] rfl ?_
  refine g_swap (g := fun j => if j < 0 then -1 else 0) (fun j _ => by simp) ?_
  exact g_fillL hX hR 48 0 rfl
