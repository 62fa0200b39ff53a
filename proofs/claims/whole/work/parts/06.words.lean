theorem q_472 : (Jvm.Cond.constant "SplitWatch$Bus" (236 : Nat) (1073741824 : Int32)) ∈ sw_WS := sw_mem 472 (by decide +kernel) rfl
theorem q_485 : (Jvm.Cond.methodLink "SplitWatch$Log" (25 : Nat) ({ cls := "java/lang/Math", name := "min", desc := "(II)I" } : Jvm.MethodName)) ∈ sw_WS := sw_mem 485 (by decide +kernel) rfl
theorem q_486 : (Jvm.Cond.static ({ cls := "java/lang/Math", name := "min", desc := "(II)I" } : Jvm.MethodName)) ∈ sw_WS := sw_mem 486 (by decide +kernel) rfl
theorem q_104 : (Jvm.Cond.initialized "java/lang/Math") ∈ sw_WS := sw_mem 104 (by decide +kernel) rfl
theorem q_487 : (Jvm.Cond.code ({ cls := "java/lang/Math", name := "min", desc := "(II)I" } : Jvm.MethodName) prog_10_method_69_code (2 : Nat) (Option.some Jvm.ClassFile.FieldType.int)) ∈ sw_WS := sw_mem 487 (by decide +kernel) rfl
theorem q_749 : (Jvm.Cond.methodLink "SplitWatch" (203 : Nat) ({ cls := "java/lang/Math", name := "max", desc := "(II)I" } : Jvm.MethodName)) ∈ sw_WS := sw_mem 749 (by decide +kernel) rfl
theorem q_750 : (Jvm.Cond.static ({ cls := "java/lang/Math", name := "max", desc := "(II)I" } : Jvm.MethodName)) ∈ sw_WS := sw_mem 750 (by decide +kernel) rfl
theorem q_751 : (Jvm.Cond.code ({ cls := "java/lang/Math", name := "max", desc := "(II)I" } : Jvm.MethodName) prog_10_method_65_code (2 : Nat) (Option.some Jvm.ClassFile.FieldType.int)) ∈ sw_WS := sw_mem 751 (by decide +kernel) rfl
theorem q_752 : (Jvm.Cond.constantLong "SplitWatch" (208 : Nat) (7919 : Int64)) ∈ sw_WS := sw_mem 752 (by decide +kernel) rfl
theorem q_753 : (Jvm.Cond.constantLong "SplitWatch" (210 : Nat) (6151 : Int64)) ∈ sw_WS := sw_mem 753 (by decide +kernel) rfl
theorem q_754 : (Jvm.Cond.constantLong "SplitWatch" (212 : Nat) (65521 : Int64)) ∈ sw_WS := sw_mem 754 (by decide +kernel) rfl
theorem q_769 : (Jvm.Cond.constantLong "SplitWatchModel" (71 : Nat) (2 : Int64)) ∈ sw_WS := sw_mem 769 (by decide +kernel) rfl
theorem q_770 : (Jvm.Cond.constantLong "SplitWatchModel" (73 : Nat) (4 : Int64)) ∈ sw_WS := sw_mem 770 (by decide +kernel) rfl
theorem q_774 : (Jvm.Cond.constantLong "SplitWatchModel" (79 : Nat) (9 : Int64)) ∈ sw_WS := sw_mem 774 (by decide +kernel) rfl
theorem q_893 : (Jvm.Cond.constantLong "SplitWatchModel" (121 : Nat) (7 : Int64)) ∈ sw_WS := sw_mem 893 (by decide +kernel) rfl
theorem q_950 : (Jvm.Cond.constantLong "SplitWatchModel" (184 : Nat) (9999 : Int64)) ∈ sw_WS := sw_mem 950 (by decide +kernel) rfl
theorem q_963 : (Jvm.Cond.constantLong "SplitWatchModel" (222 : Nat) (99 : Int64)) ∈ sw_WS := sw_mem 963 (by decide +kernel) rfl
theorem q_1024 : (Jvm.Cond.constantLong "SplitWatchModel" (227 : Nat) (32 : Int64)) ∈ sw_WS := sw_mem 1024 (by decide +kernel) rfl
theorem q_1025 : (Jvm.Cond.constantLong "SplitWatchModel" (229 : Nat) (126 : Int64)) ∈ sw_WS := sw_mem 1025 (by decide +kernel) rfl
theorem q_1046 : (Jvm.Cond.constantLong "SplitWatchModel" (240 : Nat) (97 : Int64)) ∈ sw_WS := sw_mem 1046 (by decide +kernel) rfl
theorem q_1047 : (Jvm.Cond.constantLong "SplitWatchModel" (242 : Nat) (122 : Int64)) ∈ sw_WS := sw_mem 1047 (by decide +kernel) rfl
theorem q_1048 : (Jvm.Cond.constantLong "SplitWatchModel" (244 : Nat) (27 : Int64)) ∈ sw_WS := sw_mem 1048 (by decide +kernel) rfl
theorem q_1049 : (Jvm.Cond.constantLong "SplitWatchModel" (246 : Nat) (96 : Int64)) ∈ sw_WS := sw_mem 1049 (by decide +kernel) rfl
theorem q_1058 : (Jvm.Cond.constantLong "SplitWatchModel" (248 : Nat) (48 : Int64)) ∈ sw_WS := sw_mem 1058 (by decide +kernel) rfl
theorem q_1059 : (Jvm.Cond.constantLong "SplitWatchModel" (250 : Nat) (57 : Int64)) ∈ sw_WS := sw_mem 1059 (by decide +kernel) rfl
theorem q_1053 : (Jvm.Cond.constantLong "SplitWatchModel" (260 : Nat) (5 : Int64)) ∈ sw_WS := sw_mem 1053 (by decide +kernel) rfl
theorem q_1132 : (Jvm.Cond.constantLong "SplitWatchModel" (301 : Nat) (40 : Int64)) ∈ sw_WS := sw_mem 1132 (by decide +kernel) rfl
theorem q_1133 : (Jvm.Cond.constantLong "SplitWatchModel" (303 : Nat) (7919 : Int64)) ∈ sw_WS := sw_mem 1133 (by decide +kernel) rfl
theorem q_1134 : (Jvm.Cond.constantLong "SplitWatchModel" (305 : Nat) (6151 : Int64)) ∈ sw_WS := sw_mem 1134 (by decide +kernel) rfl
theorem q_1135 : (Jvm.Cond.constantLong "SplitWatchModel" (307 : Nat) (65521 : Int64)) ∈ sw_WS := sw_mem 1135 (by decide +kernel) rfl
theorem q_134 : (Jvm.Cond.fieldLink "SplitWatch$Log" (15 : Nat) "SplitWatch$Log" "total" "I") ∈ sw_WS := sw_mem 134 (by decide +kernel) rfl
theorem q_137 : (Jvm.Cond.fieldLink "SplitWatch$Log" (19 : Nat) "SplitWatch$Log" "size" "I") ∈ sw_WS := sw_mem 137 (by decide +kernel) rfl
theorem q_138 : (Jvm.Cond.fieldLink "SplitWatch$Log" (22 : Nat) "SplitWatch$Log" "next" "I") ∈ sw_WS := sw_mem 138 (by decide +kernel) rfl
theorem q_168 : (Jvm.Cond.fieldLink "SplitWatch$Cache" (21 : Nat) "SplitWatch$Cache" "uses" "I") ∈ sw_WS := sw_mem 168 (by decide +kernel) rfl
theorem q_161 : (Jvm.Cond.fieldLink "SplitWatch$Cache" (9 : Nat) "SplitWatch$Cache" "state" "[I") ∈ sw_WS := sw_mem 161 (by decide +kernel) rfl
theorem q_164 : (Jvm.Cond.fieldLink "SplitWatch$Cache" (15 : Nat) "SplitWatch$Cache" "value" "[I") ∈ sw_WS := sw_mem 164 (by decide +kernel) rfl
theorem q_167 : (Jvm.Cond.fieldLink "SplitWatch$Cache" (18 : Nat) "SplitWatch$Cache" "usedAt" "[I") ∈ sw_WS := sw_mem 167 (by decide +kernel) rfl
theorem q_232 : (Jvm.Cond.fieldLink "SplitWatch$Core" (12 : Nat) "SplitWatch$Core" "cache" "LSplitWatch$Cache;") ∈ sw_WS := sw_mem 232 (by decide +kernel) rfl
theorem q_235 : (Jvm.Cond.fieldLink "SplitWatch$Core" (27 : Nat) "SplitWatch$Core" "op" "LSplitWatch$Request;") ∈ sw_WS := sw_mem 235 (by decide +kernel) rfl
theorem q_187 : (Jvm.Cond.fieldLinkNest "SplitWatch$Core" (34 : Nat) "SplitWatch$Request" "stage" "I" "SplitWatch") ∈ sw_WS := sw_mem 187 (by decide +kernel) rfl
theorem q_240 : (Jvm.Cond.fieldLink "SplitWatch$Core" (38 : Nat) "SplitWatch$Core" "last" "I") ∈ sw_WS := sw_mem 240 (by decide +kernel) rfl
theorem q_238 : (Jvm.Cond.fieldLink "SplitWatch$Core" (20 : Nat) "SplitWatch$Core" "backs" "[LSplitWatch$Request;") ∈ sw_WS := sw_mem 238 (by decide +kernel) rfl
theorem q_259 : (Jvm.Cond.fieldLink "SplitWatch$Bus" (44 : Nat) "SplitWatch$Bus" "coreCount" "I") ∈ sw_WS := sw_mem 259 (by decide +kernel) rfl
theorem q_261 : (Jvm.Cond.fieldLink "SplitWatch$Bus" (48 : Nat) "SplitWatch$Bus" "capacity" "I") ∈ sw_WS := sw_mem 261 (by decide +kernel) rfl
theorem q_263 : (Jvm.Cond.fieldLink "SplitWatch$Bus" (51 : Nat) "SplitWatch$Bus" "fast" "I") ∈ sw_WS := sw_mem 263 (by decide +kernel) rfl
theorem q_265 : (Jvm.Cond.fieldLink "SplitWatch$Bus" (54 : Nat) "SplitWatch$Bus" "slow" "I") ∈ sw_WS := sw_mem 265 (by decide +kernel) rfl
theorem q_267 : (Jvm.Cond.fieldLink "SplitWatch$Bus" (57 : Nat) "SplitWatch$Bus" "now" "I") ∈ sw_WS := sw_mem 267 (by decide +kernel) rfl
theorem q_269 : (Jvm.Cond.fieldLink "SplitWatch$Bus" (60 : Nat) "SplitWatch$Bus" "places" "I") ∈ sw_WS := sw_mem 269 (by decide +kernel) rfl
theorem q_270 : (Jvm.Cond.fieldLink "SplitWatch$Bus" (63 : Nat) "SplitWatch$Bus" "sentAway" "I") ∈ sw_WS := sw_mem 270 (by decide +kernel) rfl
theorem q_272 : (Jvm.Cond.fieldLink "SplitWatch$Bus" (66 : Nat) "SplitWatch$Bus" "beaten" "I") ∈ sw_WS := sw_mem 272 (by decide +kernel) rfl
theorem q_274 : (Jvm.Cond.fieldLink "SplitWatch$Bus" (69 : Nat) "SplitWatch$Bus" "ended" "I") ∈ sw_WS := sw_mem 274 (by decide +kernel) rfl
theorem q_276 : (Jvm.Cond.fieldLink "SplitWatch$Bus" (72 : Nat) "SplitWatch$Bus" "answers" "I") ∈ sw_WS := sw_mem 276 (by decide +kernel) rfl
theorem q_257 : (Jvm.Cond.fieldLink "SplitWatch$Bus" (30 : Nat) "SplitWatch$Bus" "log" "LSplitWatch$Log;") ∈ sw_WS := sw_mem 257 (by decide +kernel) rfl
theorem q_252 : (Jvm.Cond.fieldLink "SplitWatch$Bus" (11 : Nat) "SplitWatch$Bus" "cores" "[LSplitWatch$Core;") ∈ sw_WS := sw_mem 252 (by decide +kernel) rfl
theorem q_255 : (Jvm.Cond.fieldLink "SplitWatch$Bus" (23 : Nat) "SplitWatch$Bus" "kept" "[I") ∈ sw_WS := sw_mem 255 (by decide +kernel) rfl
theorem q_233 : (Jvm.Cond.fieldLinkNest "SplitWatch$Bus" (105 : Nat) "SplitWatch$Core" "cache" "LSplitWatch$Cache;" "SplitWatch") ∈ sw_WS := sw_mem 233 (by decide +kernel) rfl
theorem q_162 : (Jvm.Cond.fieldLinkNest "SplitWatch$Bus" (109 : Nat) "SplitWatch$Cache" "state" "[I" "SplitWatch") ∈ sw_WS := sw_mem 162 (by decide +kernel) rfl
theorem q_188 : (Jvm.Cond.fieldLinkNest "SplitWatch$Bus" (98 : Nat) "SplitWatch$Request" "stage" "I" "SplitWatch") ∈ sw_WS := sw_mem 188 (by decide +kernel) rfl
theorem q_190 : (Jvm.Cond.fieldLinkNest "SplitWatch$Bus" (148 : Nat) "SplitWatch$Request" "kind" "I" "SplitWatch") ∈ sw_WS := sw_mem 190 (by decide +kernel) rfl
theorem q_193 : (Jvm.Cond.fieldLinkNest "SplitWatch$Bus" (151 : Nat) "SplitWatch$Request" "line" "I" "SplitWatch") ∈ sw_WS := sw_mem 193 (by decide +kernel) rfl
theorem q_195 : (Jvm.Cond.fieldLinkNest "SplitWatch$Bus" (154 : Nat) "SplitWatch$Request" "value" "I" "SplitWatch") ∈ sw_WS := sw_mem 195 (by decide +kernel) rfl
theorem q_197 : (Jvm.Cond.fieldLinkNest "SplitWatch$Bus" (156 : Nat) "SplitWatch$Request" "since" "I" "SplitWatch") ∈ sw_WS := sw_mem 197 (by decide +kernel) rfl
theorem q_200 : (Jvm.Cond.fieldLinkNest "SplitWatch$Bus" (159 : Nat) "SplitWatch$Request" "place" "I" "SplitWatch") ∈ sw_WS := sw_mem 200 (by decide +kernel) rfl
theorem q_202 : (Jvm.Cond.fieldLinkNest "SplitWatch$Bus" (162 : Nat) "SplitWatch$Request" "sent" "I" "SplitWatch") ∈ sw_WS := sw_mem 202 (by decide +kernel) rfl
theorem q_165 : (Jvm.Cond.fieldLinkNest "SplitWatch$Bus" (121 : Nat) "SplitWatch$Cache" "value" "[I" "SplitWatch") ∈ sw_WS := sw_mem 165 (by decide +kernel) rfl
theorem q_185 : (Jvm.Cond.fieldLinkNest "SplitWatch$Bus" (190 : Nat) "SplitWatch$Request" "core" "I" "SplitWatch") ∈ sw_WS := sw_mem 185 (by decide +kernel) rfl
theorem q_207 : (Jvm.Cond.fieldLinkNest "SplitWatch$Bus" (193 : Nat) "SplitWatch$Request" "toBe" "I" "SplitWatch") ∈ sw_WS := sw_mem 207 (by decide +kernel) rfl
theorem q_241 : (Jvm.Cond.fieldLinkNest "SplitWatch$Bus" (124 : Nat) "SplitWatch$Core" "last" "I" "SplitWatch") ∈ sw_WS := sw_mem 241 (by decide +kernel) rfl
theorem q_236 : (Jvm.Cond.fieldLinkNest "SplitWatch$Bus" (37 : Nat) "SplitWatch$Core" "op" "LSplitWatch$Request;" "SplitWatch") ∈ sw_WS := sw_mem 236 (by decide +kernel) rfl
theorem q_205 : (Jvm.Cond.fieldLinkNest "SplitWatch$Bus" (180 : Nat) "SplitWatch$Request" "due" "I" "SplitWatch") ∈ sw_WS := sw_mem 205 (by decide +kernel) rfl
theorem q_204 : (Jvm.Cond.fieldLinkNest "SplitWatch$Bus" (187 : Nat) "SplitWatch$Request" "orderedAs" "I" "SplitWatch") ∈ sw_WS := sw_mem 204 (by decide +kernel) rfl
theorem q_254 : (Jvm.Cond.fieldLink "SplitWatch$Bus" (19 : Nat) "SplitWatch$Bus" "requests" "[LSplitWatch$Request;") ∈ sw_WS := sw_mem 254 (by decide +kernel) rfl
theorem q_133 : (Jvm.Cond.fieldLink "SplitWatch$Log" (11 : Nat) "SplitWatch$Log" "letters" "[C") ∈ sw_WS := sw_mem 133 (by decide +kernel) rfl
theorem q_192 : (Jvm.Cond.fieldLinkNest "SplitWatch$Core" (41 : Nat) "SplitWatch$Request" "line" "I" "SplitWatch") ∈ sw_WS := sw_mem 192 (by decide +kernel) rfl
theorem q_135 : (Jvm.Cond.fieldLinkNest "SplitWatch$Bus" (227 : Nat) "SplitWatch$Log" "total" "I" "SplitWatch") ∈ sw_WS := sw_mem 135 (by decide +kernel) rfl
theorem q_199 : (Jvm.Cond.fieldLinkNest "SplitWatch$Core" (44 : Nat) "SplitWatch$Request" "place" "I" "SplitWatch") ∈ sw_WS := sw_mem 199 (by decide +kernel) rfl
theorem q_332 : (Jvm.Cond.fieldLink "SplitWatch$Script" (19 : Nat) "SplitWatch$Script" "length" "I") ∈ sw_WS := sw_mem 332 (by decide +kernel) rfl
theorem q_329 : (Jvm.Cond.fieldLink "SplitWatch$Script" (11 : Nat) "SplitWatch$Script" "letters" "[C") ∈ sw_WS := sw_mem 329 (by decide +kernel) rfl
theorem q_330 : (Jvm.Cond.fieldLink "SplitWatch$Script" (15 : Nat) "SplitWatch$Script" "numbers" "[I") ∈ sw_WS := sw_mem 330 (by decide +kernel) rfl
theorem q_334 : (Jvm.Cond.fieldLink "SplitWatch$Script" (42 : Nat) "SplitWatch$Script" "verb" "I") ∈ sw_WS := sw_mem 334 (by decide +kernel) rfl
theorem q_336 : (Jvm.Cond.fieldLink "SplitWatch$Script" (27 : Nat) "SplitWatch$Script" "end" "I") ∈ sw_WS := sw_mem 336 (by decide +kernel) rfl
theorem q_349 : (Jvm.Cond.fieldLink "SplitWatch" (10 : Nat) "SplitWatch" "bus" "LSplitWatch$Bus;") ∈ sw_WS := sw_mem 349 (by decide +kernel) rfl
theorem q_350 : (Jvm.Cond.fieldLink "SplitWatch" (23 : Nat) "SplitWatch" "script" "LSplitWatch$Script;") ∈ sw_WS := sw_mem 350 (by decide +kernel) rfl
theorem q_333 : (Jvm.Cond.fieldLinkNest "SplitWatch" (60 : Nat) "SplitWatch$Script" "length" "I" "SplitWatch") ∈ sw_WS := sw_mem 333 (by decide +kernel) rfl
theorem q_260 : (Jvm.Cond.fieldLinkNest "SplitWatch" (64 : Nat) "SplitWatch$Bus" "coreCount" "I" "SplitWatch") ∈ sw_WS := sw_mem 260 (by decide +kernel) rfl
theorem q_331 : (Jvm.Cond.fieldLinkNest "SplitWatch" (74 : Nat) "SplitWatch$Script" "numbers" "[I" "SplitWatch") ∈ sw_WS := sw_mem 331 (by decide +kernel) rfl
theorem q_335 : (Jvm.Cond.fieldLinkNest "SplitWatch" (78 : Nat) "SplitWatch$Script" "verb" "I" "SplitWatch") ∈ sw_WS := sw_mem 335 (by decide +kernel) rfl
theorem q_337 : (Jvm.Cond.fieldLinkNest "SplitWatch" (88 : Nat) "SplitWatch$Script" "end" "I" "SplitWatch") ∈ sw_WS := sw_mem 337 (by decide +kernel) rfl
theorem q_258 : (Jvm.Cond.fieldLinkNest "SplitWatch" (91 : Nat) "SplitWatch$Bus" "log" "LSplitWatch$Log;" "SplitWatch") ∈ sw_WS := sw_mem 258 (by decide +kernel) rfl
theorem q_253 : (Jvm.Cond.fieldLinkNest "SplitWatch" (119 : Nat) "SplitWatch$Bus" "cores" "[LSplitWatch$Core;" "SplitWatch") ∈ sw_WS := sw_mem 253 (by decide +kernel) rfl
theorem q_234 : (Jvm.Cond.fieldLinkNest "SplitWatch" (123 : Nat) "SplitWatch$Core" "cache" "LSplitWatch$Cache;" "SplitWatch") ∈ sw_WS := sw_mem 234 (by decide +kernel) rfl
theorem q_163 : (Jvm.Cond.fieldLinkNest "SplitWatch" (129 : Nat) "SplitWatch$Cache" "state" "[I" "SplitWatch") ∈ sw_WS := sw_mem 163 (by decide +kernel) rfl
theorem q_166 : (Jvm.Cond.fieldLinkNest "SplitWatch" (134 : Nat) "SplitWatch$Cache" "value" "[I" "SplitWatch") ∈ sw_WS := sw_mem 166 (by decide +kernel) rfl
theorem q_196 : (Jvm.Cond.fieldLinkNest "SplitWatch" (152 : Nat) "SplitWatch$Request" "value" "I" "SplitWatch") ∈ sw_WS := sw_mem 196 (by decide +kernel) rfl
theorem q_194 : (Jvm.Cond.fieldLinkNest "SplitWatch" (147 : Nat) "SplitWatch$Request" "line" "I" "SplitWatch") ∈ sw_WS := sw_mem 194 (by decide +kernel) rfl
theorem q_256 : (Jvm.Cond.fieldLinkNest "SplitWatch" (154 : Nat) "SplitWatch$Bus" "kept" "[I" "SplitWatch") ∈ sw_WS := sw_mem 256 (by decide +kernel) rfl
theorem q_237 : (Jvm.Cond.fieldLinkNest "SplitWatch" (160 : Nat) "SplitWatch$Core" "op" "LSplitWatch$Request;" "SplitWatch") ∈ sw_WS := sw_mem 237 (by decide +kernel) rfl
theorem q_189 : (Jvm.Cond.fieldLinkNest "SplitWatch" (167 : Nat) "SplitWatch$Request" "stage" "I" "SplitWatch") ∈ sw_WS := sw_mem 189 (by decide +kernel) rfl
theorem q_191 : (Jvm.Cond.fieldLinkNest "SplitWatch" (170 : Nat) "SplitWatch$Request" "kind" "I" "SplitWatch") ∈ sw_WS := sw_mem 191 (by decide +kernel) rfl
theorem q_268 : (Jvm.Cond.fieldLinkNest "SplitWatch" (173 : Nat) "SplitWatch$Bus" "now" "I" "SplitWatch") ∈ sw_WS := sw_mem 268 (by decide +kernel) rfl
theorem q_198 : (Jvm.Cond.fieldLinkNest "SplitWatch" (176 : Nat) "SplitWatch$Request" "since" "I" "SplitWatch") ∈ sw_WS := sw_mem 198 (by decide +kernel) rfl
theorem q_203 : (Jvm.Cond.fieldLinkNest "SplitWatch" (179 : Nat) "SplitWatch$Request" "sent" "I" "SplitWatch") ∈ sw_WS := sw_mem 203 (by decide +kernel) rfl
theorem q_242 : (Jvm.Cond.fieldLinkNest "SplitWatch" (164 : Nat) "SplitWatch$Core" "last" "I" "SplitWatch") ∈ sw_WS := sw_mem 242 (by decide +kernel) rfl
theorem q_186 : (Jvm.Cond.fieldLinkNest "SplitWatch" (188 : Nat) "SplitWatch$Request" "core" "I" "SplitWatch") ∈ sw_WS := sw_mem 186 (by decide +kernel) rfl
theorem q_201 : (Jvm.Cond.fieldLinkNest "SplitWatch" (191 : Nat) "SplitWatch$Request" "place" "I" "SplitWatch") ∈ sw_WS := sw_mem 201 (by decide +kernel) rfl
theorem q_206 : (Jvm.Cond.fieldLinkNest "SplitWatch" (197 : Nat) "SplitWatch$Request" "due" "I" "SplitWatch") ∈ sw_WS := sw_mem 206 (by decide +kernel) rfl
theorem q_208 : (Jvm.Cond.fieldLinkNest "SplitWatch" (200 : Nat) "SplitWatch$Request" "toBe" "I" "SplitWatch") ∈ sw_WS := sw_mem 208 (by decide +kernel) rfl
theorem q_262 : (Jvm.Cond.fieldLinkNest "SplitWatch" (214 : Nat) "SplitWatch$Bus" "capacity" "I" "SplitWatch") ∈ sw_WS := sw_mem 262 (by decide +kernel) rfl
theorem q_264 : (Jvm.Cond.fieldLinkNest "SplitWatch" (217 : Nat) "SplitWatch$Bus" "fast" "I" "SplitWatch") ∈ sw_WS := sw_mem 264 (by decide +kernel) rfl
theorem q_266 : (Jvm.Cond.fieldLinkNest "SplitWatch" (220 : Nat) "SplitWatch$Bus" "slow" "I" "SplitWatch") ∈ sw_WS := sw_mem 266 (by decide +kernel) rfl
theorem q_136 : (Jvm.Cond.fieldLinkNest "SplitWatch" (223 : Nat) "SplitWatch$Log" "total" "I" "SplitWatch") ∈ sw_WS := sw_mem 136 (by decide +kernel) rfl
theorem q_271 : (Jvm.Cond.fieldLinkNest "SplitWatch" (226 : Nat) "SplitWatch$Bus" "sentAway" "I" "SplitWatch") ∈ sw_WS := sw_mem 271 (by decide +kernel) rfl
theorem q_273 : (Jvm.Cond.fieldLinkNest "SplitWatch" (229 : Nat) "SplitWatch$Bus" "beaten" "I" "SplitWatch") ∈ sw_WS := sw_mem 273 (by decide +kernel) rfl
theorem q_275 : (Jvm.Cond.fieldLinkNest "SplitWatch" (232 : Nat) "SplitWatch$Bus" "ended" "I" "SplitWatch") ∈ sw_WS := sw_mem 275 (by decide +kernel) rfl
theorem q_277 : (Jvm.Cond.fieldLinkNest "SplitWatch" (235 : Nat) "SplitWatch$Bus" "answers" "I" "SplitWatch") ∈ sw_WS := sw_mem 277 (by decide +kernel) rfl
theorem q_775 : (Jvm.Cond.fieldLink "SplitWatchModel" (81 : Nat) "SplitWatchModel" "cores" "I") ∈ sw_WS := sw_mem 775 (by decide +kernel) rfl
theorem q_776 : (Jvm.Cond.fieldLink "SplitWatchModel" (85 : Nat) "SplitWatchModel" "size" "I") ∈ sw_WS := sw_mem 776 (by decide +kernel) rfl
theorem q_777 : (Jvm.Cond.fieldLink "SplitWatchModel" (88 : Nat) "SplitWatchModel" "fast" "I") ∈ sw_WS := sw_mem 777 (by decide +kernel) rfl
theorem q_778 : (Jvm.Cond.fieldLink "SplitWatchModel" (91 : Nat) "SplitWatchModel" "slow" "I") ∈ sw_WS := sw_mem 778 (by decide +kernel) rfl
theorem q_779 : (Jvm.Cond.fieldLink "SplitWatchModel" (94 : Nat) "SplitWatchModel" "now" "I") ∈ sw_WS := sw_mem 779 (by decide +kernel) rfl
theorem q_780 : (Jvm.Cond.fieldLink "SplitWatchModel" (7 : Nat) "SplitWatchModel" "memory" "[I") ∈ sw_WS := sw_mem 780 (by decide +kernel) rfl
theorem q_793 : (Jvm.Cond.fieldLink "SplitWatchModel" (97 : Nat) "SplitWatchModel" "waits" "I") ∈ sw_WS := sw_mem 793 (by decide +kernel) rfl
theorem q_795 : (Jvm.Cond.fieldLink "SplitWatchModel" (100 : Nat) "SplitWatchModel" "places" "I") ∈ sw_WS := sw_mem 795 (by decide +kernel) rfl
theorem q_796 : (Jvm.Cond.fieldLink "SplitWatchModel" (103 : Nat) "SplitWatchModel" "opens" "I") ∈ sw_WS := sw_mem 796 (by decide +kernel) rfl
theorem q_798 : (Jvm.Cond.fieldLink "SplitWatchModel" (106 : Nat) "SplitWatchModel" "ordered" "I") ∈ sw_WS := sw_mem 798 (by decide +kernel) rfl
theorem q_800 : (Jvm.Cond.fieldLink "SplitWatchModel" (109 : Nat) "SplitWatchModel" "away" "I") ∈ sw_WS := sw_mem 800 (by decide +kernel) rfl
theorem q_801 : (Jvm.Cond.fieldLink "SplitWatchModel" (112 : Nat) "SplitWatchModel" "beaten" "I") ∈ sw_WS := sw_mem 801 (by decide +kernel) rfl
theorem q_802 : (Jvm.Cond.fieldLink "SplitWatchModel" (115 : Nat) "SplitWatchModel" "ended" "I") ∈ sw_WS := sw_mem 802 (by decide +kernel) rfl
theorem q_803 : (Jvm.Cond.fieldLink "SplitWatchModel" (118 : Nat) "SplitWatchModel" "answers" "I") ∈ sw_WS := sw_mem 803 (by decide +kernel) rfl
theorem q_781 : (Jvm.Cond.fieldLink "SplitWatchModel" (13 : Nat) "SplitWatchModel" "many" "[I") ∈ sw_WS := sw_mem 781 (by decide +kernel) rfl
theorem q_785 : (Jvm.Cond.fieldLink "SplitWatchModel" (25 : Nat) "SplitWatchModel" "backs" "[I") ∈ sw_WS := sw_mem 785 (by decide +kernel) rfl
theorem q_788 : (Jvm.Cond.fieldLink "SplitWatchModel" (34 : Nat) "SplitWatchModel" "last" "[I") ∈ sw_WS := sw_mem 788 (by decide +kernel) rfl
theorem q_789 : (Jvm.Cond.fieldLink "SplitWatchModel" (37 : Nat) "SplitWatchModel" "op" "[I") ∈ sw_WS := sw_mem 789 (by decide +kernel) rfl
theorem q_782 : (Jvm.Cond.fieldLink "SplitWatchModel" (16 : Nat) "SplitWatchModel" "line" "[I") ∈ sw_WS := sw_mem 782 (by decide +kernel) rfl
theorem q_784 : (Jvm.Cond.fieldLink "SplitWatchModel" (22 : Nat) "SplitWatchModel" "how" "[I") ∈ sw_WS := sw_mem 784 (by decide +kernel) rfl
theorem q_783 : (Jvm.Cond.fieldLink "SplitWatchModel" (19 : Nat) "SplitWatchModel" "value" "[I") ∈ sw_WS := sw_mem 783 (by decide +kernel) rfl
theorem q_794 : (Jvm.Cond.fieldLink "SplitWatchModel" (49 : Nat) "SplitWatchModel" "ask" "[I") ∈ sw_WS := sw_mem 794 (by decide +kernel) rfl
theorem q_786 : (Jvm.Cond.fieldLink "SplitWatchModel" (28 : Nat) "SplitWatchModel" "backLine" "[I") ∈ sw_WS := sw_mem 786 (by decide +kernel) rfl
theorem q_787 : (Jvm.Cond.fieldLink "SplitWatchModel" (31 : Nat) "SplitWatchModel" "backValue" "[I") ∈ sw_WS := sw_mem 787 (by decide +kernel) rfl
theorem q_797 : (Jvm.Cond.fieldLink "SplitWatchModel" (52 : Nat) "SplitWatchModel" "opened" "[I") ∈ sw_WS := sw_mem 797 (by decide +kernel) rfl
theorem q_790 : (Jvm.Cond.fieldLink "SplitWatchModel" (40 : Nat) "SplitWatchModel" "opLine" "[I") ∈ sw_WS := sw_mem 790 (by decide +kernel) rfl
theorem q_791 : (Jvm.Cond.fieldLink "SplitWatchModel" (43 : Nat) "SplitWatchModel" "opValue" "[I") ∈ sw_WS := sw_mem 791 (by decide +kernel) rfl
theorem q_792 : (Jvm.Cond.fieldLink "SplitWatchModel" (46 : Nat) "SplitWatchModel" "opSince" "[I") ∈ sw_WS := sw_mem 792 (by decide +kernel) rfl
theorem q_799 : (Jvm.Cond.fieldLink "SplitWatchModel" (55 : Nat) "SplitWatchModel" "order" "[I") ∈ sw_WS := sw_mem 799 (by decide +kernel) rfl
theorem q_804 : (Jvm.Cond.fieldLink "SplitWatchModel" (231 : Nat) "SplitWatchModel" "length" "I") ∈ sw_WS := sw_mem 804 (by decide +kernel) rfl
theorem q_805 : (Jvm.Cond.fieldLink "SplitWatchModel" (58 : Nat) "SplitWatchModel" "text" "[I") ∈ sw_WS := sw_mem 805 (by decide +kernel) rfl
theorem q_806 : (Jvm.Cond.fieldLink "SplitWatchModel" (234 : Nat) "SplitWatchModel" "spot" "I") ∈ sw_WS := sw_mem 806 (by decide +kernel) rfl
theorem q_808 : (Jvm.Cond.fieldLink "SplitWatchModel" (262 : Nat) "SplitWatchModel" "command" "I") ∈ sw_WS := sw_mem 808 (by decide +kernel) rfl
theorem q_807 : (Jvm.Cond.fieldLink "SplitWatchModel" (61 : Nat) "SplitWatchModel" "numbers" "[I") ∈ sw_WS := sw_mem 807 (by decide +kernel) rfl
theorem q_809 : (Jvm.Cond.fieldLink "SplitWatchModel" (64 : Nat) "SplitWatchModel" "wordLetters" "[I") ∈ sw_WS := sw_mem 809 (by decide +kernel) rfl
theorem q_319 : (Jvm.Cond.methodLinkNest "SplitWatch$Core" (31 : Nat) ({ cls := "SplitWatch$Cache", name := "clear", desc := "()V" } : Jvm.MethodName) "SplitWatch") ∈ sw_WS := sw_mem 319 (by decide +kernel) rfl
theorem q_100 : (Jvm.Cond.initialized "SplitWatch$Cache") ∈ sw_WS := sw_mem 100 (by decide +kernel) rfl
theorem q_322 : (Jvm.Cond.code ({ cls := "SplitWatch$Cache", name := "clear", desc := "()V" } : Jvm.MethodName) prog_3_method_2_code (2 : Nat) (Option.none : Option Jvm.ClassFile.FieldType)) ∈ sw_WS := sw_mem 322 (by decide +kernel) rfl
theorem q_321 : (Jvm.Cond.instanceMethod ({ cls := "SplitWatch$Cache", name := "clear", desc := "()V" } : Jvm.MethodName)) ∈ sw_WS := sw_mem 321 (by decide +kernel) rfl
theorem q_3 : Cond.selects "SplitWatch$Cache" ⟨"SplitWatch$Cache", "clear", "()V"⟩ ⟨"SplitWatch$Cache", "clear", "()V"⟩ ∈ sw_WS := sw_mem 3 (by decide +kernel) rfl
theorem q_311 : (Jvm.Cond.methodLinkNest "SplitWatch$Bus" (75 : Nat) ({ cls := "SplitWatch$Log", name := "clear", desc := "()V" } : Jvm.MethodName) "SplitWatch") ∈ sw_WS := sw_mem 311 (by decide +kernel) rfl
theorem q_98 : (Jvm.Cond.initialized "SplitWatch$Log") ∈ sw_WS := sw_mem 98 (by decide +kernel) rfl
theorem q_314 : (Jvm.Cond.code ({ cls := "SplitWatch$Log", name := "clear", desc := "()V" } : Jvm.MethodName) prog_5_method_2_code (1 : Nat) (Option.none : Option Jvm.ClassFile.FieldType)) ∈ sw_WS := sw_mem 314 (by decide +kernel) rfl
theorem q_313 : (Jvm.Cond.instanceMethod ({ cls := "SplitWatch$Log", name := "clear", desc := "()V" } : Jvm.MethodName)) ∈ sw_WS := sw_mem 313 (by decide +kernel) rfl
theorem q_1 : Cond.selects "SplitWatch$Log" ⟨"SplitWatch$Log", "clear", "()V"⟩ ⟨"SplitWatch$Log", "clear", "()V"⟩ ∈ sw_WS := sw_mem 1 (by decide +kernel) rfl
theorem q_315 : (Jvm.Cond.methodLinkNest "SplitWatch$Bus" (78 : Nat) ({ cls := "SplitWatch$Core", name := "clear", desc := "()V" } : Jvm.MethodName) "SplitWatch") ∈ sw_WS := sw_mem 315 (by decide +kernel) rfl
theorem q_99 : (Jvm.Cond.initialized "SplitWatch$Core") ∈ sw_WS := sw_mem 99 (by decide +kernel) rfl
theorem q_318 : (Jvm.Cond.code ({ cls := "SplitWatch$Core", name := "clear", desc := "()V" } : Jvm.MethodName) prog_4_method_2_code (2 : Nat) (Option.none : Option Jvm.ClassFile.FieldType)) ∈ sw_WS := sw_mem 318 (by decide +kernel) rfl
theorem q_317 : (Jvm.Cond.instanceMethod ({ cls := "SplitWatch$Core", name := "clear", desc := "()V" } : Jvm.MethodName)) ∈ sw_WS := sw_mem 317 (by decide +kernel) rfl
theorem q_2 : Cond.selects "SplitWatch$Core" ⟨"SplitWatch$Core", "clear", "()V"⟩ ⟨"SplitWatch$Core", "clear", "()V"⟩ ∈ sw_WS := sw_mem 2 (by decide +kernel) rfl
theorem q_371 : (Jvm.Cond.methodLinkNest "SplitWatch$Bus" (79 : Nat) ({ cls := "SplitWatch", name := "isWithin", desc := "(III)Z" } : Jvm.MethodName) "SplitWatch") ∈ sw_WS := sw_mem 371 (by decide +kernel) rfl
theorem q_96 : (Jvm.Cond.initialized "SplitWatch") ∈ sw_WS := sw_mem 96 (by decide +kernel) rfl
theorem q_362 : (Jvm.Cond.code ({ cls := "SplitWatch", name := "isWithin", desc := "(III)Z" } : Jvm.MethodName) prog_1_method_23_code (3 : Nat) (Option.some Jvm.ClassFile.FieldType.boolean)) ∈ sw_WS := sw_mem 362 (by decide +kernel) rfl
theorem q_361 : (Jvm.Cond.static ({ cls := "SplitWatch", name := "isWithin", desc := "(III)Z" } : Jvm.MethodName)) ∈ sw_WS := sw_mem 361 (by decide +kernel) rfl
theorem q_391 : (Jvm.Cond.methodLinkNest "SplitWatch$Bus" (173 : Nat) ({ cls := "SplitWatch$Cache", name := "held", desc := "()I" } : Jvm.MethodName) "SplitWatch") ∈ sw_WS := sw_mem 391 (by decide +kernel) rfl
theorem q_394 : (Jvm.Cond.code ({ cls := "SplitWatch$Cache", name := "held", desc := "()I" } : Jvm.MethodName) prog_3_method_6_code (3 : Nat) (Option.some Jvm.ClassFile.FieldType.int)) ∈ sw_WS := sw_mem 394 (by decide +kernel) rfl
theorem q_393 : (Jvm.Cond.instanceMethod ({ cls := "SplitWatch$Cache", name := "held", desc := "()I" } : Jvm.MethodName)) ∈ sw_WS := sw_mem 393 (by decide +kernel) rfl
theorem q_9 : Cond.selects "SplitWatch$Cache" ⟨"SplitWatch$Cache", "held", "()I"⟩ ⟨"SplitWatch$Cache", "held", "()I"⟩ ∈ sw_WS := sw_mem 9 (by decide +kernel) rfl
theorem q_395 : (Jvm.Cond.methodLinkNest "SplitWatch$Bus" (177 : Nat) ({ cls := "SplitWatch$Cache", name := "oldest", desc := "()I" } : Jvm.MethodName) "SplitWatch") ∈ sw_WS := sw_mem 395 (by decide +kernel) rfl
theorem q_398 : (Jvm.Cond.code ({ cls := "SplitWatch$Cache", name := "oldest", desc := "()I" } : Jvm.MethodName) prog_3_method_7_code (3 : Nat) (Option.some Jvm.ClassFile.FieldType.int)) ∈ sw_WS := sw_mem 398 (by decide +kernel) rfl
theorem q_397 : (Jvm.Cond.instanceMethod ({ cls := "SplitWatch$Cache", name := "oldest", desc := "()I" } : Jvm.MethodName)) ∈ sw_WS := sw_mem 397 (by decide +kernel) rfl
theorem q_10 : Cond.selects "SplitWatch$Cache" ⟨"SplitWatch$Cache", "oldest", "()I"⟩ ⟨"SplitWatch$Cache", "oldest", "()I"⟩ ∈ sw_WS := sw_mem 10 (by decide +kernel) rfl
theorem q_403 : (Jvm.Cond.methodLinkNest "SplitWatch$Bus" (135 : Nat) ({ cls := "SplitWatch$Core", name := "freeBack", desc := "()LSplitWatch$Request;" } : Jvm.MethodName) "SplitWatch") ∈ sw_WS := sw_mem 403 (by decide +kernel) rfl
theorem q_406 : (Jvm.Cond.code ({ cls := "SplitWatch$Core", name := "freeBack", desc := "()LSplitWatch$Request;" } : Jvm.MethodName) prog_4_method_7_code (2 : Nat) (Option.some (Jvm.ClassFile.FieldType.object "SplitWatch$Request"))) ∈ sw_WS := sw_mem 406 (by decide +kernel) rfl
theorem q_405 : (Jvm.Cond.instanceMethod ({ cls := "SplitWatch$Core", name := "freeBack", desc := "()LSplitWatch$Request;" } : Jvm.MethodName)) ∈ sw_WS := sw_mem 405 (by decide +kernel) rfl
theorem q_12 : Cond.selects "SplitWatch$Core" ⟨"SplitWatch$Core", "freeBack", "()LSplitWatch$Request;"⟩ ⟨"SplitWatch$Core", "freeBack", "()LSplitWatch$Request;"⟩ ∈ sw_WS := sw_mem 12 (by decide +kernel) rfl
theorem q_407 : (Jvm.Cond.methodLink "SplitWatch$Bus" (114 : Nat) ({ cls := "SplitWatch$Bus", name := "ask", desc := "(LSplitWatch$Request;III)V" } : Jvm.MethodName)) ∈ sw_WS := sw_mem 407 (by decide +kernel) rfl
theorem q_97 : (Jvm.Cond.initialized "SplitWatch$Bus") ∈ sw_WS := sw_mem 97 (by decide +kernel) rfl
theorem q_410 : (Jvm.Cond.code ({ cls := "SplitWatch$Bus", name := "ask", desc := "(LSplitWatch$Request;III)V" } : Jvm.MethodName) prog_2_method_9_code (5 : Nat) (Option.none : Option Jvm.ClassFile.FieldType)) ∈ sw_WS := sw_mem 410 (by decide +kernel) rfl
theorem q_409 : (Jvm.Cond.instanceMethod ({ cls := "SplitWatch$Bus", name := "ask", desc := "(LSplitWatch$Request;III)V" } : Jvm.MethodName)) ∈ sw_WS := sw_mem 409 (by decide +kernel) rfl
theorem q_13 : Cond.selects "SplitWatch$Bus" ⟨"SplitWatch$Bus", "ask", "(LSplitWatch$Request;III)V"⟩ ⟨"SplitWatch$Bus", "ask", "(LSplitWatch$Request;III)V"⟩ ∈ sw_WS := sw_mem 13 (by decide +kernel) rfl
theorem q_415 : (Jvm.Cond.methodLink "SplitWatch$Cache" (25 : Nat) ({ cls := "SplitWatch$Cache", name := "use", desc := "(I)V" } : Jvm.MethodName)) ∈ sw_WS := sw_mem 415 (by decide +kernel) rfl
theorem q_418 : (Jvm.Cond.code ({ cls := "SplitWatch$Cache", name := "use", desc := "(I)V" } : Jvm.MethodName) prog_3_method_4_code (2 : Nat) (Option.none : Option Jvm.ClassFile.FieldType)) ∈ sw_WS := sw_mem 418 (by decide +kernel) rfl
theorem q_417 : (Jvm.Cond.instanceMethod ({ cls := "SplitWatch$Cache", name := "use", desc := "(I)V" } : Jvm.MethodName)) ∈ sw_WS := sw_mem 417 (by decide +kernel) rfl
theorem q_15 : Cond.selects "SplitWatch$Cache" ⟨"SplitWatch$Cache", "use", "(I)V"⟩ ⟨"SplitWatch$Cache", "use", "(I)V"⟩ ∈ sw_WS := sw_mem 15 (by decide +kernel) rfl
theorem q_399 : (Jvm.Cond.methodLink "SplitWatch$Bus" (139 : Nat) ({ cls := "SplitWatch$Bus", name := "giveUp", desc := "(LSplitWatch$Core;I)V" } : Jvm.MethodName)) ∈ sw_WS := sw_mem 399 (by decide +kernel) rfl
theorem q_402 : (Jvm.Cond.code ({ cls := "SplitWatch$Bus", name := "giveUp", desc := "(LSplitWatch$Core;I)V" } : Jvm.MethodName) prog_2_method_13_code (4 : Nat) (Option.none : Option Jvm.ClassFile.FieldType)) ∈ sw_WS := sw_mem 402 (by decide +kernel) rfl
theorem q_401 : (Jvm.Cond.instanceMethod ({ cls := "SplitWatch$Bus", name := "giveUp", desc := "(LSplitWatch$Core;I)V" } : Jvm.MethodName)) ∈ sw_WS := sw_mem 401 (by decide +kernel) rfl
theorem q_11 : Cond.selects "SplitWatch$Bus" ⟨"SplitWatch$Bus", "giveUp", "(LSplitWatch$Core;I)V"⟩ ⟨"SplitWatch$Bus", "giveUp", "(LSplitWatch$Core;I)V"⟩ ∈ sw_WS := sw_mem 11 (by decide +kernel) rfl
theorem q_411 : (Jvm.Cond.methodLinkNest "SplitWatch$Bus" (131 : Nat) ({ cls := "SplitWatch$Cache", name := "put", desc := "(III)V" } : Jvm.MethodName) "SplitWatch") ∈ sw_WS := sw_mem 411 (by decide +kernel) rfl
theorem q_414 : (Jvm.Cond.code ({ cls := "SplitWatch$Cache", name := "put", desc := "(III)V" } : Jvm.MethodName) prog_3_method_5_code (4 : Nat) (Option.none : Option Jvm.ClassFile.FieldType)) ∈ sw_WS := sw_mem 414 (by decide +kernel) rfl
theorem q_413 : (Jvm.Cond.instanceMethod ({ cls := "SplitWatch$Cache", name := "put", desc := "(III)V" } : Jvm.MethodName)) ∈ sw_WS := sw_mem 413 (by decide +kernel) rfl
theorem q_14 : Cond.selects "SplitWatch$Cache" ⟨"SplitWatch$Cache", "put", "(III)V"⟩ ⟨"SplitWatch$Cache", "put", "(III)V"⟩ ∈ sw_WS := sw_mem 14 (by decide +kernel) rfl
theorem q_387 : (Jvm.Cond.methodLink "SplitWatch$Bus" (169 : Nat) ({ cls := "SplitWatch$Bus", name := "fill", desc := "(LSplitWatch$Core;III)V" } : Jvm.MethodName)) ∈ sw_WS := sw_mem 387 (by decide +kernel) rfl
theorem q_390 : (Jvm.Cond.code ({ cls := "SplitWatch$Bus", name := "fill", desc := "(LSplitWatch$Core;III)V" } : Jvm.MethodName) prog_2_method_12_code (6 : Nat) (Option.none : Option Jvm.ClassFile.FieldType)) ∈ sw_WS := sw_mem 390 (by decide +kernel) rfl
theorem q_389 : (Jvm.Cond.instanceMethod ({ cls := "SplitWatch$Bus", name := "fill", desc := "(LSplitWatch$Core;III)V" } : Jvm.MethodName)) ∈ sw_WS := sw_mem 389 (by decide +kernel) rfl
theorem q_8 : Cond.selects "SplitWatch$Bus" ⟨"SplitWatch$Bus", "fill", "(LSplitWatch$Core;III)V"⟩ ⟨"SplitWatch$Bus", "fill", "(LSplitWatch$Core;III)V"⟩ ∈ sw_WS := sw_mem 8 (by decide +kernel) rfl
theorem q_452 : (Jvm.Cond.methodLink "SplitWatch$Bus" (183 : Nat) ({ cls := "SplitWatch$Bus", name := "canFill", desc := "(LSplitWatch$Core;)Z" } : Jvm.MethodName)) ∈ sw_WS := sw_mem 452 (by decide +kernel) rfl
theorem q_455 : (Jvm.Cond.code ({ cls := "SplitWatch$Bus", name := "canFill", desc := "(LSplitWatch$Core;)Z" } : Jvm.MethodName) prog_2_method_11_code (3 : Nat) (Option.some Jvm.ClassFile.FieldType.boolean)) ∈ sw_WS := sw_mem 455 (by decide +kernel) rfl
theorem q_454 : (Jvm.Cond.instanceMethod ({ cls := "SplitWatch$Bus", name := "canFill", desc := "(LSplitWatch$Core;)Z" } : Jvm.MethodName)) ∈ sw_WS := sw_mem 454 (by decide +kernel) rfl
theorem q_21 : Cond.selects "SplitWatch$Bus" ⟨"SplitWatch$Bus", "canFill", "(LSplitWatch$Core;)Z"⟩ ⟨"SplitWatch$Bus", "canFill", "(LSplitWatch$Core;)Z"⟩ ∈ sw_WS := sw_mem 21 (by decide +kernel) rfl
theorem q_468 : (Jvm.Cond.methodLink "SplitWatch$Bus" (199 : Nat) ({ cls := "SplitWatch$Bus", name := "openOf", desc := "(I)LSplitWatch$Request;" } : Jvm.MethodName)) ∈ sw_WS := sw_mem 468 (by decide +kernel) rfl
theorem q_471 : (Jvm.Cond.code ({ cls := "SplitWatch$Bus", name := "openOf", desc := "(I)LSplitWatch$Request;" } : Jvm.MethodName) prog_2_method_24_code (4 : Nat) (Option.some (Jvm.ClassFile.FieldType.object "SplitWatch$Request"))) ∈ sw_WS := sw_mem 471 (by decide +kernel) rfl
theorem q_470 : (Jvm.Cond.instanceMethod ({ cls := "SplitWatch$Bus", name := "openOf", desc := "(I)LSplitWatch$Request;" } : Jvm.MethodName)) ∈ sw_WS := sw_mem 470 (by decide +kernel) rfl
theorem q_25 : Cond.selects "SplitWatch$Bus" ⟨"SplitWatch$Bus", "openOf", "(I)LSplitWatch$Request;"⟩ ⟨"SplitWatch$Bus", "openOf", "(I)LSplitWatch$Request;"⟩ ∈ sw_WS := sw_mem 25 (by decide +kernel) rfl
theorem q_464 : (Jvm.Cond.methodLink "SplitWatch$Bus" (237 : Nat) ({ cls := "SplitWatch$Bus", name := "keyOf", desc := "(LSplitWatch$Request;)I" } : Jvm.MethodName)) ∈ sw_WS := sw_mem 464 (by decide +kernel) rfl
theorem q_467 : (Jvm.Cond.code ({ cls := "SplitWatch$Bus", name := "keyOf", desc := "(LSplitWatch$Request;)I" } : Jvm.MethodName) prog_2_method_25_code (3 : Nat) (Option.some Jvm.ClassFile.FieldType.int)) ∈ sw_WS := sw_mem 467 (by decide +kernel) rfl
theorem q_466 : (Jvm.Cond.instanceMethod ({ cls := "SplitWatch$Bus", name := "keyOf", desc := "(LSplitWatch$Request;)I" } : Jvm.MethodName)) ∈ sw_WS := sw_mem 466 (by decide +kernel) rfl
theorem q_24 : Cond.selects "SplitWatch$Bus" ⟨"SplitWatch$Bus", "keyOf", "(LSplitWatch$Request;)I"⟩ ⟨"SplitWatch$Bus", "keyOf", "(LSplitWatch$Request;)I"⟩ ∈ sw_WS := sw_mem 24 (by decide +kernel) rfl
theorem q_481 : (Jvm.Cond.methodLinkNest "SplitWatch$Bus" (219 : Nat) ({ cls := "SplitWatch$Log", name := "add", desc := "(ICI)V" } : Jvm.MethodName) "SplitWatch") ∈ sw_WS := sw_mem 481 (by decide +kernel) rfl
theorem q_484 : (Jvm.Cond.code ({ cls := "SplitWatch$Log", name := "add", desc := "(ICI)V" } : Jvm.MethodName) prog_5_method_3_code (5 : Nat) (Option.none : Option Jvm.ClassFile.FieldType)) ∈ sw_WS := sw_mem 484 (by decide +kernel) rfl
theorem q_483 : (Jvm.Cond.instanceMethod ({ cls := "SplitWatch$Log", name := "add", desc := "(ICI)V" } : Jvm.MethodName)) ∈ sw_WS := sw_mem 483 (by decide +kernel) rfl
theorem q_28 : Cond.selects "SplitWatch$Log" ⟨"SplitWatch$Log", "add", "(ICI)V"⟩ ⟨"SplitWatch$Log", "add", "(ICI)V"⟩ ∈ sw_WS := sw_mem 28 (by decide +kernel) rfl
theorem q_428 : (Jvm.Cond.methodLinkNest "SplitWatch$Bus" (127 : Nat) ({ cls := "SplitWatch$Cache", name := "isSole", desc := "(I)Z" } : Jvm.MethodName) "SplitWatch") ∈ sw_WS := sw_mem 428 (by decide +kernel) rfl
theorem q_431 : (Jvm.Cond.code ({ cls := "SplitWatch$Cache", name := "isSole", desc := "(I)Z" } : Jvm.MethodName) prog_3_method_3_code (2 : Nat) (Option.some Jvm.ClassFile.FieldType.boolean)) ∈ sw_WS := sw_mem 431 (by decide +kernel) rfl
theorem q_430 : (Jvm.Cond.instanceMethod ({ cls := "SplitWatch$Cache", name := "isSole", desc := "(I)Z" } : Jvm.MethodName)) ∈ sw_WS := sw_mem 430 (by decide +kernel) rfl
theorem q_17 : Cond.selects "SplitWatch$Cache" ⟨"SplitWatch$Cache", "isSole", "(I)Z"⟩ ⟨"SplitWatch$Cache", "isSole", "(I)Z"⟩ ∈ sw_WS := sw_mem 17 (by decide +kernel) rfl
theorem q_383 : (Jvm.Cond.methodLinkNest "SplitWatch$Bus" (165 : Nat) ({ cls := "SplitWatch$Core", name := "backOf", desc := "(I)LSplitWatch$Request;" } : Jvm.MethodName) "SplitWatch") ∈ sw_WS := sw_mem 383 (by decide +kernel) rfl
theorem q_386 : (Jvm.Cond.code ({ cls := "SplitWatch$Core", name := "backOf", desc := "(I)LSplitWatch$Request;" } : Jvm.MethodName) prog_4_method_4_code (3 : Nat) (Option.some (Jvm.ClassFile.FieldType.object "SplitWatch$Request"))) ∈ sw_WS := sw_mem 386 (by decide +kernel) rfl
theorem q_385 : (Jvm.Cond.instanceMethod ({ cls := "SplitWatch$Core", name := "backOf", desc := "(I)LSplitWatch$Request;" } : Jvm.MethodName)) ∈ sw_WS := sw_mem 385 (by decide +kernel) rfl
theorem q_7 : Cond.selects "SplitWatch$Core" ⟨"SplitWatch$Core", "backOf", "(I)LSplitWatch$Request;"⟩ ⟨"SplitWatch$Core", "backOf", "(I)LSplitWatch$Request;"⟩ ∈ sw_WS := sw_mem 7 (by decide +kernel) rfl
theorem q_492 : (Jvm.Cond.methodLink "SplitWatch$Bus" (230 : Nat) ({ cls := "SplitWatch$Bus", name := "answerTime", desc := "(II)I" } : Jvm.MethodName)) ∈ sw_WS := sw_mem 492 (by decide +kernel) rfl
theorem q_495 : (Jvm.Cond.code ({ cls := "SplitWatch$Bus", name := "answerTime", desc := "(II)I" } : Jvm.MethodName) prog_2_method_21_code (4 : Nat) (Option.some Jvm.ClassFile.FieldType.int)) ∈ sw_WS := sw_mem 495 (by decide +kernel) rfl
theorem q_494 : (Jvm.Cond.instanceMethod ({ cls := "SplitWatch$Bus", name := "answerTime", desc := "(II)I" } : Jvm.MethodName)) ∈ sw_WS := sw_mem 494 (by decide +kernel) rfl
theorem q_30 : Cond.selects "SplitWatch$Bus" ⟨"SplitWatch$Bus", "answerTime", "(II)I"⟩ ⟨"SplitWatch$Bus", "answerTime", "(II)I"⟩ ∈ sw_WS := sw_mem 30 (by decide +kernel) rfl
theorem q_496 : (Jvm.Cond.methodLink "SplitWatch$Bus" (233 : Nat) ({ cls := "SplitWatch$Bus", name := "bringToMemory", desc := "(LSplitWatch$Core;I)V" } : Jvm.MethodName)) ∈ sw_WS := sw_mem 496 (by decide +kernel) rfl
theorem q_499 : (Jvm.Cond.code ({ cls := "SplitWatch$Bus", name := "bringToMemory", desc := "(LSplitWatch$Core;I)V" } : Jvm.MethodName) prog_2_method_22_code (4 : Nat) (Option.none : Option Jvm.ClassFile.FieldType)) ∈ sw_WS := sw_mem 499 (by decide +kernel) rfl
theorem q_498 : (Jvm.Cond.instanceMethod ({ cls := "SplitWatch$Bus", name := "bringToMemory", desc := "(LSplitWatch$Core;I)V" } : Jvm.MethodName)) ∈ sw_WS := sw_mem 498 (by decide +kernel) rfl
theorem q_31 : Cond.selects "SplitWatch$Bus" ⟨"SplitWatch$Bus", "bringToMemory", "(LSplitWatch$Core;I)V"⟩ ⟨"SplitWatch$Bus", "bringToMemory", "(LSplitWatch$Core;I)V"⟩ ∈ sw_WS := sw_mem 31 (by decide +kernel) rfl
theorem q_504 : (Jvm.Cond.methodLink "SplitWatch$Bus" (223 : Nat) ({ cls := "SplitWatch$Bus", name := "takeFromOthers", desc := "(II)V" } : Jvm.MethodName)) ∈ sw_WS := sw_mem 504 (by decide +kernel) rfl
theorem q_507 : (Jvm.Cond.code ({ cls := "SplitWatch$Bus", name := "takeFromOthers", desc := "(II)V" } : Jvm.MethodName) prog_2_method_23_code (5 : Nat) (Option.none : Option Jvm.ClassFile.FieldType)) ∈ sw_WS := sw_mem 507 (by decide +kernel) rfl
theorem q_506 : (Jvm.Cond.instanceMethod ({ cls := "SplitWatch$Bus", name := "takeFromOthers", desc := "(II)V" } : Jvm.MethodName)) ∈ sw_WS := sw_mem 506 (by decide +kernel) rfl
theorem q_33 : Cond.selects "SplitWatch$Bus" ⟨"SplitWatch$Bus", "takeFromOthers", "(II)V"⟩ ⟨"SplitWatch$Bus", "takeFromOthers", "(II)V"⟩ ∈ sw_WS := sw_mem 33 (by decide +kernel) rfl
theorem q_460 : (Jvm.Cond.methodLink "SplitWatch$Bus" (196 : Nat) ({ cls := "SplitWatch$Bus", name := "nextWaiting", desc := "()LSplitWatch$Request;" } : Jvm.MethodName)) ∈ sw_WS := sw_mem 460 (by decide +kernel) rfl
theorem q_463 : (Jvm.Cond.code ({ cls := "SplitWatch$Bus", name := "nextWaiting", desc := "()LSplitWatch$Request;" } : Jvm.MethodName) prog_2_method_26_code (4 : Nat) (Option.some (Jvm.ClassFile.FieldType.object "SplitWatch$Request"))) ∈ sw_WS := sw_mem 463 (by decide +kernel) rfl
theorem q_462 : (Jvm.Cond.instanceMethod ({ cls := "SplitWatch$Bus", name := "nextWaiting", desc := "()LSplitWatch$Request;" } : Jvm.MethodName)) ∈ sw_WS := sw_mem 462 (by decide +kernel) rfl
theorem q_23 : Cond.selects "SplitWatch$Bus" ⟨"SplitWatch$Bus", "nextWaiting", "()LSplitWatch$Request;"⟩ ⟨"SplitWatch$Bus", "nextWaiting", "()LSplitWatch$Request;"⟩ ∈ sw_WS := sw_mem 23 (by decide +kernel) rfl
theorem q_473 : (Jvm.Cond.methodLink "SplitWatch$Bus" (202 : Nat) ({ cls := "SplitWatch$Bus", name := "sendAway", desc := "(LSplitWatch$Request;)V" } : Jvm.MethodName)) ∈ sw_WS := sw_mem 473 (by decide +kernel) rfl
theorem q_476 : (Jvm.Cond.code ({ cls := "SplitWatch$Bus", name := "sendAway", desc := "(LSplitWatch$Request;)V" } : Jvm.MethodName) prog_2_method_16_code (2 : Nat) (Option.none : Option Jvm.ClassFile.FieldType)) ∈ sw_WS := sw_mem 476 (by decide +kernel) rfl
theorem q_475 : (Jvm.Cond.instanceMethod ({ cls := "SplitWatch$Bus", name := "sendAway", desc := "(LSplitWatch$Request;)V" } : Jvm.MethodName)) ∈ sw_WS := sw_mem 475 (by decide +kernel) rfl
theorem q_26 : Cond.selects "SplitWatch$Bus" ⟨"SplitWatch$Bus", "sendAway", "(LSplitWatch$Request;)V"⟩ ⟨"SplitWatch$Bus", "sendAway", "(LSplitWatch$Request;)V"⟩ ∈ sw_WS := sw_mem 26 (by decide +kernel) rfl
theorem q_488 : (Jvm.Cond.methodLink "SplitWatch$Bus" (209 : Nat) ({ cls := "SplitWatch$Bus", name := "orderRead", desc := "(LSplitWatch$Request;)V" } : Jvm.MethodName)) ∈ sw_WS := sw_mem 488 (by decide +kernel) rfl
theorem q_491 : (Jvm.Cond.code ({ cls := "SplitWatch$Bus", name := "orderRead", desc := "(LSplitWatch$Request;)V" } : Jvm.MethodName) prog_2_method_19_code (4 : Nat) (Option.none : Option Jvm.ClassFile.FieldType)) ∈ sw_WS := sw_mem 491 (by decide +kernel) rfl
theorem q_490 : (Jvm.Cond.instanceMethod ({ cls := "SplitWatch$Bus", name := "orderRead", desc := "(LSplitWatch$Request;)V" } : Jvm.MethodName)) ∈ sw_WS := sw_mem 490 (by decide +kernel) rfl
theorem q_29 : Cond.selects "SplitWatch$Bus" ⟨"SplitWatch$Bus", "orderRead", "(LSplitWatch$Request;)V"⟩ ⟨"SplitWatch$Bus", "orderRead", "(LSplitWatch$Request;)V"⟩ ∈ sw_WS := sw_mem 29 (by decide +kernel) rfl
theorem q_500 : (Jvm.Cond.methodLink "SplitWatch$Bus" (212 : Nat) ({ cls := "SplitWatch$Bus", name := "orderOwn", desc := "(LSplitWatch$Request;C)V" } : Jvm.MethodName)) ∈ sw_WS := sw_mem 500 (by decide +kernel) rfl
theorem q_503 : (Jvm.Cond.code ({ cls := "SplitWatch$Bus", name := "orderOwn", desc := "(LSplitWatch$Request;C)V" } : Jvm.MethodName) prog_2_method_20_code (4 : Nat) (Option.none : Option Jvm.ClassFile.FieldType)) ∈ sw_WS := sw_mem 503 (by decide +kernel) rfl
theorem q_502 : (Jvm.Cond.instanceMethod ({ cls := "SplitWatch$Bus", name := "orderOwn", desc := "(LSplitWatch$Request;C)V" } : Jvm.MethodName)) ∈ sw_WS := sw_mem 502 (by decide +kernel) rfl
theorem q_32 : Cond.selects "SplitWatch$Bus" ⟨"SplitWatch$Bus", "orderOwn", "(LSplitWatch$Request;C)V"⟩ ⟨"SplitWatch$Bus", "orderOwn", "(LSplitWatch$Request;C)V"⟩ ∈ sw_WS := sw_mem 32 (by decide +kernel) rfl
theorem q_508 : (Jvm.Cond.methodLink "SplitWatch$Bus" (216 : Nat) ({ cls := "SplitWatch$Bus", name := "orderRise", desc := "(LSplitWatch$Request;)V" } : Jvm.MethodName)) ∈ sw_WS := sw_mem 508 (by decide +kernel) rfl
theorem q_511 : (Jvm.Cond.code ({ cls := "SplitWatch$Bus", name := "orderRise", desc := "(LSplitWatch$Request;)V" } : Jvm.MethodName) prog_2_method_18_code (2 : Nat) (Option.none : Option Jvm.ClassFile.FieldType)) ∈ sw_WS := sw_mem 511 (by decide +kernel) rfl
theorem q_510 : (Jvm.Cond.instanceMethod ({ cls := "SplitWatch$Bus", name := "orderRise", desc := "(LSplitWatch$Request;)V" } : Jvm.MethodName)) ∈ sw_WS := sw_mem 510 (by decide +kernel) rfl
theorem q_34 : Cond.selects "SplitWatch$Bus" ⟨"SplitWatch$Bus", "orderRise", "(LSplitWatch$Request;)V"⟩ ⟨"SplitWatch$Bus", "orderRise", "(LSplitWatch$Request;)V"⟩ ∈ sw_WS := sw_mem 34 (by decide +kernel) rfl
theorem q_477 : (Jvm.Cond.methodLink "SplitWatch$Bus" (206 : Nat) ({ cls := "SplitWatch$Bus", name := "orderBack", desc := "(LSplitWatch$Request;)V" } : Jvm.MethodName)) ∈ sw_WS := sw_mem 477 (by decide +kernel) rfl
theorem q_480 : (Jvm.Cond.code ({ cls := "SplitWatch$Bus", name := "orderBack", desc := "(LSplitWatch$Request;)V" } : Jvm.MethodName) prog_2_method_17_code (2 : Nat) (Option.none : Option Jvm.ClassFile.FieldType)) ∈ sw_WS := sw_mem 480 (by decide +kernel) rfl
theorem q_479 : (Jvm.Cond.instanceMethod ({ cls := "SplitWatch$Bus", name := "orderBack", desc := "(LSplitWatch$Request;)V" } : Jvm.MethodName)) ∈ sw_WS := sw_mem 479 (by decide +kernel) rfl
theorem q_27 : Cond.selects "SplitWatch$Bus" ⟨"SplitWatch$Bus", "orderBack", "(LSplitWatch$Request;)V"⟩ ⟨"SplitWatch$Bus", "orderBack", "(LSplitWatch$Request;)V"⟩ ∈ sw_WS := sw_mem 27 (by decide +kernel) rfl
theorem q_448 : (Jvm.Cond.methodLink "SplitWatch$Bus" (142 : Nat) ({ cls := "SplitWatch$Bus", name := "answerTurn", desc := "()V" } : Jvm.MethodName)) ∈ sw_WS := sw_mem 448 (by decide +kernel) rfl
theorem q_451 : (Jvm.Cond.code ({ cls := "SplitWatch$Bus", name := "answerTurn", desc := "()V" } : Jvm.MethodName) prog_2_method_14_code (5 : Nat) (Option.none : Option Jvm.ClassFile.FieldType)) ∈ sw_WS := sw_mem 451 (by decide +kernel) rfl
theorem q_450 : (Jvm.Cond.instanceMethod ({ cls := "SplitWatch$Bus", name := "answerTurn", desc := "()V" } : Jvm.MethodName)) ∈ sw_WS := sw_mem 450 (by decide +kernel) rfl
theorem q_20 : Cond.selects "SplitWatch$Bus" ⟨"SplitWatch$Bus", "answerTurn", "()V"⟩ ⟨"SplitWatch$Bus", "answerTurn", "()V"⟩ ∈ sw_WS := sw_mem 20 (by decide +kernel) rfl
theorem q_456 : (Jvm.Cond.methodLink "SplitWatch$Bus" (145 : Nat) ({ cls := "SplitWatch$Bus", name := "addressTurn", desc := "()V" } : Jvm.MethodName)) ∈ sw_WS := sw_mem 456 (by decide +kernel) rfl
theorem q_459 : (Jvm.Cond.code ({ cls := "SplitWatch$Bus", name := "addressTurn", desc := "()V" } : Jvm.MethodName) prog_2_method_15_code (3 : Nat) (Option.none : Option Jvm.ClassFile.FieldType)) ∈ sw_WS := sw_mem 459 (by decide +kernel) rfl
theorem q_458 : (Jvm.Cond.instanceMethod ({ cls := "SplitWatch$Bus", name := "addressTurn", desc := "()V" } : Jvm.MethodName)) ∈ sw_WS := sw_mem 458 (by decide +kernel) rfl
theorem q_22 : Cond.selects "SplitWatch$Bus" ⟨"SplitWatch$Bus", "addressTurn", "()V"⟩ ⟨"SplitWatch$Bus", "addressTurn", "()V"⟩ ∈ sw_WS := sw_mem 22 (by decide +kernel) rfl
theorem q_379 : (Jvm.Cond.methodLink "SplitWatch$Bus" (101 : Nat) ({ cls := "SplitWatch$Bus", name := "takeBack", desc := "(LSplitWatch$Core;I)V" } : Jvm.MethodName)) ∈ sw_WS := sw_mem 379 (by decide +kernel) rfl
theorem q_382 : (Jvm.Cond.code ({ cls := "SplitWatch$Bus", name := "takeBack", desc := "(LSplitWatch$Core;I)V" } : Jvm.MethodName) prog_2_method_10_code (4 : Nat) (Option.none : Option Jvm.ClassFile.FieldType)) ∈ sw_WS := sw_mem 382 (by decide +kernel) rfl
theorem q_381 : (Jvm.Cond.instanceMethod ({ cls := "SplitWatch$Bus", name := "takeBack", desc := "(LSplitWatch$Core;I)V" } : Jvm.MethodName)) ∈ sw_WS := sw_mem 381 (by decide +kernel) rfl
theorem q_6 : Cond.selects "SplitWatch$Bus" ⟨"SplitWatch$Bus", "takeBack", "(LSplitWatch$Core;I)V"⟩ ⟨"SplitWatch$Bus", "takeBack", "(LSplitWatch$Core;I)V"⟩ ∈ sw_WS := sw_mem 6 (by decide +kernel) rfl
theorem q_419 : (Jvm.Cond.methodLinkNest "SplitWatch$Bus" (118 : Nat) ({ cls := "SplitWatch$Cache", name := "use", desc := "(I)V" } : Jvm.MethodName) "SplitWatch") ∈ sw_WS := sw_mem 419 (by decide +kernel) rfl
theorem q_632 : (Jvm.Cond.methodLink "SplitWatch$Bus" (83 : Nat) ({ cls := "SplitWatch$Bus", name := "runTurns", desc := "(I)I" } : Jvm.MethodName)) ∈ sw_WS := sw_mem 632 (by decide +kernel) rfl
theorem q_447 : (Jvm.Cond.code ({ cls := "SplitWatch$Bus", name := "runTurns", desc := "(I)I" } : Jvm.MethodName) prog_2_method_8_code (4 : Nat) (Option.some Jvm.ClassFile.FieldType.int)) ∈ sw_WS := sw_mem 447 (by decide +kernel) rfl
theorem q_446 : (Jvm.Cond.instanceMethod ({ cls := "SplitWatch$Bus", name := "runTurns", desc := "(I)I" } : Jvm.MethodName)) ∈ sw_WS := sw_mem 446 (by decide +kernel) rfl
theorem q_19 : Cond.selects "SplitWatch$Bus" ⟨"SplitWatch$Bus", "runTurns", "(I)I"⟩ ⟨"SplitWatch$Bus", "runTurns", "(I)I"⟩ ∈ sw_WS := sw_mem 19 (by decide +kernel) rfl
theorem q_633 : (Jvm.Cond.methodLink "SplitWatch$Bus" (87 : Nat) ({ cls := "SplitWatch$Bus", name := "startRead", desc := "(II)I" } : Jvm.MethodName)) ∈ sw_WS := sw_mem 633 (by decide +kernel) rfl
theorem q_378 : (Jvm.Cond.code ({ cls := "SplitWatch$Bus", name := "startRead", desc := "(II)I" } : Jvm.MethodName) prog_2_method_5_code (4 : Nat) (Option.some Jvm.ClassFile.FieldType.int)) ∈ sw_WS := sw_mem 378 (by decide +kernel) rfl
theorem q_377 : (Jvm.Cond.instanceMethod ({ cls := "SplitWatch$Bus", name := "startRead", desc := "(II)I" } : Jvm.MethodName)) ∈ sw_WS := sw_mem 377 (by decide +kernel) rfl
theorem q_5 : Cond.selects "SplitWatch$Bus" ⟨"SplitWatch$Bus", "startRead", "(II)I"⟩ ⟨"SplitWatch$Bus", "startRead", "(II)I"⟩ ∈ sw_WS := sw_mem 5 (by decide +kernel) rfl
theorem q_634 : (Jvm.Cond.methodLink "SplitWatch$Bus" (91 : Nat) ({ cls := "SplitWatch$Bus", name := "startStore", desc := "(III)I" } : Jvm.MethodName)) ∈ sw_WS := sw_mem 634 (by decide +kernel) rfl
theorem q_427 : (Jvm.Cond.code ({ cls := "SplitWatch$Bus", name := "startStore", desc := "(III)I" } : Jvm.MethodName) prog_2_method_6_code (5 : Nat) (Option.some Jvm.ClassFile.FieldType.int)) ∈ sw_WS := sw_mem 427 (by decide +kernel) rfl
theorem q_426 : (Jvm.Cond.instanceMethod ({ cls := "SplitWatch$Bus", name := "startStore", desc := "(III)I" } : Jvm.MethodName)) ∈ sw_WS := sw_mem 426 (by decide +kernel) rfl
theorem q_16 : Cond.selects "SplitWatch$Bus" ⟨"SplitWatch$Bus", "startStore", "(III)I"⟩ ⟨"SplitWatch$Bus", "startStore", "(III)I"⟩ ∈ sw_WS := sw_mem 16 (by decide +kernel) rfl
theorem q_635 : (Jvm.Cond.methodLink "SplitWatch$Bus" (95 : Nat) ({ cls := "SplitWatch$Bus", name := "dropLine", desc := "(II)I" } : Jvm.MethodName)) ∈ sw_WS := sw_mem 635 (by decide +kernel) rfl
theorem q_439 : (Jvm.Cond.code ({ cls := "SplitWatch$Bus", name := "dropLine", desc := "(II)I" } : Jvm.MethodName) prog_2_method_7_code (5 : Nat) (Option.some Jvm.ClassFile.FieldType.int)) ∈ sw_WS := sw_mem 439 (by decide +kernel) rfl
theorem q_438 : (Jvm.Cond.instanceMethod ({ cls := "SplitWatch$Bus", name := "dropLine", desc := "(II)I" } : Jvm.MethodName)) ∈ sw_WS := sw_mem 438 (by decide +kernel) rfl
theorem q_18 : Cond.selects "SplitWatch$Bus" ⟨"SplitWatch$Bus", "dropLine", "(II)I"⟩ ⟨"SplitWatch$Bus", "dropLine", "(II)I"⟩ ∈ sw_WS := sw_mem 18 (by decide +kernel) rfl
theorem q_729 : (Jvm.Cond.methodLink "SplitWatch$Bus" (241 : Nat) ({ cls := "SplitWatch$Bus", name := "waitingAheadOf", desc := "(LSplitWatch$Request;)I" } : Jvm.MethodName)) ∈ sw_WS := sw_mem 729 (by decide +kernel) rfl
theorem q_732 : (Jvm.Cond.code ({ cls := "SplitWatch$Bus", name := "waitingAheadOf", desc := "(LSplitWatch$Request;)I" } : Jvm.MethodName) prog_2_method_28_code (4 : Nat) (Option.some Jvm.ClassFile.FieldType.int)) ∈ sw_WS := sw_mem 732 (by decide +kernel) rfl
theorem q_731 : (Jvm.Cond.instanceMethod ({ cls := "SplitWatch$Bus", name := "waitingAheadOf", desc := "(LSplitWatch$Request;)I" } : Jvm.MethodName)) ∈ sw_WS := sw_mem 731 (by decide +kernel) rfl
theorem q_55 : Cond.selects "SplitWatch$Bus" ⟨"SplitWatch$Bus", "waitingAheadOf", "(LSplitWatch$Request;)I"⟩ ⟨"SplitWatch$Bus", "waitingAheadOf", "(LSplitWatch$Request;)I"⟩ ∈ sw_WS := sw_mem 55 (by decide +kernel) rfl
theorem q_741 : (Jvm.Cond.methodLink "SplitWatch$Bus" (244 : Nat) ({ cls := "SplitWatch$Bus", name := "openAheadOf", desc := "(LSplitWatch$Request;)I" } : Jvm.MethodName)) ∈ sw_WS := sw_mem 741 (by decide +kernel) rfl
theorem q_744 : (Jvm.Cond.code ({ cls := "SplitWatch$Bus", name := "openAheadOf", desc := "(LSplitWatch$Request;)I" } : Jvm.MethodName) prog_2_method_30_code (4 : Nat) (Option.some Jvm.ClassFile.FieldType.int)) ∈ sw_WS := sw_mem 744 (by decide +kernel) rfl
theorem q_743 : (Jvm.Cond.instanceMethod ({ cls := "SplitWatch$Bus", name := "openAheadOf", desc := "(LSplitWatch$Request;)I" } : Jvm.MethodName)) ∈ sw_WS := sw_mem 743 (by decide +kernel) rfl
theorem q_57 : Cond.selects "SplitWatch$Bus" ⟨"SplitWatch$Bus", "openAheadOf", "(LSplitWatch$Request;)I"⟩ ⟨"SplitWatch$Bus", "openAheadOf", "(LSplitWatch$Request;)I"⟩ ∈ sw_WS := sw_mem 57 (by decide +kernel) rfl
theorem q_697 : (Jvm.Cond.methodLink "SplitWatch$Core" (47 : Nat) ({ cls := "SplitWatch$Core", name := "earlierBacks", desc := "(I)I" } : Jvm.MethodName)) ∈ sw_WS := sw_mem 697 (by decide +kernel) rfl
theorem q_700 : (Jvm.Cond.code ({ cls := "SplitWatch$Core", name := "earlierBacks", desc := "(I)I" } : Jvm.MethodName) prog_4_method_6_code (4 : Nat) (Option.some Jvm.ClassFile.FieldType.int)) ∈ sw_WS := sw_mem 700 (by decide +kernel) rfl
theorem q_699 : (Jvm.Cond.instanceMethod ({ cls := "SplitWatch$Core", name := "earlierBacks", desc := "(I)I" } : Jvm.MethodName)) ∈ sw_WS := sw_mem 699 (by decide +kernel) rfl
theorem q_51 : Cond.selects "SplitWatch$Core" ⟨"SplitWatch$Core", "earlierBacks", "(I)I"⟩ ⟨"SplitWatch$Core", "earlierBacks", "(I)I"⟩ ∈ sw_WS := sw_mem 51 (by decide +kernel) rfl
theorem q_659 : (Jvm.Cond.methodLink "SplitWatch$Log" (31 : Nat) ({ cls := "SplitWatch$Log", name := "fits", desc := "(IC)Z" } : Jvm.MethodName)) ∈ sw_WS := sw_mem 659 (by decide +kernel) rfl
theorem q_661 : (Jvm.Cond.code ({ cls := "SplitWatch$Log", name := "fits", desc := "(IC)Z" } : Jvm.MethodName) prog_5_method_7_code (2 : Nat) (Option.some Jvm.ClassFile.FieldType.boolean)) ∈ sw_WS := sw_mem 661 (by decide +kernel) rfl
theorem q_660 : (Jvm.Cond.static ({ cls := "SplitWatch$Log", name := "fits", desc := "(IC)Z" } : Jvm.MethodName)) ∈ sw_WS := sw_mem 660 (by decide +kernel) rfl
theorem q_555 : (Jvm.Cond.methodLink "SplitWatch$Script" (78 : Nat) ({ cls := "java/lang/String", name := "length", desc := "()I" } : Jvm.MethodName)) ∈ sw_WS := sw_mem 555 (by decide +kernel) rfl
theorem q_105 : (Jvm.Cond.initialized "java/lang/String") ∈ sw_WS := sw_mem 105 (by decide +kernel) rfl
theorem q_558 : (Jvm.Cond.code ({ cls := "java/lang/String", name := "length", desc := "()I" } : Jvm.MethodName) prog_11_method_54_code (1 : Nat) (Option.some Jvm.ClassFile.FieldType.int)) ∈ sw_WS := sw_mem 558 (by decide +kernel) rfl
theorem q_556 : (Jvm.Cond.instanceMethod ({ cls := "java/lang/String", name := "length", desc := "()I" } : Jvm.MethodName)) ∈ sw_WS := sw_mem 556 (by decide +kernel) rfl
theorem q_557 : (Jvm.Cond.selects "java/lang/String" ({ cls := "java/lang/String", name := "length", desc := "()I" } : Jvm.MethodName) ({ cls := "java/lang/String", name := "length", desc := "()I" } : Jvm.MethodName)) ∈ sw_WS := sw_mem 557 (by decide +kernel) rfl
theorem q_539 : (Jvm.Cond.methodLink "SplitWatch$Script" (30 : Nat) ({ cls := "SplitWatch$Script", name := "letterAt", desc := "(I)C" } : Jvm.MethodName)) ∈ sw_WS := sw_mem 539 (by decide +kernel) rfl
theorem q_102 : (Jvm.Cond.initialized "SplitWatch$Script") ∈ sw_WS := sw_mem 102 (by decide +kernel) rfl
theorem q_542 : (Jvm.Cond.code ({ cls := "SplitWatch$Script", name := "letterAt", desc := "(I)C" } : Jvm.MethodName) prog_7_method_9_code (2 : Nat) (Option.some Jvm.ClassFile.FieldType.char)) ∈ sw_WS := sw_mem 542 (by decide +kernel) rfl
theorem q_541 : (Jvm.Cond.instanceMethod ({ cls := "SplitWatch$Script", name := "letterAt", desc := "(I)C" } : Jvm.MethodName)) ∈ sw_WS := sw_mem 541 (by decide +kernel) rfl
theorem q_38 : Cond.selects "SplitWatch$Script" ⟨"SplitWatch$Script", "letterAt", "(I)C"⟩ ⟨"SplitWatch$Script", "letterAt", "(I)C"⟩ ∈ sw_WS := sw_mem 38 (by decide +kernel) rfl
theorem q_565 : (Jvm.Cond.methodLink "SplitWatch$Script" (83 : Nat) ({ cls := "java/lang/String", name := "charAt", desc := "(I)C" } : Jvm.MethodName)) ∈ sw_WS := sw_mem 565 (by decide +kernel) rfl
theorem q_568 : (Jvm.Cond.code ({ cls := "java/lang/String", name := "charAt", desc := "(I)C" } : Jvm.MethodName) prog_11_method_56_code (2 : Nat) (Option.some Jvm.ClassFile.FieldType.char)) ∈ sw_WS := sw_mem 568 (by decide +kernel) rfl
theorem q_566 : (Jvm.Cond.instanceMethod ({ cls := "java/lang/String", name := "charAt", desc := "(I)C" } : Jvm.MethodName)) ∈ sw_WS := sw_mem 566 (by decide +kernel) rfl
theorem q_567 : (Jvm.Cond.selects "java/lang/String" ({ cls := "java/lang/String", name := "charAt", desc := "(I)C" } : Jvm.MethodName) ({ cls := "java/lang/String", name := "charAt", desc := "(I)C" } : Jvm.MethodName)) ∈ sw_WS := sw_mem 567 (by decide +kernel) rfl
theorem q_551 : (Jvm.Cond.methodLink "SplitWatch$Script" (68 : Nat) ({ cls := "SplitWatch$Script", name := "spells", desc := "(IILjava/lang/String;)Z" } : Jvm.MethodName)) ∈ sw_WS := sw_mem 551 (by decide +kernel) rfl
theorem q_554 : (Jvm.Cond.code ({ cls := "SplitWatch$Script", name := "spells", desc := "(IILjava/lang/String;)Z" } : Jvm.MethodName) prog_7_method_8_code (5 : Nat) (Option.some Jvm.ClassFile.FieldType.boolean)) ∈ sw_WS := sw_mem 554 (by decide +kernel) rfl
theorem q_553 : (Jvm.Cond.instanceMethod ({ cls := "SplitWatch$Script", name := "spells", desc := "(IILjava/lang/String;)Z" } : Jvm.MethodName)) ∈ sw_WS := sw_mem 553 (by decide +kernel) rfl
theorem q_40 : Cond.selects "SplitWatch$Script" ⟨"SplitWatch$Script", "spells", "(IILjava/lang/String;)Z"⟩ ⟨"SplitWatch$Script", "spells", "(IILjava/lang/String;)Z"⟩ ∈ sw_WS := sw_mem 40 (by decide +kernel) rfl
theorem q_613 : (Jvm.Cond.methodLink "SplitWatch$Script" (56 : Nat) ({ cls := "SplitWatch$Script", name := "isFigure", desc := "(C)Z" } : Jvm.MethodName)) ∈ sw_WS := sw_mem 613 (by decide +kernel) rfl
theorem q_615 : (Jvm.Cond.code ({ cls := "SplitWatch$Script", name := "isFigure", desc := "(C)Z" } : Jvm.MethodName) prog_7_method_12_code (1 : Nat) (Option.some Jvm.ClassFile.FieldType.boolean)) ∈ sw_WS := sw_mem 615 (by decide +kernel) rfl
theorem q_614 : (Jvm.Cond.static ({ cls := "SplitWatch$Script", name := "isFigure", desc := "(C)Z" } : Jvm.MethodName)) ∈ sw_WS := sw_mem 614 (by decide +kernel) rfl
theorem q_360 : (Jvm.Cond.methodLink "SplitWatch" (27 : Nat) ({ cls := "SplitWatch", name := "isWithin", desc := "(III)Z" } : Jvm.MethodName)) ∈ sw_WS := sw_mem 360 (by decide +kernel) rfl
theorem q_620 : (Jvm.Cond.methodLinkNest "SplitWatch$Script" (59 : Nat) ({ cls := "SplitWatch", name := "isWithin", desc := "(III)Z" } : Jvm.MethodName) "SplitWatch") ∈ sw_WS := sw_mem 620 (by decide +kernel) rfl
theorem q_621 : (Jvm.Cond.methodLinkNest "SplitWatch$Script" (63 : Nat) ({ cls := "SplitWatch", name := "isLine", desc := "(I)Z" } : Jvm.MethodName) "SplitWatch") ∈ sw_WS := sw_mem 621 (by decide +kernel) rfl
theorem q_374 : (Jvm.Cond.code ({ cls := "SplitWatch", name := "isLine", desc := "(I)Z" } : Jvm.MethodName) prog_1_method_24_code (1 : Nat) (Option.some Jvm.ClassFile.FieldType.boolean)) ∈ sw_WS := sw_mem 374 (by decide +kernel) rfl
theorem q_373 : (Jvm.Cond.static ({ cls := "SplitWatch", name := "isLine", desc := "(I)Z" } : Jvm.MethodName)) ∈ sw_WS := sw_mem 373 (by decide +kernel) rfl
theorem q_543 : (Jvm.Cond.methodLink "SplitWatch$Script" (34 : Nat) ({ cls := "SplitWatch$Script", name := "isSmall", desc := "(C)Z" } : Jvm.MethodName)) ∈ sw_WS := sw_mem 543 (by decide +kernel) rfl
theorem q_545 : (Jvm.Cond.code ({ cls := "SplitWatch$Script", name := "isSmall", desc := "(C)Z" } : Jvm.MethodName) prog_7_method_11_code (1 : Nat) (Option.some Jvm.ClassFile.FieldType.boolean)) ∈ sw_WS := sw_mem 545 (by decide +kernel) rfl
theorem q_544 : (Jvm.Cond.static ({ cls := "SplitWatch$Script", name := "isSmall", desc := "(C)Z" } : Jvm.MethodName)) ∈ sw_WS := sw_mem 544 (by decide +kernel) rfl
theorem q_546 : (Jvm.Cond.methodLink "SplitWatch$Script" (38 : Nat) ({ cls := "SplitWatch$Script", name := "verbOf", desc := "(II)I" } : Jvm.MethodName)) ∈ sw_WS := sw_mem 546 (by decide +kernel) rfl
theorem q_549 : (Jvm.Cond.code ({ cls := "SplitWatch$Script", name := "verbOf", desc := "(II)I" } : Jvm.MethodName) prog_7_method_7_code (3 : Nat) (Option.some Jvm.ClassFile.FieldType.int)) ∈ sw_WS := sw_mem 549 (by decide +kernel) rfl
theorem q_548 : (Jvm.Cond.instanceMethod ({ cls := "SplitWatch$Script", name := "verbOf", desc := "(II)I" } : Jvm.MethodName)) ∈ sw_WS := sw_mem 548 (by decide +kernel) rfl
theorem q_39 : Cond.selects "SplitWatch$Script" ⟨"SplitWatch$Script", "verbOf", "(II)I"⟩ ⟨"SplitWatch$Script", "verbOf", "(II)I"⟩ ∈ sw_WS := sw_mem 39 (by decide +kernel) rfl
theorem q_606 : (Jvm.Cond.methodLink "SplitWatch$Script" (45 : Nat) ({ cls := "SplitWatch$Script", name := "numbersOf", desc := "(I)I" } : Jvm.MethodName)) ∈ sw_WS := sw_mem 606 (by decide +kernel) rfl
theorem q_608 : (Jvm.Cond.code ({ cls := "SplitWatch$Script", name := "numbersOf", desc := "(I)I" } : Jvm.MethodName) prog_7_method_10_code (1 : Nat) (Option.some Jvm.ClassFile.FieldType.int)) ∈ sw_WS := sw_mem 608 (by decide +kernel) rfl
theorem q_607 : (Jvm.Cond.static ({ cls := "SplitWatch$Script", name := "numbersOf", desc := "(I)I" } : Jvm.MethodName)) ∈ sw_WS := sw_mem 607 (by decide +kernel) rfl
theorem q_616 : (Jvm.Cond.methodLink "SplitWatch$Script" (52 : Nat) ({ cls := "SplitWatch$Script", name := "areTold", desc := "(I)Z" } : Jvm.MethodName)) ∈ sw_WS := sw_mem 616 (by decide +kernel) rfl
theorem q_619 : (Jvm.Cond.code ({ cls := "SplitWatch$Script", name := "areTold", desc := "(I)Z" } : Jvm.MethodName) prog_7_method_6_code (3 : Nat) (Option.some Jvm.ClassFile.FieldType.boolean)) ∈ sw_WS := sw_mem 619 (by decide +kernel) rfl
theorem q_618 : (Jvm.Cond.instanceMethod ({ cls := "SplitWatch$Script", name := "areTold", desc := "(I)Z" } : Jvm.MethodName)) ∈ sw_WS := sw_mem 618 (by decide +kernel) rfl
theorem q_42 : Cond.selects "SplitWatch$Script" ⟨"SplitWatch$Script", "areTold", "(I)Z"⟩ ⟨"SplitWatch$Script", "areTold", "(I)Z"⟩ ∈ sw_WS := sw_mem 42 (by decide +kernel) rfl
theorem q_609 : (Jvm.Cond.methodLink "SplitWatch$Script" (49 : Nat) ({ cls := "SplitWatch$Script", name := "takeNumber", desc := "(II)I" } : Jvm.MethodName)) ∈ sw_WS := sw_mem 609 (by decide +kernel) rfl
theorem q_612 : (Jvm.Cond.code ({ cls := "SplitWatch$Script", name := "takeNumber", desc := "(II)I" } : Jvm.MethodName) prog_7_method_5_code (6 : Nat) (Option.some Jvm.ClassFile.FieldType.int)) ∈ sw_WS := sw_mem 612 (by decide +kernel) rfl
theorem q_611 : (Jvm.Cond.instanceMethod ({ cls := "SplitWatch$Script", name := "takeNumber", desc := "(II)I" } : Jvm.MethodName)) ∈ sw_WS := sw_mem 611 (by decide +kernel) rfl
theorem q_41 : Cond.selects "SplitWatch$Script" ⟨"SplitWatch$Script", "takeNumber", "(II)I"⟩ ⟨"SplitWatch$Script", "takeNumber", "(II)I"⟩ ∈ sw_WS := sw_mem 41 (by decide +kernel) rfl
theorem q_535 : (Jvm.Cond.methodLink "SplitWatch$Script" (23 : Nat) ({ cls := "SplitWatch$Script", name := "understand", desc := "(II)Z" } : Jvm.MethodName)) ∈ sw_WS := sw_mem 535 (by decide +kernel) rfl
theorem q_538 : (Jvm.Cond.code ({ cls := "SplitWatch$Script", name := "understand", desc := "(II)Z" } : Jvm.MethodName) prog_7_method_4_code (6 : Nat) (Option.some Jvm.ClassFile.FieldType.boolean)) ∈ sw_WS := sw_mem 538 (by decide +kernel) rfl
theorem q_537 : (Jvm.Cond.instanceMethod ({ cls := "SplitWatch$Script", name := "understand", desc := "(II)Z" } : Jvm.MethodName)) ∈ sw_WS := sw_mem 537 (by decide +kernel) rfl
theorem q_37 : Cond.selects "SplitWatch$Script" ⟨"SplitWatch$Script", "understand", "(II)Z"⟩ ⟨"SplitWatch$Script", "understand", "(II)Z"⟩ ∈ sw_WS := sw_mem 37 (by decide +kernel) rfl
theorem q_307 : (Jvm.Cond.methodLinkNest "SplitWatch" (16 : Nat) ({ cls := "SplitWatch$Bus", name := "reset", desc := "(IIII)V" } : Jvm.MethodName) "SplitWatch") ∈ sw_WS := sw_mem 307 (by decide +kernel) rfl
theorem q_310 : (Jvm.Cond.code ({ cls := "SplitWatch$Bus", name := "reset", desc := "(IIII)V" } : Jvm.MethodName) prog_2_method_2_code (6 : Nat) (Option.none : Option Jvm.ClassFile.FieldType)) ∈ sw_WS := sw_mem 310 (by decide +kernel) rfl
theorem q_309 : (Jvm.Cond.instanceMethod ({ cls := "SplitWatch$Bus", name := "reset", desc := "(IIII)V" } : Jvm.MethodName)) ∈ sw_WS := sw_mem 309 (by decide +kernel) rfl
theorem q_0 : Cond.selects "SplitWatch$Bus" ⟨"SplitWatch$Bus", "reset", "(IIII)V"⟩ ⟨"SplitWatch$Bus", "reset", "(IIII)V"⟩ ∈ sw_WS := sw_mem 0 (by decide +kernel) rfl
theorem q_367 : (Jvm.Cond.methodLinkNest "SplitWatch" (31 : Nat) ({ cls := "SplitWatch$Bus", name := "hasCore", desc := "(I)Z" } : Jvm.MethodName) "SplitWatch") ∈ sw_WS := sw_mem 367 (by decide +kernel) rfl
theorem q_370 : (Jvm.Cond.code ({ cls := "SplitWatch$Bus", name := "hasCore", desc := "(I)Z" } : Jvm.MethodName) prog_2_method_3_code (2 : Nat) (Option.some Jvm.ClassFile.FieldType.boolean)) ∈ sw_WS := sw_mem 370 (by decide +kernel) rfl
theorem q_369 : (Jvm.Cond.instanceMethod ({ cls := "SplitWatch$Bus", name := "hasCore", desc := "(I)Z" } : Jvm.MethodName)) ∈ sw_WS := sw_mem 369 (by decide +kernel) rfl
theorem q_4 : Cond.selects "SplitWatch$Bus" ⟨"SplitWatch$Bus", "hasCore", "(I)Z"⟩ ⟨"SplitWatch$Bus", "hasCore", "(I)Z"⟩ ∈ sw_WS := sw_mem 4 (by decide +kernel) rfl
theorem q_372 : (Jvm.Cond.methodLink "SplitWatch" (35 : Nat) ({ cls := "SplitWatch", name := "isLine", desc := "(I)Z" } : Jvm.MethodName)) ∈ sw_WS := sw_mem 372 (by decide +kernel) rfl
theorem q_375 : (Jvm.Cond.methodLinkNest "SplitWatch" (38 : Nat) ({ cls := "SplitWatch$Bus", name := "startRead", desc := "(II)I" } : Jvm.MethodName) "SplitWatch") ∈ sw_WS := sw_mem 375 (by decide +kernel) rfl
theorem q_424 : (Jvm.Cond.methodLinkNest "SplitWatch" (42 : Nat) ({ cls := "SplitWatch$Bus", name := "startStore", desc := "(III)I" } : Jvm.MethodName) "SplitWatch") ∈ sw_WS := sw_mem 424 (by decide +kernel) rfl
theorem q_436 : (Jvm.Cond.methodLinkNest "SplitWatch" (46 : Nat) ({ cls := "SplitWatch$Bus", name := "dropLine", desc := "(II)I" } : Jvm.MethodName) "SplitWatch") ∈ sw_WS := sw_mem 436 (by decide +kernel) rfl
theorem q_444 : (Jvm.Cond.methodLinkNest "SplitWatch" (49 : Nat) ({ cls := "SplitWatch$Bus", name := "runTurns", desc := "(I)I" } : Jvm.MethodName) "SplitWatch") ∈ sw_WS := sw_mem 444 (by decide +kernel) rfl
theorem q_516 : (Jvm.Cond.methodLink "SplitWatch" (53 : Nat) ({ cls := "SplitWatch", name := "isLetter", desc := "(I)Z" } : Jvm.MethodName)) ∈ sw_WS := sw_mem 516 (by decide +kernel) rfl
theorem q_518 : (Jvm.Cond.code ({ cls := "SplitWatch", name := "isLetter", desc := "(I)Z" } : Jvm.MethodName) prog_1_method_25_code (1 : Nat) (Option.some Jvm.ClassFile.FieldType.boolean)) ∈ sw_WS := sw_mem 518 (by decide +kernel) rfl
theorem q_517 : (Jvm.Cond.static ({ cls := "SplitWatch", name := "isLetter", desc := "(I)Z" } : Jvm.MethodName)) ∈ sw_WS := sw_mem 517 (by decide +kernel) rfl
theorem q_519 : (Jvm.Cond.methodLinkNest "SplitWatch" (56 : Nat) ({ cls := "SplitWatch$Script", name := "append", desc := "(C)I" } : Jvm.MethodName) "SplitWatch") ∈ sw_WS := sw_mem 519 (by decide +kernel) rfl
theorem q_522 : (Jvm.Cond.code ({ cls := "SplitWatch$Script", name := "append", desc := "(C)I" } : Jvm.MethodName) prog_7_method_2_code (2 : Nat) (Option.some Jvm.ClassFile.FieldType.int)) ∈ sw_WS := sw_mem 522 (by decide +kernel) rfl
theorem q_521 : (Jvm.Cond.instanceMethod ({ cls := "SplitWatch$Script", name := "append", desc := "(C)I" } : Jvm.MethodName)) ∈ sw_WS := sw_mem 521 (by decide +kernel) rfl
theorem q_35 : Cond.selects "SplitWatch$Script" ⟨"SplitWatch$Script", "append", "(C)I"⟩ ⟨"SplitWatch$Script", "append", "(C)I"⟩ ∈ sw_WS := sw_mem 35 (by decide +kernel) rfl
theorem q_531 : (Jvm.Cond.methodLinkNest "SplitWatch" (67 : Nat) ({ cls := "SplitWatch$Script", name := "findFault", desc := "(I)I" } : Jvm.MethodName) "SplitWatch") ∈ sw_WS := sw_mem 531 (by decide +kernel) rfl
theorem q_534 : (Jvm.Cond.code ({ cls := "SplitWatch$Script", name := "findFault", desc := "(I)I" } : Jvm.MethodName) prog_7_method_3_code (4 : Nat) (Option.some Jvm.ClassFile.FieldType.int)) ∈ sw_WS := sw_mem 534 (by decide +kernel) rfl
theorem q_533 : (Jvm.Cond.instanceMethod ({ cls := "SplitWatch$Script", name := "findFault", desc := "(I)I" } : Jvm.MethodName)) ∈ sw_WS := sw_mem 533 (by decide +kernel) rfl
theorem q_36 : Cond.selects "SplitWatch$Script" ⟨"SplitWatch$Script", "findFault", "(I)I"⟩ ⟨"SplitWatch$Script", "findFault", "(I)I"⟩ ∈ sw_WS := sw_mem 36 (by decide +kernel) rfl
theorem q_627 : (Jvm.Cond.methodLinkNest "SplitWatch" (70 : Nat) ({ cls := "SplitWatch$Script", name := "understand", desc := "(II)Z" } : Jvm.MethodName) "SplitWatch") ∈ sw_WS := sw_mem 627 (by decide +kernel) rfl
theorem q_628 : (Jvm.Cond.methodLinkNest "SplitWatch" (81 : Nat) ({ cls := "SplitWatch$Bus", name := "perform", desc := "(IIII)I" } : Jvm.MethodName) "SplitWatch") ∈ sw_WS := sw_mem 628 (by decide +kernel) rfl
theorem q_631 : (Jvm.Cond.code ({ cls := "SplitWatch$Bus", name := "perform", desc := "(IIII)I" } : Jvm.MethodName) prog_2_method_4_code (5 : Nat) (Option.some Jvm.ClassFile.FieldType.int)) ∈ sw_WS := sw_mem 631 (by decide +kernel) rfl
theorem q_630 : (Jvm.Cond.instanceMethod ({ cls := "SplitWatch$Bus", name := "perform", desc := "(IIII)I" } : Jvm.MethodName)) ∈ sw_WS := sw_mem 630 (by decide +kernel) rfl
theorem q_43 : Cond.selects "SplitWatch$Bus" ⟨"SplitWatch$Bus", "perform", "(IIII)I"⟩ ⟨"SplitWatch$Bus", "perform", "(IIII)I"⟩ ∈ sw_WS := sw_mem 43 (by decide +kernel) rfl
theorem q_636 : (Jvm.Cond.methodLink "SplitWatch" (85 : Nat) ({ cls := "SplitWatch", name := "isRefusal", desc := "(I)Z" } : Jvm.MethodName)) ∈ sw_WS := sw_mem 636 (by decide +kernel) rfl
theorem q_638 : (Jvm.Cond.code ({ cls := "SplitWatch", name := "isRefusal", desc := "(I)Z" } : Jvm.MethodName) prog_1_method_26_code (1 : Nat) (Option.some Jvm.ClassFile.FieldType.boolean)) ∈ sw_WS := sw_mem 638 (by decide +kernel) rfl
theorem q_637 : (Jvm.Cond.static ({ cls := "SplitWatch", name := "isRefusal", desc := "(I)Z" } : Jvm.MethodName)) ∈ sw_WS := sw_mem 637 (by decide +kernel) rfl
theorem q_643 : (Jvm.Cond.methodLinkNest "SplitWatch" (95 : Nat) ({ cls := "SplitWatch$Log", name := "lineLength", desc := "()I" } : Jvm.MethodName) "SplitWatch") ∈ sw_WS := sw_mem 643 (by decide +kernel) rfl
theorem q_646 : (Jvm.Cond.code ({ cls := "SplitWatch$Log", name := "lineLength", desc := "()I" } : Jvm.MethodName) prog_5_method_4_code (1 : Nat) (Option.some Jvm.ClassFile.FieldType.int)) ∈ sw_WS := sw_mem 646 (by decide +kernel) rfl
theorem q_645 : (Jvm.Cond.instanceMethod ({ cls := "SplitWatch$Log", name := "lineLength", desc := "()I" } : Jvm.MethodName)) ∈ sw_WS := sw_mem 645 (by decide +kernel) rfl
theorem q_44 : Cond.selects "SplitWatch$Log" ⟨"SplitWatch$Log", "lineLength", "()I"⟩ ⟨"SplitWatch$Log", "lineLength", "()I"⟩ ∈ sw_WS := sw_mem 44 (by decide +kernel) rfl
theorem q_647 : (Jvm.Cond.methodLinkNest "SplitWatch" (101 : Nat) ({ cls := "SplitWatch$Log", name := "letterAt", desc := "(I)I" } : Jvm.MethodName) "SplitWatch") ∈ sw_WS := sw_mem 647 (by decide +kernel) rfl
theorem q_650 : (Jvm.Cond.code ({ cls := "SplitWatch$Log", name := "letterAt", desc := "(I)I" } : Jvm.MethodName) prog_5_method_5_code (4 : Nat) (Option.some Jvm.ClassFile.FieldType.int)) ∈ sw_WS := sw_mem 650 (by decide +kernel) rfl
theorem q_649 : (Jvm.Cond.instanceMethod ({ cls := "SplitWatch$Log", name := "letterAt", desc := "(I)I" } : Jvm.MethodName)) ∈ sw_WS := sw_mem 649 (by decide +kernel) rfl
theorem q_45 : Cond.selects "SplitWatch$Log" ⟨"SplitWatch$Log", "letterAt", "(I)I"⟩ ⟨"SplitWatch$Log", "letterAt", "(I)I"⟩ ∈ sw_WS := sw_mem 45 (by decide +kernel) rfl
theorem q_655 : (Jvm.Cond.methodLinkNest "SplitWatch" (104 : Nat) ({ cls := "SplitWatch$Log", name := "matches", desc := "(III)I" } : Jvm.MethodName) "SplitWatch") ∈ sw_WS := sw_mem 655 (by decide +kernel) rfl
theorem q_658 : (Jvm.Cond.code ({ cls := "SplitWatch$Log", name := "matches", desc := "(III)I" } : Jvm.MethodName) prog_5_method_6_code (7 : Nat) (Option.some Jvm.ClassFile.FieldType.int)) ∈ sw_WS := sw_mem 658 (by decide +kernel) rfl
theorem q_657 : (Jvm.Cond.instanceMethod ({ cls := "SplitWatch$Log", name := "matches", desc := "(III)I" } : Jvm.MethodName)) ∈ sw_WS := sw_mem 657 (by decide +kernel) rfl
theorem q_46 : Cond.selects "SplitWatch$Log" ⟨"SplitWatch$Log", "matches", "(III)I"⟩ ⟨"SplitWatch$Log", "matches", "(III)I"⟩ ∈ sw_WS := sw_mem 46 (by decide +kernel) rfl
theorem q_666 : (Jvm.Cond.methodLinkNest "SplitWatch" (107 : Nat) ({ cls := "SplitWatch$Bus", name := "nameOf", desc := "(II)Ljava/lang/String;" } : Jvm.MethodName) "SplitWatch") ∈ sw_WS := sw_mem 666 (by decide +kernel) rfl
theorem q_669 : (Jvm.Cond.code ({ cls := "SplitWatch$Bus", name := "nameOf", desc := "(II)Ljava/lang/String;" } : Jvm.MethodName) prog_2_method_33_code (3 : Nat) (Option.some (Jvm.ClassFile.FieldType.object "java/lang/String"))) ∈ sw_WS := sw_mem 669 (by decide +kernel) rfl
theorem q_668 : (Jvm.Cond.instanceMethod ({ cls := "SplitWatch$Bus", name := "nameOf", desc := "(II)Ljava/lang/String;" } : Jvm.MethodName)) ∈ sw_WS := sw_mem 668 (by decide +kernel) rfl
theorem q_47 : Cond.selects "SplitWatch$Bus" ⟨"SplitWatch$Bus", "nameOf", "(II)Ljava/lang/String;"⟩ ⟨"SplitWatch$Bus", "nameOf", "(II)Ljava/lang/String;"⟩ ∈ sw_WS := sw_mem 47 (by decide +kernel) rfl
theorem q_675 : (Jvm.Cond.methodLink "SplitWatch" (111 : Nat) ({ cls := "java/lang/String", name := "length", desc := "()I" } : Jvm.MethodName)) ∈ sw_WS := sw_mem 675 (by decide +kernel) rfl
theorem q_676 : (Jvm.Cond.methodLink "SplitWatch" (115 : Nat) ({ cls := "java/lang/String", name := "charAt", desc := "(I)C" } : Jvm.MethodName)) ∈ sw_WS := sw_mem 676 (by decide +kernel) rfl
theorem q_681 : (Jvm.Cond.methodLinkNest "SplitWatch" (137 : Nat) ({ cls := "SplitWatch$Cache", name := "usedLater", desc := "(I)I" } : Jvm.MethodName) "SplitWatch") ∈ sw_WS := sw_mem 681 (by decide +kernel) rfl
theorem q_684 : (Jvm.Cond.code ({ cls := "SplitWatch$Cache", name := "usedLater", desc := "(I)I" } : Jvm.MethodName) prog_3_method_8_code (4 : Nat) (Option.some Jvm.ClassFile.FieldType.int)) ∈ sw_WS := sw_mem 684 (by decide +kernel) rfl
theorem q_683 : (Jvm.Cond.instanceMethod ({ cls := "SplitWatch$Cache", name := "usedLater", desc := "(I)I" } : Jvm.MethodName)) ∈ sw_WS := sw_mem 683 (by decide +kernel) rfl
theorem q_48 : Cond.selects "SplitWatch$Cache" ⟨"SplitWatch$Cache", "usedLater", "(I)I"⟩ ⟨"SplitWatch$Cache", "usedLater", "(I)I"⟩ ∈ sw_WS := sw_mem 48 (by decide +kernel) rfl
theorem q_693 : (Jvm.Cond.methodLinkNest "SplitWatch" (143 : Nat) ({ cls := "SplitWatch$Core", name := "backAt", desc := "(I)LSplitWatch$Request;" } : Jvm.MethodName) "SplitWatch") ∈ sw_WS := sw_mem 693 (by decide +kernel) rfl
theorem q_696 : (Jvm.Cond.code ({ cls := "SplitWatch$Core", name := "backAt", desc := "(I)LSplitWatch$Request;" } : Jvm.MethodName) prog_4_method_5_code (3 : Nat) (Option.some (Jvm.ClassFile.FieldType.object "SplitWatch$Request"))) ∈ sw_WS := sw_mem 696 (by decide +kernel) rfl
theorem q_695 : (Jvm.Cond.instanceMethod ({ cls := "SplitWatch$Core", name := "backAt", desc := "(I)LSplitWatch$Request;" } : Jvm.MethodName)) ∈ sw_WS := sw_mem 695 (by decide +kernel) rfl
theorem q_50 : Cond.selects "SplitWatch$Core" ⟨"SplitWatch$Core", "backAt", "(I)LSplitWatch$Request;"⟩ ⟨"SplitWatch$Core", "backAt", "(I)LSplitWatch$Request;"⟩ ∈ sw_WS := sw_mem 50 (by decide +kernel) rfl
theorem q_689 : (Jvm.Cond.methodLinkNest "SplitWatch" (140 : Nat) ({ cls := "SplitWatch$Core", name := "bufferSize", desc := "()I" } : Jvm.MethodName) "SplitWatch") ∈ sw_WS := sw_mem 689 (by decide +kernel) rfl
theorem q_692 : (Jvm.Cond.code ({ cls := "SplitWatch$Core", name := "bufferSize", desc := "()I" } : Jvm.MethodName) prog_4_method_3_code (3 : Nat) (Option.some Jvm.ClassFile.FieldType.int)) ∈ sw_WS := sw_mem 692 (by decide +kernel) rfl
theorem q_691 : (Jvm.Cond.instanceMethod ({ cls := "SplitWatch$Core", name := "bufferSize", desc := "()I" } : Jvm.MethodName)) ∈ sw_WS := sw_mem 691 (by decide +kernel) rfl
theorem q_49 : Cond.selects "SplitWatch$Core" ⟨"SplitWatch$Core", "bufferSize", "()I"⟩ ⟨"SplitWatch$Core", "bufferSize", "()I"⟩ ∈ sw_WS := sw_mem 49 (by decide +kernel) rfl
theorem q_709 : (Jvm.Cond.methodLinkNest "SplitWatch" (157 : Nat) ({ cls := "SplitWatch$Bus", name := "trueValue", desc := "(I)I" } : Jvm.MethodName) "SplitWatch") ∈ sw_WS := sw_mem 709 (by decide +kernel) rfl
theorem q_712 : (Jvm.Cond.code ({ cls := "SplitWatch$Bus", name := "trueValue", desc := "(I)I" } : Jvm.MethodName) prog_2_method_32_code (5 : Nat) (Option.some Jvm.ClassFile.FieldType.int)) ∈ sw_WS := sw_mem 712 (by decide +kernel) rfl
theorem q_711 : (Jvm.Cond.instanceMethod ({ cls := "SplitWatch$Bus", name := "trueValue", desc := "(I)I" } : Jvm.MethodName)) ∈ sw_WS := sw_mem 711 (by decide +kernel) rfl
theorem q_52 : Cond.selects "SplitWatch$Bus" ⟨"SplitWatch$Bus", "trueValue", "(I)I"⟩ ⟨"SplitWatch$Bus", "trueValue", "(I)I"⟩ ∈ sw_WS := sw_mem 52 (by decide +kernel) rfl
theorem q_725 : (Jvm.Cond.methodLinkNest "SplitWatch" (185 : Nat) ({ cls := "SplitWatch$Bus", name := "waitingAt", desc := "(I)LSplitWatch$Request;" } : Jvm.MethodName) "SplitWatch") ∈ sw_WS := sw_mem 725 (by decide +kernel) rfl
theorem q_728 : (Jvm.Cond.code ({ cls := "SplitWatch$Bus", name := "waitingAt", desc := "(I)LSplitWatch$Request;" } : Jvm.MethodName) prog_2_method_27_code (3 : Nat) (Option.some (Jvm.ClassFile.FieldType.object "SplitWatch$Request"))) ∈ sw_WS := sw_mem 728 (by decide +kernel) rfl
theorem q_727 : (Jvm.Cond.instanceMethod ({ cls := "SplitWatch$Bus", name := "waitingAt", desc := "(I)LSplitWatch$Request;" } : Jvm.MethodName)) ∈ sw_WS := sw_mem 727 (by decide +kernel) rfl
theorem q_54 : Cond.selects "SplitWatch$Bus" ⟨"SplitWatch$Bus", "waitingAt", "(I)LSplitWatch$Request;"⟩ ⟨"SplitWatch$Bus", "waitingAt", "(I)LSplitWatch$Request;"⟩ ∈ sw_WS := sw_mem 54 (by decide +kernel) rfl
theorem q_721 : (Jvm.Cond.methodLinkNest "SplitWatch" (182 : Nat) ({ cls := "SplitWatch$Bus", name := "countAt", desc := "(I)I" } : Jvm.MethodName) "SplitWatch") ∈ sw_WS := sw_mem 721 (by decide +kernel) rfl
theorem q_724 : (Jvm.Cond.code ({ cls := "SplitWatch$Bus", name := "countAt", desc := "(I)I" } : Jvm.MethodName) prog_2_method_31_code (4 : Nat) (Option.some Jvm.ClassFile.FieldType.int)) ∈ sw_WS := sw_mem 724 (by decide +kernel) rfl
theorem q_723 : (Jvm.Cond.instanceMethod ({ cls := "SplitWatch$Bus", name := "countAt", desc := "(I)I" } : Jvm.MethodName)) ∈ sw_WS := sw_mem 723 (by decide +kernel) rfl
theorem q_53 : Cond.selects "SplitWatch$Bus" ⟨"SplitWatch$Bus", "countAt", "(I)I"⟩ ⟨"SplitWatch$Bus", "countAt", "(I)I"⟩ ∈ sw_WS := sw_mem 53 (by decide +kernel) rfl
theorem q_737 : (Jvm.Cond.methodLinkNest "SplitWatch" (194 : Nat) ({ cls := "SplitWatch$Bus", name := "openAt", desc := "(I)LSplitWatch$Request;" } : Jvm.MethodName) "SplitWatch") ∈ sw_WS := sw_mem 737 (by decide +kernel) rfl
theorem q_740 : (Jvm.Cond.code ({ cls := "SplitWatch$Bus", name := "openAt", desc := "(I)LSplitWatch$Request;" } : Jvm.MethodName) prog_2_method_29_code (3 : Nat) (Option.some (Jvm.ClassFile.FieldType.object "SplitWatch$Request"))) ∈ sw_WS := sw_mem 740 (by decide +kernel) rfl
theorem q_739 : (Jvm.Cond.instanceMethod ({ cls := "SplitWatch$Bus", name := "openAt", desc := "(I)LSplitWatch$Request;" } : Jvm.MethodName)) ∈ sw_WS := sw_mem 739 (by decide +kernel) rfl
theorem q_56 : Cond.selects "SplitWatch$Bus" ⟨"SplitWatch$Bus", "openAt", "(I)LSplitWatch$Request;"⟩ ⟨"SplitWatch$Bus", "openAt", "(I)LSplitWatch$Request;"⟩ ∈ sw_WS := sw_mem 56 (by decide +kernel) rfl
theorem q_771 : (Jvm.Cond.methodLink "SplitWatchModel" (75 : Nat) ({ cls := "SplitWatchModel", name := "in", desc := "(JJJ)Z" } : Jvm.MethodName)) ∈ sw_WS := sw_mem 771 (by decide +kernel) rfl
theorem q_103 : (Jvm.Cond.initialized "SplitWatchModel") ∈ sw_WS := sw_mem 103 (by decide +kernel) rfl
theorem q_773 : (Jvm.Cond.code ({ cls := "SplitWatchModel", name := "in", desc := "(JJJ)Z" } : Jvm.MethodName) prog_9_method_2_code (6 : Nat) (Option.some Jvm.ClassFile.FieldType.boolean)) ∈ sw_WS := sw_mem 773 (by decide +kernel) rfl
theorem q_772 : (Jvm.Cond.static ({ cls := "SplitWatchModel", name := "in", desc := "(JJJ)Z" } : Jvm.MethodName)) ∈ sw_WS := sw_mem 772 (by decide +kernel) rfl
theorem q_898 : (Jvm.Cond.methodLink "SplitWatchModel" (123 : Nat) ({ cls := "SplitWatchModel", name := "at", desc := "(II)I" } : Jvm.MethodName)) ∈ sw_WS := sw_mem 898 (by decide +kernel) rfl
theorem q_901 : (Jvm.Cond.code ({ cls := "SplitWatchModel", name := "at", desc := "(II)I" } : Jvm.MethodName) prog_9_method_6_code (4 : Nat) (Option.some Jvm.ClassFile.FieldType.int)) ∈ sw_WS := sw_mem 901 (by decide +kernel) rfl
theorem q_900 : (Jvm.Cond.instanceMethod ({ cls := "SplitWatchModel", name := "at", desc := "(II)I" } : Jvm.MethodName)) ∈ sw_WS := sw_mem 900 (by decide +kernel) rfl
theorem q_60 : Cond.selects "SplitWatchModel" ⟨"SplitWatchModel", "at", "(II)I"⟩ ⟨"SplitWatchModel", "at", "(II)I"⟩ ∈ sw_WS := sw_mem 60 (by decide +kernel) rfl
theorem q_930 : (Jvm.Cond.methodLink "SplitWatchModel" (127 : Nat) ({ cls := "SplitWatchModel", name := "takeOut", desc := "(II)V" } : Jvm.MethodName)) ∈ sw_WS := sw_mem 930 (by decide +kernel) rfl
theorem q_933 : (Jvm.Cond.code ({ cls := "SplitWatchModel", name := "takeOut", desc := "(II)V" } : Jvm.MethodName) prog_9_method_8_code (5 : Nat) (Option.none : Option Jvm.ClassFile.FieldType)) ∈ sw_WS := sw_mem 933 (by decide +kernel) rfl
theorem q_932 : (Jvm.Cond.instanceMethod ({ cls := "SplitWatchModel", name := "takeOut", desc := "(II)V" } : Jvm.MethodName)) ∈ sw_WS := sw_mem 932 (by decide +kernel) rfl
theorem q_68 : Cond.selects "SplitWatchModel" ⟨"SplitWatchModel", "takeOut", "(II)V"⟩ ⟨"SplitWatchModel", "takeOut", "(II)V"⟩ ∈ sw_WS := sw_mem 68 (by decide +kernel) rfl
theorem q_934 : (Jvm.Cond.methodLink "SplitWatchModel" (131 : Nat) ({ cls := "SplitWatchModel", name := "putIn", desc := "(IIII)V" } : Jvm.MethodName)) ∈ sw_WS := sw_mem 934 (by decide +kernel) rfl
theorem q_937 : (Jvm.Cond.code ({ cls := "SplitWatchModel", name := "putIn", desc := "(IIII)V" } : Jvm.MethodName) prog_9_method_9_code (6 : Nat) (Option.none : Option Jvm.ClassFile.FieldType)) ∈ sw_WS := sw_mem 937 (by decide +kernel) rfl
theorem q_936 : (Jvm.Cond.instanceMethod ({ cls := "SplitWatchModel", name := "putIn", desc := "(IIII)V" } : Jvm.MethodName)) ∈ sw_WS := sw_mem 936 (by decide +kernel) rfl
theorem q_69 : Cond.selects "SplitWatchModel" ⟨"SplitWatchModel", "putIn", "(IIII)V"⟩ ⟨"SplitWatchModel", "putIn", "(IIII)V"⟩ ∈ sw_WS := sw_mem 69 (by decide +kernel) rfl
theorem q_926 : (Jvm.Cond.methodLink "SplitWatchModel" (138 : Nat) ({ cls := "SplitWatchModel", name := "asks", desc := "(III)V" } : Jvm.MethodName)) ∈ sw_WS := sw_mem 926 (by decide +kernel) rfl
theorem q_929 : (Jvm.Cond.code ({ cls := "SplitWatchModel", name := "asks", desc := "(III)V" } : Jvm.MethodName) prog_9_method_16_code (5 : Nat) (Option.none : Option Jvm.ClassFile.FieldType)) ∈ sw_WS := sw_mem 929 (by decide +kernel) rfl
theorem q_928 : (Jvm.Cond.instanceMethod ({ cls := "SplitWatchModel", name := "asks", desc := "(III)V" } : Jvm.MethodName)) ∈ sw_WS := sw_mem 928 (by decide +kernel) rfl
theorem q_67 : Cond.selects "SplitWatchModel" ⟨"SplitWatchModel", "asks", "(III)V"⟩ ⟨"SplitWatchModel", "asks", "(III)V"⟩ ∈ sw_WS := sw_mem 67 (by decide +kernel) rfl
theorem q_922 : (Jvm.Cond.methodLink "SplitWatchModel" (135 : Nat) ({ cls := "SplitWatchModel", name := "giveUp", desc := "(II)V" } : Jvm.MethodName)) ∈ sw_WS := sw_mem 922 (by decide +kernel) rfl
theorem q_925 : (Jvm.Cond.code ({ cls := "SplitWatchModel", name := "giveUp", desc := "(II)V" } : Jvm.MethodName) prog_9_method_13_code (4 : Nat) (Option.none : Option Jvm.ClassFile.FieldType)) ∈ sw_WS := sw_mem 925 (by decide +kernel) rfl
theorem q_924 : (Jvm.Cond.instanceMethod ({ cls := "SplitWatchModel", name := "giveUp", desc := "(II)V" } : Jvm.MethodName)) ∈ sw_WS := sw_mem 924 (by decide +kernel) rfl
theorem q_66 : Cond.selects "SplitWatchModel" ⟨"SplitWatchModel", "giveUp", "(II)V"⟩ ⟨"SplitWatchModel", "giveUp", "(II)V"⟩ ∈ sw_WS := sw_mem 66 (by decide +kernel) rfl
theorem q_902 : (Jvm.Cond.methodLink "SplitWatchModel" (142 : Nat) ({ cls := "SplitWatchModel", name := "backAt", desc := "(II)I" } : Jvm.MethodName)) ∈ sw_WS := sw_mem 902 (by decide +kernel) rfl
theorem q_905 : (Jvm.Cond.code ({ cls := "SplitWatchModel", name := "backAt", desc := "(II)I" } : Jvm.MethodName) prog_9_method_14_code (4 : Nat) (Option.some Jvm.ClassFile.FieldType.int)) ∈ sw_WS := sw_mem 905 (by decide +kernel) rfl
theorem q_904 : (Jvm.Cond.instanceMethod ({ cls := "SplitWatchModel", name := "backAt", desc := "(II)I" } : Jvm.MethodName)) ∈ sw_WS := sw_mem 904 (by decide +kernel) rfl
theorem q_61 : Cond.selects "SplitWatchModel" ⟨"SplitWatchModel", "backAt", "(II)I"⟩ ⟨"SplitWatchModel", "backAt", "(II)I"⟩ ∈ sw_WS := sw_mem 61 (by decide +kernel) rfl
theorem q_914 : (Jvm.Cond.methodLink "SplitWatchModel" (145 : Nat) ({ cls := "SplitWatchModel", name := "noMore", desc := "(I)V" } : Jvm.MethodName)) ∈ sw_WS := sw_mem 914 (by decide +kernel) rfl
theorem q_917 : (Jvm.Cond.code ({ cls := "SplitWatchModel", name := "noMore", desc := "(I)V" } : Jvm.MethodName) prog_9_method_17_code (3 : Nat) (Option.none : Option Jvm.ClassFile.FieldType)) ∈ sw_WS := sw_mem 917 (by decide +kernel) rfl
theorem q_916 : (Jvm.Cond.instanceMethod ({ cls := "SplitWatchModel", name := "noMore", desc := "(I)V" } : Jvm.MethodName)) ∈ sw_WS := sw_mem 916 (by decide +kernel) rfl
theorem q_64 : Cond.selects "SplitWatchModel" ⟨"SplitWatchModel", "noMore", "(I)V"⟩ ⟨"SplitWatchModel", "noMore", "(I)V"⟩ ∈ sw_WS := sw_mem 64 (by decide +kernel) rfl
theorem q_996 : (Jvm.Cond.methodLink "SplitWatchModel" (149 : Nat) ({ cls := "SplitWatchModel", name := "isOpen", desc := "(I)Z" } : Jvm.MethodName)) ∈ sw_WS := sw_mem 996 (by decide +kernel) rfl
theorem q_999 : (Jvm.Cond.code ({ cls := "SplitWatchModel", name := "isOpen", desc := "(I)Z" } : Jvm.MethodName) prog_9_method_19_code (4 : Nat) (Option.some Jvm.ClassFile.FieldType.boolean)) ∈ sw_WS := sw_mem 999 (by decide +kernel) rfl
theorem q_998 : (Jvm.Cond.instanceMethod ({ cls := "SplitWatchModel", name := "isOpen", desc := "(I)Z" } : Jvm.MethodName)) ∈ sw_WS := sw_mem 998 (by decide +kernel) rfl
theorem q_81 : Cond.selects "SplitWatchModel" ⟨"SplitWatchModel", "isOpen", "(I)Z"⟩ ⟨"SplitWatchModel", "isOpen", "(I)Z"⟩ ∈ sw_WS := sw_mem 81 (by decide +kernel) rfl
theorem q_992 : (Jvm.Cond.methodLink "SplitWatchModel" (153 : Nat) ({ cls := "SplitWatchModel", name := "isUrgent", desc := "(I)Z" } : Jvm.MethodName)) ∈ sw_WS := sw_mem 992 (by decide +kernel) rfl
theorem q_995 : (Jvm.Cond.code ({ cls := "SplitWatchModel", name := "isUrgent", desc := "(I)Z" } : Jvm.MethodName) prog_9_method_20_code (2 : Nat) (Option.some Jvm.ClassFile.FieldType.boolean)) ∈ sw_WS := sw_mem 995 (by decide +kernel) rfl
theorem q_994 : (Jvm.Cond.instanceMethod ({ cls := "SplitWatchModel", name := "isUrgent", desc := "(I)Z" } : Jvm.MethodName)) ∈ sw_WS := sw_mem 994 (by decide +kernel) rfl
theorem q_80 : Cond.selects "SplitWatchModel" ⟨"SplitWatchModel", "isUrgent", "(I)Z"⟩ ⟨"SplitWatchModel", "isUrgent", "(I)Z"⟩ ∈ sw_WS := sw_mem 80 (by decide +kernel) rfl
theorem q_988 : (Jvm.Cond.methodLink "SplitWatchModel" (156 : Nat) ({ cls := "SplitWatchModel", name := "isAhead", desc := "(II)Z" } : Jvm.MethodName)) ∈ sw_WS := sw_mem 988 (by decide +kernel) rfl
theorem q_991 : (Jvm.Cond.code ({ cls := "SplitWatchModel", name := "isAhead", desc := "(II)Z" } : Jvm.MethodName) prog_9_method_21_code (3 : Nat) (Option.some Jvm.ClassFile.FieldType.boolean)) ∈ sw_WS := sw_mem 991 (by decide +kernel) rfl
theorem q_990 : (Jvm.Cond.instanceMethod ({ cls := "SplitWatchModel", name := "isAhead", desc := "(II)Z" } : Jvm.MethodName)) ∈ sw_WS := sw_mem 990 (by decide +kernel) rfl
theorem q_79 : Cond.selects "SplitWatchModel" ⟨"SplitWatchModel", "isAhead", "(II)Z"⟩ ⟨"SplitWatchModel", "isAhead", "(II)Z"⟩ ∈ sw_WS := sw_mem 79 (by decide +kernel) rfl
theorem q_906 : (Jvm.Cond.methodLink "SplitWatchModel" (175 : Nat) ({ cls := "SplitWatchModel", name := "outOfBuffer", desc := "(II)I" } : Jvm.MethodName)) ∈ sw_WS := sw_mem 906 (by decide +kernel) rfl
theorem q_909 : (Jvm.Cond.code ({ cls := "SplitWatchModel", name := "outOfBuffer", desc := "(II)I" } : Jvm.MethodName) prog_9_method_15_code (5 : Nat) (Option.some Jvm.ClassFile.FieldType.int)) ∈ sw_WS := sw_mem 909 (by decide +kernel) rfl
theorem q_908 : (Jvm.Cond.instanceMethod ({ cls := "SplitWatchModel", name := "outOfBuffer", desc := "(II)I" } : Jvm.MethodName)) ∈ sw_WS := sw_mem 908 (by decide +kernel) rfl
theorem q_62 : Cond.selects "SplitWatchModel" ⟨"SplitWatchModel", "outOfBuffer", "(II)I"⟩ ⟨"SplitWatchModel", "outOfBuffer", "(II)I"⟩ ∈ sw_WS := sw_mem 62 (by decide +kernel) rfl
theorem q_910 : (Jvm.Cond.methodLink "SplitWatchModel" (178 : Nat) ({ cls := "SplitWatchModel", name := "noBack", desc := "(II)V" } : Jvm.MethodName)) ∈ sw_WS := sw_mem 910 (by decide +kernel) rfl
theorem q_913 : (Jvm.Cond.code ({ cls := "SplitWatchModel", name := "noBack", desc := "(II)V" } : Jvm.MethodName) prog_9_method_18_code (4 : Nat) (Option.none : Option Jvm.ClassFile.FieldType)) ∈ sw_WS := sw_mem 913 (by decide +kernel) rfl
theorem q_912 : (Jvm.Cond.instanceMethod ({ cls := "SplitWatchModel", name := "noBack", desc := "(II)V" } : Jvm.MethodName)) ∈ sw_WS := sw_mem 912 (by decide +kernel) rfl
theorem q_63 : Cond.selects "SplitWatchModel" ⟨"SplitWatchModel", "noBack", "(II)V"⟩ ⟨"SplitWatchModel", "noBack", "(II)V"⟩ ∈ sw_WS := sw_mem 63 (by decide +kernel) rfl
theorem q_918 : (Jvm.Cond.methodLink "SplitWatchModel" (181 : Nat) ({ cls := "SplitWatchModel", name := "fill", desc := "(IIII)V" } : Jvm.MethodName)) ∈ sw_WS := sw_mem 918 (by decide +kernel) rfl
theorem q_921 : (Jvm.Cond.code ({ cls := "SplitWatchModel", name := "fill", desc := "(IIII)V" } : Jvm.MethodName) prog_9_method_12_code (5 : Nat) (Option.none : Option Jvm.ClassFile.FieldType)) ∈ sw_WS := sw_mem 921 (by decide +kernel) rfl
theorem q_920 : (Jvm.Cond.instanceMethod ({ cls := "SplitWatchModel", name := "fill", desc := "(IIII)V" } : Jvm.MethodName)) ∈ sw_WS := sw_mem 920 (by decide +kernel) rfl
theorem q_65 : Cond.selects "SplitWatchModel" ⟨"SplitWatchModel", "fill", "(IIII)V"⟩ ⟨"SplitWatchModel", "fill", "(IIII)V"⟩ ∈ sw_WS := sw_mem 65 (by decide +kernel) rfl
theorem q_886 : (Jvm.Cond.methodLink "SplitWatchModel" (160 : Nat) ({ cls := "SplitWatchModel", name := "isCore", desc := "(I)Z" } : Jvm.MethodName)) ∈ sw_WS := sw_mem 886 (by decide +kernel) rfl
theorem q_889 : (Jvm.Cond.code ({ cls := "SplitWatchModel", name := "isCore", desc := "(I)Z" } : Jvm.MethodName) prog_9_method_4_code (2 : Nat) (Option.some Jvm.ClassFile.FieldType.boolean)) ∈ sw_WS := sw_mem 889 (by decide +kernel) rfl
theorem q_888 : (Jvm.Cond.instanceMethod ({ cls := "SplitWatchModel", name := "isCore", desc := "(I)Z" } : Jvm.MethodName)) ∈ sw_WS := sw_mem 888 (by decide +kernel) rfl
theorem q_58 : Cond.selects "SplitWatchModel" ⟨"SplitWatchModel", "isCore", "(I)Z"⟩ ⟨"SplitWatchModel", "isCore", "(I)Z"⟩ ∈ sw_WS := sw_mem 58 (by decide +kernel) rfl
theorem q_890 : (Jvm.Cond.methodLink "SplitWatchModel" (163 : Nat) ({ cls := "SplitWatchModel", name := "isLine", desc := "(I)Z" } : Jvm.MethodName)) ∈ sw_WS := sw_mem 890 (by decide +kernel) rfl
theorem q_892 : (Jvm.Cond.code ({ cls := "SplitWatchModel", name := "isLine", desc := "(I)Z" } : Jvm.MethodName) prog_9_method_5_code (1 : Nat) (Option.some Jvm.ClassFile.FieldType.boolean)) ∈ sw_WS := sw_mem 892 (by decide +kernel) rfl
theorem q_891 : (Jvm.Cond.static ({ cls := "SplitWatchModel", name := "isLine", desc := "(I)Z" } : Jvm.MethodName)) ∈ sw_WS := sw_mem 891 (by decide +kernel) rfl
theorem q_894 : (Jvm.Cond.methodLink "SplitWatchModel" (166 : Nat) ({ cls := "SplitWatchModel", name := "isHere", desc := "(II)Z" } : Jvm.MethodName)) ∈ sw_WS := sw_mem 894 (by decide +kernel) rfl
theorem q_897 : (Jvm.Cond.code ({ cls := "SplitWatchModel", name := "isHere", desc := "(II)Z" } : Jvm.MethodName) prog_9_method_25_code (4 : Nat) (Option.some Jvm.ClassFile.FieldType.boolean)) ∈ sw_WS := sw_mem 897 (by decide +kernel) rfl
theorem q_896 : (Jvm.Cond.instanceMethod ({ cls := "SplitWatchModel", name := "isHere", desc := "(II)Z" } : Jvm.MethodName)) ∈ sw_WS := sw_mem 896 (by decide +kernel) rfl
theorem q_59 : Cond.selects "SplitWatchModel" ⟨"SplitWatchModel", "isHere", "(II)Z"⟩ ⟨"SplitWatchModel", "isHere", "(II)Z"⟩ ∈ sw_WS := sw_mem 59 (by decide +kernel) rfl
theorem q_942 : (Jvm.Cond.methodLink "SplitWatchModel" (172 : Nat) ({ cls := "SplitWatchModel", name := "use", desc := "(IIII)V" } : Jvm.MethodName)) ∈ sw_WS := sw_mem 942 (by decide +kernel) rfl
theorem q_945 : (Jvm.Cond.code ({ cls := "SplitWatchModel", name := "use", desc := "(IIII)V" } : Jvm.MethodName) prog_9_method_10_code (5 : Nat) (Option.none : Option Jvm.ClassFile.FieldType)) ∈ sw_WS := sw_mem 945 (by decide +kernel) rfl
theorem q_944 : (Jvm.Cond.instanceMethod ({ cls := "SplitWatchModel", name := "use", desc := "(IIII)V" } : Jvm.MethodName)) ∈ sw_WS := sw_mem 944 (by decide +kernel) rfl
theorem q_71 : Cond.selects "SplitWatchModel" ⟨"SplitWatchModel", "use", "(IIII)V"⟩ ⟨"SplitWatchModel", "use", "(IIII)V"⟩ ∈ sw_WS := sw_mem 71 (by decide +kernel) rfl
theorem q_938 : (Jvm.Cond.methodLink "SplitWatchModel" (169 : Nat) ({ cls := "SplitWatchModel", name := "begins", desc := "(IIII)V" } : Jvm.MethodName)) ∈ sw_WS := sw_mem 938 (by decide +kernel) rfl
theorem q_941 : (Jvm.Cond.code ({ cls := "SplitWatchModel", name := "begins", desc := "(IIII)V" } : Jvm.MethodName) prog_9_method_23_code (5 : Nat) (Option.none : Option Jvm.ClassFile.FieldType)) ∈ sw_WS := sw_mem 941 (by decide +kernel) rfl
theorem q_940 : (Jvm.Cond.instanceMethod ({ cls := "SplitWatchModel", name := "begins", desc := "(IIII)V" } : Jvm.MethodName)) ∈ sw_WS := sw_mem 940 (by decide +kernel) rfl
theorem q_70 : Cond.selects "SplitWatchModel" ⟨"SplitWatchModel", "begins", "(IIII)V"⟩ ⟨"SplitWatchModel", "begins", "(IIII)V"⟩ ∈ sw_WS := sw_mem 70 (by decide +kernel) rfl
theorem q_951 : (Jvm.Cond.methodLink "SplitWatchModel" (186 : Nat) ({ cls := "SplitWatchModel", name := "howOf", desc := "(II)I" } : Jvm.MethodName)) ∈ sw_WS := sw_mem 951 (by decide +kernel) rfl
theorem q_954 : (Jvm.Cond.code ({ cls := "SplitWatchModel", name := "howOf", desc := "(II)I" } : Jvm.MethodName) prog_9_method_7_code (4 : Nat) (Option.some Jvm.ClassFile.FieldType.int)) ∈ sw_WS := sw_mem 954 (by decide +kernel) rfl
theorem q_953 : (Jvm.Cond.instanceMethod ({ cls := "SplitWatchModel", name := "howOf", desc := "(II)I" } : Jvm.MethodName)) ∈ sw_WS := sw_mem 953 (by decide +kernel) rfl
theorem q_72 : Cond.selects "SplitWatchModel" ⟨"SplitWatchModel", "howOf", "(II)I"⟩ ⟨"SplitWatchModel", "howOf", "(II)I"⟩ ∈ sw_WS := sw_mem 72 (by decide +kernel) rfl
theorem q_972 : (Jvm.Cond.methodLink "SplitWatchModel" (189 : Nat) ({ cls := "SplitWatchModel", name := "canFill", desc := "(I)Z" } : Jvm.MethodName)) ∈ sw_WS := sw_mem 972 (by decide +kernel) rfl
theorem q_975 : (Jvm.Cond.code ({ cls := "SplitWatchModel", name := "canFill", desc := "(I)Z" } : Jvm.MethodName) prog_9_method_11_code (2 : Nat) (Option.some Jvm.ClassFile.FieldType.boolean)) ∈ sw_WS := sw_mem 975 (by decide +kernel) rfl
theorem q_974 : (Jvm.Cond.instanceMethod ({ cls := "SplitWatchModel", name := "canFill", desc := "(I)Z" } : Jvm.MethodName)) ∈ sw_WS := sw_mem 974 (by decide +kernel) rfl
theorem q_75 : Cond.selects "SplitWatchModel" ⟨"SplitWatchModel", "canFill", "(I)Z"⟩ ⟨"SplitWatchModel", "canFill", "(I)Z"⟩ ∈ sw_WS := sw_mem 75 (by decide +kernel) rfl
theorem q_976 : (Jvm.Cond.methodLink "SplitWatchModel" (192 : Nat) ({ cls := "SplitWatchModel", name := "ends", desc := "(I)V" } : Jvm.MethodName)) ∈ sw_WS := sw_mem 976 (by decide +kernel) rfl
theorem q_979 : (Jvm.Cond.code ({ cls := "SplitWatchModel", name := "ends", desc := "(I)V" } : Jvm.MethodName) prog_9_method_28_code (2 : Nat) (Option.none : Option Jvm.ClassFile.FieldType)) ∈ sw_WS := sw_mem 979 (by decide +kernel) rfl
theorem q_978 : (Jvm.Cond.instanceMethod ({ cls := "SplitWatchModel", name := "ends", desc := "(I)V" } : Jvm.MethodName)) ∈ sw_WS := sw_mem 978 (by decide +kernel) rfl
theorem q_76 : Cond.selects "SplitWatchModel" ⟨"SplitWatchModel", "ends", "(I)V"⟩ ⟨"SplitWatchModel", "ends", "(I)V"⟩ ∈ sw_WS := sw_mem 76 (by decide +kernel) rfl
theorem q_1012 : (Jvm.Cond.methodLink "SplitWatchModel" (195 : Nat) ({ cls := "SplitWatchModel", name := "otherThat", desc := "(III)I" } : Jvm.MethodName)) ∈ sw_WS := sw_mem 1012 (by decide +kernel) rfl
theorem q_1015 : (Jvm.Cond.code ({ cls := "SplitWatchModel", name := "otherThat", desc := "(III)I" } : Jvm.MethodName) prog_9_method_31_code (5 : Nat) (Option.some Jvm.ClassFile.FieldType.int)) ∈ sw_WS := sw_mem 1015 (by decide +kernel) rfl
theorem q_1014 : (Jvm.Cond.instanceMethod ({ cls := "SplitWatchModel", name := "otherThat", desc := "(III)I" } : Jvm.MethodName)) ∈ sw_WS := sw_mem 1014 (by decide +kernel) rfl
theorem q_85 : Cond.selects "SplitWatchModel" ⟨"SplitWatchModel", "otherThat", "(III)I"⟩ ⟨"SplitWatchModel", "otherThat", "(III)I"⟩ ∈ sw_WS := sw_mem 85 (by decide +kernel) rfl
theorem q_1016 : (Jvm.Cond.methodLink "SplitWatchModel" (199 : Nat) ({ cls := "SplitWatchModel", name := "bufferThat", desc := "(I)I" } : Jvm.MethodName)) ∈ sw_WS := sw_mem 1016 (by decide +kernel) rfl
theorem q_1019 : (Jvm.Cond.code ({ cls := "SplitWatchModel", name := "bufferThat", desc := "(I)I" } : Jvm.MethodName) prog_9_method_32_code (3 : Nat) (Option.some Jvm.ClassFile.FieldType.int)) ∈ sw_WS := sw_mem 1019 (by decide +kernel) rfl
theorem q_1018 : (Jvm.Cond.instanceMethod ({ cls := "SplitWatchModel", name := "bufferThat", desc := "(I)I" } : Jvm.MethodName)) ∈ sw_WS := sw_mem 1018 (by decide +kernel) rfl
theorem q_86 : Cond.selects "SplitWatchModel" ⟨"SplitWatchModel", "bufferThat", "(I)I"⟩ ⟨"SplitWatchModel", "bufferThat", "(I)I"⟩ ∈ sw_WS := sw_mem 86 (by decide +kernel) rfl
theorem q_1004 : (Jvm.Cond.methodLink "SplitWatchModel" (203 : Nat) ({ cls := "SplitWatchModel", name := "noOther", desc := "(II)V" } : Jvm.MethodName)) ∈ sw_WS := sw_mem 1004 (by decide +kernel) rfl
theorem q_1007 : (Jvm.Cond.code ({ cls := "SplitWatchModel", name := "noOther", desc := "(II)V" } : Jvm.MethodName) prog_9_method_33_code (4 : Nat) (Option.none : Option Jvm.ClassFile.FieldType)) ∈ sw_WS := sw_mem 1007 (by decide +kernel) rfl
theorem q_1006 : (Jvm.Cond.instanceMethod ({ cls := "SplitWatchModel", name := "noOther", desc := "(II)V" } : Jvm.MethodName)) ∈ sw_WS := sw_mem 1006 (by decide +kernel) rfl
theorem q_83 : Cond.selects "SplitWatchModel" ⟨"SplitWatchModel", "noOther", "(II)V"⟩ ⟨"SplitWatchModel", "noOther", "(II)V"⟩ ∈ sw_WS := sw_mem 83 (by decide +kernel) rfl
theorem q_984 : (Jvm.Cond.methodLink "SplitWatchModel" (206 : Nat) ({ cls := "SplitWatchModel", name := "waitingAt", desc := "(I)I" } : Jvm.MethodName)) ∈ sw_WS := sw_mem 984 (by decide +kernel) rfl
theorem q_987 : (Jvm.Cond.code ({ cls := "SplitWatchModel", name := "waitingAt", desc := "(I)I" } : Jvm.MethodName) prog_9_method_22_code (5 : Nat) (Option.some Jvm.ClassFile.FieldType.int)) ∈ sw_WS := sw_mem 987 (by decide +kernel) rfl
theorem q_986 : (Jvm.Cond.instanceMethod ({ cls := "SplitWatchModel", name := "waitingAt", desc := "(I)I" } : Jvm.MethodName)) ∈ sw_WS := sw_mem 986 (by decide +kernel) rfl
theorem q_78 : Cond.selects "SplitWatchModel" ⟨"SplitWatchModel", "waitingAt", "(I)I"⟩ ⟨"SplitWatchModel", "waitingAt", "(I)I"⟩ ∈ sw_WS := sw_mem 78 (by decide +kernel) rfl
theorem q_1000 : (Jvm.Cond.methodLink "SplitWatchModel" (209 : Nat) ({ cls := "SplitWatchModel", name := "orders", desc := "(III)V" } : Jvm.MethodName)) ∈ sw_WS := sw_mem 1000 (by decide +kernel) rfl
theorem q_1003 : (Jvm.Cond.code ({ cls := "SplitWatchModel", name := "orders", desc := "(III)V" } : Jvm.MethodName) prog_9_method_30_code (5 : Nat) (Option.none : Option Jvm.ClassFile.FieldType)) ∈ sw_WS := sw_mem 1003 (by decide +kernel) rfl
theorem q_1002 : (Jvm.Cond.instanceMethod ({ cls := "SplitWatchModel", name := "orders", desc := "(III)V" } : Jvm.MethodName)) ∈ sw_WS := sw_mem 1002 (by decide +kernel) rfl
theorem q_82 : Cond.selects "SplitWatchModel" ⟨"SplitWatchModel", "orders", "(III)V"⟩ ⟨"SplitWatchModel", "orders", "(III)V"⟩ ∈ sw_WS := sw_mem 82 (by decide +kernel) rfl
theorem q_1008 : (Jvm.Cond.methodLink "SplitWatchModel" (212 : Nat) ({ cls := "SplitWatchModel", name := "opens", desc := "(IIII)V" } : Jvm.MethodName)) ∈ sw_WS := sw_mem 1008 (by decide +kernel) rfl
theorem q_1011 : (Jvm.Cond.code ({ cls := "SplitWatchModel", name := "opens", desc := "(IIII)V" } : Jvm.MethodName) prog_9_method_34_code (10 : Nat) (Option.none : Option Jvm.ClassFile.FieldType)) ∈ sw_WS := sw_mem 1011 (by decide +kernel) rfl
theorem q_1010 : (Jvm.Cond.instanceMethod ({ cls := "SplitWatchModel", name := "opens", desc := "(IIII)V" } : Jvm.MethodName)) ∈ sw_WS := sw_mem 1010 (by decide +kernel) rfl
theorem q_84 : Cond.selects "SplitWatchModel" ⟨"SplitWatchModel", "opens", "(IIII)V"⟩ ⟨"SplitWatchModel", "opens", "(IIII)V"⟩ ∈ sw_WS := sw_mem 84 (by decide +kernel) rfl
theorem q_968 : (Jvm.Cond.methodLink "SplitWatchModel" (214 : Nat) ({ cls := "SplitWatchModel", name := "answer", desc := "()Z" } : Jvm.MethodName)) ∈ sw_WS := sw_mem 968 (by decide +kernel) rfl
theorem q_971 : (Jvm.Cond.code ({ cls := "SplitWatchModel", name := "answer", desc := "()Z" } : Jvm.MethodName) prog_9_method_29_code (7 : Nat) (Option.some Jvm.ClassFile.FieldType.boolean)) ∈ sw_WS := sw_mem 971 (by decide +kernel) rfl
theorem q_970 : (Jvm.Cond.instanceMethod ({ cls := "SplitWatchModel", name := "answer", desc := "()Z" } : Jvm.MethodName)) ∈ sw_WS := sw_mem 970 (by decide +kernel) rfl
theorem q_74 : Cond.selects "SplitWatchModel" ⟨"SplitWatchModel", "answer", "()Z"⟩ ⟨"SplitWatchModel", "answer", "()Z"⟩ ∈ sw_WS := sw_mem 74 (by decide +kernel) rfl
theorem q_980 : (Jvm.Cond.methodLink "SplitWatchModel" (218 : Nat) ({ cls := "SplitWatchModel", name := "address", desc := "()I" } : Jvm.MethodName)) ∈ sw_WS := sw_mem 980 (by decide +kernel) rfl
theorem q_983 : (Jvm.Cond.code ({ cls := "SplitWatchModel", name := "address", desc := "()I" } : Jvm.MethodName) prog_9_method_35_code (6 : Nat) (Option.some Jvm.ClassFile.FieldType.int)) ∈ sw_WS := sw_mem 983 (by decide +kernel) rfl
theorem q_982 : (Jvm.Cond.instanceMethod ({ cls := "SplitWatchModel", name := "address", desc := "()I" } : Jvm.MethodName)) ∈ sw_WS := sw_mem 982 (by decide +kernel) rfl
theorem q_77 : Cond.selects "SplitWatchModel" ⟨"SplitWatchModel", "address", "()I"⟩ ⟨"SplitWatchModel", "address", "()I"⟩ ∈ sw_WS := sw_mem 77 (by decide +kernel) rfl
theorem q_964 : (Jvm.Cond.methodLink "SplitWatchModel" (224 : Nat) ({ cls := "SplitWatchModel", name := "oneTurn", desc := "()I" } : Jvm.MethodName)) ∈ sw_WS := sw_mem 964 (by decide +kernel) rfl
theorem q_967 : (Jvm.Cond.code ({ cls := "SplitWatchModel", name := "oneTurn", desc := "()I" } : Jvm.MethodName) prog_9_method_36_code (2 : Nat) (Option.some Jvm.ClassFile.FieldType.int)) ∈ sw_WS := sw_mem 967 (by decide +kernel) rfl
theorem q_966 : (Jvm.Cond.instanceMethod ({ cls := "SplitWatchModel", name := "oneTurn", desc := "()I" } : Jvm.MethodName)) ∈ sw_WS := sw_mem 966 (by decide +kernel) rfl
theorem q_73 : Cond.selects "SplitWatchModel" ⟨"SplitWatchModel", "oneTurn", "()I"⟩ ⟨"SplitWatchModel", "oneTurn", "()I"⟩ ∈ sw_WS := sw_mem 73 (by decide +kernel) rfl
theorem q_1042 : (Jvm.Cond.methodLink "SplitWatchModel" (237 : Nat) ({ cls := "SplitWatchModel", name := "letterAt", desc := "(I)I" } : Jvm.MethodName)) ∈ sw_WS := sw_mem 1042 (by decide +kernel) rfl
theorem q_1045 : (Jvm.Cond.code ({ cls := "SplitWatchModel", name := "letterAt", desc := "(I)I" } : Jvm.MethodName) prog_9_method_40_code (2 : Nat) (Option.some Jvm.ClassFile.FieldType.int)) ∈ sw_WS := sw_mem 1045 (by decide +kernel) rfl
theorem q_1044 : (Jvm.Cond.instanceMethod ({ cls := "SplitWatchModel", name := "letterAt", desc := "(I)I" } : Jvm.MethodName)) ∈ sw_WS := sw_mem 1044 (by decide +kernel) rfl
theorem q_89 : Cond.selects "SplitWatchModel" ⟨"SplitWatchModel", "letterAt", "(I)I"⟩ ⟨"SplitWatchModel", "letterAt", "(I)I"⟩ ∈ sw_WS := sw_mem 89 (by decide +kernel) rfl
theorem q_1038 : (Jvm.Cond.methodLink "SplitWatchModel" (252 : Nat) ({ cls := "SplitWatchModel", name := "word", desc := "()J" } : Jvm.MethodName)) ∈ sw_WS := sw_mem 1038 (by decide +kernel) rfl
theorem q_1041 : (Jvm.Cond.code ({ cls := "SplitWatchModel", name := "word", desc := "()J" } : Jvm.MethodName) prog_9_method_41_code (4 : Nat) (Option.some Jvm.ClassFile.FieldType.long)) ∈ sw_WS := sw_mem 1041 (by decide +kernel) rfl
theorem q_1040 : (Jvm.Cond.instanceMethod ({ cls := "SplitWatchModel", name := "word", desc := "()J" } : Jvm.MethodName)) ∈ sw_WS := sw_mem 1040 (by decide +kernel) rfl
theorem q_88 : Cond.selects "SplitWatchModel" ⟨"SplitWatchModel", "word", "()J"⟩ ⟨"SplitWatchModel", "word", "()J"⟩ ∈ sw_WS := sw_mem 88 (by decide +kernel) rfl
theorem q_1050 : (Jvm.Cond.methodLink "SplitWatchModel" (256 : Nat) ({ cls := "SplitWatchModel", name := "wordOf", desc := "(IIII)J" } : Jvm.MethodName)) ∈ sw_WS := sw_mem 1050 (by decide +kernel) rfl
theorem q_1052 : (Jvm.Cond.code ({ cls := "SplitWatchModel", name := "wordOf", desc := "(IIII)J" } : Jvm.MethodName) prog_9_method_42_code (4 : Nat) (Option.some Jvm.ClassFile.FieldType.long)) ∈ sw_WS := sw_mem 1052 (by decide +kernel) rfl
theorem q_1051 : (Jvm.Cond.static ({ cls := "SplitWatchModel", name := "wordOf", desc := "(IIII)J" } : Jvm.MethodName)) ∈ sw_WS := sw_mem 1051 (by decide +kernel) rfl
theorem q_1054 : (Jvm.Cond.methodLink "SplitWatchModel" (265 : Nat) ({ cls := "SplitWatchModel", name := "number", desc := "(II)I" } : Jvm.MethodName)) ∈ sw_WS := sw_mem 1054 (by decide +kernel) rfl
theorem q_1057 : (Jvm.Cond.code ({ cls := "SplitWatchModel", name := "number", desc := "(II)I" } : Jvm.MethodName) prog_9_method_43_code (5 : Nat) (Option.some Jvm.ClassFile.FieldType.int)) ∈ sw_WS := sw_mem 1057 (by decide +kernel) rfl
theorem q_1056 : (Jvm.Cond.instanceMethod ({ cls := "SplitWatchModel", name := "number", desc := "(II)I" } : Jvm.MethodName)) ∈ sw_WS := sw_mem 1056 (by decide +kernel) rfl
theorem q_90 : Cond.selects "SplitWatchModel" ⟨"SplitWatchModel", "number", "(II)I"⟩ ⟨"SplitWatchModel", "number", "(II)I"⟩ ∈ sw_WS := sw_mem 90 (by decide +kernel) rfl
theorem q_1034 : (Jvm.Cond.methodLink "SplitWatchModel" (268 : Nat) ({ cls := "SplitWatchModel", name := "reads", desc := "()Z" } : Jvm.MethodName)) ∈ sw_WS := sw_mem 1034 (by decide +kernel) rfl
theorem q_1037 : (Jvm.Cond.code ({ cls := "SplitWatchModel", name := "reads", desc := "()Z" } : Jvm.MethodName) prog_9_method_44_code (4 : Nat) (Option.some Jvm.ClassFile.FieldType.boolean)) ∈ sw_WS := sw_mem 1037 (by decide +kernel) rfl
theorem q_1036 : (Jvm.Cond.instanceMethod ({ cls := "SplitWatchModel", name := "reads", desc := "()Z" } : Jvm.MethodName)) ∈ sw_WS := sw_mem 1036 (by decide +kernel) rfl
theorem q_87 : Cond.selects "SplitWatchModel" ⟨"SplitWatchModel", "reads", "()Z"⟩ ⟨"SplitWatchModel", "reads", "()Z"⟩ ∈ sw_WS := sw_mem 87 (by decide +kernel) rfl
theorem q_1069 : (Jvm.Cond.methodLink "SplitWatchModel" (271 : Nat) ({ cls := "SplitWatchModel", name := "read", desc := "(II)I" } : Jvm.MethodName)) ∈ sw_WS := sw_mem 1069 (by decide +kernel) rfl
theorem q_885 : (Jvm.Cond.code ({ cls := "SplitWatchModel", name := "read", desc := "(II)I" } : Jvm.MethodName) prog_9_method_24_code (4 : Nat) (Option.some Jvm.ClassFile.FieldType.int)) ∈ sw_WS := sw_mem 885 (by decide +kernel) rfl
theorem q_883 : (Jvm.Cond.instanceMethod ({ cls := "SplitWatchModel", name := "read", desc := "(II)I" } : Jvm.MethodName)) ∈ sw_WS := sw_mem 883 (by decide +kernel) rfl
theorem q_884 : (Jvm.Cond.selects "SplitWatchModel" ({ cls := "SplitWatchModel", name := "read", desc := "(II)I" } : Jvm.MethodName) ({ cls := "SplitWatchModel", name := "read", desc := "(II)I" } : Jvm.MethodName)) ∈ sw_WS := sw_mem 884 (by decide +kernel) rfl
theorem q_1070 : (Jvm.Cond.methodLink "SplitWatchModel" (274 : Nat) ({ cls := "SplitWatchModel", name := "store", desc := "(III)I" } : Jvm.MethodName)) ∈ sw_WS := sw_mem 1070 (by decide +kernel) rfl
theorem q_949 : (Jvm.Cond.code ({ cls := "SplitWatchModel", name := "store", desc := "(III)I" } : Jvm.MethodName) prog_9_method_26_code (5 : Nat) (Option.some Jvm.ClassFile.FieldType.int)) ∈ sw_WS := sw_mem 949 (by decide +kernel) rfl
theorem q_947 : (Jvm.Cond.instanceMethod ({ cls := "SplitWatchModel", name := "store", desc := "(III)I" } : Jvm.MethodName)) ∈ sw_WS := sw_mem 947 (by decide +kernel) rfl
theorem q_948 : (Jvm.Cond.selects "SplitWatchModel" ({ cls := "SplitWatchModel", name := "store", desc := "(III)I" } : Jvm.MethodName) ({ cls := "SplitWatchModel", name := "store", desc := "(III)I" } : Jvm.MethodName)) ∈ sw_WS := sw_mem 948 (by decide +kernel) rfl
theorem q_1071 : (Jvm.Cond.methodLink "SplitWatchModel" (277 : Nat) ({ cls := "SplitWatchModel", name := "drop", desc := "(II)I" } : Jvm.MethodName)) ∈ sw_WS := sw_mem 1071 (by decide +kernel) rfl
theorem q_958 : (Jvm.Cond.code ({ cls := "SplitWatchModel", name := "drop", desc := "(II)I" } : Jvm.MethodName) prog_9_method_27_code (4 : Nat) (Option.some Jvm.ClassFile.FieldType.int)) ∈ sw_WS := sw_mem 958 (by decide +kernel) rfl
theorem q_956 : (Jvm.Cond.instanceMethod ({ cls := "SplitWatchModel", name := "drop", desc := "(II)I" } : Jvm.MethodName)) ∈ sw_WS := sw_mem 956 (by decide +kernel) rfl
theorem q_957 : (Jvm.Cond.selects "SplitWatchModel" ({ cls := "SplitWatchModel", name := "drop", desc := "(II)I" } : Jvm.MethodName) ({ cls := "SplitWatchModel", name := "drop", desc := "(II)I" } : Jvm.MethodName)) ∈ sw_WS := sw_mem 957 (by decide +kernel) rfl
theorem q_1072 : (Jvm.Cond.methodLink "SplitWatchModel" (280 : Nat) ({ cls := "SplitWatchModel", name := "turn", desc := "(I)I" } : Jvm.MethodName)) ∈ sw_WS := sw_mem 1072 (by decide +kernel) rfl
theorem q_962 : (Jvm.Cond.code ({ cls := "SplitWatchModel", name := "turn", desc := "(I)I" } : Jvm.MethodName) prog_9_method_37_code (4 : Nat) (Option.some Jvm.ClassFile.FieldType.int)) ∈ sw_WS := sw_mem 962 (by decide +kernel) rfl
theorem q_960 : (Jvm.Cond.instanceMethod ({ cls := "SplitWatchModel", name := "turn", desc := "(I)I" } : Jvm.MethodName)) ∈ sw_WS := sw_mem 960 (by decide +kernel) rfl
theorem q_961 : (Jvm.Cond.selects "SplitWatchModel" ({ cls := "SplitWatchModel", name := "turn", desc := "(I)I" } : Jvm.MethodName) ({ cls := "SplitWatchModel", name := "turn", desc := "(I)I" } : Jvm.MethodName)) ∈ sw_WS := sw_mem 961 (by decide +kernel) rfl
theorem q_1064 : (Jvm.Cond.methodLink "SplitWatchModel" (283 : Nat) ({ cls := "SplitWatchModel", name := "fault", desc := "()I" } : Jvm.MethodName)) ∈ sw_WS := sw_mem 1064 (by decide +kernel) rfl
theorem q_1033 : (Jvm.Cond.code ({ cls := "SplitWatchModel", name := "fault", desc := "()I" } : Jvm.MethodName) prog_9_method_45_code (2 : Nat) (Option.some Jvm.ClassFile.FieldType.int)) ∈ sw_WS := sw_mem 1033 (by decide +kernel) rfl
theorem q_1031 : (Jvm.Cond.instanceMethod ({ cls := "SplitWatchModel", name := "fault", desc := "()I" } : Jvm.MethodName)) ∈ sw_WS := sw_mem 1031 (by decide +kernel) rfl
theorem q_1032 : (Jvm.Cond.selects "SplitWatchModel" ({ cls := "SplitWatchModel", name := "fault", desc := "()I" } : Jvm.MethodName) ({ cls := "SplitWatchModel", name := "fault", desc := "()I" } : Jvm.MethodName)) ∈ sw_WS := sw_mem 1032 (by decide +kernel) rfl
theorem q_1065 : (Jvm.Cond.methodLink "SplitWatchModel" (286 : Nat) ({ cls := "SplitWatchModel", name := "does", desc := "()I" } : Jvm.MethodName)) ∈ sw_WS := sw_mem 1065 (by decide +kernel) rfl
theorem q_1068 : (Jvm.Cond.code ({ cls := "SplitWatchModel", name := "does", desc := "()I" } : Jvm.MethodName) prog_9_method_46_code (1 : Nat) (Option.some Jvm.ClassFile.FieldType.int)) ∈ sw_WS := sw_mem 1068 (by decide +kernel) rfl
theorem q_1067 : (Jvm.Cond.instanceMethod ({ cls := "SplitWatchModel", name := "does", desc := "()I" } : Jvm.MethodName)) ∈ sw_WS := sw_mem 1067 (by decide +kernel) rfl
theorem q_91 : Cond.selects "SplitWatchModel" ⟨"SplitWatchModel", "does", "()I"⟩ ⟨"SplitWatchModel", "does", "()I"⟩ ∈ sw_WS := sw_mem 91 (by decide +kernel) rfl
theorem q_1077 : (Jvm.Cond.methodLink "SplitWatchModel" (289 : Nat) ({ cls := "SplitWatchModel", name := "lastMany", desc := "()I" } : Jvm.MethodName)) ∈ sw_WS := sw_mem 1077 (by decide +kernel) rfl
theorem q_1080 : (Jvm.Cond.code ({ cls := "SplitWatchModel", name := "lastMany", desc := "()I" } : Jvm.MethodName) prog_9_method_48_code (1 : Nat) (Option.some Jvm.ClassFile.FieldType.int)) ∈ sw_WS := sw_mem 1080 (by decide +kernel) rfl
theorem q_1079 : (Jvm.Cond.instanceMethod ({ cls := "SplitWatchModel", name := "lastMany", desc := "()I" } : Jvm.MethodName)) ∈ sw_WS := sw_mem 1079 (by decide +kernel) rfl
theorem q_92 : Cond.selects "SplitWatchModel" ⟨"SplitWatchModel", "lastMany", "()I"⟩ ⟨"SplitWatchModel", "lastMany", "()I"⟩ ∈ sw_WS := sw_mem 92 (by decide +kernel) rfl
theorem q_1085 : (Jvm.Cond.methodLink "SplitWatchModel" (292 : Nat) ({ cls := "SplitWatchModel", name := "fits", desc := "(II)Z" } : Jvm.MethodName)) ∈ sw_WS := sw_mem 1085 (by decide +kernel) rfl
theorem q_1087 : (Jvm.Cond.code ({ cls := "SplitWatchModel", name := "fits", desc := "(II)Z" } : Jvm.MethodName) prog_9_method_50_code (2 : Nat) (Option.some Jvm.ClassFile.FieldType.boolean)) ∈ sw_WS := sw_mem 1087 (by decide +kernel) rfl
theorem q_1086 : (Jvm.Cond.static ({ cls := "SplitWatchModel", name := "fits", desc := "(II)Z" } : Jvm.MethodName)) ∈ sw_WS := sw_mem 1086 (by decide +kernel) rfl
theorem q_1112 : (Jvm.Cond.methodLink "SplitWatchModel" (295 : Nat) ({ cls := "SplitWatchModel", name := "askOf", desc := "(I)I" } : Jvm.MethodName)) ∈ sw_WS := sw_mem 1112 (by decide +kernel) rfl
theorem q_1115 : (Jvm.Cond.code ({ cls := "SplitWatchModel", name := "askOf", desc := "(I)I" } : Jvm.MethodName) prog_9_method_57_code (3 : Nat) (Option.some Jvm.ClassFile.FieldType.int)) ∈ sw_WS := sw_mem 1115 (by decide +kernel) rfl
theorem q_1114 : (Jvm.Cond.instanceMethod ({ cls := "SplitWatchModel", name := "askOf", desc := "(I)I" } : Jvm.MethodName)) ∈ sw_WS := sw_mem 1114 (by decide +kernel) rfl
theorem q_93 : Cond.selects "SplitWatchModel" ⟨"SplitWatchModel", "askOf", "(I)I"⟩ ⟨"SplitWatchModel", "askOf", "(I)I"⟩ ∈ sw_WS := sw_mem 93 (by decide +kernel) rfl
theorem q_1116 : (Jvm.Cond.methodLink "SplitWatchModel" (298 : Nat) ({ cls := "SplitWatchModel", name := "openOf", desc := "(I)I" } : Jvm.MethodName)) ∈ sw_WS := sw_mem 1116 (by decide +kernel) rfl
theorem q_1119 : (Jvm.Cond.code ({ cls := "SplitWatchModel", name := "openOf", desc := "(I)I" } : Jvm.MethodName) prog_9_method_58_code (3 : Nat) (Option.some Jvm.ClassFile.FieldType.int)) ∈ sw_WS := sw_mem 1119 (by decide +kernel) rfl
theorem q_1118 : (Jvm.Cond.instanceMethod ({ cls := "SplitWatchModel", name := "openOf", desc := "(I)I" } : Jvm.MethodName)) ∈ sw_WS := sw_mem 1118 (by decide +kernel) rfl
theorem q_94 : Cond.selects "SplitWatchModel" ⟨"SplitWatchModel", "openOf", "(I)I"⟩ ⟨"SplitWatchModel", "openOf", "(I)I"⟩ ∈ sw_WS := sw_mem 94 (by decide +kernel) rfl
theorem in_X0 : ∀ w ∈ u_ws RX0 TX0 14, w ∈ sw_WS := by decide +kernel
theorem in_X1 : ∀ w ∈ u_ws RX1 TX1 4, w ∈ sw_WS := by decide +kernel
theorem in_X2 : ∀ w ∈ u_ws RX2 TX2 4, w ∈ sw_WS := by decide +kernel
theorem in_X3 : ∀ w ∈ u_ws RX3 TX3 4, w ∈ sw_WS := by decide +kernel
theorem in_X4 : ∀ w ∈ u_ws RX4 TX4 11, w ∈ sw_WS := by decide +kernel
theorem in_X5 : ∀ w ∈ u_ws RX5 TX5 5, w ∈ sw_WS := by decide +kernel
theorem in_X6 : ∀ w ∈ u_ws RX6 TX6 2, w ∈ sw_WS := by decide +kernel
theorem in_X7 : ∀ w ∈ u_ws RX7 TX7 35, w ∈ sw_WS := by decide +kernel
theorem fl_X3_15 : sw_FL RX3 15 3 1 := ⟨RX3, TX3, 4, rfl, in_X3, by decide, rfl, (Or.inl q_134)⟩
theorem fp_X3_15 : sw_FP RX3 15 3 1 := ⟨RX3, TX3, 4, tyX3, rfl, in_X3, by decide, rfl, (Or.inl q_134), tyX3_ok, nmX3, rfl, rfl⟩
theorem fl_X3_19 : sw_FL RX3 19 3 2 := ⟨RX3, TX3, 4, rfl, in_X3, by decide, rfl, (Or.inl q_137)⟩
theorem fp_X3_19 : sw_FP RX3 19 3 2 := ⟨RX3, TX3, 4, tyX3, rfl, in_X3, by decide, rfl, (Or.inl q_137), tyX3_ok, nmX3, rfl, rfl⟩
theorem fl_X3_22 : sw_FL RX3 22 3 3 := ⟨RX3, TX3, 4, rfl, in_X3, by decide, rfl, (Or.inl q_138)⟩
theorem fp_X3_22 : sw_FP RX3 22 3 3 := ⟨RX3, TX3, 4, tyX3, rfl, in_X3, by decide, rfl, (Or.inl q_138), tyX3_ok, nmX3, rfl, rfl⟩
theorem fl_X1_21 : sw_FL RX1 21 1 3 := ⟨RX1, TX1, 4, rfl, in_X1, by decide, rfl, (Or.inl q_168)⟩
theorem fp_X1_21 : sw_FP RX1 21 1 3 := ⟨RX1, TX1, 4, tyX1, rfl, in_X1, by decide, rfl, (Or.inl q_168), tyX1_ok, nmX1, rfl, rfl⟩
theorem fl_X1_9 : sw_FL RX1 9 1 0 := ⟨RX1, TX1, 4, rfl, in_X1, by decide, rfl, (Or.inl q_161)⟩
theorem fl_X1_15 : sw_FL RX1 15 1 1 := ⟨RX1, TX1, 4, rfl, in_X1, by decide, rfl, (Or.inl q_164)⟩
theorem fl_X1_18 : sw_FL RX1 18 1 2 := ⟨RX1, TX1, 4, rfl, in_X1, by decide, rfl, (Or.inl q_167)⟩
theorem fl_X2_12 : sw_FL RX2 12 2 0 := ⟨RX2, TX2, 4, rfl, in_X2, by decide, rfl, (Or.inl q_232)⟩
theorem fl_X2_27 : sw_FL RX2 27 2 1 := ⟨RX2, TX2, 4, rfl, in_X2, by decide, rfl, (Or.inl q_235)⟩
theorem fl_X2_34 : sw_FL RX2 34 4 1 := ⟨RX4, TX4, 11, rfl, in_X4, by decide, rfl, (Or.inr ⟨"SplitWatch", q_187⟩)⟩
theorem fp_X2_34 : sw_FP RX2 34 4 1 := ⟨RX4, TX4, 11, tyX4, rfl, in_X4, by decide, rfl, (Or.inr ⟨"SplitWatch", q_187⟩), tyX4_ok, nmX4, rfl, rfl⟩
theorem fl_X2_38 : sw_FL RX2 38 2 3 := ⟨RX2, TX2, 4, rfl, in_X2, by decide, rfl, (Or.inl q_240)⟩
theorem fp_X2_38 : sw_FP RX2 38 2 3 := ⟨RX2, TX2, 4, tyX2, rfl, in_X2, by decide, rfl, (Or.inl q_240), tyX2_ok, nmX2, rfl, rfl⟩
theorem fl_X2_20 : sw_FL RX2 20 2 2 := ⟨RX2, TX2, 4, rfl, in_X2, by decide, rfl, (Or.inl q_238)⟩
theorem fl_X0_44 : sw_FL RX0 44 0 4 := ⟨RX0, TX0, 14, rfl, in_X0, by decide, rfl, (Or.inl q_259)⟩
theorem fp_X0_44 : sw_FP RX0 44 0 4 := ⟨RX0, TX0, 14, tyX0, rfl, in_X0, by decide, rfl, (Or.inl q_259), tyX0_ok, nmX0, rfl, rfl⟩
theorem fl_X0_48 : sw_FL RX0 48 0 5 := ⟨RX0, TX0, 14, rfl, in_X0, by decide, rfl, (Or.inl q_261)⟩
theorem fp_X0_48 : sw_FP RX0 48 0 5 := ⟨RX0, TX0, 14, tyX0, rfl, in_X0, by decide, rfl, (Or.inl q_261), tyX0_ok, nmX0, rfl, rfl⟩
theorem fl_X0_51 : sw_FL RX0 51 0 6 := ⟨RX0, TX0, 14, rfl, in_X0, by decide, rfl, (Or.inl q_263)⟩
theorem fp_X0_51 : sw_FP RX0 51 0 6 := ⟨RX0, TX0, 14, tyX0, rfl, in_X0, by decide, rfl, (Or.inl q_263), tyX0_ok, nmX0, rfl, rfl⟩
theorem fl_X0_54 : sw_FL RX0 54 0 7 := ⟨RX0, TX0, 14, rfl, in_X0, by decide, rfl, (Or.inl q_265)⟩
theorem fp_X0_54 : sw_FP RX0 54 0 7 := ⟨RX0, TX0, 14, tyX0, rfl, in_X0, by decide, rfl, (Or.inl q_265), tyX0_ok, nmX0, rfl, rfl⟩
theorem fl_X0_57 : sw_FL RX0 57 0 8 := ⟨RX0, TX0, 14, rfl, in_X0, by decide, rfl, (Or.inl q_267)⟩
theorem fp_X0_57 : sw_FP RX0 57 0 8 := ⟨RX0, TX0, 14, tyX0, rfl, in_X0, by decide, rfl, (Or.inl q_267), tyX0_ok, nmX0, rfl, rfl⟩
theorem fl_X0_60 : sw_FL RX0 60 0 9 := ⟨RX0, TX0, 14, rfl, in_X0, by decide, rfl, (Or.inl q_269)⟩
theorem fp_X0_60 : sw_FP RX0 60 0 9 := ⟨RX0, TX0, 14, tyX0, rfl, in_X0, by decide, rfl, (Or.inl q_269), tyX0_ok, nmX0, rfl, rfl⟩
theorem fl_X0_63 : sw_FL RX0 63 0 10 := ⟨RX0, TX0, 14, rfl, in_X0, by decide, rfl, (Or.inl q_270)⟩
theorem fp_X0_63 : sw_FP RX0 63 0 10 := ⟨RX0, TX0, 14, tyX0, rfl, in_X0, by decide, rfl, (Or.inl q_270), tyX0_ok, nmX0, rfl, rfl⟩
theorem fl_X0_66 : sw_FL RX0 66 0 11 := ⟨RX0, TX0, 14, rfl, in_X0, by decide, rfl, (Or.inl q_272)⟩
theorem fp_X0_66 : sw_FP RX0 66 0 11 := ⟨RX0, TX0, 14, tyX0, rfl, in_X0, by decide, rfl, (Or.inl q_272), tyX0_ok, nmX0, rfl, rfl⟩
theorem fl_X0_69 : sw_FL RX0 69 0 12 := ⟨RX0, TX0, 14, rfl, in_X0, by decide, rfl, (Or.inl q_274)⟩
theorem fp_X0_69 : sw_FP RX0 69 0 12 := ⟨RX0, TX0, 14, tyX0, rfl, in_X0, by decide, rfl, (Or.inl q_274), tyX0_ok, nmX0, rfl, rfl⟩
theorem fl_X0_72 : sw_FL RX0 72 0 13 := ⟨RX0, TX0, 14, rfl, in_X0, by decide, rfl, (Or.inl q_276)⟩
theorem fp_X0_72 : sw_FP RX0 72 0 13 := ⟨RX0, TX0, 14, tyX0, rfl, in_X0, by decide, rfl, (Or.inl q_276), tyX0_ok, nmX0, rfl, rfl⟩
theorem fl_X0_30 : sw_FL RX0 30 0 3 := ⟨RX0, TX0, 14, rfl, in_X0, by decide, rfl, (Or.inl q_257)⟩
theorem fl_X0_11 : sw_FL RX0 11 0 0 := ⟨RX0, TX0, 14, rfl, in_X0, by decide, rfl, (Or.inl q_252)⟩
theorem fl_X0_23 : sw_FL RX0 23 0 2 := ⟨RX0, TX0, 14, rfl, in_X0, by decide, rfl, (Or.inl q_255)⟩
theorem fl_X0_105 : sw_FL RX0 105 2 0 := ⟨RX2, TX2, 4, rfl, in_X2, by decide, rfl, (Or.inr ⟨"SplitWatch", q_233⟩)⟩
theorem fl_X0_109 : sw_FL RX0 109 1 0 := ⟨RX1, TX1, 4, rfl, in_X1, by decide, rfl, (Or.inr ⟨"SplitWatch", q_162⟩)⟩
theorem fl_X0_98 : sw_FL RX0 98 4 1 := ⟨RX4, TX4, 11, rfl, in_X4, by decide, rfl, (Or.inr ⟨"SplitWatch", q_188⟩)⟩
theorem fp_X0_98 : sw_FP RX0 98 4 1 := ⟨RX4, TX4, 11, tyX4, rfl, in_X4, by decide, rfl, (Or.inr ⟨"SplitWatch", q_188⟩), tyX4_ok, nmX4, rfl, rfl⟩
theorem fl_X0_148 : sw_FL RX0 148 4 2 := ⟨RX4, TX4, 11, rfl, in_X4, by decide, rfl, (Or.inr ⟨"SplitWatch", q_190⟩)⟩
theorem fp_X0_148 : sw_FP RX0 148 4 2 := ⟨RX4, TX4, 11, tyX4, rfl, in_X4, by decide, rfl, (Or.inr ⟨"SplitWatch", q_190⟩), tyX4_ok, nmX4, rfl, rfl⟩
theorem fl_X0_151 : sw_FL RX0 151 4 3 := ⟨RX4, TX4, 11, rfl, in_X4, by decide, rfl, (Or.inr ⟨"SplitWatch", q_193⟩)⟩
theorem fp_X0_151 : sw_FP RX0 151 4 3 := ⟨RX4, TX4, 11, tyX4, rfl, in_X4, by decide, rfl, (Or.inr ⟨"SplitWatch", q_193⟩), tyX4_ok, nmX4, rfl, rfl⟩
theorem fl_X0_154 : sw_FL RX0 154 4 4 := ⟨RX4, TX4, 11, rfl, in_X4, by decide, rfl, (Or.inr ⟨"SplitWatch", q_195⟩)⟩
theorem fp_X0_154 : sw_FP RX0 154 4 4 := ⟨RX4, TX4, 11, tyX4, rfl, in_X4, by decide, rfl, (Or.inr ⟨"SplitWatch", q_195⟩), tyX4_ok, nmX4, rfl, rfl⟩
theorem fl_X0_156 : sw_FL RX0 156 4 5 := ⟨RX4, TX4, 11, rfl, in_X4, by decide, rfl, (Or.inr ⟨"SplitWatch", q_197⟩)⟩
theorem fp_X0_156 : sw_FP RX0 156 4 5 := ⟨RX4, TX4, 11, tyX4, rfl, in_X4, by decide, rfl, (Or.inr ⟨"SplitWatch", q_197⟩), tyX4_ok, nmX4, rfl, rfl⟩
theorem fl_X0_159 : sw_FL RX0 159 4 6 := ⟨RX4, TX4, 11, rfl, in_X4, by decide, rfl, (Or.inr ⟨"SplitWatch", q_200⟩)⟩
theorem fp_X0_159 : sw_FP RX0 159 4 6 := ⟨RX4, TX4, 11, tyX4, rfl, in_X4, by decide, rfl, (Or.inr ⟨"SplitWatch", q_200⟩), tyX4_ok, nmX4, rfl, rfl⟩
theorem fl_X0_162 : sw_FL RX0 162 4 7 := ⟨RX4, TX4, 11, rfl, in_X4, by decide, rfl, (Or.inr ⟨"SplitWatch", q_202⟩)⟩
theorem fp_X0_162 : sw_FP RX0 162 4 7 := ⟨RX4, TX4, 11, tyX4, rfl, in_X4, by decide, rfl, (Or.inr ⟨"SplitWatch", q_202⟩), tyX4_ok, nmX4, rfl, rfl⟩
theorem fl_X0_121 : sw_FL RX0 121 1 1 := ⟨RX1, TX1, 4, rfl, in_X1, by decide, rfl, (Or.inr ⟨"SplitWatch", q_165⟩)⟩
theorem fl_X0_190 : sw_FL RX0 190 4 0 := ⟨RX4, TX4, 11, rfl, in_X4, by decide, rfl, (Or.inr ⟨"SplitWatch", q_185⟩)⟩
theorem fl_X0_193 : sw_FL RX0 193 4 10 := ⟨RX4, TX4, 11, rfl, in_X4, by decide, rfl, (Or.inr ⟨"SplitWatch", q_207⟩)⟩
theorem fp_X0_193 : sw_FP RX0 193 4 10 := ⟨RX4, TX4, 11, tyX4, rfl, in_X4, by decide, rfl, (Or.inr ⟨"SplitWatch", q_207⟩), tyX4_ok, nmX4, rfl, rfl⟩
theorem fl_X0_124 : sw_FL RX0 124 2 3 := ⟨RX2, TX2, 4, rfl, in_X2, by decide, rfl, (Or.inr ⟨"SplitWatch", q_241⟩)⟩
theorem fp_X0_124 : sw_FP RX0 124 2 3 := ⟨RX2, TX2, 4, tyX2, rfl, in_X2, by decide, rfl, (Or.inr ⟨"SplitWatch", q_241⟩), tyX2_ok, nmX2, rfl, rfl⟩
theorem fl_X0_37 : sw_FL RX0 37 2 1 := ⟨RX2, TX2, 4, rfl, in_X2, by decide, rfl, (Or.inr ⟨"SplitWatch", q_236⟩)⟩
theorem fl_X0_180 : sw_FL RX0 180 4 9 := ⟨RX4, TX4, 11, rfl, in_X4, by decide, rfl, (Or.inr ⟨"SplitWatch", q_205⟩)⟩
theorem fp_X0_180 : sw_FP RX0 180 4 9 := ⟨RX4, TX4, 11, tyX4, rfl, in_X4, by decide, rfl, (Or.inr ⟨"SplitWatch", q_205⟩), tyX4_ok, nmX4, rfl, rfl⟩
theorem fl_X0_187 : sw_FL RX0 187 4 8 := ⟨RX4, TX4, 11, rfl, in_X4, by decide, rfl, (Or.inr ⟨"SplitWatch", q_204⟩)⟩
theorem fp_X0_187 : sw_FP RX0 187 4 8 := ⟨RX4, TX4, 11, tyX4, rfl, in_X4, by decide, rfl, (Or.inr ⟨"SplitWatch", q_204⟩), tyX4_ok, nmX4, rfl, rfl⟩
theorem fl_X0_19 : sw_FL RX0 19 0 1 := ⟨RX0, TX0, 14, rfl, in_X0, by decide, rfl, (Or.inl q_254)⟩
theorem fl_X3_11 : sw_FL RX3 11 3 0 := ⟨RX3, TX3, 4, rfl, in_X3, by decide, rfl, (Or.inl q_133)⟩
theorem fl_X2_41 : sw_FL RX2 41 4 3 := ⟨RX4, TX4, 11, rfl, in_X4, by decide, rfl, (Or.inr ⟨"SplitWatch", q_192⟩)⟩
theorem fl_X0_227 : sw_FL RX0 227 3 1 := ⟨RX3, TX3, 4, rfl, in_X3, by decide, rfl, (Or.inr ⟨"SplitWatch", q_135⟩)⟩
theorem fl_X2_44 : sw_FL RX2 44 4 6 := ⟨RX4, TX4, 11, rfl, in_X4, by decide, rfl, (Or.inr ⟨"SplitWatch", q_199⟩)⟩
theorem fl_X5_19 : sw_FL RX5 19 5 2 := ⟨RX5, TX5, 5, rfl, in_X5, by decide, rfl, (Or.inl q_332)⟩
theorem fp_X5_19 : sw_FP RX5 19 5 2 := ⟨RX5, TX5, 5, tyX5, rfl, in_X5, by decide, rfl, (Or.inl q_332), tyX5_ok, nmX5, rfl, rfl⟩
theorem fl_X5_11 : sw_FL RX5 11 5 0 := ⟨RX5, TX5, 5, rfl, in_X5, by decide, rfl, (Or.inl q_329)⟩
theorem fl_X5_15 : sw_FL RX5 15 5 1 := ⟨RX5, TX5, 5, rfl, in_X5, by decide, rfl, (Or.inl q_330)⟩
theorem fl_X5_42 : sw_FL RX5 42 5 3 := ⟨RX5, TX5, 5, rfl, in_X5, by decide, rfl, (Or.inl q_334)⟩
theorem fp_X5_42 : sw_FP RX5 42 5 3 := ⟨RX5, TX5, 5, tyX5, rfl, in_X5, by decide, rfl, (Or.inl q_334), tyX5_ok, nmX5, rfl, rfl⟩
theorem fl_X5_27 : sw_FL RX5 27 5 4 := ⟨RX5, TX5, 5, rfl, in_X5, by decide, rfl, (Or.inl q_336)⟩
theorem fp_X5_27 : sw_FP RX5 27 5 4 := ⟨RX5, TX5, 5, tyX5, rfl, in_X5, by decide, rfl, (Or.inl q_336), tyX5_ok, nmX5, rfl, rfl⟩
theorem fl_X6_10 : sw_FL RX6 10 6 0 := ⟨RX6, TX6, 2, rfl, in_X6, by decide, rfl, (Or.inl q_349)⟩
theorem fl_X6_23 : sw_FL RX6 23 6 1 := ⟨RX6, TX6, 2, rfl, in_X6, by decide, rfl, (Or.inl q_350)⟩
theorem fl_X6_60 : sw_FL RX6 60 5 2 := ⟨RX5, TX5, 5, rfl, in_X5, by decide, rfl, (Or.inr ⟨"SplitWatch", q_333⟩)⟩
theorem fp_X6_60 : sw_FP RX6 60 5 2 := ⟨RX5, TX5, 5, tyX5, rfl, in_X5, by decide, rfl, (Or.inr ⟨"SplitWatch", q_333⟩), tyX5_ok, nmX5, rfl, rfl⟩
theorem fl_X6_64 : sw_FL RX6 64 0 4 := ⟨RX0, TX0, 14, rfl, in_X0, by decide, rfl, (Or.inr ⟨"SplitWatch", q_260⟩)⟩
theorem fl_X6_74 : sw_FL RX6 74 5 1 := ⟨RX5, TX5, 5, rfl, in_X5, by decide, rfl, (Or.inr ⟨"SplitWatch", q_331⟩)⟩
theorem fl_X6_78 : sw_FL RX6 78 5 3 := ⟨RX5, TX5, 5, rfl, in_X5, by decide, rfl, (Or.inr ⟨"SplitWatch", q_335⟩)⟩
theorem fl_X6_88 : sw_FL RX6 88 5 4 := ⟨RX5, TX5, 5, rfl, in_X5, by decide, rfl, (Or.inr ⟨"SplitWatch", q_337⟩)⟩
theorem fl_X6_91 : sw_FL RX6 91 0 3 := ⟨RX0, TX0, 14, rfl, in_X0, by decide, rfl, (Or.inr ⟨"SplitWatch", q_258⟩)⟩
theorem fl_X6_119 : sw_FL RX6 119 0 0 := ⟨RX0, TX0, 14, rfl, in_X0, by decide, rfl, (Or.inr ⟨"SplitWatch", q_253⟩)⟩
theorem fl_X6_123 : sw_FL RX6 123 2 0 := ⟨RX2, TX2, 4, rfl, in_X2, by decide, rfl, (Or.inr ⟨"SplitWatch", q_234⟩)⟩
theorem fl_X6_129 : sw_FL RX6 129 1 0 := ⟨RX1, TX1, 4, rfl, in_X1, by decide, rfl, (Or.inr ⟨"SplitWatch", q_163⟩)⟩
theorem fl_X6_134 : sw_FL RX6 134 1 1 := ⟨RX1, TX1, 4, rfl, in_X1, by decide, rfl, (Or.inr ⟨"SplitWatch", q_166⟩)⟩
theorem fl_X6_152 : sw_FL RX6 152 4 4 := ⟨RX4, TX4, 11, rfl, in_X4, by decide, rfl, (Or.inr ⟨"SplitWatch", q_196⟩)⟩
theorem fl_X6_147 : sw_FL RX6 147 4 3 := ⟨RX4, TX4, 11, rfl, in_X4, by decide, rfl, (Or.inr ⟨"SplitWatch", q_194⟩)⟩
theorem fl_X6_154 : sw_FL RX6 154 0 2 := ⟨RX0, TX0, 14, rfl, in_X0, by decide, rfl, (Or.inr ⟨"SplitWatch", q_256⟩)⟩
theorem fl_X6_160 : sw_FL RX6 160 2 1 := ⟨RX2, TX2, 4, rfl, in_X2, by decide, rfl, (Or.inr ⟨"SplitWatch", q_237⟩)⟩
theorem fl_X6_167 : sw_FL RX6 167 4 1 := ⟨RX4, TX4, 11, rfl, in_X4, by decide, rfl, (Or.inr ⟨"SplitWatch", q_189⟩)⟩
theorem fl_X6_170 : sw_FL RX6 170 4 2 := ⟨RX4, TX4, 11, rfl, in_X4, by decide, rfl, (Or.inr ⟨"SplitWatch", q_191⟩)⟩
theorem fl_X6_173 : sw_FL RX6 173 0 8 := ⟨RX0, TX0, 14, rfl, in_X0, by decide, rfl, (Or.inr ⟨"SplitWatch", q_268⟩)⟩
theorem fl_X6_176 : sw_FL RX6 176 4 5 := ⟨RX4, TX4, 11, rfl, in_X4, by decide, rfl, (Or.inr ⟨"SplitWatch", q_198⟩)⟩
theorem fl_X6_179 : sw_FL RX6 179 4 7 := ⟨RX4, TX4, 11, rfl, in_X4, by decide, rfl, (Or.inr ⟨"SplitWatch", q_203⟩)⟩
theorem fl_X6_164 : sw_FL RX6 164 2 3 := ⟨RX2, TX2, 4, rfl, in_X2, by decide, rfl, (Or.inr ⟨"SplitWatch", q_242⟩)⟩
theorem fl_X6_188 : sw_FL RX6 188 4 0 := ⟨RX4, TX4, 11, rfl, in_X4, by decide, rfl, (Or.inr ⟨"SplitWatch", q_186⟩)⟩
theorem fl_X6_191 : sw_FL RX6 191 4 6 := ⟨RX4, TX4, 11, rfl, in_X4, by decide, rfl, (Or.inr ⟨"SplitWatch", q_201⟩)⟩
theorem fl_X6_197 : sw_FL RX6 197 4 9 := ⟨RX4, TX4, 11, rfl, in_X4, by decide, rfl, (Or.inr ⟨"SplitWatch", q_206⟩)⟩
theorem fl_X6_200 : sw_FL RX6 200 4 10 := ⟨RX4, TX4, 11, rfl, in_X4, by decide, rfl, (Or.inr ⟨"SplitWatch", q_208⟩)⟩
theorem fl_X6_214 : sw_FL RX6 214 0 5 := ⟨RX0, TX0, 14, rfl, in_X0, by decide, rfl, (Or.inr ⟨"SplitWatch", q_262⟩)⟩
theorem fl_X6_217 : sw_FL RX6 217 0 6 := ⟨RX0, TX0, 14, rfl, in_X0, by decide, rfl, (Or.inr ⟨"SplitWatch", q_264⟩)⟩
theorem fl_X6_220 : sw_FL RX6 220 0 7 := ⟨RX0, TX0, 14, rfl, in_X0, by decide, rfl, (Or.inr ⟨"SplitWatch", q_266⟩)⟩
theorem fl_X6_223 : sw_FL RX6 223 3 1 := ⟨RX3, TX3, 4, rfl, in_X3, by decide, rfl, (Or.inr ⟨"SplitWatch", q_136⟩)⟩
theorem fl_X6_226 : sw_FL RX6 226 0 10 := ⟨RX0, TX0, 14, rfl, in_X0, by decide, rfl, (Or.inr ⟨"SplitWatch", q_271⟩)⟩
theorem fl_X6_229 : sw_FL RX6 229 0 11 := ⟨RX0, TX0, 14, rfl, in_X0, by decide, rfl, (Or.inr ⟨"SplitWatch", q_273⟩)⟩
theorem fl_X6_232 : sw_FL RX6 232 0 12 := ⟨RX0, TX0, 14, rfl, in_X0, by decide, rfl, (Or.inr ⟨"SplitWatch", q_275⟩)⟩
theorem fl_X6_235 : sw_FL RX6 235 0 13 := ⟨RX0, TX0, 14, rfl, in_X0, by decide, rfl, (Or.inr ⟨"SplitWatch", q_277⟩)⟩
theorem fl_X7_81 : sw_FL RX7 81 7 0 := ⟨RX7, TX7, 35, rfl, in_X7, by decide, rfl, (Or.inl q_775)⟩
theorem fp_X7_81 : sw_FP RX7 81 7 0 := ⟨RX7, TX7, 35, tyX7, rfl, in_X7, by decide, rfl, (Or.inl q_775), tyX7_ok, nmX7, rfl, rfl⟩
theorem fl_X7_85 : sw_FL RX7 85 7 1 := ⟨RX7, TX7, 35, rfl, in_X7, by decide, rfl, (Or.inl q_776)⟩
theorem fp_X7_85 : sw_FP RX7 85 7 1 := ⟨RX7, TX7, 35, tyX7, rfl, in_X7, by decide, rfl, (Or.inl q_776), tyX7_ok, nmX7, rfl, rfl⟩
theorem fl_X7_88 : sw_FL RX7 88 7 2 := ⟨RX7, TX7, 35, rfl, in_X7, by decide, rfl, (Or.inl q_777)⟩
theorem fp_X7_88 : sw_FP RX7 88 7 2 := ⟨RX7, TX7, 35, tyX7, rfl, in_X7, by decide, rfl, (Or.inl q_777), tyX7_ok, nmX7, rfl, rfl⟩
theorem fl_X7_91 : sw_FL RX7 91 7 3 := ⟨RX7, TX7, 35, rfl, in_X7, by decide, rfl, (Or.inl q_778)⟩
theorem fp_X7_91 : sw_FP RX7 91 7 3 := ⟨RX7, TX7, 35, tyX7, rfl, in_X7, by decide, rfl, (Or.inl q_778), tyX7_ok, nmX7, rfl, rfl⟩
theorem fl_X7_94 : sw_FL RX7 94 7 4 := ⟨RX7, TX7, 35, rfl, in_X7, by decide, rfl, (Or.inl q_779)⟩
theorem fp_X7_94 : sw_FP RX7 94 7 4 := ⟨RX7, TX7, 35, tyX7, rfl, in_X7, by decide, rfl, (Or.inl q_779), tyX7_ok, nmX7, rfl, rfl⟩
theorem fl_X7_7 : sw_FL RX7 7 7 5 := ⟨RX7, TX7, 35, rfl, in_X7, by decide, rfl, (Or.inl q_780)⟩
theorem fl_X7_97 : sw_FL RX7 97 7 18 := ⟨RX7, TX7, 35, rfl, in_X7, by decide, rfl, (Or.inl q_793)⟩
theorem fp_X7_97 : sw_FP RX7 97 7 18 := ⟨RX7, TX7, 35, tyX7, rfl, in_X7, by decide, rfl, (Or.inl q_793), tyX7_ok, nmX7, rfl, rfl⟩
theorem fl_X7_100 : sw_FL RX7 100 7 20 := ⟨RX7, TX7, 35, rfl, in_X7, by decide, rfl, (Or.inl q_795)⟩
theorem fp_X7_100 : sw_FP RX7 100 7 20 := ⟨RX7, TX7, 35, tyX7, rfl, in_X7, by decide, rfl, (Or.inl q_795), tyX7_ok, nmX7, rfl, rfl⟩
theorem fl_X7_103 : sw_FL RX7 103 7 21 := ⟨RX7, TX7, 35, rfl, in_X7, by decide, rfl, (Or.inl q_796)⟩
theorem fp_X7_103 : sw_FP RX7 103 7 21 := ⟨RX7, TX7, 35, tyX7, rfl, in_X7, by decide, rfl, (Or.inl q_796), tyX7_ok, nmX7, rfl, rfl⟩
theorem fl_X7_106 : sw_FL RX7 106 7 23 := ⟨RX7, TX7, 35, rfl, in_X7, by decide, rfl, (Or.inl q_798)⟩
theorem fp_X7_106 : sw_FP RX7 106 7 23 := ⟨RX7, TX7, 35, tyX7, rfl, in_X7, by decide, rfl, (Or.inl q_798), tyX7_ok, nmX7, rfl, rfl⟩
theorem fl_X7_109 : sw_FL RX7 109 7 25 := ⟨RX7, TX7, 35, rfl, in_X7, by decide, rfl, (Or.inl q_800)⟩
theorem fp_X7_109 : sw_FP RX7 109 7 25 := ⟨RX7, TX7, 35, tyX7, rfl, in_X7, by decide, rfl, (Or.inl q_800), tyX7_ok, nmX7, rfl, rfl⟩
theorem fl_X7_112 : sw_FL RX7 112 7 26 := ⟨RX7, TX7, 35, rfl, in_X7, by decide, rfl, (Or.inl q_801)⟩
theorem fp_X7_112 : sw_FP RX7 112 7 26 := ⟨RX7, TX7, 35, tyX7, rfl, in_X7, by decide, rfl, (Or.inl q_801), tyX7_ok, nmX7, rfl, rfl⟩
theorem fl_X7_115 : sw_FL RX7 115 7 27 := ⟨RX7, TX7, 35, rfl, in_X7, by decide, rfl, (Or.inl q_802)⟩
theorem fp_X7_115 : sw_FP RX7 115 7 27 := ⟨RX7, TX7, 35, tyX7, rfl, in_X7, by decide, rfl, (Or.inl q_802), tyX7_ok, nmX7, rfl, rfl⟩
theorem fl_X7_118 : sw_FL RX7 118 7 28 := ⟨RX7, TX7, 35, rfl, in_X7, by decide, rfl, (Or.inl q_803)⟩
theorem fp_X7_118 : sw_FP RX7 118 7 28 := ⟨RX7, TX7, 35, tyX7, rfl, in_X7, by decide, rfl, (Or.inl q_803), tyX7_ok, nmX7, rfl, rfl⟩
theorem fl_X7_13 : sw_FL RX7 13 7 6 := ⟨RX7, TX7, 35, rfl, in_X7, by decide, rfl, (Or.inl q_781)⟩
theorem fl_X7_25 : sw_FL RX7 25 7 10 := ⟨RX7, TX7, 35, rfl, in_X7, by decide, rfl, (Or.inl q_785)⟩
theorem fl_X7_34 : sw_FL RX7 34 7 13 := ⟨RX7, TX7, 35, rfl, in_X7, by decide, rfl, (Or.inl q_788)⟩
theorem fl_X7_37 : sw_FL RX7 37 7 14 := ⟨RX7, TX7, 35, rfl, in_X7, by decide, rfl, (Or.inl q_789)⟩
theorem fl_X7_16 : sw_FL RX7 16 7 7 := ⟨RX7, TX7, 35, rfl, in_X7, by decide, rfl, (Or.inl q_782)⟩
theorem fl_X7_22 : sw_FL RX7 22 7 9 := ⟨RX7, TX7, 35, rfl, in_X7, by decide, rfl, (Or.inl q_784)⟩
theorem fl_X7_19 : sw_FL RX7 19 7 8 := ⟨RX7, TX7, 35, rfl, in_X7, by decide, rfl, (Or.inl q_783)⟩
theorem fl_X7_49 : sw_FL RX7 49 7 19 := ⟨RX7, TX7, 35, rfl, in_X7, by decide, rfl, (Or.inl q_794)⟩
theorem fl_X7_28 : sw_FL RX7 28 7 11 := ⟨RX7, TX7, 35, rfl, in_X7, by decide, rfl, (Or.inl q_786)⟩
theorem fl_X7_31 : sw_FL RX7 31 7 12 := ⟨RX7, TX7, 35, rfl, in_X7, by decide, rfl, (Or.inl q_787)⟩
theorem fl_X7_52 : sw_FL RX7 52 7 22 := ⟨RX7, TX7, 35, rfl, in_X7, by decide, rfl, (Or.inl q_797)⟩
theorem fl_X7_40 : sw_FL RX7 40 7 15 := ⟨RX7, TX7, 35, rfl, in_X7, by decide, rfl, (Or.inl q_790)⟩
theorem fl_X7_43 : sw_FL RX7 43 7 16 := ⟨RX7, TX7, 35, rfl, in_X7, by decide, rfl, (Or.inl q_791)⟩
theorem fl_X7_46 : sw_FL RX7 46 7 17 := ⟨RX7, TX7, 35, rfl, in_X7, by decide, rfl, (Or.inl q_792)⟩
theorem fl_X7_55 : sw_FL RX7 55 7 24 := ⟨RX7, TX7, 35, rfl, in_X7, by decide, rfl, (Or.inl q_799)⟩
theorem fl_X7_231 : sw_FL RX7 231 7 29 := ⟨RX7, TX7, 35, rfl, in_X7, by decide, rfl, (Or.inl q_804)⟩
theorem fp_X7_231 : sw_FP RX7 231 7 29 := ⟨RX7, TX7, 35, tyX7, rfl, in_X7, by decide, rfl, (Or.inl q_804), tyX7_ok, nmX7, rfl, rfl⟩
theorem fl_X7_58 : sw_FL RX7 58 7 30 := ⟨RX7, TX7, 35, rfl, in_X7, by decide, rfl, (Or.inl q_805)⟩
theorem fl_X7_234 : sw_FL RX7 234 7 31 := ⟨RX7, TX7, 35, rfl, in_X7, by decide, rfl, (Or.inl q_806)⟩
theorem fp_X7_234 : sw_FP RX7 234 7 31 := ⟨RX7, TX7, 35, tyX7, rfl, in_X7, by decide, rfl, (Or.inl q_806), tyX7_ok, nmX7, rfl, rfl⟩
theorem fl_X7_262 : sw_FL RX7 262 7 33 := ⟨RX7, TX7, 35, rfl, in_X7, by decide, rfl, (Or.inl q_808)⟩
theorem fp_X7_262 : sw_FP RX7 262 7 33 := ⟨RX7, TX7, 35, tyX7, rfl, in_X7, by decide, rfl, (Or.inl q_808), tyX7_ok, nmX7, rfl, rfl⟩
theorem fl_X7_61 : sw_FL RX7 61 7 32 := ⟨RX7, TX7, 35, rfl, in_X7, by decide, rfl, (Or.inl q_807)⟩
theorem fl_X7_64 : sw_FL RX7 64 7 34 := ⟨RX7, TX7, 35, rfl, in_X7, by decide, rfl, (Or.inl q_809)⟩
theorem ml_X2_31 : sw_MV RX2 31 yX1_clear cX1_clear 2 none 0 := ⟨⟨(Or.inr ⟨"SplitWatch", q_319⟩), q_100, q_322, ⟨by decide, by decide⟩, by decide +kernel, by decide⟩, q_321, q_3⟩
theorem ml_X0_75 : sw_MV RX0 75 yX3_clear cX3_clear 1 none 0 := ⟨⟨(Or.inr ⟨"SplitWatch", q_311⟩), q_98, q_314, ⟨by decide, by decide⟩, by decide +kernel, by decide⟩, q_313, q_1⟩
theorem ml_X0_78 : sw_MV RX0 78 yX2_clear cX2_clear 2 none 0 := ⟨⟨(Or.inr ⟨"SplitWatch", q_315⟩), q_99, q_318, ⟨by decide, by decide⟩, by decide +kernel, by decide⟩, q_317, q_2⟩
theorem ml_X0_79 : sw_MS RX0 79 yX6_isWithin cX6_isWithin 3 (some .boolean) 3 := ⟨⟨(Or.inr ⟨"SplitWatch", q_371⟩), q_96, q_362, ⟨by decide, by decide⟩, by decide +kernel, by decide⟩, q_361⟩
theorem ml_X0_173 : sw_MV RX0 173 yX1_held cX1_held 3 (some .int) 0 := ⟨⟨(Or.inr ⟨"SplitWatch", q_391⟩), q_100, q_394, ⟨by decide, by decide⟩, by decide +kernel, by decide⟩, q_393, q_9⟩
theorem ml_X0_177 : sw_MV RX0 177 yX1_oldest cX1_oldest 3 (some .int) 0 := ⟨⟨(Or.inr ⟨"SplitWatch", q_395⟩), q_100, q_398, ⟨by decide, by decide⟩, by decide +kernel, by decide⟩, q_397, q_10⟩
theorem ml_X0_135 : sw_MV RX0 135 yX2_freeBack cX2_freeBack 2 (some (.object "SplitWatch$Request")) 0 := ⟨⟨(Or.inr ⟨"SplitWatch", q_403⟩), q_99, q_406, ⟨by decide, by decide⟩, by decide +kernel, by decide⟩, q_405, q_12⟩
theorem ml_X0_114 : sw_MV RX0 114 yX0_ask cX0_ask 5 none 4 := ⟨⟨(Or.inl q_407), q_97, q_410, ⟨by decide, by decide⟩, by decide +kernel, by decide⟩, q_409, q_13⟩
theorem ml_X1_25 : sw_MV RX1 25 yX1_use cX1_use 2 none 1 := ⟨⟨(Or.inl q_415), q_100, q_418, ⟨by decide, by decide⟩, by decide +kernel, by decide⟩, q_417, q_15⟩
theorem ml_X0_139 : sw_MV RX0 139 yX0_giveUp cX0_giveUp 4 none 2 := ⟨⟨(Or.inl q_399), q_97, q_402, ⟨by decide, by decide⟩, by decide +kernel, by decide⟩, q_401, q_11⟩
theorem ml_X0_131 : sw_MV RX0 131 yX1_put cX1_put 4 none 3 := ⟨⟨(Or.inr ⟨"SplitWatch", q_411⟩), q_100, q_414, ⟨by decide, by decide⟩, by decide +kernel, by decide⟩, q_413, q_14⟩
theorem ml_X0_169 : sw_MV RX0 169 yX0_fill cX0_fill 6 none 4 := ⟨⟨(Or.inl q_387), q_97, q_390, ⟨by decide, by decide⟩, by decide +kernel, by decide⟩, q_389, q_8⟩
theorem ml_X0_183 : sw_MV RX0 183 yX0_canFill cX0_canFill 3 (some .boolean) 1 := ⟨⟨(Or.inl q_452), q_97, q_455, ⟨by decide, by decide⟩, by decide +kernel, by decide⟩, q_454, q_21⟩
theorem ml_X0_199 : sw_MV RX0 199 yX0_openOf cX0_openOf 4 (some (.object "SplitWatch$Request")) 1 := ⟨⟨(Or.inl q_468), q_97, q_471, ⟨by decide, by decide⟩, by decide +kernel, by decide⟩, q_470, q_25⟩
theorem ml_X0_237 : sw_MV RX0 237 yX0_keyOf cX0_keyOf 3 (some .int) 1 := ⟨⟨(Or.inl q_464), q_97, q_467, ⟨by decide, by decide⟩, by decide +kernel, by decide⟩, q_466, q_24⟩
theorem ml_X0_219 : sw_MV RX0 219 yX3_add cX3_add 5 none 3 := ⟨⟨(Or.inr ⟨"SplitWatch", q_481⟩), q_98, q_484, ⟨by decide, by decide⟩, by decide +kernel, by decide⟩, q_483, q_28⟩
theorem ml_X0_127 : sw_MV RX0 127 yX1_isSole cX1_isSole 2 (some .boolean) 1 := ⟨⟨(Or.inr ⟨"SplitWatch", q_428⟩), q_100, q_431, ⟨by decide, by decide⟩, by decide +kernel, by decide⟩, q_430, q_17⟩
theorem ml_X0_165 : sw_MV RX0 165 yX2_backOf cX2_backOf 3 (some (.object "SplitWatch$Request")) 1 := ⟨⟨(Or.inr ⟨"SplitWatch", q_383⟩), q_99, q_386, ⟨by decide, by decide⟩, by decide +kernel, by decide⟩, q_385, q_7⟩
theorem ml_X0_230 : sw_MV RX0 230 yX0_answerTime cX0_answerTime 4 (some .int) 2 := ⟨⟨(Or.inl q_492), q_97, q_495, ⟨by decide, by decide⟩, by decide +kernel, by decide⟩, q_494, q_30⟩
theorem ml_X0_233 : sw_MV RX0 233 yX0_bringToMemory cX0_bringToMemory 4 none 2 := ⟨⟨(Or.inl q_496), q_97, q_499, ⟨by decide, by decide⟩, by decide +kernel, by decide⟩, q_498, q_31⟩
theorem ml_X0_223 : sw_MV RX0 223 yX0_takeFromOthers cX0_takeFromOthers 5 none 2 := ⟨⟨(Or.inl q_504), q_97, q_507, ⟨by decide, by decide⟩, by decide +kernel, by decide⟩, q_506, q_33⟩
theorem ml_X0_196 : sw_MV RX0 196 yX0_nextWaiting cX0_nextWaiting 4 (some (.object "SplitWatch$Request")) 0 := ⟨⟨(Or.inl q_460), q_97, q_463, ⟨by decide, by decide⟩, by decide +kernel, by decide⟩, q_462, q_23⟩
theorem ml_X0_202 : sw_MV RX0 202 yX0_sendAway cX0_sendAway 2 none 1 := ⟨⟨(Or.inl q_473), q_97, q_476, ⟨by decide, by decide⟩, by decide +kernel, by decide⟩, q_475, q_26⟩
theorem ml_X0_209 : sw_MV RX0 209 yX0_orderRead cX0_orderRead 4 none 1 := ⟨⟨(Or.inl q_488), q_97, q_491, ⟨by decide, by decide⟩, by decide +kernel, by decide⟩, q_490, q_29⟩
theorem ml_X0_212 : sw_MV RX0 212 yX0_orderOwn cX0_orderOwn 4 none 2 := ⟨⟨(Or.inl q_500), q_97, q_503, ⟨by decide, by decide⟩, by decide +kernel, by decide⟩, q_502, q_32⟩
theorem ml_X0_216 : sw_MV RX0 216 yX0_orderRise cX0_orderRise 2 none 1 := ⟨⟨(Or.inl q_508), q_97, q_511, ⟨by decide, by decide⟩, by decide +kernel, by decide⟩, q_510, q_34⟩
theorem ml_X0_206 : sw_MV RX0 206 yX0_orderBack cX0_orderBack 2 none 1 := ⟨⟨(Or.inl q_477), q_97, q_480, ⟨by decide, by decide⟩, by decide +kernel, by decide⟩, q_479, q_27⟩
theorem ml_X0_142 : sw_MV RX0 142 yX0_answerTurn cX0_answerTurn 5 none 0 := ⟨⟨(Or.inl q_448), q_97, q_451, ⟨by decide, by decide⟩, by decide +kernel, by decide⟩, q_450, q_20⟩
theorem ml_X0_145 : sw_MV RX0 145 yX0_addressTurn cX0_addressTurn 3 none 0 := ⟨⟨(Or.inl q_456), q_97, q_459, ⟨by decide, by decide⟩, by decide +kernel, by decide⟩, q_458, q_22⟩
theorem ml_X0_101 : sw_MV RX0 101 yX0_takeBack cX0_takeBack 4 none 2 := ⟨⟨(Or.inl q_379), q_97, q_382, ⟨by decide, by decide⟩, by decide +kernel, by decide⟩, q_381, q_6⟩
theorem ml_X0_118 : sw_MV RX0 118 yX1_use cX1_use 2 none 1 := ⟨⟨(Or.inr ⟨"SplitWatch", q_419⟩), q_100, q_418, ⟨by decide, by decide⟩, by decide +kernel, by decide⟩, q_417, q_15⟩
theorem ml_X0_83 : sw_MV RX0 83 yX0_runTurns cX0_runTurns 4 (some .int) 1 := ⟨⟨(Or.inl q_632), q_97, q_447, ⟨by decide, by decide⟩, by decide +kernel, by decide⟩, q_446, q_19⟩
theorem ml_X0_87 : sw_MV RX0 87 yX0_startRead cX0_startRead 4 (some .int) 2 := ⟨⟨(Or.inl q_633), q_97, q_378, ⟨by decide, by decide⟩, by decide +kernel, by decide⟩, q_377, q_5⟩
theorem ml_X0_91 : sw_MV RX0 91 yX0_startStore cX0_startStore 5 (some .int) 3 := ⟨⟨(Or.inl q_634), q_97, q_427, ⟨by decide, by decide⟩, by decide +kernel, by decide⟩, q_426, q_16⟩
theorem ml_X0_95 : sw_MV RX0 95 yX0_dropLine cX0_dropLine 5 (some .int) 2 := ⟨⟨(Or.inl q_635), q_97, q_439, ⟨by decide, by decide⟩, by decide +kernel, by decide⟩, q_438, q_18⟩
theorem ml_X0_241 : sw_MV RX0 241 yX0_waitingAheadOf cX0_waitingAheadOf 4 (some .int) 1 := ⟨⟨(Or.inl q_729), q_97, q_732, ⟨by decide, by decide⟩, by decide +kernel, by decide⟩, q_731, q_55⟩
theorem ml_X0_244 : sw_MV RX0 244 yX0_openAheadOf cX0_openAheadOf 4 (some .int) 1 := ⟨⟨(Or.inl q_741), q_97, q_744, ⟨by decide, by decide⟩, by decide +kernel, by decide⟩, q_743, q_57⟩
theorem ml_X2_47 : sw_MV RX2 47 yX2_earlierBacks cX2_earlierBacks 4 (some .int) 1 := ⟨⟨(Or.inl q_697), q_99, q_700, ⟨by decide, by decide⟩, by decide +kernel, by decide⟩, q_699, q_51⟩
theorem ml_X3_31 : sw_MS RX3 31 yX3_fits cX3_fits 2 (some .boolean) 2 := ⟨⟨(Or.inl q_659), q_98, q_661, ⟨by decide, by decide⟩, by decide +kernel, by decide⟩, q_660⟩
theorem ml_X5_78 : sw_MV RX5 78 yJ0_length_8abf5 cJ0_length_8abf5 1 (some .int) 0 := ⟨⟨(Or.inl q_555), q_105, q_558, ⟨by decide, by decide⟩, by decide +kernel, by decide⟩, q_556, q_557⟩
theorem ml_X5_30 : sw_MV RX5 30 yX5_letterAt cX5_letterAt 2 (some .char) 1 := ⟨⟨(Or.inl q_539), q_102, q_542, ⟨by decide, by decide⟩, by decide +kernel, by decide⟩, q_541, q_38⟩
theorem ml_X5_83 : sw_MV RX5 83 yJ0_charAt_5068e cJ0_charAt_5068e 2 (some .char) 1 := ⟨⟨(Or.inl q_565), q_105, q_568, ⟨by decide, by decide⟩, by decide +kernel, by decide⟩, q_566, q_567⟩
theorem ml_X5_68 : sw_MV RX5 68 yX5_spells cX5_spells 5 (some .boolean) 3 := ⟨⟨(Or.inl q_551), q_102, q_554, ⟨by decide, by decide⟩, by decide +kernel, by decide⟩, q_553, q_40⟩
theorem ml_X5_56 : sw_MS RX5 56 yX5_isFigure cX5_isFigure 1 (some .boolean) 1 := ⟨⟨(Or.inl q_613), q_102, q_615, ⟨by decide, by decide⟩, by decide +kernel, by decide⟩, q_614⟩
theorem ml_X6_27 : sw_MS RX6 27 yX6_isWithin cX6_isWithin 3 (some .boolean) 3 := ⟨⟨(Or.inl q_360), q_96, q_362, ⟨by decide, by decide⟩, by decide +kernel, by decide⟩, q_361⟩
theorem ml_X5_59 : sw_MS RX5 59 yX6_isWithin cX6_isWithin 3 (some .boolean) 3 := ⟨⟨(Or.inr ⟨"SplitWatch", q_620⟩), q_96, q_362, ⟨by decide, by decide⟩, by decide +kernel, by decide⟩, q_361⟩
theorem ml_X5_63 : sw_MS RX5 63 yX6_isLine cX6_isLine 1 (some .boolean) 1 := ⟨⟨(Or.inr ⟨"SplitWatch", q_621⟩), q_96, q_374, ⟨by decide, by decide⟩, by decide +kernel, by decide⟩, q_373⟩
theorem ml_X5_34 : sw_MS RX5 34 yX5_isSmall cX5_isSmall 1 (some .boolean) 1 := ⟨⟨(Or.inl q_543), q_102, q_545, ⟨by decide, by decide⟩, by decide +kernel, by decide⟩, q_544⟩
theorem ml_X5_38 : sw_MV RX5 38 yX5_verbOf cX5_verbOf 3 (some .int) 2 := ⟨⟨(Or.inl q_546), q_102, q_549, ⟨by decide, by decide⟩, by decide +kernel, by decide⟩, q_548, q_39⟩
theorem ml_X5_45 : sw_MS RX5 45 yX5_numbersOf cX5_numbersOf 1 (some .int) 1 := ⟨⟨(Or.inl q_606), q_102, q_608, ⟨by decide, by decide⟩, by decide +kernel, by decide⟩, q_607⟩
theorem ml_X5_52 : sw_MV RX5 52 yX5_areTold cX5_areTold 3 (some .boolean) 1 := ⟨⟨(Or.inl q_616), q_102, q_619, ⟨by decide, by decide⟩, by decide +kernel, by decide⟩, q_618, q_42⟩
theorem ml_X5_49 : sw_MV RX5 49 yX5_takeNumber cX5_takeNumber 6 (some .int) 2 := ⟨⟨(Or.inl q_609), q_102, q_612, ⟨by decide, by decide⟩, by decide +kernel, by decide⟩, q_611, q_41⟩
theorem ml_X5_23 : sw_MV RX5 23 yX5_understand cX5_understand 6 (some .boolean) 2 := ⟨⟨(Or.inl q_535), q_102, q_538, ⟨by decide, by decide⟩, by decide +kernel, by decide⟩, q_537, q_37⟩
theorem ml_X6_16 : sw_MV RX6 16 yX0_reset cX0_reset 6 none 4 := ⟨⟨(Or.inr ⟨"SplitWatch", q_307⟩), q_97, q_310, ⟨by decide, by decide⟩, by decide +kernel, by decide⟩, q_309, q_0⟩
theorem ml_X6_31 : sw_MV RX6 31 yX0_hasCore cX0_hasCore 2 (some .boolean) 1 := ⟨⟨(Or.inr ⟨"SplitWatch", q_367⟩), q_97, q_370, ⟨by decide, by decide⟩, by decide +kernel, by decide⟩, q_369, q_4⟩
theorem ml_X6_35 : sw_MS RX6 35 yX6_isLine cX6_isLine 1 (some .boolean) 1 := ⟨⟨(Or.inl q_372), q_96, q_374, ⟨by decide, by decide⟩, by decide +kernel, by decide⟩, q_373⟩
theorem ml_X6_38 : sw_MV RX6 38 yX0_startRead cX0_startRead 4 (some .int) 2 := ⟨⟨(Or.inr ⟨"SplitWatch", q_375⟩), q_97, q_378, ⟨by decide, by decide⟩, by decide +kernel, by decide⟩, q_377, q_5⟩
theorem ml_X6_42 : sw_MV RX6 42 yX0_startStore cX0_startStore 5 (some .int) 3 := ⟨⟨(Or.inr ⟨"SplitWatch", q_424⟩), q_97, q_427, ⟨by decide, by decide⟩, by decide +kernel, by decide⟩, q_426, q_16⟩
theorem ml_X6_46 : sw_MV RX6 46 yX0_dropLine cX0_dropLine 5 (some .int) 2 := ⟨⟨(Or.inr ⟨"SplitWatch", q_436⟩), q_97, q_439, ⟨by decide, by decide⟩, by decide +kernel, by decide⟩, q_438, q_18⟩
theorem ml_X6_49 : sw_MV RX6 49 yX0_runTurns cX0_runTurns 4 (some .int) 1 := ⟨⟨(Or.inr ⟨"SplitWatch", q_444⟩), q_97, q_447, ⟨by decide, by decide⟩, by decide +kernel, by decide⟩, q_446, q_19⟩
theorem ml_X6_53 : sw_MS RX6 53 yX6_isLetter cX6_isLetter 1 (some .boolean) 1 := ⟨⟨(Or.inl q_516), q_96, q_518, ⟨by decide, by decide⟩, by decide +kernel, by decide⟩, q_517⟩
theorem ml_X6_56 : sw_MV RX6 56 yX5_append cX5_append 2 (some .int) 1 := ⟨⟨(Or.inr ⟨"SplitWatch", q_519⟩), q_102, q_522, ⟨by decide, by decide⟩, by decide +kernel, by decide⟩, q_521, q_35⟩
theorem ml_X6_67 : sw_MV RX6 67 yX5_findFault cX5_findFault 4 (some .int) 1 := ⟨⟨(Or.inr ⟨"SplitWatch", q_531⟩), q_102, q_534, ⟨by decide, by decide⟩, by decide +kernel, by decide⟩, q_533, q_36⟩
theorem ml_X6_70 : sw_MV RX6 70 yX5_understand cX5_understand 6 (some .boolean) 2 := ⟨⟨(Or.inr ⟨"SplitWatch", q_627⟩), q_102, q_538, ⟨by decide, by decide⟩, by decide +kernel, by decide⟩, q_537, q_37⟩
theorem ml_X6_81 : sw_MV RX6 81 yX0_perform cX0_perform 5 (some .int) 4 := ⟨⟨(Or.inr ⟨"SplitWatch", q_628⟩), q_97, q_631, ⟨by decide, by decide⟩, by decide +kernel, by decide⟩, q_630, q_43⟩
theorem ml_X6_85 : sw_MS RX6 85 yX6_isRefusal cX6_isRefusal 1 (some .boolean) 1 := ⟨⟨(Or.inl q_636), q_96, q_638, ⟨by decide, by decide⟩, by decide +kernel, by decide⟩, q_637⟩
theorem ml_X6_95 : sw_MV RX6 95 yX3_lineLength cX3_lineLength 1 (some .int) 0 := ⟨⟨(Or.inr ⟨"SplitWatch", q_643⟩), q_98, q_646, ⟨by decide, by decide⟩, by decide +kernel, by decide⟩, q_645, q_44⟩
theorem ml_X6_101 : sw_MV RX6 101 yX3_letterAt cX3_letterAt 4 (some .int) 1 := ⟨⟨(Or.inr ⟨"SplitWatch", q_647⟩), q_98, q_650, ⟨by decide, by decide⟩, by decide +kernel, by decide⟩, q_649, q_45⟩
theorem ml_X6_104 : sw_MV RX6 104 yX3_matches cX3_matches 7 (some .int) 3 := ⟨⟨(Or.inr ⟨"SplitWatch", q_655⟩), q_98, q_658, ⟨by decide, by decide⟩, by decide +kernel, by decide⟩, q_657, q_46⟩
theorem ml_X6_107 : sw_MV RX6 107 yX0_nameOf cX0_nameOf 3 (some (.object "java/lang/String")) 2 := ⟨⟨(Or.inr ⟨"SplitWatch", q_666⟩), q_97, q_669, ⟨by decide, by decide⟩, by decide +kernel, by decide⟩, q_668, q_47⟩
theorem ml_X6_111 : sw_MV RX6 111 yJ0_length_8abf5 cJ0_length_8abf5 1 (some .int) 0 := ⟨⟨(Or.inl q_675), q_105, q_558, ⟨by decide, by decide⟩, by decide +kernel, by decide⟩, q_556, q_557⟩
theorem ml_X6_115 : sw_MV RX6 115 yJ0_charAt_5068e cJ0_charAt_5068e 2 (some .char) 1 := ⟨⟨(Or.inl q_676), q_105, q_568, ⟨by decide, by decide⟩, by decide +kernel, by decide⟩, q_566, q_567⟩
theorem ml_X6_137 : sw_MV RX6 137 yX1_usedLater cX1_usedLater 4 (some .int) 1 := ⟨⟨(Or.inr ⟨"SplitWatch", q_681⟩), q_100, q_684, ⟨by decide, by decide⟩, by decide +kernel, by decide⟩, q_683, q_48⟩
theorem ml_X6_143 : sw_MV RX6 143 yX2_backAt cX2_backAt 3 (some (.object "SplitWatch$Request")) 1 := ⟨⟨(Or.inr ⟨"SplitWatch", q_693⟩), q_99, q_696, ⟨by decide, by decide⟩, by decide +kernel, by decide⟩, q_695, q_50⟩
theorem ml_X6_140 : sw_MV RX6 140 yX2_bufferSize cX2_bufferSize 3 (some .int) 0 := ⟨⟨(Or.inr ⟨"SplitWatch", q_689⟩), q_99, q_692, ⟨by decide, by decide⟩, by decide +kernel, by decide⟩, q_691, q_49⟩
theorem ml_X6_157 : sw_MV RX6 157 yX0_trueValue cX0_trueValue 5 (some .int) 1 := ⟨⟨(Or.inr ⟨"SplitWatch", q_709⟩), q_97, q_712, ⟨by decide, by decide⟩, by decide +kernel, by decide⟩, q_711, q_52⟩
theorem ml_X6_185 : sw_MV RX6 185 yX0_waitingAt cX0_waitingAt 3 (some (.object "SplitWatch$Request")) 1 := ⟨⟨(Or.inr ⟨"SplitWatch", q_725⟩), q_97, q_728, ⟨by decide, by decide⟩, by decide +kernel, by decide⟩, q_727, q_54⟩
theorem ml_X6_182 : sw_MV RX6 182 yX0_countAt cX0_countAt 4 (some .int) 1 := ⟨⟨(Or.inr ⟨"SplitWatch", q_721⟩), q_97, q_724, ⟨by decide, by decide⟩, by decide +kernel, by decide⟩, q_723, q_53⟩
theorem ml_X6_194 : sw_MV RX6 194 yX0_openAt cX0_openAt 3 (some (.object "SplitWatch$Request")) 1 := ⟨⟨(Or.inr ⟨"SplitWatch", q_737⟩), q_97, q_740, ⟨by decide, by decide⟩, by decide +kernel, by decide⟩, q_739, q_56⟩
theorem ml_X7_75 : sw_MS RX7 75 yX7_in cX7_in 6 (some .boolean) 3 := ⟨⟨(Or.inl q_771), q_103, q_773, ⟨by decide, by decide⟩, by decide +kernel, by decide⟩, q_772⟩
theorem ml_X7_123 : sw_MV RX7 123 yX7_at cX7_at 4 (some .int) 2 := ⟨⟨(Or.inl q_898), q_103, q_901, ⟨by decide, by decide⟩, by decide +kernel, by decide⟩, q_900, q_60⟩
theorem ml_X7_127 : sw_MV RX7 127 yX7_takeOut cX7_takeOut 5 none 2 := ⟨⟨(Or.inl q_930), q_103, q_933, ⟨by decide, by decide⟩, by decide +kernel, by decide⟩, q_932, q_68⟩
theorem ml_X7_131 : sw_MV RX7 131 yX7_putIn cX7_putIn 6 none 4 := ⟨⟨(Or.inl q_934), q_103, q_937, ⟨by decide, by decide⟩, by decide +kernel, by decide⟩, q_936, q_69⟩
theorem ml_X7_138 : sw_MV RX7 138 yX7_asks cX7_asks 5 none 3 := ⟨⟨(Or.inl q_926), q_103, q_929, ⟨by decide, by decide⟩, by decide +kernel, by decide⟩, q_928, q_67⟩
theorem ml_X7_135 : sw_MV RX7 135 yX7_giveUp cX7_giveUp 4 none 2 := ⟨⟨(Or.inl q_922), q_103, q_925, ⟨by decide, by decide⟩, by decide +kernel, by decide⟩, q_924, q_66⟩
theorem ml_X7_142 : sw_MV RX7 142 yX7_backAt cX7_backAt 4 (some .int) 2 := ⟨⟨(Or.inl q_902), q_103, q_905, ⟨by decide, by decide⟩, by decide +kernel, by decide⟩, q_904, q_61⟩
theorem ml_X7_145 : sw_MV RX7 145 yX7_noMore cX7_noMore 3 none 1 := ⟨⟨(Or.inl q_914), q_103, q_917, ⟨by decide, by decide⟩, by decide +kernel, by decide⟩, q_916, q_64⟩
theorem ml_X7_149 : sw_MV RX7 149 yX7_isOpen cX7_isOpen 4 (some .boolean) 1 := ⟨⟨(Or.inl q_996), q_103, q_999, ⟨by decide, by decide⟩, by decide +kernel, by decide⟩, q_998, q_81⟩
theorem ml_X7_153 : sw_MV RX7 153 yX7_isUrgent cX7_isUrgent 2 (some .boolean) 1 := ⟨⟨(Or.inl q_992), q_103, q_995, ⟨by decide, by decide⟩, by decide +kernel, by decide⟩, q_994, q_80⟩
theorem ml_X7_156 : sw_MV RX7 156 yX7_isAhead cX7_isAhead 3 (some .boolean) 2 := ⟨⟨(Or.inl q_988), q_103, q_991, ⟨by decide, by decide⟩, by decide +kernel, by decide⟩, q_990, q_79⟩
theorem ml_X7_175 : sw_MV RX7 175 yX7_outOfBuffer cX7_outOfBuffer 5 (some .int) 2 := ⟨⟨(Or.inl q_906), q_103, q_909, ⟨by decide, by decide⟩, by decide +kernel, by decide⟩, q_908, q_62⟩
theorem ml_X7_178 : sw_MV RX7 178 yX7_noBack cX7_noBack 4 none 2 := ⟨⟨(Or.inl q_910), q_103, q_913, ⟨by decide, by decide⟩, by decide +kernel, by decide⟩, q_912, q_63⟩
theorem ml_X7_181 : sw_MV RX7 181 yX7_fill cX7_fill 5 none 4 := ⟨⟨(Or.inl q_918), q_103, q_921, ⟨by decide, by decide⟩, by decide +kernel, by decide⟩, q_920, q_65⟩
theorem ml_X7_160 : sw_MV RX7 160 yX7_isCore cX7_isCore 2 (some .boolean) 1 := ⟨⟨(Or.inl q_886), q_103, q_889, ⟨by decide, by decide⟩, by decide +kernel, by decide⟩, q_888, q_58⟩
theorem ml_X7_163 : sw_MS RX7 163 yX7_isLine cX7_isLine 1 (some .boolean) 1 := ⟨⟨(Or.inl q_890), q_103, q_892, ⟨by decide, by decide⟩, by decide +kernel, by decide⟩, q_891⟩
theorem ml_X7_166 : sw_MV RX7 166 yX7_isHere cX7_isHere 4 (some .boolean) 2 := ⟨⟨(Or.inl q_894), q_103, q_897, ⟨by decide, by decide⟩, by decide +kernel, by decide⟩, q_896, q_59⟩
theorem ml_X7_172 : sw_MV RX7 172 yX7_use cX7_use 5 none 4 := ⟨⟨(Or.inl q_942), q_103, q_945, ⟨by decide, by decide⟩, by decide +kernel, by decide⟩, q_944, q_71⟩
theorem ml_X7_169 : sw_MV RX7 169 yX7_begins cX7_begins 5 none 4 := ⟨⟨(Or.inl q_938), q_103, q_941, ⟨by decide, by decide⟩, by decide +kernel, by decide⟩, q_940, q_70⟩
theorem ml_X7_186 : sw_MV RX7 186 yX7_howOf cX7_howOf 4 (some .int) 2 := ⟨⟨(Or.inl q_951), q_103, q_954, ⟨by decide, by decide⟩, by decide +kernel, by decide⟩, q_953, q_72⟩
theorem ml_X7_189 : sw_MV RX7 189 yX7_canFill cX7_canFill 2 (some .boolean) 1 := ⟨⟨(Or.inl q_972), q_103, q_975, ⟨by decide, by decide⟩, by decide +kernel, by decide⟩, q_974, q_75⟩
theorem ml_X7_192 : sw_MV RX7 192 yX7_ends cX7_ends 2 none 1 := ⟨⟨(Or.inl q_976), q_103, q_979, ⟨by decide, by decide⟩, by decide +kernel, by decide⟩, q_978, q_76⟩
theorem ml_X7_195 : sw_MV RX7 195 yX7_otherThat cX7_otherThat 5 (some .int) 3 := ⟨⟨(Or.inl q_1012), q_103, q_1015, ⟨by decide, by decide⟩, by decide +kernel, by decide⟩, q_1014, q_85⟩
theorem ml_X7_199 : sw_MV RX7 199 yX7_bufferThat cX7_bufferThat 3 (some .int) 1 := ⟨⟨(Or.inl q_1016), q_103, q_1019, ⟨by decide, by decide⟩, by decide +kernel, by decide⟩, q_1018, q_86⟩
theorem ml_X7_203 : sw_MV RX7 203 yX7_noOther cX7_noOther 4 none 2 := ⟨⟨(Or.inl q_1004), q_103, q_1007, ⟨by decide, by decide⟩, by decide +kernel, by decide⟩, q_1006, q_83⟩
theorem ml_X7_206 : sw_MV RX7 206 yX7_waitingAt cX7_waitingAt 5 (some .int) 1 := ⟨⟨(Or.inl q_984), q_103, q_987, ⟨by decide, by decide⟩, by decide +kernel, by decide⟩, q_986, q_78⟩
theorem ml_X7_209 : sw_MV RX7 209 yX7_orders cX7_orders 5 none 3 := ⟨⟨(Or.inl q_1000), q_103, q_1003, ⟨by decide, by decide⟩, by decide +kernel, by decide⟩, q_1002, q_82⟩
theorem ml_X7_212 : sw_MV RX7 212 yX7_opens cX7_opens 10 none 4 := ⟨⟨(Or.inl q_1008), q_103, q_1011, ⟨by decide, by decide⟩, by decide +kernel, by decide⟩, q_1010, q_84⟩
theorem ml_X7_214 : sw_MV RX7 214 yX7_answer cX7_answer 7 (some .boolean) 0 := ⟨⟨(Or.inl q_968), q_103, q_971, ⟨by decide, by decide⟩, by decide +kernel, by decide⟩, q_970, q_74⟩
theorem ml_X7_218 : sw_MV RX7 218 yX7_address cX7_address 6 (some .int) 0 := ⟨⟨(Or.inl q_980), q_103, q_983, ⟨by decide, by decide⟩, by decide +kernel, by decide⟩, q_982, q_77⟩
theorem ml_X7_224 : sw_MV RX7 224 yX7_oneTurn cX7_oneTurn 2 (some .int) 0 := ⟨⟨(Or.inl q_964), q_103, q_967, ⟨by decide, by decide⟩, by decide +kernel, by decide⟩, q_966, q_73⟩
theorem ml_X7_237 : sw_MV RX7 237 yX7_letterAt cX7_letterAt 2 (some .int) 1 := ⟨⟨(Or.inl q_1042), q_103, q_1045, ⟨by decide, by decide⟩, by decide +kernel, by decide⟩, q_1044, q_89⟩
theorem ml_X7_252 : sw_MV RX7 252 yX7_word cX7_word 4 (some .long) 0 := ⟨⟨(Or.inl q_1038), q_103, q_1041, ⟨by decide, by decide⟩, by decide +kernel, by decide⟩, q_1040, q_88⟩
theorem ml_X7_256 : sw_MS RX7 256 yX7_wordOf cX7_wordOf 4 (some .long) 4 := ⟨⟨(Or.inl q_1050), q_103, q_1052, ⟨by decide, by decide⟩, by decide +kernel, by decide⟩, q_1051⟩
theorem ml_X7_265 : sw_MV RX7 265 yX7_number cX7_number 5 (some .int) 2 := ⟨⟨(Or.inl q_1054), q_103, q_1057, ⟨by decide, by decide⟩, by decide +kernel, by decide⟩, q_1056, q_90⟩
theorem ml_X7_268 : sw_MV RX7 268 yX7_reads cX7_reads 4 (some .boolean) 0 := ⟨⟨(Or.inl q_1034), q_103, q_1037, ⟨by decide, by decide⟩, by decide +kernel, by decide⟩, q_1036, q_87⟩
theorem ml_X7_271 : sw_MV RX7 271 yX7_read cX7_read 4 (some .int) 2 := ⟨⟨(Or.inl q_1069), q_103, q_885, ⟨by decide, by decide⟩, by decide +kernel, by decide⟩, q_883, q_884⟩
theorem ml_X7_274 : sw_MV RX7 274 yX7_store cX7_store 5 (some .int) 3 := ⟨⟨(Or.inl q_1070), q_103, q_949, ⟨by decide, by decide⟩, by decide +kernel, by decide⟩, q_947, q_948⟩
theorem ml_X7_277 : sw_MV RX7 277 yX7_drop cX7_drop 4 (some .int) 2 := ⟨⟨(Or.inl q_1071), q_103, q_958, ⟨by decide, by decide⟩, by decide +kernel, by decide⟩, q_956, q_957⟩
theorem ml_X7_280 : sw_MV RX7 280 yX7_turn cX7_turn 4 (some .int) 1 := ⟨⟨(Or.inl q_1072), q_103, q_962, ⟨by decide, by decide⟩, by decide +kernel, by decide⟩, q_960, q_961⟩
theorem ml_X7_283 : sw_MV RX7 283 yX7_fault cX7_fault 2 (some .int) 0 := ⟨⟨(Or.inl q_1064), q_103, q_1033, ⟨by decide, by decide⟩, by decide +kernel, by decide⟩, q_1031, q_1032⟩
theorem ml_X7_286 : sw_MV RX7 286 yX7_does cX7_does 1 (some .int) 0 := ⟨⟨(Or.inl q_1065), q_103, q_1068, ⟨by decide, by decide⟩, by decide +kernel, by decide⟩, q_1067, q_91⟩
theorem ml_X7_289 : sw_MV RX7 289 yX7_lastMany cX7_lastMany 1 (some .int) 0 := ⟨⟨(Or.inl q_1077), q_103, q_1080, ⟨by decide, by decide⟩, by decide +kernel, by decide⟩, q_1079, q_92⟩
theorem ml_X7_292 : sw_MS RX7 292 yX7_fits cX7_fits 2 (some .boolean) 2 := ⟨⟨(Or.inl q_1085), q_103, q_1087, ⟨by decide, by decide⟩, by decide +kernel, by decide⟩, q_1086⟩
theorem ml_X7_295 : sw_MV RX7 295 yX7_askOf cX7_askOf 3 (some .int) 1 := ⟨⟨(Or.inl q_1112), q_103, q_1115, ⟨by decide, by decide⟩, by decide +kernel, by decide⟩, q_1114, q_93⟩
theorem ml_X7_298 : sw_MV RX7 298 yX7_openOf cX7_openOf 3 (some .int) 1 := ⟨⟨(Or.inl q_1116), q_103, q_1119, ⟨by decide, by decide⟩, by decide +kernel, by decide⟩, q_1118, q_94⟩
